-- ===== PART A: goes FIRST, ahead of the names: the tables' words, and 'selects' of the private methods out of them =====
/-- a private method of a class that the tables say can be made, by its rows of tables_1 -/
def lw_okq (q : MethodName × Nat) : Prop := (q.1.cls ≠ "java/lang/invoke/MethodHandle" ∧ q.1.cls ≠ "java/lang/invoke/VarHandle") ∧ Cond.instantiable q.1.cls q.2 ∈ tables_1 ∧ Cond.privateMethod q.1 ∈ tables_1 ∧ Cond.instanceMethod q.1 ∈ tables_1
theorem lw_p0 : lw_okq (⟨"ChainIndex$Tape", "takeWord", "()V"⟩, 9) := ⟨⟨by decide +kernel, by decide +kernel⟩, List.mem_of_getElem? (i := 34) (by decide +kernel), List.mem_of_getElem? (i := 515) (by decide +kernel), List.mem_of_getElem? (i := 516) (by decide +kernel)⟩
theorem lw_p1 : lw_okq (⟨"ChainIndex$Tape", "takeNumber", "()V"⟩, 9) := ⟨⟨by decide +kernel, by decide +kernel⟩, List.mem_of_getElem? (i := 34) (by decide +kernel), List.mem_of_getElem? (i := 522) (by decide +kernel), List.mem_of_getElem? (i := 523) (by decide +kernel)⟩
theorem lw_p2 : lw_okq (⟨"ChainIndex$Tape", "takeSign", "()V"⟩, 9) := ⟨⟨by decide +kernel, by decide +kernel⟩, List.mem_of_getElem? (i := 34) (by decide +kernel), List.mem_of_getElem? (i := 526) (by decide +kernel), List.mem_of_getElem? (i := 527) (by decide +kernel)⟩
theorem lw_p3 : lw_okq (⟨"ChainIndex$Reader", "readStatement", "(LChainIndex$Tape;)Z"⟩, 10) := ⟨⟨by decide +kernel, by decide +kernel⟩, List.mem_of_getElem? (i := 131) (by decide +kernel), List.mem_of_getElem? (i := 588) (by decide +kernel), List.mem_of_getElem? (i := 589) (by decide +kernel)⟩
theorem lw_p4 : lw_okq (⟨"ChainIndex$Reader", "readRow", "(LChainIndex$Tape;)Z"⟩, 10) := ⟨⟨by decide +kernel, by decide +kernel⟩, List.mem_of_getElem? (i := 131) (by decide +kernel), List.mem_of_getElem? (i := 592) (by decide +kernel), List.mem_of_getElem? (i := 593) (by decide +kernel)⟩
theorem lw_p5 : lw_okq (⟨"ChainIndex$Reader", "wrong", "(LChainIndex$Tape;I)Z"⟩, 10) := ⟨⟨by decide +kernel, by decide +kernel⟩, List.mem_of_getElem? (i := 131) (by decide +kernel), List.mem_of_getElem? (i := 596) (by decide +kernel), List.mem_of_getElem? (i := 597) (by decide +kernel)⟩
theorem lw_p6 : lw_okq (⟨"ChainIndex$Reader", "readNewName", "(LChainIndex$Tape;)Z"⟩, 10) := ⟨⟨by decide +kernel, by decide +kernel⟩, List.mem_of_getElem? (i := 131) (by decide +kernel), List.mem_of_getElem? (i := 600) (by decide +kernel), List.mem_of_getElem? (i := 601) (by decide +kernel)⟩
theorem lw_p7 : lw_okq (⟨"ChainIndex$Reader", "readBraid", "(LChainIndex$Tape;)Z"⟩, 10) := ⟨⟨by decide +kernel, by decide +kernel⟩, List.mem_of_getElem? (i := 131) (by decide +kernel), List.mem_of_getElem? (i := 620) (by decide +kernel), List.mem_of_getElem? (i := 621) (by decide +kernel)⟩
theorem lw_p8 : lw_okq (⟨"ChainIndex$Reader", "readLaw", "(LChainIndex$Tape;)Z"⟩, 10) := ⟨⟨by decide +kernel, by decide +kernel⟩, List.mem_of_getElem? (i := 131) (by decide +kernel), List.mem_of_getElem? (i := 636) (by decide +kernel), List.mem_of_getElem? (i := 637) (by decide +kernel)⟩
theorem lw_p9 : lw_okq (⟨"ChainIndex$Reader", "takePart", "(LChainIndex$Tape;)Z"⟩, 10) := ⟨⟨by decide +kernel, by decide +kernel⟩, List.mem_of_getElem? (i := 131) (by decide +kernel), List.mem_of_getElem? (i := 640) (by decide +kernel), List.mem_of_getElem? (i := 641) (by decide +kernel)⟩
theorem lw_p10 : lw_okq (⟨"ChainIndex$Reader", "hold", "(I)V"⟩, 10) := ⟨⟨by decide +kernel, by decide +kernel⟩, List.mem_of_getElem? (i := 131) (by decide +kernel), List.mem_of_getElem? (i := 644) (by decide +kernel), List.mem_of_getElem? (i := 645) (by decide +kernel)⟩
theorem lw_p11 : lw_okq (⟨"ChainIndex$Reader", "releaseNots", "()V"⟩, 10) := ⟨⟨by decide +kernel, by decide +kernel⟩, List.mem_of_getElem? (i := 131) (by decide +kernel), List.mem_of_getElem? (i := 649) (by decide +kernel), List.mem_of_getElem? (i := 650) (by decide +kernel)⟩
theorem lw_p12 : lw_okq (⟨"ChainIndex$Reader", "release", "(I)V"⟩, 10) := ⟨⟨by decide +kernel, by decide +kernel⟩, List.mem_of_getElem? (i := 131) (by decide +kernel), List.mem_of_getElem? (i := 653) (by decide +kernel), List.mem_of_getElem? (i := 654) (by decide +kernel)⟩
theorem lw_p13 : lw_okq (⟨"ChainIndex$Reader", "closeBracket", "(LChainIndex$Tape;)Z"⟩, 10) := ⟨⟨by decide +kernel, by decide +kernel⟩, List.mem_of_getElem? (i := 131) (by decide +kernel), List.mem_of_getElem? (i := 660) (by decide +kernel), List.mem_of_getElem? (i := 661) (by decide +kernel)⟩
theorem lw_p14 : lw_okq (⟨"ChainIndex$Reader", "takeOperator", "(LChainIndex$Tape;)Z"⟩, 10) := ⟨⟨by decide +kernel, by decide +kernel⟩, List.mem_of_getElem? (i := 131) (by decide +kernel), List.mem_of_getElem? (i := 664) (by decide +kernel), List.mem_of_getElem? (i := 665) (by decide +kernel)⟩
theorem lw_p15 : lw_okq (⟨"ChainIndex$Reader", "readLine", "(LChainIndex$Tape;LChainIndex$Store;)Z"⟩, 10) := ⟨⟨by decide +kernel, by decide +kernel⟩, List.mem_of_getElem? (i := 131) (by decide +kernel), List.mem_of_getElem? (i := 701) (by decide +kernel), List.mem_of_getElem? (i := 702) (by decide +kernel)⟩
def lw_privs_1 : List (MethodName × Nat) := [(⟨"ChainIndex$Tape", "takeWord", "()V"⟩, 9), (⟨"ChainIndex$Tape", "takeNumber", "()V"⟩, 9), (⟨"ChainIndex$Tape", "takeSign", "()V"⟩, 9), (⟨"ChainIndex$Reader", "readStatement", "(LChainIndex$Tape;)Z"⟩, 10), (⟨"ChainIndex$Reader", "readRow", "(LChainIndex$Tape;)Z"⟩, 10), (⟨"ChainIndex$Reader", "wrong", "(LChainIndex$Tape;I)Z"⟩, 10), (⟨"ChainIndex$Reader", "readNewName", "(LChainIndex$Tape;)Z"⟩, 10), (⟨"ChainIndex$Reader", "readBraid", "(LChainIndex$Tape;)Z"⟩, 10), (⟨"ChainIndex$Reader", "readLaw", "(LChainIndex$Tape;)Z"⟩, 10), (⟨"ChainIndex$Reader", "takePart", "(LChainIndex$Tape;)Z"⟩, 10), (⟨"ChainIndex$Reader", "hold", "(I)V"⟩, 10), (⟨"ChainIndex$Reader", "releaseNots", "()V"⟩, 10), (⟨"ChainIndex$Reader", "release", "(I)V"⟩, 10), (⟨"ChainIndex$Reader", "closeBracket", "(LChainIndex$Tape;)Z"⟩, 10), (⟨"ChainIndex$Reader", "takeOperator", "(LChainIndex$Tape;)Z"⟩, 10), (⟨"ChainIndex$Reader", "readLine", "(LChainIndex$Tape;LChainIndex$Store;)Z"⟩, 10)]
theorem lw_r1 : ∀ q ∈ lw_privs_1, lw_okq q := List.forall_mem_cons.mpr ⟨lw_p0, List.forall_mem_cons.mpr ⟨lw_p1, List.forall_mem_cons.mpr ⟨lw_p2, List.forall_mem_cons.mpr ⟨lw_p3, List.forall_mem_cons.mpr ⟨lw_p4, List.forall_mem_cons.mpr ⟨lw_p5, List.forall_mem_cons.mpr ⟨lw_p6, List.forall_mem_cons.mpr ⟨lw_p7, List.forall_mem_cons.mpr ⟨lw_p8, List.forall_mem_cons.mpr ⟨lw_p9, List.forall_mem_cons.mpr ⟨lw_p10, List.forall_mem_cons.mpr ⟨lw_p11, List.forall_mem_cons.mpr ⟨lw_p12, List.forall_mem_cons.mpr ⟨lw_p13, List.forall_mem_cons.mpr ⟨lw_p14, List.forall_mem_cons.mpr ⟨lw_p15, fun _ h => absurd h List.not_mem_nil⟩⟩⟩⟩⟩⟩⟩⟩⟩⟩⟩⟩⟩⟩⟩⟩
theorem lw_p16 : lw_okq (⟨"ChainIndex$Reader", "readToldName", "(LChainIndex$Tape;LChainIndex$Store;Z)Z"⟩, 10) := ⟨⟨by decide +kernel, by decide +kernel⟩, List.mem_of_getElem? (i := 131) (by decide +kernel), List.mem_of_getElem? (i := 705) (by decide +kernel), List.mem_of_getElem? (i := 706) (by decide +kernel)⟩
theorem lw_p17 : lw_okq (⟨"ChainIndex$Reader", "readNumber", "(LChainIndex$Tape;I)Z"⟩, 10) := ⟨⟨by decide +kernel, by decide +kernel⟩, List.mem_of_getElem? (i := 131) (by decide +kernel), List.mem_of_getElem? (i := 709) (by decide +kernel), List.mem_of_getElem? (i := 710) (by decide +kernel)⟩
theorem lw_p18 : lw_okq (⟨"ChainIndex$Deeds", "forgetOldest", "()V"⟩, 4) := ⟨⟨by decide +kernel, by decide +kernel⟩, List.mem_of_getElem? (i := 255) (by decide +kernel), List.mem_of_getElem? (i := 717) (by decide +kernel), List.mem_of_getElem? (i := 718) (by decide +kernel)⟩
theorem lw_p19 : lw_okq (⟨"ChainIndex$Composer", "leastBetween", "(III)I"⟩, 6) := ⟨⟨by decide +kernel, by decide +kernel⟩, List.mem_of_getElem? (i := 393) (by decide +kernel), List.mem_of_getElem? (i := 845) (by decide +kernel), List.mem_of_getElem? (i := 846) (by decide +kernel)⟩
theorem lw_p20 : lw_okq (⟨"ChainIndex$Composer", "endOf", "(II)I"⟩, 6) := ⟨⟨by decide +kernel, by decide +kernel⟩, List.mem_of_getElem? (i := 393) (by decide +kernel), List.mem_of_getElem? (i := 850) (by decide +kernel), List.mem_of_getElem? (i := 851) (by decide +kernel)⟩
theorem lw_p21 : lw_okq (⟨"ChainIndex", "doLine", "(LChainIndex$Store;III)Z"⟩, 18) := ⟨⟨by decide +kernel, by decide +kernel⟩, List.mem_of_getElem? (i := 26) (by decide +kernel), List.mem_of_getElem? (i := 878) (by decide +kernel), List.mem_of_getElem? (i := 879) (by decide +kernel)⟩
theorem lw_p22 : lw_okq (⟨"ChainIndex", "loadWindow", "(III)Z"⟩, 18) := ⟨⟨by decide +kernel, by decide +kernel⟩, List.mem_of_getElem? (i := 26) (by decide +kernel), List.mem_of_getElem? (i := 886) (by decide +kernel), List.mem_of_getElem? (i := 887) (by decide +kernel)⟩
theorem lw_p23 : lw_okq (⟨"ChainIndex", "isWindow", "(LChainIndex$Row;II)Z"⟩, 18) := ⟨⟨by decide +kernel, by decide +kernel⟩, List.mem_of_getElem? (i := 26) (by decide +kernel), List.mem_of_getElem? (i := 890) (by decide +kernel), List.mem_of_getElem? (i := 891) (by decide +kernel)⟩
theorem lw_p24 : lw_okq (⟨"ChainIndex$Chains", "measureUp", "()V"⟩, 9) := ⟨⟨by decide +kernel, by decide +kernel⟩, List.mem_of_getElem? (i := 320) (by decide +kernel), List.mem_of_getElem? (i := 914) (by decide +kernel), List.mem_of_getElem? (i := 915) (by decide +kernel)⟩
theorem lw_p25 : lw_okq (⟨"ChainIndex$Chains", "follows", "(II)Z"⟩, 9) := ⟨⟨by decide +kernel, by decide +kernel⟩, List.mem_of_getElem? (i := 320) (by decide +kernel), List.mem_of_getElem? (i := 918) (by decide +kernel), List.mem_of_getElem? (i := 919) (by decide +kernel)⟩
theorem lw_p26 : lw_okq (⟨"ChainIndex$Chains", "measureBehind", "()V"⟩, 9) := ⟨⟨by decide +kernel, by decide +kernel⟩, List.mem_of_getElem? (i := 320) (by decide +kernel), List.mem_of_getElem? (i := 926) (by decide +kernel), List.mem_of_getElem? (i := 927) (by decide +kernel)⟩
theorem lw_p27 : lw_okq (⟨"ChainIndex$Chains", "waysOn", "(I)I"⟩, 9) := ⟨⟨by decide +kernel, by decide +kernel⟩, List.mem_of_getElem? (i := 320) (by decide +kernel), List.mem_of_getElem? (i := 946) (by decide +kernel), List.mem_of_getElem? (i := 947) (by decide +kernel)⟩
theorem lw_p28 : lw_okq (⟨"ChainIndex$Chains", "isOnLongest", "(I)Z"⟩, 9) := ⟨⟨by decide +kernel, by decide +kernel⟩, List.mem_of_getElem? (i := 320) (by decide +kernel), List.mem_of_getElem? (i := 962) (by decide +kernel), List.mem_of_getElem? (i := 963) (by decide +kernel)⟩
theorem lw_p29 : lw_okq (⟨"ChainIndex$Chains", "isAloneAtStep", "(I)Z"⟩, 9) := ⟨⟨by decide +kernel, by decide +kernel⟩, List.mem_of_getElem? (i := 320) (by decide +kernel), List.mem_of_getElem? (i := 966) (by decide +kernel), List.mem_of_getElem? (i := 967) (by decide +kernel)⟩
theorem lw_p30 : lw_okq (⟨"ChainIndex$Tableau", "insert", "(LChainIndex$Chains;I)V"⟩, 3) := ⟨⟨by decide +kernel, by decide +kernel⟩, List.mem_of_getElem? (i := 376) (by decide +kernel), List.mem_of_getElem? (i := 1000) (by decide +kernel), List.mem_of_getElem? (i := 1001) (by decide +kernel)⟩
theorem lw_p31 : lw_okq (⟨"ChainIndex", "fillWindows", "(LChainIndex$Row;)V"⟩, 18) := ⟨⟨by decide +kernel, by decide +kernel⟩, List.mem_of_getElem? (i := 26) (by decide +kernel), List.mem_of_getElem? (i := 1012) (by decide +kernel), List.mem_of_getElem? (i := 1013) (by decide +kernel)⟩
def lw_privs_2 : List (MethodName × Nat) := [(⟨"ChainIndex$Reader", "readToldName", "(LChainIndex$Tape;LChainIndex$Store;Z)Z"⟩, 10), (⟨"ChainIndex$Reader", "readNumber", "(LChainIndex$Tape;I)Z"⟩, 10), (⟨"ChainIndex$Deeds", "forgetOldest", "()V"⟩, 4), (⟨"ChainIndex$Composer", "leastBetween", "(III)I"⟩, 6), (⟨"ChainIndex$Composer", "endOf", "(II)I"⟩, 6), (⟨"ChainIndex", "doLine", "(LChainIndex$Store;III)Z"⟩, 18), (⟨"ChainIndex", "loadWindow", "(III)Z"⟩, 18), (⟨"ChainIndex", "isWindow", "(LChainIndex$Row;II)Z"⟩, 18), (⟨"ChainIndex$Chains", "measureUp", "()V"⟩, 9), (⟨"ChainIndex$Chains", "follows", "(II)Z"⟩, 9), (⟨"ChainIndex$Chains", "measureBehind", "()V"⟩, 9), (⟨"ChainIndex$Chains", "waysOn", "(I)I"⟩, 9), (⟨"ChainIndex$Chains", "isOnLongest", "(I)Z"⟩, 9), (⟨"ChainIndex$Chains", "isAloneAtStep", "(I)Z"⟩, 9), (⟨"ChainIndex$Tableau", "insert", "(LChainIndex$Chains;I)V"⟩, 3), (⟨"ChainIndex", "fillWindows", "(LChainIndex$Row;)V"⟩, 18)]
theorem lw_r2 : ∀ q ∈ lw_privs_2, lw_okq q := List.forall_mem_cons.mpr ⟨lw_p16, List.forall_mem_cons.mpr ⟨lw_p17, List.forall_mem_cons.mpr ⟨lw_p18, List.forall_mem_cons.mpr ⟨lw_p19, List.forall_mem_cons.mpr ⟨lw_p20, List.forall_mem_cons.mpr ⟨lw_p21, List.forall_mem_cons.mpr ⟨lw_p22, List.forall_mem_cons.mpr ⟨lw_p23, List.forall_mem_cons.mpr ⟨lw_p24, List.forall_mem_cons.mpr ⟨lw_p25, List.forall_mem_cons.mpr ⟨lw_p26, List.forall_mem_cons.mpr ⟨lw_p27, List.forall_mem_cons.mpr ⟨lw_p28, List.forall_mem_cons.mpr ⟨lw_p29, List.forall_mem_cons.mpr ⟨lw_p30, List.forall_mem_cons.mpr ⟨lw_p31, fun _ h => absurd h List.not_mem_nil⟩⟩⟩⟩⟩⟩⟩⟩⟩⟩⟩⟩⟩⟩⟩⟩
theorem lw_p32 : lw_okq (⟨"ChainIndex$Windows", "left", "(II)I"⟩, 3) := ⟨⟨by decide +kernel, by decide +kernel⟩, List.mem_of_getElem? (i := 358) (by decide +kernel), List.mem_of_getElem? (i := 1028) (by decide +kernel), List.mem_of_getElem? (i := 1029) (by decide +kernel)⟩
theorem lw_p33 : lw_okq (⟨"ChainIndex", "fillCommon", "(LChainIndex$Row;LChainIndex$Row;)V"⟩, 18) := ⟨⟨by decide +kernel, by decide +kernel⟩, List.mem_of_getElem? (i := 26) (by decide +kernel), List.mem_of_getElem? (i := 1073) (by decide +kernel), List.mem_of_getElem? (i := 1074) (by decide +kernel)⟩
theorem lw_p34 : lw_okq (⟨"ChainIndex$Windows", "fillCommonFrom", "(LChainIndex$Chains;LChainIndex$Chains;I)V"⟩, 3) := ⟨⟨by decide +kernel, by decide +kernel⟩, List.mem_of_getElem? (i := 358) (by decide +kernel), List.mem_of_getElem? (i := 1081) (by decide +kernel), List.mem_of_getElem? (i := 1082) (by decide +kernel)⟩
theorem lw_p35 : lw_okq (⟨"ChainIndex$Composer", "leastCrossing", "(LChainIndex$Braid;)I"⟩, 6) := ⟨⟨by decide +kernel, by decide +kernel⟩, List.mem_of_getElem? (i := 393) (by decide +kernel), List.mem_of_getElem? (i := 1140) (by decide +kernel), List.mem_of_getElem? (i := 1141) (by decide +kernel)⟩
theorem lw_p36 : lw_okq (⟨"ChainIndex", "tallyFits", "(LChainIndex$Row;I)I"⟩, 18) := ⟨⟨by decide +kernel, by decide +kernel⟩, List.mem_of_getElem? (i := 26) (by decide +kernel), List.mem_of_getElem? (i := 1164) (by decide +kernel), List.mem_of_getElem? (i := 1165) (by decide +kernel)⟩
theorem lw_p37 : lw_okq (⟨"ChainIndex", "draw", "(III)V"⟩, 18) := ⟨⟨by decide +kernel, by decide +kernel⟩, List.mem_of_getElem? (i := 26) (by decide +kernel), List.mem_of_getElem? (i := 1185) (by decide +kernel), List.mem_of_getElem? (i := 1186) (by decide +kernel)⟩
theorem lw_p38 : lw_okq (⟨"java/lang/Throwable", "fillInStackTrace", "(I)Ljava/lang/Throwable;"⟩, 6) := ⟨⟨by decide +kernel, by decide +kernel⟩, List.mem_of_getElem? (i := 1238) (by decide +kernel), List.mem_of_getElem? (i := 1236) (by decide +kernel), List.mem_of_getElem? (i := 1237) (by decide +kernel)⟩
theorem lw_p39 : lw_okq (⟨"ChainIndexModel", "lay", "(J)V"⟩, 42) := ⟨⟨by decide +kernel, by decide +kernel⟩, List.mem_of_getElem? (i := 1278) (by decide +kernel), List.mem_of_getElem? (i := 1276) (by decide +kernel), List.mem_of_getElem? (i := 1277) (by decide +kernel)⟩
theorem lw_p40 : lw_okq (⟨"ChainIndexModel", "standsAsAlways", "(I)V"⟩, 42) := ⟨⟨by decide +kernel, by decide +kernel⟩, List.mem_of_getElem? (i := 1278) (by decide +kernel), List.mem_of_getElem? (i := 1305) (by decide +kernel), List.mem_of_getElem? (i := 1306) (by decide +kernel)⟩
theorem lw_p41 : lw_okq (⟨"ChainIndexModel", "begins", "()V"⟩, 42) := ⟨⟨by decide +kernel, by decide +kernel⟩, List.mem_of_getElem? (i := 1278) (by decide +kernel), List.mem_of_getElem? (i := 1309) (by decide +kernel), List.mem_of_getElem? (i := 1310) (by decide +kernel)⟩
theorem lw_p42 : lw_okq (⟨"ChainIndexModel", "starts", "(I)V"⟩, 42) := ⟨⟨by decide +kernel, by decide +kernel⟩, List.mem_of_getElem? (i := 1278) (by decide +kernel), List.mem_of_getElem? (i := 1313) (by decide +kernel), List.mem_of_getElem? (i := 1314) (by decide +kernel)⟩
theorem lw_p43 : lw_okq (⟨"ChainIndexModel", "rows", "()I"⟩, 42) := ⟨⟨by decide +kernel, by decide +kernel⟩, List.mem_of_getElem? (i := 1278) (by decide +kernel), List.mem_of_getElem? (i := 1317) (by decide +kernel), List.mem_of_getElem? (i := 1318) (by decide +kernel)⟩
theorem lw_p44 : lw_okq (⟨"ChainIndexModel", "cutAll", "()V"⟩, 42) := ⟨⟨by decide +kernel, by decide +kernel⟩, List.mem_of_getElem? (i := 1278) (by decide +kernel), List.mem_of_getElem? (i := 1452) (by decide +kernel), List.mem_of_getElem? (i := 1453) (by decide +kernel)⟩
theorem lw_p45 : lw_okq (⟨"ChainIndexModel", "readLine", "()V"⟩, 42) := ⟨⟨by decide +kernel, by decide +kernel⟩, List.mem_of_getElem? (i := 1278) (by decide +kernel), List.mem_of_getElem? (i := 1471) (by decide +kernel), List.mem_of_getElem? (i := 1472) (by decide +kernel)⟩
theorem lw_p46 : lw_okq (⟨"ChainIndexModel", "isWord", "(I)Z"⟩, 42) := ⟨⟨by decide +kernel, by decide +kernel⟩, List.mem_of_getElem? (i := 1278) (by decide +kernel), List.mem_of_getElem? (i := 1475) (by decide +kernel), List.mem_of_getElem? (i := 1476) (by decide +kernel)⟩
theorem lw_p47 : lw_okq (⟨"ChainIndexModel", "readRow", "()V"⟩, 42) := ⟨⟨by decide +kernel, by decide +kernel⟩, List.mem_of_getElem? (i := 1278) (by decide +kernel), List.mem_of_getElem? (i := 1479) (by decide +kernel), List.mem_of_getElem? (i := 1480) (by decide +kernel)⟩
def lw_privs_3 : List (MethodName × Nat) := [(⟨"ChainIndex$Windows", "left", "(II)I"⟩, 3), (⟨"ChainIndex", "fillCommon", "(LChainIndex$Row;LChainIndex$Row;)V"⟩, 18), (⟨"ChainIndex$Windows", "fillCommonFrom", "(LChainIndex$Chains;LChainIndex$Chains;I)V"⟩, 3), (⟨"ChainIndex$Composer", "leastCrossing", "(LChainIndex$Braid;)I"⟩, 6), (⟨"ChainIndex", "tallyFits", "(LChainIndex$Row;I)I"⟩, 18), (⟨"ChainIndex", "draw", "(III)V"⟩, 18), (⟨"java/lang/Throwable", "fillInStackTrace", "(I)Ljava/lang/Throwable;"⟩, 6), (⟨"ChainIndexModel", "lay", "(J)V"⟩, 42), (⟨"ChainIndexModel", "standsAsAlways", "(I)V"⟩, 42), (⟨"ChainIndexModel", "begins", "()V"⟩, 42), (⟨"ChainIndexModel", "starts", "(I)V"⟩, 42), (⟨"ChainIndexModel", "rows", "()I"⟩, 42), (⟨"ChainIndexModel", "cutAll", "()V"⟩, 42), (⟨"ChainIndexModel", "readLine", "()V"⟩, 42), (⟨"ChainIndexModel", "isWord", "(I)Z"⟩, 42), (⟨"ChainIndexModel", "readRow", "()V"⟩, 42)]
theorem lw_r3 : ∀ q ∈ lw_privs_3, lw_okq q := List.forall_mem_cons.mpr ⟨lw_p32, List.forall_mem_cons.mpr ⟨lw_p33, List.forall_mem_cons.mpr ⟨lw_p34, List.forall_mem_cons.mpr ⟨lw_p35, List.forall_mem_cons.mpr ⟨lw_p36, List.forall_mem_cons.mpr ⟨lw_p37, List.forall_mem_cons.mpr ⟨lw_p38, List.forall_mem_cons.mpr ⟨lw_p39, List.forall_mem_cons.mpr ⟨lw_p40, List.forall_mem_cons.mpr ⟨lw_p41, List.forall_mem_cons.mpr ⟨lw_p42, List.forall_mem_cons.mpr ⟨lw_p43, List.forall_mem_cons.mpr ⟨lw_p44, List.forall_mem_cons.mpr ⟨lw_p45, List.forall_mem_cons.mpr ⟨lw_p46, List.forall_mem_cons.mpr ⟨lw_p47, fun _ h => absurd h List.not_mem_nil⟩⟩⟩⟩⟩⟩⟩⟩⟩⟩⟩⟩⟩⟩⟩⟩
theorem lw_p48 : lw_okq (⟨"ChainIndexModel", "read", "(I)I"⟩, 42) := ⟨⟨by decide +kernel, by decide +kernel⟩, List.mem_of_getElem? (i := 1278) (by decide +kernel), List.mem_of_getElem? (i := 1483) (by decide +kernel), List.mem_of_getElem? (i := 1484) (by decide +kernel)⟩
theorem lw_p49 : lw_okq (⟨"ChainIndexModel", "readName", "(II)V"⟩, 42) := ⟨⟨by decide +kernel, by decide +kernel⟩, List.mem_of_getElem? (i := 1278) (by decide +kernel), List.mem_of_getElem? (i := 1487) (by decide +kernel), List.mem_of_getElem? (i := 1488) (by decide +kernel)⟩
theorem lw_p50 : lw_okq (⟨"ChainIndexModel", "wrong", "(I)V"⟩, 42) := ⟨⟨by decide +kernel, by decide +kernel⟩, List.mem_of_getElem? (i := 1278) (by decide +kernel), List.mem_of_getElem? (i := 1491) (by decide +kernel), List.mem_of_getElem? (i := 1492) (by decide +kernel)⟩
theorem lw_p51 : lw_okq (⟨"ChainIndexModel", "isName", "()Z"⟩, 42) := ⟨⟨by decide +kernel, by decide +kernel⟩, List.mem_of_getElem? (i := 1278) (by decide +kernel), List.mem_of_getElem? (i := 1495) (by decide +kernel), List.mem_of_getElem? (i := 1496) (by decide +kernel)⟩
theorem lw_p52 : lw_okq (⟨"ChainIndexModel", "wordHere", "(II)I"⟩, 42) := ⟨⟨by decide +kernel, by decide +kernel⟩, List.mem_of_getElem? (i := 1278) (by decide +kernel), List.mem_of_getElem? (i := 1499) (by decide +kernel), List.mem_of_getElem? (i := 1500) (by decide +kernel)⟩
theorem lw_p53 : lw_okq (⟨"ChainIndexModel", "nameAt", "(II)I"⟩, 42) := ⟨⟨by decide +kernel, by decide +kernel⟩, List.mem_of_getElem? (i := 1278) (by decide +kernel), List.mem_of_getElem? (i := 1503) (by decide +kernel), List.mem_of_getElem? (i := 1504) (by decide +kernel)⟩
theorem lw_p54 : lw_okq (⟨"ChainIndexModel", "takeOne", "(II)I"⟩, 42) := ⟨⟨by decide +kernel, by decide +kernel⟩, List.mem_of_getElem? (i := 1278) (by decide +kernel), List.mem_of_getElem? (i := 1507) (by decide +kernel), List.mem_of_getElem? (i := 1508) (by decide +kernel)⟩
theorem lw_p55 : lw_okq (⟨"ChainIndexModel", "takeNumber", "(II)I"⟩, 42) := ⟨⟨by decide +kernel, by decide +kernel⟩, List.mem_of_getElem? (i := 1278) (by decide +kernel), List.mem_of_getElem? (i := 1511) (by decide +kernel), List.mem_of_getElem? (i := 1512) (by decide +kernel)⟩
theorem lw_p56 : lw_okq (⟨"ChainIndexModel", "readBraid", "()V"⟩, 42) := ⟨⟨by decide +kernel, by decide +kernel⟩, List.mem_of_getElem? (i := 1278) (by decide +kernel), List.mem_of_getElem? (i := 1515) (by decide +kernel), List.mem_of_getElem? (i := 1516) (by decide +kernel)⟩
theorem lw_p57 : lw_okq (⟨"ChainIndexModel", "isSign", "(I)Z"⟩, 42) := ⟨⟨by decide +kernel, by decide +kernel⟩, List.mem_of_getElem? (i := 1278) (by decide +kernel), List.mem_of_getElem? (i := 1519) (by decide +kernel), List.mem_of_getElem? (i := 1520) (by decide +kernel)⟩
theorem lw_p58 : lw_okq (⟨"ChainIndexModel", "allOf", "(I)V"⟩, 42) := ⟨⟨by decide +kernel, by decide +kernel⟩, List.mem_of_getElem? (i := 1278) (by decide +kernel), List.mem_of_getElem? (i := 1523) (by decide +kernel), List.mem_of_getElem? (i := 1524) (by decide +kernel)⟩
theorem lw_p59 : lw_okq (⟨"ChainIndexModel", "test", "(I)V"⟩, 42) := ⟨⟨by decide +kernel, by decide +kernel⟩, List.mem_of_getElem? (i := 1278) (by decide +kernel), List.mem_of_getElem? (i := 1527) (by decide +kernel), List.mem_of_getElem? (i := 1528) (by decide +kernel)⟩
theorem lw_p60 : lw_okq (⟨"ChainIndexModel", "sums", "(I)V"⟩, 42) := ⟨⟨by decide +kernel, by decide +kernel⟩, List.mem_of_getElem? (i := 1278) (by decide +kernel), List.mem_of_getElem? (i := 1531) (by decide +kernel), List.mem_of_getElem? (i := 1532) (by decide +kernel)⟩
theorem lw_p61 : lw_okq (⟨"ChainIndexModel", "products", "(I)V"⟩, 42) := ⟨⟨by decide +kernel, by decide +kernel⟩, List.mem_of_getElem? (i := 1278) (by decide +kernel), List.mem_of_getElem? (i := 1535) (by decide +kernel), List.mem_of_getElem? (i := 1536) (by decide +kernel)⟩
theorem lw_p62 : lw_okq (⟨"ChainIndexModel", "takePart", "(I)V"⟩, 42) := ⟨⟨by decide +kernel, by decide +kernel⟩, List.mem_of_getElem? (i := 1278) (by decide +kernel), List.mem_of_getElem? (i := 1539) (by decide +kernel), List.mem_of_getElem? (i := 1540) (by decide +kernel)⟩
theorem lw_p63 : lw_okq (⟨"ChainIndexModel", "hasWord", "(I)Z"⟩, 42) := ⟨⟨by decide +kernel, by decide +kernel⟩, List.mem_of_getElem? (i := 1278) (by decide +kernel), List.mem_of_getElem? (i := 1543) (by decide +kernel), List.mem_of_getElem? (i := 1544) (by decide +kernel)⟩
def lw_privs_4 : List (MethodName × Nat) := [(⟨"ChainIndexModel", "read", "(I)I"⟩, 42), (⟨"ChainIndexModel", "readName", "(II)V"⟩, 42), (⟨"ChainIndexModel", "wrong", "(I)V"⟩, 42), (⟨"ChainIndexModel", "isName", "()Z"⟩, 42), (⟨"ChainIndexModel", "wordHere", "(II)I"⟩, 42), (⟨"ChainIndexModel", "nameAt", "(II)I"⟩, 42), (⟨"ChainIndexModel", "takeOne", "(II)I"⟩, 42), (⟨"ChainIndexModel", "takeNumber", "(II)I"⟩, 42), (⟨"ChainIndexModel", "readBraid", "()V"⟩, 42), (⟨"ChainIndexModel", "isSign", "(I)Z"⟩, 42), (⟨"ChainIndexModel", "allOf", "(I)V"⟩, 42), (⟨"ChainIndexModel", "test", "(I)V"⟩, 42), (⟨"ChainIndexModel", "sums", "(I)V"⟩, 42), (⟨"ChainIndexModel", "products", "(I)V"⟩, 42), (⟨"ChainIndexModel", "takePart", "(I)V"⟩, 42), (⟨"ChainIndexModel", "hasWord", "(I)Z"⟩, 42)]
theorem lw_r4 : ∀ q ∈ lw_privs_4, lw_okq q := List.forall_mem_cons.mpr ⟨lw_p48, List.forall_mem_cons.mpr ⟨lw_p49, List.forall_mem_cons.mpr ⟨lw_p50, List.forall_mem_cons.mpr ⟨lw_p51, List.forall_mem_cons.mpr ⟨lw_p52, List.forall_mem_cons.mpr ⟨lw_p53, List.forall_mem_cons.mpr ⟨lw_p54, List.forall_mem_cons.mpr ⟨lw_p55, List.forall_mem_cons.mpr ⟨lw_p56, List.forall_mem_cons.mpr ⟨lw_p57, List.forall_mem_cons.mpr ⟨lw_p58, List.forall_mem_cons.mpr ⟨lw_p59, List.forall_mem_cons.mpr ⟨lw_p60, List.forall_mem_cons.mpr ⟨lw_p61, List.forall_mem_cons.mpr ⟨lw_p62, List.forall_mem_cons.mpr ⟨lw_p63, fun _ h => absurd h List.not_mem_nil⟩⟩⟩⟩⟩⟩⟩⟩⟩⟩⟩⟩⟩⟩⟩⟩
theorem lw_p64 : lw_okq (⟨"ChainIndexModel", "emit", "(II)V"⟩, 42) := ⟨⟨by decide +kernel, by decide +kernel⟩, List.mem_of_getElem? (i := 1278) (by decide +kernel), List.mem_of_getElem? (i := 1547) (by decide +kernel), List.mem_of_getElem? (i := 1548) (by decide +kernel)⟩
theorem lw_p65 : lw_okq (⟨"ChainIndexModel", "hasSign", "(I)Z"⟩, 42) := ⟨⟨by decide +kernel, by decide +kernel⟩, List.mem_of_getElem? (i := 1278) (by decide +kernel), List.mem_of_getElem? (i := 1551) (by decide +kernel), List.mem_of_getElem? (i := 1552) (by decide +kernel)⟩
theorem lw_p66 : lw_okq (⟨"ChainIndexModel", "takeSign", "(I)V"⟩, 42) := ⟨⟨by decide +kernel, by decide +kernel⟩, List.mem_of_getElem? (i := 1278) (by decide +kernel), List.mem_of_getElem? (i := 1555) (by decide +kernel), List.mem_of_getElem? (i := 1556) (by decide +kernel)⟩
theorem lw_p67 : lw_okq (⟨"ChainIndexModel", "takeTold", "(II)I"⟩, 42) := ⟨⟨by decide +kernel, by decide +kernel⟩, List.mem_of_getElem? (i := 1278) (by decide +kernel), List.mem_of_getElem? (i := 1563) (by decide +kernel), List.mem_of_getElem? (i := 1564) (by decide +kernel)⟩
theorem lw_p68 : lw_okq (⟨"ChainIndexModel", "isWindow", "(III)Z"⟩, 42) := ⟨⟨by decide +kernel, by decide +kernel⟩, List.mem_of_getElem? (i := 1278) (by decide +kernel), List.mem_of_getElem? (i := 1571) (by decide +kernel), List.mem_of_getElem? (i := 1572) (by decide +kernel)⟩
theorem lw_p69 : lw_okq (⟨"ChainIndexModel", "isRow", "(I)Z"⟩, 42) := ⟨⟨by decide +kernel, by decide +kernel⟩, List.mem_of_getElem? (i := 1278) (by decide +kernel), List.mem_of_getElem? (i := 1575) (by decide +kernel), List.mem_of_getElem? (i := 1576) (by decide +kernel)⟩
theorem lw_p70 : lw_okq (⟨"ChainIndexModel", "manyOf", "(II)I"⟩, 42) := ⟨⟨by decide +kernel, by decide +kernel⟩, List.mem_of_getElem? (i := 1278) (by decide +kernel), List.mem_of_getElem? (i := 1579) (by decide +kernel), List.mem_of_getElem? (i := 1580) (by decide +kernel)⟩
theorem lw_p71 : lw_okq (⟨"ChainIndexModel", "laysAll", "(I)V"⟩, 42) := ⟨⟨by decide +kernel, by decide +kernel⟩, List.mem_of_getElem? (i := 1278) (by decide +kernel), List.mem_of_getElem? (i := 1583) (by decide +kernel), List.mem_of_getElem? (i := 1584) (by decide +kernel)⟩
theorem lw_p72 : lw_okq (⟨"ChainIndexModel", "laysRow", "(I)V"⟩, 42) := ⟨⟨by decide +kernel, by decide +kernel⟩, List.mem_of_getElem? (i := 1278) (by decide +kernel), List.mem_of_getElem? (i := 1587) (by decide +kernel), List.mem_of_getElem? (i := 1588) (by decide +kernel)⟩
theorem lw_p73 : lw_okq (⟨"ChainIndexModel", "kindOf", "(I)I"⟩, 42) := ⟨⟨by decide +kernel, by decide +kernel⟩, List.mem_of_getElem? (i := 1278) (by decide +kernel), List.mem_of_getElem? (i := 1591) (by decide +kernel), List.mem_of_getElem? (i := 1592) (by decide +kernel)⟩
theorem lw_p74 : lw_okq (⟨"ChainIndexModel", "weighs", "(IIII)I"⟩, 42) := ⟨⟨by decide +kernel, by decide +kernel⟩, List.mem_of_getElem? (i := 1278) (by decide +kernel), List.mem_of_getElem? (i := 1598) (by decide +kernel), List.mem_of_getElem? (i := 1599) (by decide +kernel)⟩
theorem lw_p75 : lw_okq (⟨"ChainIndexModel", "worthAt", "(I)I"⟩, 42) := ⟨⟨by decide +kernel, by decide +kernel⟩, List.mem_of_getElem? (i := 1278) (by decide +kernel), List.mem_of_getElem? (i := 1602) (by decide +kernel), List.mem_of_getElem? (i := 1603) (by decide +kernel)⟩
theorem lw_p76 : lw_okq (⟨"ChainIndexModel", "findsLongs", "()V"⟩, 42) := ⟨⟨by decide +kernel, by decide +kernel⟩, List.mem_of_getElem? (i := 1278) (by decide +kernel), List.mem_of_getElem? (i := 1609) (by decide +kernel), List.mem_of_getElem? (i := 1610) (by decide +kernel)⟩
theorem lw_p77 : lw_okq (⟨"ChainIndexModel", "findsEnding", "(II)V"⟩, 42) := ⟨⟨by decide +kernel, by decide +kernel⟩, List.mem_of_getElem? (i := 1278) (by decide +kernel), List.mem_of_getElem? (i := 1613) (by decide +kernel), List.mem_of_getElem? (i := 1614) (by decide +kernel)⟩
theorem lw_p78 : lw_okq (⟨"ChainIndexModel", "follows", "(II)Z"⟩, 42) := ⟨⟨by decide +kernel, by decide +kernel⟩, List.mem_of_getElem? (i := 1278) (by decide +kernel), List.mem_of_getElem? (i := 1617) (by decide +kernel), List.mem_of_getElem? (i := 1618) (by decide +kernel)⟩
theorem lw_p79 : lw_okq (⟨"ChainIndexModel", "longAt", "(II)I"⟩, 42) := ⟨⟨by decide +kernel, by decide +kernel⟩, List.mem_of_getElem? (i := 1278) (by decide +kernel), List.mem_of_getElem? (i := 1621) (by decide +kernel), List.mem_of_getElem? (i := 1622) (by decide +kernel)⟩
def lw_privs_5 : List (MethodName × Nat) := [(⟨"ChainIndexModel", "emit", "(II)V"⟩, 42), (⟨"ChainIndexModel", "hasSign", "(I)Z"⟩, 42), (⟨"ChainIndexModel", "takeSign", "(I)V"⟩, 42), (⟨"ChainIndexModel", "takeTold", "(II)I"⟩, 42), (⟨"ChainIndexModel", "isWindow", "(III)Z"⟩, 42), (⟨"ChainIndexModel", "isRow", "(I)Z"⟩, 42), (⟨"ChainIndexModel", "manyOf", "(II)I"⟩, 42), (⟨"ChainIndexModel", "laysAll", "(I)V"⟩, 42), (⟨"ChainIndexModel", "laysRow", "(I)V"⟩, 42), (⟨"ChainIndexModel", "kindOf", "(I)I"⟩, 42), (⟨"ChainIndexModel", "weighs", "(IIII)I"⟩, 42), (⟨"ChainIndexModel", "worthAt", "(I)I"⟩, 42), (⟨"ChainIndexModel", "findsLongs", "()V"⟩, 42), (⟨"ChainIndexModel", "findsEnding", "(II)V"⟩, 42), (⟨"ChainIndexModel", "follows", "(II)Z"⟩, 42), (⟨"ChainIndexModel", "longAt", "(II)I"⟩, 42)]
theorem lw_r5 : ∀ q ∈ lw_privs_5, lw_okq q := List.forall_mem_cons.mpr ⟨lw_p64, List.forall_mem_cons.mpr ⟨lw_p65, List.forall_mem_cons.mpr ⟨lw_p66, List.forall_mem_cons.mpr ⟨lw_p67, List.forall_mem_cons.mpr ⟨lw_p68, List.forall_mem_cons.mpr ⟨lw_p69, List.forall_mem_cons.mpr ⟨lw_p70, List.forall_mem_cons.mpr ⟨lw_p71, List.forall_mem_cons.mpr ⟨lw_p72, List.forall_mem_cons.mpr ⟨lw_p73, List.forall_mem_cons.mpr ⟨lw_p74, List.forall_mem_cons.mpr ⟨lw_p75, List.forall_mem_cons.mpr ⟨lw_p76, List.forall_mem_cons.mpr ⟨lw_p77, List.forall_mem_cons.mpr ⟨lw_p78, List.forall_mem_cons.mpr ⟨lw_p79, fun _ h => absurd h List.not_mem_nil⟩⟩⟩⟩⟩⟩⟩⟩⟩⟩⟩⟩⟩⟩⟩⟩
theorem lw_p80 : lw_okq (⟨"ChainIndexModel", "findsStarting", "(II)V"⟩, 42) := ⟨⟨by decide +kernel, by decide +kernel⟩, List.mem_of_getElem? (i := 1278) (by decide +kernel), List.mem_of_getElem? (i := 1629) (by decide +kernel), List.mem_of_getElem? (i := 1630) (by decide +kernel)⟩
theorem lw_p81 : lw_okq (⟨"ChainIndexModel", "waysOf", "(II)I"⟩, 42) := ⟨⟨by decide +kernel, by decide +kernel⟩, List.mem_of_getElem? (i := 1278) (by decide +kernel), List.mem_of_getElem? (i := 1637) (by decide +kernel), List.mem_of_getElem? (i := 1638) (by decide +kernel)⟩
theorem lw_p82 : lw_okq (⟨"ChainIndexModel", "mayOf", "(II)I"⟩, 42) := ⟨⟨by decide +kernel, by decide +kernel⟩, List.mem_of_getElem? (i := 1278) (by decide +kernel), List.mem_of_getElem? (i := 1647) (by decide +kernel), List.mem_of_getElem? (i := 1648) (by decide +kernel)⟩
theorem lw_p83 : lw_okq (⟨"ChainIndexModel", "bareAt", "(II)I"⟩, 42) := ⟨⟨by decide +kernel, by decide +kernel⟩, List.mem_of_getElem? (i := 1278) (by decide +kernel), List.mem_of_getElem? (i := 1659) (by decide +kernel), List.mem_of_getElem? (i := 1660) (by decide +kernel)⟩
theorem lw_p84 : lw_okq (⟨"ChainIndexModel", "isPlace", "(II)Z"⟩, 42) := ⟨⟨by decide +kernel, by decide +kernel⟩, List.mem_of_getElem? (i := 1278) (by decide +kernel), List.mem_of_getElem? (i := 1667) (by decide +kernel), List.mem_of_getElem? (i := 1668) (by decide +kernel)⟩
theorem lw_p85 : lw_okq (⟨"ChainIndexModel", "strandOf", "(I)I"⟩, 42) := ⟨⟨by decide +kernel, by decide +kernel⟩, List.mem_of_getElem? (i := 1278) (by decide +kernel), List.mem_of_getElem? (i := 1671) (by decide +kernel), List.mem_of_getElem? (i := 1672) (by decide +kernel)⟩
theorem lw_p86 : lw_okq (⟨"ChainIndexModel", "inserts", "(I)V"⟩, 42) := ⟨⟨by decide +kernel, by decide +kernel⟩, List.mem_of_getElem? (i := 1278) (by decide +kernel), List.mem_of_getElem? (i := 1702) (by decide +kernel), List.mem_of_getElem? (i := 1703) (by decide +kernel)⟩
theorem lw_p87 : lw_okq (⟨"ChainIndexModel", "findsCommon", "(II)V"⟩, 42) := ⟨⟨by decide +kernel, by decide +kernel⟩, List.mem_of_getElem? (i := 1278) (by decide +kernel), List.mem_of_getElem? (i := 1710) (by decide +kernel), List.mem_of_getElem? (i := 1711) (by decide +kernel)⟩
theorem lw_p88 : lw_okq (⟨"ChainIndexModel", "isBraid", "(I)Z"⟩, 42) := ⟨⟨by decide +kernel, by decide +kernel⟩, List.mem_of_getElem? (i := 1278) (by decide +kernel), List.mem_of_getElem? (i := 1722) (by decide +kernel), List.mem_of_getElem? (i := 1723) (by decide +kernel)⟩
theorem lw_p89 : lw_okq (⟨"ChainIndexModel", "strandsOf", "(I)I"⟩, 42) := ⟨⟨by decide +kernel, by decide +kernel⟩, List.mem_of_getElem? (i := 1278) (by decide +kernel), List.mem_of_getElem? (i := 1726) (by decide +kernel), List.mem_of_getElem? (i := 1727) (by decide +kernel)⟩
theorem lw_p90 : lw_okq (⟨"ChainIndexModel", "crossingsOf", "(I)I"⟩, 42) := ⟨⟨by decide +kernel, by decide +kernel⟩, List.mem_of_getElem? (i := 1278) (by decide +kernel), List.mem_of_getElem? (i := 1730) (by decide +kernel), List.mem_of_getElem? (i := 1731) (by decide +kernel)⟩
theorem lw_p91 : lw_okq (⟨"ChainIndexModel", "endOf", "(II)I"⟩, 42) := ⟨⟨by decide +kernel, by decide +kernel⟩, List.mem_of_getElem? (i := 1278) (by decide +kernel), List.mem_of_getElem? (i := 1734) (by decide +kernel), List.mem_of_getElem? (i := 1735) (by decide +kernel)⟩
theorem lw_p92 : lw_okq (⟨"ChainIndexModel", "laysBraid", "(II[I)V"⟩, 42) := ⟨⟨by decide +kernel, by decide +kernel⟩, List.mem_of_getElem? (i := 1278) (by decide +kernel), List.mem_of_getElem? (i := 1746) (by decide +kernel), List.mem_of_getElem? (i := 1747) (by decide +kernel)⟩
theorem lw_p93 : lw_okq (⟨"ChainIndexModel", "areAlike", "(III)Z"⟩, 42) := ⟨⟨by decide +kernel, by decide +kernel⟩, List.mem_of_getElem? (i := 1278) (by decide +kernel), List.mem_of_getElem? (i := 1757) (by decide +kernel), List.mem_of_getElem? (i := 1758) (by decide +kernel)⟩
theorem lw_p94 : lw_okq (⟨"ChainIndexModel", "composes", "(I)V"⟩, 42) := ⟨⟨by decide +kernel, by decide +kernel⟩, List.mem_of_getElem? (i := 1278) (by decide +kernel), List.mem_of_getElem? (i := 1761) (by decide +kernel), List.mem_of_getElem? (i := 1762) (by decide +kernel)⟩
theorem lw_p95 : lw_okq (⟨"ChainIndexModel", "powers", "(II)Z"⟩, 42) := ⟨⟨by decide +kernel, by decide +kernel⟩, List.mem_of_getElem? (i := 1278) (by decide +kernel), List.mem_of_getElem? (i := 1772) (by decide +kernel), List.mem_of_getElem? (i := 1773) (by decide +kernel)⟩
def lw_privs_6 : List (MethodName × Nat) := [(⟨"ChainIndexModel", "findsStarting", "(II)V"⟩, 42), (⟨"ChainIndexModel", "waysOf", "(II)I"⟩, 42), (⟨"ChainIndexModel", "mayOf", "(II)I"⟩, 42), (⟨"ChainIndexModel", "bareAt", "(II)I"⟩, 42), (⟨"ChainIndexModel", "isPlace", "(II)Z"⟩, 42), (⟨"ChainIndexModel", "strandOf", "(I)I"⟩, 42), (⟨"ChainIndexModel", "inserts", "(I)V"⟩, 42), (⟨"ChainIndexModel", "findsCommon", "(II)V"⟩, 42), (⟨"ChainIndexModel", "isBraid", "(I)Z"⟩, 42), (⟨"ChainIndexModel", "strandsOf", "(I)I"⟩, 42), (⟨"ChainIndexModel", "crossingsOf", "(I)I"⟩, 42), (⟨"ChainIndexModel", "endOf", "(II)I"⟩, 42), (⟨"ChainIndexModel", "laysBraid", "(II[I)V"⟩, 42), (⟨"ChainIndexModel", "areAlike", "(III)Z"⟩, 42), (⟨"ChainIndexModel", "composes", "(I)V"⟩, 42), (⟨"ChainIndexModel", "powers", "(II)Z"⟩, 42)]
theorem lw_r6 : ∀ q ∈ lw_privs_6, lw_okq q := List.forall_mem_cons.mpr ⟨lw_p80, List.forall_mem_cons.mpr ⟨lw_p81, List.forall_mem_cons.mpr ⟨lw_p82, List.forall_mem_cons.mpr ⟨lw_p83, List.forall_mem_cons.mpr ⟨lw_p84, List.forall_mem_cons.mpr ⟨lw_p85, List.forall_mem_cons.mpr ⟨lw_p86, List.forall_mem_cons.mpr ⟨lw_p87, List.forall_mem_cons.mpr ⟨lw_p88, List.forall_mem_cons.mpr ⟨lw_p89, List.forall_mem_cons.mpr ⟨lw_p90, List.forall_mem_cons.mpr ⟨lw_p91, List.forall_mem_cons.mpr ⟨lw_p92, List.forall_mem_cons.mpr ⟨lw_p93, List.forall_mem_cons.mpr ⟨lw_p94, List.forall_mem_cons.mpr ⟨lw_p95, fun _ h => absurd h List.not_mem_nil⟩⟩⟩⟩⟩⟩⟩⟩⟩⟩⟩⟩⟩⟩⟩⟩
theorem lw_p96 : lw_okq (⟨"ChainIndexModel", "isDone", "(III)Z"⟩, 42) := ⟨⟨by decide +kernel, by decide +kernel⟩, List.mem_of_getElem? (i := 1278) (by decide +kernel), List.mem_of_getElem? (i := 1804) (by decide +kernel), List.mem_of_getElem? (i := 1805) (by decide +kernel)⟩
theorem lw_p97 : lw_okq (⟨"ChainIndexModel", "mayDo", "(IIII)Z"⟩, 42) := ⟨⟨by decide +kernel, by decide +kernel⟩, List.mem_of_getElem? (i := 1278) (by decide +kernel), List.mem_of_getElem? (i := 1808) (by decide +kernel), List.mem_of_getElem? (i := 1809) (by decide +kernel)⟩
theorem lw_p98 : lw_okq (⟨"ChainIndexModel", "strandAt", "(III)I"⟩, 42) := ⟨⟨by decide +kernel, by decide +kernel⟩, List.mem_of_getElem? (i := 1278) (by decide +kernel), List.mem_of_getElem? (i := 1812) (by decide +kernel), List.mem_of_getElem? (i := 1813) (by decide +kernel)⟩
theorem lw_p99 : lw_okq (⟨"ChainIndexModel", "keeps", "()V"⟩, 42) := ⟨⟨by decide +kernel, by decide +kernel⟩, List.mem_of_getElem? (i := 1278) (by decide +kernel), List.mem_of_getElem? (i := 1816) (by decide +kernel), List.mem_of_getElem? (i := 1817) (by decide +kernel)⟩
theorem lw_p100 : lw_okq (⟨"ChainIndexModel", "moves", "(III)V"⟩, 42) := ⟨⟨by decide +kernel, by decide +kernel⟩, List.mem_of_getElem? (i := 1278) (by decide +kernel), List.mem_of_getElem? (i := 1820) (by decide +kernel), List.mem_of_getElem? (i := 1821) (by decide +kernel)⟩
theorem lw_p101 : lw_okq (⟨"ChainIndexModel", "does", "(IIII)V"⟩, 42) := ⟨⟨by decide +kernel, by decide +kernel⟩, List.mem_of_getElem? (i := 1278) (by decide +kernel), List.mem_of_getElem? (i := 1824) (by decide +kernel), List.mem_of_getElem? (i := 1825) (by decide +kernel)⟩
theorem lw_p102 : lw_okq (⟨"ChainIndexModel", "numbersOf", "(I)I"⟩, 42) := ⟨⟨by decide +kernel, by decide +kernel⟩, List.mem_of_getElem? (i := 1278) (by decide +kernel), List.mem_of_getElem? (i := 1852) (by decide +kernel), List.mem_of_getElem? (i := 1853) (by decide +kernel)⟩
theorem lw_p103 : lw_okq (⟨"ChainIndexModel", "fitting", "(I)I"⟩, 42) := ⟨⟨by decide +kernel, by decide +kernel⟩, List.mem_of_getElem? (i := 1278) (by decide +kernel), List.mem_of_getElem? (i := 1864) (by decide +kernel), List.mem_of_getElem? (i := 1865) (by decide +kernel)⟩
theorem lw_p104 : lw_okq (⟨"ChainIndexModel", "isAsSeen", "(III)Z"⟩, 42) := ⟨⟨by decide +kernel, by decide +kernel⟩, List.mem_of_getElem? (i := 1278) (by decide +kernel), List.mem_of_getElem? (i := 1868) (by decide +kernel), List.mem_of_getElem? (i := 1869) (by decide +kernel)⟩
theorem lw_p105 : lw_okq (⟨"ChainIndexModel", "draw", "(I)I"⟩, 42) := ⟨⟨by decide +kernel, by decide +kernel⟩, List.mem_of_getElem? (i := 1278) (by decide +kernel), List.mem_of_getElem? (i := 1884) (by decide +kernel), List.mem_of_getElem? (i := 1885) (by decide +kernel)⟩
def lw_privs_7 : List (MethodName × Nat) := [(⟨"ChainIndexModel", "isDone", "(III)Z"⟩, 42), (⟨"ChainIndexModel", "mayDo", "(IIII)Z"⟩, 42), (⟨"ChainIndexModel", "strandAt", "(III)I"⟩, 42), (⟨"ChainIndexModel", "keeps", "()V"⟩, 42), (⟨"ChainIndexModel", "moves", "(III)V"⟩, 42), (⟨"ChainIndexModel", "does", "(IIII)V"⟩, 42), (⟨"ChainIndexModel", "numbersOf", "(I)I"⟩, 42), (⟨"ChainIndexModel", "fitting", "(I)I"⟩, 42), (⟨"ChainIndexModel", "isAsSeen", "(III)Z"⟩, 42), (⟨"ChainIndexModel", "draw", "(I)I"⟩, 42)]
theorem lw_r7 : ∀ q ∈ lw_privs_7, lw_okq q := List.forall_mem_cons.mpr ⟨lw_p96, List.forall_mem_cons.mpr ⟨lw_p97, List.forall_mem_cons.mpr ⟨lw_p98, List.forall_mem_cons.mpr ⟨lw_p99, List.forall_mem_cons.mpr ⟨lw_p100, List.forall_mem_cons.mpr ⟨lw_p101, List.forall_mem_cons.mpr ⟨lw_p102, List.forall_mem_cons.mpr ⟨lw_p103, List.forall_mem_cons.mpr ⟨lw_p104, List.forall_mem_cons.mpr ⟨lw_p105, fun _ h => absurd h List.not_mem_nil⟩⟩⟩⟩⟩⟩⟩⟩⟩⟩
def lw_privs : List (MethodName × Nat) := lw_privs_1 ++ (lw_privs_2 ++ (lw_privs_3 ++ (lw_privs_4 ++ (lw_privs_5 ++ (lw_privs_6 ++ (lw_privs_7))))))
def lw_tbl : List Cond := k2_sels lw_privs ++ tables_1
theorem lw_privs_ok : ∀ q ∈ lw_privs, lw_okq q := by
  show ∀ q ∈ lw_privs_1 ++ (lw_privs_2 ++ (lw_privs_3 ++ (lw_privs_4 ++ (lw_privs_5 ++ (lw_privs_6 ++ (lw_privs_7)))))), lw_okq q
  exact List.forall_mem_append.mpr ⟨lw_r1, List.forall_mem_append.mpr ⟨lw_r2, List.forall_mem_append.mpr ⟨lw_r3, List.forall_mem_append.mpr ⟨lw_r4, List.forall_mem_append.mpr ⟨lw_r5, List.forall_mem_append.mpr ⟨lw_r6, lw_r7⟩⟩⟩⟩⟩⟩
def RX0 : String := "ChainIndex$Braid"
def TX0 : u_T := fun k => match k with
  | 0 => ("ChainIndex$Braid", "ends", "[I", true)
  | 1 => ("ChainIndex$Braid", "name", "J", false)
  | 2 => ("ChainIndex$Braid", "strands", "I", false)
  | _ => ("ChainIndex$Braid", "made", "I", false)
def tyX0 : Nat → FieldType := fun k => match k with
  | 0 => .array .int
  | 1 => .long
  | 2 => .int
  | _ => .int
theorem nmX0 : ∀ a, a < 4 → ∀ b, b < 4 → a ≠ b → (TX0 a).2.1 ≠ (TX0 b).2.1 := by decide +kernel
theorem tyX0_ok : ∀ k, k < 4 → parseFieldDescriptor (TX0 k).2.2.1 = some (tyX0 k) := by decide +kernel
abbrev cX0_init : ByteArray := prog_2_method_1_code
def yX0_init : MethodName := ⟨RX0, "<init>", "()V"⟩
abbrev cX0_hasStrand : ByteArray := prog_2_method_2_code
def yX0_hasStrand : MethodName := ⟨RX0, "hasStrand", "(I)Z"⟩
abbrev cX0_addStrand : ByteArray := prog_2_method_3_code
def yX0_addStrand : MethodName := ⟨RX0, "addStrand", "(I)Z"⟩
abbrev cX0_strandAt : ByteArray := prog_2_method_4_code
def yX0_strandAt : MethodName := ⟨RX0, "strandAt", "(I)I"⟩
abbrev cX0_isWhole : ByteArray := prog_2_method_5_code
def yX0_isWhole : MethodName := ⟨RX0, "isWhole", "()Z"⟩
abbrev cX0_crossAt : ByteArray := prog_2_method_6_code
def yX0_crossAt : MethodName := ⟨RX0, "crossAt", "(I)Z"⟩
abbrev cX0_exchangeAt : ByteArray := prog_2_method_7_code
def yX0_exchangeAt : MethodName := ⟨RX0, "exchangeAt", "(I)Z"⟩
abbrev cX0_crossings : ByteArray := prog_2_method_8_code
def yX0_crossings : MethodName := ⟨RX0, "crossings", "()I"⟩
abbrev cX0_countOf : ByteArray := prog_2_method_9_code
def yX0_countOf : MethodName := ⟨RX0, "countOf", "(II)I"⟩
abbrev cX0_isSame : ByteArray := prog_2_method_10_code
def yX0_isSame : MethodName := ⟨RX0, "isSame", "(LChainIndex$Braid;)Z"⟩
abbrev cX0_copyFrom : ByteArray := prog_2_method_11_code
def yX0_copyFrom : MethodName := ⟨RX0, "copyFrom", "(LChainIndex$Braid;)V"⟩
def RX1 : String := "ChainIndex$Chains"
def TX1 : u_T := fun k => match k with
  | 0 => ("ChainIndex$Chains", "weights", "[I", true)
  | 1 => ("ChainIndex$Chains", "behind", "[I", true)
  | 2 => ("ChainIndex$Chains", "upTo", "[I", true)
  | 3 => ("ChainIndex$Chains", "onWays", "[I", true)
  | 4 => ("ChainIndex$Chains", "many", "I", false)
  | 5 => ("ChainIndex$Chains", "longest", "I", false)
  | 6 => ("ChainIndex$Chains", "kind", "I", false)
  | 7 => ("ChainIndex$Chains", "start", "I", false)
  | _ => ("ChainIndex$Chains", "end", "I", false)
def tyX1 : Nat → FieldType := fun k => match k with
  | 0 => .array .int
  | 1 => .array .int
  | 2 => .array .int
  | 3 => .array .int
  | 4 => .int
  | 5 => .int
  | 6 => .int
  | 7 => .int
  | _ => .int
theorem nmX1 : ∀ a, a < 9 → ∀ b, b < 9 → a ≠ b → (TX1 a).2.1 ≠ (TX1 b).2.1 := by decide +kernel
theorem tyX1_ok : ∀ k, k < 9 → parseFieldDescriptor (TX1 k).2.2.1 = some (tyX1 k) := by decide +kernel
abbrev cX1_init : ByteArray := prog_3_method_1_code
def yX1_init : MethodName := ⟨RX1, "<init>", "()V"⟩
abbrev cX1_load : ByteArray := prog_3_method_2_code
def yX1_load : MethodName := ⟨RX1, "load", "(LChainIndex$Row;LChainIndex$Law;)V"⟩
abbrev cX1_mayFollow : ByteArray := prog_3_method_3_code
def yX1_mayFollow : MethodName := ⟨RX1, "mayFollow", "(II)Z"⟩
abbrev cX1_follows : ByteArray := prog_3_method_4_code
def yX1_follows : MethodName := ⟨RX1, "follows", "(II)Z"⟩
abbrev cX1_measureUp : ByteArray := prog_3_method_5_code
def yX1_measureUp : MethodName := ⟨RX1, "measureUp", "()V"⟩
abbrev cX1_measureBehind : ByteArray := prog_3_method_6_code
def yX1_measureBehind : MethodName := ⟨RX1, "measureBehind", "()V"⟩
abbrev cX1_measure : ByteArray := prog_3_method_7_code
def yX1_measure : MethodName := ⟨RX1, "measure", "(II)V"⟩
abbrev cX1_measureFrom : ByteArray := prog_3_method_8_code
def yX1_measureFrom : MethodName := ⟨RX1, "measureFrom", "(I[I)V"⟩
abbrev cX1_placeOfFirst : ByteArray := prog_3_method_9_code
def yX1_placeOfFirst : MethodName := ⟨RX1, "placeOfFirst", "(I)I"⟩
abbrev cX1_countWays : ByteArray := prog_3_method_10_code
def yX1_countWays : MethodName := ⟨RX1, "countWays", "()I"⟩
abbrev cX1_waysOn : ByteArray := prog_3_method_11_code
def yX1_waysOn : MethodName := ⟨RX1, "waysOn", "(I)I"⟩
abbrev cX1_isOnLongest : ByteArray := prog_3_method_12_code
def yX1_isOnLongest : MethodName := ⟨RX1, "isOnLongest", "(I)Z"⟩
abbrev cX1_mayBits : ByteArray := prog_3_method_13_code
def yX1_mayBits : MethodName := ⟨RX1, "mayBits", "()I"⟩
abbrev cX1_mustBits : ByteArray := prog_3_method_14_code
def yX1_mustBits : MethodName := ⟨RX1, "mustBits", "()I"⟩
abbrev cX1_isAloneAtStep : ByteArray := prog_3_method_15_code
def yX1_isAloneAtStep : MethodName := ⟨RX1, "isAloneAtStep", "(I)Z"⟩
def RX2 : String := "ChainIndex$Composer"
def TX2 : u_T := fun k => match k with
  | 0 => ("ChainIndex$Composer", "result", "LChainIndex$Braid;", true)
  | 1 => ("ChainIndex$Composer", "power", "LChainIndex$Braid;", true)
  | 2 => ("ChainIndex$Composer", "firsts", "[[I", true)
  | 3 => ("ChainIndex$Composer", "seconds", "[[I", true)
  | 4 => ("ChainIndex$Composer", "leasts", "[[I", true)
  | _ => ("ChainIndex$Composer", "order", "[I", true)
def tyX2 : Nat → FieldType := fun k => match k with
  | 0 => .object "ChainIndex$Braid"
  | 1 => .object "ChainIndex$Braid"
  | 2 => .array (.array .int)
  | 3 => .array (.array .int)
  | 4 => .array (.array .int)
  | _ => .array .int
theorem nmX2 : ∀ a, a < 6 → ∀ b, b < 6 → a ≠ b → (TX2 a).2.1 ≠ (TX2 b).2.1 := by decide +kernel
theorem tyX2_ok : ∀ k, k < 6 → parseFieldDescriptor (TX2 k).2.2.1 = some (tyX2 k) := by decide +kernel
abbrev cX2_init : ByteArray := prog_4_method_1_code
def yX2_init : MethodName := ⟨RX2, "<init>", "()V"⟩
abbrev cX2_tabulate : ByteArray := prog_4_method_2_code
def yX2_tabulate : MethodName := ⟨RX2, "tabulate", "(LChainIndex$Braid;[[I)V"⟩
abbrev cX2_join : ByteArray := prog_4_method_3_code
def yX2_join : MethodName := ⟨RX2, "join", "(LChainIndex$Braid;LChainIndex$Braid;LChainIndex$Braid;)V"⟩
abbrev cX2_leastBetween : ByteArray := prog_4_method_4_code
def yX2_leastBetween : MethodName := ⟨RX2, "leastBetween", "(III)I"⟩
abbrev cX2_endOf : ByteArray := prog_4_method_5_code
def yX2_endOf : MethodName := ⟨RX2, "endOf", "(II)I"⟩
abbrev cX2_raise : ByteArray := prog_4_method_6_code
def yX2_raise : MethodName := ⟨RX2, "raise", "(LChainIndex$Braid;I)I"⟩
abbrev cX2_isUnder : ByteArray := prog_4_method_7_code
def yX2_isUnder : MethodName := ⟨RX2, "isUnder", "(LChainIndex$Braid;LChainIndex$Braid;)Z"⟩
abbrev cX2_knitStep : ByteArray := prog_4_method_8_code
def yX2_knitStep : MethodName := ⟨RX2, "knitStep", "(LChainIndex$Braid;I)I"⟩
abbrev cX2_leastCrossing : ByteArray := prog_4_method_9_code
def yX2_leastCrossing : MethodName := ⟨RX2, "leastCrossing", "(LChainIndex$Braid;)I"⟩
def RX3 : String := "ChainIndex$Deeds"
def TX3 : u_T := fun k => match k with
  | 0 => ("ChainIndex$Deeds", "verbs", "[I", true)
  | 1 => ("ChainIndex$Deeds", "whiches", "[I", true)
  | 2 => ("ChainIndex$Deeds", "values", "[I", true)
  | _ => ("ChainIndex$Deeds", "size", "I", false)
def tyX3 : Nat → FieldType := fun k => match k with
  | 0 => .array .int
  | 1 => .array .int
  | 2 => .array .int
  | _ => .int
theorem nmX3 : ∀ a, a < 4 → ∀ b, b < 4 → a ≠ b → (TX3 a).2.1 ≠ (TX3 b).2.1 := by decide +kernel
theorem tyX3_ok : ∀ k, k < 4 → parseFieldDescriptor (TX3 k).2.2.1 = some (tyX3 k) := by decide +kernel
abbrev cX3_init : ByteArray := prog_5_method_1_code
def yX3_init : MethodName := ⟨RX3, "<init>", "(I)V"⟩
abbrev cX3_has : ByteArray := prog_5_method_2_code
def yX3_has : MethodName := ⟨RX3, "has", "(I)Z"⟩
abbrev cX3_verbOf : ByteArray := prog_5_method_3_code
def yX3_verbOf : MethodName := ⟨RX3, "verbOf", "(I)I"⟩
abbrev cX3_whichOf : ByteArray := prog_5_method_4_code
def yX3_whichOf : MethodName := ⟨RX3, "whichOf", "(I)I"⟩
abbrev cX3_valueOf : ByteArray := prog_5_method_5_code
def yX3_valueOf : MethodName := ⟨RX3, "valueOf", "(I)I"⟩
abbrev cX3_add : ByteArray := prog_5_method_6_code
def yX3_add : MethodName := ⟨RX3, "add", "(III)V"⟩
abbrev cX3_forgetOldest : ByteArray := prog_5_method_7_code
def yX3_forgetOldest : MethodName := ⟨RX3, "forgetOldest", "()V"⟩
abbrev cX3_copyFrom : ByteArray := prog_5_method_8_code
def yX3_copyFrom : MethodName := ⟨RX3, "copyFrom", "(LChainIndex$Deeds;)V"⟩
def RX4 : String := "ChainIndex$Law"
def TX4 : u_T := fun k => match k with
  | 0 => ("ChainIndex$Law", "codes", "[I", true)
  | 1 => ("ChainIndex$Law", "stack", "[I", true)
  | _ => ("ChainIndex$Law", "length", "I", false)
def tyX4 : Nat → FieldType := fun k => match k with
  | 0 => .array .int
  | 1 => .array .int
  | _ => .int
theorem nmX4 : ∀ a, a < 3 → ∀ b, b < 3 → a ≠ b → (TX4 a).2.1 ≠ (TX4 b).2.1 := by decide +kernel
theorem tyX4_ok : ∀ k, k < 3 → parseFieldDescriptor (TX4 k).2.2.1 = some (tyX4 k) := by decide +kernel
abbrev cX4_init : ByteArray := prog_6_method_1_code
def yX4_init : MethodName := ⟨RX4, "<init>", "()V"⟩
abbrev cX4_bePlain : ByteArray := prog_6_method_2_code
def yX4_bePlain : MethodName := ⟨RX4, "bePlain", "()V"⟩
abbrev cX4_add : ByteArray := prog_6_method_3_code
def yX4_add : MethodName := ⟨RX4, "add", "(I)V"⟩
abbrev cX4_copyFrom : ByteArray := prog_6_method_4_code
def yX4_copyFrom : MethodName := ⟨RX4, "copyFrom", "(LChainIndex$Law;)V"⟩
abbrev cX4_weigh : ByteArray := prog_6_method_5_code
def yX4_weigh : MethodName := ⟨RX4, "weigh", "(IIII)I"⟩
abbrev cX4_operand : ByteArray := prog_6_method_6_code
def yX4_operand : MethodName := ⟨RX4, "operand", "(IIIII)I"⟩
abbrev cX4_result : ByteArray := prog_6_method_7_code
def yX4_result : MethodName := ⟨RX4, "result", "(III)I"⟩
def RX5 : String := "ChainIndex$Reader"
def TX5 : u_T := fun k => match k with
  | 0 => ("ChainIndex$Reader", "store", "LChainIndex$Store;", true)
  | 1 => ("ChainIndex$Reader", "law", "LChainIndex$Law;", true)
  | 2 => ("ChainIndex$Reader", "work", "LChainIndex$Deeds;", true)
  | 3 => ("ChainIndex$Reader", "pending", "[I", true)
  | 4 => ("ChainIndex$Reader", "pendingCount", "I", false)
  | 5 => ("ChainIndex$Reader", "depth", "I", false)
  | 6 => ("ChainIndex$Reader", "partDue", "Z", false)
  | 7 => ("ChainIndex$Reader", "lawTold", "Z", false)
  | 8 => ("ChainIndex$Reader", "fault", "I", false)
  | _ => ("ChainIndex$Reader", "found", "I", false)
def tyX5 : Nat → FieldType := fun k => match k with
  | 0 => .object "ChainIndex$Store"
  | 1 => .object "ChainIndex$Law"
  | 2 => .object "ChainIndex$Deeds"
  | 3 => .array .int
  | 4 => .int
  | 5 => .int
  | 6 => .boolean
  | 7 => .boolean
  | 8 => .int
  | _ => .int
theorem nmX5 : ∀ a, a < 10 → ∀ b, b < 10 → a ≠ b → (TX5 a).2.1 ≠ (TX5 b).2.1 := by decide +kernel
theorem tyX5_ok : ∀ k, k < 10 → parseFieldDescriptor (TX5 k).2.2.1 = some (tyX5 k) := by decide +kernel
abbrev cX5_init : ByteArray := prog_7_method_1_code
def yX5_init : MethodName := ⟨RX5, "<init>", "()V"⟩
abbrev cX5_readIndex : ByteArray := prog_7_method_2_code
def yX5_readIndex : MethodName := ⟨RX5, "readIndex", "(LChainIndex$Tape;)I"⟩
abbrev cX5_readWork : ByteArray := prog_7_method_3_code
def yX5_readWork : MethodName := ⟨RX5, "readWork", "(LChainIndex$Tape;LChainIndex$Store;)I"⟩
abbrev cX5_wrong : ByteArray := prog_7_method_4_code
def yX5_wrong : MethodName := ⟨RX5, "wrong", "(LChainIndex$Tape;I)Z"⟩
abbrev cX5_readStatement : ByteArray := prog_7_method_5_code
def yX5_readStatement : MethodName := ⟨RX5, "readStatement", "(LChainIndex$Tape;)Z"⟩
abbrev cX5_readNewName : ByteArray := prog_7_method_6_code
def yX5_readNewName : MethodName := ⟨RX5, "readNewName", "(LChainIndex$Tape;)Z"⟩
abbrev cX5_readRow : ByteArray := prog_7_method_7_code
def yX5_readRow : MethodName := ⟨RX5, "readRow", "(LChainIndex$Tape;)Z"⟩
abbrev cX5_readBraid : ByteArray := prog_7_method_8_code
def yX5_readBraid : MethodName := ⟨RX5, "readBraid", "(LChainIndex$Tape;)Z"⟩
abbrev cX5_readLine : ByteArray := prog_7_method_9_code
def yX5_readLine : MethodName := ⟨RX5, "readLine", "(LChainIndex$Tape;LChainIndex$Store;)Z"⟩
abbrev cX5_readToldName : ByteArray := prog_7_method_10_code
def yX5_readToldName : MethodName := ⟨RX5, "readToldName", "(LChainIndex$Tape;LChainIndex$Store;Z)Z"⟩
abbrev cX5_readNumber : ByteArray := prog_7_method_11_code
def yX5_readNumber : MethodName := ⟨RX5, "readNumber", "(LChainIndex$Tape;I)Z"⟩
abbrev cX5_readLaw : ByteArray := prog_7_method_12_code
def yX5_readLaw : MethodName := ⟨RX5, "readLaw", "(LChainIndex$Tape;)Z"⟩
abbrev cX5_takePart : ByteArray := prog_7_method_13_code
def yX5_takePart : MethodName := ⟨RX5, "takePart", "(LChainIndex$Tape;)Z"⟩
abbrev cX5_takeOperator : ByteArray := prog_7_method_14_code
def yX5_takeOperator : MethodName := ⟨RX5, "takeOperator", "(LChainIndex$Tape;)Z"⟩
abbrev cX5_closeBracket : ByteArray := prog_7_method_15_code
def yX5_closeBracket : MethodName := ⟨RX5, "closeBracket", "(LChainIndex$Tape;)Z"⟩
abbrev cX5_hold : ByteArray := prog_7_method_16_code
def yX5_hold : MethodName := ⟨RX5, "hold", "(I)V"⟩
abbrev cX5_release : ByteArray := prog_7_method_17_code
def yX5_release : MethodName := ⟨RX5, "release", "(I)V"⟩
abbrev cX5_releaseNots : ByteArray := prog_7_method_18_code
def yX5_releaseNots : MethodName := ⟨RX5, "releaseNots", "()V"⟩
abbrev cX5_rankOf : ByteArray := prog_7_method_19_code
def yX5_rankOf : MethodName := ⟨RX5, "rankOf", "(I)I"⟩
def RX6 : String := "ChainIndex$Row"
def TX6 : u_T := fun k => match k with
  | 0 => ("ChainIndex$Row", "numbers", "[I", true)
  | 1 => ("ChainIndex$Row", "name", "J", false)
  | 2 => ("ChainIndex$Row", "kind", "I", false)
  | _ => ("ChainIndex$Row", "many", "I", false)
def tyX6 : Nat → FieldType := fun k => match k with
  | 0 => .array .int
  | 1 => .long
  | 2 => .int
  | _ => .int
theorem nmX6 : ∀ a, a < 4 → ∀ b, b < 4 → a ≠ b → (TX6 a).2.1 ≠ (TX6 b).2.1 := by decide +kernel
theorem tyX6_ok : ∀ k, k < 4 → parseFieldDescriptor (TX6 k).2.2.1 = some (tyX6 k) := by decide +kernel
abbrev cX6_init : ByteArray := prog_8_method_1_code
def yX6_init : MethodName := ⟨RX6, "<init>", "()V"⟩
abbrev cX6_hasPlace : ByteArray := prog_8_method_2_code
def yX6_hasPlace : MethodName := ⟨RX6, "hasPlace", "(I)Z"⟩
abbrev cX6_add : ByteArray := prog_8_method_3_code
def yX6_add : MethodName := ⟨RX6, "add", "(I)Z"⟩
abbrev cX6_flip : ByteArray := prog_8_method_4_code
def yX6_flip : MethodName := ⟨RX6, "flip", "()V"⟩
abbrev cX6_copyFrom : ByteArray := prog_8_method_5_code
def yX6_copyFrom : MethodName := ⟨RX6, "copyFrom", "(LChainIndex$Row;)V"⟩
def RX7 : String := "ChainIndex$Store"
def TX7 : u_T := fun k => match k with
  | 0 => ("ChainIndex$Store", "rows", "[LChainIndex$Row;", true)
  | 1 => ("ChainIndex$Store", "braids", "[LChainIndex$Braid;", true)
  | 2 => ("ChainIndex$Store", "seenRows", "[I", true)
  | 3 => ("ChainIndex$Store", "seenLengths", "[I", true)
  | 4 => ("ChainIndex$Store", "seenMore", "[Z", true)
  | 5 => ("ChainIndex$Store", "rowCount", "I", false)
  | 6 => ("ChainIndex$Store", "braidCount", "I", false)
  | _ => ("ChainIndex$Store", "seenCount", "I", false)
def tyX7 : Nat → FieldType := fun k => match k with
  | 0 => .array (.object "ChainIndex$Row")
  | 1 => .array (.object "ChainIndex$Braid")
  | 2 => .array .int
  | 3 => .array .int
  | 4 => .array .boolean
  | 5 => .int
  | 6 => .int
  | _ => .int
theorem nmX7 : ∀ a, a < 8 → ∀ b, b < 8 → a ≠ b → (TX7 a).2.1 ≠ (TX7 b).2.1 := by decide +kernel
theorem tyX7_ok : ∀ k, k < 8 → parseFieldDescriptor (TX7 k).2.2.1 = some (tyX7 k) := by decide +kernel
abbrev cX7_init : ByteArray := prog_9_method_1_code
def yX7_init : MethodName := ⟨RX7, "<init>", "()V"⟩
abbrev cX7_clear : ByteArray := prog_9_method_2_code
def yX7_clear : MethodName := ⟨RX7, "clear", "()V"⟩
abbrev cX7_copyFrom : ByteArray := prog_9_method_3_code
def yX7_copyFrom : MethodName := ⟨RX7, "copyFrom", "(LChainIndex$Store;)V"⟩
abbrev cX7_rowAt : ByteArray := prog_9_method_4_code
def yX7_rowAt : MethodName := ⟨RX7, "rowAt", "(I)LChainIndex$Row;"⟩
abbrev cX7_braidAt : ByteArray := prog_9_method_5_code
def yX7_braidAt : MethodName := ⟨RX7, "braidAt", "(I)LChainIndex$Braid;"⟩
abbrev cX7_rowNamed : ByteArray := prog_9_method_6_code
def yX7_rowNamed : MethodName := ⟨RX7, "rowNamed", "(J)I"⟩
abbrev cX7_braidNamed : ByteArray := prog_9_method_7_code
def yX7_braidNamed : MethodName := ⟨RX7, "braidNamed", "(J)I"⟩
abbrev cX7_allNumbers : ByteArray := prog_9_method_8_code
def yX7_allNumbers : MethodName := ⟨RX7, "allNumbers", "()I"⟩
abbrev cX7_grow : ByteArray := prog_9_method_9_code
def yX7_grow : MethodName := ⟨RX7, "grow", "(II)I"⟩
abbrev cX7_shrink : ByteArray := prog_9_method_10_code
def yX7_shrink : MethodName := ⟨RX7, "shrink", "(I)I"⟩
abbrev cX7_reverse : ByteArray := prog_9_method_11_code
def yX7_reverse : MethodName := ⟨RX7, "reverse", "(I)Z"⟩
abbrev cX7_crossOver : ByteArray := prog_9_method_12_code
def yX7_crossOver : MethodName := ⟨RX7, "crossOver", "(II)Z"⟩
abbrev cX7_crossBack : ByteArray := prog_9_method_13_code
def yX7_crossBack : MethodName := ⟨RX7, "crossBack", "(II)V"⟩
abbrev cX7_combine : ByteArray := prog_9_method_14_code
def yX7_combine : MethodName := ⟨RX7, "combine", "(IILChainIndex$Composer;)I"⟩
abbrev cX7_dropBraid : ByteArray := prog_9_method_15_code
def yX7_dropBraid : MethodName := ⟨RX7, "dropBraid", "()V"⟩
abbrev cX7_addSeen : ByteArray := prog_9_method_16_code
def yX7_addSeen : MethodName := ⟨RX7, "addSeen", "(IIZ)Z"⟩
abbrev cX7_agrees : ByteArray := prog_9_method_17_code
def yX7_agrees : MethodName := ⟨RX7, "agrees", "(II)Z"⟩
def RX8 : String := "ChainIndex$Tableau"
def TX8 : u_T := fun k => match k with
  | 0 => ("ChainIndex$Tableau", "cells", "[[I", true)
  | 1 => ("ChainIndex$Tableau", "sizes", "[I", true)
  | _ => ("ChainIndex$Tableau", "tops", "[I", true)
def tyX8 : Nat → FieldType := fun k => match k with
  | 0 => .array (.array .int)
  | 1 => .array .int
  | _ => .array .int
theorem nmX8 : ∀ a, a < 3 → ∀ b, b < 3 → a ≠ b → (TX8 a).2.1 ≠ (TX8 b).2.1 := by decide +kernel
theorem tyX8_ok : ∀ k, k < 3 → parseFieldDescriptor (TX8 k).2.2.1 = some (tyX8 k) := by decide +kernel
abbrev cX8_init : ByteArray := prog_10_method_1_code
def yX8_init : MethodName := ⟨RX8, "<init>", "()V"⟩
abbrev cX8_pile : ByteArray := prog_10_method_2_code
def yX8_pile : MethodName := ⟨RX8, "pile", "(LChainIndex$Chains;III)I"⟩
abbrev cX8_fill : ByteArray := prog_10_method_3_code
def yX8_fill : MethodName := ⟨RX8, "fill", "(LChainIndex$Chains;II)V"⟩
abbrev cX8_sizeOf : ByteArray := prog_10_method_4_code
def yX8_sizeOf : MethodName := ⟨RX8, "sizeOf", "(I)I"⟩
abbrev cX8_insert : ByteArray := prog_10_method_5_code
def yX8_insert : MethodName := ⟨RX8, "insert", "(LChainIndex$Chains;I)V"⟩
def RX9 : String := "ChainIndex$Tape"
def TX9 : u_T := fun k => match k with
  | 0 => ("ChainIndex$Tape", "signs", "[C", true)
  | 1 => ("ChainIndex$Tape", "keywords", "[J", true)
  | 2 => ("ChainIndex$Tape", "length", "I", false)
  | 3 => ("ChainIndex$Tape", "next", "I", false)
  | 4 => ("ChainIndex$Tape", "type", "I", false)
  | 5 => ("ChainIndex$Tape", "place", "I", false)
  | 6 => ("ChainIndex$Tape", "number", "I", false)
  | 7 => ("ChainIndex$Tape", "code", "I", false)
  | _ => ("ChainIndex$Tape", "word", "J", false)
def tyX9 : Nat → FieldType := fun k => match k with
  | 0 => .array .char
  | 1 => .array .long
  | 2 => .int
  | 3 => .int
  | 4 => .int
  | 5 => .int
  | 6 => .int
  | 7 => .int
  | _ => .long
theorem nmX9 : ∀ a, a < 9 → ∀ b, b < 9 → a ≠ b → (TX9 a).2.1 ≠ (TX9 b).2.1 := by decide +kernel
theorem tyX9_ok : ∀ k, k < 9 → parseFieldDescriptor (TX9 k).2.2.1 = some (tyX9 k) := by decide +kernel
abbrev cX9_init : ByteArray := prog_11_method_1_code
def yX9_init : MethodName := ⟨RX9, "<init>", "()V"⟩
abbrev cX9_put : ByteArray := prog_11_method_2_code
def yX9_put : MethodName := ⟨RX9, "put", "(J)V"⟩
abbrev cX9_wipe : ByteArray := prog_11_method_3_code
def yX9_wipe : MethodName := ⟨RX9, "wipe", "()V"⟩
abbrev cX9_advance : ByteArray := prog_11_method_4_code
def yX9_advance : MethodName := ⟨RX9, "advance", "()V"⟩
abbrev cX9_isName : ByteArray := prog_11_method_5_code
def yX9_isName : MethodName := ⟨RX9, "isName", "()Z"⟩
abbrev cX9_takeWord : ByteArray := prog_11_method_6_code
def yX9_takeWord : MethodName := ⟨RX9, "takeWord", "()V"⟩
abbrev cX9_takeNumber : ByteArray := prog_11_method_7_code
def yX9_takeNumber : MethodName := ⟨RX9, "takeNumber", "()V"⟩
abbrev cX9_takeSign : ByteArray := prog_11_method_8_code
def yX9_takeSign : MethodName := ⟨RX9, "takeSign", "()V"⟩
abbrev cX9_isLetter : ByteArray := prog_11_method_9_code
def yX9_isLetter : MethodName := ⟨RX9, "isLetter", "(C)Z"⟩
abbrev cX9_isDigit : ByteArray := prog_11_method_10_code
def yX9_isDigit : MethodName := ⟨RX9, "isDigit", "(C)Z"⟩
abbrev cX9_withLetter : ByteArray := prog_11_method_11_code
def yX9_withLetter : MethodName := ⟨RX9, "withLetter", "(JC)J"⟩
def RX10 : String := "ChainIndex$Windows"
def TX10 : u_T := fun k => match k with
  | 0 => ("ChainIndex$Windows", "lengths", "[[I", true)
  | 1 => ("ChainIndex$Windows", "shared", "[I", true)
  | _ => ("ChainIndex$Windows", "many", "I", false)
def tyX10 : Nat → FieldType := fun k => match k with
  | 0 => .array (.array .int)
  | 1 => .array .int
  | _ => .int
theorem nmX10 : ∀ a, a < 3 → ∀ b, b < 3 → a ≠ b → (TX10 a).2.1 ≠ (TX10 b).2.1 := by decide +kernel
theorem tyX10_ok : ∀ k, k < 3 → parseFieldDescriptor (TX10 k).2.2.1 = some (tyX10 k) := by decide +kernel
abbrev cX10_init : ByteArray := prog_12_method_1_code
def yX10_init : MethodName := ⟨RX10, "<init>", "()V"⟩
abbrev cX10_fillChains : ByteArray := prog_12_method_2_code
def yX10_fillChains : MethodName := ⟨RX10, "fillChains", "(LChainIndex$Chains;)V"⟩
abbrev cX10_fillCommon : ByteArray := prog_12_method_3_code
def yX10_fillCommon : MethodName := ⟨RX10, "fillCommon", "(LChainIndex$Chains;LChainIndex$Chains;)V"⟩
abbrev cX10_fillCommonFrom : ByteArray := prog_12_method_4_code
def yX10_fillCommonFrom : MethodName := ⟨RX10, "fillCommonFrom", "(LChainIndex$Chains;LChainIndex$Chains;I)V"⟩
abbrev cX10_lengthOf : ByteArray := prog_12_method_5_code
def yX10_lengthOf : MethodName := ⟨RX10, "lengthOf", "(II)I"⟩
abbrev cX10_left : ByteArray := prog_12_method_6_code
def yX10_left : MethodName := ⟨RX10, "left", "(II)I"⟩
abbrev cX10_strandFrom : ByteArray := prog_12_method_7_code
def yX10_strandFrom : MethodName := ⟨RX10, "strandFrom", "(I)I"⟩
abbrev cX10_strandsWithin : ByteArray := prog_12_method_8_code
def yX10_strandsWithin : MethodName := ⟨RX10, "strandsWithin", "(II)I"⟩
abbrev cX10_having : ByteArray := prog_12_method_9_code
def yX10_having : MethodName := ⟨RX10, "having", "(I)I"⟩
abbrev cX10_bestFrom : ByteArray := prog_12_method_10_code
def yX10_bestFrom : MethodName := ⟨RX10, "bestFrom", "(I)I"⟩
abbrev cX10_narrowest : ByteArray := prog_12_method_11_code
def yX10_narrowest : MethodName := ⟨RX10, "narrowest", "(I)I"⟩
def RX11 : String := "ChainIndex"
def TX11 : u_T := fun k => match k with
  | 0 => ("ChainIndex", "tape", "LChainIndex$Tape;", true)
  | 1 => ("ChainIndex", "reader", "LChainIndex$Reader;", true)
  | 2 => ("ChainIndex", "live", "LChainIndex$Store;", true)
  | 3 => ("ChainIndex", "told", "LChainIndex$Store;", true)
  | 4 => ("ChainIndex", "trial", "LChainIndex$Store;", true)
  | 5 => ("ChainIndex", "marks", "[LChainIndex$Store;", true)
  | 6 => ("ChainIndex", "laid", "[Z", true)
  | 7 => ("ChainIndex", "law", "LChainIndex$Law;", true)
  | 8 => ("ChainIndex", "lines", "LChainIndex$Deeds;", true)
  | 9 => ("ChainIndex", "history", "LChainIndex$Deeds;", true)
  | 10 => ("ChainIndex", "chains", "LChainIndex$Chains;", true)
  | 11 => ("ChainIndex", "others", "LChainIndex$Chains;", true)
  | 12 => ("ChainIndex", "windows", "LChainIndex$Windows;", true)
  | 13 => ("ChainIndex", "tableau", "LChainIndex$Tableau;", true)
  | 14 => ("ChainIndex", "composer", "LChainIndex$Composer;", true)
  | 15 => ("ChainIndex", "draws", "LChainIndex$Row;", true)
  | 16 => ("ChainIndex", "tally", "[I", true)
  | _ => ("ChainIndex", "made", "I", false)
def tyX11 : Nat → FieldType := fun k => match k with
  | 0 => .object "ChainIndex$Tape"
  | 1 => .object "ChainIndex$Reader"
  | 2 => .object "ChainIndex$Store"
  | 3 => .object "ChainIndex$Store"
  | 4 => .object "ChainIndex$Store"
  | 5 => .array (.object "ChainIndex$Store")
  | 6 => .array .boolean
  | 7 => .object "ChainIndex$Law"
  | 8 => .object "ChainIndex$Deeds"
  | 9 => .object "ChainIndex$Deeds"
  | 10 => .object "ChainIndex$Chains"
  | 11 => .object "ChainIndex$Chains"
  | 12 => .object "ChainIndex$Windows"
  | 13 => .object "ChainIndex$Tableau"
  | 14 => .object "ChainIndex$Composer"
  | 15 => .object "ChainIndex$Row"
  | 16 => .array .int
  | _ => .int
theorem nmX11 : ∀ a, a < 18 → ∀ b, b < 18 → a ≠ b → (TX11 a).2.1 ≠ (TX11 b).2.1 := by decide +kernel
theorem tyX11_ok : ∀ k, k < 18 → parseFieldDescriptor (TX11 k).2.2.1 = some (tyX11 k) := by decide +kernel
abbrev cX11_init : ByteArray := prog_1_method_1_code
def yX11_init : MethodName := ⟨RX11, "<init>", "()V"⟩
abbrev cX11_feed : ByteArray := prog_1_method_2_code
def yX11_feed : MethodName := ⟨RX11, "feed", "(JJJ)I"⟩
abbrev cX11_index : ByteArray := prog_1_method_3_code
def yX11_index : MethodName := ⟨RX11, "index", "()I"⟩
abbrev cX11_work : ByteArray := prog_1_method_4_code
def yX11_work : MethodName := ⟨RX11, "work", "()I"⟩
abbrev cX11_row : ByteArray := prog_1_method_5_code
def yX11_row : MethodName := ⟨RX11, "row", "(II)I"⟩
abbrev cX11_item : ByteArray := prog_1_method_6_code
def yX11_item : MethodName := ⟨RX11, "item", "(II)I"⟩
abbrev cX11_weight : ByteArray := prog_1_method_7_code
def yX11_weight : MethodName := ⟨RX11, "weight", "(II)I"⟩
abbrev cX11_braid : ByteArray := prog_1_method_8_code
def yX11_braid : MethodName := ⟨RX11, "braid", "(II)I"⟩
abbrev cX11_count : ByteArray := prog_1_method_9_code
def yX11_count : MethodName := ⟨RX11, "count", "(I)I"⟩
abbrev cX11_append : ByteArray := prog_1_method_10_code
def yX11_append : MethodName := ⟨RX11, "append", "(II)I"⟩
abbrev cX11_cut : ByteArray := prog_1_method_11_code
def yX11_cut : MethodName := ⟨RX11, "cut", "(I)I"⟩
abbrev cX11_turn : ByteArray := prog_1_method_12_code
def yX11_turn : MethodName := ⟨RX11, "turn", "(I)Z"⟩
abbrev cX11_cross : ByteArray := prog_1_method_13_code
def yX11_cross : MethodName := ⟨RX11, "cross", "(II)Z"⟩
abbrev cX11_keep : ByteArray := prog_1_method_14_code
def yX11_keep : MethodName := ⟨RX11, "keep", "(II)I"⟩
abbrev cX11_undo : ByteArray := prog_1_method_15_code
def yX11_undo : MethodName := ⟨RX11, "undo", "()Z"⟩
abbrev cX11_mark : ByteArray := prog_1_method_16_code
def yX11_mark : MethodName := ⟨RX11, "mark", "(IZ)Z"⟩
abbrev cX11_judged : ByteArray := prog_1_method_17_code
def yX11_judged : MethodName := ⟨RX11, "judged", "(I)I"⟩
abbrev cX11_doLine : ByteArray := prog_1_method_18_code
def yX11_doLine : MethodName := ⟨RX11, "doLine", "(LChainIndex$Store;III)Z"⟩
abbrev cX11_chain : ByteArray := prog_1_method_19_code
def yX11_chain : MethodName := ⟨RX11, "chain", "(III)I"⟩
abbrev cX11_pick : ByteArray := prog_1_method_20_code
def yX11_pick : MethodName := ⟨RX11, "pick", "(IIII)I"⟩
abbrev cX11_ways : ByteArray := prog_1_method_21_code
def yX11_ways : MethodName := ⟨RX11, "ways", "(III)I"⟩
abbrev cX11_must : ByteArray := prog_1_method_22_code
def yX11_must : MethodName := ⟨RX11, "must", "(III)I"⟩
abbrev cX11_may : ByteArray := prog_1_method_23_code
def yX11_may : MethodName := ⟨RX11, "may", "(III)I"⟩
abbrev cX11_bare : ByteArray := prog_1_method_24_code
def yX11_bare : MethodName := ⟨RX11, "bare", "(III)I"⟩
abbrev cX11_piles : ByteArray := prog_1_method_25_code
def yX11_piles : MethodName := ⟨RX11, "piles", "(IIII)I"⟩
abbrev cX11_shape : ByteArray := prog_1_method_26_code
def yX11_shape : MethodName := ⟨RX11, "shape", "(IIII)I"⟩
abbrev cX11_isWindow : ByteArray := prog_1_method_27_code
def yX11_isWindow : MethodName := ⟨RX11, "isWindow", "(LChainIndex$Row;II)Z"⟩
abbrev cX11_loadWindow : ByteArray := prog_1_method_28_code
def yX11_loadWindow : MethodName := ⟨RX11, "loadWindow", "(III)Z"⟩
abbrev cX11_strand : ByteArray := prog_1_method_29_code
def yX11_strand : MethodName := ⟨RX11, "strand", "(II)I"⟩
abbrev cX11_under : ByteArray := prog_1_method_30_code
def yX11_under : MethodName := ⟨RX11, "under", "(III)I"⟩
abbrev cX11_how : ByteArray := prog_1_method_31_code
def yX11_how : MethodName := ⟨RX11, "how", "(II)I"⟩
abbrev cX11_best : ByteArray := prog_1_method_32_code
def yX11_best : MethodName := ⟨RX11, "best", "(II)I"⟩
abbrev cX11_near : ByteArray := prog_1_method_33_code
def yX11_near : MethodName := ⟨RX11, "near", "(II)I"⟩
abbrev cX11_fillWindows : ByteArray := prog_1_method_34_code
def yX11_fillWindows : MethodName := ⟨RX11, "fillWindows", "(LChainIndex$Row;)V"⟩
abbrev cX11_common : ByteArray := prog_1_method_35_code
def yX11_common : MethodName := ⟨RX11, "common", "(IIII)I"⟩
abbrev cX11_meets : ByteArray := prog_1_method_36_code
def yX11_meets : MethodName := ⟨RX11, "meets", "(III)I"⟩
abbrev cX11_fillCommon : ByteArray := prog_1_method_37_code
def yX11_fillCommon : MethodName := ⟨RX11, "fillCommon", "(LChainIndex$Row;LChainIndex$Row;)V"⟩
abbrev cX11_ends : ByteArray := prog_1_method_38_code
def yX11_ends : MethodName := ⟨RX11, "ends", "(II)I"⟩
abbrev cX11_counts : ByteArray := prog_1_method_39_code
def yX11_counts : MethodName := ⟨RX11, "counts", "(III)I"⟩
abbrev cX11_compose : ByteArray := prog_1_method_40_code
def yX11_compose : MethodName := ⟨RX11, "compose", "(III)I"⟩
abbrev cX11_power : ByteArray := prog_1_method_41_code
def yX11_power : MethodName := ⟨RX11, "power", "(III)I"⟩
abbrev cX11_settles : ByteArray := prog_1_method_42_code
def yX11_settles : MethodName := ⟨RX11, "settles", "(I)I"⟩
abbrev cX11_knit : ByteArray := prog_1_method_43_code
def yX11_knit : MethodName := ⟨RX11, "knit", "(II)I"⟩
abbrev cX11_below : ByteArray := prog_1_method_44_code
def yX11_below : MethodName := ⟨RX11, "below", "(II)Z"⟩
abbrev cX11_areAlike : ByteArray := prog_1_method_45_code
def yX11_areAlike : MethodName := ⟨RX11, "areAlike", "(LChainIndex$Braid;LChainIndex$Braid;)Z"⟩
abbrev cX11_see : ByteArray := prog_1_method_46_code
def yX11_see : MethodName := ⟨RX11, "see", "(IIZ)Z"⟩
abbrev cX11_fits : ByteArray := prog_1_method_47_code
def yX11_fits : MethodName := ⟨RX11, "fits", "(I)I"⟩
abbrev cX11_first : ByteArray := prog_1_method_48_code
def yX11_first : MethodName := ⟨RX11, "first", "(I)I"⟩
abbrev cX11_ask : ByteArray := prog_1_method_49_code
def yX11_ask : MethodName := ⟨RX11, "ask", "(I)I"⟩
abbrev cX11_tallyFits : ByteArray := prog_1_method_50_code
def yX11_tallyFits : MethodName := ⟨RX11, "tallyFits", "(LChainIndex$Row;I)I"⟩
abbrev cX11_drawn : ByteArray := prog_1_method_51_code
def yX11_drawn : MethodName := ⟨RX11, "drawn", "(IIII)I"⟩
abbrev cX11_draw : ByteArray := prog_1_method_52_code
def yX11_draw : MethodName := ⟨RX11, "draw", "(III)V"⟩
def RX12 : String := "ChainIndexModel"
def TX12 : u_T := fun k => match k with
  | 0 => ("ChainIndexModel", "thrown", "I", false)
  | 1 => ("ChainIndexModel", "tape", "[I", true)
  | 2 => ("ChainIndexModel", "taped", "I", false)
  | 3 => ("ChainIndexModel", "size", "I", false)
  | 4 => ("ChainIndexModel", "sort", "[I", true)
  | 5 => ("ChainIndexModel", "place", "[I", true)
  | 6 => ("ChainIndexModel", "value", "[J", true)
  | 7 => ("ChainIndexModel", "at", "I", false)
  | 8 => ("ChainIndexModel", "fault", "I", false)
  | 9 => ("ChainIndexModel", "words", "[J", true)
  | 10 => ("ChainIndexModel", "indices", "[I", true)
  | 11 => ("ChainIndexModel", "code", "[I", true)
  | 12 => ("ChainIndexModel", "codes", "I", false)
  | 13 => ("ChainIndexModel", "names", "[J", true)
  | 14 => ("ChainIndexModel", "lines", "[I", true)
  | 15 => ("ChainIndexModel", "facts", "[I", true)
  | 16 => ("ChainIndexModel", "pile", "[I", true)
  | 17 => ("ChainIndexModel", "state", "[I", true)
  | 18 => ("ChainIndexModel", "undos", "I", false)
  | 19 => ("ChainIndexModel", "made", "I", false)
  | 20 => ("ChainIndexModel", "isMarked", "[Z", true)
  | 21 => ("ChainIndexModel", "weights", "[I", true)
  | 22 => ("ChainIndexModel", "kind", "I", false)
  | 23 => ("ChainIndexModel", "extent", "I", false)
  | 24 => ("ChainIndexModel", "longs", "[I", true)
  | 25 => ("ChainIndexModel", "ending", "[I", true)
  | 26 => ("ChainIndexModel", "starting", "[I", true)
  | 27 => ("ChainIndexModel", "waysTo", "[J", true)
  | 28 => ("ChainIndexModel", "tops", "[I", true)
  | 29 => ("ChainIndexModel", "pileOf", "[I", true)
  | 30 => ("ChainIndexModel", "tableau", "[I", true)
  | 31 => ("ChainIndexModel", "wide", "[I", true)
  | 32 => ("ChainIndexModel", "firsts", "[I", true)
  | 33 => ("ChainIndexModel", "steps", "[I", true)
  | 34 => ("ChainIndexModel", "one", "[I", true)
  | 35 => ("ChainIndexModel", "other", "[I", true)
  | 36 => ("ChainIndexModel", "composed", "[I", true)
  | 37 => ("ChainIndexModel", "countsOne", "[I", true)
  | 38 => ("ChainIndexModel", "countsOther", "[I", true)
  | 39 => ("ChainIndexModel", "countsBoth", "[I", true)
  | 40 => ("ChainIndexModel", "tally", "[I", true)
  | _ => ("ChainIndexModel", "g", "J", false)
def tyX12 : Nat → FieldType := fun k => match k with
  | 0 => .int
  | 1 => .array .int
  | 2 => .int
  | 3 => .int
  | 4 => .array .int
  | 5 => .array .int
  | 6 => .array .long
  | 7 => .int
  | 8 => .int
  | 9 => .array .long
  | 10 => .array .int
  | 11 => .array .int
  | 12 => .int
  | 13 => .array .long
  | 14 => .array .int
  | 15 => .array .int
  | 16 => .array .int
  | 17 => .array .int
  | 18 => .int
  | 19 => .int
  | 20 => .array .boolean
  | 21 => .array .int
  | 22 => .int
  | 23 => .int
  | 24 => .array .int
  | 25 => .array .int
  | 26 => .array .int
  | 27 => .array .long
  | 28 => .array .int
  | 29 => .array .int
  | 30 => .array .int
  | 31 => .array .int
  | 32 => .array .int
  | 33 => .array .int
  | 34 => .array .int
  | 35 => .array .int
  | 36 => .array .int
  | 37 => .array .int
  | 38 => .array .int
  | 39 => .array .int
  | 40 => .array .int
  | _ => .long
theorem nmX12 : ∀ a, a < 42 → ∀ b, b < 42 → a ≠ b → (TX12 a).2.1 ≠ (TX12 b).2.1 := by decide +kernel
theorem tyX12_ok : ∀ k, k < 42 → parseFieldDescriptor (TX12 k).2.2.1 = some (tyX12 k) := by decide +kernel
abbrev cX12_thrown : ByteArray := prog_14_method_1_code
def yX12_thrown : MethodName := ⟨RX12, "thrown", "()I"⟩
abbrev cX12_feed : ByteArray := prog_14_method_2_code
def yX12_feed : MethodName := ⟨RX12, "feed", "(JJJ)I"⟩
abbrev cX12_lay : ByteArray := prog_14_method_3_code
def yX12_lay : MethodName := ⟨RX12, "lay", "(J)V"⟩
abbrev cX12_init : ByteArray := prog_14_method_4_code
def yX12_init : MethodName := ⟨RX12, "<init>", "()V"⟩
abbrev cX12_isLetter : ByteArray := prog_14_method_5_code
def yX12_isLetter : MethodName := ⟨RX12, "isLetter", "(I)Z"⟩
abbrev cX12_isDigit : ByteArray := prog_14_method_6_code
def yX12_isDigit : MethodName := ⟨RX12, "isDigit", "(I)Z"⟩
abbrev cX12_rank : ByteArray := prog_14_method_7_code
def yX12_rank : MethodName := ⟨RX12, "rank", "(I)I"⟩
abbrev cX12_isSignOf : ByteArray := prog_14_method_8_code
def yX12_isSignOf : MethodName := ⟨RX12, "isSignOf", "(I)Z"⟩
abbrev cX12_cutAll : ByteArray := prog_14_method_9_code
def yX12_cutAll : MethodName := ⟨RX12, "cutAll", "()V"⟩
abbrev cX12_wrong : ByteArray := prog_14_method_10_code
def yX12_wrong : MethodName := ⟨RX12, "wrong", "(I)V"⟩
abbrev cX12_isSign : ByteArray := prog_14_method_11_code
def yX12_isSign : MethodName := ⟨RX12, "isSign", "(I)Z"⟩
abbrev cX12_isWord : ByteArray := prog_14_method_12_code
def yX12_isWord : MethodName := ⟨RX12, "isWord", "(I)Z"⟩
abbrev cX12_takeSign : ByteArray := prog_14_method_13_code
def yX12_takeSign : MethodName := ⟨RX12, "takeSign", "(I)V"⟩
abbrev cX12_hasSign : ByteArray := prog_14_method_14_code
def yX12_hasSign : MethodName := ⟨RX12, "hasSign", "(I)Z"⟩
abbrev cX12_hasWord : ByteArray := prog_14_method_15_code
def yX12_hasWord : MethodName := ⟨RX12, "hasWord", "(I)Z"⟩
abbrev cX12_within : ByteArray := prog_14_method_17_code
def yX12_within : MethodName := ⟨RX12, "within", "(III)Z"⟩
abbrev cX12_standsAsAlways : ByteArray := prog_14_method_18_code
def yX12_standsAsAlways : MethodName := ⟨RX12, "standsAsAlways", "(I)V"⟩
abbrev cX12_takeNumber : ByteArray := prog_14_method_19_code
def yX12_takeNumber : MethodName := ⟨RX12, "takeNumber", "(II)I"⟩
abbrev cX12_wordHere : ByteArray := prog_14_method_20_code
def yX12_wordHere : MethodName := ⟨RX12, "wordHere", "(II)I"⟩
abbrev cX12_takeOne : ByteArray := prog_14_method_21_code
def yX12_takeOne : MethodName := ⟨RX12, "takeOne", "(II)I"⟩
abbrev cX12_isName : ByteArray := prog_14_method_22_code
def yX12_isName : MethodName := ⟨RX12, "isName", "()Z"⟩
abbrev cX12_nameAt : ByteArray := prog_14_method_23_code
def yX12_nameAt : MethodName := ⟨RX12, "nameAt", "(II)I"⟩
abbrev cX12_takeTold : ByteArray := prog_14_method_24_code
def yX12_takeTold : MethodName := ⟨RX12, "takeTold", "(II)I"⟩
abbrev cX12_index : ByteArray := prog_14_method_25_code
def yX12_index : MethodName := ⟨RX12, "index", "()I"⟩
abbrev cX12_read : ByteArray := prog_14_method_26_code
def yX12_read : MethodName := ⟨RX12, "read", "(I)I"⟩
abbrev cX12_readName : ByteArray := prog_14_method_27_code
def yX12_readName : MethodName := ⟨RX12, "readName", "(II)V"⟩
abbrev cX12_readLine : ByteArray := prog_14_method_28_code
def yX12_readLine : MethodName := ⟨RX12, "readLine", "()V"⟩
abbrev cX12_readRow : ByteArray := prog_14_method_29_code
def yX12_readRow : MethodName := ⟨RX12, "readRow", "()V"⟩
abbrev cX12_readBraid : ByteArray := prog_14_method_30_code
def yX12_readBraid : MethodName := ⟨RX12, "readBraid", "()V"⟩
abbrev cX12_work : ByteArray := prog_14_method_31_code
def yX12_work : MethodName := ⟨RX12, "work", "()I"⟩
abbrev cX12_emit : ByteArray := prog_14_method_32_code
def yX12_emit : MethodName := ⟨RX12, "emit", "(II)V"⟩
abbrev cX12_allOf : ByteArray := prog_14_method_33_code
def yX12_allOf : MethodName := ⟨RX12, "allOf", "(I)V"⟩
abbrev cX12_test : ByteArray := prog_14_method_34_code
def yX12_test : MethodName := ⟨RX12, "test", "(I)V"⟩
abbrev cX12_sums : ByteArray := prog_14_method_35_code
def yX12_sums : MethodName := ⟨RX12, "sums", "(I)V"⟩
abbrev cX12_products : ByteArray := prog_14_method_36_code
def yX12_products : MethodName := ⟨RX12, "products", "(I)V"⟩
abbrev cX12_takePart : ByteArray := prog_14_method_37_code
def yX12_takePart : MethodName := ⟨RX12, "takePart", "(I)V"⟩
abbrev cX12_worthAt : ByteArray := prog_14_method_38_code
def yX12_worthAt : MethodName := ⟨RX12, "worthAt", "(I)I"⟩
abbrev cX12_worked : ByteArray := prog_14_method_39_code
def yX12_worked : MethodName := ⟨RX12, "worked", "(III)I"⟩
abbrev cX12_moves : ByteArray := prog_14_method_40_code
def yX12_moves : MethodName := ⟨RX12, "moves", "(III)V"⟩
abbrev cX12_starts : ByteArray := prog_14_method_41_code
def yX12_starts : MethodName := ⟨RX12, "starts", "(I)V"⟩
abbrev cX12_begins : ByteArray := prog_14_method_42_code
def yX12_begins : MethodName := ⟨RX12, "begins", "()V"⟩
abbrev cX12_keeps : ByteArray := prog_14_method_43_code
def yX12_keeps : MethodName := ⟨RX12, "keeps", "()V"⟩
abbrev cX12_rows : ByteArray := prog_14_method_44_code
def yX12_rows : MethodName := ⟨RX12, "rows", "()I"⟩
abbrev cX12_kindOf : ByteArray := prog_14_method_45_code
def yX12_kindOf : MethodName := ⟨RX12, "kindOf", "(I)I"⟩
abbrev cX12_manyOf : ByteArray := prog_14_method_46_code
def yX12_manyOf : MethodName := ⟨RX12, "manyOf", "(II)I"⟩
abbrev cX12_numberAt : ByteArray := prog_14_method_47_code
def yX12_numberAt : MethodName := ⟨RX12, "numberAt", "(III)I"⟩
abbrev cX12_isRow : ByteArray := prog_14_method_48_code
def yX12_isRow : MethodName := ⟨RX12, "isRow", "(I)Z"⟩
abbrev cX12_isPlace : ByteArray := prog_14_method_49_code
def yX12_isPlace : MethodName := ⟨RX12, "isPlace", "(II)Z"⟩
abbrev cX12_isWindow : ByteArray := prog_14_method_50_code
def yX12_isWindow : MethodName := ⟨RX12, "isWindow", "(III)Z"⟩
abbrev cX12_isBraid : ByteArray := prog_14_method_51_code
def yX12_isBraid : MethodName := ⟨RX12, "isBraid", "(I)Z"⟩
abbrev cX12_strandsOf : ByteArray := prog_14_method_52_code
def yX12_strandsOf : MethodName := ⟨RX12, "strandsOf", "(I)I"⟩
abbrev cX12_endOf : ByteArray := prog_14_method_53_code
def yX12_endOf : MethodName := ⟨RX12, "endOf", "(II)I"⟩
abbrev cX12_weighs : ByteArray := prog_14_method_54_code
def yX12_weighs : MethodName := ⟨RX12, "weighs", "(IIII)I"⟩
abbrev cX12_laysRow : ByteArray := prog_14_method_55_code
def yX12_laysRow : MethodName := ⟨RX12, "laysRow", "(I)V"⟩
abbrev cX12_follows : ByteArray := prog_14_method_56_code
def yX12_follows : MethodName := ⟨RX12, "follows", "(II)Z"⟩
abbrev cX12_longAt : ByteArray := prog_14_method_57_code
def yX12_longAt : MethodName := ⟨RX12, "longAt", "(II)I"⟩
abbrev cX12_findsEnding : ByteArray := prog_14_method_58_code
def yX12_findsEnding : MethodName := ⟨RX12, "findsEnding", "(II)V"⟩
abbrev cX12_findsStarting : ByteArray := prog_14_method_59_code
def yX12_findsStarting : MethodName := ⟨RX12, "findsStarting", "(II)V"⟩
abbrev cX12_findsLongs : ByteArray := prog_14_method_60_code
def yX12_findsLongs : MethodName := ⟨RX12, "findsLongs", "()V"⟩
abbrev cX12_laysAll : ByteArray := prog_14_method_61_code
def yX12_laysAll : MethodName := ⟨RX12, "laysAll", "(I)V"⟩
abbrev cX12_chain : ByteArray := prog_14_method_62_code
def yX12_chain : MethodName := ⟨RX12, "chain", "(III)I"⟩
abbrev cX12_pick : ByteArray := prog_14_method_63_code
def yX12_pick : MethodName := ⟨RX12, "pick", "(IIII)I"⟩
abbrev cX12_ways : ByteArray := prog_14_method_64_code
def yX12_ways : MethodName := ⟨RX12, "ways", "(III)I"⟩
abbrev cX12_waysOf : ByteArray := prog_14_method_65_code
def yX12_waysOf : MethodName := ⟨RX12, "waysOf", "(II)I"⟩
abbrev cX12_mayOf : ByteArray := prog_14_method_66_code
def yX12_mayOf : MethodName := ⟨RX12, "mayOf", "(II)I"⟩
abbrev cX12_may : ByteArray := prog_14_method_67_code
def yX12_may : MethodName := ⟨RX12, "may", "(III)I"⟩
abbrev cX12_must : ByteArray := prog_14_method_68_code
def yX12_must : MethodName := ⟨RX12, "must", "(III)I"⟩
abbrev cX12_bareAt : ByteArray := prog_14_method_69_code
def yX12_bareAt : MethodName := ⟨RX12, "bareAt", "(II)I"⟩
abbrev cX12_strandOf : ByteArray := prog_14_method_70_code
def yX12_strandOf : MethodName := ⟨RX12, "strandOf", "(I)I"⟩
abbrev cX12_bare : ByteArray := prog_14_method_71_code
def yX12_bare : MethodName := ⟨RX12, "bare", "(III)I"⟩
abbrev cX12_strand : ByteArray := prog_14_method_72_code
def yX12_strand : MethodName := ⟨RX12, "strand", "(II)I"⟩
abbrev cX12_under : ByteArray := prog_14_method_73_code
def yX12_under : MethodName := ⟨RX12, "under", "(III)I"⟩
abbrev cX12_how : ByteArray := prog_14_method_74_code
def yX12_how : MethodName := ⟨RX12, "how", "(II)I"⟩
abbrev cX12_best : ByteArray := prog_14_method_75_code
def yX12_best : MethodName := ⟨RX12, "best", "(II)I"⟩
abbrev cX12_near : ByteArray := prog_14_method_76_code
def yX12_near : MethodName := ⟨RX12, "near", "(II)I"⟩
abbrev cX12_piles : ByteArray := prog_14_method_77_code
def yX12_piles : MethodName := ⟨RX12, "piles", "(IIII)I"⟩
abbrev cX12_shape : ByteArray := prog_14_method_78_code
def yX12_shape : MethodName := ⟨RX12, "shape", "(IIII)I"⟩
abbrev cX12_inserts : ByteArray := prog_14_method_79_code
def yX12_inserts : MethodName := ⟨RX12, "inserts", "(I)V"⟩
abbrev cX12_findsCommon : ByteArray := prog_14_method_80_code
def yX12_findsCommon : MethodName := ⟨RX12, "findsCommon", "(II)V"⟩
abbrev cX12_common : ByteArray := prog_14_method_81_code
def yX12_common : MethodName := ⟨RX12, "common", "(IIII)I"⟩
abbrev cX12_meets : ByteArray := prog_14_method_82_code
def yX12_meets : MethodName := ⟨RX12, "meets", "(III)I"⟩
abbrev cX12_countOf : ByteArray := prog_14_method_83_code
def yX12_countOf : MethodName := ⟨RX12, "countOf", "([IIII)I"⟩
abbrev cX12_laysCounts : ByteArray := prog_14_method_84_code
def yX12_laysCounts : MethodName := ⟨RX12, "laysCounts", "([II[I)V"⟩
abbrev cX12_laysBraid : ByteArray := prog_14_method_85_code
def yX12_laysBraid : MethodName := ⟨RX12, "laysBraid", "(II[I)V"⟩
abbrev cX12_composes : ByteArray := prog_14_method_86_code
def yX12_composes : MethodName := ⟨RX12, "composes", "(I)V"⟩
abbrev cX12_crossingsOf : ByteArray := prog_14_method_87_code
def yX12_crossingsOf : MethodName := ⟨RX12, "crossingsOf", "(I)I"⟩
abbrev cX12_braid : ByteArray := prog_14_method_88_code
def yX12_braid : MethodName := ⟨RX12, "braid", "(II)I"⟩
abbrev cX12_ends : ByteArray := prog_14_method_89_code
def yX12_ends : MethodName := ⟨RX12, "ends", "(II)I"⟩
abbrev cX12_counts : ByteArray := prog_14_method_90_code
def yX12_counts : MethodName := ⟨RX12, "counts", "(III)I"⟩
abbrev cX12_areAlike : ByteArray := prog_14_method_91_code
def yX12_areAlike : MethodName := ⟨RX12, "areAlike", "(III)Z"⟩
abbrev cX12_compose : ByteArray := prog_14_method_92_code
def yX12_compose : MethodName := ⟨RX12, "compose", "(III)I"⟩
abbrev cX12_powers : ByteArray := prog_14_method_93_code
def yX12_powers : MethodName := ⟨RX12, "powers", "(II)Z"⟩
abbrev cX12_power : ByteArray := prog_14_method_94_code
def yX12_power : MethodName := ⟨RX12, "power", "(III)I"⟩
abbrev cX12_settles : ByteArray := prog_14_method_95_code
def yX12_settles : MethodName := ⟨RX12, "settles", "(I)I"⟩
abbrev cX12_knit : ByteArray := prog_14_method_96_code
def yX12_knit : MethodName := ⟨RX12, "knit", "(II)I"⟩
abbrev cX12_below : ByteArray := prog_14_method_97_code
def yX12_below : MethodName := ⟨RX12, "below", "(II)Z"⟩
abbrev cX12_row : ByteArray := prog_14_method_98_code
def yX12_row : MethodName := ⟨RX12, "row", "(II)I"⟩
abbrev cX12_item : ByteArray := prog_14_method_99_code
def yX12_item : MethodName := ⟨RX12, "item", "(II)I"⟩
abbrev cX12_weight : ByteArray := prog_14_method_100_code
def yX12_weight : MethodName := ⟨RX12, "weight", "(II)I"⟩
abbrev cX12_mayDo : ByteArray := prog_14_method_101_code
def yX12_mayDo : MethodName := ⟨RX12, "mayDo", "(IIII)Z"⟩
abbrev cX12_strandAt : ByteArray := prog_14_method_102_code
def yX12_strandAt : MethodName := ⟨RX12, "strandAt", "(III)I"⟩
abbrev cX12_does : ByteArray := prog_14_method_103_code
def yX12_does : MethodName := ⟨RX12, "does", "(IIII)V"⟩
abbrev cX12_isDone : ByteArray := prog_14_method_104_code
def yX12_isDone : MethodName := ⟨RX12, "isDone", "(III)Z"⟩
abbrev cX12_append : ByteArray := prog_14_method_105_code
def yX12_append : MethodName := ⟨RX12, "append", "(II)I"⟩
abbrev cX12_cut : ByteArray := prog_14_method_106_code
def yX12_cut : MethodName := ⟨RX12, "cut", "(I)I"⟩
abbrev cX12_turn : ByteArray := prog_14_method_107_code
def yX12_turn : MethodName := ⟨RX12, "turn", "(I)Z"⟩
abbrev cX12_cross : ByteArray := prog_14_method_108_code
def yX12_cross : MethodName := ⟨RX12, "cross", "(II)Z"⟩
abbrev cX12_keep : ByteArray := prog_14_method_109_code
def yX12_keep : MethodName := ⟨RX12, "keep", "(II)I"⟩
abbrev cX12_undo : ByteArray := prog_14_method_110_code
def yX12_undo : MethodName := ⟨RX12, "undo", "()Z"⟩
abbrev cX12_numbersOf : ByteArray := prog_14_method_111_code
def yX12_numbersOf : MethodName := ⟨RX12, "numbersOf", "(I)I"⟩
abbrev cX12_judged : ByteArray := prog_14_method_112_code
def yX12_judged : MethodName := ⟨RX12, "judged", "(I)I"⟩
abbrev cX12_see : ByteArray := prog_14_method_113_code
def yX12_see : MethodName := ⟨RX12, "see", "(IIZ)Z"⟩
abbrev cX12_isAsSeen : ByteArray := prog_14_method_114_code
def yX12_isAsSeen : MethodName := ⟨RX12, "isAsSeen", "(III)Z"⟩
abbrev cX12_fitting : ByteArray := prog_14_method_115_code
def yX12_fitting : MethodName := ⟨RX12, "fitting", "(I)I"⟩
abbrev cX12_fits : ByteArray := prog_14_method_116_code
def yX12_fits : MethodName := ⟨RX12, "fits", "(I)I"⟩
abbrev cX12_first : ByteArray := prog_14_method_117_code
def yX12_first : MethodName := ⟨RX12, "first", "(I)I"⟩
abbrev cX12_ask : ByteArray := prog_14_method_118_code
def yX12_ask : MethodName := ⟨RX12, "ask", "(I)I"⟩
abbrev cX12_draw : ByteArray := prog_14_method_119_code
def yX12_draw : MethodName := ⟨RX12, "draw", "(I)I"⟩
abbrev cX12_drawn : ByteArray := prog_14_method_120_code
def yX12_drawn : MethodName := ⟨RX12, "drawn", "(IIII)I"⟩
abbrev cX12_mark : ByteArray := prog_14_method_121_code
def yX12_mark : MethodName := ⟨RX12, "mark", "(IZ)Z"⟩
abbrev cX12_count : ByteArray := prog_14_method_122_code
def yX12_count : MethodName := ⟨RX12, "count", "(I)I"⟩
def RJx145de : String := "java/io/Serializable"
def RJx9f9b0 : String := "java/lang/CharSequence"
def RJ11 : String := "java/lang/Character"
abbrev cJ11_isValidCodePoint_9a6ad : ByteArray := prog_17_method_11_code
def yJ11_isValidCodePoint_9a6ad : MethodName := ⟨RJ11, "isValidCodePoint", "(I)Z"⟩
abbrev cJ11_highSurrogate_5068e : ByteArray := prog_17_method_28_code
def yJ11_highSurrogate_5068e : MethodName := ⟨RJ11, "highSurrogate", "(I)C"⟩
abbrev cJ11_lowSurrogate_5068e : ByteArray := prog_17_method_29_code
def yJ11_lowSurrogate_5068e : MethodName := ⟨RJ11, "lowSurrogate", "(I)C"⟩
def RJxb160c : String := "java/lang/Comparable"
def RJ9 : String := "java/lang/Math"
abbrev cJ9_max_7cf53 : ByteArray := prog_20_method_65_code
def yJ9_max_7cf53 : MethodName := ⟨RJ9, "max", "(II)I"⟩
abbrev cJ9_min_7cf53 : ByteArray := prog_20_method_69_code
def yJ9_min_7cf53 : MethodName := ⟨RJ9, "min", "(II)I"⟩
abbrev cJ9_min_f86c9 : ByteArray := prog_20_method_70_code
def yJ9_min_f86c9 : MethodName := ⟨RJ9, "min", "(JJ)J"⟩
def RJ0 : String := "java/lang/String"
abbrev cJ0_length_8abf5 : ByteArray := prog_22_method_54_code
def yJ0_length_8abf5 : MethodName := ⟨RJ0, "length", "()I"⟩
abbrev cJ0_charAt_5068e : ByteArray := prog_22_method_56_code
def yJ0_charAt_5068e : MethodName := ⟨RJ0, "charAt", "(I)C"⟩
abbrev cJ0_indexOf_0f7a4 : ByteArray := prog_22_method_79_code
def yJ0_indexOf_0f7a4 : MethodName := ⟨RJ0, "indexOf", "(I)I"⟩
abbrev cJ0_indexOf_7cf53 : ByteArray := prog_22_method_80_code
def yJ0_indexOf_7cf53 : MethodName := ⟨RJ0, "indexOf", "(II)I"⟩
abbrev cJ0_coder_7d493 : ByteArray := prog_22_method_152_code
def yJ0_coder_7d493 : MethodName := ⟨RJ0, "coder", "()B"⟩
abbrev cJ0_isLatin1_aae02 : ByteArray := prog_22_method_154_code
def yJ0_isLatin1_aae02 : MethodName := ⟨RJ0, "isLatin1", "()Z"⟩
abbrev cJ0_checkIndex_df160 : ByteArray := prog_22_method_155_code
def yJ0_checkIndex_df160 : MethodName := ⟨RJ0, "checkIndex", "(II)V"⟩
abbrev cJ0_checkBoundsBeginEnd_23922 : ByteArray := prog_22_method_158_code
def yJ0_checkBoundsBeginEnd_23922 : MethodName := ⟨RJ0, "checkBoundsBeginEnd", "(III)V"⟩
def RJ1 : String := "java/lang/StringLatin1"
abbrev cJ1_charAt_3b067 : ByteArray := prog_23_method_2_code
def yJ1_charAt_3b067 : MethodName := ⟨RJ1, "charAt", "([BI)C"⟩
abbrev cJ1_canEncode_9a6ad : ByteArray := prog_23_method_4_code
def yJ1_canEncode_9a6ad : MethodName := ⟨RJ1, "canEncode", "(I)Z"⟩
abbrev cJ1_indexOf_4cfef : ByteArray := prog_23_method_22_code
def yJ1_indexOf_4cfef : MethodName := ⟨RJ1, "indexOf", "([BIII)I"⟩
abbrev cJ1_indexOfChar_4cfef : ByteArray := prog_23_method_23_code
def yJ1_indexOfChar_4cfef : MethodName := ⟨RJ1, "indexOfChar", "([BIII)I"⟩
def RJ2 : String := "java/lang/StringUTF16"
abbrev cJ2_getChar_3b067 : ByteArray := prog_24_method_5_code
def yJ2_getChar_3b067 : MethodName := ⟨RJ2, "getChar", "([BI)C"⟩
abbrev cJ2_length_9d52b : ByteArray := prog_24_method_6_code
def yJ2_length_9d52b : MethodName := ⟨RJ2, "length", "([B)I"⟩
abbrev cJ2_indexOf_4cfef : ByteArray := prog_24_method_40_code
def yJ2_indexOf_4cfef : MethodName := ⟨RJ2, "indexOf", "([BIII)I"⟩
abbrev cJ2_indexOfChar_4cfef : ByteArray := prog_24_method_47_code
def yJ2_indexOfChar_4cfef : MethodName := ⟨RJ2, "indexOfChar", "([BIII)I"⟩
abbrev cJ2_indexOfCharUnsafe_4cfef : ByteArray := prog_24_method_48_code
def yJ2_indexOfCharUnsafe_4cfef : MethodName := ⟨RJ2, "indexOfCharUnsafe", "([BIII)I"⟩
abbrev cJ2_indexOfSupplementary_4cfef : ByteArray := prog_24_method_49_code
def yJ2_indexOfSupplementary_4cfef : MethodName := ⟨RJ2, "indexOfSupplementary", "([BIII)I"⟩
abbrev cJ2_charAt_3b067 : ByteArray := prog_24_method_83_code
def yJ2_charAt_3b067 : MethodName := ⟨RJ2, "charAt", "([BI)C"⟩
abbrev cJ2_checkIndex_2214a : ByteArray := prog_24_method_91_code
def yJ2_checkIndex_2214a : MethodName := ⟨RJ2, "checkIndex", "(I[B)V"⟩
abbrev cJ2_checkBoundsBeginEnd_d044e : ByteArray := prog_24_method_93_code
def yJ2_checkBoundsBeginEnd_d044e : MethodName := ⟨RJ2, "checkBoundsBeginEnd", "(II[B)V"⟩
def RJ10 : String := "java/lang/System"
def RJxfd54e : String := "java/lang/constant/Constable"
def RJx3cf43 : String := "java/lang/constant/ConstantDesc"
def RJ3 : String := "jdk/internal/util/Preconditions"
abbrev cJ3_checkIndex_8e157 : ByteArray := prog_30_method_11_code
def yJ3_checkIndex_8e157 : MethodName := ⟨RJ3, "checkIndex", "(IILjava/util/function/BiFunction;)I"⟩
abbrev cJ3_checkFromToIndex_8c36e : ByteArray := prog_30_method_12_code
def yJ3_checkFromToIndex_8c36e : MethodName := ⟨RJ3, "checkFromToIndex", "(IIILjava/util/function/BiFunction;)I"⟩
def RL : String := "ChainIndexLaw"
abbrev cL_weight : ByteArray := method_3_code
def yL_weight : MethodName := ⟨RL, "weight", "(LChainIndex;II[J)I"⟩
abbrev cL_law : ByteArray := code
def yL_law : MethodName := ⟨RL, "law", "([I)Z"⟩
abbrev vwCl : List vw_C := [(RX0, TX0, 4), (RX1, TX1, 9), (RX2, TX2, 6), (RX3, TX3, 4), (RX4, TX4, 3), (RX5, TX5, 10), (RX6, TX6, 4), (RX7, TX7, 8), (RX8, TX8, 3), (RX9, TX9, 9), (RX10, TX10, 3), (RX11, TX11, 18), (RX12, TX12, 42)]
theorem inX0 : ∀ w ∈ u_ws RX0 TX0 4, w ∈ lw_tbl := by decide +kernel
theorem inX1 : ∀ w ∈ u_ws RX1 TX1 9, w ∈ lw_tbl := by decide +kernel
theorem inX2 : ∀ w ∈ u_ws RX2 TX2 6, w ∈ lw_tbl := by decide +kernel
theorem inX3 : ∀ w ∈ u_ws RX3 TX3 4, w ∈ lw_tbl := by decide +kernel
theorem inX4 : ∀ w ∈ u_ws RX4 TX4 3, w ∈ lw_tbl := by decide +kernel
theorem inX5 : ∀ w ∈ u_ws RX5 TX5 10, w ∈ lw_tbl := by decide +kernel
theorem inX6 : ∀ w ∈ u_ws RX6 TX6 4, w ∈ lw_tbl := by decide +kernel
theorem inX7 : ∀ w ∈ u_ws RX7 TX7 8, w ∈ lw_tbl := by decide +kernel
theorem inX8 : ∀ w ∈ u_ws RX8 TX8 3, w ∈ lw_tbl := by decide +kernel
theorem inX9 : ∀ w ∈ u_ws RX9 TX9 9, w ∈ lw_tbl := by decide +kernel
theorem inX10 : ∀ w ∈ u_ws RX10 TX10 3, w ∈ lw_tbl := by decide +kernel
theorem inX11 : ∀ w ∈ u_ws RX11 TX11 18, w ∈ lw_tbl := by decide +kernel
theorem inX12 : ∀ w ∈ u_ws RX12 TX12 42, w ∈ lw_tbl := by decide +kernel
