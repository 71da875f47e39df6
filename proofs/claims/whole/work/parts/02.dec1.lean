/-! ===== decode rows, the class ===== -/
theorem dX0_init_0 : decode cX0_init 0 = .ok (.aload_n 0, 1) := by decide +kernel
theorem dX0_init_1 : decode cX0_init 1 = .ok (.invokespecial 3, 3) := by decide +kernel
theorem dX0_init_4 : decode cX0_init 4 = .ok (.aload_n 0, 1) := by decide +kernel
theorem dX0_init_5 : decode cX0_init 5 = .ok (.bipush 10, 2) := by decide +kernel
theorem dX0_init_7 : decode cX0_init 7 = .ok (.newarray .int, 2) := by decide +kernel
theorem dX0_init_9 : decode cX0_init 9 = .ok (.putfield 9, 3) := by decide +kernel
theorem dX0_init_12 : decode cX0_init 12 = .ok (.return_, 1) := by decide +kernel
theorem dX0_hasStrand_0 : decode cX0_hasStrand 0 = .ok (.iload_n 1, 1) := by decide +kernel
theorem dX0_hasStrand_1 : decode cX0_hasStrand 1 = .ok (.ifCond .lt 24, 3) := by decide +kernel
theorem dX0_hasStrand_4 : decode cX0_hasStrand 4 = .ok (.iload_n 1, 1) := by decide +kernel
theorem dX0_hasStrand_5 : decode cX0_hasStrand 5 = .ok (.aload_n 0, 1) := by decide +kernel
theorem dX0_hasStrand_6 : decode cX0_hasStrand 6 = .ok (.getfield 15, 3) := by decide +kernel
theorem dX0_hasStrand_9 : decode cX0_hasStrand 9 = .ok (.if_icmp .ge 16, 3) := by decide +kernel
theorem dX0_hasStrand_12 : decode cX0_hasStrand 12 = .ok (.iload_n 1, 1) := by decide +kernel
theorem dX0_hasStrand_13 : decode cX0_hasStrand 13 = .ok (.aload_n 0, 1) := by decide +kernel
theorem dX0_hasStrand_14 : decode cX0_hasStrand 14 = .ok (.getfield 9, 3) := by decide +kernel
theorem dX0_hasStrand_17 : decode cX0_hasStrand 17 = .ok (.arraylength, 1) := by decide +kernel
theorem dX0_hasStrand_18 : decode cX0_hasStrand 18 = .ok (.if_icmp .ge 7, 3) := by decide +kernel
theorem dX0_hasStrand_21 : decode cX0_hasStrand 21 = .ok (.iconst 1, 1) := by decide +kernel
theorem dX0_hasStrand_22 : decode cX0_hasStrand 22 = .ok (.goto 4, 3) := by decide +kernel
theorem dX0_hasStrand_25 : decode cX0_hasStrand 25 = .ok (.iconst 0, 1) := by decide +kernel
theorem dX0_hasStrand_26 : decode cX0_hasStrand 26 = .ok (.ireturn, 1) := by decide +kernel
theorem dX0_addStrand_0 : decode cX0_addStrand 0 = .ok (.aload_n 0, 1) := by decide +kernel
theorem dX0_addStrand_1 : decode cX0_addStrand 1 = .ok (.getfield 15, 3) := by decide +kernel
theorem dX0_addStrand_4 : decode cX0_addStrand 4 = .ok (.ifCond .lt 15, 3) := by decide +kernel
theorem dX0_addStrand_7 : decode cX0_addStrand 7 = .ok (.aload_n 0, 1) := by decide +kernel
theorem dX0_addStrand_8 : decode cX0_addStrand 8 = .ok (.getfield 15, 3) := by decide +kernel
theorem dX0_addStrand_11 : decode cX0_addStrand 11 = .ok (.aload_n 0, 1) := by decide +kernel
theorem dX0_addStrand_12 : decode cX0_addStrand 12 = .ok (.getfield 9, 3) := by decide +kernel
theorem dX0_addStrand_15 : decode cX0_addStrand 15 = .ok (.arraylength, 1) := by decide +kernel
theorem dX0_addStrand_16 : decode cX0_addStrand 16 = .ok (.if_icmp .lt 5, 3) := by decide +kernel
theorem dX0_addStrand_19 : decode cX0_addStrand 19 = .ok (.iconst 0, 1) := by decide +kernel
theorem dX0_addStrand_20 : decode cX0_addStrand 20 = .ok (.ireturn, 1) := by decide +kernel
theorem dX0_addStrand_21 : decode cX0_addStrand 21 = .ok (.aload_n 0, 1) := by decide +kernel
theorem dX0_addStrand_22 : decode cX0_addStrand 22 = .ok (.getfield 9, 3) := by decide +kernel
theorem dX0_addStrand_25 : decode cX0_addStrand 25 = .ok (.aload_n 0, 1) := by decide +kernel
theorem dX0_addStrand_26 : decode cX0_addStrand 26 = .ok (.getfield 15, 3) := by decide +kernel
theorem dX0_addStrand_29 : decode cX0_addStrand 29 = .ok (.iload_n 1, 1) := by decide +kernel
theorem dX0_addStrand_30 : decode cX0_addStrand 30 = .ok (.iastore, 1) := by decide +kernel
theorem dX0_addStrand_31 : decode cX0_addStrand 31 = .ok (.aload_n 0, 1) := by decide +kernel
theorem dX0_addStrand_32 : decode cX0_addStrand 32 = .ok (.dup, 1) := by decide +kernel
theorem dX0_addStrand_33 : decode cX0_addStrand 33 = .ok (.getfield 15, 3) := by decide +kernel
theorem dX0_addStrand_36 : decode cX0_addStrand 36 = .ok (.iconst 1, 1) := by decide +kernel
theorem dX0_addStrand_37 : decode cX0_addStrand 37 = .ok (.iadd, 1) := by decide +kernel
theorem dX0_addStrand_38 : decode cX0_addStrand 38 = .ok (.putfield 15, 3) := by decide +kernel
theorem dX0_addStrand_41 : decode cX0_addStrand 41 = .ok (.iconst 1, 1) := by decide +kernel
theorem dX0_addStrand_42 : decode cX0_addStrand 42 = .ok (.ireturn, 1) := by decide +kernel
theorem dX0_strandAt_0 : decode cX0_strandAt 0 = .ok (.iconst 0, 1) := by decide +kernel
theorem dX0_strandAt_1 : decode cX0_strandAt 1 = .ok (.istore_n 2, 1) := by decide +kernel
theorem dX0_strandAt_2 : decode cX0_strandAt 2 = .ok (.iload_n 2, 1) := by decide +kernel
theorem dX0_strandAt_3 : decode cX0_strandAt 3 = .ok (.aload_n 0, 1) := by decide +kernel
theorem dX0_strandAt_4 : decode cX0_strandAt 4 = .ok (.getfield 15, 3) := by decide +kernel
theorem dX0_strandAt_7 : decode cX0_strandAt 7 = .ok (.if_icmp .ge 21, 3) := by decide +kernel
theorem dX0_strandAt_10 : decode cX0_strandAt 10 = .ok (.aload_n 0, 1) := by decide +kernel
theorem dX0_strandAt_11 : decode cX0_strandAt 11 = .ok (.getfield 9, 3) := by decide +kernel
theorem dX0_strandAt_14 : decode cX0_strandAt 14 = .ok (.iload_n 2, 1) := by decide +kernel
theorem dX0_strandAt_15 : decode cX0_strandAt 15 = .ok (.iaload, 1) := by decide +kernel
theorem dX0_strandAt_16 : decode cX0_strandAt 16 = .ok (.iload_n 1, 1) := by decide +kernel
theorem dX0_strandAt_17 : decode cX0_strandAt 17 = .ok (.if_icmp .ne 5, 3) := by decide +kernel
theorem dX0_strandAt_20 : decode cX0_strandAt 20 = .ok (.iload_n 2, 1) := by decide +kernel
theorem dX0_strandAt_21 : decode cX0_strandAt 21 = .ok (.ireturn, 1) := by decide +kernel
theorem dX0_strandAt_22 : decode cX0_strandAt 22 = .ok (.iinc 2 1, 3) := by decide +kernel
theorem dX0_strandAt_25 : decode cX0_strandAt 25 = .ok (.goto (-23), 3) := by decide +kernel
theorem dX0_strandAt_28 : decode cX0_strandAt 28 = .ok (.iconst (-1), 1) := by decide +kernel
theorem dX0_strandAt_29 : decode cX0_strandAt 29 = .ok (.ireturn, 1) := by decide +kernel
theorem dX0_isWhole_0 : decode cX0_isWhole 0 = .ok (.iconst 0, 1) := by decide +kernel
theorem dX0_isWhole_1 : decode cX0_isWhole 1 = .ok (.istore_n 1, 1) := by decide +kernel
theorem dX0_isWhole_2 : decode cX0_isWhole 2 = .ok (.iload_n 1, 1) := by decide +kernel
theorem dX0_isWhole_3 : decode cX0_isWhole 3 = .ok (.aload_n 0, 1) := by decide +kernel
theorem dX0_isWhole_4 : decode cX0_isWhole 4 = .ok (.getfield 15, 3) := by decide +kernel
theorem dX0_isWhole_7 : decode cX0_isWhole 7 = .ok (.if_icmp .ge 24, 3) := by decide +kernel
theorem dX0_isWhole_10 : decode cX0_isWhole 10 = .ok (.aload_n 0, 1) := by decide +kernel
theorem dX0_isWhole_11 : decode cX0_isWhole 11 = .ok (.getfield 9, 3) := by decide +kernel
theorem dX0_isWhole_14 : decode cX0_isWhole 14 = .ok (.iload_n 1, 1) := by decide +kernel
theorem dX0_isWhole_15 : decode cX0_isWhole 15 = .ok (.iaload, 1) := by decide +kernel
theorem dX0_isWhole_16 : decode cX0_isWhole 16 = .ok (.aload_n 0, 1) := by decide +kernel
theorem dX0_isWhole_17 : decode cX0_isWhole 17 = .ok (.getfield 15, 3) := by decide +kernel
theorem dX0_isWhole_20 : decode cX0_isWhole 20 = .ok (.if_icmp .lt 5, 3) := by decide +kernel
theorem dX0_isWhole_23 : decode cX0_isWhole 23 = .ok (.iconst 0, 1) := by decide +kernel
theorem dX0_isWhole_24 : decode cX0_isWhole 24 = .ok (.ireturn, 1) := by decide +kernel
theorem dX0_isWhole_25 : decode cX0_isWhole 25 = .ok (.iinc 1 1, 3) := by decide +kernel
theorem dX0_isWhole_28 : decode cX0_isWhole 28 = .ok (.goto (-26), 3) := by decide +kernel
theorem dX0_isWhole_31 : decode cX0_isWhole 31 = .ok (.iconst 1, 1) := by decide +kernel
theorem dX0_isWhole_32 : decode cX0_isWhole 32 = .ok (.ireturn, 1) := by decide +kernel
theorem dX0_crossAt_0 : decode cX0_crossAt 0 = .ok (.aload_n 0, 1) := by decide +kernel
theorem dX0_crossAt_1 : decode cX0_crossAt 1 = .ok (.iload_n 1, 1) := by decide +kernel
theorem dX0_crossAt_2 : decode cX0_crossAt 2 = .ok (.invokevirtual 19, 3) := by decide +kernel
theorem dX0_crossAt_5 : decode cX0_crossAt 5 = .ok (.aload_n 0, 1) := by decide +kernel
theorem dX0_crossAt_6 : decode cX0_crossAt 6 = .ok (.iload_n 1, 1) := by decide +kernel
theorem dX0_crossAt_7 : decode cX0_crossAt 7 = .ok (.iconst 1, 1) := by decide +kernel
theorem dX0_crossAt_8 : decode cX0_crossAt 8 = .ok (.iadd, 1) := by decide +kernel
theorem dX0_crossAt_9 : decode cX0_crossAt 9 = .ok (.invokevirtual 19, 3) := by decide +kernel
theorem dX0_crossAt_12 : decode cX0_crossAt 12 = .ok (.if_icmp .le 5, 3) := by decide +kernel
theorem dX0_crossAt_15 : decode cX0_crossAt 15 = .ok (.iconst 0, 1) := by decide +kernel
theorem dX0_crossAt_16 : decode cX0_crossAt 16 = .ok (.ireturn, 1) := by decide +kernel
theorem dX0_crossAt_17 : decode cX0_crossAt 17 = .ok (.aload_n 0, 1) := by decide +kernel
theorem dX0_crossAt_18 : decode cX0_crossAt 18 = .ok (.iload_n 1, 1) := by decide +kernel
theorem dX0_crossAt_19 : decode cX0_crossAt 19 = .ok (.invokevirtual 23, 3) := by decide +kernel
theorem dX0_crossAt_22 : decode cX0_crossAt 22 = .ok (.ireturn, 1) := by decide +kernel
theorem dX0_exchangeAt_0 : decode cX0_exchangeAt 0 = .ok (.aload_n 0, 1) := by decide +kernel
theorem dX0_exchangeAt_1 : decode cX0_exchangeAt 1 = .ok (.iload_n 1, 1) := by decide +kernel
theorem dX0_exchangeAt_2 : decode cX0_exchangeAt 2 = .ok (.invokevirtual 19, 3) := by decide +kernel
theorem dX0_exchangeAt_5 : decode cX0_exchangeAt 5 = .ok (.istore_n 2, 1) := by decide +kernel
theorem dX0_exchangeAt_6 : decode cX0_exchangeAt 6 = .ok (.aload_n 0, 1) := by decide +kernel
theorem dX0_exchangeAt_7 : decode cX0_exchangeAt 7 = .ok (.iload_n 1, 1) := by decide +kernel
theorem dX0_exchangeAt_8 : decode cX0_exchangeAt 8 = .ok (.iconst 1, 1) := by decide +kernel
theorem dX0_exchangeAt_9 : decode cX0_exchangeAt 9 = .ok (.iadd, 1) := by decide +kernel
theorem dX0_exchangeAt_10 : decode cX0_exchangeAt 10 = .ok (.invokevirtual 19, 3) := by decide +kernel
theorem dX0_exchangeAt_13 : decode cX0_exchangeAt 13 = .ok (.istore_n 3, 1) := by decide +kernel
theorem dX0_exchangeAt_14 : decode cX0_exchangeAt 14 = .ok (.iload_n 2, 1) := by decide +kernel
theorem dX0_exchangeAt_15 : decode cX0_exchangeAt 15 = .ok (.iconst (-1), 1) := by decide +kernel
theorem dX0_exchangeAt_16 : decode cX0_exchangeAt 16 = .ok (.if_icmp .eq 8, 3) := by decide +kernel
theorem dX0_exchangeAt_19 : decode cX0_exchangeAt 19 = .ok (.iload_n 3, 1) := by decide +kernel
theorem dX0_exchangeAt_20 : decode cX0_exchangeAt 20 = .ok (.iconst (-1), 1) := by decide +kernel
theorem dX0_exchangeAt_21 : decode cX0_exchangeAt 21 = .ok (.if_icmp .ne 5, 3) := by decide +kernel
theorem dX0_exchangeAt_24 : decode cX0_exchangeAt 24 = .ok (.iconst 0, 1) := by decide +kernel
theorem dX0_exchangeAt_25 : decode cX0_exchangeAt 25 = .ok (.ireturn, 1) := by decide +kernel
theorem dX0_exchangeAt_26 : decode cX0_exchangeAt 26 = .ok (.aload_n 0, 1) := by decide +kernel
theorem dX0_exchangeAt_27 : decode cX0_exchangeAt 27 = .ok (.getfield 9, 3) := by decide +kernel
theorem dX0_exchangeAt_30 : decode cX0_exchangeAt 30 = .ok (.iload_n 2, 1) := by decide +kernel
theorem dX0_exchangeAt_31 : decode cX0_exchangeAt 31 = .ok (.iload_n 1, 1) := by decide +kernel
theorem dX0_exchangeAt_32 : decode cX0_exchangeAt 32 = .ok (.iconst 1, 1) := by decide +kernel
theorem dX0_exchangeAt_33 : decode cX0_exchangeAt 33 = .ok (.iadd, 1) := by decide +kernel
theorem dX0_exchangeAt_34 : decode cX0_exchangeAt 34 = .ok (.iastore, 1) := by decide +kernel
theorem dX0_exchangeAt_35 : decode cX0_exchangeAt 35 = .ok (.aload_n 0, 1) := by decide +kernel
theorem dX0_exchangeAt_36 : decode cX0_exchangeAt 36 = .ok (.getfield 9, 3) := by decide +kernel
theorem dX0_exchangeAt_39 : decode cX0_exchangeAt 39 = .ok (.iload_n 3, 1) := by decide +kernel
theorem dX0_exchangeAt_40 : decode cX0_exchangeAt 40 = .ok (.iload_n 1, 1) := by decide +kernel
theorem dX0_exchangeAt_41 : decode cX0_exchangeAt 41 = .ok (.iastore, 1) := by decide +kernel
theorem dX0_exchangeAt_42 : decode cX0_exchangeAt 42 = .ok (.iconst 1, 1) := by decide +kernel
theorem dX0_exchangeAt_43 : decode cX0_exchangeAt 43 = .ok (.ireturn, 1) := by decide +kernel
theorem dX0_crossings_0 : decode cX0_crossings 0 = .ok (.iconst 0, 1) := by decide +kernel
theorem dX0_crossings_1 : decode cX0_crossings 1 = .ok (.istore_n 1, 1) := by decide +kernel
theorem dX0_crossings_2 : decode cX0_crossings 2 = .ok (.iconst 1, 1) := by decide +kernel
theorem dX0_crossings_3 : decode cX0_crossings 3 = .ok (.istore_n 2, 1) := by decide +kernel
theorem dX0_crossings_4 : decode cX0_crossings 4 = .ok (.iload_n 2, 1) := by decide +kernel
theorem dX0_crossings_5 : decode cX0_crossings 5 = .ok (.aload_n 0, 1) := by decide +kernel
theorem dX0_crossings_6 : decode cX0_crossings 6 = .ok (.getfield 15, 3) := by decide +kernel
theorem dX0_crossings_9 : decode cX0_crossings 9 = .ok (.if_icmp .ge 40, 3) := by decide +kernel
theorem dX0_crossings_12 : decode cX0_crossings 12 = .ok (.iconst 0, 1) := by decide +kernel
theorem dX0_crossings_13 : decode cX0_crossings 13 = .ok (.istore_n 3, 1) := by decide +kernel
theorem dX0_crossings_14 : decode cX0_crossings 14 = .ok (.iload_n 3, 1) := by decide +kernel
theorem dX0_crossings_15 : decode cX0_crossings 15 = .ok (.iload_n 2, 1) := by decide +kernel
theorem dX0_crossings_16 : decode cX0_crossings 16 = .ok (.if_icmp .ge 27, 3) := by decide +kernel
theorem dX0_crossings_19 : decode cX0_crossings 19 = .ok (.aload_n 0, 1) := by decide +kernel
theorem dX0_crossings_20 : decode cX0_crossings 20 = .ok (.getfield 9, 3) := by decide +kernel
theorem dX0_crossings_23 : decode cX0_crossings 23 = .ok (.iload_n 2, 1) := by decide +kernel
theorem dX0_crossings_24 : decode cX0_crossings 24 = .ok (.iaload, 1) := by decide +kernel
theorem dX0_crossings_25 : decode cX0_crossings 25 = .ok (.aload_n 0, 1) := by decide +kernel
theorem dX0_crossings_26 : decode cX0_crossings 26 = .ok (.getfield 9, 3) := by decide +kernel
theorem dX0_crossings_29 : decode cX0_crossings 29 = .ok (.iload_n 3, 1) := by decide +kernel
theorem dX0_crossings_30 : decode cX0_crossings 30 = .ok (.iaload, 1) := by decide +kernel
theorem dX0_crossings_31 : decode cX0_crossings 31 = .ok (.if_icmp .ge 6, 3) := by decide +kernel
theorem dX0_crossings_34 : decode cX0_crossings 34 = .ok (.iinc 1 1, 3) := by decide +kernel
theorem dX0_crossings_37 : decode cX0_crossings 37 = .ok (.iinc 3 1, 3) := by decide +kernel
theorem dX0_crossings_40 : decode cX0_crossings 40 = .ok (.goto (-26), 3) := by decide +kernel
theorem dX0_crossings_43 : decode cX0_crossings 43 = .ok (.iinc 2 1, 3) := by decide +kernel
theorem dX0_crossings_46 : decode cX0_crossings 46 = .ok (.goto (-42), 3) := by decide +kernel
theorem dX0_crossings_49 : decode cX0_crossings 49 = .ok (.iload_n 1, 1) := by decide +kernel
theorem dX0_crossings_50 : decode cX0_crossings 50 = .ok (.ireturn, 1) := by decide +kernel
theorem dX0_countOf_0 : decode cX0_countOf 0 = .ok (.iconst 0, 1) := by decide +kernel
theorem dX0_countOf_1 : decode cX0_countOf 1 = .ok (.istore_n 3, 1) := by decide +kernel
theorem dX0_countOf_2 : decode cX0_countOf 2 = .ok (.iload_n 1, 1) := by decide +kernel
theorem dX0_countOf_3 : decode cX0_countOf 3 = .ok (.iconst 0, 1) := by decide +kernel
theorem dX0_countOf_4 : decode cX0_countOf 4 = .ok (.invokestatic 27, 3) := by decide +kernel
theorem dX0_countOf_7 : decode cX0_countOf 7 = .ok (.istore 4, 2) := by decide +kernel
theorem dX0_countOf_9 : decode cX0_countOf 9 = .ok (.iload 4, 2) := by decide +kernel
theorem dX0_countOf_11 : decode cX0_countOf 11 = .ok (.aload_n 0, 1) := by decide +kernel
theorem dX0_countOf_12 : decode cX0_countOf 12 = .ok (.getfield 15, 3) := by decide +kernel
theorem dX0_countOf_15 : decode cX0_countOf 15 = .ok (.if_icmp .ge 23, 3) := by decide +kernel
theorem dX0_countOf_18 : decode cX0_countOf 18 = .ok (.aload_n 0, 1) := by decide +kernel
theorem dX0_countOf_19 : decode cX0_countOf 19 = .ok (.getfield 9, 3) := by decide +kernel
theorem dX0_countOf_22 : decode cX0_countOf 22 = .ok (.iload 4, 2) := by decide +kernel
theorem dX0_countOf_24 : decode cX0_countOf 24 = .ok (.iaload, 1) := by decide +kernel
theorem dX0_countOf_25 : decode cX0_countOf 25 = .ok (.iload_n 2, 1) := by decide +kernel
theorem dX0_countOf_26 : decode cX0_countOf 26 = .ok (.if_icmp .ge 6, 3) := by decide +kernel
theorem dX0_countOf_29 : decode cX0_countOf 29 = .ok (.iinc 3 1, 3) := by decide +kernel
theorem dX0_countOf_32 : decode cX0_countOf 32 = .ok (.iinc 4 1, 3) := by decide +kernel
theorem dX0_countOf_35 : decode cX0_countOf 35 = .ok (.goto (-26), 3) := by decide +kernel
theorem dX0_countOf_38 : decode cX0_countOf 38 = .ok (.iload_n 3, 1) := by decide +kernel
theorem dX0_countOf_39 : decode cX0_countOf 39 = .ok (.ireturn, 1) := by decide +kernel
theorem dX0_isSame_0 : decode cX0_isSame 0 = .ok (.iconst 0, 1) := by decide +kernel
theorem dX0_isSame_1 : decode cX0_isSame 1 = .ok (.istore_n 2, 1) := by decide +kernel
theorem dX0_isSame_2 : decode cX0_isSame 2 = .ok (.iload_n 2, 1) := by decide +kernel
theorem dX0_isSame_3 : decode cX0_isSame 3 = .ok (.aload_n 0, 1) := by decide +kernel
theorem dX0_isSame_4 : decode cX0_isSame 4 = .ok (.getfield 15, 3) := by decide +kernel
theorem dX0_isSame_7 : decode cX0_isSame 7 = .ok (.if_icmp .ge 26, 3) := by decide +kernel
theorem dX0_isSame_10 : decode cX0_isSame 10 = .ok (.aload_n 0, 1) := by decide +kernel
theorem dX0_isSame_11 : decode cX0_isSame 11 = .ok (.getfield 9, 3) := by decide +kernel
theorem dX0_isSame_14 : decode cX0_isSame 14 = .ok (.iload_n 2, 1) := by decide +kernel
theorem dX0_isSame_15 : decode cX0_isSame 15 = .ok (.iaload, 1) := by decide +kernel
theorem dX0_isSame_16 : decode cX0_isSame 16 = .ok (.aload_n 1, 1) := by decide +kernel
theorem dX0_isSame_17 : decode cX0_isSame 17 = .ok (.getfield 9, 3) := by decide +kernel
theorem dX0_isSame_20 : decode cX0_isSame 20 = .ok (.iload_n 2, 1) := by decide +kernel
theorem dX0_isSame_21 : decode cX0_isSame 21 = .ok (.iaload, 1) := by decide +kernel
theorem dX0_isSame_22 : decode cX0_isSame 22 = .ok (.if_icmp .eq 5, 3) := by decide +kernel
theorem dX0_isSame_25 : decode cX0_isSame 25 = .ok (.iconst 0, 1) := by decide +kernel
theorem dX0_isSame_26 : decode cX0_isSame 26 = .ok (.ireturn, 1) := by decide +kernel
theorem dX0_isSame_27 : decode cX0_isSame 27 = .ok (.iinc 2 1, 3) := by decide +kernel
theorem dX0_isSame_30 : decode cX0_isSame 30 = .ok (.goto (-28), 3) := by decide +kernel
theorem dX0_isSame_33 : decode cX0_isSame 33 = .ok (.aload_n 0, 1) := by decide +kernel
theorem dX0_isSame_34 : decode cX0_isSame 34 = .ok (.getfield 15, 3) := by decide +kernel
theorem dX0_isSame_37 : decode cX0_isSame 37 = .ok (.aload_n 1, 1) := by decide +kernel
theorem dX0_isSame_38 : decode cX0_isSame 38 = .ok (.getfield 15, 3) := by decide +kernel
theorem dX0_isSame_41 : decode cX0_isSame 41 = .ok (.if_icmp .ne 7, 3) := by decide +kernel
theorem dX0_isSame_44 : decode cX0_isSame 44 = .ok (.iconst 1, 1) := by decide +kernel
theorem dX0_isSame_45 : decode cX0_isSame 45 = .ok (.goto 4, 3) := by decide +kernel
theorem dX0_isSame_48 : decode cX0_isSame 48 = .ok (.iconst 0, 1) := by decide +kernel
theorem dX0_isSame_49 : decode cX0_isSame 49 = .ok (.ireturn, 1) := by decide +kernel
theorem dX0_copyFrom_0 : decode cX0_copyFrom 0 = .ok (.aload_n 1, 1) := by decide +kernel
theorem dX0_copyFrom_1 : decode cX0_copyFrom 1 = .ok (.getfield 9, 3) := by decide +kernel
theorem dX0_copyFrom_4 : decode cX0_copyFrom 4 = .ok (.iconst 0, 1) := by decide +kernel
theorem dX0_copyFrom_5 : decode cX0_copyFrom 5 = .ok (.aload_n 0, 1) := by decide +kernel
theorem dX0_copyFrom_6 : decode cX0_copyFrom 6 = .ok (.getfield 9, 3) := by decide +kernel
theorem dX0_copyFrom_9 : decode cX0_copyFrom 9 = .ok (.iconst 0, 1) := by decide +kernel
theorem dX0_copyFrom_10 : decode cX0_copyFrom 10 = .ok (.aload_n 0, 1) := by decide +kernel
theorem dX0_copyFrom_11 : decode cX0_copyFrom 11 = .ok (.getfield 9, 3) := by decide +kernel
theorem dX0_copyFrom_14 : decode cX0_copyFrom 14 = .ok (.arraylength, 1) := by decide +kernel
theorem dX0_copyFrom_15 : decode cX0_copyFrom 15 = .ok (.invokestatic 33, 3) := by decide +kernel
theorem dX0_copyFrom_18 : decode cX0_copyFrom 18 = .ok (.aload_n 0, 1) := by decide +kernel
theorem dX0_copyFrom_19 : decode cX0_copyFrom 19 = .ok (.aload_n 1, 1) := by decide +kernel
theorem dX0_copyFrom_20 : decode cX0_copyFrom 20 = .ok (.getfield 39, 3) := by decide +kernel
theorem dX0_copyFrom_23 : decode cX0_copyFrom 23 = .ok (.putfield 39, 3) := by decide +kernel
theorem dX0_copyFrom_26 : decode cX0_copyFrom 26 = .ok (.aload_n 0, 1) := by decide +kernel
theorem dX0_copyFrom_27 : decode cX0_copyFrom 27 = .ok (.aload_n 1, 1) := by decide +kernel
theorem dX0_copyFrom_28 : decode cX0_copyFrom 28 = .ok (.getfield 15, 3) := by decide +kernel
theorem dX0_copyFrom_31 : decode cX0_copyFrom 31 = .ok (.putfield 15, 3) := by decide +kernel
theorem dX0_copyFrom_34 : decode cX0_copyFrom 34 = .ok (.aload_n 0, 1) := by decide +kernel
theorem dX0_copyFrom_35 : decode cX0_copyFrom 35 = .ok (.aload_n 1, 1) := by decide +kernel
theorem dX0_copyFrom_36 : decode cX0_copyFrom 36 = .ok (.getfield 43, 3) := by decide +kernel
theorem dX0_copyFrom_39 : decode cX0_copyFrom 39 = .ok (.putfield 43, 3) := by decide +kernel
theorem dX0_copyFrom_42 : decode cX0_copyFrom 42 = .ok (.return_, 1) := by decide +kernel
theorem dX1_init_0 : decode cX1_init 0 = .ok (.aload_n 0, 1) := by decide +kernel
theorem dX1_init_1 : decode cX1_init 1 = .ok (.invokespecial 3, 3) := by decide +kernel
theorem dX1_init_4 : decode cX1_init 4 = .ok (.aload_n 0, 1) := by decide +kernel
theorem dX1_init_5 : decode cX1_init 5 = .ok (.bipush 20, 2) := by decide +kernel
theorem dX1_init_7 : decode cX1_init 7 = .ok (.newarray .int, 2) := by decide +kernel
theorem dX1_init_9 : decode cX1_init 9 = .ok (.putfield 9, 3) := by decide +kernel
theorem dX1_init_12 : decode cX1_init 12 = .ok (.aload_n 0, 1) := by decide +kernel
theorem dX1_init_13 : decode cX1_init 13 = .ok (.bipush 20, 2) := by decide +kernel
theorem dX1_init_15 : decode cX1_init 15 = .ok (.newarray .int, 2) := by decide +kernel
theorem dX1_init_17 : decode cX1_init 17 = .ok (.putfield 15, 3) := by decide +kernel
theorem dX1_init_20 : decode cX1_init 20 = .ok (.aload_n 0, 1) := by decide +kernel
theorem dX1_init_21 : decode cX1_init 21 = .ok (.bipush 20, 2) := by decide +kernel
theorem dX1_init_23 : decode cX1_init 23 = .ok (.newarray .int, 2) := by decide +kernel
theorem dX1_init_25 : decode cX1_init 25 = .ok (.putfield 18, 3) := by decide +kernel
theorem dX1_init_28 : decode cX1_init 28 = .ok (.aload_n 0, 1) := by decide +kernel
theorem dX1_init_29 : decode cX1_init 29 = .ok (.bipush 20, 2) := by decide +kernel
theorem dX1_init_31 : decode cX1_init 31 = .ok (.newarray .int, 2) := by decide +kernel
theorem dX1_init_33 : decode cX1_init 33 = .ok (.putfield 21, 3) := by decide +kernel
theorem dX1_init_36 : decode cX1_init 36 = .ok (.return_, 1) := by decide +kernel
theorem dX1_load_0 : decode cX1_load 0 = .ok (.aload_n 0, 1) := by decide +kernel
theorem dX1_load_1 : decode cX1_load 1 = .ok (.aload_n 1, 1) := by decide +kernel
theorem dX1_load_2 : decode cX1_load 2 = .ok (.getfield 24, 3) := by decide +kernel
theorem dX1_load_5 : decode cX1_load 5 = .ok (.aload_n 0, 1) := by decide +kernel
theorem dX1_load_6 : decode cX1_load 6 = .ok (.getfield 9, 3) := by decide +kernel
theorem dX1_load_9 : decode cX1_load 9 = .ok (.arraylength, 1) := by decide +kernel
theorem dX1_load_10 : decode cX1_load 10 = .ok (.invokestatic 30, 3) := by decide +kernel
theorem dX1_load_13 : decode cX1_load 13 = .ok (.putfield 36, 3) := by decide +kernel
theorem dX1_load_16 : decode cX1_load 16 = .ok (.aload_n 0, 1) := by decide +kernel
theorem dX1_load_17 : decode cX1_load 17 = .ok (.aload_n 1, 1) := by decide +kernel
theorem dX1_load_18 : decode cX1_load 18 = .ok (.getfield 37, 3) := by decide +kernel
theorem dX1_load_21 : decode cX1_load 21 = .ok (.putfield 40, 3) := by decide +kernel
theorem dX1_load_24 : decode cX1_load 24 = .ok (.iconst 0, 1) := by decide +kernel
theorem dX1_load_25 : decode cX1_load 25 = .ok (.istore_n 3, 1) := by decide +kernel
theorem dX1_load_26 : decode cX1_load 26 = .ok (.iload_n 3, 1) := by decide +kernel
theorem dX1_load_27 : decode cX1_load 27 = .ok (.aload_n 0, 1) := by decide +kernel
theorem dX1_load_28 : decode cX1_load 28 = .ok (.getfield 36, 3) := by decide +kernel
theorem dX1_load_31 : decode cX1_load 31 = .ok (.if_icmp .ge 34, 3) := by decide +kernel
theorem dX1_load_34 : decode cX1_load 34 = .ok (.aload_n 0, 1) := by decide +kernel
theorem dX1_load_35 : decode cX1_load 35 = .ok (.getfield 9, 3) := by decide +kernel
theorem dX1_load_38 : decode cX1_load 38 = .ok (.iload_n 3, 1) := by decide +kernel
theorem dX1_load_39 : decode cX1_load 39 = .ok (.aload_n 2, 1) := by decide +kernel
theorem dX1_load_40 : decode cX1_load 40 = .ok (.aload_n 1, 1) := by decide +kernel
theorem dX1_load_41 : decode cX1_load 41 = .ok (.getfield 41, 3) := by decide +kernel
theorem dX1_load_44 : decode cX1_load 44 = .ok (.iload_n 3, 1) := by decide +kernel
theorem dX1_load_45 : decode cX1_load 45 = .ok (.iaload, 1) := by decide +kernel
theorem dX1_load_46 : decode cX1_load 46 = .ok (.iload_n 3, 1) := by decide +kernel
theorem dX1_load_47 : decode cX1_load 47 = .ok (.aload_n 1, 1) := by decide +kernel
theorem dX1_load_48 : decode cX1_load 48 = .ok (.getfield 24, 3) := by decide +kernel
theorem dX1_load_51 : decode cX1_load 51 = .ok (.aload_n 0, 1) := by decide +kernel
theorem dX1_load_52 : decode cX1_load 52 = .ok (.getfield 40, 3) := by decide +kernel
theorem dX1_load_55 : decode cX1_load 55 = .ok (.invokevirtual 44, 3) := by decide +kernel
theorem dX1_load_58 : decode cX1_load 58 = .ok (.iastore, 1) := by decide +kernel
theorem dX1_load_59 : decode cX1_load 59 = .ok (.iinc 3 1, 3) := by decide +kernel
theorem dX1_load_62 : decode cX1_load 62 = .ok (.goto (-36), 3) := by decide +kernel
theorem dX1_load_65 : decode cX1_load 65 = .ok (.return_, 1) := by decide +kernel
theorem dX1_mayFollow_0 : decode cX1_mayFollow 0 = .ok (.aload_n 0, 1) := by decide +kernel
theorem dX1_mayFollow_1 : decode cX1_mayFollow 1 = .ok (.getfield 40, 3) := by decide +kernel
theorem dX1_mayFollow_4 : decode cX1_mayFollow 4 = .ok (.tableswitch 61 0 2 #[28, 39, 50], 28) := by decide +kernel
theorem dX1_mayFollow_32 : decode cX1_mayFollow 32 = .ok (.iload_n 1, 1) := by decide +kernel
theorem dX1_mayFollow_33 : decode cX1_mayFollow 33 = .ok (.iload_n 2, 1) := by decide +kernel
theorem dX1_mayFollow_34 : decode cX1_mayFollow 34 = .ok (.if_icmp .le 7, 3) := by decide +kernel
theorem dX1_mayFollow_37 : decode cX1_mayFollow 37 = .ok (.iconst 1, 1) := by decide +kernel
theorem dX1_mayFollow_38 : decode cX1_mayFollow 38 = .ok (.goto 4, 3) := by decide +kernel
theorem dX1_mayFollow_41 : decode cX1_mayFollow 41 = .ok (.iconst 0, 1) := by decide +kernel
theorem dX1_mayFollow_42 : decode cX1_mayFollow 42 = .ok (.ireturn, 1) := by decide +kernel
theorem dX1_mayFollow_43 : decode cX1_mayFollow 43 = .ok (.iload_n 1, 1) := by decide +kernel
theorem dX1_mayFollow_44 : decode cX1_mayFollow 44 = .ok (.iload_n 2, 1) := by decide +kernel
theorem dX1_mayFollow_45 : decode cX1_mayFollow 45 = .ok (.if_icmp .lt 7, 3) := by decide +kernel
theorem dX1_mayFollow_48 : decode cX1_mayFollow 48 = .ok (.iconst 1, 1) := by decide +kernel
theorem dX1_mayFollow_49 : decode cX1_mayFollow 49 = .ok (.goto 4, 3) := by decide +kernel
theorem dX1_mayFollow_52 : decode cX1_mayFollow 52 = .ok (.iconst 0, 1) := by decide +kernel
theorem dX1_mayFollow_53 : decode cX1_mayFollow 53 = .ok (.ireturn, 1) := by decide +kernel
theorem dX1_mayFollow_54 : decode cX1_mayFollow 54 = .ok (.iload_n 1, 1) := by decide +kernel
theorem dX1_mayFollow_55 : decode cX1_mayFollow 55 = .ok (.iload_n 2, 1) := by decide +kernel
theorem dX1_mayFollow_56 : decode cX1_mayFollow 56 = .ok (.if_icmp .ge 7, 3) := by decide +kernel
theorem dX1_mayFollow_59 : decode cX1_mayFollow 59 = .ok (.iconst 1, 1) := by decide +kernel
theorem dX1_mayFollow_60 : decode cX1_mayFollow 60 = .ok (.goto 4, 3) := by decide +kernel
theorem dX1_mayFollow_63 : decode cX1_mayFollow 63 = .ok (.iconst 0, 1) := by decide +kernel
theorem dX1_mayFollow_64 : decode cX1_mayFollow 64 = .ok (.ireturn, 1) := by decide +kernel
theorem dX1_mayFollow_65 : decode cX1_mayFollow 65 = .ok (.iload_n 1, 1) := by decide +kernel
theorem dX1_mayFollow_66 : decode cX1_mayFollow 66 = .ok (.iload_n 2, 1) := by decide +kernel
theorem dX1_mayFollow_67 : decode cX1_mayFollow 67 = .ok (.if_icmp .gt 7, 3) := by decide +kernel
theorem dX1_mayFollow_70 : decode cX1_mayFollow 70 = .ok (.iconst 1, 1) := by decide +kernel
theorem dX1_mayFollow_71 : decode cX1_mayFollow 71 = .ok (.goto 4, 3) := by decide +kernel
theorem dX1_mayFollow_74 : decode cX1_mayFollow 74 = .ok (.iconst 0, 1) := by decide +kernel
theorem dX1_mayFollow_75 : decode cX1_mayFollow 75 = .ok (.ireturn, 1) := by decide +kernel
theorem dX1_follows_0 : decode cX1_follows 0 = .ok (.aload_n 0, 1) := by decide +kernel
theorem dX1_follows_1 : decode cX1_follows 1 = .ok (.aload_n 0, 1) := by decide +kernel
theorem dX1_follows_2 : decode cX1_follows 2 = .ok (.getfield 9, 3) := by decide +kernel
theorem dX1_follows_5 : decode cX1_follows 5 = .ok (.iload_n 1, 1) := by decide +kernel
theorem dX1_follows_6 : decode cX1_follows 6 = .ok (.iaload, 1) := by decide +kernel
theorem dX1_follows_7 : decode cX1_follows 7 = .ok (.aload_n 0, 1) := by decide +kernel
theorem dX1_follows_8 : decode cX1_follows 8 = .ok (.getfield 9, 3) := by decide +kernel
theorem dX1_follows_11 : decode cX1_follows 11 = .ok (.iload_n 2, 1) := by decide +kernel
theorem dX1_follows_12 : decode cX1_follows 12 = .ok (.iaload, 1) := by decide +kernel
theorem dX1_follows_13 : decode cX1_follows 13 = .ok (.invokevirtual 50, 3) := by decide +kernel
theorem dX1_follows_16 : decode cX1_follows 16 = .ok (.ireturn, 1) := by decide +kernel
theorem dX1_measureUp_0 : decode cX1_measureUp 0 = .ok (.aload_n 0, 1) := by decide +kernel
theorem dX1_measureUp_1 : decode cX1_measureUp 1 = .ok (.getfield 54, 3) := by decide +kernel
theorem dX1_measureUp_4 : decode cX1_measureUp 4 = .ok (.istore_n 1, 1) := by decide +kernel
theorem dX1_measureUp_5 : decode cX1_measureUp 5 = .ok (.iload_n 1, 1) := by decide +kernel
theorem dX1_measureUp_6 : decode cX1_measureUp 6 = .ok (.aload_n 0, 1) := by decide +kernel
theorem dX1_measureUp_7 : decode cX1_measureUp 7 = .ok (.getfield 57, 3) := by decide +kernel
theorem dX1_measureUp_10 : decode cX1_measureUp 10 = .ok (.if_icmp .ge 62, 3) := by decide +kernel
theorem dX1_measureUp_13 : decode cX1_measureUp 13 = .ok (.iconst 0, 1) := by decide +kernel
theorem dX1_measureUp_14 : decode cX1_measureUp 14 = .ok (.istore_n 2, 1) := by decide +kernel
theorem dX1_measureUp_15 : decode cX1_measureUp 15 = .ok (.aload_n 0, 1) := by decide +kernel
theorem dX1_measureUp_16 : decode cX1_measureUp 16 = .ok (.getfield 54, 3) := by decide +kernel
theorem dX1_measureUp_19 : decode cX1_measureUp 19 = .ok (.istore_n 3, 1) := by decide +kernel
theorem dX1_measureUp_20 : decode cX1_measureUp 20 = .ok (.iload_n 3, 1) := by decide +kernel
theorem dX1_measureUp_21 : decode cX1_measureUp 21 = .ok (.iload_n 1, 1) := by decide +kernel
theorem dX1_measureUp_22 : decode cX1_measureUp 22 = .ok (.if_icmp .ge 35, 3) := by decide +kernel
theorem dX1_measureUp_25 : decode cX1_measureUp 25 = .ok (.aload_n 0, 1) := by decide +kernel
theorem dX1_measureUp_26 : decode cX1_measureUp 26 = .ok (.getfield 18, 3) := by decide +kernel
theorem dX1_measureUp_29 : decode cX1_measureUp 29 = .ok (.iload_n 3, 1) := by decide +kernel
theorem dX1_measureUp_30 : decode cX1_measureUp 30 = .ok (.iaload, 1) := by decide +kernel
theorem dX1_measureUp_31 : decode cX1_measureUp 31 = .ok (.iload_n 2, 1) := by decide +kernel
theorem dX1_measureUp_32 : decode cX1_measureUp 32 = .ok (.if_icmp .le 19, 3) := by decide +kernel
theorem dX1_measureUp_35 : decode cX1_measureUp 35 = .ok (.aload_n 0, 1) := by decide +kernel
theorem dX1_measureUp_36 : decode cX1_measureUp 36 = .ok (.iload_n 1, 1) := by decide +kernel
theorem dX1_measureUp_37 : decode cX1_measureUp 37 = .ok (.iload_n 3, 1) := by decide +kernel
theorem dX1_measureUp_38 : decode cX1_measureUp 38 = .ok (.invokevirtual 60, 3) := by decide +kernel
theorem dX1_measureUp_41 : decode cX1_measureUp 41 = .ok (.ifCond .eq 10, 3) := by decide +kernel
theorem dX1_measureUp_44 : decode cX1_measureUp 44 = .ok (.aload_n 0, 1) := by decide +kernel
theorem dX1_measureUp_45 : decode cX1_measureUp 45 = .ok (.getfield 18, 3) := by decide +kernel
theorem dX1_measureUp_48 : decode cX1_measureUp 48 = .ok (.iload_n 3, 1) := by decide +kernel
theorem dX1_measureUp_49 : decode cX1_measureUp 49 = .ok (.iaload, 1) := by decide +kernel
theorem dX1_measureUp_50 : decode cX1_measureUp 50 = .ok (.istore_n 2, 1) := by decide +kernel
theorem dX1_measureUp_51 : decode cX1_measureUp 51 = .ok (.iinc 3 1, 3) := by decide +kernel
theorem dX1_measureUp_54 : decode cX1_measureUp 54 = .ok (.goto (-34), 3) := by decide +kernel
theorem dX1_measureUp_57 : decode cX1_measureUp 57 = .ok (.aload_n 0, 1) := by decide +kernel
theorem dX1_measureUp_58 : decode cX1_measureUp 58 = .ok (.getfield 18, 3) := by decide +kernel
theorem dX1_measureUp_61 : decode cX1_measureUp 61 = .ok (.iload_n 1, 1) := by decide +kernel
theorem dX1_measureUp_62 : decode cX1_measureUp 62 = .ok (.iload_n 2, 1) := by decide +kernel
theorem dX1_measureUp_63 : decode cX1_measureUp 63 = .ok (.iconst 1, 1) := by decide +kernel
theorem dX1_measureUp_64 : decode cX1_measureUp 64 = .ok (.iadd, 1) := by decide +kernel
theorem dX1_measureUp_65 : decode cX1_measureUp 65 = .ok (.iastore, 1) := by decide +kernel
theorem dX1_measureUp_66 : decode cX1_measureUp 66 = .ok (.iinc 1 1, 3) := by decide +kernel
theorem dX1_measureUp_69 : decode cX1_measureUp 69 = .ok (.goto (-64), 3) := by decide +kernel
theorem dX1_measureUp_72 : decode cX1_measureUp 72 = .ok (.return_, 1) := by decide +kernel
theorem dX1_measureBehind_0 : decode cX1_measureBehind 0 = .ok (.aload_n 0, 1) := by decide +kernel
theorem dX1_measureBehind_1 : decode cX1_measureBehind 1 = .ok (.getfield 57, 3) := by decide +kernel
theorem dX1_measureBehind_4 : decode cX1_measureBehind 4 = .ok (.iconst 1, 1) := by decide +kernel
theorem dX1_measureBehind_5 : decode cX1_measureBehind 5 = .ok (.isub, 1) := by decide +kernel
theorem dX1_measureBehind_6 : decode cX1_measureBehind 6 = .ok (.istore_n 1, 1) := by decide +kernel
theorem dX1_measureBehind_7 : decode cX1_measureBehind 7 = .ok (.iload_n 1, 1) := by decide +kernel
theorem dX1_measureBehind_8 : decode cX1_measureBehind 8 = .ok (.aload_n 0, 1) := by decide +kernel
theorem dX1_measureBehind_9 : decode cX1_measureBehind 9 = .ok (.getfield 54, 3) := by decide +kernel
theorem dX1_measureBehind_12 : decode cX1_measureBehind 12 = .ok (.if_icmp .lt 64, 3) := by decide +kernel
theorem dX1_measureBehind_15 : decode cX1_measureBehind 15 = .ok (.iconst 0, 1) := by decide +kernel
theorem dX1_measureBehind_16 : decode cX1_measureBehind 16 = .ok (.istore_n 2, 1) := by decide +kernel
theorem dX1_measureBehind_17 : decode cX1_measureBehind 17 = .ok (.iload_n 1, 1) := by decide +kernel
theorem dX1_measureBehind_18 : decode cX1_measureBehind 18 = .ok (.iconst 1, 1) := by decide +kernel
theorem dX1_measureBehind_19 : decode cX1_measureBehind 19 = .ok (.iadd, 1) := by decide +kernel
theorem dX1_measureBehind_20 : decode cX1_measureBehind 20 = .ok (.istore_n 3, 1) := by decide +kernel
theorem dX1_measureBehind_21 : decode cX1_measureBehind 21 = .ok (.iload_n 3, 1) := by decide +kernel
theorem dX1_measureBehind_22 : decode cX1_measureBehind 22 = .ok (.aload_n 0, 1) := by decide +kernel
theorem dX1_measureBehind_23 : decode cX1_measureBehind 23 = .ok (.getfield 57, 3) := by decide +kernel
theorem dX1_measureBehind_26 : decode cX1_measureBehind 26 = .ok (.if_icmp .ge 35, 3) := by decide +kernel
theorem dX1_measureBehind_29 : decode cX1_measureBehind 29 = .ok (.aload_n 0, 1) := by decide +kernel
theorem dX1_measureBehind_30 : decode cX1_measureBehind 30 = .ok (.getfield 15, 3) := by decide +kernel
theorem dX1_measureBehind_33 : decode cX1_measureBehind 33 = .ok (.iload_n 3, 1) := by decide +kernel
theorem dX1_measureBehind_34 : decode cX1_measureBehind 34 = .ok (.iaload, 1) := by decide +kernel
theorem dX1_measureBehind_35 : decode cX1_measureBehind 35 = .ok (.iload_n 2, 1) := by decide +kernel
theorem dX1_measureBehind_36 : decode cX1_measureBehind 36 = .ok (.if_icmp .le 19, 3) := by decide +kernel
theorem dX1_measureBehind_39 : decode cX1_measureBehind 39 = .ok (.aload_n 0, 1) := by decide +kernel
theorem dX1_measureBehind_40 : decode cX1_measureBehind 40 = .ok (.iload_n 3, 1) := by decide +kernel
theorem dX1_measureBehind_41 : decode cX1_measureBehind 41 = .ok (.iload_n 1, 1) := by decide +kernel
theorem dX1_measureBehind_42 : decode cX1_measureBehind 42 = .ok (.invokevirtual 60, 3) := by decide +kernel
theorem dX1_measureBehind_45 : decode cX1_measureBehind 45 = .ok (.ifCond .eq 10, 3) := by decide +kernel
theorem dX1_measureBehind_48 : decode cX1_measureBehind 48 = .ok (.aload_n 0, 1) := by decide +kernel
theorem dX1_measureBehind_49 : decode cX1_measureBehind 49 = .ok (.getfield 15, 3) := by decide +kernel
theorem dX1_measureBehind_52 : decode cX1_measureBehind 52 = .ok (.iload_n 3, 1) := by decide +kernel
theorem dX1_measureBehind_53 : decode cX1_measureBehind 53 = .ok (.iaload, 1) := by decide +kernel
theorem dX1_measureBehind_54 : decode cX1_measureBehind 54 = .ok (.istore_n 2, 1) := by decide +kernel
theorem dX1_measureBehind_55 : decode cX1_measureBehind 55 = .ok (.iinc 3 1, 3) := by decide +kernel
theorem dX1_measureBehind_58 : decode cX1_measureBehind 58 = .ok (.goto (-37), 3) := by decide +kernel
theorem dX1_measureBehind_61 : decode cX1_measureBehind 61 = .ok (.aload_n 0, 1) := by decide +kernel
theorem dX1_measureBehind_62 : decode cX1_measureBehind 62 = .ok (.getfield 15, 3) := by decide +kernel
theorem dX1_measureBehind_65 : decode cX1_measureBehind 65 = .ok (.iload_n 1, 1) := by decide +kernel
theorem dX1_measureBehind_66 : decode cX1_measureBehind 66 = .ok (.iload_n 2, 1) := by decide +kernel
theorem dX1_measureBehind_67 : decode cX1_measureBehind 67 = .ok (.iconst 1, 1) := by decide +kernel
theorem dX1_measureBehind_68 : decode cX1_measureBehind 68 = .ok (.iadd, 1) := by decide +kernel
theorem dX1_measureBehind_69 : decode cX1_measureBehind 69 = .ok (.iastore, 1) := by decide +kernel
theorem dX1_measureBehind_70 : decode cX1_measureBehind 70 = .ok (.iinc 1 (-1), 3) := by decide +kernel
theorem dX1_measureBehind_73 : decode cX1_measureBehind 73 = .ok (.goto (-66), 3) := by decide +kernel
theorem dX1_measureBehind_76 : decode cX1_measureBehind 76 = .ok (.return_, 1) := by decide +kernel
theorem dX1_measure_0 : decode cX1_measure 0 = .ok (.aload_n 0, 1) := by decide +kernel
theorem dX1_measure_1 : decode cX1_measure 1 = .ok (.iload_n 1, 1) := by decide +kernel
theorem dX1_measure_2 : decode cX1_measure 2 = .ok (.iconst 0, 1) := by decide +kernel
theorem dX1_measure_3 : decode cX1_measure 3 = .ok (.invokestatic 63, 3) := by decide +kernel
theorem dX1_measure_6 : decode cX1_measure 6 = .ok (.putfield 54, 3) := by decide +kernel
theorem dX1_measure_9 : decode cX1_measure 9 = .ok (.aload_n 0, 1) := by decide +kernel
theorem dX1_measure_10 : decode cX1_measure 10 = .ok (.iload_n 2, 1) := by decide +kernel
theorem dX1_measure_11 : decode cX1_measure 11 = .ok (.aload_n 0, 1) := by decide +kernel
theorem dX1_measure_12 : decode cX1_measure 12 = .ok (.getfield 36, 3) := by decide +kernel
theorem dX1_measure_15 : decode cX1_measure 15 = .ok (.invokestatic 30, 3) := by decide +kernel
theorem dX1_measure_18 : decode cX1_measure 18 = .ok (.putfield 57, 3) := by decide +kernel
theorem dX1_measure_21 : decode cX1_measure 21 = .ok (.aload_n 0, 1) := by decide +kernel
theorem dX1_measure_22 : decode cX1_measure 22 = .ok (.invokevirtual 66, 3) := by decide +kernel
theorem dX1_measure_25 : decode cX1_measure 25 = .ok (.aload_n 0, 1) := by decide +kernel
theorem dX1_measure_26 : decode cX1_measure 26 = .ok (.invokevirtual 69, 3) := by decide +kernel
theorem dX1_measure_29 : decode cX1_measure 29 = .ok (.aload_n 0, 1) := by decide +kernel
theorem dX1_measure_30 : decode cX1_measure 30 = .ok (.iconst 0, 1) := by decide +kernel
theorem dX1_measure_31 : decode cX1_measure 31 = .ok (.putfield 72, 3) := by decide +kernel
theorem dX1_measure_34 : decode cX1_measure 34 = .ok (.aload_n 0, 1) := by decide +kernel
theorem dX1_measure_35 : decode cX1_measure 35 = .ok (.getfield 54, 3) := by decide +kernel
theorem dX1_measure_38 : decode cX1_measure 38 = .ok (.istore_n 3, 1) := by decide +kernel
theorem dX1_measure_39 : decode cX1_measure 39 = .ok (.iload_n 3, 1) := by decide +kernel
theorem dX1_measure_40 : decode cX1_measure 40 = .ok (.aload_n 0, 1) := by decide +kernel
theorem dX1_measure_41 : decode cX1_measure 41 = .ok (.getfield 57, 3) := by decide +kernel
theorem dX1_measure_44 : decode cX1_measure 44 = .ok (.if_icmp .ge 26, 3) := by decide +kernel
theorem dX1_measure_47 : decode cX1_measure 47 = .ok (.aload_n 0, 1) := by decide +kernel
theorem dX1_measure_48 : decode cX1_measure 48 = .ok (.aload_n 0, 1) := by decide +kernel
theorem dX1_measure_49 : decode cX1_measure 49 = .ok (.getfield 72, 3) := by decide +kernel
theorem dX1_measure_52 : decode cX1_measure 52 = .ok (.aload_n 0, 1) := by decide +kernel
theorem dX1_measure_53 : decode cX1_measure 53 = .ok (.getfield 18, 3) := by decide +kernel
theorem dX1_measure_56 : decode cX1_measure 56 = .ok (.iload_n 3, 1) := by decide +kernel
theorem dX1_measure_57 : decode cX1_measure 57 = .ok (.iaload, 1) := by decide +kernel
theorem dX1_measure_58 : decode cX1_measure 58 = .ok (.invokestatic 63, 3) := by decide +kernel
theorem dX1_measure_61 : decode cX1_measure 61 = .ok (.putfield 72, 3) := by decide +kernel
theorem dX1_measure_64 : decode cX1_measure 64 = .ok (.iinc 3 1, 3) := by decide +kernel
theorem dX1_measure_67 : decode cX1_measure 67 = .ok (.goto (-28), 3) := by decide +kernel
theorem dX1_measure_70 : decode cX1_measure 70 = .ok (.return_, 1) := by decide +kernel
theorem dX1_measureFrom_0 : decode cX1_measureFrom 0 = .ok (.aload_n 0, 1) := by decide +kernel
theorem dX1_measureFrom_1 : decode cX1_measureFrom 1 = .ok (.iload_n 1, 1) := by decide +kernel
theorem dX1_measureFrom_2 : decode cX1_measureFrom 2 = .ok (.iconst 0, 1) := by decide +kernel
theorem dX1_measureFrom_3 : decode cX1_measureFrom 3 = .ok (.invokestatic 63, 3) := by decide +kernel
theorem dX1_measureFrom_6 : decode cX1_measureFrom 6 = .ok (.putfield 54, 3) := by decide +kernel
theorem dX1_measureFrom_9 : decode cX1_measureFrom 9 = .ok (.aload_n 0, 1) := by decide +kernel
theorem dX1_measureFrom_10 : decode cX1_measureFrom 10 = .ok (.aload_n 0, 1) := by decide +kernel
theorem dX1_measureFrom_11 : decode cX1_measureFrom 11 = .ok (.getfield 36, 3) := by decide +kernel
theorem dX1_measureFrom_14 : decode cX1_measureFrom 14 = .ok (.putfield 57, 3) := by decide +kernel
theorem dX1_measureFrom_17 : decode cX1_measureFrom 17 = .ok (.aload_n 0, 1) := by decide +kernel
theorem dX1_measureFrom_18 : decode cX1_measureFrom 18 = .ok (.invokevirtual 66, 3) := by decide +kernel
theorem dX1_measureFrom_21 : decode cX1_measureFrom 21 = .ok (.iconst 0, 1) := by decide +kernel
theorem dX1_measureFrom_22 : decode cX1_measureFrom 22 = .ok (.istore_n 3, 1) := by decide +kernel
theorem dX1_measureFrom_23 : decode cX1_measureFrom 23 = .ok (.aload_n 0, 1) := by decide +kernel
theorem dX1_measureFrom_24 : decode cX1_measureFrom 24 = .ok (.getfield 54, 3) := by decide +kernel
theorem dX1_measureFrom_27 : decode cX1_measureFrom 27 = .ok (.istore 4, 2) := by decide +kernel
theorem dX1_measureFrom_29 : decode cX1_measureFrom 29 = .ok (.iload 4, 2) := by decide +kernel
theorem dX1_measureFrom_31 : decode cX1_measureFrom 31 = .ok (.aload_n 0, 1) := by decide +kernel
theorem dX1_measureFrom_32 : decode cX1_measureFrom 32 = .ok (.getfield 57, 3) := by decide +kernel
theorem dX1_measureFrom_35 : decode cX1_measureFrom 35 = .ok (.if_icmp .gt 42, 3) := by decide +kernel
theorem dX1_measureFrom_38 : decode cX1_measureFrom 38 = .ok (.iload 4, 2) := by decide +kernel
theorem dX1_measureFrom_40 : decode cX1_measureFrom 40 = .ok (.aload_n 2, 1) := by decide +kernel
theorem dX1_measureFrom_41 : decode cX1_measureFrom 41 = .ok (.arraylength, 1) := by decide +kernel
theorem dX1_measureFrom_42 : decode cX1_measureFrom 42 = .ok (.if_icmp .ge 35, 3) := by decide +kernel
theorem dX1_measureFrom_45 : decode cX1_measureFrom 45 = .ok (.aload_n 2, 1) := by decide +kernel
theorem dX1_measureFrom_46 : decode cX1_measureFrom 46 = .ok (.iload 4, 2) := by decide +kernel
theorem dX1_measureFrom_48 : decode cX1_measureFrom 48 = .ok (.iload_n 3, 1) := by decide +kernel
theorem dX1_measureFrom_49 : decode cX1_measureFrom 49 = .ok (.iastore, 1) := by decide +kernel
theorem dX1_measureFrom_50 : decode cX1_measureFrom 50 = .ok (.iload 4, 2) := by decide +kernel
theorem dX1_measureFrom_52 : decode cX1_measureFrom 52 = .ok (.aload_n 0, 1) := by decide +kernel
theorem dX1_measureFrom_53 : decode cX1_measureFrom 53 = .ok (.getfield 57, 3) := by decide +kernel
theorem dX1_measureFrom_56 : decode cX1_measureFrom 56 = .ok (.if_icmp .ge 15, 3) := by decide +kernel
theorem dX1_measureFrom_59 : decode cX1_measureFrom 59 = .ok (.iload_n 3, 1) := by decide +kernel
theorem dX1_measureFrom_60 : decode cX1_measureFrom 60 = .ok (.aload_n 0, 1) := by decide +kernel
theorem dX1_measureFrom_61 : decode cX1_measureFrom 61 = .ok (.getfield 18, 3) := by decide +kernel
theorem dX1_measureFrom_64 : decode cX1_measureFrom 64 = .ok (.iload 4, 2) := by decide +kernel
theorem dX1_measureFrom_66 : decode cX1_measureFrom 66 = .ok (.iaload, 1) := by decide +kernel
theorem dX1_measureFrom_67 : decode cX1_measureFrom 67 = .ok (.invokestatic 63, 3) := by decide +kernel
theorem dX1_measureFrom_70 : decode cX1_measureFrom 70 = .ok (.istore_n 3, 1) := by decide +kernel
theorem dX1_measureFrom_71 : decode cX1_measureFrom 71 = .ok (.iinc 4 1, 3) := by decide +kernel
theorem dX1_measureFrom_74 : decode cX1_measureFrom 74 = .ok (.goto (-45), 3) := by decide +kernel
theorem dX1_measureFrom_77 : decode cX1_measureFrom 77 = .ok (.return_, 1) := by decide +kernel
theorem dX1_placeOfFirst_0 : decode cX1_placeOfFirst 0 = .ok (.iload_n 1, 1) := by decide +kernel
theorem dX1_placeOfFirst_1 : decode cX1_placeOfFirst 1 = .ok (.ifCond .lt 11, 3) := by decide +kernel
theorem dX1_placeOfFirst_4 : decode cX1_placeOfFirst 4 = .ok (.iload_n 1, 1) := by decide +kernel
theorem dX1_placeOfFirst_5 : decode cX1_placeOfFirst 5 = .ok (.aload_n 0, 1) := by decide +kernel
theorem dX1_placeOfFirst_6 : decode cX1_placeOfFirst 6 = .ok (.getfield 72, 3) := by decide +kernel
theorem dX1_placeOfFirst_9 : decode cX1_placeOfFirst 9 = .ok (.if_icmp .lt 5, 3) := by decide +kernel
theorem dX1_placeOfFirst_12 : decode cX1_placeOfFirst 12 = .ok (.iconst (-1), 1) := by decide +kernel
theorem dX1_placeOfFirst_13 : decode cX1_placeOfFirst 13 = .ok (.ireturn, 1) := by decide +kernel
theorem dX1_placeOfFirst_14 : decode cX1_placeOfFirst 14 = .ok (.iconst (-1), 1) := by decide +kernel
theorem dX1_placeOfFirst_15 : decode cX1_placeOfFirst 15 = .ok (.istore_n 2, 1) := by decide +kernel
theorem dX1_placeOfFirst_16 : decode cX1_placeOfFirst 16 = .ok (.aload_n 0, 1) := by decide +kernel
theorem dX1_placeOfFirst_17 : decode cX1_placeOfFirst 17 = .ok (.getfield 72, 3) := by decide +kernel
theorem dX1_placeOfFirst_20 : decode cX1_placeOfFirst 20 = .ok (.istore_n 3, 1) := by decide +kernel
theorem dX1_placeOfFirst_21 : decode cX1_placeOfFirst 21 = .ok (.aload_n 0, 1) := by decide +kernel
theorem dX1_placeOfFirst_22 : decode cX1_placeOfFirst 22 = .ok (.getfield 54, 3) := by decide +kernel
theorem dX1_placeOfFirst_25 : decode cX1_placeOfFirst 25 = .ok (.istore 4, 2) := by decide +kernel
theorem dX1_placeOfFirst_27 : decode cX1_placeOfFirst 27 = .ok (.iload 4, 2) := by decide +kernel
theorem dX1_placeOfFirst_29 : decode cX1_placeOfFirst 29 = .ok (.aload_n 0, 1) := by decide +kernel
theorem dX1_placeOfFirst_30 : decode cX1_placeOfFirst 30 = .ok (.getfield 57, 3) := by decide +kernel
theorem dX1_placeOfFirst_33 : decode cX1_placeOfFirst 33 = .ok (.if_icmp .ge 54, 3) := by decide +kernel
theorem dX1_placeOfFirst_36 : decode cX1_placeOfFirst 36 = .ok (.aload_n 0, 1) := by decide +kernel
theorem dX1_placeOfFirst_37 : decode cX1_placeOfFirst 37 = .ok (.getfield 15, 3) := by decide +kernel
theorem dX1_placeOfFirst_40 : decode cX1_placeOfFirst 40 = .ok (.iload 4, 2) := by decide +kernel
theorem dX1_placeOfFirst_42 : decode cX1_placeOfFirst 42 = .ok (.iaload, 1) := by decide +kernel
theorem dX1_placeOfFirst_43 : decode cX1_placeOfFirst 43 = .ok (.iload_n 3, 1) := by decide +kernel
theorem dX1_placeOfFirst_44 : decode cX1_placeOfFirst 44 = .ok (.if_icmp .ne 37, 3) := by decide +kernel
theorem dX1_placeOfFirst_47 : decode cX1_placeOfFirst 47 = .ok (.iload_n 2, 1) := by decide +kernel
theorem dX1_placeOfFirst_48 : decode cX1_placeOfFirst 48 = .ok (.iconst (-1), 1) := by decide +kernel
theorem dX1_placeOfFirst_49 : decode cX1_placeOfFirst 49 = .ok (.if_icmp .eq 13, 3) := by decide +kernel
theorem dX1_placeOfFirst_52 : decode cX1_placeOfFirst 52 = .ok (.aload_n 0, 1) := by decide +kernel
theorem dX1_placeOfFirst_53 : decode cX1_placeOfFirst 53 = .ok (.iload 4, 2) := by decide +kernel
theorem dX1_placeOfFirst_55 : decode cX1_placeOfFirst 55 = .ok (.iload_n 2, 1) := by decide +kernel
theorem dX1_placeOfFirst_56 : decode cX1_placeOfFirst 56 = .ok (.invokevirtual 60, 3) := by decide +kernel
theorem dX1_placeOfFirst_59 : decode cX1_placeOfFirst 59 = .ok (.ifCond .eq 22, 3) := by decide +kernel
theorem dX1_placeOfFirst_62 : decode cX1_placeOfFirst 62 = .ok (.aload_n 0, 1) := by decide +kernel
theorem dX1_placeOfFirst_63 : decode cX1_placeOfFirst 63 = .ok (.getfield 72, 3) := by decide +kernel
theorem dX1_placeOfFirst_66 : decode cX1_placeOfFirst 66 = .ok (.iload_n 3, 1) := by decide +kernel
theorem dX1_placeOfFirst_67 : decode cX1_placeOfFirst 67 = .ok (.isub, 1) := by decide +kernel
theorem dX1_placeOfFirst_68 : decode cX1_placeOfFirst 68 = .ok (.iload_n 1, 1) := by decide +kernel
theorem dX1_placeOfFirst_69 : decode cX1_placeOfFirst 69 = .ok (.if_icmp .ne 6, 3) := by decide +kernel
theorem dX1_placeOfFirst_72 : decode cX1_placeOfFirst 72 = .ok (.iload 4, 2) := by decide +kernel
theorem dX1_placeOfFirst_74 : decode cX1_placeOfFirst 74 = .ok (.ireturn, 1) := by decide +kernel
theorem dX1_placeOfFirst_75 : decode cX1_placeOfFirst 75 = .ok (.iload 4, 2) := by decide +kernel
theorem dX1_placeOfFirst_77 : decode cX1_placeOfFirst 77 = .ok (.istore_n 2, 1) := by decide +kernel
theorem dX1_placeOfFirst_78 : decode cX1_placeOfFirst 78 = .ok (.iinc 3 (-1), 3) := by decide +kernel
theorem dX1_placeOfFirst_81 : decode cX1_placeOfFirst 81 = .ok (.iinc 4 1, 3) := by decide +kernel
theorem dX1_placeOfFirst_84 : decode cX1_placeOfFirst 84 = .ok (.goto (-57), 3) := by decide +kernel
theorem dX1_placeOfFirst_87 : decode cX1_placeOfFirst 87 = .ok (.iconst (-1), 1) := by decide +kernel
theorem dX1_placeOfFirst_88 : decode cX1_placeOfFirst 88 = .ok (.ireturn, 1) := by decide +kernel
theorem dX1_countWays_0 : decode cX1_countWays 0 = .ok (.aload_n 0, 1) := by decide +kernel
theorem dX1_countWays_1 : decode cX1_countWays 1 = .ok (.getfield 72, 3) := by decide +kernel
theorem dX1_countWays_4 : decode cX1_countWays 4 = .ok (.ifCond .ne 5, 3) := by decide +kernel
theorem dX1_countWays_7 : decode cX1_countWays 7 = .ok (.iconst 1, 1) := by decide +kernel
theorem dX1_countWays_8 : decode cX1_countWays 8 = .ok (.ireturn, 1) := by decide +kernel
theorem dX1_countWays_9 : decode cX1_countWays 9 = .ok (.lconst 0, 1) := by decide +kernel
theorem dX1_countWays_10 : decode cX1_countWays 10 = .ok (.lstore_n 1, 1) := by decide +kernel
theorem dX1_countWays_11 : decode cX1_countWays 11 = .ok (.aload_n 0, 1) := by decide +kernel
theorem dX1_countWays_12 : decode cX1_countWays 12 = .ok (.getfield 57, 3) := by decide +kernel
theorem dX1_countWays_15 : decode cX1_countWays 15 = .ok (.iconst 1, 1) := by decide +kernel
theorem dX1_countWays_16 : decode cX1_countWays 16 = .ok (.isub, 1) := by decide +kernel
theorem dX1_countWays_17 : decode cX1_countWays 17 = .ok (.istore_n 3, 1) := by decide +kernel
theorem dX1_countWays_18 : decode cX1_countWays 18 = .ok (.iload_n 3, 1) := by decide +kernel
theorem dX1_countWays_19 : decode cX1_countWays 19 = .ok (.aload_n 0, 1) := by decide +kernel
theorem dX1_countWays_20 : decode cX1_countWays 20 = .ok (.getfield 54, 3) := by decide +kernel
theorem dX1_countWays_23 : decode cX1_countWays 23 = .ok (.if_icmp .lt 43, 3) := by decide +kernel
theorem dX1_countWays_26 : decode cX1_countWays 26 = .ok (.aload_n 0, 1) := by decide +kernel
theorem dX1_countWays_27 : decode cX1_countWays 27 = .ok (.getfield 21, 3) := by decide +kernel
theorem dX1_countWays_30 : decode cX1_countWays 30 = .ok (.iload_n 3, 1) := by decide +kernel
theorem dX1_countWays_31 : decode cX1_countWays 31 = .ok (.aload_n 0, 1) := by decide +kernel
theorem dX1_countWays_32 : decode cX1_countWays 32 = .ok (.iload_n 3, 1) := by decide +kernel
theorem dX1_countWays_33 : decode cX1_countWays 33 = .ok (.invokevirtual 75, 3) := by decide +kernel
theorem dX1_countWays_36 : decode cX1_countWays 36 = .ok (.iastore, 1) := by decide +kernel
theorem dX1_countWays_37 : decode cX1_countWays 37 = .ok (.aload_n 0, 1) := by decide +kernel
theorem dX1_countWays_38 : decode cX1_countWays 38 = .ok (.getfield 15, 3) := by decide +kernel
theorem dX1_countWays_41 : decode cX1_countWays 41 = .ok (.iload_n 3, 1) := by decide +kernel
theorem dX1_countWays_42 : decode cX1_countWays 42 = .ok (.iaload, 1) := by decide +kernel
theorem dX1_countWays_43 : decode cX1_countWays 43 = .ok (.aload_n 0, 1) := by decide +kernel
theorem dX1_countWays_44 : decode cX1_countWays 44 = .ok (.getfield 72, 3) := by decide +kernel
theorem dX1_countWays_47 : decode cX1_countWays 47 = .ok (.if_icmp .ne 13, 3) := by decide +kernel
theorem dX1_countWays_50 : decode cX1_countWays 50 = .ok (.lload_n 1, 1) := by decide +kernel
theorem dX1_countWays_51 : decode cX1_countWays 51 = .ok (.aload_n 0, 1) := by decide +kernel
theorem dX1_countWays_52 : decode cX1_countWays 52 = .ok (.getfield 21, 3) := by decide +kernel
theorem dX1_countWays_55 : decode cX1_countWays 55 = .ok (.iload_n 3, 1) := by decide +kernel
theorem dX1_countWays_56 : decode cX1_countWays 56 = .ok (.iaload, 1) := by decide +kernel
theorem dX1_countWays_57 : decode cX1_countWays 57 = .ok (.i2l, 1) := by decide +kernel
theorem dX1_countWays_58 : decode cX1_countWays 58 = .ok (.ladd, 1) := by decide +kernel
theorem dX1_countWays_59 : decode cX1_countWays 59 = .ok (.lstore_n 1, 1) := by decide +kernel
theorem dX1_countWays_60 : decode cX1_countWays 60 = .ok (.iinc 3 (-1), 3) := by decide +kernel
theorem dX1_countWays_63 : decode cX1_countWays 63 = .ok (.goto (-45), 3) := by decide +kernel
theorem dX1_countWays_66 : decode cX1_countWays 66 = .ok (.lload_n 1, 1) := by decide +kernel
theorem dX1_countWays_67 : decode cX1_countWays 67 = .ok (.ldc2_w 79, 3) := by decide +kernel
theorem dX1_countWays_70 : decode cX1_countWays 70 = .ok (.invokestatic 81, 3) := by decide +kernel
theorem dX1_countWays_73 : decode cX1_countWays 73 = .ok (.l2i, 1) := by decide +kernel
theorem dX1_countWays_74 : decode cX1_countWays 74 = .ok (.ireturn, 1) := by decide +kernel
theorem dX1_waysOn_0 : decode cX1_waysOn 0 = .ok (.aload_n 0, 1) := by decide +kernel
theorem dX1_waysOn_1 : decode cX1_waysOn 1 = .ok (.getfield 15, 3) := by decide +kernel
theorem dX1_waysOn_4 : decode cX1_waysOn 4 = .ok (.iload_n 1, 1) := by decide +kernel
theorem dX1_waysOn_5 : decode cX1_waysOn 5 = .ok (.iaload, 1) := by decide +kernel
theorem dX1_waysOn_6 : decode cX1_waysOn 6 = .ok (.iconst 1, 1) := by decide +kernel
theorem dX1_waysOn_7 : decode cX1_waysOn 7 = .ok (.if_icmp .ne 5, 3) := by decide +kernel
theorem dX1_waysOn_10 : decode cX1_waysOn 10 = .ok (.iconst 1, 1) := by decide +kernel
theorem dX1_waysOn_11 : decode cX1_waysOn 11 = .ok (.ireturn, 1) := by decide +kernel
theorem dX1_waysOn_12 : decode cX1_waysOn 12 = .ok (.lconst 0, 1) := by decide +kernel
theorem dX1_waysOn_13 : decode cX1_waysOn 13 = .ok (.lstore_n 2, 1) := by decide +kernel
theorem dX1_waysOn_14 : decode cX1_waysOn 14 = .ok (.iload_n 1, 1) := by decide +kernel
theorem dX1_waysOn_15 : decode cX1_waysOn 15 = .ok (.iconst 1, 1) := by decide +kernel
theorem dX1_waysOn_16 : decode cX1_waysOn 16 = .ok (.iadd, 1) := by decide +kernel
theorem dX1_waysOn_17 : decode cX1_waysOn 17 = .ok (.istore 4, 2) := by decide +kernel
theorem dX1_waysOn_19 : decode cX1_waysOn 19 = .ok (.iload 4, 2) := by decide +kernel
theorem dX1_waysOn_21 : decode cX1_waysOn 21 = .ok (.aload_n 0, 1) := by decide +kernel
theorem dX1_waysOn_22 : decode cX1_waysOn 22 = .ok (.getfield 57, 3) := by decide +kernel
theorem dX1_waysOn_25 : decode cX1_waysOn 25 = .ok (.if_icmp .ge 48, 3) := by decide +kernel
theorem dX1_waysOn_28 : decode cX1_waysOn 28 = .ok (.aload_n 0, 1) := by decide +kernel
theorem dX1_waysOn_29 : decode cX1_waysOn 29 = .ok (.getfield 15, 3) := by decide +kernel
theorem dX1_waysOn_32 : decode cX1_waysOn 32 = .ok (.iload 4, 2) := by decide +kernel
theorem dX1_waysOn_34 : decode cX1_waysOn 34 = .ok (.iaload, 1) := by decide +kernel
theorem dX1_waysOn_35 : decode cX1_waysOn 35 = .ok (.aload_n 0, 1) := by decide +kernel
theorem dX1_waysOn_36 : decode cX1_waysOn 36 = .ok (.getfield 15, 3) := by decide +kernel
theorem dX1_waysOn_39 : decode cX1_waysOn 39 = .ok (.iload_n 1, 1) := by decide +kernel
theorem dX1_waysOn_40 : decode cX1_waysOn 40 = .ok (.iaload, 1) := by decide +kernel
theorem dX1_waysOn_41 : decode cX1_waysOn 41 = .ok (.iconst 1, 1) := by decide +kernel
theorem dX1_waysOn_42 : decode cX1_waysOn 42 = .ok (.isub, 1) := by decide +kernel
theorem dX1_waysOn_43 : decode cX1_waysOn 43 = .ok (.if_icmp .ne 24, 3) := by decide +kernel
theorem dX1_waysOn_46 : decode cX1_waysOn 46 = .ok (.aload_n 0, 1) := by decide +kernel
theorem dX1_waysOn_47 : decode cX1_waysOn 47 = .ok (.iload 4, 2) := by decide +kernel
theorem dX1_waysOn_49 : decode cX1_waysOn 49 = .ok (.iload_n 1, 1) := by decide +kernel
theorem dX1_waysOn_50 : decode cX1_waysOn 50 = .ok (.invokevirtual 60, 3) := by decide +kernel
theorem dX1_waysOn_53 : decode cX1_waysOn 53 = .ok (.ifCond .eq 14, 3) := by decide +kernel
theorem dX1_waysOn_56 : decode cX1_waysOn 56 = .ok (.lload_n 2, 1) := by decide +kernel
theorem dX1_waysOn_57 : decode cX1_waysOn 57 = .ok (.aload_n 0, 1) := by decide +kernel
theorem dX1_waysOn_58 : decode cX1_waysOn 58 = .ok (.getfield 21, 3) := by decide +kernel
theorem dX1_waysOn_61 : decode cX1_waysOn 61 = .ok (.iload 4, 2) := by decide +kernel
theorem dX1_waysOn_63 : decode cX1_waysOn 63 = .ok (.iaload, 1) := by decide +kernel
theorem dX1_waysOn_64 : decode cX1_waysOn 64 = .ok (.i2l, 1) := by decide +kernel
theorem dX1_waysOn_65 : decode cX1_waysOn 65 = .ok (.ladd, 1) := by decide +kernel
theorem dX1_waysOn_66 : decode cX1_waysOn 66 = .ok (.lstore_n 2, 1) := by decide +kernel
theorem dX1_waysOn_67 : decode cX1_waysOn 67 = .ok (.iinc 4 1, 3) := by decide +kernel
theorem dX1_waysOn_70 : decode cX1_waysOn 70 = .ok (.goto (-51), 3) := by decide +kernel
theorem dX1_waysOn_73 : decode cX1_waysOn 73 = .ok (.lload_n 2, 1) := by decide +kernel
theorem dX1_waysOn_74 : decode cX1_waysOn 74 = .ok (.ldc2_w 79, 3) := by decide +kernel
theorem dX1_waysOn_77 : decode cX1_waysOn 77 = .ok (.invokestatic 81, 3) := by decide +kernel
theorem dX1_waysOn_80 : decode cX1_waysOn 80 = .ok (.l2i, 1) := by decide +kernel
theorem dX1_waysOn_81 : decode cX1_waysOn 81 = .ok (.ireturn, 1) := by decide +kernel
theorem dX1_isOnLongest_0 : decode cX1_isOnLongest 0 = .ok (.aload_n 0, 1) := by decide +kernel
theorem dX1_isOnLongest_1 : decode cX1_isOnLongest 1 = .ok (.getfield 18, 3) := by decide +kernel
theorem dX1_isOnLongest_4 : decode cX1_isOnLongest 4 = .ok (.iload_n 1, 1) := by decide +kernel
theorem dX1_isOnLongest_5 : decode cX1_isOnLongest 5 = .ok (.iaload, 1) := by decide +kernel
theorem dX1_isOnLongest_6 : decode cX1_isOnLongest 6 = .ok (.aload_n 0, 1) := by decide +kernel
theorem dX1_isOnLongest_7 : decode cX1_isOnLongest 7 = .ok (.getfield 15, 3) := by decide +kernel
theorem dX1_isOnLongest_10 : decode cX1_isOnLongest 10 = .ok (.iload_n 1, 1) := by decide +kernel
theorem dX1_isOnLongest_11 : decode cX1_isOnLongest 11 = .ok (.iaload, 1) := by decide +kernel
theorem dX1_isOnLongest_12 : decode cX1_isOnLongest 12 = .ok (.iadd, 1) := by decide +kernel
theorem dX1_isOnLongest_13 : decode cX1_isOnLongest 13 = .ok (.iconst 1, 1) := by decide +kernel
theorem dX1_isOnLongest_14 : decode cX1_isOnLongest 14 = .ok (.isub, 1) := by decide +kernel
theorem dX1_isOnLongest_15 : decode cX1_isOnLongest 15 = .ok (.aload_n 0, 1) := by decide +kernel
theorem dX1_isOnLongest_16 : decode cX1_isOnLongest 16 = .ok (.getfield 72, 3) := by decide +kernel
theorem dX1_isOnLongest_19 : decode cX1_isOnLongest 19 = .ok (.if_icmp .ne 7, 3) := by decide +kernel
theorem dX1_isOnLongest_22 : decode cX1_isOnLongest 22 = .ok (.iconst 1, 1) := by decide +kernel
theorem dX1_isOnLongest_23 : decode cX1_isOnLongest 23 = .ok (.goto 4, 3) := by decide +kernel
theorem dX1_isOnLongest_26 : decode cX1_isOnLongest 26 = .ok (.iconst 0, 1) := by decide +kernel
theorem dX1_isOnLongest_27 : decode cX1_isOnLongest 27 = .ok (.ireturn, 1) := by decide +kernel
theorem dX1_mayBits_0 : decode cX1_mayBits 0 = .ok (.iconst 0, 1) := by decide +kernel
theorem dX1_mayBits_1 : decode cX1_mayBits 1 = .ok (.istore_n 1, 1) := by decide +kernel
theorem dX1_mayBits_2 : decode cX1_mayBits 2 = .ok (.aload_n 0, 1) := by decide +kernel
theorem dX1_mayBits_3 : decode cX1_mayBits 3 = .ok (.getfield 54, 3) := by decide +kernel
theorem dX1_mayBits_6 : decode cX1_mayBits 6 = .ok (.istore_n 2, 1) := by decide +kernel
theorem dX1_mayBits_7 : decode cX1_mayBits 7 = .ok (.iload_n 2, 1) := by decide +kernel
theorem dX1_mayBits_8 : decode cX1_mayBits 8 = .ok (.aload_n 0, 1) := by decide +kernel
theorem dX1_mayBits_9 : decode cX1_mayBits 9 = .ok (.getfield 57, 3) := by decide +kernel
theorem dX1_mayBits_12 : decode cX1_mayBits 12 = .ok (.if_icmp .ge 23, 3) := by decide +kernel
theorem dX1_mayBits_15 : decode cX1_mayBits 15 = .ok (.aload_n 0, 1) := by decide +kernel
theorem dX1_mayBits_16 : decode cX1_mayBits 16 = .ok (.iload_n 2, 1) := by decide +kernel
theorem dX1_mayBits_17 : decode cX1_mayBits 17 = .ok (.invokevirtual 84, 3) := by decide +kernel
theorem dX1_mayBits_20 : decode cX1_mayBits 20 = .ok (.ifCond .eq 9, 3) := by decide +kernel
theorem dX1_mayBits_23 : decode cX1_mayBits 23 = .ok (.iload_n 1, 1) := by decide +kernel
theorem dX1_mayBits_24 : decode cX1_mayBits 24 = .ok (.iconst 1, 1) := by decide +kernel
theorem dX1_mayBits_25 : decode cX1_mayBits 25 = .ok (.iload_n 2, 1) := by decide +kernel
theorem dX1_mayBits_26 : decode cX1_mayBits 26 = .ok (.ishl, 1) := by decide +kernel
theorem dX1_mayBits_27 : decode cX1_mayBits 27 = .ok (.ior, 1) := by decide +kernel
theorem dX1_mayBits_28 : decode cX1_mayBits 28 = .ok (.istore_n 1, 1) := by decide +kernel
theorem dX1_mayBits_29 : decode cX1_mayBits 29 = .ok (.iinc 2 1, 3) := by decide +kernel
theorem dX1_mayBits_32 : decode cX1_mayBits 32 = .ok (.goto (-25), 3) := by decide +kernel
theorem dX1_mayBits_35 : decode cX1_mayBits 35 = .ok (.iload_n 1, 1) := by decide +kernel
theorem dX1_mayBits_36 : decode cX1_mayBits 36 = .ok (.ireturn, 1) := by decide +kernel
theorem dX1_mustBits_0 : decode cX1_mustBits 0 = .ok (.iconst 0, 1) := by decide +kernel
theorem dX1_mustBits_1 : decode cX1_mustBits 1 = .ok (.istore_n 1, 1) := by decide +kernel
theorem dX1_mustBits_2 : decode cX1_mustBits 2 = .ok (.aload_n 0, 1) := by decide +kernel
theorem dX1_mustBits_3 : decode cX1_mustBits 3 = .ok (.getfield 54, 3) := by decide +kernel
theorem dX1_mustBits_6 : decode cX1_mustBits 6 = .ok (.istore_n 2, 1) := by decide +kernel
theorem dX1_mustBits_7 : decode cX1_mustBits 7 = .ok (.iload_n 2, 1) := by decide +kernel
theorem dX1_mustBits_8 : decode cX1_mustBits 8 = .ok (.aload_n 0, 1) := by decide +kernel
theorem dX1_mustBits_9 : decode cX1_mustBits 9 = .ok (.getfield 57, 3) := by decide +kernel
theorem dX1_mustBits_12 : decode cX1_mustBits 12 = .ok (.if_icmp .ge 31, 3) := by decide +kernel
theorem dX1_mustBits_15 : decode cX1_mustBits 15 = .ok (.aload_n 0, 1) := by decide +kernel
theorem dX1_mustBits_16 : decode cX1_mustBits 16 = .ok (.iload_n 2, 1) := by decide +kernel
theorem dX1_mustBits_17 : decode cX1_mustBits 17 = .ok (.invokevirtual 84, 3) := by decide +kernel
theorem dX1_mustBits_20 : decode cX1_mustBits 20 = .ok (.ifCond .eq 17, 3) := by decide +kernel
theorem dX1_mustBits_23 : decode cX1_mustBits 23 = .ok (.aload_n 0, 1) := by decide +kernel
theorem dX1_mustBits_24 : decode cX1_mustBits 24 = .ok (.iload_n 2, 1) := by decide +kernel
theorem dX1_mustBits_25 : decode cX1_mustBits 25 = .ok (.invokevirtual 88, 3) := by decide +kernel
theorem dX1_mustBits_28 : decode cX1_mustBits 28 = .ok (.ifCond .eq 9, 3) := by decide +kernel
theorem dX1_mustBits_31 : decode cX1_mustBits 31 = .ok (.iload_n 1, 1) := by decide +kernel
theorem dX1_mustBits_32 : decode cX1_mustBits 32 = .ok (.iconst 1, 1) := by decide +kernel
theorem dX1_mustBits_33 : decode cX1_mustBits 33 = .ok (.iload_n 2, 1) := by decide +kernel
theorem dX1_mustBits_34 : decode cX1_mustBits 34 = .ok (.ishl, 1) := by decide +kernel
theorem dX1_mustBits_35 : decode cX1_mustBits 35 = .ok (.ior, 1) := by decide +kernel
theorem dX1_mustBits_36 : decode cX1_mustBits 36 = .ok (.istore_n 1, 1) := by decide +kernel
theorem dX1_mustBits_37 : decode cX1_mustBits 37 = .ok (.iinc 2 1, 3) := by decide +kernel
theorem dX1_mustBits_40 : decode cX1_mustBits 40 = .ok (.goto (-33), 3) := by decide +kernel
theorem dX1_mustBits_43 : decode cX1_mustBits 43 = .ok (.iload_n 1, 1) := by decide +kernel
theorem dX1_mustBits_44 : decode cX1_mustBits 44 = .ok (.ireturn, 1) := by decide +kernel
theorem dX1_isAloneAtStep_0 : decode cX1_isAloneAtStep 0 = .ok (.aload_n 0, 1) := by decide +kernel
theorem dX1_isAloneAtStep_1 : decode cX1_isAloneAtStep 1 = .ok (.getfield 54, 3) := by decide +kernel
theorem dX1_isAloneAtStep_4 : decode cX1_isAloneAtStep 4 = .ok (.istore_n 2, 1) := by decide +kernel
theorem dX1_isAloneAtStep_5 : decode cX1_isAloneAtStep 5 = .ok (.iload_n 2, 1) := by decide +kernel
theorem dX1_isAloneAtStep_6 : decode cX1_isAloneAtStep 6 = .ok (.aload_n 0, 1) := by decide +kernel
theorem dX1_isAloneAtStep_7 : decode cX1_isAloneAtStep 7 = .ok (.getfield 57, 3) := by decide +kernel
theorem dX1_isAloneAtStep_10 : decode cX1_isAloneAtStep 10 = .ok (.if_icmp .ge 39, 3) := by decide +kernel
theorem dX1_isAloneAtStep_13 : decode cX1_isAloneAtStep 13 = .ok (.iload_n 2, 1) := by decide +kernel
theorem dX1_isAloneAtStep_14 : decode cX1_isAloneAtStep 14 = .ok (.iload_n 1, 1) := by decide +kernel
theorem dX1_isAloneAtStep_15 : decode cX1_isAloneAtStep 15 = .ok (.if_icmp .eq 28, 3) := by decide +kernel
theorem dX1_isAloneAtStep_18 : decode cX1_isAloneAtStep 18 = .ok (.aload_n 0, 1) := by decide +kernel
theorem dX1_isAloneAtStep_19 : decode cX1_isAloneAtStep 19 = .ok (.getfield 18, 3) := by decide +kernel
theorem dX1_isAloneAtStep_22 : decode cX1_isAloneAtStep 22 = .ok (.iload_n 2, 1) := by decide +kernel
theorem dX1_isAloneAtStep_23 : decode cX1_isAloneAtStep 23 = .ok (.iaload, 1) := by decide +kernel
theorem dX1_isAloneAtStep_24 : decode cX1_isAloneAtStep 24 = .ok (.aload_n 0, 1) := by decide +kernel
theorem dX1_isAloneAtStep_25 : decode cX1_isAloneAtStep 25 = .ok (.getfield 18, 3) := by decide +kernel
theorem dX1_isAloneAtStep_28 : decode cX1_isAloneAtStep 28 = .ok (.iload_n 1, 1) := by decide +kernel
theorem dX1_isAloneAtStep_29 : decode cX1_isAloneAtStep 29 = .ok (.iaload, 1) := by decide +kernel
theorem dX1_isAloneAtStep_30 : decode cX1_isAloneAtStep 30 = .ok (.if_icmp .ne 13, 3) := by decide +kernel
theorem dX1_isAloneAtStep_33 : decode cX1_isAloneAtStep 33 = .ok (.aload_n 0, 1) := by decide +kernel
theorem dX1_isAloneAtStep_34 : decode cX1_isAloneAtStep 34 = .ok (.iload_n 2, 1) := by decide +kernel
theorem dX1_isAloneAtStep_35 : decode cX1_isAloneAtStep 35 = .ok (.invokevirtual 84, 3) := by decide +kernel
theorem dX1_isAloneAtStep_38 : decode cX1_isAloneAtStep 38 = .ok (.ifCond .eq 5, 3) := by decide +kernel
theorem dX1_isAloneAtStep_41 : decode cX1_isAloneAtStep 41 = .ok (.iconst 0, 1) := by decide +kernel
theorem dX1_isAloneAtStep_42 : decode cX1_isAloneAtStep 42 = .ok (.ireturn, 1) := by decide +kernel
theorem dX1_isAloneAtStep_43 : decode cX1_isAloneAtStep 43 = .ok (.iinc 2 1, 3) := by decide +kernel
theorem dX1_isAloneAtStep_46 : decode cX1_isAloneAtStep 46 = .ok (.goto (-41), 3) := by decide +kernel
theorem dX1_isAloneAtStep_49 : decode cX1_isAloneAtStep 49 = .ok (.iconst 1, 1) := by decide +kernel
theorem dX1_isAloneAtStep_50 : decode cX1_isAloneAtStep 50 = .ok (.ireturn, 1) := by decide +kernel
theorem dX2_init_0 : decode cX2_init 0 = .ok (.aload_n 0, 1) := by decide +kernel
theorem dX2_init_1 : decode cX2_init 1 = .ok (.invokespecial 3, 3) := by decide +kernel
theorem dX2_init_4 : decode cX2_init 4 = .ok (.aload_n 0, 1) := by decide +kernel
theorem dX2_init_5 : decode cX2_init 5 = .ok (.new 9, 3) := by decide +kernel
theorem dX2_init_8 : decode cX2_init 8 = .ok (.dup, 1) := by decide +kernel
theorem dX2_init_9 : decode cX2_init 9 = .ok (.invokespecial 11, 3) := by decide +kernel
theorem dX2_init_12 : decode cX2_init 12 = .ok (.putfield 12, 3) := by decide +kernel
theorem dX2_init_15 : decode cX2_init 15 = .ok (.aload_n 0, 1) := by decide +kernel
theorem dX2_init_16 : decode cX2_init 16 = .ok (.new 9, 3) := by decide +kernel
theorem dX2_init_19 : decode cX2_init 19 = .ok (.dup, 1) := by decide +kernel
theorem dX2_init_20 : decode cX2_init 20 = .ok (.invokespecial 11, 3) := by decide +kernel
theorem dX2_init_23 : decode cX2_init 23 = .ok (.putfield 18, 3) := by decide +kernel
theorem dX2_init_26 : decode cX2_init 26 = .ok (.aload_n 0, 1) := by decide +kernel
theorem dX2_init_27 : decode cX2_init 27 = .ok (.bipush 11, 2) := by decide +kernel
theorem dX2_init_29 : decode cX2_init 29 = .ok (.bipush 11, 2) := by decide +kernel
theorem dX2_init_31 : decode cX2_init 31 = .ok (.multianewarray 21 2, 4) := by decide +kernel
theorem dX2_init_35 : decode cX2_init 35 = .ok (.putfield 23, 3) := by decide +kernel
theorem dX2_init_38 : decode cX2_init 38 = .ok (.aload_n 0, 1) := by decide +kernel
theorem dX2_init_39 : decode cX2_init 39 = .ok (.bipush 11, 2) := by decide +kernel
theorem dX2_init_41 : decode cX2_init 41 = .ok (.bipush 11, 2) := by decide +kernel
theorem dX2_init_43 : decode cX2_init 43 = .ok (.multianewarray 21 2, 4) := by decide +kernel
theorem dX2_init_47 : decode cX2_init 47 = .ok (.putfield 26, 3) := by decide +kernel
theorem dX2_init_50 : decode cX2_init 50 = .ok (.aload_n 0, 1) := by decide +kernel
theorem dX2_init_51 : decode cX2_init 51 = .ok (.bipush 11, 2) := by decide +kernel
theorem dX2_init_53 : decode cX2_init 53 = .ok (.bipush 11, 2) := by decide +kernel
theorem dX2_init_55 : decode cX2_init 55 = .ok (.multianewarray 21 2, 4) := by decide +kernel
theorem dX2_init_59 : decode cX2_init 59 = .ok (.putfield 29, 3) := by decide +kernel
theorem dX2_init_62 : decode cX2_init 62 = .ok (.aload_n 0, 1) := by decide +kernel
theorem dX2_init_63 : decode cX2_init 63 = .ok (.bipush 10, 2) := by decide +kernel
theorem dX2_init_65 : decode cX2_init 65 = .ok (.newarray .int, 2) := by decide +kernel
theorem dX2_init_67 : decode cX2_init 67 = .ok (.putfield 32, 3) := by decide +kernel
theorem dX2_init_70 : decode cX2_init 70 = .ok (.return_, 1) := by decide +kernel
theorem dX2_tabulate_0 : decode cX2_tabulate 0 = .ok (.aload_n 0, 1) := by decide +kernel
theorem dX2_tabulate_1 : decode cX2_tabulate 1 = .ok (.getfield 36, 3) := by decide +kernel
theorem dX2_tabulate_4 : decode cX2_tabulate 4 = .ok (.istore_n 2, 1) := by decide +kernel
theorem dX2_tabulate_5 : decode cX2_tabulate 5 = .ok (.iconst 0, 1) := by decide +kernel
theorem dX2_tabulate_6 : decode cX2_tabulate 6 = .ok (.istore_n 3, 1) := by decide +kernel
theorem dX2_tabulate_7 : decode cX2_tabulate 7 = .ok (.iload_n 3, 1) := by decide +kernel
theorem dX2_tabulate_8 : decode cX2_tabulate 8 = .ok (.iload_n 2, 1) := by decide +kernel
theorem dX2_tabulate_9 : decode cX2_tabulate 9 = .ok (.if_icmp .gt 15, 3) := by decide +kernel
theorem dX2_tabulate_12 : decode cX2_tabulate 12 = .ok (.aload_n 1, 1) := by decide +kernel
theorem dX2_tabulate_13 : decode cX2_tabulate 13 = .ok (.iload_n 2, 1) := by decide +kernel
theorem dX2_tabulate_14 : decode cX2_tabulate 14 = .ok (.aaload, 1) := by decide +kernel
theorem dX2_tabulate_15 : decode cX2_tabulate 15 = .ok (.iload_n 3, 1) := by decide +kernel
theorem dX2_tabulate_16 : decode cX2_tabulate 16 = .ok (.iconst 0, 1) := by decide +kernel
theorem dX2_tabulate_17 : decode cX2_tabulate 17 = .ok (.iastore, 1) := by decide +kernel
theorem dX2_tabulate_18 : decode cX2_tabulate 18 = .ok (.iinc 3 1, 3) := by decide +kernel
theorem dX2_tabulate_21 : decode cX2_tabulate 21 = .ok (.goto (-14), 3) := by decide +kernel
theorem dX2_tabulate_24 : decode cX2_tabulate 24 = .ok (.iload_n 2, 1) := by decide +kernel
theorem dX2_tabulate_25 : decode cX2_tabulate 25 = .ok (.iconst 1, 1) := by decide +kernel
theorem dX2_tabulate_26 : decode cX2_tabulate 26 = .ok (.isub, 1) := by decide +kernel
theorem dX2_tabulate_27 : decode cX2_tabulate 27 = .ok (.istore_n 3, 1) := by decide +kernel
theorem dX2_tabulate_28 : decode cX2_tabulate 28 = .ok (.iload_n 3, 1) := by decide +kernel
theorem dX2_tabulate_29 : decode cX2_tabulate 29 = .ok (.ifCond .lt 55, 3) := by decide +kernel
theorem dX2_tabulate_32 : decode cX2_tabulate 32 = .ok (.iconst 0, 1) := by decide +kernel
theorem dX2_tabulate_33 : decode cX2_tabulate 33 = .ok (.istore 4, 2) := by decide +kernel
theorem dX2_tabulate_35 : decode cX2_tabulate 35 = .ok (.iload 4, 2) := by decide +kernel
theorem dX2_tabulate_37 : decode cX2_tabulate 37 = .ok (.iload_n 2, 1) := by decide +kernel
theorem dX2_tabulate_38 : decode cX2_tabulate 38 = .ok (.if_icmp .gt 40, 3) := by decide +kernel
theorem dX2_tabulate_41 : decode cX2_tabulate 41 = .ok (.aload_n 1, 1) := by decide +kernel
theorem dX2_tabulate_42 : decode cX2_tabulate 42 = .ok (.iload_n 3, 1) := by decide +kernel
theorem dX2_tabulate_43 : decode cX2_tabulate 43 = .ok (.aaload, 1) := by decide +kernel
theorem dX2_tabulate_44 : decode cX2_tabulate 44 = .ok (.iload 4, 2) := by decide +kernel
theorem dX2_tabulate_46 : decode cX2_tabulate 46 = .ok (.aload_n 1, 1) := by decide +kernel
theorem dX2_tabulate_47 : decode cX2_tabulate 47 = .ok (.iload_n 3, 1) := by decide +kernel
theorem dX2_tabulate_48 : decode cX2_tabulate 48 = .ok (.iconst 1, 1) := by decide +kernel
theorem dX2_tabulate_49 : decode cX2_tabulate 49 = .ok (.iadd, 1) := by decide +kernel
theorem dX2_tabulate_50 : decode cX2_tabulate 50 = .ok (.aaload, 1) := by decide +kernel
theorem dX2_tabulate_51 : decode cX2_tabulate 51 = .ok (.iload 4, 2) := by decide +kernel
theorem dX2_tabulate_53 : decode cX2_tabulate 53 = .ok (.iaload, 1) := by decide +kernel
theorem dX2_tabulate_54 : decode cX2_tabulate 54 = .ok (.aload_n 0, 1) := by decide +kernel
theorem dX2_tabulate_55 : decode cX2_tabulate 55 = .ok (.getfield 40, 3) := by decide +kernel
theorem dX2_tabulate_58 : decode cX2_tabulate 58 = .ok (.iload_n 3, 1) := by decide +kernel
theorem dX2_tabulate_59 : decode cX2_tabulate 59 = .ok (.iaload, 1) := by decide +kernel
theorem dX2_tabulate_60 : decode cX2_tabulate 60 = .ok (.iload 4, 2) := by decide +kernel
theorem dX2_tabulate_62 : decode cX2_tabulate 62 = .ok (.if_icmp .ge 7, 3) := by decide +kernel
theorem dX2_tabulate_65 : decode cX2_tabulate 65 = .ok (.iconst 1, 1) := by decide +kernel
theorem dX2_tabulate_66 : decode cX2_tabulate 66 = .ok (.goto 4, 3) := by decide +kernel
theorem dX2_tabulate_69 : decode cX2_tabulate 69 = .ok (.iconst 0, 1) := by decide +kernel
theorem dX2_tabulate_70 : decode cX2_tabulate 70 = .ok (.iadd, 1) := by decide +kernel
theorem dX2_tabulate_71 : decode cX2_tabulate 71 = .ok (.iastore, 1) := by decide +kernel
theorem dX2_tabulate_72 : decode cX2_tabulate 72 = .ok (.iinc 4 1, 3) := by decide +kernel
theorem dX2_tabulate_75 : decode cX2_tabulate 75 = .ok (.goto (-40), 3) := by decide +kernel
theorem dX2_tabulate_78 : decode cX2_tabulate 78 = .ok (.iinc 3 (-1), 3) := by decide +kernel
theorem dX2_tabulate_81 : decode cX2_tabulate 81 = .ok (.goto (-53), 3) := by decide +kernel
theorem dX2_tabulate_84 : decode cX2_tabulate 84 = .ok (.return_, 1) := by decide +kernel
theorem dX2_join_0 : decode cX2_join 0 = .ok (.aload_n 1, 1) := by decide +kernel
theorem dX2_join_1 : decode cX2_join 1 = .ok (.aload_n 0, 1) := by decide +kernel
theorem dX2_join_2 : decode cX2_join 2 = .ok (.getfield 23, 3) := by decide +kernel
theorem dX2_join_5 : decode cX2_join 5 = .ok (.invokestatic 43, 3) := by decide +kernel
theorem dX2_join_8 : decode cX2_join 8 = .ok (.aload_n 2, 1) := by decide +kernel
theorem dX2_join_9 : decode cX2_join 9 = .ok (.aload_n 0, 1) := by decide +kernel
theorem dX2_join_10 : decode cX2_join 10 = .ok (.getfield 26, 3) := by decide +kernel
theorem dX2_join_13 : decode cX2_join 13 = .ok (.invokestatic 43, 3) := by decide +kernel
theorem dX2_join_16 : decode cX2_join 16 = .ok (.aload_n 1, 1) := by decide +kernel
theorem dX2_join_17 : decode cX2_join 17 = .ok (.getfield 36, 3) := by decide +kernel
theorem dX2_join_20 : decode cX2_join 20 = .ok (.istore 4, 2) := by decide +kernel
theorem dX2_join_22 : decode cX2_join 22 = .ok (.iconst 0, 1) := by decide +kernel
theorem dX2_join_23 : decode cX2_join 23 = .ok (.istore 5, 2) := by decide +kernel
theorem dX2_join_25 : decode cX2_join 25 = .ok (.iload 5, 2) := by decide +kernel
theorem dX2_join_27 : decode cX2_join 27 = .ok (.iload 4, 2) := by decide +kernel
theorem dX2_join_29 : decode cX2_join 29 = .ok (.if_icmp .gt 45, 3) := by decide +kernel
theorem dX2_join_32 : decode cX2_join 32 = .ok (.iconst 0, 1) := by decide +kernel
theorem dX2_join_33 : decode cX2_join 33 = .ok (.istore 6, 2) := by decide +kernel
theorem dX2_join_35 : decode cX2_join 35 = .ok (.iload 6, 2) := by decide +kernel
theorem dX2_join_37 : decode cX2_join 37 = .ok (.iload 4, 2) := by decide +kernel
theorem dX2_join_39 : decode cX2_join 39 = .ok (.if_icmp .gt 29, 3) := by decide +kernel
theorem dX2_join_42 : decode cX2_join 42 = .ok (.aload_n 0, 1) := by decide +kernel
theorem dX2_join_43 : decode cX2_join 43 = .ok (.getfield 29, 3) := by decide +kernel
theorem dX2_join_46 : decode cX2_join 46 = .ok (.iload 5, 2) := by decide +kernel
theorem dX2_join_48 : decode cX2_join 48 = .ok (.aaload, 1) := by decide +kernel
theorem dX2_join_49 : decode cX2_join 49 = .ok (.iload 6, 2) := by decide +kernel
theorem dX2_join_51 : decode cX2_join 51 = .ok (.aload_n 0, 1) := by decide +kernel
theorem dX2_join_52 : decode cX2_join 52 = .ok (.iload 5, 2) := by decide +kernel
theorem dX2_join_54 : decode cX2_join 54 = .ok (.iload 6, 2) := by decide +kernel
theorem dX2_join_56 : decode cX2_join 56 = .ok (.iload 4, 2) := by decide +kernel
theorem dX2_join_58 : decode cX2_join 58 = .ok (.invokevirtual 47, 3) := by decide +kernel
theorem dX2_join_61 : decode cX2_join 61 = .ok (.iastore, 1) := by decide +kernel
theorem dX2_join_62 : decode cX2_join 62 = .ok (.iinc 6 1, 3) := by decide +kernel
theorem dX2_join_65 : decode cX2_join 65 = .ok (.goto (-30), 3) := by decide +kernel
theorem dX2_join_68 : decode cX2_join 68 = .ok (.iinc 5 1, 3) := by decide +kernel
theorem dX2_join_71 : decode cX2_join 71 = .ok (.goto (-46), 3) := by decide +kernel
theorem dX2_join_74 : decode cX2_join 74 = .ok (.aload_n 3, 1) := by decide +kernel
theorem dX2_join_75 : decode cX2_join 75 = .ok (.iload 4, 2) := by decide +kernel
theorem dX2_join_77 : decode cX2_join 77 = .ok (.putfield 36, 3) := by decide +kernel
theorem dX2_join_80 : decode cX2_join 80 = .ok (.iconst 0, 1) := by decide +kernel
theorem dX2_join_81 : decode cX2_join 81 = .ok (.istore 5, 2) := by decide +kernel
theorem dX2_join_83 : decode cX2_join 83 = .ok (.iload 5, 2) := by decide +kernel
theorem dX2_join_85 : decode cX2_join 85 = .ok (.iload 4, 2) := by decide +kernel
theorem dX2_join_87 : decode cX2_join 87 = .ok (.if_icmp .ge 24, 3) := by decide +kernel
theorem dX2_join_90 : decode cX2_join 90 = .ok (.aload_n 3, 1) := by decide +kernel
theorem dX2_join_91 : decode cX2_join 91 = .ok (.getfield 40, 3) := by decide +kernel
theorem dX2_join_94 : decode cX2_join 94 = .ok (.iload 5, 2) := by decide +kernel
theorem dX2_join_96 : decode cX2_join 96 = .ok (.aload_n 0, 1) := by decide +kernel
theorem dX2_join_97 : decode cX2_join 97 = .ok (.iload 5, 2) := by decide +kernel
theorem dX2_join_99 : decode cX2_join 99 = .ok (.iload 4, 2) := by decide +kernel
theorem dX2_join_101 : decode cX2_join 101 = .ok (.invokevirtual 51, 3) := by decide +kernel
theorem dX2_join_104 : decode cX2_join 104 = .ok (.iastore, 1) := by decide +kernel
theorem dX2_join_105 : decode cX2_join 105 = .ok (.iinc 5 1, 3) := by decide +kernel
theorem dX2_join_108 : decode cX2_join 108 = .ok (.goto (-25), 3) := by decide +kernel
theorem dX2_join_111 : decode cX2_join 111 = .ok (.return_, 1) := by decide +kernel
theorem dX2_leastBetween_0 : decode cX2_leastBetween 0 = .ok (.aload_n 0, 1) := by decide +kernel
theorem dX2_leastBetween_1 : decode cX2_leastBetween 1 = .ok (.getfield 23, 3) := by decide +kernel
theorem dX2_leastBetween_4 : decode cX2_leastBetween 4 = .ok (.iload_n 1, 1) := by decide +kernel
theorem dX2_leastBetween_5 : decode cX2_leastBetween 5 = .ok (.aaload, 1) := by decide +kernel
theorem dX2_leastBetween_6 : decode cX2_leastBetween 6 = .ok (.iconst 0, 1) := by decide +kernel
theorem dX2_leastBetween_7 : decode cX2_leastBetween 7 = .ok (.iaload, 1) := by decide +kernel
theorem dX2_leastBetween_8 : decode cX2_leastBetween 8 = .ok (.aload_n 0, 1) := by decide +kernel
theorem dX2_leastBetween_9 : decode cX2_leastBetween 9 = .ok (.getfield 26, 3) := by decide +kernel
theorem dX2_leastBetween_12 : decode cX2_leastBetween 12 = .ok (.iconst 0, 1) := by decide +kernel
theorem dX2_leastBetween_13 : decode cX2_leastBetween 13 = .ok (.aaload, 1) := by decide +kernel
theorem dX2_leastBetween_14 : decode cX2_leastBetween 14 = .ok (.iload_n 2, 1) := by decide +kernel
theorem dX2_leastBetween_15 : decode cX2_leastBetween 15 = .ok (.iaload, 1) := by decide +kernel
theorem dX2_leastBetween_16 : decode cX2_leastBetween 16 = .ok (.iadd, 1) := by decide +kernel
theorem dX2_leastBetween_17 : decode cX2_leastBetween 17 = .ok (.istore 4, 2) := by decide +kernel
theorem dX2_leastBetween_19 : decode cX2_leastBetween 19 = .ok (.iconst 1, 1) := by decide +kernel
theorem dX2_leastBetween_20 : decode cX2_leastBetween 20 = .ok (.istore 5, 2) := by decide +kernel
theorem dX2_leastBetween_22 : decode cX2_leastBetween 22 = .ok (.iload 5, 2) := by decide +kernel
theorem dX2_leastBetween_24 : decode cX2_leastBetween 24 = .ok (.iload_n 3, 1) := by decide +kernel
theorem dX2_leastBetween_25 : decode cX2_leastBetween 25 = .ok (.if_icmp .gt 35, 3) := by decide +kernel
theorem dX2_leastBetween_28 : decode cX2_leastBetween 28 = .ok (.iload 4, 2) := by decide +kernel
theorem dX2_leastBetween_30 : decode cX2_leastBetween 30 = .ok (.aload_n 0, 1) := by decide +kernel
theorem dX2_leastBetween_31 : decode cX2_leastBetween 31 = .ok (.getfield 23, 3) := by decide +kernel
theorem dX2_leastBetween_34 : decode cX2_leastBetween 34 = .ok (.iload_n 1, 1) := by decide +kernel
theorem dX2_leastBetween_35 : decode cX2_leastBetween 35 = .ok (.aaload, 1) := by decide +kernel
theorem dX2_leastBetween_36 : decode cX2_leastBetween 36 = .ok (.iload 5, 2) := by decide +kernel
theorem dX2_leastBetween_38 : decode cX2_leastBetween 38 = .ok (.iaload, 1) := by decide +kernel
theorem dX2_leastBetween_39 : decode cX2_leastBetween 39 = .ok (.aload_n 0, 1) := by decide +kernel
theorem dX2_leastBetween_40 : decode cX2_leastBetween 40 = .ok (.getfield 26, 3) := by decide +kernel
theorem dX2_leastBetween_43 : decode cX2_leastBetween 43 = .ok (.iload 5, 2) := by decide +kernel
theorem dX2_leastBetween_45 : decode cX2_leastBetween 45 = .ok (.aaload, 1) := by decide +kernel
theorem dX2_leastBetween_46 : decode cX2_leastBetween 46 = .ok (.iload_n 2, 1) := by decide +kernel
theorem dX2_leastBetween_47 : decode cX2_leastBetween 47 = .ok (.iaload, 1) := by decide +kernel
theorem dX2_leastBetween_48 : decode cX2_leastBetween 48 = .ok (.iadd, 1) := by decide +kernel
theorem dX2_leastBetween_49 : decode cX2_leastBetween 49 = .ok (.invokestatic 55, 3) := by decide +kernel
theorem dX2_leastBetween_52 : decode cX2_leastBetween 52 = .ok (.istore 4, 2) := by decide +kernel
theorem dX2_leastBetween_54 : decode cX2_leastBetween 54 = .ok (.iinc 5 1, 3) := by decide +kernel
theorem dX2_leastBetween_57 : decode cX2_leastBetween 57 = .ok (.goto (-35), 3) := by decide +kernel
theorem dX2_leastBetween_60 : decode cX2_leastBetween 60 = .ok (.iload 4, 2) := by decide +kernel
theorem dX2_leastBetween_62 : decode cX2_leastBetween 62 = .ok (.ireturn, 1) := by decide +kernel
theorem dX2_endOf_0 : decode cX2_endOf 0 = .ok (.iconst 0, 1) := by decide +kernel
theorem dX2_endOf_1 : decode cX2_endOf 1 = .ok (.istore_n 3, 1) := by decide +kernel
theorem dX2_endOf_2 : decode cX2_endOf 2 = .ok (.iload_n 3, 1) := by decide +kernel
theorem dX2_endOf_3 : decode cX2_endOf 3 = .ok (.iload_n 2, 1) := by decide +kernel
theorem dX2_endOf_4 : decode cX2_endOf 4 = .ok (.if_icmp .ge 62, 3) := by decide +kernel
theorem dX2_endOf_7 : decode cX2_endOf 7 = .ok (.aload_n 0, 1) := by decide +kernel
theorem dX2_endOf_8 : decode cX2_endOf 8 = .ok (.getfield 29, 3) := by decide +kernel
theorem dX2_endOf_11 : decode cX2_endOf 11 = .ok (.iload_n 1, 1) := by decide +kernel
theorem dX2_endOf_12 : decode cX2_endOf 12 = .ok (.aaload, 1) := by decide +kernel
theorem dX2_endOf_13 : decode cX2_endOf 13 = .ok (.iload_n 3, 1) := by decide +kernel
theorem dX2_endOf_14 : decode cX2_endOf 14 = .ok (.iconst 1, 1) := by decide +kernel
theorem dX2_endOf_15 : decode cX2_endOf 15 = .ok (.iadd, 1) := by decide +kernel
theorem dX2_endOf_16 : decode cX2_endOf 16 = .ok (.iaload, 1) := by decide +kernel
theorem dX2_endOf_17 : decode cX2_endOf 17 = .ok (.aload_n 0, 1) := by decide +kernel
theorem dX2_endOf_18 : decode cX2_endOf 18 = .ok (.getfield 29, 3) := by decide +kernel
theorem dX2_endOf_21 : decode cX2_endOf 21 = .ok (.iload_n 1, 1) := by decide +kernel
theorem dX2_endOf_22 : decode cX2_endOf 22 = .ok (.iconst 1, 1) := by decide +kernel
theorem dX2_endOf_23 : decode cX2_endOf 23 = .ok (.iadd, 1) := by decide +kernel
theorem dX2_endOf_24 : decode cX2_endOf 24 = .ok (.aaload, 1) := by decide +kernel
theorem dX2_endOf_25 : decode cX2_endOf 25 = .ok (.iload_n 3, 1) := by decide +kernel
theorem dX2_endOf_26 : decode cX2_endOf 26 = .ok (.iconst 1, 1) := by decide +kernel
theorem dX2_endOf_27 : decode cX2_endOf 27 = .ok (.iadd, 1) := by decide +kernel
theorem dX2_endOf_28 : decode cX2_endOf 28 = .ok (.iaload, 1) := by decide +kernel
theorem dX2_endOf_29 : decode cX2_endOf 29 = .ok (.isub, 1) := by decide +kernel
theorem dX2_endOf_30 : decode cX2_endOf 30 = .ok (.aload_n 0, 1) := by decide +kernel
theorem dX2_endOf_31 : decode cX2_endOf 31 = .ok (.getfield 29, 3) := by decide +kernel
theorem dX2_endOf_34 : decode cX2_endOf 34 = .ok (.iload_n 1, 1) := by decide +kernel
theorem dX2_endOf_35 : decode cX2_endOf 35 = .ok (.aaload, 1) := by decide +kernel
theorem dX2_endOf_36 : decode cX2_endOf 36 = .ok (.iload_n 3, 1) := by decide +kernel
theorem dX2_endOf_37 : decode cX2_endOf 37 = .ok (.iaload, 1) := by decide +kernel
theorem dX2_endOf_38 : decode cX2_endOf 38 = .ok (.isub, 1) := by decide +kernel
theorem dX2_endOf_39 : decode cX2_endOf 39 = .ok (.aload_n 0, 1) := by decide +kernel
theorem dX2_endOf_40 : decode cX2_endOf 40 = .ok (.getfield 29, 3) := by decide +kernel
theorem dX2_endOf_43 : decode cX2_endOf 43 = .ok (.iload_n 1, 1) := by decide +kernel
theorem dX2_endOf_44 : decode cX2_endOf 44 = .ok (.iconst 1, 1) := by decide +kernel
theorem dX2_endOf_45 : decode cX2_endOf 45 = .ok (.iadd, 1) := by decide +kernel
theorem dX2_endOf_46 : decode cX2_endOf 46 = .ok (.aaload, 1) := by decide +kernel
theorem dX2_endOf_47 : decode cX2_endOf 47 = .ok (.iload_n 3, 1) := by decide +kernel
theorem dX2_endOf_48 : decode cX2_endOf 48 = .ok (.iaload, 1) := by decide +kernel
theorem dX2_endOf_49 : decode cX2_endOf 49 = .ok (.iadd, 1) := by decide +kernel
theorem dX2_endOf_50 : decode cX2_endOf 50 = .ok (.istore 4, 2) := by decide +kernel
theorem dX2_endOf_52 : decode cX2_endOf 52 = .ok (.iload 4, 2) := by decide +kernel
theorem dX2_endOf_54 : decode cX2_endOf 54 = .ok (.iconst 1, 1) := by decide +kernel
theorem dX2_endOf_55 : decode cX2_endOf 55 = .ok (.if_icmp .ne 5, 3) := by decide +kernel
theorem dX2_endOf_58 : decode cX2_endOf 58 = .ok (.iload_n 3, 1) := by decide +kernel
theorem dX2_endOf_59 : decode cX2_endOf 59 = .ok (.ireturn, 1) := by decide +kernel
theorem dX2_endOf_60 : decode cX2_endOf 60 = .ok (.iinc 3 1, 3) := by decide +kernel
theorem dX2_endOf_63 : decode cX2_endOf 63 = .ok (.goto (-61), 3) := by decide +kernel
theorem dX2_endOf_66 : decode cX2_endOf 66 = .ok (.iconst 0, 1) := by decide +kernel
theorem dX2_endOf_67 : decode cX2_endOf 67 = .ok (.ireturn, 1) := by decide +kernel
theorem dX2_raise_0 : decode cX2_raise 0 = .ok (.aload_n 0, 1) := by decide +kernel
theorem dX2_raise_1 : decode cX2_raise 1 = .ok (.getfield 18, 3) := by decide +kernel
theorem dX2_raise_4 : decode cX2_raise 4 = .ok (.aload_n 1, 1) := by decide +kernel
theorem dX2_raise_5 : decode cX2_raise 5 = .ok (.invokevirtual 60, 3) := by decide +kernel
theorem dX2_raise_8 : decode cX2_raise 8 = .ok (.iconst 1, 1) := by decide +kernel
theorem dX2_raise_9 : decode cX2_raise 9 = .ok (.istore_n 3, 1) := by decide +kernel
theorem dX2_raise_10 : decode cX2_raise 10 = .ok (.iload_n 3, 1) := by decide +kernel
theorem dX2_raise_11 : decode cX2_raise 11 = .ok (.iload_n 2, 1) := by decide +kernel
theorem dX2_raise_12 : decode cX2_raise 12 = .ok (.if_icmp .ge 49, 3) := by decide +kernel
theorem dX2_raise_15 : decode cX2_raise 15 = .ok (.aload_n 0, 1) := by decide +kernel
theorem dX2_raise_16 : decode cX2_raise 16 = .ok (.aload_n 0, 1) := by decide +kernel
theorem dX2_raise_17 : decode cX2_raise 17 = .ok (.getfield 18, 3) := by decide +kernel
theorem dX2_raise_20 : decode cX2_raise 20 = .ok (.aload_n 1, 1) := by decide +kernel
theorem dX2_raise_21 : decode cX2_raise 21 = .ok (.aload_n 0, 1) := by decide +kernel
theorem dX2_raise_22 : decode cX2_raise 22 = .ok (.getfield 12, 3) := by decide +kernel
theorem dX2_raise_25 : decode cX2_raise 25 = .ok (.invokevirtual 64, 3) := by decide +kernel
theorem dX2_raise_28 : decode cX2_raise 28 = .ok (.aload_n 0, 1) := by decide +kernel
theorem dX2_raise_29 : decode cX2_raise 29 = .ok (.getfield 12, 3) := by decide +kernel
theorem dX2_raise_32 : decode cX2_raise 32 = .ok (.aload_n 0, 1) := by decide +kernel
theorem dX2_raise_33 : decode cX2_raise 33 = .ok (.getfield 18, 3) := by decide +kernel
theorem dX2_raise_36 : decode cX2_raise 36 = .ok (.invokevirtual 68, 3) := by decide +kernel
theorem dX2_raise_39 : decode cX2_raise 39 = .ok (.ifCond .eq 5, 3) := by decide +kernel
theorem dX2_raise_42 : decode cX2_raise 42 = .ok (.iload_n 3, 1) := by decide +kernel
theorem dX2_raise_43 : decode cX2_raise 43 = .ok (.ireturn, 1) := by decide +kernel
theorem dX2_raise_44 : decode cX2_raise 44 = .ok (.aload_n 0, 1) := by decide +kernel
theorem dX2_raise_45 : decode cX2_raise 45 = .ok (.getfield 18, 3) := by decide +kernel
theorem dX2_raise_48 : decode cX2_raise 48 = .ok (.aload_n 0, 1) := by decide +kernel
theorem dX2_raise_49 : decode cX2_raise 49 = .ok (.getfield 12, 3) := by decide +kernel
theorem dX2_raise_52 : decode cX2_raise 52 = .ok (.invokevirtual 60, 3) := by decide +kernel
theorem dX2_raise_55 : decode cX2_raise 55 = .ok (.iinc 3 1, 3) := by decide +kernel
theorem dX2_raise_58 : decode cX2_raise 58 = .ok (.goto (-48), 3) := by decide +kernel
theorem dX2_raise_61 : decode cX2_raise 61 = .ok (.iload_n 2, 1) := by decide +kernel
theorem dX2_raise_62 : decode cX2_raise 62 = .ok (.ireturn, 1) := by decide +kernel
theorem dX2_isUnder_0 : decode cX2_isUnder 0 = .ok (.aload_n 1, 1) := by decide +kernel
theorem dX2_isUnder_1 : decode cX2_isUnder 1 = .ok (.aload_n 0, 1) := by decide +kernel
theorem dX2_isUnder_2 : decode cX2_isUnder 2 = .ok (.getfield 23, 3) := by decide +kernel
theorem dX2_isUnder_5 : decode cX2_isUnder 5 = .ok (.invokestatic 43, 3) := by decide +kernel
theorem dX2_isUnder_8 : decode cX2_isUnder 8 = .ok (.aload_n 2, 1) := by decide +kernel
theorem dX2_isUnder_9 : decode cX2_isUnder 9 = .ok (.aload_n 0, 1) := by decide +kernel
theorem dX2_isUnder_10 : decode cX2_isUnder 10 = .ok (.getfield 26, 3) := by decide +kernel
theorem dX2_isUnder_13 : decode cX2_isUnder 13 = .ok (.invokestatic 43, 3) := by decide +kernel
theorem dX2_isUnder_16 : decode cX2_isUnder 16 = .ok (.iconst 0, 1) := by decide +kernel
theorem dX2_isUnder_17 : decode cX2_isUnder 17 = .ok (.istore_n 3, 1) := by decide +kernel
theorem dX2_isUnder_18 : decode cX2_isUnder 18 = .ok (.iload_n 3, 1) := by decide +kernel
theorem dX2_isUnder_19 : decode cX2_isUnder 19 = .ok (.aload_n 1, 1) := by decide +kernel
theorem dX2_isUnder_20 : decode cX2_isUnder 20 = .ok (.getfield 36, 3) := by decide +kernel
theorem dX2_isUnder_23 : decode cX2_isUnder 23 = .ok (.if_icmp .gt 50, 3) := by decide +kernel
theorem dX2_isUnder_26 : decode cX2_isUnder 26 = .ok (.iconst 0, 1) := by decide +kernel
theorem dX2_isUnder_27 : decode cX2_isUnder 27 = .ok (.istore 4, 2) := by decide +kernel
theorem dX2_isUnder_29 : decode cX2_isUnder 29 = .ok (.iload 4, 2) := by decide +kernel
theorem dX2_isUnder_31 : decode cX2_isUnder 31 = .ok (.aload_n 1, 1) := by decide +kernel
theorem dX2_isUnder_32 : decode cX2_isUnder 32 = .ok (.getfield 36, 3) := by decide +kernel
theorem dX2_isUnder_35 : decode cX2_isUnder 35 = .ok (.if_icmp .gt 32, 3) := by decide +kernel
theorem dX2_isUnder_38 : decode cX2_isUnder 38 = .ok (.aload_n 0, 1) := by decide +kernel
theorem dX2_isUnder_39 : decode cX2_isUnder 39 = .ok (.getfield 23, 3) := by decide +kernel
theorem dX2_isUnder_42 : decode cX2_isUnder 42 = .ok (.iload_n 3, 1) := by decide +kernel
theorem dX2_isUnder_43 : decode cX2_isUnder 43 = .ok (.aaload, 1) := by decide +kernel
theorem dX2_isUnder_44 : decode cX2_isUnder 44 = .ok (.iload 4, 2) := by decide +kernel
theorem dX2_isUnder_46 : decode cX2_isUnder 46 = .ok (.iaload, 1) := by decide +kernel
theorem dX2_isUnder_47 : decode cX2_isUnder 47 = .ok (.aload_n 0, 1) := by decide +kernel
theorem dX2_isUnder_48 : decode cX2_isUnder 48 = .ok (.getfield 26, 3) := by decide +kernel
theorem dX2_isUnder_51 : decode cX2_isUnder 51 = .ok (.iload_n 3, 1) := by decide +kernel
theorem dX2_isUnder_52 : decode cX2_isUnder 52 = .ok (.aaload, 1) := by decide +kernel
theorem dX2_isUnder_53 : decode cX2_isUnder 53 = .ok (.iload 4, 2) := by decide +kernel
theorem dX2_isUnder_55 : decode cX2_isUnder 55 = .ok (.iaload, 1) := by decide +kernel
theorem dX2_isUnder_56 : decode cX2_isUnder 56 = .ok (.if_icmp .le 5, 3) := by decide +kernel
theorem dX2_isUnder_59 : decode cX2_isUnder 59 = .ok (.iconst 0, 1) := by decide +kernel
theorem dX2_isUnder_60 : decode cX2_isUnder 60 = .ok (.ireturn, 1) := by decide +kernel
theorem dX2_isUnder_61 : decode cX2_isUnder 61 = .ok (.iinc 4 1, 3) := by decide +kernel
theorem dX2_isUnder_64 : decode cX2_isUnder 64 = .ok (.goto (-35), 3) := by decide +kernel
theorem dX2_isUnder_67 : decode cX2_isUnder 67 = .ok (.iinc 3 1, 3) := by decide +kernel
theorem dX2_isUnder_70 : decode cX2_isUnder 70 = .ok (.goto (-52), 3) := by decide +kernel
theorem dX2_isUnder_73 : decode cX2_isUnder 73 = .ok (.iconst 1, 1) := by decide +kernel
theorem dX2_isUnder_74 : decode cX2_isUnder 74 = .ok (.ireturn, 1) := by decide +kernel
theorem dX2_knitStep_0 : decode cX2_knitStep 0 = .ok (.iconst 0, 1) := by decide +kernel
theorem dX2_knitStep_1 : decode cX2_knitStep 1 = .ok (.istore_n 3, 1) := by decide +kernel
theorem dX2_knitStep_2 : decode cX2_knitStep 2 = .ok (.iload_n 3, 1) := by decide +kernel
theorem dX2_knitStep_3 : decode cX2_knitStep 3 = .ok (.aload_n 1, 1) := by decide +kernel
theorem dX2_knitStep_4 : decode cX2_knitStep 4 = .ok (.getfield 36, 3) := by decide +kernel
theorem dX2_knitStep_7 : decode cX2_knitStep 7 = .ok (.if_icmp .ge 16, 3) := by decide +kernel
theorem dX2_knitStep_10 : decode cX2_knitStep 10 = .ok (.aload_n 0, 1) := by decide +kernel
theorem dX2_knitStep_11 : decode cX2_knitStep 11 = .ok (.getfield 32, 3) := by decide +kernel
theorem dX2_knitStep_14 : decode cX2_knitStep 14 = .ok (.iload_n 3, 1) := by decide +kernel
theorem dX2_knitStep_15 : decode cX2_knitStep 15 = .ok (.iload_n 3, 1) := by decide +kernel
theorem dX2_knitStep_16 : decode cX2_knitStep 16 = .ok (.iastore, 1) := by decide +kernel
theorem dX2_knitStep_17 : decode cX2_knitStep 17 = .ok (.iinc 3 1, 3) := by decide +kernel
theorem dX2_knitStep_20 : decode cX2_knitStep 20 = .ok (.goto (-18), 3) := by decide +kernel
theorem dX2_knitStep_23 : decode cX2_knitStep 23 = .ok (.iconst 0, 1) := by decide +kernel
theorem dX2_knitStep_24 : decode cX2_knitStep 24 = .ok (.istore_n 3, 1) := by decide +kernel
theorem dX2_knitStep_25 : decode cX2_knitStep 25 = .ok (.iload_n 3, 1) := by decide +kernel
theorem dX2_knitStep_26 : decode cX2_knitStep 26 = .ok (.bipush 45, 2) := by decide +kernel
theorem dX2_knitStep_28 : decode cX2_knitStep 28 = .ok (.if_icmp .ge 66, 3) := by decide +kernel
theorem dX2_knitStep_31 : decode cX2_knitStep 31 = .ok (.aload_n 0, 1) := by decide +kernel
theorem dX2_knitStep_32 : decode cX2_knitStep 32 = .ok (.aload_n 1, 1) := by decide +kernel
theorem dX2_knitStep_33 : decode cX2_knitStep 33 = .ok (.invokevirtual 72, 3) := by decide +kernel
theorem dX2_knitStep_36 : decode cX2_knitStep 36 = .ok (.istore 4, 2) := by decide +kernel
theorem dX2_knitStep_38 : decode cX2_knitStep 38 = .ok (.iload 4, 2) := by decide +kernel
theorem dX2_knitStep_40 : decode cX2_knitStep 40 = .ok (.iconst (-1), 1) := by decide +kernel
theorem dX2_knitStep_41 : decode cX2_knitStep 41 = .ok (.if_icmp .eq 8, 3) := by decide +kernel
theorem dX2_knitStep_44 : decode cX2_knitStep 44 = .ok (.iload_n 3, 1) := by decide +kernel
theorem dX2_knitStep_45 : decode cX2_knitStep 45 = .ok (.iload_n 2, 1) := by decide +kernel
theorem dX2_knitStep_46 : decode cX2_knitStep 46 = .ok (.if_icmp .ne 6, 3) := by decide +kernel
theorem dX2_knitStep_49 : decode cX2_knitStep 49 = .ok (.iload 4, 2) := by decide +kernel
theorem dX2_knitStep_51 : decode cX2_knitStep 51 = .ok (.ireturn, 1) := by decide +kernel
theorem dX2_knitStep_52 : decode cX2_knitStep 52 = .ok (.aload_n 0, 1) := by decide +kernel
theorem dX2_knitStep_53 : decode cX2_knitStep 53 = .ok (.getfield 32, 3) := by decide +kernel
theorem dX2_knitStep_56 : decode cX2_knitStep 56 = .ok (.iload 4, 2) := by decide +kernel
theorem dX2_knitStep_58 : decode cX2_knitStep 58 = .ok (.iaload, 1) := by decide +kernel
theorem dX2_knitStep_59 : decode cX2_knitStep 59 = .ok (.istore 5, 2) := by decide +kernel
theorem dX2_knitStep_61 : decode cX2_knitStep 61 = .ok (.aload_n 0, 1) := by decide +kernel
theorem dX2_knitStep_62 : decode cX2_knitStep 62 = .ok (.getfield 32, 3) := by decide +kernel
theorem dX2_knitStep_65 : decode cX2_knitStep 65 = .ok (.iload 4, 2) := by decide +kernel
theorem dX2_knitStep_67 : decode cX2_knitStep 67 = .ok (.aload_n 0, 1) := by decide +kernel
theorem dX2_knitStep_68 : decode cX2_knitStep 68 = .ok (.getfield 32, 3) := by decide +kernel
theorem dX2_knitStep_71 : decode cX2_knitStep 71 = .ok (.iload 4, 2) := by decide +kernel
theorem dX2_knitStep_73 : decode cX2_knitStep 73 = .ok (.iconst 1, 1) := by decide +kernel
theorem dX2_knitStep_74 : decode cX2_knitStep 74 = .ok (.iadd, 1) := by decide +kernel
theorem dX2_knitStep_75 : decode cX2_knitStep 75 = .ok (.iaload, 1) := by decide +kernel
theorem dX2_knitStep_76 : decode cX2_knitStep 76 = .ok (.iastore, 1) := by decide +kernel
theorem dX2_knitStep_77 : decode cX2_knitStep 77 = .ok (.aload_n 0, 1) := by decide +kernel
theorem dX2_knitStep_78 : decode cX2_knitStep 78 = .ok (.getfield 32, 3) := by decide +kernel
theorem dX2_knitStep_81 : decode cX2_knitStep 81 = .ok (.iload 4, 2) := by decide +kernel
theorem dX2_knitStep_83 : decode cX2_knitStep 83 = .ok (.iconst 1, 1) := by decide +kernel
theorem dX2_knitStep_84 : decode cX2_knitStep 84 = .ok (.iadd, 1) := by decide +kernel
theorem dX2_knitStep_85 : decode cX2_knitStep 85 = .ok (.iload 5, 2) := by decide +kernel
theorem dX2_knitStep_87 : decode cX2_knitStep 87 = .ok (.iastore, 1) := by decide +kernel
theorem dX2_knitStep_88 : decode cX2_knitStep 88 = .ok (.iinc 3 1, 3) := by decide +kernel
theorem dX2_knitStep_91 : decode cX2_knitStep 91 = .ok (.goto (-66), 3) := by decide +kernel
theorem dX2_knitStep_94 : decode cX2_knitStep 94 = .ok (.iconst (-1), 1) := by decide +kernel
theorem dX2_knitStep_95 : decode cX2_knitStep 95 = .ok (.ireturn, 1) := by decide +kernel
theorem dX2_leastCrossing_0 : decode cX2_leastCrossing 0 = .ok (.iconst 0, 1) := by decide +kernel
theorem dX2_leastCrossing_1 : decode cX2_leastCrossing 1 = .ok (.istore_n 2, 1) := by decide +kernel
theorem dX2_leastCrossing_2 : decode cX2_leastCrossing 2 = .ok (.iload_n 2, 1) := by decide +kernel
theorem dX2_leastCrossing_3 : decode cX2_leastCrossing 3 = .ok (.iconst 1, 1) := by decide +kernel
theorem dX2_leastCrossing_4 : decode cX2_leastCrossing 4 = .ok (.iadd, 1) := by decide +kernel
theorem dX2_leastCrossing_5 : decode cX2_leastCrossing 5 = .ok (.aload_n 1, 1) := by decide +kernel
theorem dX2_leastCrossing_6 : decode cX2_leastCrossing 6 = .ok (.getfield 36, 3) := by decide +kernel
theorem dX2_leastCrossing_9 : decode cX2_leastCrossing 9 = .ok (.if_icmp .ge 38, 3) := by decide +kernel
theorem dX2_leastCrossing_12 : decode cX2_leastCrossing 12 = .ok (.aload_n 1, 1) := by decide +kernel
theorem dX2_leastCrossing_13 : decode cX2_leastCrossing 13 = .ok (.getfield 40, 3) := by decide +kernel
theorem dX2_leastCrossing_16 : decode cX2_leastCrossing 16 = .ok (.aload_n 0, 1) := by decide +kernel
theorem dX2_leastCrossing_17 : decode cX2_leastCrossing 17 = .ok (.getfield 32, 3) := by decide +kernel
theorem dX2_leastCrossing_20 : decode cX2_leastCrossing 20 = .ok (.iload_n 2, 1) := by decide +kernel
theorem dX2_leastCrossing_21 : decode cX2_leastCrossing 21 = .ok (.iaload, 1) := by decide +kernel
theorem dX2_leastCrossing_22 : decode cX2_leastCrossing 22 = .ok (.iaload, 1) := by decide +kernel
theorem dX2_leastCrossing_23 : decode cX2_leastCrossing 23 = .ok (.aload_n 1, 1) := by decide +kernel
theorem dX2_leastCrossing_24 : decode cX2_leastCrossing 24 = .ok (.getfield 40, 3) := by decide +kernel
theorem dX2_leastCrossing_27 : decode cX2_leastCrossing 27 = .ok (.aload_n 0, 1) := by decide +kernel
theorem dX2_leastCrossing_28 : decode cX2_leastCrossing 28 = .ok (.getfield 32, 3) := by decide +kernel
theorem dX2_leastCrossing_31 : decode cX2_leastCrossing 31 = .ok (.iload_n 2, 1) := by decide +kernel
theorem dX2_leastCrossing_32 : decode cX2_leastCrossing 32 = .ok (.iconst 1, 1) := by decide +kernel
theorem dX2_leastCrossing_33 : decode cX2_leastCrossing 33 = .ok (.iadd, 1) := by decide +kernel
theorem dX2_leastCrossing_34 : decode cX2_leastCrossing 34 = .ok (.iaload, 1) := by decide +kernel
theorem dX2_leastCrossing_35 : decode cX2_leastCrossing 35 = .ok (.iaload, 1) := by decide +kernel
theorem dX2_leastCrossing_36 : decode cX2_leastCrossing 36 = .ok (.if_icmp .le 5, 3) := by decide +kernel
theorem dX2_leastCrossing_39 : decode cX2_leastCrossing 39 = .ok (.iload_n 2, 1) := by decide +kernel
theorem dX2_leastCrossing_40 : decode cX2_leastCrossing 40 = .ok (.ireturn, 1) := by decide +kernel
theorem dX2_leastCrossing_41 : decode cX2_leastCrossing 41 = .ok (.iinc 2 1, 3) := by decide +kernel
theorem dX2_leastCrossing_44 : decode cX2_leastCrossing 44 = .ok (.goto (-42), 3) := by decide +kernel
theorem dX2_leastCrossing_47 : decode cX2_leastCrossing 47 = .ok (.iconst (-1), 1) := by decide +kernel
theorem dX2_leastCrossing_48 : decode cX2_leastCrossing 48 = .ok (.ireturn, 1) := by decide +kernel
theorem dX3_init_0 : decode cX3_init 0 = .ok (.aload_n 0, 1) := by decide +kernel
theorem dX3_init_1 : decode cX3_init 1 = .ok (.invokespecial 3, 3) := by decide +kernel
theorem dX3_init_4 : decode cX3_init 4 = .ok (.iload_n 1, 1) := by decide +kernel
theorem dX3_init_5 : decode cX3_init 5 = .ok (.iconst 1, 1) := by decide +kernel
theorem dX3_init_6 : decode cX3_init 6 = .ok (.invokestatic 9, 3) := by decide +kernel
theorem dX3_init_9 : decode cX3_init 9 = .ok (.istore_n 2, 1) := by decide +kernel
theorem dX3_init_10 : decode cX3_init 10 = .ok (.aload_n 0, 1) := by decide +kernel
theorem dX3_init_11 : decode cX3_init 11 = .ok (.iload_n 2, 1) := by decide +kernel
theorem dX3_init_12 : decode cX3_init 12 = .ok (.newarray .int, 2) := by decide +kernel
theorem dX3_init_14 : decode cX3_init 14 = .ok (.putfield 15, 3) := by decide +kernel
theorem dX3_init_17 : decode cX3_init 17 = .ok (.aload_n 0, 1) := by decide +kernel
theorem dX3_init_18 : decode cX3_init 18 = .ok (.iload_n 2, 1) := by decide +kernel
theorem dX3_init_19 : decode cX3_init 19 = .ok (.newarray .int, 2) := by decide +kernel
theorem dX3_init_21 : decode cX3_init 21 = .ok (.putfield 21, 3) := by decide +kernel
theorem dX3_init_24 : decode cX3_init 24 = .ok (.aload_n 0, 1) := by decide +kernel
theorem dX3_init_25 : decode cX3_init 25 = .ok (.iload_n 2, 1) := by decide +kernel
theorem dX3_init_26 : decode cX3_init 26 = .ok (.newarray .int, 2) := by decide +kernel
theorem dX3_init_28 : decode cX3_init 28 = .ok (.putfield 24, 3) := by decide +kernel
theorem dX3_init_31 : decode cX3_init 31 = .ok (.return_, 1) := by decide +kernel
theorem dX3_has_0 : decode cX3_has 0 = .ok (.iload_n 1, 1) := by decide +kernel
theorem dX3_has_1 : decode cX3_has 1 = .ok (.ifCond .lt 24, 3) := by decide +kernel
theorem dX3_has_4 : decode cX3_has 4 = .ok (.iload_n 1, 1) := by decide +kernel
theorem dX3_has_5 : decode cX3_has 5 = .ok (.aload_n 0, 1) := by decide +kernel
theorem dX3_has_6 : decode cX3_has 6 = .ok (.getfield 27, 3) := by decide +kernel
theorem dX3_has_9 : decode cX3_has 9 = .ok (.if_icmp .ge 16, 3) := by decide +kernel
theorem dX3_has_12 : decode cX3_has 12 = .ok (.iload_n 1, 1) := by decide +kernel
theorem dX3_has_13 : decode cX3_has 13 = .ok (.aload_n 0, 1) := by decide +kernel
theorem dX3_has_14 : decode cX3_has 14 = .ok (.getfield 15, 3) := by decide +kernel
theorem dX3_has_17 : decode cX3_has 17 = .ok (.arraylength, 1) := by decide +kernel
theorem dX3_has_18 : decode cX3_has 18 = .ok (.if_icmp .ge 7, 3) := by decide +kernel
theorem dX3_has_21 : decode cX3_has 21 = .ok (.iconst 1, 1) := by decide +kernel
theorem dX3_has_22 : decode cX3_has 22 = .ok (.goto 4, 3) := by decide +kernel
theorem dX3_has_25 : decode cX3_has 25 = .ok (.iconst 0, 1) := by decide +kernel
theorem dX3_has_26 : decode cX3_has 26 = .ok (.ireturn, 1) := by decide +kernel
theorem dX3_verbOf_0 : decode cX3_verbOf 0 = .ok (.aload_n 0, 1) := by decide +kernel
theorem dX3_verbOf_1 : decode cX3_verbOf 1 = .ok (.iload_n 1, 1) := by decide +kernel
theorem dX3_verbOf_2 : decode cX3_verbOf 2 = .ok (.invokevirtual 31, 3) := by decide +kernel
theorem dX3_verbOf_5 : decode cX3_verbOf 5 = .ok (.ifCond .eq 12, 3) := by decide +kernel
theorem dX3_verbOf_8 : decode cX3_verbOf 8 = .ok (.aload_n 0, 1) := by decide +kernel
theorem dX3_verbOf_9 : decode cX3_verbOf 9 = .ok (.getfield 15, 3) := by decide +kernel
theorem dX3_verbOf_12 : decode cX3_verbOf 12 = .ok (.iload_n 1, 1) := by decide +kernel
theorem dX3_verbOf_13 : decode cX3_verbOf 13 = .ok (.iaload, 1) := by decide +kernel
theorem dX3_verbOf_14 : decode cX3_verbOf 14 = .ok (.goto 4, 3) := by decide +kernel
theorem dX3_verbOf_17 : decode cX3_verbOf 17 = .ok (.iconst 0, 1) := by decide +kernel
theorem dX3_verbOf_18 : decode cX3_verbOf 18 = .ok (.ireturn, 1) := by decide +kernel
theorem dX3_whichOf_0 : decode cX3_whichOf 0 = .ok (.aload_n 0, 1) := by decide +kernel
theorem dX3_whichOf_1 : decode cX3_whichOf 1 = .ok (.iload_n 1, 1) := by decide +kernel
theorem dX3_whichOf_2 : decode cX3_whichOf 2 = .ok (.invokevirtual 31, 3) := by decide +kernel
theorem dX3_whichOf_5 : decode cX3_whichOf 5 = .ok (.ifCond .eq 12, 3) := by decide +kernel
theorem dX3_whichOf_8 : decode cX3_whichOf 8 = .ok (.aload_n 0, 1) := by decide +kernel
theorem dX3_whichOf_9 : decode cX3_whichOf 9 = .ok (.getfield 21, 3) := by decide +kernel
theorem dX3_whichOf_12 : decode cX3_whichOf 12 = .ok (.iload_n 1, 1) := by decide +kernel
theorem dX3_whichOf_13 : decode cX3_whichOf 13 = .ok (.iaload, 1) := by decide +kernel
theorem dX3_whichOf_14 : decode cX3_whichOf 14 = .ok (.goto 4, 3) := by decide +kernel
theorem dX3_whichOf_17 : decode cX3_whichOf 17 = .ok (.iconst (-1), 1) := by decide +kernel
theorem dX3_whichOf_18 : decode cX3_whichOf 18 = .ok (.ireturn, 1) := by decide +kernel
theorem dX3_valueOf_0 : decode cX3_valueOf 0 = .ok (.aload_n 0, 1) := by decide +kernel
theorem dX3_valueOf_1 : decode cX3_valueOf 1 = .ok (.iload_n 1, 1) := by decide +kernel
theorem dX3_valueOf_2 : decode cX3_valueOf 2 = .ok (.invokevirtual 31, 3) := by decide +kernel
theorem dX3_valueOf_5 : decode cX3_valueOf 5 = .ok (.ifCond .eq 12, 3) := by decide +kernel
theorem dX3_valueOf_8 : decode cX3_valueOf 8 = .ok (.aload_n 0, 1) := by decide +kernel
theorem dX3_valueOf_9 : decode cX3_valueOf 9 = .ok (.getfield 24, 3) := by decide +kernel
theorem dX3_valueOf_12 : decode cX3_valueOf 12 = .ok (.iload_n 1, 1) := by decide +kernel
theorem dX3_valueOf_13 : decode cX3_valueOf 13 = .ok (.iaload, 1) := by decide +kernel
theorem dX3_valueOf_14 : decode cX3_valueOf 14 = .ok (.goto 4, 3) := by decide +kernel
theorem dX3_valueOf_17 : decode cX3_valueOf 17 = .ok (.iconst (-1), 1) := by decide +kernel
theorem dX3_valueOf_18 : decode cX3_valueOf 18 = .ok (.ireturn, 1) := by decide +kernel
theorem dX3_add_0 : decode cX3_add 0 = .ok (.aload_n 0, 1) := by decide +kernel
theorem dX3_add_1 : decode cX3_add 1 = .ok (.getfield 27, 3) := by decide +kernel
theorem dX3_add_4 : decode cX3_add 4 = .ok (.aload_n 0, 1) := by decide +kernel
theorem dX3_add_5 : decode cX3_add 5 = .ok (.getfield 15, 3) := by decide +kernel
theorem dX3_add_8 : decode cX3_add 8 = .ok (.arraylength, 1) := by decide +kernel
theorem dX3_add_9 : decode cX3_add 9 = .ok (.if_icmp .lt 7, 3) := by decide +kernel
theorem dX3_add_12 : decode cX3_add 12 = .ok (.aload_n 0, 1) := by decide +kernel
theorem dX3_add_13 : decode cX3_add 13 = .ok (.invokevirtual 35, 3) := by decide +kernel
theorem dX3_add_16 : decode cX3_add 16 = .ok (.aload_n 0, 1) := by decide +kernel
theorem dX3_add_17 : decode cX3_add 17 = .ok (.getfield 27, 3) := by decide +kernel
theorem dX3_add_20 : decode cX3_add 20 = .ok (.ifCond .lt 55, 3) := by decide +kernel
theorem dX3_add_23 : decode cX3_add 23 = .ok (.aload_n 0, 1) := by decide +kernel
theorem dX3_add_24 : decode cX3_add 24 = .ok (.getfield 27, 3) := by decide +kernel
theorem dX3_add_27 : decode cX3_add 27 = .ok (.aload_n 0, 1) := by decide +kernel
theorem dX3_add_28 : decode cX3_add 28 = .ok (.getfield 15, 3) := by decide +kernel
theorem dX3_add_31 : decode cX3_add 31 = .ok (.arraylength, 1) := by decide +kernel
theorem dX3_add_32 : decode cX3_add 32 = .ok (.if_icmp .ge 43, 3) := by decide +kernel
theorem dX3_add_35 : decode cX3_add 35 = .ok (.aload_n 0, 1) := by decide +kernel
theorem dX3_add_36 : decode cX3_add 36 = .ok (.getfield 15, 3) := by decide +kernel
theorem dX3_add_39 : decode cX3_add 39 = .ok (.aload_n 0, 1) := by decide +kernel
theorem dX3_add_40 : decode cX3_add 40 = .ok (.getfield 27, 3) := by decide +kernel
theorem dX3_add_43 : decode cX3_add 43 = .ok (.iload_n 1, 1) := by decide +kernel
theorem dX3_add_44 : decode cX3_add 44 = .ok (.iastore, 1) := by decide +kernel
theorem dX3_add_45 : decode cX3_add 45 = .ok (.aload_n 0, 1) := by decide +kernel
theorem dX3_add_46 : decode cX3_add 46 = .ok (.getfield 21, 3) := by decide +kernel
theorem dX3_add_49 : decode cX3_add 49 = .ok (.aload_n 0, 1) := by decide +kernel
theorem dX3_add_50 : decode cX3_add 50 = .ok (.getfield 27, 3) := by decide +kernel
theorem dX3_add_53 : decode cX3_add 53 = .ok (.iload_n 2, 1) := by decide +kernel
theorem dX3_add_54 : decode cX3_add 54 = .ok (.iastore, 1) := by decide +kernel
theorem dX3_add_55 : decode cX3_add 55 = .ok (.aload_n 0, 1) := by decide +kernel
theorem dX3_add_56 : decode cX3_add 56 = .ok (.getfield 24, 3) := by decide +kernel
theorem dX3_add_59 : decode cX3_add 59 = .ok (.aload_n 0, 1) := by decide +kernel
theorem dX3_add_60 : decode cX3_add 60 = .ok (.getfield 27, 3) := by decide +kernel
theorem dX3_add_63 : decode cX3_add 63 = .ok (.iload_n 3, 1) := by decide +kernel
theorem dX3_add_64 : decode cX3_add 64 = .ok (.iastore, 1) := by decide +kernel
theorem dX3_add_65 : decode cX3_add 65 = .ok (.aload_n 0, 1) := by decide +kernel
theorem dX3_add_66 : decode cX3_add 66 = .ok (.dup, 1) := by decide +kernel
theorem dX3_add_67 : decode cX3_add 67 = .ok (.getfield 27, 3) := by decide +kernel
theorem dX3_add_70 : decode cX3_add 70 = .ok (.iconst 1, 1) := by decide +kernel
theorem dX3_add_71 : decode cX3_add 71 = .ok (.iadd, 1) := by decide +kernel
theorem dX3_add_72 : decode cX3_add 72 = .ok (.putfield 27, 3) := by decide +kernel
theorem dX3_add_75 : decode cX3_add 75 = .ok (.return_, 1) := by decide +kernel
theorem dX3_forgetOldest_0 : decode cX3_forgetOldest 0 = .ok (.iconst 1, 1) := by decide +kernel
theorem dX3_forgetOldest_1 : decode cX3_forgetOldest 1 = .ok (.istore_n 1, 1) := by decide +kernel
theorem dX3_forgetOldest_2 : decode cX3_forgetOldest 2 = .ok (.iload_n 1, 1) := by decide +kernel
theorem dX3_forgetOldest_3 : decode cX3_forgetOldest 3 = .ok (.aload_n 0, 1) := by decide +kernel
theorem dX3_forgetOldest_4 : decode cX3_forgetOldest 4 = .ok (.getfield 15, 3) := by decide +kernel
theorem dX3_forgetOldest_7 : decode cX3_forgetOldest 7 = .ok (.arraylength, 1) := by decide +kernel
theorem dX3_forgetOldest_8 : decode cX3_forgetOldest 8 = .ok (.if_icmp .ge 51, 3) := by decide +kernel
theorem dX3_forgetOldest_11 : decode cX3_forgetOldest 11 = .ok (.aload_n 0, 1) := by decide +kernel
theorem dX3_forgetOldest_12 : decode cX3_forgetOldest 12 = .ok (.getfield 15, 3) := by decide +kernel
theorem dX3_forgetOldest_15 : decode cX3_forgetOldest 15 = .ok (.iload_n 1, 1) := by decide +kernel
theorem dX3_forgetOldest_16 : decode cX3_forgetOldest 16 = .ok (.iconst 1, 1) := by decide +kernel
theorem dX3_forgetOldest_17 : decode cX3_forgetOldest 17 = .ok (.isub, 1) := by decide +kernel
theorem dX3_forgetOldest_18 : decode cX3_forgetOldest 18 = .ok (.aload_n 0, 1) := by decide +kernel
theorem dX3_forgetOldest_19 : decode cX3_forgetOldest 19 = .ok (.getfield 15, 3) := by decide +kernel
theorem dX3_forgetOldest_22 : decode cX3_forgetOldest 22 = .ok (.iload_n 1, 1) := by decide +kernel
theorem dX3_forgetOldest_23 : decode cX3_forgetOldest 23 = .ok (.iaload, 1) := by decide +kernel
theorem dX3_forgetOldest_24 : decode cX3_forgetOldest 24 = .ok (.iastore, 1) := by decide +kernel
theorem dX3_forgetOldest_25 : decode cX3_forgetOldest 25 = .ok (.aload_n 0, 1) := by decide +kernel
theorem dX3_forgetOldest_26 : decode cX3_forgetOldest 26 = .ok (.getfield 21, 3) := by decide +kernel
theorem dX3_forgetOldest_29 : decode cX3_forgetOldest 29 = .ok (.iload_n 1, 1) := by decide +kernel
theorem dX3_forgetOldest_30 : decode cX3_forgetOldest 30 = .ok (.iconst 1, 1) := by decide +kernel
theorem dX3_forgetOldest_31 : decode cX3_forgetOldest 31 = .ok (.isub, 1) := by decide +kernel
theorem dX3_forgetOldest_32 : decode cX3_forgetOldest 32 = .ok (.aload_n 0, 1) := by decide +kernel
theorem dX3_forgetOldest_33 : decode cX3_forgetOldest 33 = .ok (.getfield 21, 3) := by decide +kernel
theorem dX3_forgetOldest_36 : decode cX3_forgetOldest 36 = .ok (.iload_n 1, 1) := by decide +kernel
theorem dX3_forgetOldest_37 : decode cX3_forgetOldest 37 = .ok (.iaload, 1) := by decide +kernel
theorem dX3_forgetOldest_38 : decode cX3_forgetOldest 38 = .ok (.iastore, 1) := by decide +kernel
theorem dX3_forgetOldest_39 : decode cX3_forgetOldest 39 = .ok (.aload_n 0, 1) := by decide +kernel
theorem dX3_forgetOldest_40 : decode cX3_forgetOldest 40 = .ok (.getfield 24, 3) := by decide +kernel
theorem dX3_forgetOldest_43 : decode cX3_forgetOldest 43 = .ok (.iload_n 1, 1) := by decide +kernel
theorem dX3_forgetOldest_44 : decode cX3_forgetOldest 44 = .ok (.iconst 1, 1) := by decide +kernel
theorem dX3_forgetOldest_45 : decode cX3_forgetOldest 45 = .ok (.isub, 1) := by decide +kernel
theorem dX3_forgetOldest_46 : decode cX3_forgetOldest 46 = .ok (.aload_n 0, 1) := by decide +kernel
theorem dX3_forgetOldest_47 : decode cX3_forgetOldest 47 = .ok (.getfield 24, 3) := by decide +kernel
theorem dX3_forgetOldest_50 : decode cX3_forgetOldest 50 = .ok (.iload_n 1, 1) := by decide +kernel
theorem dX3_forgetOldest_51 : decode cX3_forgetOldest 51 = .ok (.iaload, 1) := by decide +kernel
theorem dX3_forgetOldest_52 : decode cX3_forgetOldest 52 = .ok (.iastore, 1) := by decide +kernel
theorem dX3_forgetOldest_53 : decode cX3_forgetOldest 53 = .ok (.iinc 1 1, 3) := by decide +kernel
theorem dX3_forgetOldest_56 : decode cX3_forgetOldest 56 = .ok (.goto (-54), 3) := by decide +kernel
theorem dX3_forgetOldest_59 : decode cX3_forgetOldest 59 = .ok (.aload_n 0, 1) := by decide +kernel
theorem dX3_forgetOldest_60 : decode cX3_forgetOldest 60 = .ok (.aload_n 0, 1) := by decide +kernel
theorem dX3_forgetOldest_61 : decode cX3_forgetOldest 61 = .ok (.getfield 15, 3) := by decide +kernel
theorem dX3_forgetOldest_64 : decode cX3_forgetOldest 64 = .ok (.arraylength, 1) := by decide +kernel
theorem dX3_forgetOldest_65 : decode cX3_forgetOldest 65 = .ok (.iconst 1, 1) := by decide +kernel
theorem dX3_forgetOldest_66 : decode cX3_forgetOldest 66 = .ok (.isub, 1) := by decide +kernel
theorem dX3_forgetOldest_67 : decode cX3_forgetOldest 67 = .ok (.putfield 27, 3) := by decide +kernel
theorem dX3_forgetOldest_70 : decode cX3_forgetOldest 70 = .ok (.return_, 1) := by decide +kernel
theorem dX3_copyFrom_0 : decode cX3_copyFrom 0 = .ok (.aload_n 0, 1) := by decide +kernel
theorem dX3_copyFrom_1 : decode cX3_copyFrom 1 = .ok (.iconst 0, 1) := by decide +kernel
theorem dX3_copyFrom_2 : decode cX3_copyFrom 2 = .ok (.putfield 27, 3) := by decide +kernel
theorem dX3_copyFrom_5 : decode cX3_copyFrom 5 = .ok (.iconst 0, 1) := by decide +kernel
theorem dX3_copyFrom_6 : decode cX3_copyFrom 6 = .ok (.istore_n 2, 1) := by decide +kernel
theorem dX3_copyFrom_7 : decode cX3_copyFrom 7 = .ok (.iload_n 2, 1) := by decide +kernel
theorem dX3_copyFrom_8 : decode cX3_copyFrom 8 = .ok (.aload_n 1, 1) := by decide +kernel
theorem dX3_copyFrom_9 : decode cX3_copyFrom 9 = .ok (.getfield 27, 3) := by decide +kernel
theorem dX3_copyFrom_12 : decode cX3_copyFrom 12 = .ok (.if_icmp .ge 28, 3) := by decide +kernel
theorem dX3_copyFrom_15 : decode cX3_copyFrom 15 = .ok (.aload_n 0, 1) := by decide +kernel
theorem dX3_copyFrom_16 : decode cX3_copyFrom 16 = .ok (.aload_n 1, 1) := by decide +kernel
theorem dX3_copyFrom_17 : decode cX3_copyFrom 17 = .ok (.iload_n 2, 1) := by decide +kernel
theorem dX3_copyFrom_18 : decode cX3_copyFrom 18 = .ok (.invokevirtual 38, 3) := by decide +kernel
theorem dX3_copyFrom_21 : decode cX3_copyFrom 21 = .ok (.aload_n 1, 1) := by decide +kernel
theorem dX3_copyFrom_22 : decode cX3_copyFrom 22 = .ok (.iload_n 2, 1) := by decide +kernel
theorem dX3_copyFrom_23 : decode cX3_copyFrom 23 = .ok (.invokevirtual 42, 3) := by decide +kernel
theorem dX3_copyFrom_26 : decode cX3_copyFrom 26 = .ok (.aload_n 1, 1) := by decide +kernel
theorem dX3_copyFrom_27 : decode cX3_copyFrom 27 = .ok (.iload_n 2, 1) := by decide +kernel
theorem dX3_copyFrom_28 : decode cX3_copyFrom 28 = .ok (.invokevirtual 45, 3) := by decide +kernel
theorem dX3_copyFrom_31 : decode cX3_copyFrom 31 = .ok (.invokevirtual 48, 3) := by decide +kernel
theorem dX3_copyFrom_34 : decode cX3_copyFrom 34 = .ok (.iinc 2 1, 3) := by decide +kernel
theorem dX3_copyFrom_37 : decode cX3_copyFrom 37 = .ok (.goto (-30), 3) := by decide +kernel
theorem dX3_copyFrom_40 : decode cX3_copyFrom 40 = .ok (.return_, 1) := by decide +kernel
theorem dX4_init_0 : decode cX4_init 0 = .ok (.aload_n 0, 1) := by decide +kernel
theorem dX4_init_1 : decode cX4_init 1 = .ok (.invokespecial 3, 3) := by decide +kernel
theorem dX4_init_4 : decode cX4_init 4 = .ok (.aload_n 0, 1) := by decide +kernel
theorem dX4_init_5 : decode cX4_init 5 = .ok (.sipush 1000, 3) := by decide +kernel
theorem dX4_init_8 : decode cX4_init 8 = .ok (.newarray .int, 2) := by decide +kernel
theorem dX4_init_10 : decode cX4_init 10 = .ok (.putfield 9, 3) := by decide +kernel
theorem dX4_init_13 : decode cX4_init 13 = .ok (.aload_n 0, 1) := by decide +kernel
theorem dX4_init_14 : decode cX4_init 14 = .ok (.bipush 32, 2) := by decide +kernel
theorem dX4_init_16 : decode cX4_init 16 = .ok (.newarray .int, 2) := by decide +kernel
theorem dX4_init_18 : decode cX4_init 18 = .ok (.putfield 15, 3) := by decide +kernel
theorem dX4_init_21 : decode cX4_init 21 = .ok (.aload_n 0, 1) := by decide +kernel
theorem dX4_init_22 : decode cX4_init 22 = .ok (.getfield 9, 3) := by decide +kernel
theorem dX4_init_25 : decode cX4_init 25 = .ok (.iconst 0, 1) := by decide +kernel
theorem dX4_init_26 : decode cX4_init 26 = .ok (.sipush (-143), 3) := by decide +kernel
theorem dX4_init_29 : decode cX4_init 29 = .ok (.iastore, 1) := by decide +kernel
theorem dX4_init_30 : decode cX4_init 30 = .ok (.aload_n 0, 1) := by decide +kernel
theorem dX4_init_31 : decode cX4_init 31 = .ok (.iconst 1, 1) := by decide +kernel
theorem dX4_init_32 : decode cX4_init 32 = .ok (.putfield 18, 3) := by decide +kernel
theorem dX4_init_35 : decode cX4_init 35 = .ok (.return_, 1) := by decide +kernel
theorem dX4_bePlain_0 : decode cX4_bePlain 0 = .ok (.aload_n 0, 1) := by decide +kernel
theorem dX4_bePlain_1 : decode cX4_bePlain 1 = .ok (.iconst 0, 1) := by decide +kernel
theorem dX4_bePlain_2 : decode cX4_bePlain 2 = .ok (.putfield 18, 3) := by decide +kernel
theorem dX4_bePlain_5 : decode cX4_bePlain 5 = .ok (.aload_n 0, 1) := by decide +kernel
theorem dX4_bePlain_6 : decode cX4_bePlain 6 = .ok (.sipush (-143), 3) := by decide +kernel
theorem dX4_bePlain_9 : decode cX4_bePlain 9 = .ok (.invokevirtual 22, 3) := by decide +kernel
theorem dX4_bePlain_12 : decode cX4_bePlain 12 = .ok (.return_, 1) := by decide +kernel
theorem dX4_add_0 : decode cX4_add 0 = .ok (.aload_n 0, 1) := by decide +kernel
theorem dX4_add_1 : decode cX4_add 1 = .ok (.getfield 18, 3) := by decide +kernel
theorem dX4_add_4 : decode cX4_add 4 = .ok (.ifCond .lt 35, 3) := by decide +kernel
theorem dX4_add_7 : decode cX4_add 7 = .ok (.aload_n 0, 1) := by decide +kernel
theorem dX4_add_8 : decode cX4_add 8 = .ok (.getfield 18, 3) := by decide +kernel
theorem dX4_add_11 : decode cX4_add 11 = .ok (.aload_n 0, 1) := by decide +kernel
theorem dX4_add_12 : decode cX4_add 12 = .ok (.getfield 9, 3) := by decide +kernel
theorem dX4_add_15 : decode cX4_add 15 = .ok (.arraylength, 1) := by decide +kernel
theorem dX4_add_16 : decode cX4_add 16 = .ok (.if_icmp .ge 23, 3) := by decide +kernel
theorem dX4_add_19 : decode cX4_add 19 = .ok (.aload_n 0, 1) := by decide +kernel
theorem dX4_add_20 : decode cX4_add 20 = .ok (.getfield 9, 3) := by decide +kernel
theorem dX4_add_23 : decode cX4_add 23 = .ok (.aload_n 0, 1) := by decide +kernel
theorem dX4_add_24 : decode cX4_add 24 = .ok (.getfield 18, 3) := by decide +kernel
theorem dX4_add_27 : decode cX4_add 27 = .ok (.iload_n 1, 1) := by decide +kernel
theorem dX4_add_28 : decode cX4_add 28 = .ok (.iastore, 1) := by decide +kernel
theorem dX4_add_29 : decode cX4_add 29 = .ok (.aload_n 0, 1) := by decide +kernel
theorem dX4_add_30 : decode cX4_add 30 = .ok (.dup, 1) := by decide +kernel
theorem dX4_add_31 : decode cX4_add 31 = .ok (.getfield 18, 3) := by decide +kernel
theorem dX4_add_34 : decode cX4_add 34 = .ok (.iconst 1, 1) := by decide +kernel
theorem dX4_add_35 : decode cX4_add 35 = .ok (.iadd, 1) := by decide +kernel
theorem dX4_add_36 : decode cX4_add 36 = .ok (.putfield 18, 3) := by decide +kernel
theorem dX4_add_39 : decode cX4_add 39 = .ok (.return_, 1) := by decide +kernel
theorem dX4_copyFrom_0 : decode cX4_copyFrom 0 = .ok (.aload_n 1, 1) := by decide +kernel
theorem dX4_copyFrom_1 : decode cX4_copyFrom 1 = .ok (.getfield 9, 3) := by decide +kernel
theorem dX4_copyFrom_4 : decode cX4_copyFrom 4 = .ok (.iconst 0, 1) := by decide +kernel
theorem dX4_copyFrom_5 : decode cX4_copyFrom 5 = .ok (.aload_n 0, 1) := by decide +kernel
theorem dX4_copyFrom_6 : decode cX4_copyFrom 6 = .ok (.getfield 9, 3) := by decide +kernel
theorem dX4_copyFrom_9 : decode cX4_copyFrom 9 = .ok (.iconst 0, 1) := by decide +kernel
theorem dX4_copyFrom_10 : decode cX4_copyFrom 10 = .ok (.aload_n 0, 1) := by decide +kernel
theorem dX4_copyFrom_11 : decode cX4_copyFrom 11 = .ok (.getfield 9, 3) := by decide +kernel
theorem dX4_copyFrom_14 : decode cX4_copyFrom 14 = .ok (.arraylength, 1) := by decide +kernel
theorem dX4_copyFrom_15 : decode cX4_copyFrom 15 = .ok (.invokestatic 26, 3) := by decide +kernel
theorem dX4_copyFrom_18 : decode cX4_copyFrom 18 = .ok (.aload_n 0, 1) := by decide +kernel
theorem dX4_copyFrom_19 : decode cX4_copyFrom 19 = .ok (.aload_n 1, 1) := by decide +kernel
theorem dX4_copyFrom_20 : decode cX4_copyFrom 20 = .ok (.getfield 18, 3) := by decide +kernel
theorem dX4_copyFrom_23 : decode cX4_copyFrom 23 = .ok (.putfield 18, 3) := by decide +kernel
theorem dX4_copyFrom_26 : decode cX4_copyFrom 26 = .ok (.return_, 1) := by decide +kernel
theorem dX4_weigh_0 : decode cX4_weigh 0 = .ok (.iconst 0, 1) := by decide +kernel
theorem dX4_weigh_1 : decode cX4_weigh 1 = .ok (.istore 5, 2) := by decide +kernel
theorem dX4_weigh_3 : decode cX4_weigh 3 = .ok (.iconst 0, 1) := by decide +kernel
theorem dX4_weigh_4 : decode cX4_weigh 4 = .ok (.istore 6, 2) := by decide +kernel
theorem dX4_weigh_6 : decode cX4_weigh 6 = .ok (.iload 6, 2) := by decide +kernel
theorem dX4_weigh_8 : decode cX4_weigh 8 = .ok (.aload_n 0, 1) := by decide +kernel
theorem dX4_weigh_9 : decode cX4_weigh 9 = .ok (.getfield 18, 3) := by decide +kernel
theorem dX4_weigh_12 : decode cX4_weigh 12 = .ok (.if_icmp .ge 157, 3) := by decide +kernel
theorem dX4_weigh_15 : decode cX4_weigh 15 = .ok (.iload 6, 2) := by decide +kernel
theorem dX4_weigh_17 : decode cX4_weigh 17 = .ok (.aload_n 0, 1) := by decide +kernel
theorem dX4_weigh_18 : decode cX4_weigh 18 = .ok (.getfield 9, 3) := by decide +kernel
theorem dX4_weigh_21 : decode cX4_weigh 21 = .ok (.arraylength, 1) := by decide +kernel
theorem dX4_weigh_22 : decode cX4_weigh 22 = .ok (.if_icmp .ge 147, 3) := by decide +kernel
theorem dX4_weigh_25 : decode cX4_weigh 25 = .ok (.aload_n 0, 1) := by decide +kernel
theorem dX4_weigh_26 : decode cX4_weigh 26 = .ok (.getfield 9, 3) := by decide +kernel
theorem dX4_weigh_29 : decode cX4_weigh 29 = .ok (.iload 6, 2) := by decide +kernel
theorem dX4_weigh_31 : decode cX4_weigh 31 = .ok (.iaload, 1) := by decide +kernel
theorem dX4_weigh_32 : decode cX4_weigh 32 = .ok (.ineg, 1) := by decide +kernel
theorem dX4_weigh_33 : decode cX4_weigh 33 = .ok (.istore 7, 2) := by decide +kernel
theorem dX4_weigh_35 : decode cX4_weigh 35 = .ok (.iload 7, 2) := by decide +kernel
theorem dX4_weigh_37 : decode cX4_weigh 37 = .ok (.sipush 140, 3) := by decide +kernel
theorem dX4_weigh_40 : decode cX4_weigh 40 = .ok (.if_icmp .ne 38, 3) := by decide +kernel
theorem dX4_weigh_43 : decode cX4_weigh 43 = .ok (.iload 5, 2) := by decide +kernel
theorem dX4_weigh_45 : decode cX4_weigh 45 = .ok (.iconst 1, 1) := by decide +kernel
theorem dX4_weigh_46 : decode cX4_weigh 46 = .ok (.if_icmp .lt 117, 3) := by decide +kernel
theorem dX4_weigh_49 : decode cX4_weigh 49 = .ok (.aload_n 0, 1) := by decide +kernel
theorem dX4_weigh_50 : decode cX4_weigh 50 = .ok (.getfield 15, 3) := by decide +kernel
theorem dX4_weigh_53 : decode cX4_weigh 53 = .ok (.iload 5, 2) := by decide +kernel
theorem dX4_weigh_55 : decode cX4_weigh 55 = .ok (.iconst 1, 1) := by decide +kernel
theorem dX4_weigh_56 : decode cX4_weigh 56 = .ok (.isub, 1) := by decide +kernel
theorem dX4_weigh_57 : decode cX4_weigh 57 = .ok (.aload_n 0, 1) := by decide +kernel
theorem dX4_weigh_58 : decode cX4_weigh 58 = .ok (.getfield 15, 3) := by decide +kernel
theorem dX4_weigh_61 : decode cX4_weigh 61 = .ok (.iload 5, 2) := by decide +kernel
theorem dX4_weigh_63 : decode cX4_weigh 63 = .ok (.iconst 1, 1) := by decide +kernel
theorem dX4_weigh_64 : decode cX4_weigh 64 = .ok (.isub, 1) := by decide +kernel
theorem dX4_weigh_65 : decode cX4_weigh 65 = .ok (.iaload, 1) := by decide +kernel
theorem dX4_weigh_66 : decode cX4_weigh 66 = .ok (.ifCond .ne 7, 3) := by decide +kernel
theorem dX4_weigh_69 : decode cX4_weigh 69 = .ok (.iconst 1, 1) := by decide +kernel
theorem dX4_weigh_70 : decode cX4_weigh 70 = .ok (.goto 4, 3) := by decide +kernel
theorem dX4_weigh_73 : decode cX4_weigh 73 = .ok (.iconst 0, 1) := by decide +kernel
theorem dX4_weigh_74 : decode cX4_weigh 74 = .ok (.iastore, 1) := by decide +kernel
theorem dX4_weigh_75 : decode cX4_weigh 75 = .ok (.goto 88, 3) := by decide +kernel
theorem dX4_weigh_78 : decode cX4_weigh 78 = .ok (.iload 7, 2) := by decide +kernel
theorem dX4_weigh_80 : decode cX4_weigh 80 = .ok (.ifCond .le 53, 3) := by decide +kernel
theorem dX4_weigh_83 : decode cX4_weigh 83 = .ok (.iload 7, 2) := by decide +kernel
theorem dX4_weigh_85 : decode cX4_weigh 85 = .ok (.sipush 143, 3) := by decide +kernel
theorem dX4_weigh_88 : decode cX4_weigh 88 = .ok (.if_icmp .ge 45, 3) := by decide +kernel
theorem dX4_weigh_91 : decode cX4_weigh 91 = .ok (.iload 5, 2) := by decide +kernel
theorem dX4_weigh_93 : decode cX4_weigh 93 = .ok (.iconst 2, 1) := by decide +kernel
theorem dX4_weigh_94 : decode cX4_weigh 94 = .ok (.if_icmp .lt 69, 3) := by decide +kernel
theorem dX4_weigh_97 : decode cX4_weigh 97 = .ok (.iinc 5 (-1), 3) := by decide +kernel
theorem dX4_weigh_100 : decode cX4_weigh 100 = .ok (.aload_n 0, 1) := by decide +kernel
theorem dX4_weigh_101 : decode cX4_weigh 101 = .ok (.getfield 15, 3) := by decide +kernel
theorem dX4_weigh_104 : decode cX4_weigh 104 = .ok (.iload 5, 2) := by decide +kernel
theorem dX4_weigh_106 : decode cX4_weigh 106 = .ok (.iconst 1, 1) := by decide +kernel
theorem dX4_weigh_107 : decode cX4_weigh 107 = .ok (.isub, 1) := by decide +kernel
theorem dX4_weigh_108 : decode cX4_weigh 108 = .ok (.iload 7, 2) := by decide +kernel
theorem dX4_weigh_110 : decode cX4_weigh 110 = .ok (.aload_n 0, 1) := by decide +kernel
theorem dX4_weigh_111 : decode cX4_weigh 111 = .ok (.getfield 15, 3) := by decide +kernel
theorem dX4_weigh_114 : decode cX4_weigh 114 = .ok (.iload 5, 2) := by decide +kernel
theorem dX4_weigh_116 : decode cX4_weigh 116 = .ok (.iconst 1, 1) := by decide +kernel
theorem dX4_weigh_117 : decode cX4_weigh 117 = .ok (.isub, 1) := by decide +kernel
theorem dX4_weigh_118 : decode cX4_weigh 118 = .ok (.iaload, 1) := by decide +kernel
theorem dX4_weigh_119 : decode cX4_weigh 119 = .ok (.aload_n 0, 1) := by decide +kernel
theorem dX4_weigh_120 : decode cX4_weigh 120 = .ok (.getfield 15, 3) := by decide +kernel
theorem dX4_weigh_123 : decode cX4_weigh 123 = .ok (.iload 5, 2) := by decide +kernel
theorem dX4_weigh_125 : decode cX4_weigh 125 = .ok (.iaload, 1) := by decide +kernel
theorem dX4_weigh_126 : decode cX4_weigh 126 = .ok (.invokestatic 32, 3) := by decide +kernel
theorem dX4_weigh_129 : decode cX4_weigh 129 = .ok (.iastore, 1) := by decide +kernel
theorem dX4_weigh_130 : decode cX4_weigh 130 = .ok (.goto 33, 3) := by decide +kernel
theorem dX4_weigh_133 : decode cX4_weigh 133 = .ok (.iload 5, 2) := by decide +kernel
theorem dX4_weigh_135 : decode cX4_weigh 135 = .ok (.aload_n 0, 1) := by decide +kernel
theorem dX4_weigh_136 : decode cX4_weigh 136 = .ok (.getfield 15, 3) := by decide +kernel
theorem dX4_weigh_139 : decode cX4_weigh 139 = .ok (.arraylength, 1) := by decide +kernel
theorem dX4_weigh_140 : decode cX4_weigh 140 = .ok (.if_icmp .ge 23, 3) := by decide +kernel
theorem dX4_weigh_143 : decode cX4_weigh 143 = .ok (.aload_n 0, 1) := by decide +kernel
theorem dX4_weigh_144 : decode cX4_weigh 144 = .ok (.getfield 15, 3) := by decide +kernel
theorem dX4_weigh_147 : decode cX4_weigh 147 = .ok (.iload 5, 2) := by decide +kernel
theorem dX4_weigh_149 : decode cX4_weigh 149 = .ok (.iload 7, 2) := by decide +kernel
theorem dX4_weigh_151 : decode cX4_weigh 151 = .ok (.iload_n 1, 1) := by decide +kernel
theorem dX4_weigh_152 : decode cX4_weigh 152 = .ok (.iload_n 2, 1) := by decide +kernel
theorem dX4_weigh_153 : decode cX4_weigh 153 = .ok (.iload_n 3, 1) := by decide +kernel
theorem dX4_weigh_154 : decode cX4_weigh 154 = .ok (.iload 4, 2) := by decide +kernel
theorem dX4_weigh_156 : decode cX4_weigh 156 = .ok (.invokestatic 36, 3) := by decide +kernel
theorem dX4_weigh_159 : decode cX4_weigh 159 = .ok (.iastore, 1) := by decide +kernel
theorem dX4_weigh_160 : decode cX4_weigh 160 = .ok (.iinc 5 1, 3) := by decide +kernel
theorem dX4_weigh_163 : decode cX4_weigh 163 = .ok (.iinc 6 1, 3) := by decide +kernel
theorem dX4_weigh_166 : decode cX4_weigh 166 = .ok (.goto (-160), 3) := by decide +kernel
theorem dX4_weigh_169 : decode cX4_weigh 169 = .ok (.iload 5, 2) := by decide +kernel
theorem dX4_weigh_171 : decode cX4_weigh 171 = .ok (.ifCond .le 15, 3) := by decide +kernel
theorem dX4_weigh_174 : decode cX4_weigh 174 = .ok (.aload_n 0, 1) := by decide +kernel
theorem dX4_weigh_175 : decode cX4_weigh 175 = .ok (.getfield 15, 3) := by decide +kernel
theorem dX4_weigh_178 : decode cX4_weigh 178 = .ok (.iload 5, 2) := by decide +kernel
theorem dX4_weigh_180 : decode cX4_weigh 180 = .ok (.iconst 1, 1) := by decide +kernel
theorem dX4_weigh_181 : decode cX4_weigh 181 = .ok (.isub, 1) := by decide +kernel
theorem dX4_weigh_182 : decode cX4_weigh 182 = .ok (.iaload, 1) := by decide +kernel
theorem dX4_weigh_183 : decode cX4_weigh 183 = .ok (.goto 4, 3) := by decide +kernel
theorem dX4_weigh_186 : decode cX4_weigh 186 = .ok (.iconst 0, 1) := by decide +kernel
theorem dX4_weigh_187 : decode cX4_weigh 187 = .ok (.ireturn, 1) := by decide +kernel
theorem dX4_operand_0 : decode cX4_operand 0 = .ok (.iload_n 0, 1) := by decide +kernel
theorem dX4_operand_1 : decode cX4_operand 1 = .ok (.tableswitch 40 143 146 #[31, 33, 35, 37], 31) := by decide +kernel
theorem dX4_operand_32 : decode cX4_operand 32 = .ok (.iload_n 1, 1) := by decide +kernel
theorem dX4_operand_33 : decode cX4_operand 33 = .ok (.ireturn, 1) := by decide +kernel
theorem dX4_operand_34 : decode cX4_operand 34 = .ok (.iload_n 2, 1) := by decide +kernel
theorem dX4_operand_35 : decode cX4_operand 35 = .ok (.ireturn, 1) := by decide +kernel
theorem dX4_operand_36 : decode cX4_operand 36 = .ok (.iload_n 3, 1) := by decide +kernel
theorem dX4_operand_37 : decode cX4_operand 37 = .ok (.ireturn, 1) := by decide +kernel
theorem dX4_operand_38 : decode cX4_operand 38 = .ok (.iload 4, 2) := by decide +kernel
theorem dX4_operand_40 : decode cX4_operand 40 = .ok (.ireturn, 1) := by decide +kernel
theorem dX4_operand_41 : decode cX4_operand 41 = .ok (.iload_n 0, 1) := by decide +kernel
theorem dX4_operand_42 : decode cX4_operand 42 = .ok (.ineg, 1) := by decide +kernel
theorem dX4_operand_43 : decode cX4_operand 43 = .ok (.ireturn, 1) := by decide +kernel
theorem dX4_result_0 : decode cX4_result 0 = .ok (.iload_n 0, 1) := by decide +kernel
theorem dX4_result_1 : decode cX4_result 1 = .ok (.lookupswitch 117 #[(43, 109), (45, 113), (60, 87), (61, 98), (141, 59), (142, 73)], 59) := by decide +kernel
theorem dX4_result_60 : decode cX4_result 60 = .ok (.iload_n 1, 1) := by decide +kernel
theorem dX4_result_61 : decode cX4_result 61 = .ok (.ifCond .eq 11, 3) := by decide +kernel
theorem dX4_result_64 : decode cX4_result 64 = .ok (.iload_n 2, 1) := by decide +kernel
theorem dX4_result_65 : decode cX4_result 65 = .ok (.ifCond .eq 7, 3) := by decide +kernel
theorem dX4_result_68 : decode cX4_result 68 = .ok (.iconst 1, 1) := by decide +kernel
theorem dX4_result_69 : decode cX4_result 69 = .ok (.goto 4, 3) := by decide +kernel
theorem dX4_result_72 : decode cX4_result 72 = .ok (.iconst 0, 1) := by decide +kernel
theorem dX4_result_73 : decode cX4_result 73 = .ok (.ireturn, 1) := by decide +kernel
theorem dX4_result_74 : decode cX4_result 74 = .ok (.iload_n 1, 1) := by decide +kernel
theorem dX4_result_75 : decode cX4_result 75 = .ok (.ifCond .ne 7, 3) := by decide +kernel
theorem dX4_result_78 : decode cX4_result 78 = .ok (.iload_n 2, 1) := by decide +kernel
theorem dX4_result_79 : decode cX4_result 79 = .ok (.ifCond .eq 7, 3) := by decide +kernel
theorem dX4_result_82 : decode cX4_result 82 = .ok (.iconst 1, 1) := by decide +kernel
theorem dX4_result_83 : decode cX4_result 83 = .ok (.goto 4, 3) := by decide +kernel
theorem dX4_result_86 : decode cX4_result 86 = .ok (.iconst 0, 1) := by decide +kernel
theorem dX4_result_87 : decode cX4_result 87 = .ok (.ireturn, 1) := by decide +kernel
theorem dX4_result_88 : decode cX4_result 88 = .ok (.iload_n 1, 1) := by decide +kernel
theorem dX4_result_89 : decode cX4_result 89 = .ok (.iload_n 2, 1) := by decide +kernel
theorem dX4_result_90 : decode cX4_result 90 = .ok (.if_icmp .ge 7, 3) := by decide +kernel
theorem dX4_result_93 : decode cX4_result 93 = .ok (.iconst 1, 1) := by decide +kernel
theorem dX4_result_94 : decode cX4_result 94 = .ok (.goto 4, 3) := by decide +kernel
theorem dX4_result_97 : decode cX4_result 97 = .ok (.iconst 0, 1) := by decide +kernel
theorem dX4_result_98 : decode cX4_result 98 = .ok (.ireturn, 1) := by decide +kernel
theorem dX4_result_99 : decode cX4_result 99 = .ok (.iload_n 1, 1) := by decide +kernel
theorem dX4_result_100 : decode cX4_result 100 = .ok (.iload_n 2, 1) := by decide +kernel
theorem dX4_result_101 : decode cX4_result 101 = .ok (.if_icmp .ne 7, 3) := by decide +kernel
theorem dX4_result_104 : decode cX4_result 104 = .ok (.iconst 1, 1) := by decide +kernel
theorem dX4_result_105 : decode cX4_result 105 = .ok (.goto 4, 3) := by decide +kernel
theorem dX4_result_108 : decode cX4_result 108 = .ok (.iconst 0, 1) := by decide +kernel
theorem dX4_result_109 : decode cX4_result 109 = .ok (.ireturn, 1) := by decide +kernel
theorem dX4_result_110 : decode cX4_result 110 = .ok (.iload_n 1, 1) := by decide +kernel
theorem dX4_result_111 : decode cX4_result 111 = .ok (.iload_n 2, 1) := by decide +kernel
theorem dX4_result_112 : decode cX4_result 112 = .ok (.iadd, 1) := by decide +kernel
theorem dX4_result_113 : decode cX4_result 113 = .ok (.ireturn, 1) := by decide +kernel
theorem dX4_result_114 : decode cX4_result 114 = .ok (.iload_n 1, 1) := by decide +kernel
theorem dX4_result_115 : decode cX4_result 115 = .ok (.iload_n 2, 1) := by decide +kernel
theorem dX4_result_116 : decode cX4_result 116 = .ok (.isub, 1) := by decide +kernel
theorem dX4_result_117 : decode cX4_result 117 = .ok (.ireturn, 1) := by decide +kernel
theorem dX4_result_118 : decode cX4_result 118 = .ok (.iload_n 1, 1) := by decide +kernel
theorem dX4_result_119 : decode cX4_result 119 = .ok (.iload_n 2, 1) := by decide +kernel
theorem dX4_result_120 : decode cX4_result 120 = .ok (.imul, 1) := by decide +kernel
theorem dX4_result_121 : decode cX4_result 121 = .ok (.ireturn, 1) := by decide +kernel
theorem dX5_init_0 : decode cX5_init 0 = .ok (.aload_n 0, 1) := by decide +kernel
theorem dX5_init_1 : decode cX5_init 1 = .ok (.invokespecial 3, 3) := by decide +kernel
theorem dX5_init_4 : decode cX5_init 4 = .ok (.aload_n 0, 1) := by decide +kernel
theorem dX5_init_5 : decode cX5_init 5 = .ok (.new 9, 3) := by decide +kernel
theorem dX5_init_8 : decode cX5_init 8 = .ok (.dup, 1) := by decide +kernel
theorem dX5_init_9 : decode cX5_init 9 = .ok (.invokespecial 11, 3) := by decide +kernel
theorem dX5_init_12 : decode cX5_init 12 = .ok (.putfield 12, 3) := by decide +kernel
theorem dX5_init_15 : decode cX5_init 15 = .ok (.aload_n 0, 1) := by decide +kernel
theorem dX5_init_16 : decode cX5_init 16 = .ok (.new 18, 3) := by decide +kernel
theorem dX5_init_19 : decode cX5_init 19 = .ok (.dup, 1) := by decide +kernel
theorem dX5_init_20 : decode cX5_init 20 = .ok (.invokespecial 20, 3) := by decide +kernel
theorem dX5_init_23 : decode cX5_init 23 = .ok (.putfield 21, 3) := by decide +kernel
theorem dX5_init_26 : decode cX5_init 26 = .ok (.aload_n 0, 1) := by decide +kernel
theorem dX5_init_27 : decode cX5_init 27 = .ok (.new 25, 3) := by decide +kernel
theorem dX5_init_30 : decode cX5_init 30 = .ok (.dup, 1) := by decide +kernel
theorem dX5_init_31 : decode cX5_init 31 = .ok (.bipush 30, 2) := by decide +kernel
theorem dX5_init_33 : decode cX5_init 33 = .ok (.invokespecial 27, 3) := by decide +kernel
theorem dX5_init_36 : decode cX5_init 36 = .ok (.putfield 30, 3) := by decide +kernel
theorem dX5_init_39 : decode cX5_init 39 = .ok (.aload_n 0, 1) := by decide +kernel
theorem dX5_init_40 : decode cX5_init 40 = .ok (.bipush 32, 2) := by decide +kernel
theorem dX5_init_42 : decode cX5_init 42 = .ok (.newarray .int, 2) := by decide +kernel
theorem dX5_init_44 : decode cX5_init 44 = .ok (.putfield 34, 3) := by decide +kernel
theorem dX5_init_47 : decode cX5_init 47 = .ok (.return_, 1) := by decide +kernel
theorem dX5_readIndex_0 : decode cX5_readIndex 0 = .ok (.aload_n 0, 1) := by decide +kernel
theorem dX5_readIndex_1 : decode cX5_readIndex 1 = .ok (.getfield 12, 3) := by decide +kernel
theorem dX5_readIndex_4 : decode cX5_readIndex 4 = .ok (.invokevirtual 38, 3) := by decide +kernel
theorem dX5_readIndex_7 : decode cX5_readIndex 7 = .ok (.aload_n 0, 1) := by decide +kernel
theorem dX5_readIndex_8 : decode cX5_readIndex 8 = .ok (.getfield 21, 3) := by decide +kernel
theorem dX5_readIndex_11 : decode cX5_readIndex 11 = .ok (.invokevirtual 41, 3) := by decide +kernel
theorem dX5_readIndex_14 : decode cX5_readIndex 14 = .ok (.aload_n 0, 1) := by decide +kernel
theorem dX5_readIndex_15 : decode cX5_readIndex 15 = .ok (.iconst 0, 1) := by decide +kernel
theorem dX5_readIndex_16 : decode cX5_readIndex 16 = .ok (.putfield 44, 3) := by decide +kernel
theorem dX5_readIndex_19 : decode cX5_readIndex 19 = .ok (.aload_n 0, 1) := by decide +kernel
theorem dX5_readIndex_20 : decode cX5_readIndex 20 = .ok (.iconst 0, 1) := by decide +kernel
theorem dX5_readIndex_21 : decode cX5_readIndex 21 = .ok (.putfield 48, 3) := by decide +kernel
theorem dX5_readIndex_24 : decode cX5_readIndex 24 = .ok (.aload_n 1, 1) := by decide +kernel
theorem dX5_readIndex_25 : decode cX5_readIndex 25 = .ok (.iconst 0, 1) := by decide +kernel
theorem dX5_readIndex_26 : decode cX5_readIndex 26 = .ok (.putfield 52, 3) := by decide +kernel
theorem dX5_readIndex_29 : decode cX5_readIndex 29 = .ok (.iconst 0, 1) := by decide +kernel
theorem dX5_readIndex_30 : decode cX5_readIndex 30 = .ok (.istore_n 2, 1) := by decide +kernel
theorem dX5_readIndex_31 : decode cX5_readIndex 31 = .ok (.iload_n 2, 1) := by decide +kernel
theorem dX5_readIndex_32 : decode cX5_readIndex 32 = .ok (.sipush 1000, 3) := by decide +kernel
theorem dX5_readIndex_35 : decode cX5_readIndex 35 = .ok (.if_icmp .gt 35, 3) := by decide +kernel
theorem dX5_readIndex_38 : decode cX5_readIndex 38 = .ok (.aload_n 1, 1) := by decide +kernel
theorem dX5_readIndex_39 : decode cX5_readIndex 39 = .ok (.invokevirtual 57, 3) := by decide +kernel
theorem dX5_readIndex_42 : decode cX5_readIndex 42 = .ok (.aload_n 1, 1) := by decide +kernel
theorem dX5_readIndex_43 : decode cX5_readIndex 43 = .ok (.getfield 60, 3) := by decide +kernel
theorem dX5_readIndex_46 : decode cX5_readIndex 46 = .ok (.ifCond .ne 5, 3) := by decide +kernel
theorem dX5_readIndex_49 : decode cX5_readIndex 49 = .ok (.iconst 0, 1) := by decide +kernel
theorem dX5_readIndex_50 : decode cX5_readIndex 50 = .ok (.ireturn, 1) := by decide +kernel
theorem dX5_readIndex_51 : decode cX5_readIndex 51 = .ok (.aload_n 0, 1) := by decide +kernel
theorem dX5_readIndex_52 : decode cX5_readIndex 52 = .ok (.aload_n 1, 1) := by decide +kernel
theorem dX5_readIndex_53 : decode cX5_readIndex 53 = .ok (.invokevirtual 63, 3) := by decide +kernel
theorem dX5_readIndex_56 : decode cX5_readIndex 56 = .ok (.ifCond .ne 8, 3) := by decide +kernel
theorem dX5_readIndex_59 : decode cX5_readIndex 59 = .ok (.aload_n 0, 1) := by decide +kernel
theorem dX5_readIndex_60 : decode cX5_readIndex 60 = .ok (.getfield 48, 3) := by decide +kernel
theorem dX5_readIndex_63 : decode cX5_readIndex 63 = .ok (.ireturn, 1) := by decide +kernel
theorem dX5_readIndex_64 : decode cX5_readIndex 64 = .ok (.iinc 2 1, 3) := by decide +kernel
theorem dX5_readIndex_67 : decode cX5_readIndex 67 = .ok (.goto (-36), 3) := by decide +kernel
theorem dX5_readIndex_70 : decode cX5_readIndex 70 = .ok (.aload_n 0, 1) := by decide +kernel
theorem dX5_readIndex_71 : decode cX5_readIndex 71 = .ok (.getfield 48, 3) := by decide +kernel
theorem dX5_readIndex_74 : decode cX5_readIndex 74 = .ok (.ireturn, 1) := by decide +kernel
theorem dX5_readWork_0 : decode cX5_readWork 0 = .ok (.aload_n 0, 1) := by decide +kernel
theorem dX5_readWork_1 : decode cX5_readWork 1 = .ok (.getfield 30, 3) := by decide +kernel
theorem dX5_readWork_4 : decode cX5_readWork 4 = .ok (.iconst 0, 1) := by decide +kernel
theorem dX5_readWork_5 : decode cX5_readWork 5 = .ok (.putfield 67, 3) := by decide +kernel
theorem dX5_readWork_8 : decode cX5_readWork 8 = .ok (.aload_n 0, 1) := by decide +kernel
theorem dX5_readWork_9 : decode cX5_readWork 9 = .ok (.iconst 0, 1) := by decide +kernel
theorem dX5_readWork_10 : decode cX5_readWork 10 = .ok (.putfield 48, 3) := by decide +kernel
theorem dX5_readWork_13 : decode cX5_readWork 13 = .ok (.aload_n 1, 1) := by decide +kernel
theorem dX5_readWork_14 : decode cX5_readWork 14 = .ok (.iconst 0, 1) := by decide +kernel
theorem dX5_readWork_15 : decode cX5_readWork 15 = .ok (.putfield 52, 3) := by decide +kernel
theorem dX5_readWork_18 : decode cX5_readWork 18 = .ok (.iconst 0, 1) := by decide +kernel
theorem dX5_readWork_19 : decode cX5_readWork 19 = .ok (.istore_n 3, 1) := by decide +kernel
theorem dX5_readWork_20 : decode cX5_readWork 20 = .ok (.iload_n 3, 1) := by decide +kernel
theorem dX5_readWork_21 : decode cX5_readWork 21 = .ok (.sipush 1000, 3) := by decide +kernel
theorem dX5_readWork_24 : decode cX5_readWork 24 = .ok (.if_icmp .gt 36, 3) := by decide +kernel
theorem dX5_readWork_27 : decode cX5_readWork 27 = .ok (.aload_n 1, 1) := by decide +kernel
theorem dX5_readWork_28 : decode cX5_readWork 28 = .ok (.invokevirtual 57, 3) := by decide +kernel
theorem dX5_readWork_31 : decode cX5_readWork 31 = .ok (.aload_n 1, 1) := by decide +kernel
theorem dX5_readWork_32 : decode cX5_readWork 32 = .ok (.getfield 60, 3) := by decide +kernel
theorem dX5_readWork_35 : decode cX5_readWork 35 = .ok (.ifCond .ne 5, 3) := by decide +kernel
theorem dX5_readWork_38 : decode cX5_readWork 38 = .ok (.iconst 0, 1) := by decide +kernel
theorem dX5_readWork_39 : decode cX5_readWork 39 = .ok (.ireturn, 1) := by decide +kernel
theorem dX5_readWork_40 : decode cX5_readWork 40 = .ok (.aload_n 0, 1) := by decide +kernel
theorem dX5_readWork_41 : decode cX5_readWork 41 = .ok (.aload_n 1, 1) := by decide +kernel
theorem dX5_readWork_42 : decode cX5_readWork 42 = .ok (.aload_n 2, 1) := by decide +kernel
theorem dX5_readWork_43 : decode cX5_readWork 43 = .ok (.invokevirtual 70, 3) := by decide +kernel
theorem dX5_readWork_46 : decode cX5_readWork 46 = .ok (.ifCond .ne 8, 3) := by decide +kernel
theorem dX5_readWork_49 : decode cX5_readWork 49 = .ok (.aload_n 0, 1) := by decide +kernel
theorem dX5_readWork_50 : decode cX5_readWork 50 = .ok (.getfield 48, 3) := by decide +kernel
theorem dX5_readWork_53 : decode cX5_readWork 53 = .ok (.ireturn, 1) := by decide +kernel
theorem dX5_readWork_54 : decode cX5_readWork 54 = .ok (.iinc 3 1, 3) := by decide +kernel
theorem dX5_readWork_57 : decode cX5_readWork 57 = .ok (.goto (-37), 3) := by decide +kernel
theorem dX5_readWork_60 : decode cX5_readWork 60 = .ok (.aload_n 0, 1) := by decide +kernel
theorem dX5_readWork_61 : decode cX5_readWork 61 = .ok (.getfield 48, 3) := by decide +kernel
theorem dX5_readWork_64 : decode cX5_readWork 64 = .ok (.ireturn, 1) := by decide +kernel
theorem dX5_wrong_0 : decode cX5_wrong 0 = .ok (.aload_n 0, 1) := by decide +kernel
theorem dX5_wrong_1 : decode cX5_wrong 1 = .ok (.iload_n 2, 1) := by decide +kernel
theorem dX5_wrong_2 : decode cX5_wrong 2 = .ok (.bipush 16, 2) := by decide +kernel
theorem dX5_wrong_4 : decode cX5_wrong 4 = .ok (.aload_n 1, 1) := by decide +kernel
theorem dX5_wrong_5 : decode cX5_wrong 5 = .ok (.getfield 74, 3) := by decide +kernel
theorem dX5_wrong_8 : decode cX5_wrong 8 = .ok (.imul, 1) := by decide +kernel
theorem dX5_wrong_9 : decode cX5_wrong 9 = .ok (.iadd, 1) := by decide +kernel
theorem dX5_wrong_10 : decode cX5_wrong 10 = .ok (.putfield 48, 3) := by decide +kernel
theorem dX5_wrong_13 : decode cX5_wrong 13 = .ok (.iconst 0, 1) := by decide +kernel
theorem dX5_wrong_14 : decode cX5_wrong 14 = .ok (.ireturn, 1) := by decide +kernel
theorem dX5_readStatement_0 : decode cX5_readStatement 0 = .ok (.aload_n 1, 1) := by decide +kernel
theorem dX5_readStatement_1 : decode cX5_readStatement 1 = .ok (.getfield 77, 3) := by decide +kernel
theorem dX5_readStatement_4 : decode cX5_readStatement 4 = .ok (.tableswitch 46 128 130 #[28, 34, 40], 28) := by decide +kernel
theorem dX5_readStatement_32 : decode cX5_readStatement 32 = .ok (.aload_n 0, 1) := by decide +kernel
theorem dX5_readStatement_33 : decode cX5_readStatement 33 = .ok (.aload_n 1, 1) := by decide +kernel
theorem dX5_readStatement_34 : decode cX5_readStatement 34 = .ok (.invokevirtual 80, 3) := by decide +kernel
theorem dX5_readStatement_37 : decode cX5_readStatement 37 = .ok (.ireturn, 1) := by decide +kernel
theorem dX5_readStatement_38 : decode cX5_readStatement 38 = .ok (.aload_n 0, 1) := by decide +kernel
theorem dX5_readStatement_39 : decode cX5_readStatement 39 = .ok (.aload_n 1, 1) := by decide +kernel
theorem dX5_readStatement_40 : decode cX5_readStatement 40 = .ok (.invokevirtual 83, 3) := by decide +kernel
theorem dX5_readStatement_43 : decode cX5_readStatement 43 = .ok (.ireturn, 1) := by decide +kernel
theorem dX5_readStatement_44 : decode cX5_readStatement 44 = .ok (.aload_n 0, 1) := by decide +kernel
theorem dX5_readStatement_45 : decode cX5_readStatement 45 = .ok (.aload_n 1, 1) := by decide +kernel
theorem dX5_readStatement_46 : decode cX5_readStatement 46 = .ok (.invokevirtual 86, 3) := by decide +kernel
theorem dX5_readStatement_49 : decode cX5_readStatement 49 = .ok (.ireturn, 1) := by decide +kernel
theorem dX5_readStatement_50 : decode cX5_readStatement 50 = .ok (.aload_n 0, 1) := by decide +kernel
theorem dX5_readStatement_51 : decode cX5_readStatement 51 = .ok (.aload_n 1, 1) := by decide +kernel
theorem dX5_readStatement_52 : decode cX5_readStatement 52 = .ok (.iconst 1, 1) := by decide +kernel
theorem dX5_readStatement_53 : decode cX5_readStatement 53 = .ok (.invokevirtual 89, 3) := by decide +kernel
theorem dX5_readStatement_56 : decode cX5_readStatement 56 = .ok (.ireturn, 1) := by decide +kernel
theorem dX5_readNewName_0 : decode cX5_readNewName 0 = .ok (.aload_n 1, 1) := by decide +kernel
theorem dX5_readNewName_1 : decode cX5_readNewName 1 = .ok (.invokevirtual 57, 3) := by decide +kernel
theorem dX5_readNewName_4 : decode cX5_readNewName 4 = .ok (.aload_n 1, 1) := by decide +kernel
theorem dX5_readNewName_5 : decode cX5_readNewName 5 = .ok (.invokevirtual 93, 3) := by decide +kernel
theorem dX5_readNewName_8 : decode cX5_readNewName 8 = .ok (.ifCond .ne 10, 3) := by decide +kernel
theorem dX5_readNewName_11 : decode cX5_readNewName 11 = .ok (.aload_n 0, 1) := by decide +kernel
theorem dX5_readNewName_12 : decode cX5_readNewName 12 = .ok (.aload_n 1, 1) := by decide +kernel
theorem dX5_readNewName_13 : decode cX5_readNewName 13 = .ok (.iconst 1, 1) := by decide +kernel
theorem dX5_readNewName_14 : decode cX5_readNewName 14 = .ok (.invokevirtual 89, 3) := by decide +kernel
theorem dX5_readNewName_17 : decode cX5_readNewName 17 = .ok (.ireturn, 1) := by decide +kernel
theorem dX5_readNewName_18 : decode cX5_readNewName 18 = .ok (.aload_n 0, 1) := by decide +kernel
theorem dX5_readNewName_19 : decode cX5_readNewName 19 = .ok (.getfield 12, 3) := by decide +kernel
theorem dX5_readNewName_22 : decode cX5_readNewName 22 = .ok (.aload_n 1, 1) := by decide +kernel
theorem dX5_readNewName_23 : decode cX5_readNewName 23 = .ok (.getfield 97, 3) := by decide +kernel
theorem dX5_readNewName_26 : decode cX5_readNewName 26 = .ok (.invokevirtual 101, 3) := by decide +kernel
theorem dX5_readNewName_29 : decode cX5_readNewName 29 = .ok (.iconst (-1), 1) := by decide +kernel
theorem dX5_readNewName_30 : decode cX5_readNewName 30 = .ok (.if_icmp .ne 18, 3) := by decide +kernel
theorem dX5_readNewName_33 : decode cX5_readNewName 33 = .ok (.aload_n 0, 1) := by decide +kernel
theorem dX5_readNewName_34 : decode cX5_readNewName 34 = .ok (.getfield 12, 3) := by decide +kernel
theorem dX5_readNewName_37 : decode cX5_readNewName 37 = .ok (.aload_n 1, 1) := by decide +kernel
theorem dX5_readNewName_38 : decode cX5_readNewName 38 = .ok (.getfield 97, 3) := by decide +kernel
theorem dX5_readNewName_41 : decode cX5_readNewName 41 = .ok (.invokevirtual 105, 3) := by decide +kernel
theorem dX5_readNewName_44 : decode cX5_readNewName 44 = .ok (.iconst (-1), 1) := by decide +kernel
theorem dX5_readNewName_45 : decode cX5_readNewName 45 = .ok (.if_icmp .eq 10, 3) := by decide +kernel
theorem dX5_readNewName_48 : decode cX5_readNewName 48 = .ok (.aload_n 0, 1) := by decide +kernel
theorem dX5_readNewName_49 : decode cX5_readNewName 49 = .ok (.aload_n 1, 1) := by decide +kernel
theorem dX5_readNewName_50 : decode cX5_readNewName 50 = .ok (.iconst 3, 1) := by decide +kernel
theorem dX5_readNewName_51 : decode cX5_readNewName 51 = .ok (.invokevirtual 89, 3) := by decide +kernel
theorem dX5_readNewName_54 : decode cX5_readNewName 54 = .ok (.ireturn, 1) := by decide +kernel
theorem dX5_readNewName_55 : decode cX5_readNewName 55 = .ok (.iconst 1, 1) := by decide +kernel
theorem dX5_readNewName_56 : decode cX5_readNewName 56 = .ok (.ireturn, 1) := by decide +kernel
theorem dX5_readRow_0 : decode cX5_readRow 0 = .ok (.aload_n 0, 1) := by decide +kernel
theorem dX5_readRow_1 : decode cX5_readRow 1 = .ok (.getfield 12, 3) := by decide +kernel
theorem dX5_readRow_4 : decode cX5_readRow 4 = .ok (.getfield 108, 3) := by decide +kernel
theorem dX5_readRow_7 : decode cX5_readRow 7 = .ok (.iconst 4, 1) := by decide +kernel
theorem dX5_readRow_8 : decode cX5_readRow 8 = .ok (.if_icmp .lt 10, 3) := by decide +kernel
theorem dX5_readRow_11 : decode cX5_readRow 11 = .ok (.aload_n 0, 1) := by decide +kernel
theorem dX5_readRow_12 : decode cX5_readRow 12 = .ok (.aload_n 1, 1) := by decide +kernel
theorem dX5_readRow_13 : decode cX5_readRow 13 = .ok (.iconst 5, 1) := by decide +kernel
theorem dX5_readRow_14 : decode cX5_readRow 14 = .ok (.invokevirtual 89, 3) := by decide +kernel
theorem dX5_readRow_17 : decode cX5_readRow 17 = .ok (.ireturn, 1) := by decide +kernel
theorem dX5_readRow_18 : decode cX5_readRow 18 = .ok (.aload_n 0, 1) := by decide +kernel
theorem dX5_readRow_19 : decode cX5_readRow 19 = .ok (.aload_n 1, 1) := by decide +kernel
theorem dX5_readRow_20 : decode cX5_readRow 20 = .ok (.invokevirtual 111, 3) := by decide +kernel
theorem dX5_readRow_23 : decode cX5_readRow 23 = .ok (.ifCond .ne 5, 3) := by decide +kernel
theorem dX5_readRow_26 : decode cX5_readRow 26 = .ok (.iconst 0, 1) := by decide +kernel
theorem dX5_readRow_27 : decode cX5_readRow 27 = .ok (.ireturn, 1) := by decide +kernel
theorem dX5_readRow_28 : decode cX5_readRow 28 = .ok (.aload_n 0, 1) := by decide +kernel
theorem dX5_readRow_29 : decode cX5_readRow 29 = .ok (.getfield 12, 3) := by decide +kernel
theorem dX5_readRow_32 : decode cX5_readRow 32 = .ok (.getfield 114, 3) := by decide +kernel
theorem dX5_readRow_35 : decode cX5_readRow 35 = .ok (.aload_n 0, 1) := by decide +kernel
theorem dX5_readRow_36 : decode cX5_readRow 36 = .ok (.getfield 12, 3) := by decide +kernel
theorem dX5_readRow_39 : decode cX5_readRow 39 = .ok (.getfield 108, 3) := by decide +kernel
theorem dX5_readRow_42 : decode cX5_readRow 42 = .ok (.aaload, 1) := by decide +kernel
theorem dX5_readRow_43 : decode cX5_readRow 43 = .ok (.astore_n 2, 1) := by decide +kernel
theorem dX5_readRow_44 : decode cX5_readRow 44 = .ok (.aload_n 2, 1) := by decide +kernel
theorem dX5_readRow_45 : decode cX5_readRow 45 = .ok (.aload_n 1, 1) := by decide +kernel
theorem dX5_readRow_46 : decode cX5_readRow 46 = .ok (.getfield 97, 3) := by decide +kernel
theorem dX5_readRow_49 : decode cX5_readRow 49 = .ok (.putfield 118, 3) := by decide +kernel
theorem dX5_readRow_52 : decode cX5_readRow 52 = .ok (.aload_n 2, 1) := by decide +kernel
theorem dX5_readRow_53 : decode cX5_readRow 53 = .ok (.iconst 0, 1) := by decide +kernel
theorem dX5_readRow_54 : decode cX5_readRow 54 = .ok (.putfield 123, 3) := by decide +kernel
theorem dX5_readRow_57 : decode cX5_readRow 57 = .ok (.aload_n 1, 1) := by decide +kernel
theorem dX5_readRow_58 : decode cX5_readRow 58 = .ok (.invokevirtual 57, 3) := by decide +kernel
theorem dX5_readRow_61 : decode cX5_readRow 61 = .ok (.aload_n 1, 1) := by decide +kernel
theorem dX5_readRow_62 : decode cX5_readRow 62 = .ok (.getfield 77, 3) := by decide +kernel
theorem dX5_readRow_65 : decode cX5_readRow 65 = .ok (.sipush 136, 3) := by decide +kernel
theorem dX5_readRow_68 : decode cX5_readRow 68 = .ok (.if_icmp .lt 13, 3) := by decide +kernel
theorem dX5_readRow_71 : decode cX5_readRow 71 = .ok (.aload_n 1, 1) := by decide +kernel
theorem dX5_readRow_72 : decode cX5_readRow 72 = .ok (.getfield 77, 3) := by decide +kernel
theorem dX5_readRow_75 : decode cX5_readRow 75 = .ok (.sipush 139, 3) := by decide +kernel
theorem dX5_readRow_78 : decode cX5_readRow 78 = .ok (.if_icmp .le 10, 3) := by decide +kernel
theorem dX5_readRow_81 : decode cX5_readRow 81 = .ok (.aload_n 0, 1) := by decide +kernel
theorem dX5_readRow_82 : decode cX5_readRow 82 = .ok (.aload_n 1, 1) := by decide +kernel
theorem dX5_readRow_83 : decode cX5_readRow 83 = .ok (.iconst 1, 1) := by decide +kernel
theorem dX5_readRow_84 : decode cX5_readRow 84 = .ok (.invokevirtual 89, 3) := by decide +kernel
theorem dX5_readRow_87 : decode cX5_readRow 87 = .ok (.ireturn, 1) := by decide +kernel
theorem dX5_readRow_88 : decode cX5_readRow 88 = .ok (.aload_n 2, 1) := by decide +kernel
theorem dX5_readRow_89 : decode cX5_readRow 89 = .ok (.aload_n 1, 1) := by decide +kernel
theorem dX5_readRow_90 : decode cX5_readRow 90 = .ok (.getfield 77, 3) := by decide +kernel
theorem dX5_readRow_93 : decode cX5_readRow 93 = .ok (.sipush 136, 3) := by decide +kernel
theorem dX5_readRow_96 : decode cX5_readRow 96 = .ok (.isub, 1) := by decide +kernel
theorem dX5_readRow_97 : decode cX5_readRow 97 = .ok (.putfield 126, 3) := by decide +kernel
theorem dX5_readRow_100 : decode cX5_readRow 100 = .ok (.iconst 0, 1) := by decide +kernel
theorem dX5_readRow_101 : decode cX5_readRow 101 = .ok (.istore_n 3, 1) := by decide +kernel
theorem dX5_readRow_102 : decode cX5_readRow 102 = .ok (.iload_n 3, 1) := by decide +kernel
theorem dX5_readRow_103 : decode cX5_readRow 103 = .ok (.bipush 20, 2) := by decide +kernel
theorem dX5_readRow_105 : decode cX5_readRow 105 = .ok (.if_icmp .gt 93, 3) := by decide +kernel
theorem dX5_readRow_108 : decode cX5_readRow 108 = .ok (.aload_n 1, 1) := by decide +kernel
theorem dX5_readRow_109 : decode cX5_readRow 109 = .ok (.invokevirtual 57, 3) := by decide +kernel
theorem dX5_readRow_112 : decode cX5_readRow 112 = .ok (.aload_n 1, 1) := by decide +kernel
theorem dX5_readRow_113 : decode cX5_readRow 113 = .ok (.getfield 77, 3) := by decide +kernel
theorem dX5_readRow_116 : decode cX5_readRow 116 = .ok (.bipush 59, 2) := by decide +kernel
theorem dX5_readRow_118 : decode cX5_readRow 118 = .ok (.if_icmp .ne 25, 3) := by decide +kernel
theorem dX5_readRow_121 : decode cX5_readRow 121 = .ok (.aload_n 2, 1) := by decide +kernel
theorem dX5_readRow_122 : decode cX5_readRow 122 = .ok (.getfield 123, 3) := by decide +kernel
theorem dX5_readRow_125 : decode cX5_readRow 125 = .ok (.ifCond .le 18, 3) := by decide +kernel
theorem dX5_readRow_128 : decode cX5_readRow 128 = .ok (.aload_n 0, 1) := by decide +kernel
theorem dX5_readRow_129 : decode cX5_readRow 129 = .ok (.getfield 12, 3) := by decide +kernel
theorem dX5_readRow_132 : decode cX5_readRow 132 = .ok (.dup, 1) := by decide +kernel
theorem dX5_readRow_133 : decode cX5_readRow 133 = .ok (.getfield 108, 3) := by decide +kernel
theorem dX5_readRow_136 : decode cX5_readRow 136 = .ok (.iconst 1, 1) := by decide +kernel
theorem dX5_readRow_137 : decode cX5_readRow 137 = .ok (.iadd, 1) := by decide +kernel
theorem dX5_readRow_138 : decode cX5_readRow 138 = .ok (.putfield 108, 3) := by decide +kernel
theorem dX5_readRow_141 : decode cX5_readRow 141 = .ok (.iconst 1, 1) := by decide +kernel
theorem dX5_readRow_142 : decode cX5_readRow 142 = .ok (.ireturn, 1) := by decide +kernel
theorem dX5_readRow_143 : decode cX5_readRow 143 = .ok (.aload_n 1, 1) := by decide +kernel
theorem dX5_readRow_144 : decode cX5_readRow 144 = .ok (.getfield 60, 3) := by decide +kernel
theorem dX5_readRow_147 : decode cX5_readRow 147 = .ok (.iconst 3, 1) := by decide +kernel
theorem dX5_readRow_148 : decode cX5_readRow 148 = .ok (.if_icmp .eq 10, 3) := by decide +kernel
theorem dX5_readRow_151 : decode cX5_readRow 151 = .ok (.aload_n 0, 1) := by decide +kernel
theorem dX5_readRow_152 : decode cX5_readRow 152 = .ok (.aload_n 1, 1) := by decide +kernel
theorem dX5_readRow_153 : decode cX5_readRow 153 = .ok (.iconst 1, 1) := by decide +kernel
theorem dX5_readRow_154 : decode cX5_readRow 154 = .ok (.invokevirtual 89, 3) := by decide +kernel
theorem dX5_readRow_157 : decode cX5_readRow 157 = .ok (.ireturn, 1) := by decide +kernel
theorem dX5_readRow_158 : decode cX5_readRow 158 = .ok (.aload_n 1, 1) := by decide +kernel
theorem dX5_readRow_159 : decode cX5_readRow 159 = .ok (.getfield 129, 3) := by decide +kernel
theorem dX5_readRow_162 : decode cX5_readRow 162 = .ok (.bipush 99, 2) := by decide +kernel
theorem dX5_readRow_164 : decode cX5_readRow 164 = .ok (.if_icmp .le 10, 3) := by decide +kernel
theorem dX5_readRow_167 : decode cX5_readRow 167 = .ok (.aload_n 0, 1) := by decide +kernel
theorem dX5_readRow_168 : decode cX5_readRow 168 = .ok (.aload_n 1, 1) := by decide +kernel
theorem dX5_readRow_169 : decode cX5_readRow 169 = .ok (.iconst 4, 1) := by decide +kernel
theorem dX5_readRow_170 : decode cX5_readRow 170 = .ok (.invokevirtual 89, 3) := by decide +kernel
theorem dX5_readRow_173 : decode cX5_readRow 173 = .ok (.ireturn, 1) := by decide +kernel
theorem dX5_readRow_174 : decode cX5_readRow 174 = .ok (.aload_n 2, 1) := by decide +kernel
theorem dX5_readRow_175 : decode cX5_readRow 175 = .ok (.aload_n 1, 1) := by decide +kernel
theorem dX5_readRow_176 : decode cX5_readRow 176 = .ok (.getfield 129, 3) := by decide +kernel
theorem dX5_readRow_179 : decode cX5_readRow 179 = .ok (.invokevirtual 132, 3) := by decide +kernel
theorem dX5_readRow_182 : decode cX5_readRow 182 = .ok (.ifCond .ne 10, 3) := by decide +kernel
theorem dX5_readRow_185 : decode cX5_readRow 185 = .ok (.aload_n 0, 1) := by decide +kernel
theorem dX5_readRow_186 : decode cX5_readRow 186 = .ok (.aload_n 1, 1) := by decide +kernel
theorem dX5_readRow_187 : decode cX5_readRow 187 = .ok (.iconst 5, 1) := by decide +kernel
theorem dX5_readRow_188 : decode cX5_readRow 188 = .ok (.invokevirtual 89, 3) := by decide +kernel
theorem dX5_readRow_191 : decode cX5_readRow 191 = .ok (.ireturn, 1) := by decide +kernel
theorem dX5_readRow_192 : decode cX5_readRow 192 = .ok (.iinc 3 1, 3) := by decide +kernel
theorem dX5_readRow_195 : decode cX5_readRow 195 = .ok (.goto (-93), 3) := by decide +kernel
theorem dX5_readRow_198 : decode cX5_readRow 198 = .ok (.iconst 0, 1) := by decide +kernel
theorem dX5_readRow_199 : decode cX5_readRow 199 = .ok (.ireturn, 1) := by decide +kernel
theorem dX5_readBraid_0 : decode cX5_readBraid 0 = .ok (.aload_n 0, 1) := by decide +kernel
theorem dX5_readBraid_1 : decode cX5_readBraid 1 = .ok (.getfield 12, 3) := by decide +kernel
theorem dX5_readBraid_4 : decode cX5_readBraid 4 = .ok (.getfield 136, 3) := by decide +kernel
theorem dX5_readBraid_7 : decode cX5_readBraid 7 = .ok (.iconst 4, 1) := by decide +kernel
theorem dX5_readBraid_8 : decode cX5_readBraid 8 = .ok (.if_icmp .lt 10, 3) := by decide +kernel
theorem dX5_readBraid_11 : decode cX5_readBraid 11 = .ok (.aload_n 0, 1) := by decide +kernel
theorem dX5_readBraid_12 : decode cX5_readBraid 12 = .ok (.aload_n 1, 1) := by decide +kernel
theorem dX5_readBraid_13 : decode cX5_readBraid 13 = .ok (.iconst 5, 1) := by decide +kernel
theorem dX5_readBraid_14 : decode cX5_readBraid 14 = .ok (.invokevirtual 89, 3) := by decide +kernel
theorem dX5_readBraid_17 : decode cX5_readBraid 17 = .ok (.ireturn, 1) := by decide +kernel
theorem dX5_readBraid_18 : decode cX5_readBraid 18 = .ok (.aload_n 0, 1) := by decide +kernel
theorem dX5_readBraid_19 : decode cX5_readBraid 19 = .ok (.aload_n 1, 1) := by decide +kernel
theorem dX5_readBraid_20 : decode cX5_readBraid 20 = .ok (.invokevirtual 111, 3) := by decide +kernel
theorem dX5_readBraid_23 : decode cX5_readBraid 23 = .ok (.ifCond .ne 5, 3) := by decide +kernel
theorem dX5_readBraid_26 : decode cX5_readBraid 26 = .ok (.iconst 0, 1) := by decide +kernel
theorem dX5_readBraid_27 : decode cX5_readBraid 27 = .ok (.ireturn, 1) := by decide +kernel
theorem dX5_readBraid_28 : decode cX5_readBraid 28 = .ok (.aload_n 0, 1) := by decide +kernel
theorem dX5_readBraid_29 : decode cX5_readBraid 29 = .ok (.getfield 12, 3) := by decide +kernel
theorem dX5_readBraid_32 : decode cX5_readBraid 32 = .ok (.getfield 139, 3) := by decide +kernel
theorem dX5_readBraid_35 : decode cX5_readBraid 35 = .ok (.aload_n 0, 1) := by decide +kernel
theorem dX5_readBraid_36 : decode cX5_readBraid 36 = .ok (.getfield 12, 3) := by decide +kernel
theorem dX5_readBraid_39 : decode cX5_readBraid 39 = .ok (.getfield 136, 3) := by decide +kernel
theorem dX5_readBraid_42 : decode cX5_readBraid 42 = .ok (.aaload, 1) := by decide +kernel
theorem dX5_readBraid_43 : decode cX5_readBraid 43 = .ok (.astore_n 2, 1) := by decide +kernel
theorem dX5_readBraid_44 : decode cX5_readBraid 44 = .ok (.aload_n 2, 1) := by decide +kernel
theorem dX5_readBraid_45 : decode cX5_readBraid 45 = .ok (.aload_n 1, 1) := by decide +kernel
theorem dX5_readBraid_46 : decode cX5_readBraid 46 = .ok (.getfield 97, 3) := by decide +kernel
theorem dX5_readBraid_49 : decode cX5_readBraid 49 = .ok (.putfield 143, 3) := by decide +kernel
theorem dX5_readBraid_52 : decode cX5_readBraid 52 = .ok (.aload_n 2, 1) := by decide +kernel
theorem dX5_readBraid_53 : decode cX5_readBraid 53 = .ok (.aload_n 0, 1) := by decide +kernel
theorem dX5_readBraid_54 : decode cX5_readBraid 54 = .ok (.getfield 12, 3) := by decide +kernel
theorem dX5_readBraid_57 : decode cX5_readBraid 57 = .ok (.getfield 136, 3) := by decide +kernel
theorem dX5_readBraid_60 : decode cX5_readBraid 60 = .ok (.putfield 146, 3) := by decide +kernel
theorem dX5_readBraid_63 : decode cX5_readBraid 63 = .ok (.aload_n 2, 1) := by decide +kernel
theorem dX5_readBraid_64 : decode cX5_readBraid 64 = .ok (.iconst 0, 1) := by decide +kernel
theorem dX5_readBraid_65 : decode cX5_readBraid 65 = .ok (.putfield 149, 3) := by decide +kernel
theorem dX5_readBraid_68 : decode cX5_readBraid 68 = .ok (.iconst 0, 1) := by decide +kernel
theorem dX5_readBraid_69 : decode cX5_readBraid 69 = .ok (.istore_n 3, 1) := by decide +kernel
theorem dX5_readBraid_70 : decode cX5_readBraid 70 = .ok (.iload_n 3, 1) := by decide +kernel
theorem dX5_readBraid_71 : decode cX5_readBraid 71 = .ok (.bipush 10, 2) := by decide +kernel
theorem dX5_readBraid_73 : decode cX5_readBraid 73 = .ok (.if_icmp .gt 132, 3) := by decide +kernel
theorem dX5_readBraid_76 : decode cX5_readBraid 76 = .ok (.aload_n 1, 1) := by decide +kernel
theorem dX5_readBraid_77 : decode cX5_readBraid 77 = .ok (.invokevirtual 57, 3) := by decide +kernel
theorem dX5_readBraid_80 : decode cX5_readBraid 80 = .ok (.aload_n 1, 1) := by decide +kernel
theorem dX5_readBraid_81 : decode cX5_readBraid 81 = .ok (.getfield 77, 3) := by decide +kernel
theorem dX5_readBraid_84 : decode cX5_readBraid 84 = .ok (.bipush 59, 2) := by decide +kernel
theorem dX5_readBraid_86 : decode cX5_readBraid 86 = .ok (.if_icmp .ne 45, 3) := by decide +kernel
theorem dX5_readBraid_89 : decode cX5_readBraid 89 = .ok (.aload_n 2, 1) := by decide +kernel
theorem dX5_readBraid_90 : decode cX5_readBraid 90 = .ok (.getfield 149, 3) := by decide +kernel
theorem dX5_readBraid_93 : decode cX5_readBraid 93 = .ok (.ifCond .le 38, 3) := by decide +kernel
theorem dX5_readBraid_96 : decode cX5_readBraid 96 = .ok (.aload_n 0, 1) := by decide +kernel
theorem dX5_readBraid_97 : decode cX5_readBraid 97 = .ok (.getfield 12, 3) := by decide +kernel
theorem dX5_readBraid_100 : decode cX5_readBraid 100 = .ok (.dup, 1) := by decide +kernel
theorem dX5_readBraid_101 : decode cX5_readBraid 101 = .ok (.getfield 136, 3) := by decide +kernel
theorem dX5_readBraid_104 : decode cX5_readBraid 104 = .ok (.iconst 1, 1) := by decide +kernel
theorem dX5_readBraid_105 : decode cX5_readBraid 105 = .ok (.iadd, 1) := by decide +kernel
theorem dX5_readBraid_106 : decode cX5_readBraid 106 = .ok (.putfield 136, 3) := by decide +kernel
theorem dX5_readBraid_109 : decode cX5_readBraid 109 = .ok (.aload_n 2, 1) := by decide +kernel
theorem dX5_readBraid_110 : decode cX5_readBraid 110 = .ok (.invokevirtual 152, 3) := by decide +kernel
theorem dX5_readBraid_113 : decode cX5_readBraid 113 = .ok (.ifCond .ne 12, 3) := by decide +kernel
theorem dX5_readBraid_116 : decode cX5_readBraid 116 = .ok (.aload_n 0, 1) := by decide +kernel
theorem dX5_readBraid_117 : decode cX5_readBraid 117 = .ok (.aload_n 1, 1) := by decide +kernel
theorem dX5_readBraid_118 : decode cX5_readBraid 118 = .ok (.iconst 5, 1) := by decide +kernel
theorem dX5_readBraid_119 : decode cX5_readBraid 119 = .ok (.invokevirtual 89, 3) := by decide +kernel
theorem dX5_readBraid_122 : decode cX5_readBraid 122 = .ok (.ifCond .eq 7, 3) := by decide +kernel
theorem dX5_readBraid_125 : decode cX5_readBraid 125 = .ok (.iconst 1, 1) := by decide +kernel
theorem dX5_readBraid_126 : decode cX5_readBraid 126 = .ok (.goto 4, 3) := by decide +kernel
theorem dX5_readBraid_129 : decode cX5_readBraid 129 = .ok (.iconst 0, 1) := by decide +kernel
theorem dX5_readBraid_130 : decode cX5_readBraid 130 = .ok (.ireturn, 1) := by decide +kernel
theorem dX5_readBraid_131 : decode cX5_readBraid 131 = .ok (.aload_n 1, 1) := by decide +kernel
theorem dX5_readBraid_132 : decode cX5_readBraid 132 = .ok (.getfield 60, 3) := by decide +kernel
theorem dX5_readBraid_135 : decode cX5_readBraid 135 = .ok (.iconst 3, 1) := by decide +kernel
theorem dX5_readBraid_136 : decode cX5_readBraid 136 = .ok (.if_icmp .eq 10, 3) := by decide +kernel
theorem dX5_readBraid_139 : decode cX5_readBraid 139 = .ok (.aload_n 0, 1) := by decide +kernel
theorem dX5_readBraid_140 : decode cX5_readBraid 140 = .ok (.aload_n 1, 1) := by decide +kernel
theorem dX5_readBraid_141 : decode cX5_readBraid 141 = .ok (.iconst 1, 1) := by decide +kernel
theorem dX5_readBraid_142 : decode cX5_readBraid 142 = .ok (.invokevirtual 89, 3) := by decide +kernel
theorem dX5_readBraid_145 : decode cX5_readBraid 145 = .ok (.ireturn, 1) := by decide +kernel
theorem dX5_readBraid_146 : decode cX5_readBraid 146 = .ok (.aload_n 2, 1) := by decide +kernel
theorem dX5_readBraid_147 : decode cX5_readBraid 147 = .ok (.aload_n 1, 1) := by decide +kernel
theorem dX5_readBraid_148 : decode cX5_readBraid 148 = .ok (.getfield 129, 3) := by decide +kernel
theorem dX5_readBraid_151 : decode cX5_readBraid 151 = .ok (.invokevirtual 155, 3) := by decide +kernel
theorem dX5_readBraid_154 : decode cX5_readBraid 154 = .ok (.iconst (-1), 1) := by decide +kernel
theorem dX5_readBraid_155 : decode cX5_readBraid 155 = .ok (.if_icmp .eq 10, 3) := by decide +kernel
theorem dX5_readBraid_158 : decode cX5_readBraid 158 = .ok (.aload_n 0, 1) := by decide +kernel
theorem dX5_readBraid_159 : decode cX5_readBraid 159 = .ok (.aload_n 1, 1) := by decide +kernel
theorem dX5_readBraid_160 : decode cX5_readBraid 160 = .ok (.iconst 3, 1) := by decide +kernel
theorem dX5_readBraid_161 : decode cX5_readBraid 161 = .ok (.invokevirtual 89, 3) := by decide +kernel
theorem dX5_readBraid_164 : decode cX5_readBraid 164 = .ok (.ireturn, 1) := by decide +kernel
theorem dX5_readBraid_165 : decode cX5_readBraid 165 = .ok (.aload_n 1, 1) := by decide +kernel
theorem dX5_readBraid_166 : decode cX5_readBraid 166 = .ok (.getfield 129, 3) := by decide +kernel
theorem dX5_readBraid_169 : decode cX5_readBraid 169 = .ok (.bipush 10, 2) := by decide +kernel
theorem dX5_readBraid_171 : decode cX5_readBraid 171 = .ok (.if_icmp .lt 10, 3) := by decide +kernel
theorem dX5_readBraid_174 : decode cX5_readBraid 174 = .ok (.aload_n 0, 1) := by decide +kernel
theorem dX5_readBraid_175 : decode cX5_readBraid 175 = .ok (.aload_n 1, 1) := by decide +kernel
theorem dX5_readBraid_176 : decode cX5_readBraid 176 = .ok (.iconst 4, 1) := by decide +kernel
theorem dX5_readBraid_177 : decode cX5_readBraid 177 = .ok (.invokevirtual 89, 3) := by decide +kernel
theorem dX5_readBraid_180 : decode cX5_readBraid 180 = .ok (.ireturn, 1) := by decide +kernel
theorem dX5_readBraid_181 : decode cX5_readBraid 181 = .ok (.aload_n 2, 1) := by decide +kernel
theorem dX5_readBraid_182 : decode cX5_readBraid 182 = .ok (.aload_n 1, 1) := by decide +kernel
theorem dX5_readBraid_183 : decode cX5_readBraid 183 = .ok (.getfield 129, 3) := by decide +kernel
theorem dX5_readBraid_186 : decode cX5_readBraid 186 = .ok (.invokevirtual 159, 3) := by decide +kernel
theorem dX5_readBraid_189 : decode cX5_readBraid 189 = .ok (.ifCond .ne 10, 3) := by decide +kernel
theorem dX5_readBraid_192 : decode cX5_readBraid 192 = .ok (.aload_n 0, 1) := by decide +kernel
theorem dX5_readBraid_193 : decode cX5_readBraid 193 = .ok (.aload_n 1, 1) := by decide +kernel
theorem dX5_readBraid_194 : decode cX5_readBraid 194 = .ok (.iconst 5, 1) := by decide +kernel
theorem dX5_readBraid_195 : decode cX5_readBraid 195 = .ok (.invokevirtual 89, 3) := by decide +kernel
theorem dX5_readBraid_198 : decode cX5_readBraid 198 = .ok (.ireturn, 1) := by decide +kernel
theorem dX5_readBraid_199 : decode cX5_readBraid 199 = .ok (.iinc 3 1, 3) := by decide +kernel
theorem dX5_readBraid_202 : decode cX5_readBraid 202 = .ok (.goto (-132), 3) := by decide +kernel
theorem dX5_readBraid_205 : decode cX5_readBraid 205 = .ok (.iconst 0, 1) := by decide +kernel
theorem dX5_readBraid_206 : decode cX5_readBraid 206 = .ok (.ireturn, 1) := by decide +kernel
theorem dX5_readLine_0 : decode cX5_readLine 0 = .ok (.aload_n 1, 1) := by decide +kernel
theorem dX5_readLine_1 : decode cX5_readLine 1 = .ok (.getfield 77, 3) := by decide +kernel
theorem dX5_readLine_4 : decode cX5_readLine 4 = .ok (.istore_n 3, 1) := by decide +kernel
theorem dX5_readLine_5 : decode cX5_readLine 5 = .ok (.iload_n 3, 1) := by decide +kernel
theorem dX5_readLine_6 : decode cX5_readLine 6 = .ok (.sipush 131, 3) := by decide +kernel
theorem dX5_readLine_9 : decode cX5_readLine 9 = .ok (.if_icmp .lt 10, 3) := by decide +kernel
theorem dX5_readLine_12 : decode cX5_readLine 12 = .ok (.iload_n 3, 1) := by decide +kernel
theorem dX5_readLine_13 : decode cX5_readLine 13 = .ok (.sipush 135, 3) := by decide +kernel
theorem dX5_readLine_16 : decode cX5_readLine 16 = .ok (.if_icmp .le 10, 3) := by decide +kernel
theorem dX5_readLine_19 : decode cX5_readLine 19 = .ok (.aload_n 0, 1) := by decide +kernel
theorem dX5_readLine_20 : decode cX5_readLine 20 = .ok (.aload_n 1, 1) := by decide +kernel
theorem dX5_readLine_21 : decode cX5_readLine 21 = .ok (.iconst 1, 1) := by decide +kernel
theorem dX5_readLine_22 : decode cX5_readLine 22 = .ok (.invokevirtual 89, 3) := by decide +kernel
theorem dX5_readLine_25 : decode cX5_readLine 25 = .ok (.ireturn, 1) := by decide +kernel
theorem dX5_readLine_26 : decode cX5_readLine 26 = .ok (.aload_n 0, 1) := by decide +kernel
theorem dX5_readLine_27 : decode cX5_readLine 27 = .ok (.getfield 30, 3) := by decide +kernel
theorem dX5_readLine_30 : decode cX5_readLine 30 = .ok (.getfield 67, 3) := by decide +kernel
theorem dX5_readLine_33 : decode cX5_readLine 33 = .ok (.bipush 30, 2) := by decide +kernel
theorem dX5_readLine_35 : decode cX5_readLine 35 = .ok (.if_icmp .lt 10, 3) := by decide +kernel
theorem dX5_readLine_38 : decode cX5_readLine 38 = .ok (.aload_n 0, 1) := by decide +kernel
theorem dX5_readLine_39 : decode cX5_readLine 39 = .ok (.aload_n 1, 1) := by decide +kernel
theorem dX5_readLine_40 : decode cX5_readLine 40 = .ok (.iconst 5, 1) := by decide +kernel
theorem dX5_readLine_41 : decode cX5_readLine 41 = .ok (.invokevirtual 89, 3) := by decide +kernel
theorem dX5_readLine_44 : decode cX5_readLine 44 = .ok (.ireturn, 1) := by decide +kernel
theorem dX5_readLine_45 : decode cX5_readLine 45 = .ok (.aload_n 0, 1) := by decide +kernel
theorem dX5_readLine_46 : decode cX5_readLine 46 = .ok (.aload_n 1, 1) := by decide +kernel
theorem dX5_readLine_47 : decode cX5_readLine 47 = .ok (.aload_n 2, 1) := by decide +kernel
theorem dX5_readLine_48 : decode cX5_readLine 48 = .ok (.iload_n 3, 1) := by decide +kernel
theorem dX5_readLine_49 : decode cX5_readLine 49 = .ok (.sipush 134, 3) := by decide +kernel
theorem dX5_readLine_52 : decode cX5_readLine 52 = .ok (.if_icmp .ge 7, 3) := by decide +kernel
theorem dX5_readLine_55 : decode cX5_readLine 55 = .ok (.iconst 1, 1) := by decide +kernel
theorem dX5_readLine_56 : decode cX5_readLine 56 = .ok (.goto 4, 3) := by decide +kernel
theorem dX5_readLine_59 : decode cX5_readLine 59 = .ok (.iconst 0, 1) := by decide +kernel
theorem dX5_readLine_60 : decode cX5_readLine 60 = .ok (.invokevirtual 162, 3) := by decide +kernel
theorem dX5_readLine_63 : decode cX5_readLine 63 = .ok (.ifCond .ne 5, 3) := by decide +kernel
theorem dX5_readLine_66 : decode cX5_readLine 66 = .ok (.iconst 0, 1) := by decide +kernel
theorem dX5_readLine_67 : decode cX5_readLine 67 = .ok (.ireturn, 1) := by decide +kernel
theorem dX5_readLine_68 : decode cX5_readLine 68 = .ok (.aload_n 0, 1) := by decide +kernel
theorem dX5_readLine_69 : decode cX5_readLine 69 = .ok (.getfield 166, 3) := by decide +kernel
theorem dX5_readLine_72 : decode cX5_readLine 72 = .ok (.istore 4, 2) := by decide +kernel
theorem dX5_readLine_74 : decode cX5_readLine 74 = .ok (.aload_n 0, 1) := by decide +kernel
theorem dX5_readLine_75 : decode cX5_readLine 75 = .ok (.iconst 0, 1) := by decide +kernel
theorem dX5_readLine_76 : decode cX5_readLine 76 = .ok (.putfield 166, 3) := by decide +kernel
theorem dX5_readLine_79 : decode cX5_readLine 79 = .ok (.iload_n 3, 1) := by decide +kernel
theorem dX5_readLine_80 : decode cX5_readLine 80 = .ok (.sipush 131, 3) := by decide +kernel
theorem dX5_readLine_83 : decode cX5_readLine 83 = .ok (.if_icmp .ne 15, 3) := by decide +kernel
theorem dX5_readLine_86 : decode cX5_readLine 86 = .ok (.aload_n 0, 1) := by decide +kernel
theorem dX5_readLine_87 : decode cX5_readLine 87 = .ok (.aload_n 1, 1) := by decide +kernel
theorem dX5_readLine_88 : decode cX5_readLine 88 = .ok (.bipush 99, 2) := by decide +kernel
theorem dX5_readLine_90 : decode cX5_readLine 90 = .ok (.invokevirtual 169, 3) := by decide +kernel
theorem dX5_readLine_93 : decode cX5_readLine 93 = .ok (.ifCond .ne 5, 3) := by decide +kernel
theorem dX5_readLine_96 : decode cX5_readLine 96 = .ok (.iconst 0, 1) := by decide +kernel
theorem dX5_readLine_97 : decode cX5_readLine 97 = .ok (.ireturn, 1) := by decide +kernel
theorem dX5_readLine_98 : decode cX5_readLine 98 = .ok (.iload_n 3, 1) := by decide +kernel
theorem dX5_readLine_99 : decode cX5_readLine 99 = .ok (.sipush 134, 3) := by decide +kernel
theorem dX5_readLine_102 : decode cX5_readLine 102 = .ok (.if_icmp .ne 15, 3) := by decide +kernel
theorem dX5_readLine_105 : decode cX5_readLine 105 = .ok (.aload_n 0, 1) := by decide +kernel
theorem dX5_readLine_106 : decode cX5_readLine 106 = .ok (.aload_n 1, 1) := by decide +kernel
theorem dX5_readLine_107 : decode cX5_readLine 107 = .ok (.bipush 8, 2) := by decide +kernel
theorem dX5_readLine_109 : decode cX5_readLine 109 = .ok (.invokevirtual 169, 3) := by decide +kernel
theorem dX5_readLine_112 : decode cX5_readLine 112 = .ok (.ifCond .ne 5, 3) := by decide +kernel
theorem dX5_readLine_115 : decode cX5_readLine 115 = .ok (.iconst 0, 1) := by decide +kernel
theorem dX5_readLine_116 : decode cX5_readLine 116 = .ok (.ireturn, 1) := by decide +kernel
theorem dX5_readLine_117 : decode cX5_readLine 117 = .ok (.iload_n 3, 1) := by decide +kernel
theorem dX5_readLine_118 : decode cX5_readLine 118 = .ok (.sipush 135, 3) := by decide +kernel
theorem dX5_readLine_121 : decode cX5_readLine 121 = .ok (.if_icmp .ne 15, 3) := by decide +kernel
theorem dX5_readLine_124 : decode cX5_readLine 124 = .ok (.aload_n 0, 1) := by decide +kernel
theorem dX5_readLine_125 : decode cX5_readLine 125 = .ok (.aload_n 1, 1) := by decide +kernel
theorem dX5_readLine_126 : decode cX5_readLine 126 = .ok (.aload_n 2, 1) := by decide +kernel
theorem dX5_readLine_127 : decode cX5_readLine 127 = .ok (.iconst 0, 1) := by decide +kernel
theorem dX5_readLine_128 : decode cX5_readLine 128 = .ok (.invokevirtual 162, 3) := by decide +kernel
theorem dX5_readLine_131 : decode cX5_readLine 131 = .ok (.ifCond .ne 5, 3) := by decide +kernel
theorem dX5_readLine_134 : decode cX5_readLine 134 = .ok (.iconst 0, 1) := by decide +kernel
theorem dX5_readLine_135 : decode cX5_readLine 135 = .ok (.ireturn, 1) := by decide +kernel
theorem dX5_readLine_136 : decode cX5_readLine 136 = .ok (.aload_n 1, 1) := by decide +kernel
theorem dX5_readLine_137 : decode cX5_readLine 137 = .ok (.invokevirtual 57, 3) := by decide +kernel
theorem dX5_readLine_140 : decode cX5_readLine 140 = .ok (.aload_n 1, 1) := by decide +kernel
theorem dX5_readLine_141 : decode cX5_readLine 141 = .ok (.getfield 77, 3) := by decide +kernel
theorem dX5_readLine_144 : decode cX5_readLine 144 = .ok (.bipush 59, 2) := by decide +kernel
theorem dX5_readLine_146 : decode cX5_readLine 146 = .ok (.if_icmp .eq 10, 3) := by decide +kernel
theorem dX5_readLine_149 : decode cX5_readLine 149 = .ok (.aload_n 0, 1) := by decide +kernel
theorem dX5_readLine_150 : decode cX5_readLine 150 = .ok (.aload_n 1, 1) := by decide +kernel
theorem dX5_readLine_151 : decode cX5_readLine 151 = .ok (.iconst 1, 1) := by decide +kernel
theorem dX5_readLine_152 : decode cX5_readLine 152 = .ok (.invokevirtual 89, 3) := by decide +kernel
theorem dX5_readLine_155 : decode cX5_readLine 155 = .ok (.ireturn, 1) := by decide +kernel
theorem dX5_readLine_156 : decode cX5_readLine 156 = .ok (.aload_n 0, 1) := by decide +kernel
theorem dX5_readLine_157 : decode cX5_readLine 157 = .ok (.getfield 30, 3) := by decide +kernel
theorem dX5_readLine_160 : decode cX5_readLine 160 = .ok (.iload_n 3, 1) := by decide +kernel
theorem dX5_readLine_161 : decode cX5_readLine 161 = .ok (.iload 4, 2) := by decide +kernel
theorem dX5_readLine_163 : decode cX5_readLine 163 = .ok (.aload_n 0, 1) := by decide +kernel
theorem dX5_readLine_164 : decode cX5_readLine 164 = .ok (.getfield 166, 3) := by decide +kernel
theorem dX5_readLine_167 : decode cX5_readLine 167 = .ok (.invokevirtual 172, 3) := by decide +kernel
theorem dX5_readLine_170 : decode cX5_readLine 170 = .ok (.iconst 1, 1) := by decide +kernel
theorem dX5_readLine_171 : decode cX5_readLine 171 = .ok (.ireturn, 1) := by decide +kernel
theorem dX5_readToldName_0 : decode cX5_readToldName 0 = .ok (.aload_n 1, 1) := by decide +kernel
theorem dX5_readToldName_1 : decode cX5_readToldName 1 = .ok (.invokevirtual 57, 3) := by decide +kernel
theorem dX5_readToldName_4 : decode cX5_readToldName 4 = .ok (.aload_n 1, 1) := by decide +kernel
theorem dX5_readToldName_5 : decode cX5_readToldName 5 = .ok (.invokevirtual 93, 3) := by decide +kernel
theorem dX5_readToldName_8 : decode cX5_readToldName 8 = .ok (.ifCond .ne 10, 3) := by decide +kernel
theorem dX5_readToldName_11 : decode cX5_readToldName 11 = .ok (.aload_n 0, 1) := by decide +kernel
theorem dX5_readToldName_12 : decode cX5_readToldName 12 = .ok (.aload_n 1, 1) := by decide +kernel
theorem dX5_readToldName_13 : decode cX5_readToldName 13 = .ok (.iconst 1, 1) := by decide +kernel
theorem dX5_readToldName_14 : decode cX5_readToldName 14 = .ok (.invokevirtual 89, 3) := by decide +kernel
theorem dX5_readToldName_17 : decode cX5_readToldName 17 = .ok (.ireturn, 1) := by decide +kernel
theorem dX5_readToldName_18 : decode cX5_readToldName 18 = .ok (.aload_n 0, 1) := by decide +kernel
theorem dX5_readToldName_19 : decode cX5_readToldName 19 = .ok (.iload_n 3, 1) := by decide +kernel
theorem dX5_readToldName_20 : decode cX5_readToldName 20 = .ok (.ifCond .eq 14, 3) := by decide +kernel
theorem dX5_readToldName_23 : decode cX5_readToldName 23 = .ok (.aload_n 2, 1) := by decide +kernel
theorem dX5_readToldName_24 : decode cX5_readToldName 24 = .ok (.aload_n 1, 1) := by decide +kernel
theorem dX5_readToldName_25 : decode cX5_readToldName 25 = .ok (.getfield 97, 3) := by decide +kernel
theorem dX5_readToldName_28 : decode cX5_readToldName 28 = .ok (.invokevirtual 101, 3) := by decide +kernel
theorem dX5_readToldName_31 : decode cX5_readToldName 31 = .ok (.goto 11, 3) := by decide +kernel
theorem dX5_readToldName_34 : decode cX5_readToldName 34 = .ok (.aload_n 2, 1) := by decide +kernel
theorem dX5_readToldName_35 : decode cX5_readToldName 35 = .ok (.aload_n 1, 1) := by decide +kernel
theorem dX5_readToldName_36 : decode cX5_readToldName 36 = .ok (.getfield 97, 3) := by decide +kernel
theorem dX5_readToldName_39 : decode cX5_readToldName 39 = .ok (.invokevirtual 105, 3) := by decide +kernel
theorem dX5_readToldName_42 : decode cX5_readToldName 42 = .ok (.putfield 166, 3) := by decide +kernel
theorem dX5_readToldName_45 : decode cX5_readToldName 45 = .ok (.aload_n 0, 1) := by decide +kernel
theorem dX5_readToldName_46 : decode cX5_readToldName 46 = .ok (.getfield 166, 3) := by decide +kernel
theorem dX5_readToldName_49 : decode cX5_readToldName 49 = .ok (.iconst (-1), 1) := by decide +kernel
theorem dX5_readToldName_50 : decode cX5_readToldName 50 = .ok (.if_icmp .ne 12, 3) := by decide +kernel
theorem dX5_readToldName_53 : decode cX5_readToldName 53 = .ok (.aload_n 0, 1) := by decide +kernel
theorem dX5_readToldName_54 : decode cX5_readToldName 54 = .ok (.aload_n 1, 1) := by decide +kernel
theorem dX5_readToldName_55 : decode cX5_readToldName 55 = .ok (.iconst 2, 1) := by decide +kernel
theorem dX5_readToldName_56 : decode cX5_readToldName 56 = .ok (.invokevirtual 89, 3) := by decide +kernel
theorem dX5_readToldName_59 : decode cX5_readToldName 59 = .ok (.ifCond .eq 7, 3) := by decide +kernel
theorem dX5_readToldName_62 : decode cX5_readToldName 62 = .ok (.iconst 1, 1) := by decide +kernel
theorem dX5_readToldName_63 : decode cX5_readToldName 63 = .ok (.goto 4, 3) := by decide +kernel
theorem dX5_readToldName_66 : decode cX5_readToldName 66 = .ok (.iconst 0, 1) := by decide +kernel
theorem dX5_readToldName_67 : decode cX5_readToldName 67 = .ok (.ireturn, 1) := by decide +kernel
theorem dX5_readNumber_0 : decode cX5_readNumber 0 = .ok (.aload_n 1, 1) := by decide +kernel
theorem dX5_readNumber_1 : decode cX5_readNumber 1 = .ok (.invokevirtual 57, 3) := by decide +kernel
theorem dX5_readNumber_4 : decode cX5_readNumber 4 = .ok (.aload_n 1, 1) := by decide +kernel
theorem dX5_readNumber_5 : decode cX5_readNumber 5 = .ok (.getfield 60, 3) := by decide +kernel
theorem dX5_readNumber_8 : decode cX5_readNumber 8 = .ok (.iconst 3, 1) := by decide +kernel
theorem dX5_readNumber_9 : decode cX5_readNumber 9 = .ok (.if_icmp .eq 10, 3) := by decide +kernel
theorem dX5_readNumber_12 : decode cX5_readNumber 12 = .ok (.aload_n 0, 1) := by decide +kernel
theorem dX5_readNumber_13 : decode cX5_readNumber 13 = .ok (.aload_n 1, 1) := by decide +kernel
theorem dX5_readNumber_14 : decode cX5_readNumber 14 = .ok (.iconst 1, 1) := by decide +kernel
theorem dX5_readNumber_15 : decode cX5_readNumber 15 = .ok (.invokevirtual 89, 3) := by decide +kernel
theorem dX5_readNumber_18 : decode cX5_readNumber 18 = .ok (.ireturn, 1) := by decide +kernel
theorem dX5_readNumber_19 : decode cX5_readNumber 19 = .ok (.aload_n 0, 1) := by decide +kernel
theorem dX5_readNumber_20 : decode cX5_readNumber 20 = .ok (.aload_n 1, 1) := by decide +kernel
theorem dX5_readNumber_21 : decode cX5_readNumber 21 = .ok (.getfield 129, 3) := by decide +kernel
theorem dX5_readNumber_24 : decode cX5_readNumber 24 = .ok (.putfield 166, 3) := by decide +kernel
theorem dX5_readNumber_27 : decode cX5_readNumber 27 = .ok (.aload_n 0, 1) := by decide +kernel
theorem dX5_readNumber_28 : decode cX5_readNumber 28 = .ok (.getfield 166, 3) := by decide +kernel
theorem dX5_readNumber_31 : decode cX5_readNumber 31 = .ok (.iload_n 2, 1) := by decide +kernel
theorem dX5_readNumber_32 : decode cX5_readNumber 32 = .ok (.if_icmp .le 12, 3) := by decide +kernel
theorem dX5_readNumber_35 : decode cX5_readNumber 35 = .ok (.aload_n 0, 1) := by decide +kernel
theorem dX5_readNumber_36 : decode cX5_readNumber 36 = .ok (.aload_n 1, 1) := by decide +kernel
theorem dX5_readNumber_37 : decode cX5_readNumber 37 = .ok (.iconst 4, 1) := by decide +kernel
theorem dX5_readNumber_38 : decode cX5_readNumber 38 = .ok (.invokevirtual 89, 3) := by decide +kernel
theorem dX5_readNumber_41 : decode cX5_readNumber 41 = .ok (.ifCond .eq 7, 3) := by decide +kernel
theorem dX5_readNumber_44 : decode cX5_readNumber 44 = .ok (.iconst 1, 1) := by decide +kernel
theorem dX5_readNumber_45 : decode cX5_readNumber 45 = .ok (.goto 4, 3) := by decide +kernel
theorem dX5_readNumber_48 : decode cX5_readNumber 48 = .ok (.iconst 0, 1) := by decide +kernel
theorem dX5_readNumber_49 : decode cX5_readNumber 49 = .ok (.ireturn, 1) := by decide +kernel
theorem dX5_readLaw_0 : decode cX5_readLaw 0 = .ok (.aload_n 0, 1) := by decide +kernel
theorem dX5_readLaw_1 : decode cX5_readLaw 1 = .ok (.getfield 44, 3) := by decide +kernel
theorem dX5_readLaw_4 : decode cX5_readLaw 4 = .ok (.ifCond .eq 10, 3) := by decide +kernel
theorem dX5_readLaw_7 : decode cX5_readLaw 7 = .ok (.aload_n 0, 1) := by decide +kernel
theorem dX5_readLaw_8 : decode cX5_readLaw 8 = .ok (.aload_n 1, 1) := by decide +kernel
theorem dX5_readLaw_9 : decode cX5_readLaw 9 = .ok (.iconst 3, 1) := by decide +kernel
theorem dX5_readLaw_10 : decode cX5_readLaw 10 = .ok (.invokevirtual 89, 3) := by decide +kernel
theorem dX5_readLaw_13 : decode cX5_readLaw 13 = .ok (.ireturn, 1) := by decide +kernel
theorem dX5_readLaw_14 : decode cX5_readLaw 14 = .ok (.aload_n 0, 1) := by decide +kernel
theorem dX5_readLaw_15 : decode cX5_readLaw 15 = .ok (.iconst 1, 1) := by decide +kernel
theorem dX5_readLaw_16 : decode cX5_readLaw 16 = .ok (.putfield 44, 3) := by decide +kernel
theorem dX5_readLaw_19 : decode cX5_readLaw 19 = .ok (.aload_n 0, 1) := by decide +kernel
theorem dX5_readLaw_20 : decode cX5_readLaw 20 = .ok (.getfield 21, 3) := by decide +kernel
theorem dX5_readLaw_23 : decode cX5_readLaw 23 = .ok (.iconst 0, 1) := by decide +kernel
theorem dX5_readLaw_24 : decode cX5_readLaw 24 = .ok (.putfield 175, 3) := by decide +kernel
theorem dX5_readLaw_27 : decode cX5_readLaw 27 = .ok (.aload_n 0, 1) := by decide +kernel
theorem dX5_readLaw_28 : decode cX5_readLaw 28 = .ok (.iconst 0, 1) := by decide +kernel
theorem dX5_readLaw_29 : decode cX5_readLaw 29 = .ok (.putfield 178, 3) := by decide +kernel
theorem dX5_readLaw_32 : decode cX5_readLaw 32 = .ok (.aload_n 0, 1) := by decide +kernel
theorem dX5_readLaw_33 : decode cX5_readLaw 33 = .ok (.iconst 0, 1) := by decide +kernel
theorem dX5_readLaw_34 : decode cX5_readLaw 34 = .ok (.putfield 181, 3) := by decide +kernel
theorem dX5_readLaw_37 : decode cX5_readLaw 37 = .ok (.aload_n 0, 1) := by decide +kernel
theorem dX5_readLaw_38 : decode cX5_readLaw 38 = .ok (.iconst 1, 1) := by decide +kernel
theorem dX5_readLaw_39 : decode cX5_readLaw 39 = .ok (.putfield 184, 3) := by decide +kernel
theorem dX5_readLaw_42 : decode cX5_readLaw 42 = .ok (.iconst 0, 1) := by decide +kernel
theorem dX5_readLaw_43 : decode cX5_readLaw 43 = .ok (.istore_n 2, 1) := by decide +kernel
theorem dX5_readLaw_44 : decode cX5_readLaw 44 = .ok (.iload_n 2, 1) := by decide +kernel
theorem dX5_readLaw_45 : decode cX5_readLaw 45 = .ok (.sipush 1000, 3) := by decide +kernel
theorem dX5_readLaw_48 : decode cX5_readLaw 48 = .ok (.if_icmp .gt 95, 3) := by decide +kernel
theorem dX5_readLaw_51 : decode cX5_readLaw 51 = .ok (.aload_n 1, 1) := by decide +kernel
theorem dX5_readLaw_52 : decode cX5_readLaw 52 = .ok (.invokevirtual 57, 3) := by decide +kernel
theorem dX5_readLaw_55 : decode cX5_readLaw 55 = .ok (.aload_n 0, 1) := by decide +kernel
theorem dX5_readLaw_56 : decode cX5_readLaw 56 = .ok (.getfield 184, 3) := by decide +kernel
theorem dX5_readLaw_59 : decode cX5_readLaw 59 = .ok (.ifCond .eq 13, 3) := by decide +kernel
theorem dX5_readLaw_62 : decode cX5_readLaw 62 = .ok (.aload_n 0, 1) := by decide +kernel
theorem dX5_readLaw_63 : decode cX5_readLaw 63 = .ok (.aload_n 1, 1) := by decide +kernel
theorem dX5_readLaw_64 : decode cX5_readLaw 64 = .ok (.invokevirtual 187, 3) := by decide +kernel
theorem dX5_readLaw_67 : decode cX5_readLaw 67 = .ok (.ifCond .ne 70, 3) := by decide +kernel
theorem dX5_readLaw_70 : decode cX5_readLaw 70 = .ok (.iconst 0, 1) := by decide +kernel
theorem dX5_readLaw_71 : decode cX5_readLaw 71 = .ok (.ireturn, 1) := by decide +kernel
theorem dX5_readLaw_72 : decode cX5_readLaw 72 = .ok (.aload_n 1, 1) := by decide +kernel
theorem dX5_readLaw_73 : decode cX5_readLaw 73 = .ok (.getfield 77, 3) := by decide +kernel
theorem dX5_readLaw_76 : decode cX5_readLaw 76 = .ok (.bipush 59, 2) := by decide +kernel
theorem dX5_readLaw_78 : decode cX5_readLaw 78 = .ok (.if_icmp .ne 30, 3) := by decide +kernel
theorem dX5_readLaw_81 : decode cX5_readLaw 81 = .ok (.aload_n 0, 1) := by decide +kernel
theorem dX5_readLaw_82 : decode cX5_readLaw 82 = .ok (.iconst 1, 1) := by decide +kernel
theorem dX5_readLaw_83 : decode cX5_readLaw 83 = .ok (.invokevirtual 190, 3) := by decide +kernel
theorem dX5_readLaw_86 : decode cX5_readLaw 86 = .ok (.aload_n 0, 1) := by decide +kernel
theorem dX5_readLaw_87 : decode cX5_readLaw 87 = .ok (.getfield 178, 3) := by decide +kernel
theorem dX5_readLaw_90 : decode cX5_readLaw 90 = .ok (.ifCond .eq 12, 3) := by decide +kernel
theorem dX5_readLaw_93 : decode cX5_readLaw 93 = .ok (.aload_n 0, 1) := by decide +kernel
theorem dX5_readLaw_94 : decode cX5_readLaw 94 = .ok (.aload_n 1, 1) := by decide +kernel
theorem dX5_readLaw_95 : decode cX5_readLaw 95 = .ok (.iconst 1, 1) := by decide +kernel
theorem dX5_readLaw_96 : decode cX5_readLaw 96 = .ok (.invokevirtual 89, 3) := by decide +kernel
theorem dX5_readLaw_99 : decode cX5_readLaw 99 = .ok (.ifCond .eq 7, 3) := by decide +kernel
theorem dX5_readLaw_102 : decode cX5_readLaw 102 = .ok (.iconst 1, 1) := by decide +kernel
theorem dX5_readLaw_103 : decode cX5_readLaw 103 = .ok (.goto 4, 3) := by decide +kernel
theorem dX5_readLaw_106 : decode cX5_readLaw 106 = .ok (.iconst 0, 1) := by decide +kernel
theorem dX5_readLaw_107 : decode cX5_readLaw 107 = .ok (.ireturn, 1) := by decide +kernel
theorem dX5_readLaw_108 : decode cX5_readLaw 108 = .ok (.aload_n 1, 1) := by decide +kernel
theorem dX5_readLaw_109 : decode cX5_readLaw 109 = .ok (.getfield 77, 3) := by decide +kernel
theorem dX5_readLaw_112 : decode cX5_readLaw 112 = .ok (.bipush 41, 2) := by decide +kernel
theorem dX5_readLaw_114 : decode cX5_readLaw 114 = .ok (.if_icmp .ne 13, 3) := by decide +kernel
theorem dX5_readLaw_117 : decode cX5_readLaw 117 = .ok (.aload_n 0, 1) := by decide +kernel
theorem dX5_readLaw_118 : decode cX5_readLaw 118 = .ok (.aload_n 1, 1) := by decide +kernel
theorem dX5_readLaw_119 : decode cX5_readLaw 119 = .ok (.invokevirtual 193, 3) := by decide +kernel
theorem dX5_readLaw_122 : decode cX5_readLaw 122 = .ok (.ifCond .ne 15, 3) := by decide +kernel
theorem dX5_readLaw_125 : decode cX5_readLaw 125 = .ok (.iconst 0, 1) := by decide +kernel
theorem dX5_readLaw_126 : decode cX5_readLaw 126 = .ok (.ireturn, 1) := by decide +kernel
theorem dX5_readLaw_127 : decode cX5_readLaw 127 = .ok (.aload_n 0, 1) := by decide +kernel
theorem dX5_readLaw_128 : decode cX5_readLaw 128 = .ok (.aload_n 1, 1) := by decide +kernel
theorem dX5_readLaw_129 : decode cX5_readLaw 129 = .ok (.invokevirtual 196, 3) := by decide +kernel
theorem dX5_readLaw_132 : decode cX5_readLaw 132 = .ok (.ifCond .ne 5, 3) := by decide +kernel
theorem dX5_readLaw_135 : decode cX5_readLaw 135 = .ok (.iconst 0, 1) := by decide +kernel
theorem dX5_readLaw_136 : decode cX5_readLaw 136 = .ok (.ireturn, 1) := by decide +kernel
theorem dX5_readLaw_137 : decode cX5_readLaw 137 = .ok (.iinc 2 1, 3) := by decide +kernel
theorem dX5_readLaw_140 : decode cX5_readLaw 140 = .ok (.goto (-96), 3) := by decide +kernel
theorem dX5_readLaw_143 : decode cX5_readLaw 143 = .ok (.aload_n 0, 1) := by decide +kernel
theorem dX5_readLaw_144 : decode cX5_readLaw 144 = .ok (.aload_n 1, 1) := by decide +kernel
theorem dX5_readLaw_145 : decode cX5_readLaw 145 = .ok (.iconst 1, 1) := by decide +kernel
theorem dX5_readLaw_146 : decode cX5_readLaw 146 = .ok (.invokevirtual 89, 3) := by decide +kernel
theorem dX5_readLaw_149 : decode cX5_readLaw 149 = .ok (.ireturn, 1) := by decide +kernel
theorem dX5_takePart_0 : decode cX5_takePart 0 = .ok (.aload_n 1, 1) := by decide +kernel
theorem dX5_takePart_1 : decode cX5_takePart 1 = .ok (.getfield 77, 3) := by decide +kernel
theorem dX5_takePart_4 : decode cX5_takePart 4 = .ok (.sipush 140, 3) := by decide +kernel
theorem dX5_takePart_7 : decode cX5_takePart 7 = .ok (.if_icmp .eq 12, 3) := by decide +kernel
theorem dX5_takePart_10 : decode cX5_takePart 10 = .ok (.aload_n 1, 1) := by decide +kernel
theorem dX5_takePart_11 : decode cX5_takePart 11 = .ok (.getfield 77, 3) := by decide +kernel
theorem dX5_takePart_14 : decode cX5_takePart 14 = .ok (.bipush 40, 2) := by decide +kernel
theorem dX5_takePart_16 : decode cX5_takePart 16 = .ok (.if_icmp .ne 7, 3) := by decide +kernel
theorem dX5_takePart_19 : decode cX5_takePart 19 = .ok (.iconst 1, 1) := by decide +kernel
theorem dX5_takePart_20 : decode cX5_takePart 20 = .ok (.goto 4, 3) := by decide +kernel
theorem dX5_takePart_23 : decode cX5_takePart 23 = .ok (.iconst 0, 1) := by decide +kernel
theorem dX5_takePart_24 : decode cX5_takePart 24 = .ok (.istore_n 2, 1) := by decide +kernel
theorem dX5_takePart_25 : decode cX5_takePart 25 = .ok (.aload_n 1, 1) := by decide +kernel
theorem dX5_takePart_26 : decode cX5_takePart 26 = .ok (.getfield 60, 3) := by decide +kernel
theorem dX5_takePart_29 : decode cX5_takePart 29 = .ok (.iconst 3, 1) := by decide +kernel
theorem dX5_takePart_30 : decode cX5_takePart 30 = .ok (.if_icmp .eq 23, 3) := by decide +kernel
theorem dX5_takePart_33 : decode cX5_takePart 33 = .ok (.aload_n 1, 1) := by decide +kernel
theorem dX5_takePart_34 : decode cX5_takePart 34 = .ok (.getfield 77, 3) := by decide +kernel
theorem dX5_takePart_37 : decode cX5_takePart 37 = .ok (.sipush 143, 3) := by decide +kernel
theorem dX5_takePart_40 : decode cX5_takePart 40 = .ok (.if_icmp .lt 17, 3) := by decide +kernel
theorem dX5_takePart_43 : decode cX5_takePart 43 = .ok (.aload_n 1, 1) := by decide +kernel
theorem dX5_takePart_44 : decode cX5_takePart 44 = .ok (.getfield 77, 3) := by decide +kernel
theorem dX5_takePart_47 : decode cX5_takePart 47 = .ok (.sipush 146, 3) := by decide +kernel
theorem dX5_takePart_50 : decode cX5_takePart 50 = .ok (.if_icmp .gt 7, 3) := by decide +kernel
theorem dX5_takePart_53 : decode cX5_takePart 53 = .ok (.iconst 1, 1) := by decide +kernel
theorem dX5_takePart_54 : decode cX5_takePart 54 = .ok (.goto 4, 3) := by decide +kernel
theorem dX5_takePart_57 : decode cX5_takePart 57 = .ok (.iconst 0, 1) := by decide +kernel
theorem dX5_takePart_58 : decode cX5_takePart 58 = .ok (.istore_n 3, 1) := by decide +kernel
theorem dX5_takePart_59 : decode cX5_takePart 59 = .ok (.iload_n 2, 1) := by decide +kernel
theorem dX5_takePart_60 : decode cX5_takePart 60 = .ok (.ifCond .ne 14, 3) := by decide +kernel
theorem dX5_takePart_63 : decode cX5_takePart 63 = .ok (.iload_n 3, 1) := by decide +kernel
theorem dX5_takePart_64 : decode cX5_takePart 64 = .ok (.ifCond .ne 10, 3) := by decide +kernel
theorem dX5_takePart_67 : decode cX5_takePart 67 = .ok (.aload_n 0, 1) := by decide +kernel
theorem dX5_takePart_68 : decode cX5_takePart 68 = .ok (.aload_n 1, 1) := by decide +kernel
theorem dX5_takePart_69 : decode cX5_takePart 69 = .ok (.iconst 1, 1) := by decide +kernel
theorem dX5_takePart_70 : decode cX5_takePart 70 = .ok (.invokevirtual 89, 3) := by decide +kernel
theorem dX5_takePart_73 : decode cX5_takePart 73 = .ok (.ireturn, 1) := by decide +kernel
theorem dX5_takePart_74 : decode cX5_takePart 74 = .ok (.aload_n 0, 1) := by decide +kernel
theorem dX5_takePart_75 : decode cX5_takePart 75 = .ok (.getfield 181, 3) := by decide +kernel
theorem dX5_takePart_78 : decode cX5_takePart 78 = .ok (.iconst 5, 1) := by decide +kernel
theorem dX5_takePart_79 : decode cX5_takePart 79 = .ok (.if_icmp .lt 10, 3) := by decide +kernel
theorem dX5_takePart_82 : decode cX5_takePart 82 = .ok (.aload_n 0, 1) := by decide +kernel
theorem dX5_takePart_83 : decode cX5_takePart 83 = .ok (.aload_n 1, 1) := by decide +kernel
theorem dX5_takePart_84 : decode cX5_takePart 84 = .ok (.iconst 5, 1) := by decide +kernel
theorem dX5_takePart_85 : decode cX5_takePart 85 = .ok (.invokevirtual 89, 3) := by decide +kernel
theorem dX5_takePart_88 : decode cX5_takePart 88 = .ok (.ireturn, 1) := by decide +kernel
theorem dX5_takePart_89 : decode cX5_takePart 89 = .ok (.iload_n 2, 1) := by decide +kernel
theorem dX5_takePart_90 : decode cX5_takePart 90 = .ok (.ifCond .eq 23, 3) := by decide +kernel
theorem dX5_takePart_93 : decode cX5_takePart 93 = .ok (.aload_n 0, 1) := by decide +kernel
theorem dX5_takePart_94 : decode cX5_takePart 94 = .ok (.aload_n 1, 1) := by decide +kernel
theorem dX5_takePart_95 : decode cX5_takePart 95 = .ok (.getfield 77, 3) := by decide +kernel
theorem dX5_takePart_98 : decode cX5_takePart 98 = .ok (.invokevirtual 199, 3) := by decide +kernel
theorem dX5_takePart_101 : decode cX5_takePart 101 = .ok (.aload_n 0, 1) := by decide +kernel
theorem dX5_takePart_102 : decode cX5_takePart 102 = .ok (.dup, 1) := by decide +kernel
theorem dX5_takePart_103 : decode cX5_takePart 103 = .ok (.getfield 181, 3) := by decide +kernel
theorem dX5_takePart_106 : decode cX5_takePart 106 = .ok (.iconst 1, 1) := by decide +kernel
theorem dX5_takePart_107 : decode cX5_takePart 107 = .ok (.iadd, 1) := by decide +kernel
theorem dX5_takePart_108 : decode cX5_takePart 108 = .ok (.putfield 181, 3) := by decide +kernel
theorem dX5_takePart_111 : decode cX5_takePart 111 = .ok (.iconst 1, 1) := by decide +kernel
theorem dX5_takePart_112 : decode cX5_takePart 112 = .ok (.ireturn, 1) := by decide +kernel
theorem dX5_takePart_113 : decode cX5_takePart 113 = .ok (.aload_n 0, 1) := by decide +kernel
theorem dX5_takePart_114 : decode cX5_takePart 114 = .ok (.getfield 21, 3) := by decide +kernel
theorem dX5_takePart_117 : decode cX5_takePart 117 = .ok (.aload_n 1, 1) := by decide +kernel
theorem dX5_takePart_118 : decode cX5_takePart 118 = .ok (.getfield 60, 3) := by decide +kernel
theorem dX5_takePart_121 : decode cX5_takePart 121 = .ok (.iconst 3, 1) := by decide +kernel
theorem dX5_takePart_122 : decode cX5_takePart 122 = .ok (.if_icmp .ne 10, 3) := by decide +kernel
theorem dX5_takePart_125 : decode cX5_takePart 125 = .ok (.aload_n 1, 1) := by decide +kernel
theorem dX5_takePart_126 : decode cX5_takePart 126 = .ok (.getfield 129, 3) := by decide +kernel
theorem dX5_takePart_129 : decode cX5_takePart 129 = .ok (.goto 8, 3) := by decide +kernel
theorem dX5_takePart_132 : decode cX5_takePart 132 = .ok (.aload_n 1, 1) := by decide +kernel
theorem dX5_takePart_133 : decode cX5_takePart 133 = .ok (.getfield 77, 3) := by decide +kernel
theorem dX5_takePart_136 : decode cX5_takePart 136 = .ok (.ineg, 1) := by decide +kernel
theorem dX5_takePart_137 : decode cX5_takePart 137 = .ok (.invokevirtual 202, 3) := by decide +kernel
theorem dX5_takePart_140 : decode cX5_takePart 140 = .ok (.aload_n 0, 1) := by decide +kernel
theorem dX5_takePart_141 : decode cX5_takePart 141 = .ok (.invokevirtual 204, 3) := by decide +kernel
theorem dX5_takePart_144 : decode cX5_takePart 144 = .ok (.aload_n 0, 1) := by decide +kernel
theorem dX5_takePart_145 : decode cX5_takePart 145 = .ok (.iconst 0, 1) := by decide +kernel
theorem dX5_takePart_146 : decode cX5_takePart 146 = .ok (.putfield 184, 3) := by decide +kernel
theorem dX5_takePart_149 : decode cX5_takePart 149 = .ok (.iconst 1, 1) := by decide +kernel
theorem dX5_takePart_150 : decode cX5_takePart 150 = .ok (.ireturn, 1) := by decide +kernel
theorem dX5_takeOperator_0 : decode cX5_takeOperator 0 = .ok (.aload_n 1, 1) := by decide +kernel
theorem dX5_takeOperator_1 : decode cX5_takeOperator 1 = .ok (.getfield 77, 3) := by decide +kernel
theorem dX5_takeOperator_4 : decode cX5_takeOperator 4 = .ok (.invokestatic 207, 3) := by decide +kernel
theorem dX5_takeOperator_7 : decode cX5_takeOperator 7 = .ok (.istore_n 2, 1) := by decide +kernel
theorem dX5_takeOperator_8 : decode cX5_takeOperator 8 = .ok (.iload_n 2, 1) := by decide +kernel
theorem dX5_takeOperator_9 : decode cX5_takeOperator 9 = .ok (.ifCond .ne 10, 3) := by decide +kernel
theorem dX5_takeOperator_12 : decode cX5_takeOperator 12 = .ok (.aload_n 0, 1) := by decide +kernel
theorem dX5_takeOperator_13 : decode cX5_takeOperator 13 = .ok (.aload_n 1, 1) := by decide +kernel
theorem dX5_takeOperator_14 : decode cX5_takeOperator 14 = .ok (.iconst 1, 1) := by decide +kernel
theorem dX5_takeOperator_15 : decode cX5_takeOperator 15 = .ok (.invokevirtual 89, 3) := by decide +kernel
theorem dX5_takeOperator_18 : decode cX5_takeOperator 18 = .ok (.ireturn, 1) := by decide +kernel
theorem dX5_takeOperator_19 : decode cX5_takeOperator 19 = .ok (.iload_n 2, 1) := by decide +kernel
theorem dX5_takeOperator_20 : decode cX5_takeOperator 20 = .ok (.iconst 2, 1) := by decide +kernel
theorem dX5_takeOperator_21 : decode cX5_takeOperator 21 = .ok (.if_icmp .ne 7, 3) := by decide +kernel
theorem dX5_takeOperator_24 : decode cX5_takeOperator 24 = .ok (.iconst 1, 1) := by decide +kernel
theorem dX5_takeOperator_25 : decode cX5_takeOperator 25 = .ok (.goto 4, 3) := by decide +kernel
theorem dX5_takeOperator_28 : decode cX5_takeOperator 28 = .ok (.iconst 0, 1) := by decide +kernel
theorem dX5_takeOperator_29 : decode cX5_takeOperator 29 = .ok (.istore_n 3, 1) := by decide +kernel
theorem dX5_takeOperator_30 : decode cX5_takeOperator 30 = .ok (.aload_n 0, 1) := by decide +kernel
theorem dX5_takeOperator_31 : decode cX5_takeOperator 31 = .ok (.iload_n 3, 1) := by decide +kernel
theorem dX5_takeOperator_32 : decode cX5_takeOperator 32 = .ok (.ifCond .eq 7, 3) := by decide +kernel
theorem dX5_takeOperator_35 : decode cX5_takeOperator 35 = .ok (.iconst 3, 1) := by decide +kernel
theorem dX5_takeOperator_36 : decode cX5_takeOperator 36 = .ok (.goto 4, 3) := by decide +kernel
theorem dX5_takeOperator_39 : decode cX5_takeOperator 39 = .ok (.iload_n 2, 1) := by decide +kernel
theorem dX5_takeOperator_40 : decode cX5_takeOperator 40 = .ok (.invokevirtual 190, 3) := by decide +kernel
theorem dX5_takeOperator_43 : decode cX5_takeOperator 43 = .ok (.iload_n 3, 1) := by decide +kernel
theorem dX5_takeOperator_44 : decode cX5_takeOperator 44 = .ok (.ifCond .eq 35, 3) := by decide +kernel
theorem dX5_takeOperator_47 : decode cX5_takeOperator 47 = .ok (.aload_n 0, 1) := by decide +kernel
theorem dX5_takeOperator_48 : decode cX5_takeOperator 48 = .ok (.getfield 178, 3) := by decide +kernel
theorem dX5_takeOperator_51 : decode cX5_takeOperator 51 = .ok (.ifCond .le 28, 3) := by decide +kernel
theorem dX5_takeOperator_54 : decode cX5_takeOperator 54 = .ok (.aload_n 0, 1) := by decide +kernel
theorem dX5_takeOperator_55 : decode cX5_takeOperator 55 = .ok (.getfield 34, 3) := by decide +kernel
theorem dX5_takeOperator_58 : decode cX5_takeOperator 58 = .ok (.aload_n 0, 1) := by decide +kernel
theorem dX5_takeOperator_59 : decode cX5_takeOperator 59 = .ok (.getfield 178, 3) := by decide +kernel
theorem dX5_takeOperator_62 : decode cX5_takeOperator 62 = .ok (.iconst 1, 1) := by decide +kernel
theorem dX5_takeOperator_63 : decode cX5_takeOperator 63 = .ok (.isub, 1) := by decide +kernel
theorem dX5_takeOperator_64 : decode cX5_takeOperator 64 = .ok (.iaload, 1) := by decide +kernel
theorem dX5_takeOperator_65 : decode cX5_takeOperator 65 = .ok (.invokestatic 207, 3) := by decide +kernel
theorem dX5_takeOperator_68 : decode cX5_takeOperator 68 = .ok (.iconst 2, 1) := by decide +kernel
theorem dX5_takeOperator_69 : decode cX5_takeOperator 69 = .ok (.if_icmp .ne 10, 3) := by decide +kernel
theorem dX5_takeOperator_72 : decode cX5_takeOperator 72 = .ok (.aload_n 0, 1) := by decide +kernel
theorem dX5_takeOperator_73 : decode cX5_takeOperator 73 = .ok (.aload_n 1, 1) := by decide +kernel
theorem dX5_takeOperator_74 : decode cX5_takeOperator 74 = .ok (.iconst 1, 1) := by decide +kernel
theorem dX5_takeOperator_75 : decode cX5_takeOperator 75 = .ok (.invokevirtual 89, 3) := by decide +kernel
theorem dX5_takeOperator_78 : decode cX5_takeOperator 78 = .ok (.ireturn, 1) := by decide +kernel
theorem dX5_takeOperator_79 : decode cX5_takeOperator 79 = .ok (.aload_n 0, 1) := by decide +kernel
theorem dX5_takeOperator_80 : decode cX5_takeOperator 80 = .ok (.aload_n 1, 1) := by decide +kernel
theorem dX5_takeOperator_81 : decode cX5_takeOperator 81 = .ok (.getfield 77, 3) := by decide +kernel
theorem dX5_takeOperator_84 : decode cX5_takeOperator 84 = .ok (.invokevirtual 199, 3) := by decide +kernel
theorem dX5_takeOperator_87 : decode cX5_takeOperator 87 = .ok (.aload_n 0, 1) := by decide +kernel
theorem dX5_takeOperator_88 : decode cX5_takeOperator 88 = .ok (.iconst 1, 1) := by decide +kernel
theorem dX5_takeOperator_89 : decode cX5_takeOperator 89 = .ok (.putfield 184, 3) := by decide +kernel
theorem dX5_takeOperator_92 : decode cX5_takeOperator 92 = .ok (.iconst 1, 1) := by decide +kernel
theorem dX5_takeOperator_93 : decode cX5_takeOperator 93 = .ok (.ireturn, 1) := by decide +kernel
theorem dX5_closeBracket_0 : decode cX5_closeBracket 0 = .ok (.aload_n 0, 1) := by decide +kernel
theorem dX5_closeBracket_1 : decode cX5_closeBracket 1 = .ok (.iconst 1, 1) := by decide +kernel
theorem dX5_closeBracket_2 : decode cX5_closeBracket 2 = .ok (.invokevirtual 190, 3) := by decide +kernel
theorem dX5_closeBracket_5 : decode cX5_closeBracket 5 = .ok (.aload_n 0, 1) := by decide +kernel
theorem dX5_closeBracket_6 : decode cX5_closeBracket 6 = .ok (.getfield 178, 3) := by decide +kernel
theorem dX5_closeBracket_9 : decode cX5_closeBracket 9 = .ok (.ifCond .ne 10, 3) := by decide +kernel
theorem dX5_closeBracket_12 : decode cX5_closeBracket 12 = .ok (.aload_n 0, 1) := by decide +kernel
theorem dX5_closeBracket_13 : decode cX5_closeBracket 13 = .ok (.aload_n 1, 1) := by decide +kernel
theorem dX5_closeBracket_14 : decode cX5_closeBracket 14 = .ok (.iconst 1, 1) := by decide +kernel
theorem dX5_closeBracket_15 : decode cX5_closeBracket 15 = .ok (.invokevirtual 89, 3) := by decide +kernel
theorem dX5_closeBracket_18 : decode cX5_closeBracket 18 = .ok (.ireturn, 1) := by decide +kernel
theorem dX5_closeBracket_19 : decode cX5_closeBracket 19 = .ok (.aload_n 0, 1) := by decide +kernel
theorem dX5_closeBracket_20 : decode cX5_closeBracket 20 = .ok (.dup, 1) := by decide +kernel
theorem dX5_closeBracket_21 : decode cX5_closeBracket 21 = .ok (.getfield 178, 3) := by decide +kernel
theorem dX5_closeBracket_24 : decode cX5_closeBracket 24 = .ok (.iconst 1, 1) := by decide +kernel
theorem dX5_closeBracket_25 : decode cX5_closeBracket 25 = .ok (.isub, 1) := by decide +kernel
theorem dX5_closeBracket_26 : decode cX5_closeBracket 26 = .ok (.putfield 178, 3) := by decide +kernel
theorem dX5_closeBracket_29 : decode cX5_closeBracket 29 = .ok (.aload_n 0, 1) := by decide +kernel
theorem dX5_closeBracket_30 : decode cX5_closeBracket 30 = .ok (.dup, 1) := by decide +kernel
theorem dX5_closeBracket_31 : decode cX5_closeBracket 31 = .ok (.getfield 181, 3) := by decide +kernel
theorem dX5_closeBracket_34 : decode cX5_closeBracket 34 = .ok (.iconst 1, 1) := by decide +kernel
theorem dX5_closeBracket_35 : decode cX5_closeBracket 35 = .ok (.isub, 1) := by decide +kernel
theorem dX5_closeBracket_36 : decode cX5_closeBracket 36 = .ok (.putfield 181, 3) := by decide +kernel
theorem dX5_closeBracket_39 : decode cX5_closeBracket 39 = .ok (.aload_n 0, 1) := by decide +kernel
theorem dX5_closeBracket_40 : decode cX5_closeBracket 40 = .ok (.invokevirtual 204, 3) := by decide +kernel
theorem dX5_closeBracket_43 : decode cX5_closeBracket 43 = .ok (.iconst 1, 1) := by decide +kernel
theorem dX5_closeBracket_44 : decode cX5_closeBracket 44 = .ok (.ireturn, 1) := by decide +kernel
theorem dX5_hold_0 : decode cX5_hold 0 = .ok (.aload_n 0, 1) := by decide +kernel
theorem dX5_hold_1 : decode cX5_hold 1 = .ok (.getfield 178, 3) := by decide +kernel
theorem dX5_hold_4 : decode cX5_hold 4 = .ok (.ifCond .lt 35, 3) := by decide +kernel
theorem dX5_hold_7 : decode cX5_hold 7 = .ok (.aload_n 0, 1) := by decide +kernel
theorem dX5_hold_8 : decode cX5_hold 8 = .ok (.getfield 178, 3) := by decide +kernel
theorem dX5_hold_11 : decode cX5_hold 11 = .ok (.aload_n 0, 1) := by decide +kernel
theorem dX5_hold_12 : decode cX5_hold 12 = .ok (.getfield 34, 3) := by decide +kernel
theorem dX5_hold_15 : decode cX5_hold 15 = .ok (.arraylength, 1) := by decide +kernel
theorem dX5_hold_16 : decode cX5_hold 16 = .ok (.if_icmp .ge 23, 3) := by decide +kernel
theorem dX5_hold_19 : decode cX5_hold 19 = .ok (.aload_n 0, 1) := by decide +kernel
theorem dX5_hold_20 : decode cX5_hold 20 = .ok (.getfield 34, 3) := by decide +kernel
theorem dX5_hold_23 : decode cX5_hold 23 = .ok (.aload_n 0, 1) := by decide +kernel
theorem dX5_hold_24 : decode cX5_hold 24 = .ok (.getfield 178, 3) := by decide +kernel
theorem dX5_hold_27 : decode cX5_hold 27 = .ok (.iload_n 1, 1) := by decide +kernel
theorem dX5_hold_28 : decode cX5_hold 28 = .ok (.iastore, 1) := by decide +kernel
theorem dX5_hold_29 : decode cX5_hold 29 = .ok (.aload_n 0, 1) := by decide +kernel
theorem dX5_hold_30 : decode cX5_hold 30 = .ok (.dup, 1) := by decide +kernel
theorem dX5_hold_31 : decode cX5_hold 31 = .ok (.getfield 178, 3) := by decide +kernel
theorem dX5_hold_34 : decode cX5_hold 34 = .ok (.iconst 1, 1) := by decide +kernel
theorem dX5_hold_35 : decode cX5_hold 35 = .ok (.iadd, 1) := by decide +kernel
theorem dX5_hold_36 : decode cX5_hold 36 = .ok (.putfield 178, 3) := by decide +kernel
theorem dX5_hold_39 : decode cX5_hold 39 = .ok (.return_, 1) := by decide +kernel
theorem dX5_release_0 : decode cX5_release 0 = .ok (.aload_n 0, 1) := by decide +kernel
theorem dX5_release_1 : decode cX5_release 1 = .ok (.getfield 178, 3) := by decide +kernel
theorem dX5_release_4 : decode cX5_release 4 = .ok (.ifCond .le 51, 3) := by decide +kernel
theorem dX5_release_7 : decode cX5_release 7 = .ok (.aload_n 0, 1) := by decide +kernel
theorem dX5_release_8 : decode cX5_release 8 = .ok (.getfield 34, 3) := by decide +kernel
theorem dX5_release_11 : decode cX5_release 11 = .ok (.aload_n 0, 1) := by decide +kernel
theorem dX5_release_12 : decode cX5_release 12 = .ok (.getfield 178, 3) := by decide +kernel
theorem dX5_release_15 : decode cX5_release 15 = .ok (.iconst 1, 1) := by decide +kernel
theorem dX5_release_16 : decode cX5_release 16 = .ok (.isub, 1) := by decide +kernel
theorem dX5_release_17 : decode cX5_release 17 = .ok (.iaload, 1) := by decide +kernel
theorem dX5_release_18 : decode cX5_release 18 = .ok (.invokestatic 207, 3) := by decide +kernel
theorem dX5_release_21 : decode cX5_release 21 = .ok (.iload_n 1, 1) := by decide +kernel
theorem dX5_release_22 : decode cX5_release 22 = .ok (.if_icmp .lt 33, 3) := by decide +kernel
theorem dX5_release_25 : decode cX5_release 25 = .ok (.aload_n 0, 1) := by decide +kernel
theorem dX5_release_26 : decode cX5_release 26 = .ok (.dup, 1) := by decide +kernel
theorem dX5_release_27 : decode cX5_release 27 = .ok (.getfield 178, 3) := by decide +kernel
theorem dX5_release_30 : decode cX5_release 30 = .ok (.iconst 1, 1) := by decide +kernel
theorem dX5_release_31 : decode cX5_release 31 = .ok (.isub, 1) := by decide +kernel
theorem dX5_release_32 : decode cX5_release 32 = .ok (.putfield 178, 3) := by decide +kernel
theorem dX5_release_35 : decode cX5_release 35 = .ok (.aload_n 0, 1) := by decide +kernel
theorem dX5_release_36 : decode cX5_release 36 = .ok (.getfield 21, 3) := by decide +kernel
theorem dX5_release_39 : decode cX5_release 39 = .ok (.aload_n 0, 1) := by decide +kernel
theorem dX5_release_40 : decode cX5_release 40 = .ok (.getfield 34, 3) := by decide +kernel
theorem dX5_release_43 : decode cX5_release 43 = .ok (.aload_n 0, 1) := by decide +kernel
theorem dX5_release_44 : decode cX5_release 44 = .ok (.getfield 178, 3) := by decide +kernel
theorem dX5_release_47 : decode cX5_release 47 = .ok (.iaload, 1) := by decide +kernel
theorem dX5_release_48 : decode cX5_release 48 = .ok (.ineg, 1) := by decide +kernel
theorem dX5_release_49 : decode cX5_release 49 = .ok (.invokevirtual 202, 3) := by decide +kernel
theorem dX5_release_52 : decode cX5_release 52 = .ok (.goto (-52), 3) := by decide +kernel
theorem dX5_release_55 : decode cX5_release 55 = .ok (.return_, 1) := by decide +kernel
theorem dX5_releaseNots_0 : decode cX5_releaseNots 0 = .ok (.aload_n 0, 1) := by decide +kernel
theorem dX5_releaseNots_1 : decode cX5_releaseNots 1 = .ok (.getfield 178, 3) := by decide +kernel
theorem dX5_releaseNots_4 : decode cX5_releaseNots 4 = .ok (.ifCond .le 53, 3) := by decide +kernel
theorem dX5_releaseNots_7 : decode cX5_releaseNots 7 = .ok (.aload_n 0, 1) := by decide +kernel
theorem dX5_releaseNots_8 : decode cX5_releaseNots 8 = .ok (.getfield 34, 3) := by decide +kernel
theorem dX5_releaseNots_11 : decode cX5_releaseNots 11 = .ok (.aload_n 0, 1) := by decide +kernel
theorem dX5_releaseNots_12 : decode cX5_releaseNots 12 = .ok (.getfield 178, 3) := by decide +kernel
theorem dX5_releaseNots_15 : decode cX5_releaseNots 15 = .ok (.iconst 1, 1) := by decide +kernel
theorem dX5_releaseNots_16 : decode cX5_releaseNots 16 = .ok (.isub, 1) := by decide +kernel
theorem dX5_releaseNots_17 : decode cX5_releaseNots 17 = .ok (.iaload, 1) := by decide +kernel
theorem dX5_releaseNots_18 : decode cX5_releaseNots 18 = .ok (.sipush 140, 3) := by decide +kernel
theorem dX5_releaseNots_21 : decode cX5_releaseNots 21 = .ok (.if_icmp .ne 36, 3) := by decide +kernel
theorem dX5_releaseNots_24 : decode cX5_releaseNots 24 = .ok (.aload_n 0, 1) := by decide +kernel
theorem dX5_releaseNots_25 : decode cX5_releaseNots 25 = .ok (.dup, 1) := by decide +kernel
theorem dX5_releaseNots_26 : decode cX5_releaseNots 26 = .ok (.getfield 178, 3) := by decide +kernel
theorem dX5_releaseNots_29 : decode cX5_releaseNots 29 = .ok (.iconst 1, 1) := by decide +kernel
theorem dX5_releaseNots_30 : decode cX5_releaseNots 30 = .ok (.isub, 1) := by decide +kernel
theorem dX5_releaseNots_31 : decode cX5_releaseNots 31 = .ok (.putfield 178, 3) := by decide +kernel
theorem dX5_releaseNots_34 : decode cX5_releaseNots 34 = .ok (.aload_n 0, 1) := by decide +kernel
theorem dX5_releaseNots_35 : decode cX5_releaseNots 35 = .ok (.dup, 1) := by decide +kernel
theorem dX5_releaseNots_36 : decode cX5_releaseNots 36 = .ok (.getfield 181, 3) := by decide +kernel
theorem dX5_releaseNots_39 : decode cX5_releaseNots 39 = .ok (.iconst 1, 1) := by decide +kernel
theorem dX5_releaseNots_40 : decode cX5_releaseNots 40 = .ok (.isub, 1) := by decide +kernel
theorem dX5_releaseNots_41 : decode cX5_releaseNots 41 = .ok (.putfield 181, 3) := by decide +kernel
theorem dX5_releaseNots_44 : decode cX5_releaseNots 44 = .ok (.aload_n 0, 1) := by decide +kernel
theorem dX5_releaseNots_45 : decode cX5_releaseNots 45 = .ok (.getfield 21, 3) := by decide +kernel
theorem dX5_releaseNots_48 : decode cX5_releaseNots 48 = .ok (.sipush (-140), 3) := by decide +kernel
theorem dX5_releaseNots_51 : decode cX5_releaseNots 51 = .ok (.invokevirtual 202, 3) := by decide +kernel
theorem dX5_releaseNots_54 : decode cX5_releaseNots 54 = .ok (.goto (-54), 3) := by decide +kernel
theorem dX5_releaseNots_57 : decode cX5_releaseNots 57 = .ok (.return_, 1) := by decide +kernel
theorem dX5_rankOf_0 : decode cX5_rankOf 0 = .ok (.iload_n 0, 1) := by decide +kernel
theorem dX5_rankOf_1 : decode cX5_rankOf 1 = .ok (.lookupswitch 81 #[(42, 79), (43, 75), (45, 77), (60, 71), (61, 73), (141, 67), (142, 69)], 67) := by decide +kernel
theorem dX5_rankOf_68 : decode cX5_rankOf 68 = .ok (.iconst 1, 1) := by decide +kernel
theorem dX5_rankOf_69 : decode cX5_rankOf 69 = .ok (.ireturn, 1) := by decide +kernel
theorem dX5_rankOf_70 : decode cX5_rankOf 70 = .ok (.iconst 1, 1) := by decide +kernel
theorem dX5_rankOf_71 : decode cX5_rankOf 71 = .ok (.ireturn, 1) := by decide +kernel
theorem dX5_rankOf_72 : decode cX5_rankOf 72 = .ok (.iconst 2, 1) := by decide +kernel
theorem dX5_rankOf_73 : decode cX5_rankOf 73 = .ok (.ireturn, 1) := by decide +kernel
theorem dX5_rankOf_74 : decode cX5_rankOf 74 = .ok (.iconst 2, 1) := by decide +kernel
theorem dX5_rankOf_75 : decode cX5_rankOf 75 = .ok (.ireturn, 1) := by decide +kernel
theorem dX5_rankOf_76 : decode cX5_rankOf 76 = .ok (.iconst 3, 1) := by decide +kernel
theorem dX5_rankOf_77 : decode cX5_rankOf 77 = .ok (.ireturn, 1) := by decide +kernel
theorem dX5_rankOf_78 : decode cX5_rankOf 78 = .ok (.iconst 3, 1) := by decide +kernel
theorem dX5_rankOf_79 : decode cX5_rankOf 79 = .ok (.ireturn, 1) := by decide +kernel
theorem dX5_rankOf_80 : decode cX5_rankOf 80 = .ok (.iconst 4, 1) := by decide +kernel
theorem dX5_rankOf_81 : decode cX5_rankOf 81 = .ok (.ireturn, 1) := by decide +kernel
theorem dX5_rankOf_82 : decode cX5_rankOf 82 = .ok (.iconst 0, 1) := by decide +kernel
theorem dX5_rankOf_83 : decode cX5_rankOf 83 = .ok (.ireturn, 1) := by decide +kernel
theorem dX6_init_0 : decode cX6_init 0 = .ok (.aload_n 0, 1) := by decide +kernel
theorem dX6_init_1 : decode cX6_init 1 = .ok (.invokespecial 3, 3) := by decide +kernel
theorem dX6_init_4 : decode cX6_init 4 = .ok (.aload_n 0, 1) := by decide +kernel
theorem dX6_init_5 : decode cX6_init 5 = .ok (.bipush 20, 2) := by decide +kernel
theorem dX6_init_7 : decode cX6_init 7 = .ok (.newarray .int, 2) := by decide +kernel
theorem dX6_init_9 : decode cX6_init 9 = .ok (.putfield 9, 3) := by decide +kernel
theorem dX6_init_12 : decode cX6_init 12 = .ok (.return_, 1) := by decide +kernel
theorem dX6_hasPlace_0 : decode cX6_hasPlace 0 = .ok (.iload_n 1, 1) := by decide +kernel
theorem dX6_hasPlace_1 : decode cX6_hasPlace 1 = .ok (.ifCond .lt 24, 3) := by decide +kernel
theorem dX6_hasPlace_4 : decode cX6_hasPlace 4 = .ok (.iload_n 1, 1) := by decide +kernel
theorem dX6_hasPlace_5 : decode cX6_hasPlace 5 = .ok (.aload_n 0, 1) := by decide +kernel
theorem dX6_hasPlace_6 : decode cX6_hasPlace 6 = .ok (.getfield 15, 3) := by decide +kernel
theorem dX6_hasPlace_9 : decode cX6_hasPlace 9 = .ok (.if_icmp .ge 16, 3) := by decide +kernel
theorem dX6_hasPlace_12 : decode cX6_hasPlace 12 = .ok (.iload_n 1, 1) := by decide +kernel
theorem dX6_hasPlace_13 : decode cX6_hasPlace 13 = .ok (.aload_n 0, 1) := by decide +kernel
theorem dX6_hasPlace_14 : decode cX6_hasPlace 14 = .ok (.getfield 9, 3) := by decide +kernel
theorem dX6_hasPlace_17 : decode cX6_hasPlace 17 = .ok (.arraylength, 1) := by decide +kernel
theorem dX6_hasPlace_18 : decode cX6_hasPlace 18 = .ok (.if_icmp .ge 7, 3) := by decide +kernel
theorem dX6_hasPlace_21 : decode cX6_hasPlace 21 = .ok (.iconst 1, 1) := by decide +kernel
theorem dX6_hasPlace_22 : decode cX6_hasPlace 22 = .ok (.goto 4, 3) := by decide +kernel
theorem dX6_hasPlace_25 : decode cX6_hasPlace 25 = .ok (.iconst 0, 1) := by decide +kernel
theorem dX6_hasPlace_26 : decode cX6_hasPlace 26 = .ok (.ireturn, 1) := by decide +kernel
theorem dX6_add_0 : decode cX6_add 0 = .ok (.aload_n 0, 1) := by decide +kernel
theorem dX6_add_1 : decode cX6_add 1 = .ok (.getfield 15, 3) := by decide +kernel
theorem dX6_add_4 : decode cX6_add 4 = .ok (.ifCond .lt 15, 3) := by decide +kernel
theorem dX6_add_7 : decode cX6_add 7 = .ok (.aload_n 0, 1) := by decide +kernel
theorem dX6_add_8 : decode cX6_add 8 = .ok (.getfield 15, 3) := by decide +kernel
theorem dX6_add_11 : decode cX6_add 11 = .ok (.aload_n 0, 1) := by decide +kernel
theorem dX6_add_12 : decode cX6_add 12 = .ok (.getfield 9, 3) := by decide +kernel
theorem dX6_add_15 : decode cX6_add 15 = .ok (.arraylength, 1) := by decide +kernel
theorem dX6_add_16 : decode cX6_add 16 = .ok (.if_icmp .lt 5, 3) := by decide +kernel
theorem dX6_add_19 : decode cX6_add 19 = .ok (.iconst 0, 1) := by decide +kernel
theorem dX6_add_20 : decode cX6_add 20 = .ok (.ireturn, 1) := by decide +kernel
theorem dX6_add_21 : decode cX6_add 21 = .ok (.aload_n 0, 1) := by decide +kernel
theorem dX6_add_22 : decode cX6_add 22 = .ok (.getfield 9, 3) := by decide +kernel
theorem dX6_add_25 : decode cX6_add 25 = .ok (.aload_n 0, 1) := by decide +kernel
theorem dX6_add_26 : decode cX6_add 26 = .ok (.getfield 15, 3) := by decide +kernel
theorem dX6_add_29 : decode cX6_add 29 = .ok (.iload_n 1, 1) := by decide +kernel
theorem dX6_add_30 : decode cX6_add 30 = .ok (.iastore, 1) := by decide +kernel
theorem dX6_add_31 : decode cX6_add 31 = .ok (.aload_n 0, 1) := by decide +kernel
theorem dX6_add_32 : decode cX6_add 32 = .ok (.dup, 1) := by decide +kernel
theorem dX6_add_33 : decode cX6_add 33 = .ok (.getfield 15, 3) := by decide +kernel
theorem dX6_add_36 : decode cX6_add 36 = .ok (.iconst 1, 1) := by decide +kernel
theorem dX6_add_37 : decode cX6_add 37 = .ok (.iadd, 1) := by decide +kernel
theorem dX6_add_38 : decode cX6_add 38 = .ok (.putfield 15, 3) := by decide +kernel
theorem dX6_add_41 : decode cX6_add 41 = .ok (.iconst 1, 1) := by decide +kernel
theorem dX6_add_42 : decode cX6_add 42 = .ok (.ireturn, 1) := by decide +kernel
theorem dX6_flip_0 : decode cX6_flip 0 = .ok (.iconst 0, 1) := by decide +kernel
theorem dX6_flip_1 : decode cX6_flip 1 = .ok (.istore_n 1, 1) := by decide +kernel
theorem dX6_flip_2 : decode cX6_flip 2 = .ok (.iload_n 1, 1) := by decide +kernel
theorem dX6_flip_3 : decode cX6_flip 3 = .ok (.aload_n 0, 1) := by decide +kernel
theorem dX6_flip_4 : decode cX6_flip 4 = .ok (.getfield 15, 3) := by decide +kernel
theorem dX6_flip_7 : decode cX6_flip 7 = .ok (.iconst 2, 1) := by decide +kernel
theorem dX6_flip_8 : decode cX6_flip 8 = .ok (.idiv, 1) := by decide +kernel
theorem dX6_flip_9 : decode cX6_flip 9 = .ok (.if_icmp .ge 49, 3) := by decide +kernel
theorem dX6_flip_12 : decode cX6_flip 12 = .ok (.aload_n 0, 1) := by decide +kernel
theorem dX6_flip_13 : decode cX6_flip 13 = .ok (.getfield 9, 3) := by decide +kernel
theorem dX6_flip_16 : decode cX6_flip 16 = .ok (.iload_n 1, 1) := by decide +kernel
theorem dX6_flip_17 : decode cX6_flip 17 = .ok (.iaload, 1) := by decide +kernel
theorem dX6_flip_18 : decode cX6_flip 18 = .ok (.istore_n 2, 1) := by decide +kernel
theorem dX6_flip_19 : decode cX6_flip 19 = .ok (.aload_n 0, 1) := by decide +kernel
theorem dX6_flip_20 : decode cX6_flip 20 = .ok (.getfield 9, 3) := by decide +kernel
theorem dX6_flip_23 : decode cX6_flip 23 = .ok (.iload_n 1, 1) := by decide +kernel
theorem dX6_flip_24 : decode cX6_flip 24 = .ok (.aload_n 0, 1) := by decide +kernel
theorem dX6_flip_25 : decode cX6_flip 25 = .ok (.getfield 9, 3) := by decide +kernel
theorem dX6_flip_28 : decode cX6_flip 28 = .ok (.aload_n 0, 1) := by decide +kernel
theorem dX6_flip_29 : decode cX6_flip 29 = .ok (.getfield 15, 3) := by decide +kernel
theorem dX6_flip_32 : decode cX6_flip 32 = .ok (.iconst 1, 1) := by decide +kernel
theorem dX6_flip_33 : decode cX6_flip 33 = .ok (.isub, 1) := by decide +kernel
theorem dX6_flip_34 : decode cX6_flip 34 = .ok (.iload_n 1, 1) := by decide +kernel
theorem dX6_flip_35 : decode cX6_flip 35 = .ok (.isub, 1) := by decide +kernel
theorem dX6_flip_36 : decode cX6_flip 36 = .ok (.iaload, 1) := by decide +kernel
theorem dX6_flip_37 : decode cX6_flip 37 = .ok (.iastore, 1) := by decide +kernel
theorem dX6_flip_38 : decode cX6_flip 38 = .ok (.aload_n 0, 1) := by decide +kernel
theorem dX6_flip_39 : decode cX6_flip 39 = .ok (.getfield 9, 3) := by decide +kernel
theorem dX6_flip_42 : decode cX6_flip 42 = .ok (.aload_n 0, 1) := by decide +kernel
theorem dX6_flip_43 : decode cX6_flip 43 = .ok (.getfield 15, 3) := by decide +kernel
theorem dX6_flip_46 : decode cX6_flip 46 = .ok (.iconst 1, 1) := by decide +kernel
theorem dX6_flip_47 : decode cX6_flip 47 = .ok (.isub, 1) := by decide +kernel
theorem dX6_flip_48 : decode cX6_flip 48 = .ok (.iload_n 1, 1) := by decide +kernel
theorem dX6_flip_49 : decode cX6_flip 49 = .ok (.isub, 1) := by decide +kernel
theorem dX6_flip_50 : decode cX6_flip 50 = .ok (.iload_n 2, 1) := by decide +kernel
theorem dX6_flip_51 : decode cX6_flip 51 = .ok (.iastore, 1) := by decide +kernel
theorem dX6_flip_52 : decode cX6_flip 52 = .ok (.iinc 1 1, 3) := by decide +kernel
theorem dX6_flip_55 : decode cX6_flip 55 = .ok (.goto (-53), 3) := by decide +kernel
theorem dX6_flip_58 : decode cX6_flip 58 = .ok (.return_, 1) := by decide +kernel
theorem dX6_copyFrom_0 : decode cX6_copyFrom 0 = .ok (.aload_n 1, 1) := by decide +kernel
theorem dX6_copyFrom_1 : decode cX6_copyFrom 1 = .ok (.getfield 9, 3) := by decide +kernel
theorem dX6_copyFrom_4 : decode cX6_copyFrom 4 = .ok (.iconst 0, 1) := by decide +kernel
theorem dX6_copyFrom_5 : decode cX6_copyFrom 5 = .ok (.aload_n 0, 1) := by decide +kernel
theorem dX6_copyFrom_6 : decode cX6_copyFrom 6 = .ok (.getfield 9, 3) := by decide +kernel
theorem dX6_copyFrom_9 : decode cX6_copyFrom 9 = .ok (.iconst 0, 1) := by decide +kernel
theorem dX6_copyFrom_10 : decode cX6_copyFrom 10 = .ok (.aload_n 0, 1) := by decide +kernel
theorem dX6_copyFrom_11 : decode cX6_copyFrom 11 = .ok (.getfield 9, 3) := by decide +kernel
theorem dX6_copyFrom_14 : decode cX6_copyFrom 14 = .ok (.arraylength, 1) := by decide +kernel
theorem dX6_copyFrom_15 : decode cX6_copyFrom 15 = .ok (.invokestatic 19, 3) := by decide +kernel
theorem dX6_copyFrom_18 : decode cX6_copyFrom 18 = .ok (.aload_n 0, 1) := by decide +kernel
theorem dX6_copyFrom_19 : decode cX6_copyFrom 19 = .ok (.aload_n 1, 1) := by decide +kernel
theorem dX6_copyFrom_20 : decode cX6_copyFrom 20 = .ok (.getfield 25, 3) := by decide +kernel
theorem dX6_copyFrom_23 : decode cX6_copyFrom 23 = .ok (.putfield 25, 3) := by decide +kernel
theorem dX6_copyFrom_26 : decode cX6_copyFrom 26 = .ok (.aload_n 0, 1) := by decide +kernel
theorem dX6_copyFrom_27 : decode cX6_copyFrom 27 = .ok (.aload_n 1, 1) := by decide +kernel
theorem dX6_copyFrom_28 : decode cX6_copyFrom 28 = .ok (.getfield 29, 3) := by decide +kernel
theorem dX6_copyFrom_31 : decode cX6_copyFrom 31 = .ok (.putfield 29, 3) := by decide +kernel
theorem dX6_copyFrom_34 : decode cX6_copyFrom 34 = .ok (.aload_n 0, 1) := by decide +kernel
theorem dX6_copyFrom_35 : decode cX6_copyFrom 35 = .ok (.aload_n 1, 1) := by decide +kernel
theorem dX6_copyFrom_36 : decode cX6_copyFrom 36 = .ok (.getfield 15, 3) := by decide +kernel
theorem dX6_copyFrom_39 : decode cX6_copyFrom 39 = .ok (.putfield 15, 3) := by decide +kernel
theorem dX6_copyFrom_42 : decode cX6_copyFrom 42 = .ok (.return_, 1) := by decide +kernel
theorem dX7_init_0 : decode cX7_init 0 = .ok (.aload_n 0, 1) := by decide +kernel
theorem dX7_init_1 : decode cX7_init 1 = .ok (.invokespecial 3, 3) := by decide +kernel
theorem dX7_init_4 : decode cX7_init 4 = .ok (.aload_n 0, 1) := by decide +kernel
theorem dX7_init_5 : decode cX7_init 5 = .ok (.iconst 4, 1) := by decide +kernel
theorem dX7_init_6 : decode cX7_init 6 = .ok (.anewarray 9, 3) := by decide +kernel
theorem dX7_init_9 : decode cX7_init 9 = .ok (.putfield 11, 3) := by decide +kernel
theorem dX7_init_12 : decode cX7_init 12 = .ok (.aload_n 0, 1) := by decide +kernel
theorem dX7_init_13 : decode cX7_init 13 = .ok (.bipush 8, 2) := by decide +kernel
theorem dX7_init_15 : decode cX7_init 15 = .ok (.anewarray 17, 3) := by decide +kernel
theorem dX7_init_18 : decode cX7_init 18 = .ok (.putfield 19, 3) := by decide +kernel
theorem dX7_init_21 : decode cX7_init 21 = .ok (.aload_n 0, 1) := by decide +kernel
theorem dX7_init_22 : decode cX7_init 22 = .ok (.bipush 8, 2) := by decide +kernel
theorem dX7_init_24 : decode cX7_init 24 = .ok (.newarray .int, 2) := by decide +kernel
theorem dX7_init_26 : decode cX7_init 26 = .ok (.putfield 23, 3) := by decide +kernel
theorem dX7_init_29 : decode cX7_init 29 = .ok (.aload_n 0, 1) := by decide +kernel
theorem dX7_init_30 : decode cX7_init 30 = .ok (.bipush 8, 2) := by decide +kernel
theorem dX7_init_32 : decode cX7_init 32 = .ok (.newarray .int, 2) := by decide +kernel
theorem dX7_init_34 : decode cX7_init 34 = .ok (.putfield 27, 3) := by decide +kernel
theorem dX7_init_37 : decode cX7_init 37 = .ok (.aload_n 0, 1) := by decide +kernel
theorem dX7_init_38 : decode cX7_init 38 = .ok (.bipush 8, 2) := by decide +kernel
theorem dX7_init_40 : decode cX7_init 40 = .ok (.newarray .boolean, 2) := by decide +kernel
theorem dX7_init_42 : decode cX7_init 42 = .ok (.putfield 30, 3) := by decide +kernel
theorem dX7_init_45 : decode cX7_init 45 = .ok (.iconst 0, 1) := by decide +kernel
theorem dX7_init_46 : decode cX7_init 46 = .ok (.istore_n 1, 1) := by decide +kernel
theorem dX7_init_47 : decode cX7_init 47 = .ok (.iload_n 1, 1) := by decide +kernel
theorem dX7_init_48 : decode cX7_init 48 = .ok (.iconst 4, 1) := by decide +kernel
theorem dX7_init_49 : decode cX7_init 49 = .ok (.if_icmp .ge 22, 3) := by decide +kernel
theorem dX7_init_52 : decode cX7_init 52 = .ok (.aload_n 0, 1) := by decide +kernel
theorem dX7_init_53 : decode cX7_init 53 = .ok (.getfield 11, 3) := by decide +kernel
theorem dX7_init_56 : decode cX7_init 56 = .ok (.iload_n 1, 1) := by decide +kernel
theorem dX7_init_57 : decode cX7_init 57 = .ok (.new 9, 3) := by decide +kernel
theorem dX7_init_60 : decode cX7_init 60 = .ok (.dup, 1) := by decide +kernel
theorem dX7_init_61 : decode cX7_init 61 = .ok (.invokespecial 34, 3) := by decide +kernel
theorem dX7_init_64 : decode cX7_init 64 = .ok (.aastore, 1) := by decide +kernel
theorem dX7_init_65 : decode cX7_init 65 = .ok (.iinc 1 1, 3) := by decide +kernel
theorem dX7_init_68 : decode cX7_init 68 = .ok (.goto (-21), 3) := by decide +kernel
theorem dX7_init_71 : decode cX7_init 71 = .ok (.iconst 0, 1) := by decide +kernel
theorem dX7_init_72 : decode cX7_init 72 = .ok (.istore_n 1, 1) := by decide +kernel
theorem dX7_init_73 : decode cX7_init 73 = .ok (.iload_n 1, 1) := by decide +kernel
theorem dX7_init_74 : decode cX7_init 74 = .ok (.bipush 8, 2) := by decide +kernel
theorem dX7_init_76 : decode cX7_init 76 = .ok (.if_icmp .ge 22, 3) := by decide +kernel
theorem dX7_init_79 : decode cX7_init 79 = .ok (.aload_n 0, 1) := by decide +kernel
theorem dX7_init_80 : decode cX7_init 80 = .ok (.getfield 19, 3) := by decide +kernel
theorem dX7_init_83 : decode cX7_init 83 = .ok (.iload_n 1, 1) := by decide +kernel
theorem dX7_init_84 : decode cX7_init 84 = .ok (.new 17, 3) := by decide +kernel
theorem dX7_init_87 : decode cX7_init 87 = .ok (.dup, 1) := by decide +kernel
theorem dX7_init_88 : decode cX7_init 88 = .ok (.invokespecial 35, 3) := by decide +kernel
theorem dX7_init_91 : decode cX7_init 91 = .ok (.aastore, 1) := by decide +kernel
theorem dX7_init_92 : decode cX7_init 92 = .ok (.iinc 1 1, 3) := by decide +kernel
theorem dX7_init_95 : decode cX7_init 95 = .ok (.goto (-22), 3) := by decide +kernel
theorem dX7_init_98 : decode cX7_init 98 = .ok (.return_, 1) := by decide +kernel
theorem dX7_clear_0 : decode cX7_clear 0 = .ok (.aload_n 0, 1) := by decide +kernel
theorem dX7_clear_1 : decode cX7_clear 1 = .ok (.iconst 0, 1) := by decide +kernel
theorem dX7_clear_2 : decode cX7_clear 2 = .ok (.putfield 36, 3) := by decide +kernel
theorem dX7_clear_5 : decode cX7_clear 5 = .ok (.aload_n 0, 1) := by decide +kernel
theorem dX7_clear_6 : decode cX7_clear 6 = .ok (.iconst 0, 1) := by decide +kernel
theorem dX7_clear_7 : decode cX7_clear 7 = .ok (.putfield 40, 3) := by decide +kernel
theorem dX7_clear_10 : decode cX7_clear 10 = .ok (.aload_n 0, 1) := by decide +kernel
theorem dX7_clear_11 : decode cX7_clear 11 = .ok (.iconst 0, 1) := by decide +kernel
theorem dX7_clear_12 : decode cX7_clear 12 = .ok (.putfield 43, 3) := by decide +kernel
theorem dX7_clear_15 : decode cX7_clear 15 = .ok (.return_, 1) := by decide +kernel
theorem dX7_copyFrom_0 : decode cX7_copyFrom 0 = .ok (.iconst 0, 1) := by decide +kernel
theorem dX7_copyFrom_1 : decode cX7_copyFrom 1 = .ok (.istore_n 2, 1) := by decide +kernel
theorem dX7_copyFrom_2 : decode cX7_copyFrom 2 = .ok (.iload_n 2, 1) := by decide +kernel
theorem dX7_copyFrom_3 : decode cX7_copyFrom 3 = .ok (.aload_n 1, 1) := by decide +kernel
theorem dX7_copyFrom_4 : decode cX7_copyFrom 4 = .ok (.getfield 36, 3) := by decide +kernel
theorem dX7_copyFrom_7 : decode cX7_copyFrom 7 = .ok (.if_icmp .ge 24, 3) := by decide +kernel
theorem dX7_copyFrom_10 : decode cX7_copyFrom 10 = .ok (.aload_n 0, 1) := by decide +kernel
theorem dX7_copyFrom_11 : decode cX7_copyFrom 11 = .ok (.getfield 11, 3) := by decide +kernel
theorem dX7_copyFrom_14 : decode cX7_copyFrom 14 = .ok (.iload_n 2, 1) := by decide +kernel
theorem dX7_copyFrom_15 : decode cX7_copyFrom 15 = .ok (.aaload, 1) := by decide +kernel
theorem dX7_copyFrom_16 : decode cX7_copyFrom 16 = .ok (.aload_n 1, 1) := by decide +kernel
theorem dX7_copyFrom_17 : decode cX7_copyFrom 17 = .ok (.getfield 11, 3) := by decide +kernel
theorem dX7_copyFrom_20 : decode cX7_copyFrom 20 = .ok (.iload_n 2, 1) := by decide +kernel
theorem dX7_copyFrom_21 : decode cX7_copyFrom 21 = .ok (.aaload, 1) := by decide +kernel
theorem dX7_copyFrom_22 : decode cX7_copyFrom 22 = .ok (.invokevirtual 46, 3) := by decide +kernel
theorem dX7_copyFrom_25 : decode cX7_copyFrom 25 = .ok (.iinc 2 1, 3) := by decide +kernel
theorem dX7_copyFrom_28 : decode cX7_copyFrom 28 = .ok (.goto (-26), 3) := by decide +kernel
theorem dX7_copyFrom_31 : decode cX7_copyFrom 31 = .ok (.iconst 0, 1) := by decide +kernel
theorem dX7_copyFrom_32 : decode cX7_copyFrom 32 = .ok (.istore_n 2, 1) := by decide +kernel
theorem dX7_copyFrom_33 : decode cX7_copyFrom 33 = .ok (.iload_n 2, 1) := by decide +kernel
theorem dX7_copyFrom_34 : decode cX7_copyFrom 34 = .ok (.aload_n 1, 1) := by decide +kernel
theorem dX7_copyFrom_35 : decode cX7_copyFrom 35 = .ok (.getfield 40, 3) := by decide +kernel
theorem dX7_copyFrom_38 : decode cX7_copyFrom 38 = .ok (.if_icmp .ge 24, 3) := by decide +kernel
theorem dX7_copyFrom_41 : decode cX7_copyFrom 41 = .ok (.aload_n 0, 1) := by decide +kernel
theorem dX7_copyFrom_42 : decode cX7_copyFrom 42 = .ok (.getfield 19, 3) := by decide +kernel
theorem dX7_copyFrom_45 : decode cX7_copyFrom 45 = .ok (.iload_n 2, 1) := by decide +kernel
theorem dX7_copyFrom_46 : decode cX7_copyFrom 46 = .ok (.aaload, 1) := by decide +kernel
theorem dX7_copyFrom_47 : decode cX7_copyFrom 47 = .ok (.aload_n 1, 1) := by decide +kernel
theorem dX7_copyFrom_48 : decode cX7_copyFrom 48 = .ok (.getfield 19, 3) := by decide +kernel
theorem dX7_copyFrom_51 : decode cX7_copyFrom 51 = .ok (.iload_n 2, 1) := by decide +kernel
theorem dX7_copyFrom_52 : decode cX7_copyFrom 52 = .ok (.aaload, 1) := by decide +kernel
theorem dX7_copyFrom_53 : decode cX7_copyFrom 53 = .ok (.invokevirtual 50, 3) := by decide +kernel
theorem dX7_copyFrom_56 : decode cX7_copyFrom 56 = .ok (.iinc 2 1, 3) := by decide +kernel
theorem dX7_copyFrom_59 : decode cX7_copyFrom 59 = .ok (.goto (-26), 3) := by decide +kernel
theorem dX7_copyFrom_62 : decode cX7_copyFrom 62 = .ok (.iconst 0, 1) := by decide +kernel
theorem dX7_copyFrom_63 : decode cX7_copyFrom 63 = .ok (.istore_n 2, 1) := by decide +kernel
theorem dX7_copyFrom_64 : decode cX7_copyFrom 64 = .ok (.iload_n 2, 1) := by decide +kernel
theorem dX7_copyFrom_65 : decode cX7_copyFrom 65 = .ok (.aload_n 1, 1) := by decide +kernel
theorem dX7_copyFrom_66 : decode cX7_copyFrom 66 = .ok (.getfield 43, 3) := by decide +kernel
theorem dX7_copyFrom_69 : decode cX7_copyFrom 69 = .ok (.if_icmp .ge 45, 3) := by decide +kernel
theorem dX7_copyFrom_72 : decode cX7_copyFrom 72 = .ok (.aload_n 0, 1) := by decide +kernel
theorem dX7_copyFrom_73 : decode cX7_copyFrom 73 = .ok (.getfield 23, 3) := by decide +kernel
theorem dX7_copyFrom_76 : decode cX7_copyFrom 76 = .ok (.iload_n 2, 1) := by decide +kernel
theorem dX7_copyFrom_77 : decode cX7_copyFrom 77 = .ok (.aload_n 1, 1) := by decide +kernel
theorem dX7_copyFrom_78 : decode cX7_copyFrom 78 = .ok (.getfield 23, 3) := by decide +kernel
theorem dX7_copyFrom_81 : decode cX7_copyFrom 81 = .ok (.iload_n 2, 1) := by decide +kernel
theorem dX7_copyFrom_82 : decode cX7_copyFrom 82 = .ok (.iaload, 1) := by decide +kernel
theorem dX7_copyFrom_83 : decode cX7_copyFrom 83 = .ok (.iastore, 1) := by decide +kernel
theorem dX7_copyFrom_84 : decode cX7_copyFrom 84 = .ok (.aload_n 0, 1) := by decide +kernel
theorem dX7_copyFrom_85 : decode cX7_copyFrom 85 = .ok (.getfield 27, 3) := by decide +kernel
theorem dX7_copyFrom_88 : decode cX7_copyFrom 88 = .ok (.iload_n 2, 1) := by decide +kernel
theorem dX7_copyFrom_89 : decode cX7_copyFrom 89 = .ok (.aload_n 1, 1) := by decide +kernel
theorem dX7_copyFrom_90 : decode cX7_copyFrom 90 = .ok (.getfield 27, 3) := by decide +kernel
theorem dX7_copyFrom_93 : decode cX7_copyFrom 93 = .ok (.iload_n 2, 1) := by decide +kernel
theorem dX7_copyFrom_94 : decode cX7_copyFrom 94 = .ok (.iaload, 1) := by decide +kernel
theorem dX7_copyFrom_95 : decode cX7_copyFrom 95 = .ok (.iastore, 1) := by decide +kernel
theorem dX7_copyFrom_96 : decode cX7_copyFrom 96 = .ok (.aload_n 0, 1) := by decide +kernel
theorem dX7_copyFrom_97 : decode cX7_copyFrom 97 = .ok (.getfield 30, 3) := by decide +kernel
theorem dX7_copyFrom_100 : decode cX7_copyFrom 100 = .ok (.iload_n 2, 1) := by decide +kernel
theorem dX7_copyFrom_101 : decode cX7_copyFrom 101 = .ok (.aload_n 1, 1) := by decide +kernel
theorem dX7_copyFrom_102 : decode cX7_copyFrom 102 = .ok (.getfield 30, 3) := by decide +kernel
theorem dX7_copyFrom_105 : decode cX7_copyFrom 105 = .ok (.iload_n 2, 1) := by decide +kernel
theorem dX7_copyFrom_106 : decode cX7_copyFrom 106 = .ok (.baload, 1) := by decide +kernel
theorem dX7_copyFrom_107 : decode cX7_copyFrom 107 = .ok (.bastore, 1) := by decide +kernel
theorem dX7_copyFrom_108 : decode cX7_copyFrom 108 = .ok (.iinc 2 1, 3) := by decide +kernel
theorem dX7_copyFrom_111 : decode cX7_copyFrom 111 = .ok (.goto (-47), 3) := by decide +kernel
theorem dX7_copyFrom_114 : decode cX7_copyFrom 114 = .ok (.aload_n 0, 1) := by decide +kernel
theorem dX7_copyFrom_115 : decode cX7_copyFrom 115 = .ok (.aload_n 1, 1) := by decide +kernel
theorem dX7_copyFrom_116 : decode cX7_copyFrom 116 = .ok (.getfield 36, 3) := by decide +kernel
theorem dX7_copyFrom_119 : decode cX7_copyFrom 119 = .ok (.putfield 36, 3) := by decide +kernel
theorem dX7_copyFrom_122 : decode cX7_copyFrom 122 = .ok (.aload_n 0, 1) := by decide +kernel
theorem dX7_copyFrom_123 : decode cX7_copyFrom 123 = .ok (.aload_n 1, 1) := by decide +kernel
theorem dX7_copyFrom_124 : decode cX7_copyFrom 124 = .ok (.getfield 40, 3) := by decide +kernel
theorem dX7_copyFrom_127 : decode cX7_copyFrom 127 = .ok (.putfield 40, 3) := by decide +kernel
theorem dX7_copyFrom_130 : decode cX7_copyFrom 130 = .ok (.aload_n 0, 1) := by decide +kernel
theorem dX7_copyFrom_131 : decode cX7_copyFrom 131 = .ok (.aload_n 1, 1) := by decide +kernel
theorem dX7_copyFrom_132 : decode cX7_copyFrom 132 = .ok (.getfield 43, 3) := by decide +kernel
theorem dX7_copyFrom_135 : decode cX7_copyFrom 135 = .ok (.putfield 43, 3) := by decide +kernel
theorem dX7_copyFrom_138 : decode cX7_copyFrom 138 = .ok (.return_, 1) := by decide +kernel
theorem dX7_rowAt_0 : decode cX7_rowAt 0 = .ok (.iload_n 1, 1) := by decide +kernel
theorem dX7_rowAt_1 : decode cX7_rowAt 1 = .ok (.ifCond .lt 20, 3) := by decide +kernel
theorem dX7_rowAt_4 : decode cX7_rowAt 4 = .ok (.iload_n 1, 1) := by decide +kernel
theorem dX7_rowAt_5 : decode cX7_rowAt 5 = .ok (.aload_n 0, 1) := by decide +kernel
theorem dX7_rowAt_6 : decode cX7_rowAt 6 = .ok (.getfield 36, 3) := by decide +kernel
theorem dX7_rowAt_9 : decode cX7_rowAt 9 = .ok (.if_icmp .ge 12, 3) := by decide +kernel
theorem dX7_rowAt_12 : decode cX7_rowAt 12 = .ok (.aload_n 0, 1) := by decide +kernel
theorem dX7_rowAt_13 : decode cX7_rowAt 13 = .ok (.getfield 11, 3) := by decide +kernel
theorem dX7_rowAt_16 : decode cX7_rowAt 16 = .ok (.iload_n 1, 1) := by decide +kernel
theorem dX7_rowAt_17 : decode cX7_rowAt 17 = .ok (.aaload, 1) := by decide +kernel
theorem dX7_rowAt_18 : decode cX7_rowAt 18 = .ok (.goto 4, 3) := by decide +kernel
theorem dX7_rowAt_21 : decode cX7_rowAt 21 = .ok (.aconst_null, 1) := by decide +kernel
theorem dX7_rowAt_22 : decode cX7_rowAt 22 = .ok (.areturn, 1) := by decide +kernel
theorem dX7_braidAt_0 : decode cX7_braidAt 0 = .ok (.iload_n 1, 1) := by decide +kernel
theorem dX7_braidAt_1 : decode cX7_braidAt 1 = .ok (.ifCond .lt 20, 3) := by decide +kernel
theorem dX7_braidAt_4 : decode cX7_braidAt 4 = .ok (.iload_n 1, 1) := by decide +kernel
theorem dX7_braidAt_5 : decode cX7_braidAt 5 = .ok (.aload_n 0, 1) := by decide +kernel
theorem dX7_braidAt_6 : decode cX7_braidAt 6 = .ok (.getfield 40, 3) := by decide +kernel
theorem dX7_braidAt_9 : decode cX7_braidAt 9 = .ok (.if_icmp .ge 12, 3) := by decide +kernel
theorem dX7_braidAt_12 : decode cX7_braidAt 12 = .ok (.aload_n 0, 1) := by decide +kernel
theorem dX7_braidAt_13 : decode cX7_braidAt 13 = .ok (.getfield 19, 3) := by decide +kernel
theorem dX7_braidAt_16 : decode cX7_braidAt 16 = .ok (.iload_n 1, 1) := by decide +kernel
theorem dX7_braidAt_17 : decode cX7_braidAt 17 = .ok (.aaload, 1) := by decide +kernel
theorem dX7_braidAt_18 : decode cX7_braidAt 18 = .ok (.goto 4, 3) := by decide +kernel
theorem dX7_braidAt_21 : decode cX7_braidAt 21 = .ok (.aconst_null, 1) := by decide +kernel
theorem dX7_braidAt_22 : decode cX7_braidAt 22 = .ok (.areturn, 1) := by decide +kernel
theorem dX7_rowNamed_0 : decode cX7_rowNamed 0 = .ok (.iconst 0, 1) := by decide +kernel
theorem dX7_rowNamed_1 : decode cX7_rowNamed 1 = .ok (.istore_n 3, 1) := by decide +kernel
theorem dX7_rowNamed_2 : decode cX7_rowNamed 2 = .ok (.iload_n 3, 1) := by decide +kernel
theorem dX7_rowNamed_3 : decode cX7_rowNamed 3 = .ok (.aload_n 0, 1) := by decide +kernel
theorem dX7_rowNamed_4 : decode cX7_rowNamed 4 = .ok (.getfield 36, 3) := by decide +kernel
theorem dX7_rowNamed_7 : decode cX7_rowNamed 7 = .ok (.if_icmp .ge 25, 3) := by decide +kernel
theorem dX7_rowNamed_10 : decode cX7_rowNamed 10 = .ok (.aload_n 0, 1) := by decide +kernel
theorem dX7_rowNamed_11 : decode cX7_rowNamed 11 = .ok (.getfield 11, 3) := by decide +kernel
theorem dX7_rowNamed_14 : decode cX7_rowNamed 14 = .ok (.iload_n 3, 1) := by decide +kernel
theorem dX7_rowNamed_15 : decode cX7_rowNamed 15 = .ok (.aaload, 1) := by decide +kernel
theorem dX7_rowNamed_16 : decode cX7_rowNamed 16 = .ok (.getfield 53, 3) := by decide +kernel
theorem dX7_rowNamed_19 : decode cX7_rowNamed 19 = .ok (.lload_n 1, 1) := by decide +kernel
theorem dX7_rowNamed_20 : decode cX7_rowNamed 20 = .ok (.lcmp, 1) := by decide +kernel
theorem dX7_rowNamed_21 : decode cX7_rowNamed 21 = .ok (.ifCond .ne 5, 3) := by decide +kernel
theorem dX7_rowNamed_24 : decode cX7_rowNamed 24 = .ok (.iload_n 3, 1) := by decide +kernel
theorem dX7_rowNamed_25 : decode cX7_rowNamed 25 = .ok (.ireturn, 1) := by decide +kernel
theorem dX7_rowNamed_26 : decode cX7_rowNamed 26 = .ok (.iinc 3 1, 3) := by decide +kernel
theorem dX7_rowNamed_29 : decode cX7_rowNamed 29 = .ok (.goto (-27), 3) := by decide +kernel
theorem dX7_rowNamed_32 : decode cX7_rowNamed 32 = .ok (.iconst (-1), 1) := by decide +kernel
theorem dX7_rowNamed_33 : decode cX7_rowNamed 33 = .ok (.ireturn, 1) := by decide +kernel
theorem dX7_braidNamed_0 : decode cX7_braidNamed 0 = .ok (.iconst 0, 1) := by decide +kernel
theorem dX7_braidNamed_1 : decode cX7_braidNamed 1 = .ok (.istore_n 3, 1) := by decide +kernel
theorem dX7_braidNamed_2 : decode cX7_braidNamed 2 = .ok (.iload_n 3, 1) := by decide +kernel
theorem dX7_braidNamed_3 : decode cX7_braidNamed 3 = .ok (.aload_n 0, 1) := by decide +kernel
theorem dX7_braidNamed_4 : decode cX7_braidNamed 4 = .ok (.getfield 40, 3) := by decide +kernel
theorem dX7_braidNamed_7 : decode cX7_braidNamed 7 = .ok (.if_icmp .ge 25, 3) := by decide +kernel
theorem dX7_braidNamed_10 : decode cX7_braidNamed 10 = .ok (.aload_n 0, 1) := by decide +kernel
theorem dX7_braidNamed_11 : decode cX7_braidNamed 11 = .ok (.getfield 19, 3) := by decide +kernel
theorem dX7_braidNamed_14 : decode cX7_braidNamed 14 = .ok (.iload_n 3, 1) := by decide +kernel
theorem dX7_braidNamed_15 : decode cX7_braidNamed 15 = .ok (.aaload, 1) := by decide +kernel
theorem dX7_braidNamed_16 : decode cX7_braidNamed 16 = .ok (.getfield 57, 3) := by decide +kernel
theorem dX7_braidNamed_19 : decode cX7_braidNamed 19 = .ok (.lload_n 1, 1) := by decide +kernel
theorem dX7_braidNamed_20 : decode cX7_braidNamed 20 = .ok (.lcmp, 1) := by decide +kernel
theorem dX7_braidNamed_21 : decode cX7_braidNamed 21 = .ok (.ifCond .ne 5, 3) := by decide +kernel
theorem dX7_braidNamed_24 : decode cX7_braidNamed 24 = .ok (.iload_n 3, 1) := by decide +kernel
theorem dX7_braidNamed_25 : decode cX7_braidNamed 25 = .ok (.ireturn, 1) := by decide +kernel
theorem dX7_braidNamed_26 : decode cX7_braidNamed 26 = .ok (.iinc 3 1, 3) := by decide +kernel
theorem dX7_braidNamed_29 : decode cX7_braidNamed 29 = .ok (.goto (-27), 3) := by decide +kernel
theorem dX7_braidNamed_32 : decode cX7_braidNamed 32 = .ok (.iconst (-1), 1) := by decide +kernel
theorem dX7_braidNamed_33 : decode cX7_braidNamed 33 = .ok (.ireturn, 1) := by decide +kernel
theorem dX7_allNumbers_0 : decode cX7_allNumbers 0 = .ok (.iconst 0, 1) := by decide +kernel
theorem dX7_allNumbers_1 : decode cX7_allNumbers 1 = .ok (.istore_n 1, 1) := by decide +kernel
theorem dX7_allNumbers_2 : decode cX7_allNumbers 2 = .ok (.iconst 0, 1) := by decide +kernel
theorem dX7_allNumbers_3 : decode cX7_allNumbers 3 = .ok (.istore_n 2, 1) := by decide +kernel
theorem dX7_allNumbers_4 : decode cX7_allNumbers 4 = .ok (.iload_n 2, 1) := by decide +kernel
theorem dX7_allNumbers_5 : decode cX7_allNumbers 5 = .ok (.aload_n 0, 1) := by decide +kernel
theorem dX7_allNumbers_6 : decode cX7_allNumbers 6 = .ok (.getfield 36, 3) := by decide +kernel
theorem dX7_allNumbers_9 : decode cX7_allNumbers 9 = .ok (.if_icmp .ge 21, 3) := by decide +kernel
theorem dX7_allNumbers_12 : decode cX7_allNumbers 12 = .ok (.iload_n 1, 1) := by decide +kernel
theorem dX7_allNumbers_13 : decode cX7_allNumbers 13 = .ok (.aload_n 0, 1) := by decide +kernel
theorem dX7_allNumbers_14 : decode cX7_allNumbers 14 = .ok (.getfield 11, 3) := by decide +kernel
theorem dX7_allNumbers_17 : decode cX7_allNumbers 17 = .ok (.iload_n 2, 1) := by decide +kernel
theorem dX7_allNumbers_18 : decode cX7_allNumbers 18 = .ok (.aaload, 1) := by decide +kernel
theorem dX7_allNumbers_19 : decode cX7_allNumbers 19 = .ok (.getfield 58, 3) := by decide +kernel
theorem dX7_allNumbers_22 : decode cX7_allNumbers 22 = .ok (.iadd, 1) := by decide +kernel
theorem dX7_allNumbers_23 : decode cX7_allNumbers 23 = .ok (.istore_n 1, 1) := by decide +kernel
theorem dX7_allNumbers_24 : decode cX7_allNumbers 24 = .ok (.iinc 2 1, 3) := by decide +kernel
theorem dX7_allNumbers_27 : decode cX7_allNumbers 27 = .ok (.goto (-23), 3) := by decide +kernel
theorem dX7_allNumbers_30 : decode cX7_allNumbers 30 = .ok (.iload_n 1, 1) := by decide +kernel
theorem dX7_allNumbers_31 : decode cX7_allNumbers 31 = .ok (.ireturn, 1) := by decide +kernel
theorem dX7_grow_0 : decode cX7_grow 0 = .ok (.aload_n 0, 1) := by decide +kernel
theorem dX7_grow_1 : decode cX7_grow 1 = .ok (.iload_n 1, 1) := by decide +kernel
theorem dX7_grow_2 : decode cX7_grow 2 = .ok (.invokevirtual 61, 3) := by decide +kernel
theorem dX7_grow_5 : decode cX7_grow 5 = .ok (.astore_n 3, 1) := by decide +kernel
theorem dX7_grow_6 : decode cX7_grow 6 = .ok (.aload_n 3, 1) := by decide +kernel
theorem dX7_grow_7 : decode cX7_grow 7 = .ok (.ifnull 21, 3) := by decide +kernel
theorem dX7_grow_10 : decode cX7_grow 10 = .ok (.iload_n 2, 1) := by decide +kernel
theorem dX7_grow_11 : decode cX7_grow 11 = .ok (.ifCond .lt 17, 3) := by decide +kernel
theorem dX7_grow_14 : decode cX7_grow 14 = .ok (.iload_n 2, 1) := by decide +kernel
theorem dX7_grow_15 : decode cX7_grow 15 = .ok (.bipush 99, 2) := by decide +kernel
theorem dX7_grow_17 : decode cX7_grow 17 = .ok (.if_icmp .gt 11, 3) := by decide +kernel
theorem dX7_grow_20 : decode cX7_grow 20 = .ok (.aload_n 3, 1) := by decide +kernel
theorem dX7_grow_21 : decode cX7_grow 21 = .ok (.iload_n 2, 1) := by decide +kernel
theorem dX7_grow_22 : decode cX7_grow 22 = .ok (.invokevirtual 65, 3) := by decide +kernel
theorem dX7_grow_25 : decode cX7_grow 25 = .ok (.ifCond .ne 5, 3) := by decide +kernel
theorem dX7_grow_28 : decode cX7_grow 28 = .ok (.iconst (-1), 1) := by decide +kernel
theorem dX7_grow_29 : decode cX7_grow 29 = .ok (.ireturn, 1) := by decide +kernel
theorem dX7_grow_30 : decode cX7_grow 30 = .ok (.aload_n 3, 1) := by decide +kernel
theorem dX7_grow_31 : decode cX7_grow 31 = .ok (.getfield 58, 3) := by decide +kernel
theorem dX7_grow_34 : decode cX7_grow 34 = .ok (.ireturn, 1) := by decide +kernel
theorem dX7_shrink_0 : decode cX7_shrink 0 = .ok (.aload_n 0, 1) := by decide +kernel
theorem dX7_shrink_1 : decode cX7_shrink 1 = .ok (.iload_n 1, 1) := by decide +kernel
theorem dX7_shrink_2 : decode cX7_shrink 2 = .ok (.invokevirtual 61, 3) := by decide +kernel
theorem dX7_shrink_5 : decode cX7_shrink 5 = .ok (.astore_n 2, 1) := by decide +kernel
theorem dX7_shrink_6 : decode cX7_shrink 6 = .ok (.aload_n 2, 1) := by decide +kernel
theorem dX7_shrink_7 : decode cX7_shrink 7 = .ok (.ifnull 11, 3) := by decide +kernel
theorem dX7_shrink_10 : decode cX7_shrink 10 = .ok (.aload_n 2, 1) := by decide +kernel
theorem dX7_shrink_11 : decode cX7_shrink 11 = .ok (.getfield 58, 3) := by decide +kernel
theorem dX7_shrink_14 : decode cX7_shrink 14 = .ok (.iconst 2, 1) := by decide +kernel
theorem dX7_shrink_15 : decode cX7_shrink 15 = .ok (.if_icmp .ge 5, 3) := by decide +kernel
theorem dX7_shrink_18 : decode cX7_shrink 18 = .ok (.iconst (-1), 1) := by decide +kernel
theorem dX7_shrink_19 : decode cX7_shrink 19 = .ok (.ireturn, 1) := by decide +kernel
theorem dX7_shrink_20 : decode cX7_shrink 20 = .ok (.aload_n 2, 1) := by decide +kernel
theorem dX7_shrink_21 : decode cX7_shrink 21 = .ok (.dup, 1) := by decide +kernel
theorem dX7_shrink_22 : decode cX7_shrink 22 = .ok (.getfield 58, 3) := by decide +kernel
theorem dX7_shrink_25 : decode cX7_shrink 25 = .ok (.iconst 1, 1) := by decide +kernel
theorem dX7_shrink_26 : decode cX7_shrink 26 = .ok (.isub, 1) := by decide +kernel
theorem dX7_shrink_27 : decode cX7_shrink 27 = .ok (.putfield 58, 3) := by decide +kernel
theorem dX7_shrink_30 : decode cX7_shrink 30 = .ok (.aload_n 2, 1) := by decide +kernel
theorem dX7_shrink_31 : decode cX7_shrink 31 = .ok (.getfield 69, 3) := by decide +kernel
theorem dX7_shrink_34 : decode cX7_shrink 34 = .ok (.aload_n 2, 1) := by decide +kernel
theorem dX7_shrink_35 : decode cX7_shrink 35 = .ok (.getfield 58, 3) := by decide +kernel
theorem dX7_shrink_38 : decode cX7_shrink 38 = .ok (.iaload, 1) := by decide +kernel
theorem dX7_shrink_39 : decode cX7_shrink 39 = .ok (.ireturn, 1) := by decide +kernel
theorem dX7_reverse_0 : decode cX7_reverse 0 = .ok (.aload_n 0, 1) := by decide +kernel
theorem dX7_reverse_1 : decode cX7_reverse 1 = .ok (.iload_n 1, 1) := by decide +kernel
theorem dX7_reverse_2 : decode cX7_reverse 2 = .ok (.invokevirtual 61, 3) := by decide +kernel
theorem dX7_reverse_5 : decode cX7_reverse 5 = .ok (.astore_n 2, 1) := by decide +kernel
theorem dX7_reverse_6 : decode cX7_reverse 6 = .ok (.aload_n 2, 1) := by decide +kernel
theorem dX7_reverse_7 : decode cX7_reverse 7 = .ok (.ifnonnull 5, 3) := by decide +kernel
theorem dX7_reverse_10 : decode cX7_reverse 10 = .ok (.iconst 0, 1) := by decide +kernel
theorem dX7_reverse_11 : decode cX7_reverse 11 = .ok (.ireturn, 1) := by decide +kernel
theorem dX7_reverse_12 : decode cX7_reverse 12 = .ok (.aload_n 2, 1) := by decide +kernel
theorem dX7_reverse_13 : decode cX7_reverse 13 = .ok (.invokevirtual 72, 3) := by decide +kernel
theorem dX7_reverse_16 : decode cX7_reverse 16 = .ok (.iconst 1, 1) := by decide +kernel
theorem dX7_reverse_17 : decode cX7_reverse 17 = .ok (.ireturn, 1) := by decide +kernel
theorem dX7_crossOver_0 : decode cX7_crossOver 0 = .ok (.aload_n 0, 1) := by decide +kernel
theorem dX7_crossOver_1 : decode cX7_crossOver 1 = .ok (.iload_n 1, 1) := by decide +kernel
theorem dX7_crossOver_2 : decode cX7_crossOver 2 = .ok (.invokevirtual 75, 3) := by decide +kernel
theorem dX7_crossOver_5 : decode cX7_crossOver 5 = .ok (.astore_n 3, 1) := by decide +kernel
theorem dX7_crossOver_6 : decode cX7_crossOver 6 = .ok (.aload_n 3, 1) := by decide +kernel
theorem dX7_crossOver_7 : decode cX7_crossOver 7 = .ok (.ifnull 25, 3) := by decide +kernel
theorem dX7_crossOver_10 : decode cX7_crossOver 10 = .ok (.iload_n 2, 1) := by decide +kernel
theorem dX7_crossOver_11 : decode cX7_crossOver 11 = .ok (.ifCond .lt 21, 3) := by decide +kernel
theorem dX7_crossOver_14 : decode cX7_crossOver 14 = .ok (.iload_n 2, 1) := by decide +kernel
theorem dX7_crossOver_15 : decode cX7_crossOver 15 = .ok (.bipush 10, 2) := by decide +kernel
theorem dX7_crossOver_17 : decode cX7_crossOver 17 = .ok (.if_icmp .ge 15, 3) := by decide +kernel
theorem dX7_crossOver_20 : decode cX7_crossOver 20 = .ok (.aload_n 3, 1) := by decide +kernel
theorem dX7_crossOver_21 : decode cX7_crossOver 21 = .ok (.iload_n 2, 1) := by decide +kernel
theorem dX7_crossOver_22 : decode cX7_crossOver 22 = .ok (.invokevirtual 79, 3) := by decide +kernel
theorem dX7_crossOver_25 : decode cX7_crossOver 25 = .ok (.ifCond .eq 7, 3) := by decide +kernel
theorem dX7_crossOver_28 : decode cX7_crossOver 28 = .ok (.iconst 1, 1) := by decide +kernel
theorem dX7_crossOver_29 : decode cX7_crossOver 29 = .ok (.goto 4, 3) := by decide +kernel
theorem dX7_crossOver_32 : decode cX7_crossOver 32 = .ok (.iconst 0, 1) := by decide +kernel
theorem dX7_crossOver_33 : decode cX7_crossOver 33 = .ok (.ireturn, 1) := by decide +kernel
theorem dX7_crossBack_0 : decode cX7_crossBack 0 = .ok (.aload_n 0, 1) := by decide +kernel
theorem dX7_crossBack_1 : decode cX7_crossBack 1 = .ok (.iload_n 1, 1) := by decide +kernel
theorem dX7_crossBack_2 : decode cX7_crossBack 2 = .ok (.invokevirtual 75, 3) := by decide +kernel
theorem dX7_crossBack_5 : decode cX7_crossBack 5 = .ok (.astore_n 3, 1) := by decide +kernel
theorem dX7_crossBack_6 : decode cX7_crossBack 6 = .ok (.aload_n 3, 1) := by decide +kernel
theorem dX7_crossBack_7 : decode cX7_crossBack 7 = .ok (.ifnull 9, 3) := by decide +kernel
theorem dX7_crossBack_10 : decode cX7_crossBack 10 = .ok (.aload_n 3, 1) := by decide +kernel
theorem dX7_crossBack_11 : decode cX7_crossBack 11 = .ok (.iload_n 2, 1) := by decide +kernel
theorem dX7_crossBack_12 : decode cX7_crossBack 12 = .ok (.invokevirtual 82, 3) := by decide +kernel
theorem dX7_crossBack_15 : decode cX7_crossBack 15 = .ok (.pop, 1) := by decide +kernel
theorem dX7_crossBack_16 : decode cX7_crossBack 16 = .ok (.return_, 1) := by decide +kernel
theorem dX7_combine_0 : decode cX7_combine 0 = .ok (.aload_n 0, 1) := by decide +kernel
theorem dX7_combine_1 : decode cX7_combine 1 = .ok (.iload_n 1, 1) := by decide +kernel
theorem dX7_combine_2 : decode cX7_combine 2 = .ok (.invokevirtual 75, 3) := by decide +kernel
theorem dX7_combine_5 : decode cX7_combine 5 = .ok (.astore 4, 2) := by decide +kernel
theorem dX7_combine_7 : decode cX7_combine 7 = .ok (.aload_n 0, 1) := by decide +kernel
theorem dX7_combine_8 : decode cX7_combine 8 = .ok (.iload_n 2, 1) := by decide +kernel
theorem dX7_combine_9 : decode cX7_combine 9 = .ok (.invokevirtual 75, 3) := by decide +kernel
theorem dX7_combine_12 : decode cX7_combine 12 = .ok (.astore 5, 2) := by decide +kernel
theorem dX7_combine_14 : decode cX7_combine 14 = .ok (.aload 4, 2) := by decide +kernel
theorem dX7_combine_16 : decode cX7_combine 16 = .ok (.aload 5, 2) := by decide +kernel
theorem dX7_combine_18 : decode cX7_combine 18 = .ok (.invokestatic 85, 3) := by decide +kernel
theorem dX7_combine_21 : decode cX7_combine 21 = .ok (.ifCond .eq 12, 3) := by decide +kernel
theorem dX7_combine_24 : decode cX7_combine 24 = .ok (.aload_n 0, 1) := by decide +kernel
theorem dX7_combine_25 : decode cX7_combine 25 = .ok (.getfield 40, 3) := by decide +kernel
theorem dX7_combine_28 : decode cX7_combine 28 = .ok (.bipush 8, 2) := by decide +kernel
theorem dX7_combine_30 : decode cX7_combine 30 = .ok (.if_icmp .lt 5, 3) := by decide +kernel
theorem dX7_combine_33 : decode cX7_combine 33 = .ok (.iconst (-1), 1) := by decide +kernel
theorem dX7_combine_34 : decode cX7_combine 34 = .ok (.ireturn, 1) := by decide +kernel
theorem dX7_combine_35 : decode cX7_combine 35 = .ok (.aload_n 0, 1) := by decide +kernel
theorem dX7_combine_36 : decode cX7_combine 36 = .ok (.getfield 19, 3) := by decide +kernel
theorem dX7_combine_39 : decode cX7_combine 39 = .ok (.aload_n 0, 1) := by decide +kernel
theorem dX7_combine_40 : decode cX7_combine 40 = .ok (.getfield 40, 3) := by decide +kernel
theorem dX7_combine_43 : decode cX7_combine 43 = .ok (.aaload, 1) := by decide +kernel
theorem dX7_combine_44 : decode cX7_combine 44 = .ok (.astore 6, 2) := by decide +kernel
theorem dX7_combine_46 : decode cX7_combine 46 = .ok (.aload_n 3, 1) := by decide +kernel
theorem dX7_combine_47 : decode cX7_combine 47 = .ok (.aload 4, 2) := by decide +kernel
theorem dX7_combine_49 : decode cX7_combine 49 = .ok (.aload 5, 2) := by decide +kernel
theorem dX7_combine_51 : decode cX7_combine 51 = .ok (.aload 6, 2) := by decide +kernel
theorem dX7_combine_53 : decode cX7_combine 53 = .ok (.invokevirtual 89, 3) := by decide +kernel
theorem dX7_combine_56 : decode cX7_combine 56 = .ok (.aload_n 0, 1) := by decide +kernel
theorem dX7_combine_57 : decode cX7_combine 57 = .ok (.dup, 1) := by decide +kernel
theorem dX7_combine_58 : decode cX7_combine 58 = .ok (.getfield 40, 3) := by decide +kernel
theorem dX7_combine_61 : decode cX7_combine 61 = .ok (.iconst 1, 1) := by decide +kernel
theorem dX7_combine_62 : decode cX7_combine 62 = .ok (.iadd, 1) := by decide +kernel
theorem dX7_combine_63 : decode cX7_combine 63 = .ok (.putfield 40, 3) := by decide +kernel
theorem dX7_combine_66 : decode cX7_combine 66 = .ok (.aload_n 0, 1) := by decide +kernel
theorem dX7_combine_67 : decode cX7_combine 67 = .ok (.getfield 40, 3) := by decide +kernel
theorem dX7_combine_70 : decode cX7_combine 70 = .ok (.iconst 1, 1) := by decide +kernel
theorem dX7_combine_71 : decode cX7_combine 71 = .ok (.isub, 1) := by decide +kernel
theorem dX7_combine_72 : decode cX7_combine 72 = .ok (.ireturn, 1) := by decide +kernel
theorem dX7_dropBraid_0 : decode cX7_dropBraid 0 = .ok (.aload_n 0, 1) := by decide +kernel
theorem dX7_dropBraid_1 : decode cX7_dropBraid 1 = .ok (.getfield 40, 3) := by decide +kernel
theorem dX7_dropBraid_4 : decode cX7_dropBraid 4 = .ok (.ifCond .le 13, 3) := by decide +kernel
theorem dX7_dropBraid_7 : decode cX7_dropBraid 7 = .ok (.aload_n 0, 1) := by decide +kernel
theorem dX7_dropBraid_8 : decode cX7_dropBraid 8 = .ok (.dup, 1) := by decide +kernel
theorem dX7_dropBraid_9 : decode cX7_dropBraid 9 = .ok (.getfield 40, 3) := by decide +kernel
theorem dX7_dropBraid_12 : decode cX7_dropBraid 12 = .ok (.iconst 1, 1) := by decide +kernel
theorem dX7_dropBraid_13 : decode cX7_dropBraid 13 = .ok (.isub, 1) := by decide +kernel
theorem dX7_dropBraid_14 : decode cX7_dropBraid 14 = .ok (.putfield 40, 3) := by decide +kernel
theorem dX7_dropBraid_17 : decode cX7_dropBraid 17 = .ok (.return_, 1) := by decide +kernel
theorem dX7_addSeen_0 : decode cX7_addSeen 0 = .ok (.aload_n 0, 1) := by decide +kernel
theorem dX7_addSeen_1 : decode cX7_addSeen 1 = .ok (.getfield 43, 3) := by decide +kernel
theorem dX7_addSeen_4 : decode cX7_addSeen 4 = .ok (.bipush 8, 2) := by decide +kernel
theorem dX7_addSeen_6 : decode cX7_addSeen 6 = .ok (.if_icmp .lt 5, 3) := by decide +kernel
theorem dX7_addSeen_9 : decode cX7_addSeen 9 = .ok (.iconst 0, 1) := by decide +kernel
theorem dX7_addSeen_10 : decode cX7_addSeen 10 = .ok (.ireturn, 1) := by decide +kernel
theorem dX7_addSeen_11 : decode cX7_addSeen 11 = .ok (.aload_n 0, 1) := by decide +kernel
theorem dX7_addSeen_12 : decode cX7_addSeen 12 = .ok (.getfield 23, 3) := by decide +kernel
theorem dX7_addSeen_15 : decode cX7_addSeen 15 = .ok (.aload_n 0, 1) := by decide +kernel
theorem dX7_addSeen_16 : decode cX7_addSeen 16 = .ok (.getfield 43, 3) := by decide +kernel
theorem dX7_addSeen_19 : decode cX7_addSeen 19 = .ok (.iload_n 1, 1) := by decide +kernel
theorem dX7_addSeen_20 : decode cX7_addSeen 20 = .ok (.iastore, 1) := by decide +kernel
theorem dX7_addSeen_21 : decode cX7_addSeen 21 = .ok (.aload_n 0, 1) := by decide +kernel
theorem dX7_addSeen_22 : decode cX7_addSeen 22 = .ok (.getfield 27, 3) := by decide +kernel
theorem dX7_addSeen_25 : decode cX7_addSeen 25 = .ok (.aload_n 0, 1) := by decide +kernel
theorem dX7_addSeen_26 : decode cX7_addSeen 26 = .ok (.getfield 43, 3) := by decide +kernel
theorem dX7_addSeen_29 : decode cX7_addSeen 29 = .ok (.iload_n 2, 1) := by decide +kernel
theorem dX7_addSeen_30 : decode cX7_addSeen 30 = .ok (.iastore, 1) := by decide +kernel
theorem dX7_addSeen_31 : decode cX7_addSeen 31 = .ok (.aload_n 0, 1) := by decide +kernel
theorem dX7_addSeen_32 : decode cX7_addSeen 32 = .ok (.getfield 30, 3) := by decide +kernel
theorem dX7_addSeen_35 : decode cX7_addSeen 35 = .ok (.aload_n 0, 1) := by decide +kernel
theorem dX7_addSeen_36 : decode cX7_addSeen 36 = .ok (.getfield 43, 3) := by decide +kernel
theorem dX7_addSeen_39 : decode cX7_addSeen 39 = .ok (.iload_n 3, 1) := by decide +kernel
theorem dX7_addSeen_40 : decode cX7_addSeen 40 = .ok (.bastore, 1) := by decide +kernel
theorem dX7_addSeen_41 : decode cX7_addSeen 41 = .ok (.aload_n 0, 1) := by decide +kernel
theorem dX7_addSeen_42 : decode cX7_addSeen 42 = .ok (.dup, 1) := by decide +kernel
theorem dX7_addSeen_43 : decode cX7_addSeen 43 = .ok (.getfield 43, 3) := by decide +kernel
theorem dX7_addSeen_46 : decode cX7_addSeen 46 = .ok (.iconst 1, 1) := by decide +kernel
theorem dX7_addSeen_47 : decode cX7_addSeen 47 = .ok (.iadd, 1) := by decide +kernel
theorem dX7_addSeen_48 : decode cX7_addSeen 48 = .ok (.putfield 43, 3) := by decide +kernel
theorem dX7_addSeen_51 : decode cX7_addSeen 51 = .ok (.iconst 1, 1) := by decide +kernel
theorem dX7_addSeen_52 : decode cX7_addSeen 52 = .ok (.ireturn, 1) := by decide +kernel
theorem dX7_agrees_0 : decode cX7_agrees 0 = .ok (.iconst 0, 1) := by decide +kernel
theorem dX7_agrees_1 : decode cX7_agrees 1 = .ok (.istore_n 3, 1) := by decide +kernel
theorem dX7_agrees_2 : decode cX7_agrees 2 = .ok (.iload_n 3, 1) := by decide +kernel
theorem dX7_agrees_3 : decode cX7_agrees 3 = .ok (.aload_n 0, 1) := by decide +kernel
theorem dX7_agrees_4 : decode cX7_agrees 4 = .ok (.getfield 43, 3) := by decide +kernel
theorem dX7_agrees_7 : decode cX7_agrees 7 = .ok (.if_icmp .ge 45, 3) := by decide +kernel
theorem dX7_agrees_10 : decode cX7_agrees 10 = .ok (.aload_n 0, 1) := by decide +kernel
theorem dX7_agrees_11 : decode cX7_agrees 11 = .ok (.getfield 23, 3) := by decide +kernel
theorem dX7_agrees_14 : decode cX7_agrees 14 = .ok (.iload_n 3, 1) := by decide +kernel
theorem dX7_agrees_15 : decode cX7_agrees 15 = .ok (.iaload, 1) := by decide +kernel
theorem dX7_agrees_16 : decode cX7_agrees 16 = .ok (.iload_n 1, 1) := by decide +kernel
theorem dX7_agrees_17 : decode cX7_agrees 17 = .ok (.if_icmp .ne 29, 3) := by decide +kernel
theorem dX7_agrees_20 : decode cX7_agrees 20 = .ok (.aload_n 0, 1) := by decide +kernel
theorem dX7_agrees_21 : decode cX7_agrees 21 = .ok (.getfield 30, 3) := by decide +kernel
theorem dX7_agrees_24 : decode cX7_agrees 24 = .ok (.iload_n 3, 1) := by decide +kernel
theorem dX7_agrees_25 : decode cX7_agrees 25 = .ok (.baload, 1) := by decide +kernel
theorem dX7_agrees_26 : decode cX7_agrees 26 = .ok (.iload_n 2, 1) := by decide +kernel
theorem dX7_agrees_27 : decode cX7_agrees 27 = .ok (.aload_n 0, 1) := by decide +kernel
theorem dX7_agrees_28 : decode cX7_agrees 28 = .ok (.getfield 27, 3) := by decide +kernel
theorem dX7_agrees_31 : decode cX7_agrees 31 = .ok (.iload_n 3, 1) := by decide +kernel
theorem dX7_agrees_32 : decode cX7_agrees 32 = .ok (.iaload, 1) := by decide +kernel
theorem dX7_agrees_33 : decode cX7_agrees 33 = .ok (.if_icmp .lt 7, 3) := by decide +kernel
theorem dX7_agrees_36 : decode cX7_agrees 36 = .ok (.iconst 1, 1) := by decide +kernel
theorem dX7_agrees_37 : decode cX7_agrees 37 = .ok (.goto 4, 3) := by decide +kernel
theorem dX7_agrees_40 : decode cX7_agrees 40 = .ok (.iconst 0, 1) := by decide +kernel
theorem dX7_agrees_41 : decode cX7_agrees 41 = .ok (.if_icmp .eq 5, 3) := by decide +kernel
theorem dX7_agrees_44 : decode cX7_agrees 44 = .ok (.iconst 0, 1) := by decide +kernel
theorem dX7_agrees_45 : decode cX7_agrees 45 = .ok (.ireturn, 1) := by decide +kernel
theorem dX7_agrees_46 : decode cX7_agrees 46 = .ok (.iinc 3 1, 3) := by decide +kernel
theorem dX7_agrees_49 : decode cX7_agrees 49 = .ok (.goto (-47), 3) := by decide +kernel
theorem dX7_agrees_52 : decode cX7_agrees 52 = .ok (.iconst 1, 1) := by decide +kernel
theorem dX7_agrees_53 : decode cX7_agrees 53 = .ok (.ireturn, 1) := by decide +kernel
theorem dX8_init_0 : decode cX8_init 0 = .ok (.aload_n 0, 1) := by decide +kernel
theorem dX8_init_1 : decode cX8_init 1 = .ok (.invokespecial 3, 3) := by decide +kernel
theorem dX8_init_4 : decode cX8_init 4 = .ok (.aload_n 0, 1) := by decide +kernel
theorem dX8_init_5 : decode cX8_init 5 = .ok (.bipush 20, 2) := by decide +kernel
theorem dX8_init_7 : decode cX8_init 7 = .ok (.bipush 20, 2) := by decide +kernel
theorem dX8_init_9 : decode cX8_init 9 = .ok (.multianewarray 9 2, 4) := by decide +kernel
theorem dX8_init_13 : decode cX8_init 13 = .ok (.putfield 11, 3) := by decide +kernel
theorem dX8_init_16 : decode cX8_init 16 = .ok (.aload_n 0, 1) := by decide +kernel
theorem dX8_init_17 : decode cX8_init 17 = .ok (.bipush 20, 2) := by decide +kernel
theorem dX8_init_19 : decode cX8_init 19 = .ok (.newarray .int, 2) := by decide +kernel
theorem dX8_init_21 : decode cX8_init 21 = .ok (.putfield 16, 3) := by decide +kernel
theorem dX8_init_24 : decode cX8_init 24 = .ok (.aload_n 0, 1) := by decide +kernel
theorem dX8_init_25 : decode cX8_init 25 = .ok (.bipush 20, 2) := by decide +kernel
theorem dX8_init_27 : decode cX8_init 27 = .ok (.newarray .int, 2) := by decide +kernel
theorem dX8_init_29 : decode cX8_init 29 = .ok (.putfield 20, 3) := by decide +kernel
theorem dX8_init_32 : decode cX8_init 32 = .ok (.return_, 1) := by decide +kernel
theorem dX8_pile_0 : decode cX8_pile 0 = .ok (.iconst 0, 1) := by decide +kernel
theorem dX8_pile_1 : decode cX8_pile 1 = .ok (.istore 5, 2) := by decide +kernel
theorem dX8_pile_3 : decode cX8_pile 3 = .ok (.iload_n 2, 1) := by decide +kernel
theorem dX8_pile_4 : decode cX8_pile 4 = .ok (.istore 6, 2) := by decide +kernel
theorem dX8_pile_6 : decode cX8_pile 6 = .ok (.iload 6, 2) := by decide +kernel
theorem dX8_pile_8 : decode cX8_pile 8 = .ok (.iload_n 3, 1) := by decide +kernel
theorem dX8_pile_9 : decode cX8_pile 9 = .ok (.if_icmp .ge 90, 3) := by decide +kernel
theorem dX8_pile_12 : decode cX8_pile 12 = .ok (.aload_n 1, 1) := by decide +kernel
theorem dX8_pile_13 : decode cX8_pile 13 = .ok (.getfield 23, 3) := by decide +kernel
theorem dX8_pile_16 : decode cX8_pile 16 = .ok (.iload 6, 2) := by decide +kernel
theorem dX8_pile_18 : decode cX8_pile 18 = .ok (.iaload, 1) := by decide +kernel
theorem dX8_pile_19 : decode cX8_pile 19 = .ok (.istore 7, 2) := by decide +kernel
theorem dX8_pile_21 : decode cX8_pile 21 = .ok (.iconst 0, 1) := by decide +kernel
theorem dX8_pile_22 : decode cX8_pile 22 = .ok (.istore 8, 2) := by decide +kernel
theorem dX8_pile_24 : decode cX8_pile 24 = .ok (.iload 8, 2) := by decide +kernel
theorem dX8_pile_26 : decode cX8_pile 26 = .ok (.iload 5, 2) := by decide +kernel
theorem dX8_pile_28 : decode cX8_pile 28 = .ok (.if_icmp .ge 25, 3) := by decide +kernel
theorem dX8_pile_31 : decode cX8_pile 31 = .ok (.aload_n 1, 1) := by decide +kernel
theorem dX8_pile_32 : decode cX8_pile 32 = .ok (.iload 7, 2) := by decide +kernel
theorem dX8_pile_34 : decode cX8_pile 34 = .ok (.aload_n 0, 1) := by decide +kernel
theorem dX8_pile_35 : decode cX8_pile 35 = .ok (.getfield 20, 3) := by decide +kernel
theorem dX8_pile_38 : decode cX8_pile 38 = .ok (.iload 8, 2) := by decide +kernel
theorem dX8_pile_40 : decode cX8_pile 40 = .ok (.iaload, 1) := by decide +kernel
theorem dX8_pile_41 : decode cX8_pile 41 = .ok (.invokevirtual 28, 3) := by decide +kernel
theorem dX8_pile_44 : decode cX8_pile 44 = .ok (.ifCond .eq 9, 3) := by decide +kernel
theorem dX8_pile_47 : decode cX8_pile 47 = .ok (.iinc 8 1, 3) := by decide +kernel
theorem dX8_pile_50 : decode cX8_pile 50 = .ok (.goto (-26), 3) := by decide +kernel
theorem dX8_pile_53 : decode cX8_pile 53 = .ok (.iload 6, 2) := by decide +kernel
theorem dX8_pile_55 : decode cX8_pile 55 = .ok (.iload 4, 2) := by decide +kernel
theorem dX8_pile_57 : decode cX8_pile 57 = .ok (.if_icmp .ne 6, 3) := by decide +kernel
theorem dX8_pile_60 : decode cX8_pile 60 = .ok (.iload 8, 2) := by decide +kernel
theorem dX8_pile_62 : decode cX8_pile 62 = .ok (.ireturn, 1) := by decide +kernel
theorem dX8_pile_63 : decode cX8_pile 63 = .ok (.iload 8, 2) := by decide +kernel
theorem dX8_pile_65 : decode cX8_pile 65 = .ok (.aload_n 0, 1) := by decide +kernel
theorem dX8_pile_66 : decode cX8_pile 66 = .ok (.getfield 20, 3) := by decide +kernel
theorem dX8_pile_69 : decode cX8_pile 69 = .ok (.arraylength, 1) := by decide +kernel
theorem dX8_pile_70 : decode cX8_pile 70 = .ok (.if_icmp .ge 23, 3) := by decide +kernel
theorem dX8_pile_73 : decode cX8_pile 73 = .ok (.aload_n 0, 1) := by decide +kernel
theorem dX8_pile_74 : decode cX8_pile 74 = .ok (.getfield 20, 3) := by decide +kernel
theorem dX8_pile_77 : decode cX8_pile 77 = .ok (.iload 8, 2) := by decide +kernel
theorem dX8_pile_79 : decode cX8_pile 79 = .ok (.iload 7, 2) := by decide +kernel
theorem dX8_pile_81 : decode cX8_pile 81 = .ok (.iastore, 1) := by decide +kernel
theorem dX8_pile_82 : decode cX8_pile 82 = .ok (.iload 5, 2) := by decide +kernel
theorem dX8_pile_84 : decode cX8_pile 84 = .ok (.iload 8, 2) := by decide +kernel
theorem dX8_pile_86 : decode cX8_pile 86 = .ok (.iconst 1, 1) := by decide +kernel
theorem dX8_pile_87 : decode cX8_pile 87 = .ok (.iadd, 1) := by decide +kernel
theorem dX8_pile_88 : decode cX8_pile 88 = .ok (.invokestatic 32, 3) := by decide +kernel
theorem dX8_pile_91 : decode cX8_pile 91 = .ok (.istore 5, 2) := by decide +kernel
theorem dX8_pile_93 : decode cX8_pile 93 = .ok (.iinc 6 1, 3) := by decide +kernel
theorem dX8_pile_96 : decode cX8_pile 96 = .ok (.goto (-90), 3) := by decide +kernel
theorem dX8_pile_99 : decode cX8_pile 99 = .ok (.iload 5, 2) := by decide +kernel
theorem dX8_pile_101 : decode cX8_pile 101 = .ok (.ireturn, 1) := by decide +kernel
theorem dX8_fill_0 : decode cX8_fill 0 = .ok (.iconst 0, 1) := by decide +kernel
theorem dX8_fill_1 : decode cX8_fill 1 = .ok (.istore 4, 2) := by decide +kernel
theorem dX8_fill_3 : decode cX8_fill 3 = .ok (.iload 4, 2) := by decide +kernel
theorem dX8_fill_5 : decode cX8_fill 5 = .ok (.aload_n 0, 1) := by decide +kernel
theorem dX8_fill_6 : decode cX8_fill 6 = .ok (.getfield 16, 3) := by decide +kernel
theorem dX8_fill_9 : decode cX8_fill 9 = .ok (.arraylength, 1) := by decide +kernel
theorem dX8_fill_10 : decode cX8_fill 10 = .ok (.if_icmp .ge 17, 3) := by decide +kernel
theorem dX8_fill_13 : decode cX8_fill 13 = .ok (.aload_n 0, 1) := by decide +kernel
theorem dX8_fill_14 : decode cX8_fill 14 = .ok (.getfield 16, 3) := by decide +kernel
theorem dX8_fill_17 : decode cX8_fill 17 = .ok (.iload 4, 2) := by decide +kernel
theorem dX8_fill_19 : decode cX8_fill 19 = .ok (.iconst 0, 1) := by decide +kernel
theorem dX8_fill_20 : decode cX8_fill 20 = .ok (.iastore, 1) := by decide +kernel
theorem dX8_fill_21 : decode cX8_fill 21 = .ok (.iinc 4 1, 3) := by decide +kernel
theorem dX8_fill_24 : decode cX8_fill 24 = .ok (.goto (-21), 3) := by decide +kernel
theorem dX8_fill_27 : decode cX8_fill 27 = .ok (.iload_n 2, 1) := by decide +kernel
theorem dX8_fill_28 : decode cX8_fill 28 = .ok (.istore 4, 2) := by decide +kernel
theorem dX8_fill_30 : decode cX8_fill 30 = .ok (.iload 4, 2) := by decide +kernel
theorem dX8_fill_32 : decode cX8_fill 32 = .ok (.iload_n 3, 1) := by decide +kernel
theorem dX8_fill_33 : decode cX8_fill 33 = .ok (.if_icmp .ge 21, 3) := by decide +kernel
theorem dX8_fill_36 : decode cX8_fill 36 = .ok (.aload_n 0, 1) := by decide +kernel
theorem dX8_fill_37 : decode cX8_fill 37 = .ok (.aload_n 1, 1) := by decide +kernel
theorem dX8_fill_38 : decode cX8_fill 38 = .ok (.aload_n 1, 1) := by decide +kernel
theorem dX8_fill_39 : decode cX8_fill 39 = .ok (.getfield 23, 3) := by decide +kernel
theorem dX8_fill_42 : decode cX8_fill 42 = .ok (.iload 4, 2) := by decide +kernel
theorem dX8_fill_44 : decode cX8_fill 44 = .ok (.iaload, 1) := by decide +kernel
theorem dX8_fill_45 : decode cX8_fill 45 = .ok (.invokevirtual 38, 3) := by decide +kernel
theorem dX8_fill_48 : decode cX8_fill 48 = .ok (.iinc 4 1, 3) := by decide +kernel
theorem dX8_fill_51 : decode cX8_fill 51 = .ok (.goto (-21), 3) := by decide +kernel
theorem dX8_fill_54 : decode cX8_fill 54 = .ok (.return_, 1) := by decide +kernel
theorem dX8_sizeOf_0 : decode cX8_sizeOf 0 = .ok (.iload_n 1, 1) := by decide +kernel
theorem dX8_sizeOf_1 : decode cX8_sizeOf 1 = .ok (.ifCond .lt 21, 3) := by decide +kernel
theorem dX8_sizeOf_4 : decode cX8_sizeOf 4 = .ok (.iload_n 1, 1) := by decide +kernel
theorem dX8_sizeOf_5 : decode cX8_sizeOf 5 = .ok (.aload_n 0, 1) := by decide +kernel
theorem dX8_sizeOf_6 : decode cX8_sizeOf 6 = .ok (.getfield 16, 3) := by decide +kernel
theorem dX8_sizeOf_9 : decode cX8_sizeOf 9 = .ok (.arraylength, 1) := by decide +kernel
theorem dX8_sizeOf_10 : decode cX8_sizeOf 10 = .ok (.if_icmp .ge 12, 3) := by decide +kernel
theorem dX8_sizeOf_13 : decode cX8_sizeOf 13 = .ok (.aload_n 0, 1) := by decide +kernel
theorem dX8_sizeOf_14 : decode cX8_sizeOf 14 = .ok (.getfield 16, 3) := by decide +kernel
theorem dX8_sizeOf_17 : decode cX8_sizeOf 17 = .ok (.iload_n 1, 1) := by decide +kernel
theorem dX8_sizeOf_18 : decode cX8_sizeOf 18 = .ok (.iaload, 1) := by decide +kernel
theorem dX8_sizeOf_19 : decode cX8_sizeOf 19 = .ok (.goto 4, 3) := by decide +kernel
theorem dX8_sizeOf_22 : decode cX8_sizeOf 22 = .ok (.iconst 0, 1) := by decide +kernel
theorem dX8_sizeOf_23 : decode cX8_sizeOf 23 = .ok (.ireturn, 1) := by decide +kernel
theorem dX8_insert_0 : decode cX8_insert 0 = .ok (.iload_n 2, 1) := by decide +kernel
theorem dX8_insert_1 : decode cX8_insert 1 = .ok (.istore_n 3, 1) := by decide +kernel
theorem dX8_insert_2 : decode cX8_insert 2 = .ok (.iconst 0, 1) := by decide +kernel
theorem dX8_insert_3 : decode cX8_insert 3 = .ok (.istore 4, 2) := by decide +kernel
theorem dX8_insert_5 : decode cX8_insert 5 = .ok (.iload 4, 2) := by decide +kernel
theorem dX8_insert_7 : decode cX8_insert 7 = .ok (.aload_n 0, 1) := by decide +kernel
theorem dX8_insert_8 : decode cX8_insert 8 = .ok (.getfield 16, 3) := by decide +kernel
theorem dX8_insert_11 : decode cX8_insert 11 = .ok (.arraylength, 1) := by decide +kernel
theorem dX8_insert_12 : decode cX8_insert 12 = .ok (.if_icmp .ge 112, 3) := by decide +kernel
theorem dX8_insert_15 : decode cX8_insert 15 = .ok (.iconst 0, 1) := by decide +kernel
theorem dX8_insert_16 : decode cX8_insert 16 = .ok (.istore 5, 2) := by decide +kernel
theorem dX8_insert_18 : decode cX8_insert 18 = .ok (.iload 5, 2) := by decide +kernel
theorem dX8_insert_20 : decode cX8_insert 20 = .ok (.aload_n 0, 1) := by decide +kernel
theorem dX8_insert_21 : decode cX8_insert 21 = .ok (.getfield 16, 3) := by decide +kernel
theorem dX8_insert_24 : decode cX8_insert 24 = .ok (.iload 4, 2) := by decide +kernel
theorem dX8_insert_26 : decode cX8_insert 26 = .ok (.iaload, 1) := by decide +kernel
theorem dX8_insert_27 : decode cX8_insert 27 = .ok (.if_icmp .ge 27, 3) := by decide +kernel
theorem dX8_insert_30 : decode cX8_insert 30 = .ok (.aload_n 1, 1) := by decide +kernel
theorem dX8_insert_31 : decode cX8_insert 31 = .ok (.iload_n 3, 1) := by decide +kernel
theorem dX8_insert_32 : decode cX8_insert 32 = .ok (.aload_n 0, 1) := by decide +kernel
theorem dX8_insert_33 : decode cX8_insert 33 = .ok (.getfield 11, 3) := by decide +kernel
theorem dX8_insert_36 : decode cX8_insert 36 = .ok (.iload 4, 2) := by decide +kernel
theorem dX8_insert_38 : decode cX8_insert 38 = .ok (.aaload, 1) := by decide +kernel
theorem dX8_insert_39 : decode cX8_insert 39 = .ok (.iload 5, 2) := by decide +kernel
theorem dX8_insert_41 : decode cX8_insert 41 = .ok (.iaload, 1) := by decide +kernel
theorem dX8_insert_42 : decode cX8_insert 42 = .ok (.invokevirtual 28, 3) := by decide +kernel
theorem dX8_insert_45 : decode cX8_insert 45 = .ok (.ifCond .eq 9, 3) := by decide +kernel
theorem dX8_insert_48 : decode cX8_insert 48 = .ok (.iinc 5 1, 3) := by decide +kernel
theorem dX8_insert_51 : decode cX8_insert 51 = .ok (.goto (-33), 3) := by decide +kernel
theorem dX8_insert_54 : decode cX8_insert 54 = .ok (.iload 5, 2) := by decide +kernel
theorem dX8_insert_56 : decode cX8_insert 56 = .ok (.aload_n 0, 1) := by decide +kernel
theorem dX8_insert_57 : decode cX8_insert 57 = .ok (.getfield 11, 3) := by decide +kernel
theorem dX8_insert_60 : decode cX8_insert 60 = .ok (.iload 4, 2) := by decide +kernel
theorem dX8_insert_62 : decode cX8_insert 62 = .ok (.aaload, 1) := by decide +kernel
theorem dX8_insert_63 : decode cX8_insert 63 = .ok (.arraylength, 1) := by decide +kernel
theorem dX8_insert_64 : decode cX8_insert 64 = .ok (.if_icmp .lt 4, 3) := by decide +kernel
theorem dX8_insert_67 : decode cX8_insert 67 = .ok (.return_, 1) := by decide +kernel
theorem dX8_insert_68 : decode cX8_insert 68 = .ok (.aload_n 0, 1) := by decide +kernel
theorem dX8_insert_69 : decode cX8_insert 69 = .ok (.getfield 11, 3) := by decide +kernel
theorem dX8_insert_72 : decode cX8_insert 72 = .ok (.iload 4, 2) := by decide +kernel
theorem dX8_insert_74 : decode cX8_insert 74 = .ok (.aaload, 1) := by decide +kernel
theorem dX8_insert_75 : decode cX8_insert 75 = .ok (.iload 5, 2) := by decide +kernel
theorem dX8_insert_77 : decode cX8_insert 77 = .ok (.iaload, 1) := by decide +kernel
theorem dX8_insert_78 : decode cX8_insert 78 = .ok (.istore 6, 2) := by decide +kernel
theorem dX8_insert_80 : decode cX8_insert 80 = .ok (.aload_n 0, 1) := by decide +kernel
theorem dX8_insert_81 : decode cX8_insert 81 = .ok (.getfield 11, 3) := by decide +kernel
theorem dX8_insert_84 : decode cX8_insert 84 = .ok (.iload 4, 2) := by decide +kernel
theorem dX8_insert_86 : decode cX8_insert 86 = .ok (.aaload, 1) := by decide +kernel
theorem dX8_insert_87 : decode cX8_insert 87 = .ok (.iload 5, 2) := by decide +kernel
theorem dX8_insert_89 : decode cX8_insert 89 = .ok (.iload_n 3, 1) := by decide +kernel
theorem dX8_insert_90 : decode cX8_insert 90 = .ok (.iastore, 1) := by decide +kernel
theorem dX8_insert_91 : decode cX8_insert 91 = .ok (.iload 5, 2) := by decide +kernel
theorem dX8_insert_93 : decode cX8_insert 93 = .ok (.aload_n 0, 1) := by decide +kernel
theorem dX8_insert_94 : decode cX8_insert 94 = .ok (.getfield 16, 3) := by decide +kernel
theorem dX8_insert_97 : decode cX8_insert 97 = .ok (.iload 4, 2) := by decide +kernel
theorem dX8_insert_99 : decode cX8_insert 99 = .ok (.iaload, 1) := by decide +kernel
theorem dX8_insert_100 : decode cX8_insert 100 = .ok (.if_icmp .ne 15, 3) := by decide +kernel
theorem dX8_insert_103 : decode cX8_insert 103 = .ok (.aload_n 0, 1) := by decide +kernel
theorem dX8_insert_104 : decode cX8_insert 104 = .ok (.getfield 16, 3) := by decide +kernel
theorem dX8_insert_107 : decode cX8_insert 107 = .ok (.iload 4, 2) := by decide +kernel
theorem dX8_insert_109 : decode cX8_insert 109 = .ok (.dup2, 1) := by decide +kernel
theorem dX8_insert_110 : decode cX8_insert 110 = .ok (.iaload, 1) := by decide +kernel
theorem dX8_insert_111 : decode cX8_insert 111 = .ok (.iconst 1, 1) := by decide +kernel
theorem dX8_insert_112 : decode cX8_insert 112 = .ok (.iadd, 1) := by decide +kernel
theorem dX8_insert_113 : decode cX8_insert 113 = .ok (.iastore, 1) := by decide +kernel
theorem dX8_insert_114 : decode cX8_insert 114 = .ok (.return_, 1) := by decide +kernel
theorem dX8_insert_115 : decode cX8_insert 115 = .ok (.iload 6, 2) := by decide +kernel
theorem dX8_insert_117 : decode cX8_insert 117 = .ok (.istore_n 3, 1) := by decide +kernel
theorem dX8_insert_118 : decode cX8_insert 118 = .ok (.iinc 4 1, 3) := by decide +kernel
theorem dX8_insert_121 : decode cX8_insert 121 = .ok (.goto (-116), 3) := by decide +kernel
theorem dX8_insert_124 : decode cX8_insert 124 = .ok (.return_, 1) := by decide +kernel
theorem dX9_init_0 : decode cX9_init 0 = .ok (.aload_n 0, 1) := by decide +kernel
theorem dX9_init_1 : decode cX9_init 1 = .ok (.invokespecial 3, 3) := by decide +kernel
theorem dX9_init_4 : decode cX9_init 4 = .ok (.aload_n 0, 1) := by decide +kernel
theorem dX9_init_5 : decode cX9_init 5 = .ok (.sipush 1000, 3) := by decide +kernel
theorem dX9_init_8 : decode cX9_init 8 = .ok (.newarray .char, 2) := by decide +kernel
theorem dX9_init_10 : decode cX9_init 10 = .ok (.putfield 9, 3) := by decide +kernel
theorem dX9_init_13 : decode cX9_init 13 = .ok (.aload_n 0, 1) := by decide +kernel
theorem dX9_init_14 : decode cX9_init 14 = .ok (.bipush 19, 2) := by decide +kernel
theorem dX9_init_16 : decode cX9_init 16 = .ok (.newarray .long, 2) := by decide +kernel
theorem dX9_init_18 : decode cX9_init 18 = .ok (.putfield 15, 3) := by decide +kernel
theorem dX9_init_21 : decode cX9_init 21 = .ok (.iconst 0, 1) := by decide +kernel
theorem dX9_init_22 : decode cX9_init 22 = .ok (.istore_n 1, 1) := by decide +kernel
theorem dX9_init_23 : decode cX9_init 23 = .ok (.lconst 0, 1) := by decide +kernel
theorem dX9_init_24 : decode cX9_init 24 = .ok (.lstore_n 2, 1) := by decide +kernel
theorem dX9_init_25 : decode cX9_init 25 = .ok (.iconst 0, 1) := by decide +kernel
theorem dX9_init_26 : decode cX9_init 26 = .ok (.istore 4, 2) := by decide +kernel
theorem dX9_init_28 : decode cX9_init 28 = .ok (.iload 4, 2) := by decide +kernel
theorem dX9_init_30 : decode cX9_init 30 = .ok (.ldc 19, 2) := by decide +kernel
theorem dX9_init_32 : decode cX9_init 32 = .ok (.invokevirtual 21, 3) := by decide +kernel
theorem dX9_init_35 : decode cX9_init 35 = .ok (.if_icmp .ge 56, 3) := by decide +kernel
theorem dX9_init_38 : decode cX9_init 38 = .ok (.ldc 19, 2) := by decide +kernel
theorem dX9_init_40 : decode cX9_init 40 = .ok (.iload 4, 2) := by decide +kernel
theorem dX9_init_42 : decode cX9_init 42 = .ok (.invokevirtual 27, 3) := by decide +kernel
theorem dX9_init_45 : decode cX9_init 45 = .ok (.istore 5, 2) := by decide +kernel
theorem dX9_init_47 : decode cX9_init 47 = .ok (.iload 5, 2) := by decide +kernel
theorem dX9_init_49 : decode cX9_init 49 = .ok (.bipush 32, 2) := by decide +kernel
theorem dX9_init_51 : decode cX9_init 51 = .ok (.if_icmp .eq 13, 3) := by decide +kernel
theorem dX9_init_54 : decode cX9_init 54 = .ok (.lload_n 2, 1) := by decide +kernel
theorem dX9_init_55 : decode cX9_init 55 = .ok (.iload 5, 2) := by decide +kernel
theorem dX9_init_57 : decode cX9_init 57 = .ok (.invokestatic 31, 3) := by decide +kernel
theorem dX9_init_60 : decode cX9_init 60 = .ok (.lstore_n 2, 1) := by decide +kernel
theorem dX9_init_61 : decode cX9_init 61 = .ok (.goto 24, 3) := by decide +kernel
theorem dX9_init_64 : decode cX9_init 64 = .ok (.iload_n 1, 1) := by decide +kernel
theorem dX9_init_65 : decode cX9_init 65 = .ok (.aload_n 0, 1) := by decide +kernel
theorem dX9_init_66 : decode cX9_init 66 = .ok (.getfield 15, 3) := by decide +kernel
theorem dX9_init_69 : decode cX9_init 69 = .ok (.arraylength, 1) := by decide +kernel
theorem dX9_init_70 : decode cX9_init 70 = .ok (.if_icmp .ge 15, 3) := by decide +kernel
theorem dX9_init_73 : decode cX9_init 73 = .ok (.aload_n 0, 1) := by decide +kernel
theorem dX9_init_74 : decode cX9_init 74 = .ok (.getfield 15, 3) := by decide +kernel
theorem dX9_init_77 : decode cX9_init 77 = .ok (.iload_n 1, 1) := by decide +kernel
theorem dX9_init_78 : decode cX9_init 78 = .ok (.lload_n 2, 1) := by decide +kernel
theorem dX9_init_79 : decode cX9_init 79 = .ok (.lastore, 1) := by decide +kernel
theorem dX9_init_80 : decode cX9_init 80 = .ok (.iinc 1 1, 3) := by decide +kernel
theorem dX9_init_83 : decode cX9_init 83 = .ok (.lconst 0, 1) := by decide +kernel
theorem dX9_init_84 : decode cX9_init 84 = .ok (.lstore_n 2, 1) := by decide +kernel
theorem dX9_init_85 : decode cX9_init 85 = .ok (.iinc 4 1, 3) := by decide +kernel
theorem dX9_init_88 : decode cX9_init 88 = .ok (.goto (-60), 3) := by decide +kernel
theorem dX9_init_91 : decode cX9_init 91 = .ok (.return_, 1) := by decide +kernel
theorem dX9_put_0 : decode cX9_put 0 = .ok (.bipush 56, 2) := by decide +kernel
theorem dX9_put_2 : decode cX9_put 2 = .ok (.istore_n 3, 1) := by decide +kernel
theorem dX9_put_3 : decode cX9_put 3 = .ok (.iload_n 3, 1) := by decide +kernel
theorem dX9_put_4 : decode cX9_put 4 = .ok (.ifCond .lt 93, 3) := by decide +kernel
theorem dX9_put_7 : decode cX9_put 7 = .ok (.lload_n 1, 1) := by decide +kernel
theorem dX9_put_8 : decode cX9_put 8 = .ok (.iload_n 3, 1) := by decide +kernel
theorem dX9_put_9 : decode cX9_put 9 = .ok (.lushr, 1) := by decide +kernel
theorem dX9_put_10 : decode cX9_put 10 = .ok (.l2i, 1) := by decide +kernel
theorem dX9_put_11 : decode cX9_put 11 = .ok (.sipush 255, 3) := by decide +kernel
theorem dX9_put_14 : decode cX9_put 14 = .ok (.iand, 1) := by decide +kernel
theorem dX9_put_15 : decode cX9_put 15 = .ok (.istore 4, 2) := by decide +kernel
theorem dX9_put_17 : decode cX9_put 17 = .ok (.iload 4, 2) := by decide +kernel
theorem dX9_put_19 : decode cX9_put 19 = .ok (.bipush 10, 2) := by decide +kernel
theorem dX9_put_21 : decode cX9_put 21 = .ok (.if_icmp .eq 17, 3) := by decide +kernel
theorem dX9_put_24 : decode cX9_put 24 = .ok (.iload 4, 2) := by decide +kernel
theorem dX9_put_26 : decode cX9_put 26 = .ok (.bipush 32, 2) := by decide +kernel
theorem dX9_put_28 : decode cX9_put 28 = .ok (.if_icmp .lt 14, 3) := by decide +kernel
theorem dX9_put_31 : decode cX9_put 31 = .ok (.iload 4, 2) := by decide +kernel
theorem dX9_put_33 : decode cX9_put 33 = .ok (.bipush 126, 2) := by decide +kernel
theorem dX9_put_35 : decode cX9_put 35 = .ok (.if_icmp .gt 7, 3) := by decide +kernel
theorem dX9_put_38 : decode cX9_put 38 = .ok (.iconst 1, 1) := by decide +kernel
theorem dX9_put_39 : decode cX9_put 39 = .ok (.goto 4, 3) := by decide +kernel
theorem dX9_put_42 : decode cX9_put 42 = .ok (.iconst 0, 1) := by decide +kernel
theorem dX9_put_43 : decode cX9_put 43 = .ok (.istore 5, 2) := by decide +kernel
theorem dX9_put_45 : decode cX9_put 45 = .ok (.iload 5, 2) := by decide +kernel
theorem dX9_put_47 : decode cX9_put 47 = .ok (.ifCond .eq 44, 3) := by decide +kernel
theorem dX9_put_50 : decode cX9_put 50 = .ok (.aload_n 0, 1) := by decide +kernel
theorem dX9_put_51 : decode cX9_put 51 = .ok (.getfield 35, 3) := by decide +kernel
theorem dX9_put_54 : decode cX9_put 54 = .ok (.ifCond .lt 37, 3) := by decide +kernel
theorem dX9_put_57 : decode cX9_put 57 = .ok (.aload_n 0, 1) := by decide +kernel
theorem dX9_put_58 : decode cX9_put 58 = .ok (.getfield 35, 3) := by decide +kernel
theorem dX9_put_61 : decode cX9_put 61 = .ok (.aload_n 0, 1) := by decide +kernel
theorem dX9_put_62 : decode cX9_put 62 = .ok (.getfield 9, 3) := by decide +kernel
theorem dX9_put_65 : decode cX9_put 65 = .ok (.arraylength, 1) := by decide +kernel
theorem dX9_put_66 : decode cX9_put 66 = .ok (.if_icmp .ge 25, 3) := by decide +kernel
theorem dX9_put_69 : decode cX9_put 69 = .ok (.aload_n 0, 1) := by decide +kernel
theorem dX9_put_70 : decode cX9_put 70 = .ok (.getfield 9, 3) := by decide +kernel
theorem dX9_put_73 : decode cX9_put 73 = .ok (.aload_n 0, 1) := by decide +kernel
theorem dX9_put_74 : decode cX9_put 74 = .ok (.getfield 35, 3) := by decide +kernel
theorem dX9_put_77 : decode cX9_put 77 = .ok (.iload 4, 2) := by decide +kernel
theorem dX9_put_79 : decode cX9_put 79 = .ok (.i2c, 1) := by decide +kernel
theorem dX9_put_80 : decode cX9_put 80 = .ok (.castore, 1) := by decide +kernel
theorem dX9_put_81 : decode cX9_put 81 = .ok (.aload_n 0, 1) := by decide +kernel
theorem dX9_put_82 : decode cX9_put 82 = .ok (.dup, 1) := by decide +kernel
theorem dX9_put_83 : decode cX9_put 83 = .ok (.getfield 35, 3) := by decide +kernel
theorem dX9_put_86 : decode cX9_put 86 = .ok (.iconst 1, 1) := by decide +kernel
theorem dX9_put_87 : decode cX9_put 87 = .ok (.iadd, 1) := by decide +kernel
theorem dX9_put_88 : decode cX9_put 88 = .ok (.putfield 35, 3) := by decide +kernel
theorem dX9_put_91 : decode cX9_put 91 = .ok (.iinc 3 (-8), 3) := by decide +kernel
theorem dX9_put_94 : decode cX9_put 94 = .ok (.goto (-91), 3) := by decide +kernel
theorem dX9_put_97 : decode cX9_put 97 = .ok (.return_, 1) := by decide +kernel
theorem dX9_wipe_0 : decode cX9_wipe 0 = .ok (.aload_n 0, 1) := by decide +kernel
theorem dX9_wipe_1 : decode cX9_wipe 1 = .ok (.iconst 0, 1) := by decide +kernel
theorem dX9_wipe_2 : decode cX9_wipe 2 = .ok (.putfield 35, 3) := by decide +kernel
theorem dX9_wipe_5 : decode cX9_wipe 5 = .ok (.aload_n 0, 1) := by decide +kernel
theorem dX9_wipe_6 : decode cX9_wipe 6 = .ok (.iconst 0, 1) := by decide +kernel
theorem dX9_wipe_7 : decode cX9_wipe 7 = .ok (.putfield 38, 3) := by decide +kernel
theorem dX9_wipe_10 : decode cX9_wipe 10 = .ok (.return_, 1) := by decide +kernel
theorem dX9_advance_0 : decode cX9_advance 0 = .ok (.aload_n 0, 1) := by decide +kernel
theorem dX9_advance_1 : decode cX9_advance 1 = .ok (.getfield 38, 3) := by decide +kernel
theorem dX9_advance_4 : decode cX9_advance 4 = .ok (.aload_n 0, 1) := by decide +kernel
theorem dX9_advance_5 : decode cX9_advance 5 = .ok (.getfield 35, 3) := by decide +kernel
theorem dX9_advance_8 : decode cX9_advance 8 = .ok (.if_icmp .ge 44, 3) := by decide +kernel
theorem dX9_advance_11 : decode cX9_advance 11 = .ok (.aload_n 0, 1) := by decide +kernel
theorem dX9_advance_12 : decode cX9_advance 12 = .ok (.getfield 9, 3) := by decide +kernel
theorem dX9_advance_15 : decode cX9_advance 15 = .ok (.aload_n 0, 1) := by decide +kernel
theorem dX9_advance_16 : decode cX9_advance 16 = .ok (.getfield 38, 3) := by decide +kernel
theorem dX9_advance_19 : decode cX9_advance 19 = .ok (.caload, 1) := by decide +kernel
theorem dX9_advance_20 : decode cX9_advance 20 = .ok (.bipush 32, 2) := by decide +kernel
theorem dX9_advance_22 : decode cX9_advance 22 = .ok (.if_icmp .eq 17, 3) := by decide +kernel
theorem dX9_advance_25 : decode cX9_advance 25 = .ok (.aload_n 0, 1) := by decide +kernel
theorem dX9_advance_26 : decode cX9_advance 26 = .ok (.getfield 9, 3) := by decide +kernel
theorem dX9_advance_29 : decode cX9_advance 29 = .ok (.aload_n 0, 1) := by decide +kernel
theorem dX9_advance_30 : decode cX9_advance 30 = .ok (.getfield 38, 3) := by decide +kernel
theorem dX9_advance_33 : decode cX9_advance 33 = .ok (.caload, 1) := by decide +kernel
theorem dX9_advance_34 : decode cX9_advance 34 = .ok (.bipush 10, 2) := by decide +kernel
theorem dX9_advance_36 : decode cX9_advance 36 = .ok (.if_icmp .ne 16, 3) := by decide +kernel
theorem dX9_advance_39 : decode cX9_advance 39 = .ok (.aload_n 0, 1) := by decide +kernel
theorem dX9_advance_40 : decode cX9_advance 40 = .ok (.dup, 1) := by decide +kernel
theorem dX9_advance_41 : decode cX9_advance 41 = .ok (.getfield 38, 3) := by decide +kernel
theorem dX9_advance_44 : decode cX9_advance 44 = .ok (.iconst 1, 1) := by decide +kernel
theorem dX9_advance_45 : decode cX9_advance 45 = .ok (.iadd, 1) := by decide +kernel
theorem dX9_advance_46 : decode cX9_advance 46 = .ok (.putfield 38, 3) := by decide +kernel
theorem dX9_advance_49 : decode cX9_advance 49 = .ok (.goto (-49), 3) := by decide +kernel
theorem dX9_advance_52 : decode cX9_advance 52 = .ok (.aload_n 0, 1) := by decide +kernel
theorem dX9_advance_53 : decode cX9_advance 53 = .ok (.aload_n 0, 1) := by decide +kernel
theorem dX9_advance_54 : decode cX9_advance 54 = .ok (.getfield 38, 3) := by decide +kernel
theorem dX9_advance_57 : decode cX9_advance 57 = .ok (.putfield 41, 3) := by decide +kernel
theorem dX9_advance_60 : decode cX9_advance 60 = .ok (.aload_n 0, 1) := by decide +kernel
theorem dX9_advance_61 : decode cX9_advance 61 = .ok (.iconst 0, 1) := by decide +kernel
theorem dX9_advance_62 : decode cX9_advance 62 = .ok (.putfield 44, 3) := by decide +kernel
theorem dX9_advance_65 : decode cX9_advance 65 = .ok (.aload_n 0, 1) := by decide +kernel
theorem dX9_advance_66 : decode cX9_advance 66 = .ok (.iconst 0, 1) := by decide +kernel
theorem dX9_advance_67 : decode cX9_advance 67 = .ok (.putfield 47, 3) := by decide +kernel
theorem dX9_advance_70 : decode cX9_advance 70 = .ok (.aload_n 0, 1) := by decide +kernel
theorem dX9_advance_71 : decode cX9_advance 71 = .ok (.lconst 0, 1) := by decide +kernel
theorem dX9_advance_72 : decode cX9_advance 72 = .ok (.putfield 50, 3) := by decide +kernel
theorem dX9_advance_75 : decode cX9_advance 75 = .ok (.aload_n 0, 1) := by decide +kernel
theorem dX9_advance_76 : decode cX9_advance 76 = .ok (.getfield 38, 3) := by decide +kernel
theorem dX9_advance_79 : decode cX9_advance 79 = .ok (.aload_n 0, 1) := by decide +kernel
theorem dX9_advance_80 : decode cX9_advance 80 = .ok (.getfield 35, 3) := by decide +kernel
theorem dX9_advance_83 : decode cX9_advance 83 = .ok (.if_icmp .lt 11, 3) := by decide +kernel
theorem dX9_advance_86 : decode cX9_advance 86 = .ok (.aload_n 0, 1) := by decide +kernel
theorem dX9_advance_87 : decode cX9_advance 87 = .ok (.iconst 0, 1) := by decide +kernel
theorem dX9_advance_88 : decode cX9_advance 88 = .ok (.putfield 54, 3) := by decide +kernel
theorem dX9_advance_91 : decode cX9_advance 91 = .ok (.goto 51, 3) := by decide +kernel
theorem dX9_advance_94 : decode cX9_advance 94 = .ok (.aload_n 0, 1) := by decide +kernel
theorem dX9_advance_95 : decode cX9_advance 95 = .ok (.getfield 9, 3) := by decide +kernel
theorem dX9_advance_98 : decode cX9_advance 98 = .ok (.aload_n 0, 1) := by decide +kernel
theorem dX9_advance_99 : decode cX9_advance 99 = .ok (.getfield 38, 3) := by decide +kernel
theorem dX9_advance_102 : decode cX9_advance 102 = .ok (.caload, 1) := by decide +kernel
theorem dX9_advance_103 : decode cX9_advance 103 = .ok (.invokestatic 57, 3) := by decide +kernel
theorem dX9_advance_106 : decode cX9_advance 106 = .ok (.ifCond .eq 10, 3) := by decide +kernel
theorem dX9_advance_109 : decode cX9_advance 109 = .ok (.aload_n 0, 1) := by decide +kernel
theorem dX9_advance_110 : decode cX9_advance 110 = .ok (.invokevirtual 61, 3) := by decide +kernel
theorem dX9_advance_113 : decode cX9_advance 113 = .ok (.goto 29, 3) := by decide +kernel
theorem dX9_advance_116 : decode cX9_advance 116 = .ok (.aload_n 0, 1) := by decide +kernel
theorem dX9_advance_117 : decode cX9_advance 117 = .ok (.getfield 9, 3) := by decide +kernel
theorem dX9_advance_120 : decode cX9_advance 120 = .ok (.aload_n 0, 1) := by decide +kernel
theorem dX9_advance_121 : decode cX9_advance 121 = .ok (.getfield 38, 3) := by decide +kernel
theorem dX9_advance_124 : decode cX9_advance 124 = .ok (.caload, 1) := by decide +kernel
theorem dX9_advance_125 : decode cX9_advance 125 = .ok (.invokestatic 64, 3) := by decide +kernel
theorem dX9_advance_128 : decode cX9_advance 128 = .ok (.ifCond .eq 10, 3) := by decide +kernel
theorem dX9_advance_131 : decode cX9_advance 131 = .ok (.aload_n 0, 1) := by decide +kernel
theorem dX9_advance_132 : decode cX9_advance 132 = .ok (.invokevirtual 67, 3) := by decide +kernel
theorem dX9_advance_135 : decode cX9_advance 135 = .ok (.goto 7, 3) := by decide +kernel
theorem dX9_advance_138 : decode cX9_advance 138 = .ok (.aload_n 0, 1) := by decide +kernel
theorem dX9_advance_139 : decode cX9_advance 139 = .ok (.invokevirtual 70, 3) := by decide +kernel
theorem dX9_advance_142 : decode cX9_advance 142 = .ok (.return_, 1) := by decide +kernel
theorem dX9_isName_0 : decode cX9_isName 0 = .ok (.aload_n 0, 1) := by decide +kernel
theorem dX9_isName_1 : decode cX9_isName 1 = .ok (.getfield 54, 3) := by decide +kernel
theorem dX9_isName_4 : decode cX9_isName 4 = .ok (.iconst 2, 1) := by decide +kernel
theorem dX9_isName_5 : decode cX9_isName 5 = .ok (.if_icmp .ne 27, 3) := by decide +kernel
theorem dX9_isName_8 : decode cX9_isName 8 = .ok (.aload_n 0, 1) := by decide +kernel
theorem dX9_isName_9 : decode cX9_isName 9 = .ok (.getfield 47, 3) := by decide +kernel
theorem dX9_isName_12 : decode cX9_isName 12 = .ok (.sipush 128, 3) := by decide +kernel
theorem dX9_isName_15 : decode cX9_isName 15 = .ok (.if_icmp .lt 13, 3) := by decide +kernel
theorem dX9_isName_18 : decode cX9_isName 18 = .ok (.aload_n 0, 1) := by decide +kernel
theorem dX9_isName_19 : decode cX9_isName 19 = .ok (.getfield 47, 3) := by decide +kernel
theorem dX9_isName_22 : decode cX9_isName 22 = .ok (.sipush 142, 3) := by decide +kernel
theorem dX9_isName_25 : decode cX9_isName 25 = .ok (.if_icmp .le 7, 3) := by decide +kernel
theorem dX9_isName_28 : decode cX9_isName 28 = .ok (.iconst 1, 1) := by decide +kernel
theorem dX9_isName_29 : decode cX9_isName 29 = .ok (.goto 4, 3) := by decide +kernel
theorem dX9_isName_32 : decode cX9_isName 32 = .ok (.iconst 0, 1) := by decide +kernel
theorem dX9_isName_33 : decode cX9_isName 33 = .ok (.ireturn, 1) := by decide +kernel
theorem dX9_takeWord_0 : decode cX9_takeWord 0 = .ok (.aload_n 0, 1) := by decide +kernel
theorem dX9_takeWord_1 : decode cX9_takeWord 1 = .ok (.getfield 38, 3) := by decide +kernel
theorem dX9_takeWord_4 : decode cX9_takeWord 4 = .ok (.aload_n 0, 1) := by decide +kernel
theorem dX9_takeWord_5 : decode cX9_takeWord 5 = .ok (.getfield 35, 3) := by decide +kernel
theorem dX9_takeWord_8 : decode cX9_takeWord 8 = .ok (.if_icmp .ge 51, 3) := by decide +kernel
theorem dX9_takeWord_11 : decode cX9_takeWord 11 = .ok (.aload_n 0, 1) := by decide +kernel
theorem dX9_takeWord_12 : decode cX9_takeWord 12 = .ok (.getfield 9, 3) := by decide +kernel
theorem dX9_takeWord_15 : decode cX9_takeWord 15 = .ok (.aload_n 0, 1) := by decide +kernel
theorem dX9_takeWord_16 : decode cX9_takeWord 16 = .ok (.getfield 38, 3) := by decide +kernel
theorem dX9_takeWord_19 : decode cX9_takeWord 19 = .ok (.caload, 1) := by decide +kernel
theorem dX9_takeWord_20 : decode cX9_takeWord 20 = .ok (.invokestatic 57, 3) := by decide +kernel
theorem dX9_takeWord_23 : decode cX9_takeWord 23 = .ok (.ifCond .eq 36, 3) := by decide +kernel
theorem dX9_takeWord_26 : decode cX9_takeWord 26 = .ok (.aload_n 0, 1) := by decide +kernel
theorem dX9_takeWord_27 : decode cX9_takeWord 27 = .ok (.aload_n 0, 1) := by decide +kernel
theorem dX9_takeWord_28 : decode cX9_takeWord 28 = .ok (.getfield 50, 3) := by decide +kernel
theorem dX9_takeWord_31 : decode cX9_takeWord 31 = .ok (.aload_n 0, 1) := by decide +kernel
theorem dX9_takeWord_32 : decode cX9_takeWord 32 = .ok (.getfield 9, 3) := by decide +kernel
theorem dX9_takeWord_35 : decode cX9_takeWord 35 = .ok (.aload_n 0, 1) := by decide +kernel
theorem dX9_takeWord_36 : decode cX9_takeWord 36 = .ok (.getfield 38, 3) := by decide +kernel
theorem dX9_takeWord_39 : decode cX9_takeWord 39 = .ok (.caload, 1) := by decide +kernel
theorem dX9_takeWord_40 : decode cX9_takeWord 40 = .ok (.invokestatic 31, 3) := by decide +kernel
theorem dX9_takeWord_43 : decode cX9_takeWord 43 = .ok (.putfield 50, 3) := by decide +kernel
theorem dX9_takeWord_46 : decode cX9_takeWord 46 = .ok (.aload_n 0, 1) := by decide +kernel
theorem dX9_takeWord_47 : decode cX9_takeWord 47 = .ok (.dup, 1) := by decide +kernel
theorem dX9_takeWord_48 : decode cX9_takeWord 48 = .ok (.getfield 38, 3) := by decide +kernel
theorem dX9_takeWord_51 : decode cX9_takeWord 51 = .ok (.iconst 1, 1) := by decide +kernel
theorem dX9_takeWord_52 : decode cX9_takeWord 52 = .ok (.iadd, 1) := by decide +kernel
theorem dX9_takeWord_53 : decode cX9_takeWord 53 = .ok (.putfield 38, 3) := by decide +kernel
theorem dX9_takeWord_56 : decode cX9_takeWord 56 = .ok (.goto (-56), 3) := by decide +kernel
theorem dX9_takeWord_59 : decode cX9_takeWord 59 = .ok (.aload_n 0, 1) := by decide +kernel
theorem dX9_takeWord_60 : decode cX9_takeWord 60 = .ok (.aload_n 0, 1) := by decide +kernel
theorem dX9_takeWord_61 : decode cX9_takeWord 61 = .ok (.getfield 38, 3) := by decide +kernel
theorem dX9_takeWord_64 : decode cX9_takeWord 64 = .ok (.aload_n 0, 1) := by decide +kernel
theorem dX9_takeWord_65 : decode cX9_takeWord 65 = .ok (.getfield 41, 3) := by decide +kernel
theorem dX9_takeWord_68 : decode cX9_takeWord 68 = .ok (.isub, 1) := by decide +kernel
theorem dX9_takeWord_69 : decode cX9_takeWord 69 = .ok (.bipush 8, 2) := by decide +kernel
theorem dX9_takeWord_71 : decode cX9_takeWord 71 = .ok (.if_icmp .gt 7, 3) := by decide +kernel
theorem dX9_takeWord_74 : decode cX9_takeWord 74 = .ok (.iconst 2, 1) := by decide +kernel
theorem dX9_takeWord_75 : decode cX9_takeWord 75 = .ok (.goto 4, 3) := by decide +kernel
theorem dX9_takeWord_78 : decode cX9_takeWord 78 = .ok (.iconst 1, 1) := by decide +kernel
theorem dX9_takeWord_79 : decode cX9_takeWord 79 = .ok (.putfield 54, 3) := by decide +kernel
theorem dX9_takeWord_82 : decode cX9_takeWord 82 = .ok (.iconst 0, 1) := by decide +kernel
theorem dX9_takeWord_83 : decode cX9_takeWord 83 = .ok (.istore_n 1, 1) := by decide +kernel
theorem dX9_takeWord_84 : decode cX9_takeWord 84 = .ok (.iload_n 1, 1) := by decide +kernel
theorem dX9_takeWord_85 : decode cX9_takeWord 85 = .ok (.aload_n 0, 1) := by decide +kernel
theorem dX9_takeWord_86 : decode cX9_takeWord 86 = .ok (.getfield 15, 3) := by decide +kernel
theorem dX9_takeWord_89 : decode cX9_takeWord 89 = .ok (.arraylength, 1) := by decide +kernel
theorem dX9_takeWord_90 : decode cX9_takeWord 90 = .ok (.if_icmp .ge 40, 3) := by decide +kernel
theorem dX9_takeWord_93 : decode cX9_takeWord 93 = .ok (.aload_n 0, 1) := by decide +kernel
theorem dX9_takeWord_94 : decode cX9_takeWord 94 = .ok (.getfield 54, 3) := by decide +kernel
theorem dX9_takeWord_97 : decode cX9_takeWord 97 = .ok (.iconst 2, 1) := by decide +kernel
theorem dX9_takeWord_98 : decode cX9_takeWord 98 = .ok (.if_icmp .ne 32, 3) := by decide +kernel
theorem dX9_takeWord_101 : decode cX9_takeWord 101 = .ok (.aload_n 0, 1) := by decide +kernel
theorem dX9_takeWord_102 : decode cX9_takeWord 102 = .ok (.getfield 15, 3) := by decide +kernel
theorem dX9_takeWord_105 : decode cX9_takeWord 105 = .ok (.iload_n 1, 1) := by decide +kernel
theorem dX9_takeWord_106 : decode cX9_takeWord 106 = .ok (.laload, 1) := by decide +kernel
theorem dX9_takeWord_107 : decode cX9_takeWord 107 = .ok (.aload_n 0, 1) := by decide +kernel
theorem dX9_takeWord_108 : decode cX9_takeWord 108 = .ok (.getfield 50, 3) := by decide +kernel
theorem dX9_takeWord_111 : decode cX9_takeWord 111 = .ok (.lcmp, 1) := by decide +kernel
theorem dX9_takeWord_112 : decode cX9_takeWord 112 = .ok (.ifCond .ne 12, 3) := by decide +kernel
theorem dX9_takeWord_115 : decode cX9_takeWord 115 = .ok (.aload_n 0, 1) := by decide +kernel
theorem dX9_takeWord_116 : decode cX9_takeWord 116 = .ok (.sipush 128, 3) := by decide +kernel
theorem dX9_takeWord_119 : decode cX9_takeWord 119 = .ok (.iload_n 1, 1) := by decide +kernel
theorem dX9_takeWord_120 : decode cX9_takeWord 120 = .ok (.iadd, 1) := by decide +kernel
theorem dX9_takeWord_121 : decode cX9_takeWord 121 = .ok (.putfield 47, 3) := by decide +kernel
theorem dX9_takeWord_124 : decode cX9_takeWord 124 = .ok (.iinc 1 1, 3) := by decide +kernel
theorem dX9_takeWord_127 : decode cX9_takeWord 127 = .ok (.goto (-43), 3) := by decide +kernel
theorem dX9_takeWord_130 : decode cX9_takeWord 130 = .ok (.return_, 1) := by decide +kernel
theorem dX9_takeNumber_0 : decode cX9_takeNumber 0 = .ok (.aload_n 0, 1) := by decide +kernel
theorem dX9_takeNumber_1 : decode cX9_takeNumber 1 = .ok (.getfield 38, 3) := by decide +kernel
theorem dX9_takeNumber_4 : decode cX9_takeNumber 4 = .ok (.aload_n 0, 1) := by decide +kernel
theorem dX9_takeNumber_5 : decode cX9_takeNumber 5 = .ok (.getfield 35, 3) := by decide +kernel
theorem dX9_takeNumber_8 : decode cX9_takeNumber 8 = .ok (.if_icmp .ge 55, 3) := by decide +kernel
theorem dX9_takeNumber_11 : decode cX9_takeNumber 11 = .ok (.aload_n 0, 1) := by decide +kernel
theorem dX9_takeNumber_12 : decode cX9_takeNumber 12 = .ok (.getfield 9, 3) := by decide +kernel
theorem dX9_takeNumber_15 : decode cX9_takeNumber 15 = .ok (.aload_n 0, 1) := by decide +kernel
theorem dX9_takeNumber_16 : decode cX9_takeNumber 16 = .ok (.getfield 38, 3) := by decide +kernel
theorem dX9_takeNumber_19 : decode cX9_takeNumber 19 = .ok (.caload, 1) := by decide +kernel
theorem dX9_takeNumber_20 : decode cX9_takeNumber 20 = .ok (.invokestatic 64, 3) := by decide +kernel
theorem dX9_takeNumber_23 : decode cX9_takeNumber 23 = .ok (.ifCond .eq 40, 3) := by decide +kernel
theorem dX9_takeNumber_26 : decode cX9_takeNumber 26 = .ok (.aload_n 0, 1) := by decide +kernel
theorem dX9_takeNumber_27 : decode cX9_takeNumber 27 = .ok (.aload_n 0, 1) := by decide +kernel
theorem dX9_takeNumber_28 : decode cX9_takeNumber 28 = .ok (.getfield 44, 3) := by decide +kernel
theorem dX9_takeNumber_31 : decode cX9_takeNumber 31 = .ok (.bipush 10, 2) := by decide +kernel
theorem dX9_takeNumber_33 : decode cX9_takeNumber 33 = .ok (.imul, 1) := by decide +kernel
theorem dX9_takeNumber_34 : decode cX9_takeNumber 34 = .ok (.aload_n 0, 1) := by decide +kernel
theorem dX9_takeNumber_35 : decode cX9_takeNumber 35 = .ok (.getfield 9, 3) := by decide +kernel
theorem dX9_takeNumber_38 : decode cX9_takeNumber 38 = .ok (.aload_n 0, 1) := by decide +kernel
theorem dX9_takeNumber_39 : decode cX9_takeNumber 39 = .ok (.getfield 38, 3) := by decide +kernel
theorem dX9_takeNumber_42 : decode cX9_takeNumber 42 = .ok (.caload, 1) := by decide +kernel
theorem dX9_takeNumber_43 : decode cX9_takeNumber 43 = .ok (.bipush 48, 2) := by decide +kernel
theorem dX9_takeNumber_45 : decode cX9_takeNumber 45 = .ok (.isub, 1) := by decide +kernel
theorem dX9_takeNumber_46 : decode cX9_takeNumber 46 = .ok (.iadd, 1) := by decide +kernel
theorem dX9_takeNumber_47 : decode cX9_takeNumber 47 = .ok (.putfield 44, 3) := by decide +kernel
theorem dX9_takeNumber_50 : decode cX9_takeNumber 50 = .ok (.aload_n 0, 1) := by decide +kernel
theorem dX9_takeNumber_51 : decode cX9_takeNumber 51 = .ok (.dup, 1) := by decide +kernel
theorem dX9_takeNumber_52 : decode cX9_takeNumber 52 = .ok (.getfield 38, 3) := by decide +kernel
theorem dX9_takeNumber_55 : decode cX9_takeNumber 55 = .ok (.iconst 1, 1) := by decide +kernel
theorem dX9_takeNumber_56 : decode cX9_takeNumber 56 = .ok (.iadd, 1) := by decide +kernel
theorem dX9_takeNumber_57 : decode cX9_takeNumber 57 = .ok (.putfield 38, 3) := by decide +kernel
theorem dX9_takeNumber_60 : decode cX9_takeNumber 60 = .ok (.goto (-60), 3) := by decide +kernel
theorem dX9_takeNumber_63 : decode cX9_takeNumber 63 = .ok (.aload_n 0, 1) := by decide +kernel
theorem dX9_takeNumber_64 : decode cX9_takeNumber 64 = .ok (.aload_n 0, 1) := by decide +kernel
theorem dX9_takeNumber_65 : decode cX9_takeNumber 65 = .ok (.getfield 38, 3) := by decide +kernel
theorem dX9_takeNumber_68 : decode cX9_takeNumber 68 = .ok (.aload_n 0, 1) := by decide +kernel
theorem dX9_takeNumber_69 : decode cX9_takeNumber 69 = .ok (.getfield 41, 3) := by decide +kernel
theorem dX9_takeNumber_72 : decode cX9_takeNumber 72 = .ok (.isub, 1) := by decide +kernel
theorem dX9_takeNumber_73 : decode cX9_takeNumber 73 = .ok (.iconst 4, 1) := by decide +kernel
theorem dX9_takeNumber_74 : decode cX9_takeNumber 74 = .ok (.if_icmp .gt 7, 3) := by decide +kernel
theorem dX9_takeNumber_77 : decode cX9_takeNumber 77 = .ok (.iconst 3, 1) := by decide +kernel
theorem dX9_takeNumber_78 : decode cX9_takeNumber 78 = .ok (.goto 4, 3) := by decide +kernel
theorem dX9_takeNumber_81 : decode cX9_takeNumber 81 = .ok (.iconst 1, 1) := by decide +kernel
theorem dX9_takeNumber_82 : decode cX9_takeNumber 82 = .ok (.putfield 54, 3) := by decide +kernel
theorem dX9_takeNumber_85 : decode cX9_takeNumber 85 = .ok (.return_, 1) := by decide +kernel
theorem dX9_takeSign_0 : decode cX9_takeSign 0 = .ok (.aload_n 0, 1) := by decide +kernel
theorem dX9_takeSign_1 : decode cX9_takeSign 1 = .ok (.getfield 38, 3) := by decide +kernel
theorem dX9_takeSign_4 : decode cX9_takeSign 4 = .ok (.aload_n 0, 1) := by decide +kernel
theorem dX9_takeSign_5 : decode cX9_takeSign 5 = .ok (.getfield 35, 3) := by decide +kernel
theorem dX9_takeSign_8 : decode cX9_takeSign 8 = .ok (.if_icmp .lt 4, 3) := by decide +kernel
theorem dX9_takeSign_11 : decode cX9_takeSign 11 = .ok (.return_, 1) := by decide +kernel
theorem dX9_takeSign_12 : decode cX9_takeSign 12 = .ok (.aload_n 0, 1) := by decide +kernel
theorem dX9_takeSign_13 : decode cX9_takeSign 13 = .ok (.getfield 9, 3) := by decide +kernel
theorem dX9_takeSign_16 : decode cX9_takeSign 16 = .ok (.aload_n 0, 1) := by decide +kernel
theorem dX9_takeSign_17 : decode cX9_takeSign 17 = .ok (.getfield 38, 3) := by decide +kernel
theorem dX9_takeSign_20 : decode cX9_takeSign 20 = .ok (.caload, 1) := by decide +kernel
theorem dX9_takeSign_21 : decode cX9_takeSign 21 = .ok (.istore_n 1, 1) := by decide +kernel
theorem dX9_takeSign_22 : decode cX9_takeSign 22 = .ok (.aload_n 0, 1) := by decide +kernel
theorem dX9_takeSign_23 : decode cX9_takeSign 23 = .ok (.dup, 1) := by decide +kernel
theorem dX9_takeSign_24 : decode cX9_takeSign 24 = .ok (.getfield 38, 3) := by decide +kernel
theorem dX9_takeSign_27 : decode cX9_takeSign 27 = .ok (.iconst 1, 1) := by decide +kernel
theorem dX9_takeSign_28 : decode cX9_takeSign 28 = .ok (.iadd, 1) := by decide +kernel
theorem dX9_takeSign_29 : decode cX9_takeSign 29 = .ok (.putfield 38, 3) := by decide +kernel
theorem dX9_takeSign_32 : decode cX9_takeSign 32 = .ok (.ldc 73, 2) := by decide +kernel
theorem dX9_takeSign_34 : decode cX9_takeSign 34 = .ok (.iload_n 1, 1) := by decide +kernel
theorem dX9_takeSign_35 : decode cX9_takeSign 35 = .ok (.invokevirtual 75, 3) := by decide +kernel
theorem dX9_takeSign_38 : decode cX9_takeSign 38 = .ok (.ifCond .lt 16, 3) := by decide +kernel
theorem dX9_takeSign_41 : decode cX9_takeSign 41 = .ok (.aload_n 0, 1) := by decide +kernel
theorem dX9_takeSign_42 : decode cX9_takeSign 42 = .ok (.iconst 4, 1) := by decide +kernel
theorem dX9_takeSign_43 : decode cX9_takeSign 43 = .ok (.putfield 54, 3) := by decide +kernel
theorem dX9_takeSign_46 : decode cX9_takeSign 46 = .ok (.aload_n 0, 1) := by decide +kernel
theorem dX9_takeSign_47 : decode cX9_takeSign 47 = .ok (.iload_n 1, 1) := by decide +kernel
theorem dX9_takeSign_48 : decode cX9_takeSign 48 = .ok (.putfield 47, 3) := by decide +kernel
theorem dX9_takeSign_51 : decode cX9_takeSign 51 = .ok (.goto 8, 3) := by decide +kernel
theorem dX9_takeSign_54 : decode cX9_takeSign 54 = .ok (.aload_n 0, 1) := by decide +kernel
theorem dX9_takeSign_55 : decode cX9_takeSign 55 = .ok (.iconst 1, 1) := by decide +kernel
theorem dX9_takeSign_56 : decode cX9_takeSign 56 = .ok (.putfield 54, 3) := by decide +kernel
theorem dX9_takeSign_59 : decode cX9_takeSign 59 = .ok (.return_, 1) := by decide +kernel
theorem dX9_isLetter_0 : decode cX9_isLetter 0 = .ok (.iload_n 0, 1) := by decide +kernel
theorem dX9_isLetter_1 : decode cX9_isLetter 1 = .ok (.bipush 97, 2) := by decide +kernel
theorem dX9_isLetter_3 : decode cX9_isLetter 3 = .ok (.if_icmp .lt 13, 3) := by decide +kernel
theorem dX9_isLetter_6 : decode cX9_isLetter 6 = .ok (.iload_n 0, 1) := by decide +kernel
theorem dX9_isLetter_7 : decode cX9_isLetter 7 = .ok (.bipush 122, 2) := by decide +kernel
theorem dX9_isLetter_9 : decode cX9_isLetter 9 = .ok (.if_icmp .gt 7, 3) := by decide +kernel
theorem dX9_isLetter_12 : decode cX9_isLetter 12 = .ok (.iconst 1, 1) := by decide +kernel
theorem dX9_isLetter_13 : decode cX9_isLetter 13 = .ok (.goto 4, 3) := by decide +kernel
theorem dX9_isLetter_16 : decode cX9_isLetter 16 = .ok (.iconst 0, 1) := by decide +kernel
theorem dX9_isLetter_17 : decode cX9_isLetter 17 = .ok (.ireturn, 1) := by decide +kernel
theorem dX9_isDigit_0 : decode cX9_isDigit 0 = .ok (.iload_n 0, 1) := by decide +kernel
theorem dX9_isDigit_1 : decode cX9_isDigit 1 = .ok (.bipush 48, 2) := by decide +kernel
theorem dX9_isDigit_3 : decode cX9_isDigit 3 = .ok (.if_icmp .lt 13, 3) := by decide +kernel
theorem dX9_isDigit_6 : decode cX9_isDigit 6 = .ok (.iload_n 0, 1) := by decide +kernel
theorem dX9_isDigit_7 : decode cX9_isDigit 7 = .ok (.bipush 57, 2) := by decide +kernel
theorem dX9_isDigit_9 : decode cX9_isDigit 9 = .ok (.if_icmp .gt 7, 3) := by decide +kernel
theorem dX9_isDigit_12 : decode cX9_isDigit 12 = .ok (.iconst 1, 1) := by decide +kernel
theorem dX9_isDigit_13 : decode cX9_isDigit 13 = .ok (.goto 4, 3) := by decide +kernel
theorem dX9_isDigit_16 : decode cX9_isDigit 16 = .ok (.iconst 0, 1) := by decide +kernel
theorem dX9_isDigit_17 : decode cX9_isDigit 17 = .ok (.ireturn, 1) := by decide +kernel
theorem dX9_withLetter_0 : decode cX9_withLetter 0 = .ok (.lload_n 0, 1) := by decide +kernel
theorem dX9_withLetter_1 : decode cX9_withLetter 1 = .ok (.ldc2_w 79, 3) := by decide +kernel
theorem dX9_withLetter_4 : decode cX9_withLetter 4 = .ok (.lmul, 1) := by decide +kernel
theorem dX9_withLetter_5 : decode cX9_withLetter 5 = .ok (.iload_n 2, 1) := by decide +kernel
theorem dX9_withLetter_6 : decode cX9_withLetter 6 = .ok (.bipush 97, 2) := by decide +kernel
theorem dX9_withLetter_8 : decode cX9_withLetter 8 = .ok (.isub, 1) := by decide +kernel
theorem dX9_withLetter_9 : decode cX9_withLetter 9 = .ok (.iconst 1, 1) := by decide +kernel
theorem dX9_withLetter_10 : decode cX9_withLetter 10 = .ok (.iadd, 1) := by decide +kernel
theorem dX9_withLetter_11 : decode cX9_withLetter 11 = .ok (.i2l, 1) := by decide +kernel
theorem dX9_withLetter_12 : decode cX9_withLetter 12 = .ok (.ladd, 1) := by decide +kernel
theorem dX9_withLetter_13 : decode cX9_withLetter 13 = .ok (.lreturn, 1) := by decide +kernel
theorem dX10_init_0 : decode cX10_init 0 = .ok (.aload_n 0, 1) := by decide +kernel
theorem dX10_init_1 : decode cX10_init 1 = .ok (.invokespecial 3, 3) := by decide +kernel
theorem dX10_init_4 : decode cX10_init 4 = .ok (.aload_n 0, 1) := by decide +kernel
theorem dX10_init_5 : decode cX10_init 5 = .ok (.bipush 21, 2) := by decide +kernel
theorem dX10_init_7 : decode cX10_init 7 = .ok (.bipush 21, 2) := by decide +kernel
theorem dX10_init_9 : decode cX10_init 9 = .ok (.multianewarray 9 2, 4) := by decide +kernel
theorem dX10_init_13 : decode cX10_init 13 = .ok (.putfield 11, 3) := by decide +kernel
theorem dX10_init_16 : decode cX10_init 16 = .ok (.aload_n 0, 1) := by decide +kernel
theorem dX10_init_17 : decode cX10_init 17 = .ok (.bipush 21, 2) := by decide +kernel
theorem dX10_init_19 : decode cX10_init 19 = .ok (.newarray .int, 2) := by decide +kernel
theorem dX10_init_21 : decode cX10_init 21 = .ok (.putfield 16, 3) := by decide +kernel
theorem dX10_init_24 : decode cX10_init 24 = .ok (.return_, 1) := by decide +kernel
theorem dX10_fillChains_0 : decode cX10_fillChains 0 = .ok (.aload_n 0, 1) := by decide +kernel
theorem dX10_fillChains_1 : decode cX10_fillChains 1 = .ok (.aload_n 1, 1) := by decide +kernel
theorem dX10_fillChains_2 : decode cX10_fillChains 2 = .ok (.getfield 20, 3) := by decide +kernel
theorem dX10_fillChains_5 : decode cX10_fillChains 5 = .ok (.putfield 26, 3) := by decide +kernel
theorem dX10_fillChains_8 : decode cX10_fillChains 8 = .ok (.iconst 0, 1) := by decide +kernel
theorem dX10_fillChains_9 : decode cX10_fillChains 9 = .ok (.istore_n 2, 1) := by decide +kernel
theorem dX10_fillChains_10 : decode cX10_fillChains 10 = .ok (.iload_n 2, 1) := by decide +kernel
theorem dX10_fillChains_11 : decode cX10_fillChains 11 = .ok (.aload_n 0, 1) := by decide +kernel
theorem dX10_fillChains_12 : decode cX10_fillChains 12 = .ok (.getfield 26, 3) := by decide +kernel
theorem dX10_fillChains_15 : decode cX10_fillChains 15 = .ok (.if_icmp .gt 29, 3) := by decide +kernel
theorem dX10_fillChains_18 : decode cX10_fillChains 18 = .ok (.iload_n 2, 1) := by decide +kernel
theorem dX10_fillChains_19 : decode cX10_fillChains 19 = .ok (.aload_n 0, 1) := by decide +kernel
theorem dX10_fillChains_20 : decode cX10_fillChains 20 = .ok (.getfield 11, 3) := by decide +kernel
theorem dX10_fillChains_23 : decode cX10_fillChains 23 = .ok (.arraylength, 1) := by decide +kernel
theorem dX10_fillChains_24 : decode cX10_fillChains 24 = .ok (.if_icmp .ge 20, 3) := by decide +kernel
theorem dX10_fillChains_27 : decode cX10_fillChains 27 = .ok (.aload_n 1, 1) := by decide +kernel
theorem dX10_fillChains_28 : decode cX10_fillChains 28 = .ok (.iload_n 2, 1) := by decide +kernel
theorem dX10_fillChains_29 : decode cX10_fillChains 29 = .ok (.aload_n 0, 1) := by decide +kernel
theorem dX10_fillChains_30 : decode cX10_fillChains 30 = .ok (.getfield 11, 3) := by decide +kernel
theorem dX10_fillChains_33 : decode cX10_fillChains 33 = .ok (.iload_n 2, 1) := by decide +kernel
theorem dX10_fillChains_34 : decode cX10_fillChains 34 = .ok (.aaload, 1) := by decide +kernel
theorem dX10_fillChains_35 : decode cX10_fillChains 35 = .ok (.invokevirtual 27, 3) := by decide +kernel
theorem dX10_fillChains_38 : decode cX10_fillChains 38 = .ok (.iinc 2 1, 3) := by decide +kernel
theorem dX10_fillChains_41 : decode cX10_fillChains 41 = .ok (.goto (-31), 3) := by decide +kernel
theorem dX10_fillChains_44 : decode cX10_fillChains 44 = .ok (.return_, 1) := by decide +kernel
theorem dX10_fillCommon_0 : decode cX10_fillCommon 0 = .ok (.aload_n 0, 1) := by decide +kernel
theorem dX10_fillCommon_1 : decode cX10_fillCommon 1 = .ok (.aload_n 2, 1) := by decide +kernel
theorem dX10_fillCommon_2 : decode cX10_fillCommon 2 = .ok (.getfield 20, 3) := by decide +kernel
theorem dX10_fillCommon_5 : decode cX10_fillCommon 5 = .ok (.putfield 26, 3) := by decide +kernel
theorem dX10_fillCommon_8 : decode cX10_fillCommon 8 = .ok (.iconst 0, 1) := by decide +kernel
theorem dX10_fillCommon_9 : decode cX10_fillCommon 9 = .ok (.istore_n 3, 1) := by decide +kernel
theorem dX10_fillCommon_10 : decode cX10_fillCommon 10 = .ok (.iload_n 3, 1) := by decide +kernel
theorem dX10_fillCommon_11 : decode cX10_fillCommon 11 = .ok (.aload_n 0, 1) := by decide +kernel
theorem dX10_fillCommon_12 : decode cX10_fillCommon 12 = .ok (.getfield 26, 3) := by decide +kernel
theorem dX10_fillCommon_15 : decode cX10_fillCommon 15 = .ok (.if_icmp .gt 25, 3) := by decide +kernel
theorem dX10_fillCommon_18 : decode cX10_fillCommon 18 = .ok (.iload_n 3, 1) := by decide +kernel
theorem dX10_fillCommon_19 : decode cX10_fillCommon 19 = .ok (.aload_n 0, 1) := by decide +kernel
theorem dX10_fillCommon_20 : decode cX10_fillCommon 20 = .ok (.getfield 11, 3) := by decide +kernel
theorem dX10_fillCommon_23 : decode cX10_fillCommon 23 = .ok (.arraylength, 1) := by decide +kernel
theorem dX10_fillCommon_24 : decode cX10_fillCommon 24 = .ok (.if_icmp .ge 16, 3) := by decide +kernel
theorem dX10_fillCommon_27 : decode cX10_fillCommon 27 = .ok (.aload_n 0, 1) := by decide +kernel
theorem dX10_fillCommon_28 : decode cX10_fillCommon 28 = .ok (.aload_n 1, 1) := by decide +kernel
theorem dX10_fillCommon_29 : decode cX10_fillCommon 29 = .ok (.aload_n 2, 1) := by decide +kernel
theorem dX10_fillCommon_30 : decode cX10_fillCommon 30 = .ok (.iload_n 3, 1) := by decide +kernel
theorem dX10_fillCommon_31 : decode cX10_fillCommon 31 = .ok (.invokevirtual 31, 3) := by decide +kernel
theorem dX10_fillCommon_34 : decode cX10_fillCommon 34 = .ok (.iinc 3 1, 3) := by decide +kernel
theorem dX10_fillCommon_37 : decode cX10_fillCommon 37 = .ok (.goto (-27), 3) := by decide +kernel
theorem dX10_fillCommon_40 : decode cX10_fillCommon 40 = .ok (.return_, 1) := by decide +kernel
theorem dX10_fillCommonFrom_0 : decode cX10_fillCommonFrom 0 = .ok (.aload_n 0, 1) := by decide +kernel
theorem dX10_fillCommonFrom_1 : decode cX10_fillCommonFrom 1 = .ok (.getfield 11, 3) := by decide +kernel
theorem dX10_fillCommonFrom_4 : decode cX10_fillCommonFrom 4 = .ok (.iload_n 3, 1) := by decide +kernel
theorem dX10_fillCommonFrom_5 : decode cX10_fillCommonFrom 5 = .ok (.aaload, 1) := by decide +kernel
theorem dX10_fillCommonFrom_6 : decode cX10_fillCommonFrom 6 = .ok (.astore 4, 2) := by decide +kernel
theorem dX10_fillCommonFrom_8 : decode cX10_fillCommonFrom 8 = .ok (.iconst 0, 1) := by decide +kernel
theorem dX10_fillCommonFrom_9 : decode cX10_fillCommonFrom 9 = .ok (.istore 5, 2) := by decide +kernel
theorem dX10_fillCommonFrom_11 : decode cX10_fillCommonFrom 11 = .ok (.iload 5, 2) := by decide +kernel
theorem dX10_fillCommonFrom_13 : decode cX10_fillCommonFrom 13 = .ok (.aload_n 0, 1) := by decide +kernel
theorem dX10_fillCommonFrom_14 : decode cX10_fillCommonFrom 14 = .ok (.getfield 16, 3) := by decide +kernel
theorem dX10_fillCommonFrom_17 : decode cX10_fillCommonFrom 17 = .ok (.arraylength, 1) := by decide +kernel
theorem dX10_fillCommonFrom_18 : decode cX10_fillCommonFrom 18 = .ok (.if_icmp .ge 17, 3) := by decide +kernel
theorem dX10_fillCommonFrom_21 : decode cX10_fillCommonFrom 21 = .ok (.aload_n 0, 1) := by decide +kernel
theorem dX10_fillCommonFrom_22 : decode cX10_fillCommonFrom 22 = .ok (.getfield 16, 3) := by decide +kernel
theorem dX10_fillCommonFrom_25 : decode cX10_fillCommonFrom 25 = .ok (.iload 5, 2) := by decide +kernel
theorem dX10_fillCommonFrom_27 : decode cX10_fillCommonFrom 27 = .ok (.iconst 0, 1) := by decide +kernel
theorem dX10_fillCommonFrom_28 : decode cX10_fillCommonFrom 28 = .ok (.iastore, 1) := by decide +kernel
theorem dX10_fillCommonFrom_29 : decode cX10_fillCommonFrom 29 = .ok (.iinc 5 1, 3) := by decide +kernel
theorem dX10_fillCommonFrom_32 : decode cX10_fillCommonFrom 32 = .ok (.goto (-21), 3) := by decide +kernel
theorem dX10_fillCommonFrom_35 : decode cX10_fillCommonFrom 35 = .ok (.aload 4, 2) := by decide +kernel
theorem dX10_fillCommonFrom_37 : decode cX10_fillCommonFrom 37 = .ok (.iload_n 3, 1) := by decide +kernel
theorem dX10_fillCommonFrom_38 : decode cX10_fillCommonFrom 38 = .ok (.iconst 0, 1) := by decide +kernel
theorem dX10_fillCommonFrom_39 : decode cX10_fillCommonFrom 39 = .ok (.iastore, 1) := by decide +kernel
theorem dX10_fillCommonFrom_40 : decode cX10_fillCommonFrom 40 = .ok (.iload_n 3, 1) := by decide +kernel
theorem dX10_fillCommonFrom_41 : decode cX10_fillCommonFrom 41 = .ok (.istore 5, 2) := by decide +kernel
theorem dX10_fillCommonFrom_43 : decode cX10_fillCommonFrom 43 = .ok (.iload 5, 2) := by decide +kernel
theorem dX10_fillCommonFrom_45 : decode cX10_fillCommonFrom 45 = .ok (.aload_n 0, 1) := by decide +kernel
theorem dX10_fillCommonFrom_46 : decode cX10_fillCommonFrom 46 = .ok (.getfield 26, 3) := by decide +kernel
theorem dX10_fillCommonFrom_49 : decode cX10_fillCommonFrom 49 = .ok (.if_icmp .ge 123, 3) := by decide +kernel
theorem dX10_fillCommonFrom_52 : decode cX10_fillCommonFrom 52 = .ok (.iconst 0, 1) := by decide +kernel
theorem dX10_fillCommonFrom_53 : decode cX10_fillCommonFrom 53 = .ok (.istore 6, 2) := by decide +kernel
theorem dX10_fillCommonFrom_55 : decode cX10_fillCommonFrom 55 = .ok (.iconst 1, 1) := by decide +kernel
theorem dX10_fillCommonFrom_56 : decode cX10_fillCommonFrom 56 = .ok (.istore 7, 2) := by decide +kernel
theorem dX10_fillCommonFrom_58 : decode cX10_fillCommonFrom 58 = .ok (.iload 7, 2) := by decide +kernel
theorem dX10_fillCommonFrom_60 : decode cX10_fillCommonFrom 60 = .ok (.aload_n 1, 1) := by decide +kernel
theorem dX10_fillCommonFrom_61 : decode cX10_fillCommonFrom 61 = .ok (.getfield 20, 3) := by decide +kernel
theorem dX10_fillCommonFrom_64 : decode cX10_fillCommonFrom 64 = .ok (.if_icmp .gt 86, 3) := by decide +kernel
theorem dX10_fillCommonFrom_67 : decode cX10_fillCommonFrom 67 = .ok (.iload 7, 2) := by decide +kernel
theorem dX10_fillCommonFrom_69 : decode cX10_fillCommonFrom 69 = .ok (.aload_n 0, 1) := by decide +kernel
theorem dX10_fillCommonFrom_70 : decode cX10_fillCommonFrom 70 = .ok (.getfield 16, 3) := by decide +kernel
theorem dX10_fillCommonFrom_73 : decode cX10_fillCommonFrom 73 = .ok (.arraylength, 1) := by decide +kernel
theorem dX10_fillCommonFrom_74 : decode cX10_fillCommonFrom 74 = .ok (.if_icmp .ge 76, 3) := by decide +kernel
theorem dX10_fillCommonFrom_77 : decode cX10_fillCommonFrom 77 = .ok (.aload_n 0, 1) := by decide +kernel
theorem dX10_fillCommonFrom_78 : decode cX10_fillCommonFrom 78 = .ok (.getfield 16, 3) := by decide +kernel
theorem dX10_fillCommonFrom_81 : decode cX10_fillCommonFrom 81 = .ok (.iload 7, 2) := by decide +kernel
theorem dX10_fillCommonFrom_83 : decode cX10_fillCommonFrom 83 = .ok (.iaload, 1) := by decide +kernel
theorem dX10_fillCommonFrom_84 : decode cX10_fillCommonFrom 84 = .ok (.istore 8, 2) := by decide +kernel
theorem dX10_fillCommonFrom_86 : decode cX10_fillCommonFrom 86 = .ok (.aload_n 1, 1) := by decide +kernel
theorem dX10_fillCommonFrom_87 : decode cX10_fillCommonFrom 87 = .ok (.getfield 35, 3) := by decide +kernel
theorem dX10_fillCommonFrom_90 : decode cX10_fillCommonFrom 90 = .ok (.iload 7, 2) := by decide +kernel
theorem dX10_fillCommonFrom_92 : decode cX10_fillCommonFrom 92 = .ok (.iconst 1, 1) := by decide +kernel
theorem dX10_fillCommonFrom_93 : decode cX10_fillCommonFrom 93 = .ok (.isub, 1) := by decide +kernel
theorem dX10_fillCommonFrom_94 : decode cX10_fillCommonFrom 94 = .ok (.iaload, 1) := by decide +kernel
theorem dX10_fillCommonFrom_95 : decode cX10_fillCommonFrom 95 = .ok (.aload_n 2, 1) := by decide +kernel
theorem dX10_fillCommonFrom_96 : decode cX10_fillCommonFrom 96 = .ok (.getfield 35, 3) := by decide +kernel
theorem dX10_fillCommonFrom_99 : decode cX10_fillCommonFrom 99 = .ok (.iload 5, 2) := by decide +kernel
theorem dX10_fillCommonFrom_101 : decode cX10_fillCommonFrom 101 = .ok (.iaload, 1) := by decide +kernel
theorem dX10_fillCommonFrom_102 : decode cX10_fillCommonFrom 102 = .ok (.if_icmp .ne 17, 3) := by decide +kernel
theorem dX10_fillCommonFrom_105 : decode cX10_fillCommonFrom 105 = .ok (.aload_n 0, 1) := by decide +kernel
theorem dX10_fillCommonFrom_106 : decode cX10_fillCommonFrom 106 = .ok (.getfield 16, 3) := by decide +kernel
theorem dX10_fillCommonFrom_109 : decode cX10_fillCommonFrom 109 = .ok (.iload 7, 2) := by decide +kernel
theorem dX10_fillCommonFrom_111 : decode cX10_fillCommonFrom 111 = .ok (.iload 6, 2) := by decide +kernel
theorem dX10_fillCommonFrom_113 : decode cX10_fillCommonFrom 113 = .ok (.iconst 1, 1) := by decide +kernel
theorem dX10_fillCommonFrom_114 : decode cX10_fillCommonFrom 114 = .ok (.iadd, 1) := by decide +kernel
theorem dX10_fillCommonFrom_115 : decode cX10_fillCommonFrom 115 = .ok (.iastore, 1) := by decide +kernel
theorem dX10_fillCommonFrom_116 : decode cX10_fillCommonFrom 116 = .ok (.goto 24, 3) := by decide +kernel
theorem dX10_fillCommonFrom_119 : decode cX10_fillCommonFrom 119 = .ok (.aload_n 0, 1) := by decide +kernel
theorem dX10_fillCommonFrom_120 : decode cX10_fillCommonFrom 120 = .ok (.getfield 16, 3) := by decide +kernel
theorem dX10_fillCommonFrom_123 : decode cX10_fillCommonFrom 123 = .ok (.iload 7, 2) := by decide +kernel
theorem dX10_fillCommonFrom_125 : decode cX10_fillCommonFrom 125 = .ok (.iload 8, 2) := by decide +kernel
theorem dX10_fillCommonFrom_127 : decode cX10_fillCommonFrom 127 = .ok (.aload_n 0, 1) := by decide +kernel
theorem dX10_fillCommonFrom_128 : decode cX10_fillCommonFrom 128 = .ok (.getfield 16, 3) := by decide +kernel
theorem dX10_fillCommonFrom_131 : decode cX10_fillCommonFrom 131 = .ok (.iload 7, 2) := by decide +kernel
theorem dX10_fillCommonFrom_133 : decode cX10_fillCommonFrom 133 = .ok (.iconst 1, 1) := by decide +kernel
theorem dX10_fillCommonFrom_134 : decode cX10_fillCommonFrom 134 = .ok (.isub, 1) := by decide +kernel
theorem dX10_fillCommonFrom_135 : decode cX10_fillCommonFrom 135 = .ok (.iaload, 1) := by decide +kernel
theorem dX10_fillCommonFrom_136 : decode cX10_fillCommonFrom 136 = .ok (.invokestatic 38, 3) := by decide +kernel
theorem dX10_fillCommonFrom_139 : decode cX10_fillCommonFrom 139 = .ok (.iastore, 1) := by decide +kernel
theorem dX10_fillCommonFrom_140 : decode cX10_fillCommonFrom 140 = .ok (.iload 8, 2) := by decide +kernel
theorem dX10_fillCommonFrom_142 : decode cX10_fillCommonFrom 142 = .ok (.istore 6, 2) := by decide +kernel
theorem dX10_fillCommonFrom_144 : decode cX10_fillCommonFrom 144 = .ok (.iinc 7 1, 3) := by decide +kernel
theorem dX10_fillCommonFrom_147 : decode cX10_fillCommonFrom 147 = .ok (.goto (-89), 3) := by decide +kernel
theorem dX10_fillCommonFrom_150 : decode cX10_fillCommonFrom 150 = .ok (.aload 4, 2) := by decide +kernel
theorem dX10_fillCommonFrom_152 : decode cX10_fillCommonFrom 152 = .ok (.iload 5, 2) := by decide +kernel
theorem dX10_fillCommonFrom_154 : decode cX10_fillCommonFrom 154 = .ok (.iconst 1, 1) := by decide +kernel
theorem dX10_fillCommonFrom_155 : decode cX10_fillCommonFrom 155 = .ok (.iadd, 1) := by decide +kernel
theorem dX10_fillCommonFrom_156 : decode cX10_fillCommonFrom 156 = .ok (.aload_n 0, 1) := by decide +kernel
theorem dX10_fillCommonFrom_157 : decode cX10_fillCommonFrom 157 = .ok (.getfield 16, 3) := by decide +kernel
theorem dX10_fillCommonFrom_160 : decode cX10_fillCommonFrom 160 = .ok (.aload_n 1, 1) := by decide +kernel
theorem dX10_fillCommonFrom_161 : decode cX10_fillCommonFrom 161 = .ok (.getfield 20, 3) := by decide +kernel
theorem dX10_fillCommonFrom_164 : decode cX10_fillCommonFrom 164 = .ok (.iaload, 1) := by decide +kernel
theorem dX10_fillCommonFrom_165 : decode cX10_fillCommonFrom 165 = .ok (.iastore, 1) := by decide +kernel
theorem dX10_fillCommonFrom_166 : decode cX10_fillCommonFrom 166 = .ok (.iinc 5 1, 3) := by decide +kernel
theorem dX10_fillCommonFrom_169 : decode cX10_fillCommonFrom 169 = .ok (.goto (-126), 3) := by decide +kernel
theorem dX10_fillCommonFrom_172 : decode cX10_fillCommonFrom 172 = .ok (.return_, 1) := by decide +kernel
theorem dX10_lengthOf_0 : decode cX10_lengthOf 0 = .ok (.iload_n 1, 1) := by decide +kernel
theorem dX10_lengthOf_1 : decode cX10_lengthOf 1 = .ok (.ifCond .lt 25, 3) := by decide +kernel
theorem dX10_lengthOf_4 : decode cX10_lengthOf 4 = .ok (.iload_n 1, 1) := by decide +kernel
theorem dX10_lengthOf_5 : decode cX10_lengthOf 5 = .ok (.iload_n 2, 1) := by decide +kernel
theorem dX10_lengthOf_6 : decode cX10_lengthOf 6 = .ok (.if_icmp .gt 20, 3) := by decide +kernel
theorem dX10_lengthOf_9 : decode cX10_lengthOf 9 = .ok (.iload_n 2, 1) := by decide +kernel
theorem dX10_lengthOf_10 : decode cX10_lengthOf 10 = .ok (.aload_n 0, 1) := by decide +kernel
theorem dX10_lengthOf_11 : decode cX10_lengthOf 11 = .ok (.getfield 26, 3) := by decide +kernel
theorem dX10_lengthOf_14 : decode cX10_lengthOf 14 = .ok (.if_icmp .gt 12, 3) := by decide +kernel
theorem dX10_lengthOf_17 : decode cX10_lengthOf 17 = .ok (.iload_n 2, 1) := by decide +kernel
theorem dX10_lengthOf_18 : decode cX10_lengthOf 18 = .ok (.aload_n 0, 1) := by decide +kernel
theorem dX10_lengthOf_19 : decode cX10_lengthOf 19 = .ok (.getfield 11, 3) := by decide +kernel
theorem dX10_lengthOf_22 : decode cX10_lengthOf 22 = .ok (.arraylength, 1) := by decide +kernel
theorem dX10_lengthOf_23 : decode cX10_lengthOf 23 = .ok (.if_icmp .lt 5, 3) := by decide +kernel
theorem dX10_lengthOf_26 : decode cX10_lengthOf 26 = .ok (.iconst 0, 1) := by decide +kernel
theorem dX10_lengthOf_27 : decode cX10_lengthOf 27 = .ok (.ireturn, 1) := by decide +kernel
theorem dX10_lengthOf_28 : decode cX10_lengthOf 28 = .ok (.aload_n 0, 1) := by decide +kernel
theorem dX10_lengthOf_29 : decode cX10_lengthOf 29 = .ok (.getfield 11, 3) := by decide +kernel
theorem dX10_lengthOf_32 : decode cX10_lengthOf 32 = .ok (.iload_n 1, 1) := by decide +kernel
theorem dX10_lengthOf_33 : decode cX10_lengthOf 33 = .ok (.aaload, 1) := by decide +kernel
theorem dX10_lengthOf_34 : decode cX10_lengthOf 34 = .ok (.iload_n 2, 1) := by decide +kernel
theorem dX10_lengthOf_35 : decode cX10_lengthOf 35 = .ok (.iaload, 1) := by decide +kernel
theorem dX10_lengthOf_36 : decode cX10_lengthOf 36 = .ok (.ireturn, 1) := by decide +kernel
theorem dX10_left_0 : decode cX10_left 0 = .ok (.iload_n 1, 1) := by decide +kernel
theorem dX10_left_1 : decode cX10_left 1 = .ok (.iload_n 2, 1) := by decide +kernel
theorem dX10_left_2 : decode cX10_left 2 = .ok (.if_icmp .le 7, 3) := by decide +kernel
theorem dX10_left_5 : decode cX10_left 5 = .ok (.iconst 0, 1) := by decide +kernel
theorem dX10_left_6 : decode cX10_left 6 = .ok (.goto 13, 3) := by decide +kernel
theorem dX10_left_9 : decode cX10_left 9 = .ok (.iload_n 2, 1) := by decide +kernel
theorem dX10_left_10 : decode cX10_left 10 = .ok (.iload_n 1, 1) := by decide +kernel
theorem dX10_left_11 : decode cX10_left 11 = .ok (.isub, 1) := by decide +kernel
theorem dX10_left_12 : decode cX10_left 12 = .ok (.aload_n 0, 1) := by decide +kernel
theorem dX10_left_13 : decode cX10_left 13 = .ok (.iload_n 1, 1) := by decide +kernel
theorem dX10_left_14 : decode cX10_left 14 = .ok (.iload_n 2, 1) := by decide +kernel
theorem dX10_left_15 : decode cX10_left 15 = .ok (.invokevirtual 44, 3) := by decide +kernel
theorem dX10_left_18 : decode cX10_left 18 = .ok (.isub, 1) := by decide +kernel
theorem dX10_left_19 : decode cX10_left 19 = .ok (.ireturn, 1) := by decide +kernel
theorem dX10_strandFrom_0 : decode cX10_strandFrom 0 = .ok (.iload_n 1, 1) := by decide +kernel
theorem dX10_strandFrom_1 : decode cX10_strandFrom 1 = .ok (.istore_n 2, 1) := by decide +kernel
theorem dX10_strandFrom_2 : decode cX10_strandFrom 2 = .ok (.iload_n 2, 1) := by decide +kernel
theorem dX10_strandFrom_3 : decode cX10_strandFrom 3 = .ok (.aload_n 0, 1) := by decide +kernel
theorem dX10_strandFrom_4 : decode cX10_strandFrom 4 = .ok (.getfield 26, 3) := by decide +kernel
theorem dX10_strandFrom_7 : decode cX10_strandFrom 7 = .ok (.if_icmp .ge 52, 3) := by decide +kernel
theorem dX10_strandFrom_10 : decode cX10_strandFrom 10 = .ok (.aload_n 0, 1) := by decide +kernel
theorem dX10_strandFrom_11 : decode cX10_strandFrom 11 = .ok (.iload_n 1, 1) := by decide +kernel
theorem dX10_strandFrom_12 : decode cX10_strandFrom 12 = .ok (.iload_n 2, 1) := by decide +kernel
theorem dX10_strandFrom_13 : decode cX10_strandFrom 13 = .ok (.iconst 1, 1) := by decide +kernel
theorem dX10_strandFrom_14 : decode cX10_strandFrom 14 = .ok (.iadd, 1) := by decide +kernel
theorem dX10_strandFrom_15 : decode cX10_strandFrom 15 = .ok (.invokevirtual 47, 3) := by decide +kernel
theorem dX10_strandFrom_18 : decode cX10_strandFrom 18 = .ok (.aload_n 0, 1) := by decide +kernel
theorem dX10_strandFrom_19 : decode cX10_strandFrom 19 = .ok (.iload_n 1, 1) := by decide +kernel
theorem dX10_strandFrom_20 : decode cX10_strandFrom 20 = .ok (.iconst 1, 1) := by decide +kernel
theorem dX10_strandFrom_21 : decode cX10_strandFrom 21 = .ok (.iadd, 1) := by decide +kernel
theorem dX10_strandFrom_22 : decode cX10_strandFrom 22 = .ok (.iload_n 2, 1) := by decide +kernel
theorem dX10_strandFrom_23 : decode cX10_strandFrom 23 = .ok (.iconst 1, 1) := by decide +kernel
theorem dX10_strandFrom_24 : decode cX10_strandFrom 24 = .ok (.iadd, 1) := by decide +kernel
theorem dX10_strandFrom_25 : decode cX10_strandFrom 25 = .ok (.invokevirtual 47, 3) := by decide +kernel
theorem dX10_strandFrom_28 : decode cX10_strandFrom 28 = .ok (.isub, 1) := by decide +kernel
theorem dX10_strandFrom_29 : decode cX10_strandFrom 29 = .ok (.aload_n 0, 1) := by decide +kernel
theorem dX10_strandFrom_30 : decode cX10_strandFrom 30 = .ok (.iload_n 1, 1) := by decide +kernel
theorem dX10_strandFrom_31 : decode cX10_strandFrom 31 = .ok (.iload_n 2, 1) := by decide +kernel
theorem dX10_strandFrom_32 : decode cX10_strandFrom 32 = .ok (.invokevirtual 47, 3) := by decide +kernel
theorem dX10_strandFrom_35 : decode cX10_strandFrom 35 = .ok (.isub, 1) := by decide +kernel
theorem dX10_strandFrom_36 : decode cX10_strandFrom 36 = .ok (.aload_n 0, 1) := by decide +kernel
theorem dX10_strandFrom_37 : decode cX10_strandFrom 37 = .ok (.iload_n 1, 1) := by decide +kernel
theorem dX10_strandFrom_38 : decode cX10_strandFrom 38 = .ok (.iconst 1, 1) := by decide +kernel
theorem dX10_strandFrom_39 : decode cX10_strandFrom 39 = .ok (.iadd, 1) := by decide +kernel
theorem dX10_strandFrom_40 : decode cX10_strandFrom 40 = .ok (.iload_n 2, 1) := by decide +kernel
theorem dX10_strandFrom_41 : decode cX10_strandFrom 41 = .ok (.invokevirtual 47, 3) := by decide +kernel
theorem dX10_strandFrom_44 : decode cX10_strandFrom 44 = .ok (.iadd, 1) := by decide +kernel
theorem dX10_strandFrom_45 : decode cX10_strandFrom 45 = .ok (.istore_n 3, 1) := by decide +kernel
theorem dX10_strandFrom_46 : decode cX10_strandFrom 46 = .ok (.iload_n 3, 1) := by decide +kernel
theorem dX10_strandFrom_47 : decode cX10_strandFrom 47 = .ok (.iconst 1, 1) := by decide +kernel
theorem dX10_strandFrom_48 : decode cX10_strandFrom 48 = .ok (.if_icmp .ne 5, 3) := by decide +kernel
theorem dX10_strandFrom_51 : decode cX10_strandFrom 51 = .ok (.iload_n 2, 1) := by decide +kernel
theorem dX10_strandFrom_52 : decode cX10_strandFrom 52 = .ok (.ireturn, 1) := by decide +kernel
theorem dX10_strandFrom_53 : decode cX10_strandFrom 53 = .ok (.iinc 2 1, 3) := by decide +kernel
theorem dX10_strandFrom_56 : decode cX10_strandFrom 56 = .ok (.goto (-54), 3) := by decide +kernel
theorem dX10_strandFrom_59 : decode cX10_strandFrom 59 = .ok (.iconst (-1), 1) := by decide +kernel
theorem dX10_strandFrom_60 : decode cX10_strandFrom 60 = .ok (.ireturn, 1) := by decide +kernel
theorem dX10_strandsWithin_0 : decode cX10_strandsWithin 0 = .ok (.iconst 0, 1) := by decide +kernel
theorem dX10_strandsWithin_1 : decode cX10_strandsWithin 1 = .ok (.istore_n 3, 1) := by decide +kernel
theorem dX10_strandsWithin_2 : decode cX10_strandsWithin 2 = .ok (.iload_n 1, 1) := by decide +kernel
theorem dX10_strandsWithin_3 : decode cX10_strandsWithin 3 = .ok (.istore 4, 2) := by decide +kernel
theorem dX10_strandsWithin_5 : decode cX10_strandsWithin 5 = .ok (.iload 4, 2) := by decide +kernel
theorem dX10_strandsWithin_7 : decode cX10_strandsWithin 7 = .ok (.iload_n 2, 1) := by decide +kernel
theorem dX10_strandsWithin_8 : decode cX10_strandsWithin 8 = .ok (.if_icmp .ge 32, 3) := by decide +kernel
theorem dX10_strandsWithin_11 : decode cX10_strandsWithin 11 = .ok (.aload_n 0, 1) := by decide +kernel
theorem dX10_strandsWithin_12 : decode cX10_strandsWithin 12 = .ok (.iload 4, 2) := by decide +kernel
theorem dX10_strandsWithin_14 : decode cX10_strandsWithin 14 = .ok (.invokevirtual 50, 3) := by decide +kernel
theorem dX10_strandsWithin_17 : decode cX10_strandsWithin 17 = .ok (.istore 5, 2) := by decide +kernel
theorem dX10_strandsWithin_19 : decode cX10_strandsWithin 19 = .ok (.iload 5, 2) := by decide +kernel
theorem dX10_strandsWithin_21 : decode cX10_strandsWithin 21 = .ok (.iconst (-1), 1) := by decide +kernel
theorem dX10_strandsWithin_22 : decode cX10_strandsWithin 22 = .ok (.if_icmp .eq 12, 3) := by decide +kernel
theorem dX10_strandsWithin_25 : decode cX10_strandsWithin 25 = .ok (.iload 5, 2) := by decide +kernel
theorem dX10_strandsWithin_27 : decode cX10_strandsWithin 27 = .ok (.iload_n 2, 1) := by decide +kernel
theorem dX10_strandsWithin_28 : decode cX10_strandsWithin 28 = .ok (.if_icmp .ge 6, 3) := by decide +kernel
theorem dX10_strandsWithin_31 : decode cX10_strandsWithin 31 = .ok (.iinc 3 1, 3) := by decide +kernel
theorem dX10_strandsWithin_34 : decode cX10_strandsWithin 34 = .ok (.iinc 4 1, 3) := by decide +kernel
theorem dX10_strandsWithin_37 : decode cX10_strandsWithin 37 = .ok (.goto (-32), 3) := by decide +kernel
theorem dX10_strandsWithin_40 : decode cX10_strandsWithin 40 = .ok (.iload_n 3, 1) := by decide +kernel
theorem dX10_strandsWithin_41 : decode cX10_strandsWithin 41 = .ok (.ireturn, 1) := by decide +kernel
theorem dX10_having_0 : decode cX10_having 0 = .ok (.iconst 0, 1) := by decide +kernel
theorem dX10_having_1 : decode cX10_having 1 = .ok (.istore_n 2, 1) := by decide +kernel
theorem dX10_having_2 : decode cX10_having 2 = .ok (.iconst 0, 1) := by decide +kernel
theorem dX10_having_3 : decode cX10_having 3 = .ok (.istore_n 3, 1) := by decide +kernel
theorem dX10_having_4 : decode cX10_having 4 = .ok (.iload_n 3, 1) := by decide +kernel
theorem dX10_having_5 : decode cX10_having 5 = .ok (.aload_n 0, 1) := by decide +kernel
theorem dX10_having_6 : decode cX10_having 6 = .ok (.getfield 26, 3) := by decide +kernel
theorem dX10_having_9 : decode cX10_having 9 = .ok (.if_icmp .gt 41, 3) := by decide +kernel
theorem dX10_having_12 : decode cX10_having 12 = .ok (.iload_n 3, 1) := by decide +kernel
theorem dX10_having_13 : decode cX10_having 13 = .ok (.istore 4, 2) := by decide +kernel
theorem dX10_having_15 : decode cX10_having 15 = .ok (.iload 4, 2) := by decide +kernel
theorem dX10_having_17 : decode cX10_having 17 = .ok (.aload_n 0, 1) := by decide +kernel
theorem dX10_having_18 : decode cX10_having 18 = .ok (.getfield 26, 3) := by decide +kernel
theorem dX10_having_21 : decode cX10_having 21 = .ok (.if_icmp .gt 23, 3) := by decide +kernel
theorem dX10_having_24 : decode cX10_having 24 = .ok (.aload_n 0, 1) := by decide +kernel
theorem dX10_having_25 : decode cX10_having 25 = .ok (.iload_n 3, 1) := by decide +kernel
theorem dX10_having_26 : decode cX10_having 26 = .ok (.iload 4, 2) := by decide +kernel
theorem dX10_having_28 : decode cX10_having 28 = .ok (.invokevirtual 44, 3) := by decide +kernel
theorem dX10_having_31 : decode cX10_having 31 = .ok (.iload_n 1, 1) := by decide +kernel
theorem dX10_having_32 : decode cX10_having 32 = .ok (.if_icmp .ne 6, 3) := by decide +kernel
theorem dX10_having_35 : decode cX10_having 35 = .ok (.iinc 2 1, 3) := by decide +kernel
theorem dX10_having_38 : decode cX10_having 38 = .ok (.iinc 4 1, 3) := by decide +kernel
theorem dX10_having_41 : decode cX10_having 41 = .ok (.goto (-26), 3) := by decide +kernel
theorem dX10_having_44 : decode cX10_having 44 = .ok (.iinc 3 1, 3) := by decide +kernel
theorem dX10_having_47 : decode cX10_having 47 = .ok (.goto (-43), 3) := by decide +kernel
theorem dX10_having_50 : decode cX10_having 50 = .ok (.iload_n 2, 1) := by decide +kernel
theorem dX10_having_51 : decode cX10_having 51 = .ok (.ireturn, 1) := by decide +kernel
theorem dX10_bestFrom_0 : decode cX10_bestFrom 0 = .ok (.iconst 0, 1) := by decide +kernel
theorem dX10_bestFrom_1 : decode cX10_bestFrom 1 = .ok (.istore_n 2, 1) := by decide +kernel
theorem dX10_bestFrom_2 : decode cX10_bestFrom 2 = .ok (.iconst 1, 1) := by decide +kernel
theorem dX10_bestFrom_3 : decode cX10_bestFrom 3 = .ok (.istore_n 3, 1) := by decide +kernel
theorem dX10_bestFrom_4 : decode cX10_bestFrom 4 = .ok (.iload_n 3, 1) := by decide +kernel
theorem dX10_bestFrom_5 : decode cX10_bestFrom 5 = .ok (.aload_n 0, 1) := by decide +kernel
theorem dX10_bestFrom_6 : decode cX10_bestFrom 6 = .ok (.getfield 26, 3) := by decide +kernel
theorem dX10_bestFrom_9 : decode cX10_bestFrom 9 = .ok (.iload_n 1, 1) := by decide +kernel
theorem dX10_bestFrom_10 : decode cX10_bestFrom 10 = .ok (.isub, 1) := by decide +kernel
theorem dX10_bestFrom_11 : decode cX10_bestFrom 11 = .ok (.if_icmp .gt 30, 3) := by decide +kernel
theorem dX10_bestFrom_14 : decode cX10_bestFrom 14 = .ok (.aload_n 0, 1) := by decide +kernel
theorem dX10_bestFrom_15 : decode cX10_bestFrom 15 = .ok (.iload_n 3, 1) := by decide +kernel
theorem dX10_bestFrom_16 : decode cX10_bestFrom 16 = .ok (.iload_n 3, 1) := by decide +kernel
theorem dX10_bestFrom_17 : decode cX10_bestFrom 17 = .ok (.iload_n 1, 1) := by decide +kernel
theorem dX10_bestFrom_18 : decode cX10_bestFrom 18 = .ok (.iadd, 1) := by decide +kernel
theorem dX10_bestFrom_19 : decode cX10_bestFrom 19 = .ok (.invokevirtual 44, 3) := by decide +kernel
theorem dX10_bestFrom_22 : decode cX10_bestFrom 22 = .ok (.aload_n 0, 1) := by decide +kernel
theorem dX10_bestFrom_23 : decode cX10_bestFrom 23 = .ok (.iload_n 2, 1) := by decide +kernel
theorem dX10_bestFrom_24 : decode cX10_bestFrom 24 = .ok (.iload_n 2, 1) := by decide +kernel
theorem dX10_bestFrom_25 : decode cX10_bestFrom 25 = .ok (.iload_n 1, 1) := by decide +kernel
theorem dX10_bestFrom_26 : decode cX10_bestFrom 26 = .ok (.iadd, 1) := by decide +kernel
theorem dX10_bestFrom_27 : decode cX10_bestFrom 27 = .ok (.invokevirtual 44, 3) := by decide +kernel
theorem dX10_bestFrom_30 : decode cX10_bestFrom 30 = .ok (.if_icmp .le 5, 3) := by decide +kernel
theorem dX10_bestFrom_33 : decode cX10_bestFrom 33 = .ok (.iload_n 3, 1) := by decide +kernel
theorem dX10_bestFrom_34 : decode cX10_bestFrom 34 = .ok (.istore_n 2, 1) := by decide +kernel
theorem dX10_bestFrom_35 : decode cX10_bestFrom 35 = .ok (.iinc 3 1, 3) := by decide +kernel
theorem dX10_bestFrom_38 : decode cX10_bestFrom 38 = .ok (.goto (-34), 3) := by decide +kernel
theorem dX10_bestFrom_41 : decode cX10_bestFrom 41 = .ok (.iload_n 2, 1) := by decide +kernel
theorem dX10_bestFrom_42 : decode cX10_bestFrom 42 = .ok (.ireturn, 1) := by decide +kernel
theorem dX10_narrowest_0 : decode cX10_narrowest 0 = .ok (.iconst 0, 1) := by decide +kernel
theorem dX10_narrowest_1 : decode cX10_narrowest 1 = .ok (.istore_n 2, 1) := by decide +kernel
theorem dX10_narrowest_2 : decode cX10_narrowest 2 = .ok (.iload_n 2, 1) := by decide +kernel
theorem dX10_narrowest_3 : decode cX10_narrowest 3 = .ok (.aload_n 0, 1) := by decide +kernel
theorem dX10_narrowest_4 : decode cX10_narrowest 4 = .ok (.getfield 26, 3) := by decide +kernel
theorem dX10_narrowest_7 : decode cX10_narrowest 7 = .ok (.if_icmp .gt 48, 3) := by decide +kernel
theorem dX10_narrowest_10 : decode cX10_narrowest 10 = .ok (.iconst 0, 1) := by decide +kernel
theorem dX10_narrowest_11 : decode cX10_narrowest 11 = .ok (.istore_n 3, 1) := by decide +kernel
theorem dX10_narrowest_12 : decode cX10_narrowest 12 = .ok (.iload_n 3, 1) := by decide +kernel
theorem dX10_narrowest_13 : decode cX10_narrowest 13 = .ok (.aload_n 0, 1) := by decide +kernel
theorem dX10_narrowest_14 : decode cX10_narrowest 14 = .ok (.getfield 26, 3) := by decide +kernel
theorem dX10_narrowest_17 : decode cX10_narrowest 17 = .ok (.iload_n 2, 1) := by decide +kernel
theorem dX10_narrowest_18 : decode cX10_narrowest 18 = .ok (.isub, 1) := by decide +kernel
theorem dX10_narrowest_19 : decode cX10_narrowest 19 = .ok (.if_icmp .gt 30, 3) := by decide +kernel
theorem dX10_narrowest_22 : decode cX10_narrowest 22 = .ok (.aload_n 0, 1) := by decide +kernel
theorem dX10_narrowest_23 : decode cX10_narrowest 23 = .ok (.iload_n 3, 1) := by decide +kernel
theorem dX10_narrowest_24 : decode cX10_narrowest 24 = .ok (.iload_n 3, 1) := by decide +kernel
theorem dX10_narrowest_25 : decode cX10_narrowest 25 = .ok (.iload_n 2, 1) := by decide +kernel
theorem dX10_narrowest_26 : decode cX10_narrowest 26 = .ok (.iadd, 1) := by decide +kernel
theorem dX10_narrowest_27 : decode cX10_narrowest 27 = .ok (.invokevirtual 44, 3) := by decide +kernel
theorem dX10_narrowest_30 : decode cX10_narrowest 30 = .ok (.iload_n 1, 1) := by decide +kernel
theorem dX10_narrowest_31 : decode cX10_narrowest 31 = .ok (.if_icmp .lt 12, 3) := by decide +kernel
theorem dX10_narrowest_34 : decode cX10_narrowest 34 = .ok (.bipush 32, 2) := by decide +kernel
theorem dX10_narrowest_36 : decode cX10_narrowest 36 = .ok (.iload_n 3, 1) := by decide +kernel
theorem dX10_narrowest_37 : decode cX10_narrowest 37 = .ok (.imul, 1) := by decide +kernel
theorem dX10_narrowest_38 : decode cX10_narrowest 38 = .ok (.iload_n 3, 1) := by decide +kernel
theorem dX10_narrowest_39 : decode cX10_narrowest 39 = .ok (.iadd, 1) := by decide +kernel
theorem dX10_narrowest_40 : decode cX10_narrowest 40 = .ok (.iload_n 2, 1) := by decide +kernel
theorem dX10_narrowest_41 : decode cX10_narrowest 41 = .ok (.iadd, 1) := by decide +kernel
theorem dX10_narrowest_42 : decode cX10_narrowest 42 = .ok (.ireturn, 1) := by decide +kernel
theorem dX10_narrowest_43 : decode cX10_narrowest 43 = .ok (.iinc 3 1, 3) := by decide +kernel
theorem dX10_narrowest_46 : decode cX10_narrowest 46 = .ok (.goto (-34), 3) := by decide +kernel
theorem dX10_narrowest_49 : decode cX10_narrowest 49 = .ok (.iinc 2 1, 3) := by decide +kernel
theorem dX10_narrowest_52 : decode cX10_narrowest 52 = .ok (.goto (-50), 3) := by decide +kernel
theorem dX10_narrowest_55 : decode cX10_narrowest 55 = .ok (.iconst (-1), 1) := by decide +kernel
theorem dX10_narrowest_56 : decode cX10_narrowest 56 = .ok (.ireturn, 1) := by decide +kernel
theorem dX11_init_0 : decode cX11_init 0 = .ok (.aload_n 0, 1) := by decide +kernel
theorem dX11_init_1 : decode cX11_init 1 = .ok (.invokespecial 1, 3) := by decide +kernel
theorem dX11_init_4 : decode cX11_init 4 = .ok (.aload_n 0, 1) := by decide +kernel
theorem dX11_init_5 : decode cX11_init 5 = .ok (.new 7, 3) := by decide +kernel
theorem dX11_init_8 : decode cX11_init 8 = .ok (.dup, 1) := by decide +kernel
theorem dX11_init_9 : decode cX11_init 9 = .ok (.invokespecial 9, 3) := by decide +kernel
theorem dX11_init_12 : decode cX11_init 12 = .ok (.putfield 10, 3) := by decide +kernel
theorem dX11_init_15 : decode cX11_init 15 = .ok (.aload_n 0, 1) := by decide +kernel
theorem dX11_init_16 : decode cX11_init 16 = .ok (.new 16, 3) := by decide +kernel
theorem dX11_init_19 : decode cX11_init 19 = .ok (.dup, 1) := by decide +kernel
theorem dX11_init_20 : decode cX11_init 20 = .ok (.invokespecial 18, 3) := by decide +kernel
theorem dX11_init_23 : decode cX11_init 23 = .ok (.putfield 19, 3) := by decide +kernel
theorem dX11_init_26 : decode cX11_init 26 = .ok (.aload_n 0, 1) := by decide +kernel
theorem dX11_init_27 : decode cX11_init 27 = .ok (.new 23, 3) := by decide +kernel
theorem dX11_init_30 : decode cX11_init 30 = .ok (.dup, 1) := by decide +kernel
theorem dX11_init_31 : decode cX11_init 31 = .ok (.invokespecial 25, 3) := by decide +kernel
theorem dX11_init_34 : decode cX11_init 34 = .ok (.putfield 26, 3) := by decide +kernel
theorem dX11_init_37 : decode cX11_init 37 = .ok (.aload_n 0, 1) := by decide +kernel
theorem dX11_init_38 : decode cX11_init 38 = .ok (.new 23, 3) := by decide +kernel
theorem dX11_init_41 : decode cX11_init 41 = .ok (.dup, 1) := by decide +kernel
theorem dX11_init_42 : decode cX11_init 42 = .ok (.invokespecial 25, 3) := by decide +kernel
theorem dX11_init_45 : decode cX11_init 45 = .ok (.putfield 30, 3) := by decide +kernel
theorem dX11_init_48 : decode cX11_init 48 = .ok (.aload_n 0, 1) := by decide +kernel
theorem dX11_init_49 : decode cX11_init 49 = .ok (.new 23, 3) := by decide +kernel
theorem dX11_init_52 : decode cX11_init 52 = .ok (.dup, 1) := by decide +kernel
theorem dX11_init_53 : decode cX11_init 53 = .ok (.invokespecial 25, 3) := by decide +kernel
theorem dX11_init_56 : decode cX11_init 56 = .ok (.putfield 33, 3) := by decide +kernel
theorem dX11_init_59 : decode cX11_init 59 = .ok (.aload_n 0, 1) := by decide +kernel
theorem dX11_init_60 : decode cX11_init 60 = .ok (.iconst 4, 1) := by decide +kernel
theorem dX11_init_61 : decode cX11_init 61 = .ok (.anewarray 23, 3) := by decide +kernel
theorem dX11_init_64 : decode cX11_init 64 = .ok (.putfield 36, 3) := by decide +kernel
theorem dX11_init_67 : decode cX11_init 67 = .ok (.aload_n 0, 1) := by decide +kernel
theorem dX11_init_68 : decode cX11_init 68 = .ok (.iconst 4, 1) := by decide +kernel
theorem dX11_init_69 : decode cX11_init 69 = .ok (.newarray .boolean, 2) := by decide +kernel
theorem dX11_init_71 : decode cX11_init 71 = .ok (.putfield 40, 3) := by decide +kernel
theorem dX11_init_74 : decode cX11_init 74 = .ok (.aload_n 0, 1) := by decide +kernel
theorem dX11_init_75 : decode cX11_init 75 = .ok (.new 44, 3) := by decide +kernel
theorem dX11_init_78 : decode cX11_init 78 = .ok (.dup, 1) := by decide +kernel
theorem dX11_init_79 : decode cX11_init 79 = .ok (.invokespecial 46, 3) := by decide +kernel
theorem dX11_init_82 : decode cX11_init 82 = .ok (.putfield 47, 3) := by decide +kernel
theorem dX11_init_85 : decode cX11_init 85 = .ok (.aload_n 0, 1) := by decide +kernel
theorem dX11_init_86 : decode cX11_init 86 = .ok (.new 51, 3) := by decide +kernel
theorem dX11_init_89 : decode cX11_init 89 = .ok (.dup, 1) := by decide +kernel
theorem dX11_init_90 : decode cX11_init 90 = .ok (.bipush 30, 2) := by decide +kernel
theorem dX11_init_92 : decode cX11_init 92 = .ok (.invokespecial 53, 3) := by decide +kernel
theorem dX11_init_95 : decode cX11_init 95 = .ok (.putfield 56, 3) := by decide +kernel
theorem dX11_init_98 : decode cX11_init 98 = .ok (.aload_n 0, 1) := by decide +kernel
theorem dX11_init_99 : decode cX11_init 99 = .ok (.new 51, 3) := by decide +kernel
theorem dX11_init_102 : decode cX11_init 102 = .ok (.dup, 1) := by decide +kernel
theorem dX11_init_103 : decode cX11_init 103 = .ok (.bipush 16, 2) := by decide +kernel
theorem dX11_init_105 : decode cX11_init 105 = .ok (.invokespecial 53, 3) := by decide +kernel
theorem dX11_init_108 : decode cX11_init 108 = .ok (.putfield 60, 3) := by decide +kernel
theorem dX11_init_111 : decode cX11_init 111 = .ok (.aload_n 0, 1) := by decide +kernel
theorem dX11_init_112 : decode cX11_init 112 = .ok (.new 63, 3) := by decide +kernel
theorem dX11_init_115 : decode cX11_init 115 = .ok (.dup, 1) := by decide +kernel
theorem dX11_init_116 : decode cX11_init 116 = .ok (.invokespecial 65, 3) := by decide +kernel
theorem dX11_init_119 : decode cX11_init 119 = .ok (.putfield 66, 3) := by decide +kernel
theorem dX11_init_122 : decode cX11_init 122 = .ok (.aload_n 0, 1) := by decide +kernel
theorem dX11_init_123 : decode cX11_init 123 = .ok (.new 63, 3) := by decide +kernel
theorem dX11_init_126 : decode cX11_init 126 = .ok (.dup, 1) := by decide +kernel
theorem dX11_init_127 : decode cX11_init 127 = .ok (.invokespecial 65, 3) := by decide +kernel
theorem dX11_init_130 : decode cX11_init 130 = .ok (.putfield 70, 3) := by decide +kernel
theorem dX11_init_133 : decode cX11_init 133 = .ok (.aload_n 0, 1) := by decide +kernel
theorem dX11_init_134 : decode cX11_init 134 = .ok (.new 73, 3) := by decide +kernel
theorem dX11_init_137 : decode cX11_init 137 = .ok (.dup, 1) := by decide +kernel
theorem dX11_init_138 : decode cX11_init 138 = .ok (.invokespecial 75, 3) := by decide +kernel
theorem dX11_init_141 : decode cX11_init 141 = .ok (.putfield 76, 3) := by decide +kernel
theorem dX11_init_144 : decode cX11_init 144 = .ok (.aload_n 0, 1) := by decide +kernel
theorem dX11_init_145 : decode cX11_init 145 = .ok (.new 80, 3) := by decide +kernel
theorem dX11_init_148 : decode cX11_init 148 = .ok (.dup, 1) := by decide +kernel
theorem dX11_init_149 : decode cX11_init 149 = .ok (.invokespecial 82, 3) := by decide +kernel
theorem dX11_init_152 : decode cX11_init 152 = .ok (.putfield 83, 3) := by decide +kernel
theorem dX11_init_155 : decode cX11_init 155 = .ok (.aload_n 0, 1) := by decide +kernel
theorem dX11_init_156 : decode cX11_init 156 = .ok (.new 87, 3) := by decide +kernel
theorem dX11_init_159 : decode cX11_init 159 = .ok (.dup, 1) := by decide +kernel
theorem dX11_init_160 : decode cX11_init 160 = .ok (.invokespecial 89, 3) := by decide +kernel
theorem dX11_init_163 : decode cX11_init 163 = .ok (.putfield 90, 3) := by decide +kernel
theorem dX11_init_166 : decode cX11_init 166 = .ok (.aload_n 0, 1) := by decide +kernel
theorem dX11_init_167 : decode cX11_init 167 = .ok (.new 94, 3) := by decide +kernel
theorem dX11_init_170 : decode cX11_init 170 = .ok (.dup, 1) := by decide +kernel
theorem dX11_init_171 : decode cX11_init 171 = .ok (.invokespecial 96, 3) := by decide +kernel
theorem dX11_init_174 : decode cX11_init 174 = .ok (.putfield 97, 3) := by decide +kernel
theorem dX11_init_177 : decode cX11_init 177 = .ok (.aload_n 0, 1) := by decide +kernel
theorem dX11_init_178 : decode cX11_init 178 = .ok (.bipush 21, 2) := by decide +kernel
theorem dX11_init_180 : decode cX11_init 180 = .ok (.newarray .int, 2) := by decide +kernel
theorem dX11_init_182 : decode cX11_init 182 = .ok (.putfield 101, 3) := by decide +kernel
theorem dX11_init_185 : decode cX11_init 185 = .ok (.iconst 0, 1) := by decide +kernel
theorem dX11_init_186 : decode cX11_init 186 = .ok (.istore_n 1, 1) := by decide +kernel
theorem dX11_init_187 : decode cX11_init 187 = .ok (.iload_n 1, 1) := by decide +kernel
theorem dX11_init_188 : decode cX11_init 188 = .ok (.iconst 4, 1) := by decide +kernel
theorem dX11_init_189 : decode cX11_init 189 = .ok (.if_icmp .ge 22, 3) := by decide +kernel
theorem dX11_init_192 : decode cX11_init 192 = .ok (.aload_n 0, 1) := by decide +kernel
theorem dX11_init_193 : decode cX11_init 193 = .ok (.getfield 36, 3) := by decide +kernel
theorem dX11_init_196 : decode cX11_init 196 = .ok (.iload_n 1, 1) := by decide +kernel
theorem dX11_init_197 : decode cX11_init 197 = .ok (.new 23, 3) := by decide +kernel
theorem dX11_init_200 : decode cX11_init 200 = .ok (.dup, 1) := by decide +kernel
theorem dX11_init_201 : decode cX11_init 201 = .ok (.invokespecial 25, 3) := by decide +kernel
theorem dX11_init_204 : decode cX11_init 204 = .ok (.aastore, 1) := by decide +kernel
theorem dX11_init_205 : decode cX11_init 205 = .ok (.iinc 1 1, 3) := by decide +kernel
theorem dX11_init_208 : decode cX11_init 208 = .ok (.goto (-21), 3) := by decide +kernel
theorem dX11_init_211 : decode cX11_init 211 = .ok (.return_, 1) := by decide +kernel
theorem dX11_feed_0 : decode cX11_feed 0 = .ok (.aload_n 0, 1) := by decide +kernel
theorem dX11_feed_1 : decode cX11_feed 1 = .ok (.getfield 10, 3) := by decide +kernel
theorem dX11_feed_4 : decode cX11_feed 4 = .ok (.lload_n 1, 1) := by decide +kernel
theorem dX11_feed_5 : decode cX11_feed 5 = .ok (.invokevirtual 105, 3) := by decide +kernel
theorem dX11_feed_8 : decode cX11_feed 8 = .ok (.aload_n 0, 1) := by decide +kernel
theorem dX11_feed_9 : decode cX11_feed 9 = .ok (.getfield 10, 3) := by decide +kernel
theorem dX11_feed_12 : decode cX11_feed 12 = .ok (.lload_n 3, 1) := by decide +kernel
theorem dX11_feed_13 : decode cX11_feed 13 = .ok (.invokevirtual 105, 3) := by decide +kernel
theorem dX11_feed_16 : decode cX11_feed 16 = .ok (.aload_n 0, 1) := by decide +kernel
theorem dX11_feed_17 : decode cX11_feed 17 = .ok (.getfield 10, 3) := by decide +kernel
theorem dX11_feed_20 : decode cX11_feed 20 = .ok (.lload 5, 2) := by decide +kernel
theorem dX11_feed_22 : decode cX11_feed 22 = .ok (.invokevirtual 105, 3) := by decide +kernel
theorem dX11_feed_25 : decode cX11_feed 25 = .ok (.aload_n 0, 1) := by decide +kernel
theorem dX11_feed_26 : decode cX11_feed 26 = .ok (.getfield 10, 3) := by decide +kernel
theorem dX11_feed_29 : decode cX11_feed 29 = .ok (.getfield 109, 3) := by decide +kernel
theorem dX11_feed_32 : decode cX11_feed 32 = .ok (.ireturn, 1) := by decide +kernel
theorem dX11_index_0 : decode cX11_index 0 = .ok (.aload_n 0, 1) := by decide +kernel
theorem dX11_index_1 : decode cX11_index 1 = .ok (.getfield 19, 3) := by decide +kernel
theorem dX11_index_4 : decode cX11_index 4 = .ok (.aload_n 0, 1) := by decide +kernel
theorem dX11_index_5 : decode cX11_index 5 = .ok (.getfield 10, 3) := by decide +kernel
theorem dX11_index_8 : decode cX11_index 8 = .ok (.invokevirtual 113, 3) := by decide +kernel
theorem dX11_index_11 : decode cX11_index 11 = .ok (.istore_n 1, 1) := by decide +kernel
theorem dX11_index_12 : decode cX11_index 12 = .ok (.aload_n 0, 1) := by decide +kernel
theorem dX11_index_13 : decode cX11_index 13 = .ok (.getfield 10, 3) := by decide +kernel
theorem dX11_index_16 : decode cX11_index 16 = .ok (.invokevirtual 117, 3) := by decide +kernel
theorem dX11_index_19 : decode cX11_index 19 = .ok (.iload_n 1, 1) := by decide +kernel
theorem dX11_index_20 : decode cX11_index 20 = .ok (.ifCond .eq 5, 3) := by decide +kernel
theorem dX11_index_23 : decode cX11_index 23 = .ok (.iload_n 1, 1) := by decide +kernel
theorem dX11_index_24 : decode cX11_index 24 = .ok (.ireturn, 1) := by decide +kernel
theorem dX11_index_25 : decode cX11_index 25 = .ok (.aload_n 0, 1) := by decide +kernel
theorem dX11_index_26 : decode cX11_index 26 = .ok (.getfield 30, 3) := by decide +kernel
theorem dX11_index_29 : decode cX11_index 29 = .ok (.aload_n 0, 1) := by decide +kernel
theorem dX11_index_30 : decode cX11_index 30 = .ok (.getfield 19, 3) := by decide +kernel
theorem dX11_index_33 : decode cX11_index 33 = .ok (.getfield 120, 3) := by decide +kernel
theorem dX11_index_36 : decode cX11_index 36 = .ok (.invokevirtual 123, 3) := by decide +kernel
theorem dX11_index_39 : decode cX11_index 39 = .ok (.aload_n 0, 1) := by decide +kernel
theorem dX11_index_40 : decode cX11_index 40 = .ok (.getfield 26, 3) := by decide +kernel
theorem dX11_index_43 : decode cX11_index 43 = .ok (.aload_n 0, 1) := by decide +kernel
theorem dX11_index_44 : decode cX11_index 44 = .ok (.getfield 30, 3) := by decide +kernel
theorem dX11_index_47 : decode cX11_index 47 = .ok (.invokevirtual 123, 3) := by decide +kernel
theorem dX11_index_50 : decode cX11_index 50 = .ok (.aload_n 0, 1) := by decide +kernel
theorem dX11_index_51 : decode cX11_index 51 = .ok (.getfield 47, 3) := by decide +kernel
theorem dX11_index_54 : decode cX11_index 54 = .ok (.aload_n 0, 1) := by decide +kernel
theorem dX11_index_55 : decode cX11_index 55 = .ok (.getfield 19, 3) := by decide +kernel
theorem dX11_index_58 : decode cX11_index 58 = .ok (.getfield 127, 3) := by decide +kernel
theorem dX11_index_61 : decode cX11_index 61 = .ok (.invokevirtual 128, 3) := by decide +kernel
theorem dX11_index_64 : decode cX11_index 64 = .ok (.aload_n 0, 1) := by decide +kernel
theorem dX11_index_65 : decode cX11_index 65 = .ok (.getfield 56, 3) := by decide +kernel
theorem dX11_index_68 : decode cX11_index 68 = .ok (.iconst 0, 1) := by decide +kernel
theorem dX11_index_69 : decode cX11_index 69 = .ok (.putfield 131, 3) := by decide +kernel
theorem dX11_index_72 : decode cX11_index 72 = .ok (.aload_n 0, 1) := by decide +kernel
theorem dX11_index_73 : decode cX11_index 73 = .ok (.getfield 60, 3) := by decide +kernel
theorem dX11_index_76 : decode cX11_index 76 = .ok (.iconst 0, 1) := by decide +kernel
theorem dX11_index_77 : decode cX11_index 77 = .ok (.putfield 131, 3) := by decide +kernel
theorem dX11_index_80 : decode cX11_index 80 = .ok (.iconst 0, 1) := by decide +kernel
theorem dX11_index_81 : decode cX11_index 81 = .ok (.istore_n 2, 1) := by decide +kernel
theorem dX11_index_82 : decode cX11_index 82 = .ok (.iload_n 2, 1) := by decide +kernel
theorem dX11_index_83 : decode cX11_index 83 = .ok (.iconst 4, 1) := by decide +kernel
theorem dX11_index_84 : decode cX11_index 84 = .ok (.if_icmp .ge 16, 3) := by decide +kernel
theorem dX11_index_87 : decode cX11_index 87 = .ok (.aload_n 0, 1) := by decide +kernel
theorem dX11_index_88 : decode cX11_index 88 = .ok (.getfield 40, 3) := by decide +kernel
theorem dX11_index_91 : decode cX11_index 91 = .ok (.iload_n 2, 1) := by decide +kernel
theorem dX11_index_92 : decode cX11_index 92 = .ok (.iconst 0, 1) := by decide +kernel
theorem dX11_index_93 : decode cX11_index 93 = .ok (.bastore, 1) := by decide +kernel
theorem dX11_index_94 : decode cX11_index 94 = .ok (.iinc 2 1, 3) := by decide +kernel
theorem dX11_index_97 : decode cX11_index 97 = .ok (.goto (-15), 3) := by decide +kernel
theorem dX11_index_100 : decode cX11_index 100 = .ok (.aload_n 0, 1) := by decide +kernel
theorem dX11_index_101 : decode cX11_index 101 = .ok (.aload_n 0, 1) := by decide +kernel
theorem dX11_index_102 : decode cX11_index 102 = .ok (.getfield 30, 3) := by decide +kernel
theorem dX11_index_105 : decode cX11_index 105 = .ok (.getfield 134, 3) := by decide +kernel
theorem dX11_index_108 : decode cX11_index 108 = .ok (.putfield 137, 3) := by decide +kernel
theorem dX11_index_111 : decode cX11_index 111 = .ok (.iconst 0, 1) := by decide +kernel
theorem dX11_index_112 : decode cX11_index 112 = .ok (.ireturn, 1) := by decide +kernel
theorem dX11_work_0 : decode cX11_work 0 = .ok (.aload_n 0, 1) := by decide +kernel
theorem dX11_work_1 : decode cX11_work 1 = .ok (.getfield 19, 3) := by decide +kernel
theorem dX11_work_4 : decode cX11_work 4 = .ok (.aload_n 0, 1) := by decide +kernel
theorem dX11_work_5 : decode cX11_work 5 = .ok (.getfield 10, 3) := by decide +kernel
theorem dX11_work_8 : decode cX11_work 8 = .ok (.aload_n 0, 1) := by decide +kernel
theorem dX11_work_9 : decode cX11_work 9 = .ok (.getfield 30, 3) := by decide +kernel
theorem dX11_work_12 : decode cX11_work 12 = .ok (.invokevirtual 140, 3) := by decide +kernel
theorem dX11_work_15 : decode cX11_work 15 = .ok (.istore_n 1, 1) := by decide +kernel
theorem dX11_work_16 : decode cX11_work 16 = .ok (.aload_n 0, 1) := by decide +kernel
theorem dX11_work_17 : decode cX11_work 17 = .ok (.getfield 10, 3) := by decide +kernel
theorem dX11_work_20 : decode cX11_work 20 = .ok (.invokevirtual 117, 3) := by decide +kernel
theorem dX11_work_23 : decode cX11_work 23 = .ok (.iload_n 1, 1) := by decide +kernel
theorem dX11_work_24 : decode cX11_work 24 = .ok (.ifCond .ne 17, 3) := by decide +kernel
theorem dX11_work_27 : decode cX11_work 27 = .ok (.aload_n 0, 1) := by decide +kernel
theorem dX11_work_28 : decode cX11_work 28 = .ok (.getfield 56, 3) := by decide +kernel
theorem dX11_work_31 : decode cX11_work 31 = .ok (.aload_n 0, 1) := by decide +kernel
theorem dX11_work_32 : decode cX11_work 32 = .ok (.getfield 19, 3) := by decide +kernel
theorem dX11_work_35 : decode cX11_work 35 = .ok (.getfield 144, 3) := by decide +kernel
theorem dX11_work_38 : decode cX11_work 38 = .ok (.invokevirtual 147, 3) := by decide +kernel
theorem dX11_work_41 : decode cX11_work 41 = .ok (.iload_n 1, 1) := by decide +kernel
theorem dX11_work_42 : decode cX11_work 42 = .ok (.ireturn, 1) := by decide +kernel
theorem dX11_row_0 : decode cX11_row 0 = .ok (.aload_n 0, 1) := by decide +kernel
theorem dX11_row_1 : decode cX11_row 1 = .ok (.getfield 26, 3) := by decide +kernel
theorem dX11_row_4 : decode cX11_row 4 = .ok (.iload_n 1, 1) := by decide +kernel
theorem dX11_row_5 : decode cX11_row 5 = .ok (.invokevirtual 150, 3) := by decide +kernel
theorem dX11_row_8 : decode cX11_row 8 = .ok (.astore_n 3, 1) := by decide +kernel
theorem dX11_row_9 : decode cX11_row 9 = .ok (.aload_n 3, 1) := by decide +kernel
theorem dX11_row_10 : decode cX11_row 10 = .ok (.ifnonnull 5, 3) := by decide +kernel
theorem dX11_row_13 : decode cX11_row 13 = .ok (.iconst (-1), 1) := by decide +kernel
theorem dX11_row_14 : decode cX11_row 14 = .ok (.ireturn, 1) := by decide +kernel
theorem dX11_row_15 : decode cX11_row 15 = .ok (.iload_n 2, 1) := by decide +kernel
theorem dX11_row_16 : decode cX11_row 16 = .ok (.ifCond .ne 8, 3) := by decide +kernel
theorem dX11_row_19 : decode cX11_row 19 = .ok (.aload_n 3, 1) := by decide +kernel
theorem dX11_row_20 : decode cX11_row 20 = .ok (.getfield 154, 3) := by decide +kernel
theorem dX11_row_23 : decode cX11_row 23 = .ok (.ireturn, 1) := by decide +kernel
theorem dX11_row_24 : decode cX11_row 24 = .ok (.iload_n 2, 1) := by decide +kernel
theorem dX11_row_25 : decode cX11_row 25 = .ok (.iconst 1, 1) := by decide +kernel
theorem dX11_row_26 : decode cX11_row 26 = .ok (.if_icmp .ne 10, 3) := by decide +kernel
theorem dX11_row_29 : decode cX11_row 29 = .ok (.aload_n 3, 1) := by decide +kernel
theorem dX11_row_30 : decode cX11_row 30 = .ok (.getfield 157, 3) := by decide +kernel
theorem dX11_row_33 : decode cX11_row 33 = .ok (.goto 4, 3) := by decide +kernel
theorem dX11_row_36 : decode cX11_row 36 = .ok (.iconst (-1), 1) := by decide +kernel
theorem dX11_row_37 : decode cX11_row 37 = .ok (.ireturn, 1) := by decide +kernel
theorem dX11_item_0 : decode cX11_item 0 = .ok (.aload_n 0, 1) := by decide +kernel
theorem dX11_item_1 : decode cX11_item 1 = .ok (.getfield 26, 3) := by decide +kernel
theorem dX11_item_4 : decode cX11_item 4 = .ok (.iload_n 1, 1) := by decide +kernel
theorem dX11_item_5 : decode cX11_item 5 = .ok (.invokevirtual 150, 3) := by decide +kernel
theorem dX11_item_8 : decode cX11_item 8 = .ok (.astore_n 3, 1) := by decide +kernel
theorem dX11_item_9 : decode cX11_item 9 = .ok (.aload_n 3, 1) := by decide +kernel
theorem dX11_item_10 : decode cX11_item 10 = .ok (.ifnull 11, 3) := by decide +kernel
theorem dX11_item_13 : decode cX11_item 13 = .ok (.aload_n 3, 1) := by decide +kernel
theorem dX11_item_14 : decode cX11_item 14 = .ok (.iload_n 2, 1) := by decide +kernel
theorem dX11_item_15 : decode cX11_item 15 = .ok (.invokevirtual 160, 3) := by decide +kernel
theorem dX11_item_18 : decode cX11_item 18 = .ok (.ifCond .ne 5, 3) := by decide +kernel
theorem dX11_item_21 : decode cX11_item 21 = .ok (.iconst (-1), 1) := by decide +kernel
theorem dX11_item_22 : decode cX11_item 22 = .ok (.ireturn, 1) := by decide +kernel
theorem dX11_item_23 : decode cX11_item 23 = .ok (.aload_n 3, 1) := by decide +kernel
theorem dX11_item_24 : decode cX11_item 24 = .ok (.getfield 164, 3) := by decide +kernel
theorem dX11_item_27 : decode cX11_item 27 = .ok (.iload_n 2, 1) := by decide +kernel
theorem dX11_item_28 : decode cX11_item 28 = .ok (.iaload, 1) := by decide +kernel
theorem dX11_item_29 : decode cX11_item 29 = .ok (.ireturn, 1) := by decide +kernel
theorem dX11_weight_0 : decode cX11_weight 0 = .ok (.aload_n 0, 1) := by decide +kernel
theorem dX11_weight_1 : decode cX11_weight 1 = .ok (.getfield 26, 3) := by decide +kernel
theorem dX11_weight_4 : decode cX11_weight 4 = .ok (.iload_n 1, 1) := by decide +kernel
theorem dX11_weight_5 : decode cX11_weight 5 = .ok (.invokevirtual 150, 3) := by decide +kernel
theorem dX11_weight_8 : decode cX11_weight 8 = .ok (.astore_n 3, 1) := by decide +kernel
theorem dX11_weight_9 : decode cX11_weight 9 = .ok (.aload_n 3, 1) := by decide +kernel
theorem dX11_weight_10 : decode cX11_weight 10 = .ok (.ifnull 11, 3) := by decide +kernel
theorem dX11_weight_13 : decode cX11_weight 13 = .ok (.aload_n 3, 1) := by decide +kernel
theorem dX11_weight_14 : decode cX11_weight 14 = .ok (.iload_n 2, 1) := by decide +kernel
theorem dX11_weight_15 : decode cX11_weight 15 = .ok (.invokevirtual 160, 3) := by decide +kernel
theorem dX11_weight_18 : decode cX11_weight 18 = .ok (.ifCond .ne 13, 3) := by decide +kernel
theorem dX11_weight_21 : decode cX11_weight 21 = .ok (.new 167, 3) := by decide +kernel
theorem dX11_weight_24 : decode cX11_weight 24 = .ok (.dup, 1) := by decide +kernel
theorem dX11_weight_25 : decode cX11_weight 25 = .ok (.ldc 169, 2) := by decide +kernel
theorem dX11_weight_27 : decode cX11_weight 27 = .ok (.invokespecial 171, 3) := by decide +kernel
theorem dX11_weight_30 : decode cX11_weight 30 = .ok (.athrow, 1) := by decide +kernel
theorem dX11_weight_31 : decode cX11_weight 31 = .ok (.aload_n 0, 1) := by decide +kernel
theorem dX11_weight_32 : decode cX11_weight 32 = .ok (.getfield 47, 3) := by decide +kernel
theorem dX11_weight_35 : decode cX11_weight 35 = .ok (.aload_n 3, 1) := by decide +kernel
theorem dX11_weight_36 : decode cX11_weight 36 = .ok (.getfield 164, 3) := by decide +kernel
theorem dX11_weight_39 : decode cX11_weight 39 = .ok (.iload_n 2, 1) := by decide +kernel
theorem dX11_weight_40 : decode cX11_weight 40 = .ok (.iaload, 1) := by decide +kernel
theorem dX11_weight_41 : decode cX11_weight 41 = .ok (.iload_n 2, 1) := by decide +kernel
theorem dX11_weight_42 : decode cX11_weight 42 = .ok (.aload_n 3, 1) := by decide +kernel
theorem dX11_weight_43 : decode cX11_weight 43 = .ok (.getfield 157, 3) := by decide +kernel
theorem dX11_weight_46 : decode cX11_weight 46 = .ok (.aload_n 3, 1) := by decide +kernel
theorem dX11_weight_47 : decode cX11_weight 47 = .ok (.getfield 154, 3) := by decide +kernel
theorem dX11_weight_50 : decode cX11_weight 50 = .ok (.invokevirtual 174, 3) := by decide +kernel
theorem dX11_weight_53 : decode cX11_weight 53 = .ok (.ireturn, 1) := by decide +kernel
theorem dX11_braid_0 : decode cX11_braid 0 = .ok (.aload_n 0, 1) := by decide +kernel
theorem dX11_braid_1 : decode cX11_braid 1 = .ok (.getfield 26, 3) := by decide +kernel
theorem dX11_braid_4 : decode cX11_braid 4 = .ok (.iload_n 1, 1) := by decide +kernel
theorem dX11_braid_5 : decode cX11_braid 5 = .ok (.invokevirtual 178, 3) := by decide +kernel
theorem dX11_braid_8 : decode cX11_braid 8 = .ok (.astore_n 3, 1) := by decide +kernel
theorem dX11_braid_9 : decode cX11_braid 9 = .ok (.aload_n 3, 1) := by decide +kernel
theorem dX11_braid_10 : decode cX11_braid 10 = .ok (.ifnonnull 5, 3) := by decide +kernel
theorem dX11_braid_13 : decode cX11_braid 13 = .ok (.iconst (-1), 1) := by decide +kernel
theorem dX11_braid_14 : decode cX11_braid 14 = .ok (.ireturn, 1) := by decide +kernel
theorem dX11_braid_15 : decode cX11_braid 15 = .ok (.iload_n 2, 1) := by decide +kernel
theorem dX11_braid_16 : decode cX11_braid 16 = .ok (.ifCond .ne 8, 3) := by decide +kernel
theorem dX11_braid_19 : decode cX11_braid 19 = .ok (.aload_n 3, 1) := by decide +kernel
theorem dX11_braid_20 : decode cX11_braid 20 = .ok (.getfield 182, 3) := by decide +kernel
theorem dX11_braid_23 : decode cX11_braid 23 = .ok (.ireturn, 1) := by decide +kernel
theorem dX11_braid_24 : decode cX11_braid 24 = .ok (.iload_n 2, 1) := by decide +kernel
theorem dX11_braid_25 : decode cX11_braid 25 = .ok (.iconst 1, 1) := by decide +kernel
theorem dX11_braid_26 : decode cX11_braid 26 = .ok (.if_icmp .ne 8, 3) := by decide +kernel
theorem dX11_braid_29 : decode cX11_braid 29 = .ok (.aload_n 3, 1) := by decide +kernel
theorem dX11_braid_30 : decode cX11_braid 30 = .ok (.invokevirtual 187, 3) := by decide +kernel
theorem dX11_braid_33 : decode cX11_braid 33 = .ok (.ireturn, 1) := by decide +kernel
theorem dX11_braid_34 : decode cX11_braid 34 = .ok (.iload_n 2, 1) := by decide +kernel
theorem dX11_braid_35 : decode cX11_braid 35 = .ok (.iconst 2, 1) := by decide +kernel
theorem dX11_braid_36 : decode cX11_braid 36 = .ok (.if_icmp .ne 10, 3) := by decide +kernel
theorem dX11_braid_39 : decode cX11_braid 39 = .ok (.aload_n 3, 1) := by decide +kernel
theorem dX11_braid_40 : decode cX11_braid 40 = .ok (.getfield 191, 3) := by decide +kernel
theorem dX11_braid_43 : decode cX11_braid 43 = .ok (.goto 4, 3) := by decide +kernel
theorem dX11_braid_46 : decode cX11_braid 46 = .ok (.iconst (-1), 1) := by decide +kernel
theorem dX11_braid_47 : decode cX11_braid 47 = .ok (.ireturn, 1) := by decide +kernel
theorem dX11_count_0 : decode cX11_count 0 = .ok (.iload_n 1, 1) := by decide +kernel
theorem dX11_count_1 : decode cX11_count 1 = .ok (.tableswitch 108 0 7 #[47, 55, 63, 71, 76, 84, 92, 100], 47) := by decide +kernel
theorem dX11_count_48 : decode cX11_count 48 = .ok (.aload_n 0, 1) := by decide +kernel
theorem dX11_count_49 : decode cX11_count 49 = .ok (.getfield 26, 3) := by decide +kernel
theorem dX11_count_52 : decode cX11_count 52 = .ok (.getfield 192, 3) := by decide +kernel
theorem dX11_count_55 : decode cX11_count 55 = .ok (.ireturn, 1) := by decide +kernel
theorem dX11_count_56 : decode cX11_count 56 = .ok (.aload_n 0, 1) := by decide +kernel
theorem dX11_count_57 : decode cX11_count 57 = .ok (.getfield 26, 3) := by decide +kernel
theorem dX11_count_60 : decode cX11_count 60 = .ok (.getfield 134, 3) := by decide +kernel
theorem dX11_count_63 : decode cX11_count 63 = .ok (.ireturn, 1) := by decide +kernel
theorem dX11_count_64 : decode cX11_count 64 = .ok (.aload_n 0, 1) := by decide +kernel
theorem dX11_count_65 : decode cX11_count 65 = .ok (.getfield 26, 3) := by decide +kernel
theorem dX11_count_68 : decode cX11_count 68 = .ok (.invokevirtual 195, 3) := by decide +kernel
theorem dX11_count_71 : decode cX11_count 71 = .ok (.ireturn, 1) := by decide +kernel
theorem dX11_count_72 : decode cX11_count 72 = .ok (.aload_n 0, 1) := by decide +kernel
theorem dX11_count_73 : decode cX11_count 73 = .ok (.getfield 137, 3) := by decide +kernel
theorem dX11_count_76 : decode cX11_count 76 = .ok (.ireturn, 1) := by decide +kernel
theorem dX11_count_77 : decode cX11_count 77 = .ok (.aload_n 0, 1) := by decide +kernel
theorem dX11_count_78 : decode cX11_count 78 = .ok (.getfield 56, 3) := by decide +kernel
theorem dX11_count_81 : decode cX11_count 81 = .ok (.getfield 131, 3) := by decide +kernel
theorem dX11_count_84 : decode cX11_count 84 = .ok (.ireturn, 1) := by decide +kernel
theorem dX11_count_85 : decode cX11_count 85 = .ok (.aload_n 0, 1) := by decide +kernel
theorem dX11_count_86 : decode cX11_count 86 = .ok (.getfield 26, 3) := by decide +kernel
theorem dX11_count_89 : decode cX11_count 89 = .ok (.getfield 198, 3) := by decide +kernel
theorem dX11_count_92 : decode cX11_count 92 = .ok (.ireturn, 1) := by decide +kernel
theorem dX11_count_93 : decode cX11_count 93 = .ok (.aload_n 0, 1) := by decide +kernel
theorem dX11_count_94 : decode cX11_count 94 = .ok (.getfield 60, 3) := by decide +kernel
theorem dX11_count_97 : decode cX11_count 97 = .ok (.getfield 131, 3) := by decide +kernel
theorem dX11_count_100 : decode cX11_count 100 = .ok (.ireturn, 1) := by decide +kernel
theorem dX11_count_101 : decode cX11_count 101 = .ok (.aload_n 0, 1) := by decide +kernel
theorem dX11_count_102 : decode cX11_count 102 = .ok (.getfield 10, 3) := by decide +kernel
theorem dX11_count_105 : decode cX11_count 105 = .ok (.getfield 109, 3) := by decide +kernel
theorem dX11_count_108 : decode cX11_count 108 = .ok (.ireturn, 1) := by decide +kernel
theorem dX11_count_109 : decode cX11_count 109 = .ok (.iconst (-1), 1) := by decide +kernel
theorem dX11_count_110 : decode cX11_count 110 = .ok (.ireturn, 1) := by decide +kernel
theorem dX11_append_0 : decode cX11_append 0 = .ok (.aload_n 0, 1) := by decide +kernel
theorem dX11_append_1 : decode cX11_append 1 = .ok (.getfield 26, 3) := by decide +kernel
theorem dX11_append_4 : decode cX11_append 4 = .ok (.iload_n 1, 1) := by decide +kernel
theorem dX11_append_5 : decode cX11_append 5 = .ok (.iload_n 2, 1) := by decide +kernel
theorem dX11_append_6 : decode cX11_append 6 = .ok (.invokevirtual 201, 3) := by decide +kernel
theorem dX11_append_9 : decode cX11_append 9 = .ok (.istore_n 3, 1) := by decide +kernel
theorem dX11_append_10 : decode cX11_append 10 = .ok (.iload_n 3, 1) := by decide +kernel
theorem dX11_append_11 : decode cX11_append 11 = .ok (.iconst (-1), 1) := by decide +kernel
theorem dX11_append_12 : decode cX11_append 12 = .ok (.if_icmp .eq 15, 3) := by decide +kernel
theorem dX11_append_15 : decode cX11_append 15 = .ok (.aload_n 0, 1) := by decide +kernel
theorem dX11_append_16 : decode cX11_append 16 = .ok (.getfield 60, 3) := by decide +kernel
theorem dX11_append_19 : decode cX11_append 19 = .ok (.sipush 131, 3) := by decide +kernel
theorem dX11_append_22 : decode cX11_append 22 = .ok (.iload_n 1, 1) := by decide +kernel
theorem dX11_append_23 : decode cX11_append 23 = .ok (.iload_n 2, 1) := by decide +kernel
theorem dX11_append_24 : decode cX11_append 24 = .ok (.invokevirtual 205, 3) := by decide +kernel
theorem dX11_append_27 : decode cX11_append 27 = .ok (.iload_n 3, 1) := by decide +kernel
theorem dX11_append_28 : decode cX11_append 28 = .ok (.ireturn, 1) := by decide +kernel
theorem dX11_cut_0 : decode cX11_cut 0 = .ok (.aload_n 0, 1) := by decide +kernel
theorem dX11_cut_1 : decode cX11_cut 1 = .ok (.getfield 26, 3) := by decide +kernel
theorem dX11_cut_4 : decode cX11_cut 4 = .ok (.iload_n 1, 1) := by decide +kernel
theorem dX11_cut_5 : decode cX11_cut 5 = .ok (.invokevirtual 209, 3) := by decide +kernel
theorem dX11_cut_8 : decode cX11_cut 8 = .ok (.istore_n 2, 1) := by decide +kernel
theorem dX11_cut_9 : decode cX11_cut 9 = .ok (.iload_n 2, 1) := by decide +kernel
theorem dX11_cut_10 : decode cX11_cut 10 = .ok (.iconst (-1), 1) := by decide +kernel
theorem dX11_cut_11 : decode cX11_cut 11 = .ok (.if_icmp .eq 15, 3) := by decide +kernel
theorem dX11_cut_14 : decode cX11_cut 14 = .ok (.aload_n 0, 1) := by decide +kernel
theorem dX11_cut_15 : decode cX11_cut 15 = .ok (.getfield 60, 3) := by decide +kernel
theorem dX11_cut_18 : decode cX11_cut 18 = .ok (.sipush 132, 3) := by decide +kernel
theorem dX11_cut_21 : decode cX11_cut 21 = .ok (.iload_n 1, 1) := by decide +kernel
theorem dX11_cut_22 : decode cX11_cut 22 = .ok (.iload_n 2, 1) := by decide +kernel
theorem dX11_cut_23 : decode cX11_cut 23 = .ok (.invokevirtual 205, 3) := by decide +kernel
theorem dX11_cut_26 : decode cX11_cut 26 = .ok (.iload_n 2, 1) := by decide +kernel
theorem dX11_cut_27 : decode cX11_cut 27 = .ok (.ireturn, 1) := by decide +kernel
theorem dX11_turn_0 : decode cX11_turn 0 = .ok (.aload_n 0, 1) := by decide +kernel
theorem dX11_turn_1 : decode cX11_turn 1 = .ok (.getfield 26, 3) := by decide +kernel
theorem dX11_turn_4 : decode cX11_turn 4 = .ok (.iload_n 1, 1) := by decide +kernel
theorem dX11_turn_5 : decode cX11_turn 5 = .ok (.invokevirtual 213, 3) := by decide +kernel
theorem dX11_turn_8 : decode cX11_turn 8 = .ok (.istore_n 2, 1) := by decide +kernel
theorem dX11_turn_9 : decode cX11_turn 9 = .ok (.iload_n 2, 1) := by decide +kernel
theorem dX11_turn_10 : decode cX11_turn 10 = .ok (.ifCond .eq 15, 3) := by decide +kernel
theorem dX11_turn_13 : decode cX11_turn 13 = .ok (.aload_n 0, 1) := by decide +kernel
theorem dX11_turn_14 : decode cX11_turn 14 = .ok (.getfield 60, 3) := by decide +kernel
theorem dX11_turn_17 : decode cX11_turn 17 = .ok (.sipush 133, 3) := by decide +kernel
theorem dX11_turn_20 : decode cX11_turn 20 = .ok (.iload_n 1, 1) := by decide +kernel
theorem dX11_turn_21 : decode cX11_turn 21 = .ok (.iconst 0, 1) := by decide +kernel
theorem dX11_turn_22 : decode cX11_turn 22 = .ok (.invokevirtual 205, 3) := by decide +kernel
theorem dX11_turn_25 : decode cX11_turn 25 = .ok (.iload_n 2, 1) := by decide +kernel
theorem dX11_turn_26 : decode cX11_turn 26 = .ok (.ireturn, 1) := by decide +kernel
theorem dX11_cross_0 : decode cX11_cross 0 = .ok (.aload_n 0, 1) := by decide +kernel
theorem dX11_cross_1 : decode cX11_cross 1 = .ok (.getfield 26, 3) := by decide +kernel
theorem dX11_cross_4 : decode cX11_cross 4 = .ok (.iload_n 1, 1) := by decide +kernel
theorem dX11_cross_5 : decode cX11_cross 5 = .ok (.iload_n 2, 1) := by decide +kernel
theorem dX11_cross_6 : decode cX11_cross 6 = .ok (.invokevirtual 216, 3) := by decide +kernel
theorem dX11_cross_9 : decode cX11_cross 9 = .ok (.istore_n 3, 1) := by decide +kernel
theorem dX11_cross_10 : decode cX11_cross 10 = .ok (.iload_n 3, 1) := by decide +kernel
theorem dX11_cross_11 : decode cX11_cross 11 = .ok (.ifCond .eq 15, 3) := by decide +kernel
theorem dX11_cross_14 : decode cX11_cross 14 = .ok (.aload_n 0, 1) := by decide +kernel
theorem dX11_cross_15 : decode cX11_cross 15 = .ok (.getfield 60, 3) := by decide +kernel
theorem dX11_cross_18 : decode cX11_cross 18 = .ok (.sipush 134, 3) := by decide +kernel
theorem dX11_cross_21 : decode cX11_cross 21 = .ok (.iload_n 1, 1) := by decide +kernel
theorem dX11_cross_22 : decode cX11_cross 22 = .ok (.iload_n 2, 1) := by decide +kernel
theorem dX11_cross_23 : decode cX11_cross 23 = .ok (.invokevirtual 205, 3) := by decide +kernel
theorem dX11_cross_26 : decode cX11_cross 26 = .ok (.iload_n 3, 1) := by decide +kernel
theorem dX11_cross_27 : decode cX11_cross 27 = .ok (.ireturn, 1) := by decide +kernel
theorem dX11_keep_0 : decode cX11_keep 0 = .ok (.aload_n 0, 1) := by decide +kernel
theorem dX11_keep_1 : decode cX11_keep 1 = .ok (.getfield 26, 3) := by decide +kernel
theorem dX11_keep_4 : decode cX11_keep 4 = .ok (.iload_n 1, 1) := by decide +kernel
theorem dX11_keep_5 : decode cX11_keep 5 = .ok (.iload_n 2, 1) := by decide +kernel
theorem dX11_keep_6 : decode cX11_keep 6 = .ok (.aload_n 0, 1) := by decide +kernel
theorem dX11_keep_7 : decode cX11_keep 7 = .ok (.getfield 90, 3) := by decide +kernel
theorem dX11_keep_10 : decode cX11_keep 10 = .ok (.invokevirtual 220, 3) := by decide +kernel
theorem dX11_keep_13 : decode cX11_keep 13 = .ok (.istore_n 3, 1) := by decide +kernel
theorem dX11_keep_14 : decode cX11_keep 14 = .ok (.aload_n 0, 1) := by decide +kernel
theorem dX11_keep_15 : decode cX11_keep 15 = .ok (.getfield 26, 3) := by decide +kernel
theorem dX11_keep_18 : decode cX11_keep 18 = .ok (.iload_n 3, 1) := by decide +kernel
theorem dX11_keep_19 : decode cX11_keep 19 = .ok (.invokevirtual 178, 3) := by decide +kernel
theorem dX11_keep_22 : decode cX11_keep 22 = .ok (.astore 4, 2) := by decide +kernel
theorem dX11_keep_24 : decode cX11_keep 24 = .ok (.aload 4, 2) := by decide +kernel
theorem dX11_keep_26 : decode cX11_keep 26 = .ok (.ifnonnull 5, 3) := by decide +kernel
theorem dX11_keep_29 : decode cX11_keep 29 = .ok (.iconst (-1), 1) := by decide +kernel
theorem dX11_keep_30 : decode cX11_keep 30 = .ok (.ireturn, 1) := by decide +kernel
theorem dX11_keep_31 : decode cX11_keep 31 = .ok (.aload 4, 2) := by decide +kernel
theorem dX11_keep_33 : decode cX11_keep 33 = .ok (.aload_n 0, 1) := by decide +kernel
theorem dX11_keep_34 : decode cX11_keep 34 = .ok (.getfield 137, 3) := by decide +kernel
theorem dX11_keep_37 : decode cX11_keep 37 = .ok (.putfield 191, 3) := by decide +kernel
theorem dX11_keep_40 : decode cX11_keep 40 = .ok (.aload_n 0, 1) := by decide +kernel
theorem dX11_keep_41 : decode cX11_keep 41 = .ok (.dup, 1) := by decide +kernel
theorem dX11_keep_42 : decode cX11_keep 42 = .ok (.getfield 137, 3) := by decide +kernel
theorem dX11_keep_45 : decode cX11_keep 45 = .ok (.iconst 1, 1) := by decide +kernel
theorem dX11_keep_46 : decode cX11_keep 46 = .ok (.iadd, 1) := by decide +kernel
theorem dX11_keep_47 : decode cX11_keep 47 = .ok (.putfield 137, 3) := by decide +kernel
theorem dX11_keep_50 : decode cX11_keep 50 = .ok (.aload_n 0, 1) := by decide +kernel
theorem dX11_keep_51 : decode cX11_keep 51 = .ok (.getfield 60, 3) := by decide +kernel
theorem dX11_keep_54 : decode cX11_keep 54 = .ok (.sipush 135, 3) := by decide +kernel
theorem dX11_keep_57 : decode cX11_keep 57 = .ok (.iload_n 3, 1) := by decide +kernel
theorem dX11_keep_58 : decode cX11_keep 58 = .ok (.iconst 0, 1) := by decide +kernel
theorem dX11_keep_59 : decode cX11_keep 59 = .ok (.invokevirtual 205, 3) := by decide +kernel
theorem dX11_keep_62 : decode cX11_keep 62 = .ok (.iload_n 3, 1) := by decide +kernel
theorem dX11_keep_63 : decode cX11_keep 63 = .ok (.ireturn, 1) := by decide +kernel
theorem dX11_undo_0 : decode cX11_undo 0 = .ok (.aload_n 0, 1) := by decide +kernel
theorem dX11_undo_1 : decode cX11_undo 1 = .ok (.getfield 60, 3) := by decide +kernel
theorem dX11_undo_4 : decode cX11_undo 4 = .ok (.getfield 131, 3) := by decide +kernel
theorem dX11_undo_7 : decode cX11_undo 7 = .ok (.iconst 1, 1) := by decide +kernel
theorem dX11_undo_8 : decode cX11_undo 8 = .ok (.isub, 1) := by decide +kernel
theorem dX11_undo_9 : decode cX11_undo 9 = .ok (.istore_n 1, 1) := by decide +kernel
theorem dX11_undo_10 : decode cX11_undo 10 = .ok (.iload_n 1, 1) := by decide +kernel
theorem dX11_undo_11 : decode cX11_undo 11 = .ok (.ifCond .ge 5, 3) := by decide +kernel
theorem dX11_undo_14 : decode cX11_undo 14 = .ok (.iconst 0, 1) := by decide +kernel
theorem dX11_undo_15 : decode cX11_undo 15 = .ok (.ireturn, 1) := by decide +kernel
theorem dX11_undo_16 : decode cX11_undo 16 = .ok (.aload_n 0, 1) := by decide +kernel
theorem dX11_undo_17 : decode cX11_undo 17 = .ok (.getfield 60, 3) := by decide +kernel
theorem dX11_undo_20 : decode cX11_undo 20 = .ok (.iload_n 1, 1) := by decide +kernel
theorem dX11_undo_21 : decode cX11_undo 21 = .ok (.invokevirtual 224, 3) := by decide +kernel
theorem dX11_undo_24 : decode cX11_undo 24 = .ok (.istore_n 2, 1) := by decide +kernel
theorem dX11_undo_25 : decode cX11_undo 25 = .ok (.aload_n 0, 1) := by decide +kernel
theorem dX11_undo_26 : decode cX11_undo 26 = .ok (.getfield 60, 3) := by decide +kernel
theorem dX11_undo_29 : decode cX11_undo 29 = .ok (.iload_n 1, 1) := by decide +kernel
theorem dX11_undo_30 : decode cX11_undo 30 = .ok (.invokevirtual 227, 3) := by decide +kernel
theorem dX11_undo_33 : decode cX11_undo 33 = .ok (.istore_n 3, 1) := by decide +kernel
theorem dX11_undo_34 : decode cX11_undo 34 = .ok (.aload_n 0, 1) := by decide +kernel
theorem dX11_undo_35 : decode cX11_undo 35 = .ok (.getfield 60, 3) := by decide +kernel
theorem dX11_undo_38 : decode cX11_undo 38 = .ok (.iload_n 1, 1) := by decide +kernel
theorem dX11_undo_39 : decode cX11_undo 39 = .ok (.invokevirtual 230, 3) := by decide +kernel
theorem dX11_undo_42 : decode cX11_undo 42 = .ok (.tableswitch 79 131 134 #[30, 42, 55, 67], 30) := by decide +kernel
theorem dX11_undo_72 : decode cX11_undo 72 = .ok (.aload_n 0, 1) := by decide +kernel
theorem dX11_undo_73 : decode cX11_undo 73 = .ok (.getfield 26, 3) := by decide +kernel
theorem dX11_undo_76 : decode cX11_undo 76 = .ok (.iload_n 2, 1) := by decide +kernel
theorem dX11_undo_77 : decode cX11_undo 77 = .ok (.invokevirtual 209, 3) := by decide +kernel
theorem dX11_undo_80 : decode cX11_undo 80 = .ok (.pop, 1) := by decide +kernel
theorem dX11_undo_81 : decode cX11_undo 81 = .ok (.goto 47, 3) := by decide +kernel
theorem dX11_undo_84 : decode cX11_undo 84 = .ok (.aload_n 0, 1) := by decide +kernel
theorem dX11_undo_85 : decode cX11_undo 85 = .ok (.getfield 26, 3) := by decide +kernel
theorem dX11_undo_88 : decode cX11_undo 88 = .ok (.iload_n 2, 1) := by decide +kernel
theorem dX11_undo_89 : decode cX11_undo 89 = .ok (.iload_n 3, 1) := by decide +kernel
theorem dX11_undo_90 : decode cX11_undo 90 = .ok (.invokevirtual 201, 3) := by decide +kernel
theorem dX11_undo_93 : decode cX11_undo 93 = .ok (.pop, 1) := by decide +kernel
theorem dX11_undo_94 : decode cX11_undo 94 = .ok (.goto 34, 3) := by decide +kernel
theorem dX11_undo_97 : decode cX11_undo 97 = .ok (.aload_n 0, 1) := by decide +kernel
theorem dX11_undo_98 : decode cX11_undo 98 = .ok (.getfield 26, 3) := by decide +kernel
theorem dX11_undo_101 : decode cX11_undo 101 = .ok (.iload_n 2, 1) := by decide +kernel
theorem dX11_undo_102 : decode cX11_undo 102 = .ok (.invokevirtual 213, 3) := by decide +kernel
theorem dX11_undo_105 : decode cX11_undo 105 = .ok (.pop, 1) := by decide +kernel
theorem dX11_undo_106 : decode cX11_undo 106 = .ok (.goto 22, 3) := by decide +kernel
theorem dX11_undo_109 : decode cX11_undo 109 = .ok (.aload_n 0, 1) := by decide +kernel
theorem dX11_undo_110 : decode cX11_undo 110 = .ok (.getfield 26, 3) := by decide +kernel
theorem dX11_undo_113 : decode cX11_undo 113 = .ok (.iload_n 2, 1) := by decide +kernel
theorem dX11_undo_114 : decode cX11_undo 114 = .ok (.iload_n 3, 1) := by decide +kernel
theorem dX11_undo_115 : decode cX11_undo 115 = .ok (.invokevirtual 233, 3) := by decide +kernel
theorem dX11_undo_118 : decode cX11_undo 118 = .ok (.goto 10, 3) := by decide +kernel
theorem dX11_undo_121 : decode cX11_undo 121 = .ok (.aload_n 0, 1) := by decide +kernel
theorem dX11_undo_122 : decode cX11_undo 122 = .ok (.getfield 26, 3) := by decide +kernel
theorem dX11_undo_125 : decode cX11_undo 125 = .ok (.invokevirtual 237, 3) := by decide +kernel
theorem dX11_undo_128 : decode cX11_undo 128 = .ok (.aload_n 0, 1) := by decide +kernel
theorem dX11_undo_129 : decode cX11_undo 129 = .ok (.getfield 60, 3) := by decide +kernel
theorem dX11_undo_132 : decode cX11_undo 132 = .ok (.iload_n 1, 1) := by decide +kernel
theorem dX11_undo_133 : decode cX11_undo 133 = .ok (.putfield 131, 3) := by decide +kernel
theorem dX11_undo_136 : decode cX11_undo 136 = .ok (.iconst 1, 1) := by decide +kernel
theorem dX11_undo_137 : decode cX11_undo 137 = .ok (.ireturn, 1) := by decide +kernel
theorem dX11_mark_0 : decode cX11_mark 0 = .ok (.iload_n 1, 1) := by decide +kernel
theorem dX11_mark_1 : decode cX11_mark 1 = .ok (.ifCond .lt 8, 3) := by decide +kernel
theorem dX11_mark_4 : decode cX11_mark 4 = .ok (.iload_n 1, 1) := by decide +kernel
theorem dX11_mark_5 : decode cX11_mark 5 = .ok (.iconst 4, 1) := by decide +kernel
theorem dX11_mark_6 : decode cX11_mark 6 = .ok (.if_icmp .lt 5, 3) := by decide +kernel
theorem dX11_mark_9 : decode cX11_mark 9 = .ok (.iconst 0, 1) := by decide +kernel
theorem dX11_mark_10 : decode cX11_mark 10 = .ok (.ireturn, 1) := by decide +kernel
theorem dX11_mark_11 : decode cX11_mark 11 = .ok (.iload_n 2, 1) := by decide +kernel
theorem dX11_mark_12 : decode cX11_mark 12 = .ok (.ifCond .ne 25, 3) := by decide +kernel
theorem dX11_mark_15 : decode cX11_mark 15 = .ok (.aload_n 0, 1) := by decide +kernel
theorem dX11_mark_16 : decode cX11_mark 16 = .ok (.getfield 36, 3) := by decide +kernel
theorem dX11_mark_19 : decode cX11_mark 19 = .ok (.iload_n 1, 1) := by decide +kernel
theorem dX11_mark_20 : decode cX11_mark 20 = .ok (.aaload, 1) := by decide +kernel
theorem dX11_mark_21 : decode cX11_mark 21 = .ok (.aload_n 0, 1) := by decide +kernel
theorem dX11_mark_22 : decode cX11_mark 22 = .ok (.getfield 26, 3) := by decide +kernel
theorem dX11_mark_25 : decode cX11_mark 25 = .ok (.invokevirtual 123, 3) := by decide +kernel
theorem dX11_mark_28 : decode cX11_mark 28 = .ok (.aload_n 0, 1) := by decide +kernel
theorem dX11_mark_29 : decode cX11_mark 29 = .ok (.getfield 40, 3) := by decide +kernel
theorem dX11_mark_32 : decode cX11_mark 32 = .ok (.iload_n 1, 1) := by decide +kernel
theorem dX11_mark_33 : decode cX11_mark 33 = .ok (.iconst 1, 1) := by decide +kernel
theorem dX11_mark_34 : decode cX11_mark 34 = .ok (.bastore, 1) := by decide +kernel
theorem dX11_mark_35 : decode cX11_mark 35 = .ok (.iconst 1, 1) := by decide +kernel
theorem dX11_mark_36 : decode cX11_mark 36 = .ok (.ireturn, 1) := by decide +kernel
theorem dX11_mark_37 : decode cX11_mark 37 = .ok (.aload_n 0, 1) := by decide +kernel
theorem dX11_mark_38 : decode cX11_mark 38 = .ok (.getfield 40, 3) := by decide +kernel
theorem dX11_mark_41 : decode cX11_mark 41 = .ok (.iload_n 1, 1) := by decide +kernel
theorem dX11_mark_42 : decode cX11_mark 42 = .ok (.baload, 1) := by decide +kernel
theorem dX11_mark_43 : decode cX11_mark 43 = .ok (.ifCond .ne 5, 3) := by decide +kernel
theorem dX11_mark_46 : decode cX11_mark 46 = .ok (.iconst 0, 1) := by decide +kernel
theorem dX11_mark_47 : decode cX11_mark 47 = .ok (.ireturn, 1) := by decide +kernel
theorem dX11_mark_48 : decode cX11_mark 48 = .ok (.aload_n 0, 1) := by decide +kernel
theorem dX11_mark_49 : decode cX11_mark 49 = .ok (.getfield 26, 3) := by decide +kernel
theorem dX11_mark_52 : decode cX11_mark 52 = .ok (.aload_n 0, 1) := by decide +kernel
theorem dX11_mark_53 : decode cX11_mark 53 = .ok (.getfield 36, 3) := by decide +kernel
theorem dX11_mark_56 : decode cX11_mark 56 = .ok (.iload_n 1, 1) := by decide +kernel
theorem dX11_mark_57 : decode cX11_mark 57 = .ok (.aaload, 1) := by decide +kernel
theorem dX11_mark_58 : decode cX11_mark 58 = .ok (.invokevirtual 123, 3) := by decide +kernel
theorem dX11_mark_61 : decode cX11_mark 61 = .ok (.aload_n 0, 1) := by decide +kernel
theorem dX11_mark_62 : decode cX11_mark 62 = .ok (.getfield 60, 3) := by decide +kernel
theorem dX11_mark_65 : decode cX11_mark 65 = .ok (.iconst 0, 1) := by decide +kernel
theorem dX11_mark_66 : decode cX11_mark 66 = .ok (.putfield 131, 3) := by decide +kernel
theorem dX11_mark_69 : decode cX11_mark 69 = .ok (.iconst 1, 1) := by decide +kernel
theorem dX11_mark_70 : decode cX11_mark 70 = .ok (.ireturn, 1) := by decide +kernel
theorem dX11_judged_0 : decode cX11_judged 0 = .ok (.iload_n 1, 1) := by decide +kernel
theorem dX11_judged_1 : decode cX11_judged 1 = .ok (.ifCond .lt 8, 3) := by decide +kernel
theorem dX11_judged_4 : decode cX11_judged 4 = .ok (.iload_n 1, 1) := by decide +kernel
theorem dX11_judged_5 : decode cX11_judged 5 = .ok (.iconst 2, 1) := by decide +kernel
theorem dX11_judged_6 : decode cX11_judged 6 = .ok (.if_icmp .le 6, 3) := by decide +kernel
theorem dX11_judged_9 : decode cX11_judged 9 = .ok (.bipush (-2), 2) := by decide +kernel
theorem dX11_judged_11 : decode cX11_judged 11 = .ok (.ireturn, 1) := by decide +kernel
theorem dX11_judged_12 : decode cX11_judged 12 = .ok (.aload_n 0, 1) := by decide +kernel
theorem dX11_judged_13 : decode cX11_judged 13 = .ok (.getfield 33, 3) := by decide +kernel
theorem dX11_judged_16 : decode cX11_judged 16 = .ok (.aload_n 0, 1) := by decide +kernel
theorem dX11_judged_17 : decode cX11_judged 17 = .ok (.getfield 30, 3) := by decide +kernel
theorem dX11_judged_20 : decode cX11_judged 20 = .ok (.invokevirtual 123, 3) := by decide +kernel
theorem dX11_judged_23 : decode cX11_judged 23 = .ok (.iconst (-1), 1) := by decide +kernel
theorem dX11_judged_24 : decode cX11_judged 24 = .ok (.istore_n 2, 1) := by decide +kernel
theorem dX11_judged_25 : decode cX11_judged 25 = .ok (.iconst 0, 1) := by decide +kernel
theorem dX11_judged_26 : decode cX11_judged 26 = .ok (.istore_n 3, 1) := by decide +kernel
theorem dX11_judged_27 : decode cX11_judged 27 = .ok (.iload_n 3, 1) := by decide +kernel
theorem dX11_judged_28 : decode cX11_judged 28 = .ok (.aload_n 0, 1) := by decide +kernel
theorem dX11_judged_29 : decode cX11_judged 29 = .ok (.getfield 56, 3) := by decide +kernel
theorem dX11_judged_32 : decode cX11_judged 32 = .ok (.getfield 131, 3) := by decide +kernel
theorem dX11_judged_35 : decode cX11_judged 35 = .ok (.if_icmp .ge 55, 3) := by decide +kernel
theorem dX11_judged_38 : decode cX11_judged 38 = .ok (.aload_n 0, 1) := by decide +kernel
theorem dX11_judged_39 : decode cX11_judged 39 = .ok (.aload_n 0, 1) := by decide +kernel
theorem dX11_judged_40 : decode cX11_judged 40 = .ok (.getfield 33, 3) := by decide +kernel
theorem dX11_judged_43 : decode cX11_judged 43 = .ok (.aload_n 0, 1) := by decide +kernel
theorem dX11_judged_44 : decode cX11_judged 44 = .ok (.getfield 56, 3) := by decide +kernel
theorem dX11_judged_47 : decode cX11_judged 47 = .ok (.iload_n 3, 1) := by decide +kernel
theorem dX11_judged_48 : decode cX11_judged 48 = .ok (.invokevirtual 230, 3) := by decide +kernel
theorem dX11_judged_51 : decode cX11_judged 51 = .ok (.aload_n 0, 1) := by decide +kernel
theorem dX11_judged_52 : decode cX11_judged 52 = .ok (.getfield 56, 3) := by decide +kernel
theorem dX11_judged_55 : decode cX11_judged 55 = .ok (.iload_n 3, 1) := by decide +kernel
theorem dX11_judged_56 : decode cX11_judged 56 = .ok (.invokevirtual 224, 3) := by decide +kernel
theorem dX11_judged_59 : decode cX11_judged 59 = .ok (.aload_n 0, 1) := by decide +kernel
theorem dX11_judged_60 : decode cX11_judged 60 = .ok (.getfield 56, 3) := by decide +kernel
theorem dX11_judged_63 : decode cX11_judged 63 = .ok (.iload_n 3, 1) := by decide +kernel
theorem dX11_judged_64 : decode cX11_judged 64 = .ok (.invokevirtual 227, 3) := by decide +kernel
theorem dX11_judged_67 : decode cX11_judged 67 = .ok (.invokevirtual 240, 3) := by decide +kernel
theorem dX11_judged_70 : decode cX11_judged 70 = .ok (.istore 4, 2) := by decide +kernel
theorem dX11_judged_72 : decode cX11_judged 72 = .ok (.iload 4, 2) := by decide +kernel
theorem dX11_judged_74 : decode cX11_judged 74 = .ok (.ifCond .ne 10, 3) := by decide +kernel
theorem dX11_judged_77 : decode cX11_judged 77 = .ok (.iload_n 2, 1) := by decide +kernel
theorem dX11_judged_78 : decode cX11_judged 78 = .ok (.iconst (-1), 1) := by decide +kernel
theorem dX11_judged_79 : decode cX11_judged 79 = .ok (.if_icmp .ne 5, 3) := by decide +kernel
theorem dX11_judged_82 : decode cX11_judged 82 = .ok (.iload_n 3, 1) := by decide +kernel
theorem dX11_judged_83 : decode cX11_judged 83 = .ok (.istore_n 2, 1) := by decide +kernel
theorem dX11_judged_84 : decode cX11_judged 84 = .ok (.iinc 3 1, 3) := by decide +kernel
theorem dX11_judged_87 : decode cX11_judged 87 = .ok (.goto (-60), 3) := by decide +kernel
theorem dX11_judged_90 : decode cX11_judged 90 = .ok (.iload_n 1, 1) := by decide +kernel
theorem dX11_judged_91 : decode cX11_judged 91 = .ok (.ifCond .ne 5, 3) := by decide +kernel
theorem dX11_judged_94 : decode cX11_judged 94 = .ok (.iload_n 2, 1) := by decide +kernel
theorem dX11_judged_95 : decode cX11_judged 95 = .ok (.ireturn, 1) := by decide +kernel
theorem dX11_judged_96 : decode cX11_judged 96 = .ok (.iload_n 1, 1) := by decide +kernel
theorem dX11_judged_97 : decode cX11_judged 97 = .ok (.iconst 1, 1) := by decide +kernel
theorem dX11_judged_98 : decode cX11_judged 98 = .ok (.if_icmp .ne 13, 3) := by decide +kernel
theorem dX11_judged_101 : decode cX11_judged 101 = .ok (.aload_n 0, 1) := by decide +kernel
theorem dX11_judged_102 : decode cX11_judged 102 = .ok (.getfield 33, 3) := by decide +kernel
theorem dX11_judged_105 : decode cX11_judged 105 = .ok (.invokevirtual 195, 3) := by decide +kernel
theorem dX11_judged_108 : decode cX11_judged 108 = .ok (.goto 10, 3) := by decide +kernel
theorem dX11_judged_111 : decode cX11_judged 111 = .ok (.aload_n 0, 1) := by decide +kernel
theorem dX11_judged_112 : decode cX11_judged 112 = .ok (.getfield 33, 3) := by decide +kernel
theorem dX11_judged_115 : decode cX11_judged 115 = .ok (.getfield 134, 3) := by decide +kernel
theorem dX11_judged_118 : decode cX11_judged 118 = .ok (.ireturn, 1) := by decide +kernel
theorem dX11_doLine_0 : decode cX11_doLine 0 = .ok (.iload_n 2, 1) := by decide +kernel
theorem dX11_doLine_1 : decode cX11_doLine 1 = .ok (.tableswitch 77 131 134 #[31, 48, 63, 69], 31) := by decide +kernel
theorem dX11_doLine_32 : decode cX11_doLine 32 = .ok (.aload_n 1, 1) := by decide +kernel
theorem dX11_doLine_33 : decode cX11_doLine 33 = .ok (.iload_n 3, 1) := by decide +kernel
theorem dX11_doLine_34 : decode cX11_doLine 34 = .ok (.iload 4, 2) := by decide +kernel
theorem dX11_doLine_36 : decode cX11_doLine 36 = .ok (.invokevirtual 201, 3) := by decide +kernel
theorem dX11_doLine_39 : decode cX11_doLine 39 = .ok (.iconst (-1), 1) := by decide +kernel
theorem dX11_doLine_40 : decode cX11_doLine 40 = .ok (.if_icmp .eq 7, 3) := by decide +kernel
theorem dX11_doLine_43 : decode cX11_doLine 43 = .ok (.iconst 1, 1) := by decide +kernel
theorem dX11_doLine_44 : decode cX11_doLine 44 = .ok (.goto 4, 3) := by decide +kernel
theorem dX11_doLine_47 : decode cX11_doLine 47 = .ok (.iconst 0, 1) := by decide +kernel
theorem dX11_doLine_48 : decode cX11_doLine 48 = .ok (.ireturn, 1) := by decide +kernel
theorem dX11_doLine_49 : decode cX11_doLine 49 = .ok (.aload_n 1, 1) := by decide +kernel
theorem dX11_doLine_50 : decode cX11_doLine 50 = .ok (.iload_n 3, 1) := by decide +kernel
theorem dX11_doLine_51 : decode cX11_doLine 51 = .ok (.invokevirtual 209, 3) := by decide +kernel
theorem dX11_doLine_54 : decode cX11_doLine 54 = .ok (.iconst (-1), 1) := by decide +kernel
theorem dX11_doLine_55 : decode cX11_doLine 55 = .ok (.if_icmp .eq 7, 3) := by decide +kernel
theorem dX11_doLine_58 : decode cX11_doLine 58 = .ok (.iconst 1, 1) := by decide +kernel
theorem dX11_doLine_59 : decode cX11_doLine 59 = .ok (.goto 4, 3) := by decide +kernel
theorem dX11_doLine_62 : decode cX11_doLine 62 = .ok (.iconst 0, 1) := by decide +kernel
theorem dX11_doLine_63 : decode cX11_doLine 63 = .ok (.ireturn, 1) := by decide +kernel
theorem dX11_doLine_64 : decode cX11_doLine 64 = .ok (.aload_n 1, 1) := by decide +kernel
theorem dX11_doLine_65 : decode cX11_doLine 65 = .ok (.iload_n 3, 1) := by decide +kernel
theorem dX11_doLine_66 : decode cX11_doLine 66 = .ok (.invokevirtual 213, 3) := by decide +kernel
theorem dX11_doLine_69 : decode cX11_doLine 69 = .ok (.ireturn, 1) := by decide +kernel
theorem dX11_doLine_70 : decode cX11_doLine 70 = .ok (.aload_n 1, 1) := by decide +kernel
theorem dX11_doLine_71 : decode cX11_doLine 71 = .ok (.iload_n 3, 1) := by decide +kernel
theorem dX11_doLine_72 : decode cX11_doLine 72 = .ok (.iload 4, 2) := by decide +kernel
theorem dX11_doLine_74 : decode cX11_doLine 74 = .ok (.invokevirtual 216, 3) := by decide +kernel
theorem dX11_doLine_77 : decode cX11_doLine 77 = .ok (.ireturn, 1) := by decide +kernel
theorem dX11_doLine_78 : decode cX11_doLine 78 = .ok (.aload_n 1, 1) := by decide +kernel
theorem dX11_doLine_79 : decode cX11_doLine 79 = .ok (.iload_n 3, 1) := by decide +kernel
theorem dX11_doLine_80 : decode cX11_doLine 80 = .ok (.iload 4, 2) := by decide +kernel
theorem dX11_doLine_82 : decode cX11_doLine 82 = .ok (.aload_n 0, 1) := by decide +kernel
theorem dX11_doLine_83 : decode cX11_doLine 83 = .ok (.getfield 90, 3) := by decide +kernel
theorem dX11_doLine_86 : decode cX11_doLine 86 = .ok (.invokevirtual 220, 3) := by decide +kernel
theorem dX11_doLine_89 : decode cX11_doLine 89 = .ok (.iconst (-1), 1) := by decide +kernel
theorem dX11_doLine_90 : decode cX11_doLine 90 = .ok (.if_icmp .eq 7, 3) := by decide +kernel
theorem dX11_doLine_93 : decode cX11_doLine 93 = .ok (.iconst 1, 1) := by decide +kernel
theorem dX11_doLine_94 : decode cX11_doLine 94 = .ok (.goto 4, 3) := by decide +kernel
theorem dX11_doLine_97 : decode cX11_doLine 97 = .ok (.iconst 0, 1) := by decide +kernel
theorem dX11_doLine_98 : decode cX11_doLine 98 = .ok (.ireturn, 1) := by decide +kernel
theorem dX11_chain_0 : decode cX11_chain 0 = .ok (.aload_n 0, 1) := by decide +kernel
theorem dX11_chain_1 : decode cX11_chain 1 = .ok (.iload_n 1, 1) := by decide +kernel
theorem dX11_chain_2 : decode cX11_chain 2 = .ok (.iload_n 2, 1) := by decide +kernel
theorem dX11_chain_3 : decode cX11_chain 3 = .ok (.iload_n 3, 1) := by decide +kernel
theorem dX11_chain_4 : decode cX11_chain 4 = .ok (.invokevirtual 244, 3) := by decide +kernel
theorem dX11_chain_7 : decode cX11_chain 7 = .ok (.ifCond .eq 13, 3) := by decide +kernel
theorem dX11_chain_10 : decode cX11_chain 10 = .ok (.aload_n 0, 1) := by decide +kernel
theorem dX11_chain_11 : decode cX11_chain 11 = .ok (.getfield 66, 3) := by decide +kernel
theorem dX11_chain_14 : decode cX11_chain 14 = .ok (.getfield 248, 3) := by decide +kernel
theorem dX11_chain_17 : decode cX11_chain 17 = .ok (.goto 4, 3) := by decide +kernel
theorem dX11_chain_20 : decode cX11_chain 20 = .ok (.iconst (-1), 1) := by decide +kernel
theorem dX11_chain_21 : decode cX11_chain 21 = .ok (.ireturn, 1) := by decide +kernel
theorem dX11_pick_0 : decode cX11_pick 0 = .ok (.aload_n 0, 1) := by decide +kernel
theorem dX11_pick_1 : decode cX11_pick 1 = .ok (.iload_n 1, 1) := by decide +kernel
theorem dX11_pick_2 : decode cX11_pick 2 = .ok (.iload_n 2, 1) := by decide +kernel
theorem dX11_pick_3 : decode cX11_pick 3 = .ok (.iload_n 3, 1) := by decide +kernel
theorem dX11_pick_4 : decode cX11_pick 4 = .ok (.invokevirtual 244, 3) := by decide +kernel
theorem dX11_pick_7 : decode cX11_pick 7 = .ok (.ifCond .eq 15, 3) := by decide +kernel
theorem dX11_pick_10 : decode cX11_pick 10 = .ok (.aload_n 0, 1) := by decide +kernel
theorem dX11_pick_11 : decode cX11_pick 11 = .ok (.getfield 66, 3) := by decide +kernel
theorem dX11_pick_14 : decode cX11_pick 14 = .ok (.iload 4, 2) := by decide +kernel
theorem dX11_pick_16 : decode cX11_pick 16 = .ok (.invokevirtual 251, 3) := by decide +kernel
theorem dX11_pick_19 : decode cX11_pick 19 = .ok (.goto 4, 3) := by decide +kernel
theorem dX11_pick_22 : decode cX11_pick 22 = .ok (.iconst (-1), 1) := by decide +kernel
theorem dX11_pick_23 : decode cX11_pick 23 = .ok (.ireturn, 1) := by decide +kernel
theorem dX11_ways_0 : decode cX11_ways 0 = .ok (.aload_n 0, 1) := by decide +kernel
theorem dX11_ways_1 : decode cX11_ways 1 = .ok (.iload_n 1, 1) := by decide +kernel
theorem dX11_ways_2 : decode cX11_ways 2 = .ok (.iload_n 2, 1) := by decide +kernel
theorem dX11_ways_3 : decode cX11_ways 3 = .ok (.iload_n 3, 1) := by decide +kernel
theorem dX11_ways_4 : decode cX11_ways 4 = .ok (.invokevirtual 244, 3) := by decide +kernel
theorem dX11_ways_7 : decode cX11_ways 7 = .ok (.ifCond .eq 13, 3) := by decide +kernel
theorem dX11_ways_10 : decode cX11_ways 10 = .ok (.aload_n 0, 1) := by decide +kernel
theorem dX11_ways_11 : decode cX11_ways 11 = .ok (.getfield 66, 3) := by decide +kernel
theorem dX11_ways_14 : decode cX11_ways 14 = .ok (.invokevirtual 254, 3) := by decide +kernel
theorem dX11_ways_17 : decode cX11_ways 17 = .ok (.goto 4, 3) := by decide +kernel
theorem dX11_ways_20 : decode cX11_ways 20 = .ok (.iconst (-1), 1) := by decide +kernel
theorem dX11_ways_21 : decode cX11_ways 21 = .ok (.ireturn, 1) := by decide +kernel
theorem dX11_must_0 : decode cX11_must 0 = .ok (.aload_n 0, 1) := by decide +kernel
theorem dX11_must_1 : decode cX11_must 1 = .ok (.iload_n 1, 1) := by decide +kernel
theorem dX11_must_2 : decode cX11_must 2 = .ok (.iload_n 2, 1) := by decide +kernel
theorem dX11_must_3 : decode cX11_must 3 = .ok (.iload_n 3, 1) := by decide +kernel
theorem dX11_must_4 : decode cX11_must 4 = .ok (.invokevirtual 244, 3) := by decide +kernel
theorem dX11_must_7 : decode cX11_must 7 = .ok (.ifCond .eq 13, 3) := by decide +kernel
theorem dX11_must_10 : decode cX11_must 10 = .ok (.aload_n 0, 1) := by decide +kernel
theorem dX11_must_11 : decode cX11_must 11 = .ok (.getfield 66, 3) := by decide +kernel
theorem dX11_must_14 : decode cX11_must 14 = .ok (.invokevirtual 257, 3) := by decide +kernel
theorem dX11_must_17 : decode cX11_must 17 = .ok (.goto 4, 3) := by decide +kernel
theorem dX11_must_20 : decode cX11_must 20 = .ok (.iconst (-1), 1) := by decide +kernel
theorem dX11_must_21 : decode cX11_must 21 = .ok (.ireturn, 1) := by decide +kernel
theorem dX11_may_0 : decode cX11_may 0 = .ok (.aload_n 0, 1) := by decide +kernel
theorem dX11_may_1 : decode cX11_may 1 = .ok (.iload_n 1, 1) := by decide +kernel
theorem dX11_may_2 : decode cX11_may 2 = .ok (.iload_n 2, 1) := by decide +kernel
theorem dX11_may_3 : decode cX11_may 3 = .ok (.iload_n 3, 1) := by decide +kernel
theorem dX11_may_4 : decode cX11_may 4 = .ok (.invokevirtual 244, 3) := by decide +kernel
theorem dX11_may_7 : decode cX11_may 7 = .ok (.ifCond .eq 13, 3) := by decide +kernel
theorem dX11_may_10 : decode cX11_may 10 = .ok (.aload_n 0, 1) := by decide +kernel
theorem dX11_may_11 : decode cX11_may 11 = .ok (.getfield 66, 3) := by decide +kernel
theorem dX11_may_14 : decode cX11_may 14 = .ok (.invokevirtual 260, 3) := by decide +kernel
theorem dX11_may_17 : decode cX11_may 17 = .ok (.goto 4, 3) := by decide +kernel
theorem dX11_may_20 : decode cX11_may 20 = .ok (.iconst (-1), 1) := by decide +kernel
theorem dX11_may_21 : decode cX11_may 21 = .ok (.ireturn, 1) := by decide +kernel
theorem dX11_bare_0 : decode cX11_bare 0 = .ok (.aload_n 0, 1) := by decide +kernel
theorem dX11_bare_1 : decode cX11_bare 1 = .ok (.iload_n 1, 1) := by decide +kernel
theorem dX11_bare_2 : decode cX11_bare 2 = .ok (.iload_n 2, 1) := by decide +kernel
theorem dX11_bare_3 : decode cX11_bare 3 = .ok (.iload_n 3, 1) := by decide +kernel
theorem dX11_bare_4 : decode cX11_bare 4 = .ok (.invokevirtual 244, 3) := by decide +kernel
theorem dX11_bare_7 : decode cX11_bare 7 = .ok (.ifCond .eq 17, 3) := by decide +kernel
theorem dX11_bare_10 : decode cX11_bare 10 = .ok (.iload_n 3, 1) := by decide +kernel
theorem dX11_bare_11 : decode cX11_bare 11 = .ok (.iload_n 2, 1) := by decide +kernel
theorem dX11_bare_12 : decode cX11_bare 12 = .ok (.isub, 1) := by decide +kernel
theorem dX11_bare_13 : decode cX11_bare 13 = .ok (.aload_n 0, 1) := by decide +kernel
theorem dX11_bare_14 : decode cX11_bare 14 = .ok (.getfield 66, 3) := by decide +kernel
theorem dX11_bare_17 : decode cX11_bare 17 = .ok (.getfield 248, 3) := by decide +kernel
theorem dX11_bare_20 : decode cX11_bare 20 = .ok (.isub, 1) := by decide +kernel
theorem dX11_bare_21 : decode cX11_bare 21 = .ok (.goto 4, 3) := by decide +kernel
theorem dX11_bare_24 : decode cX11_bare 24 = .ok (.iconst (-1), 1) := by decide +kernel
theorem dX11_bare_25 : decode cX11_bare 25 = .ok (.ireturn, 1) := by decide +kernel
theorem dX11_piles_0 : decode cX11_piles 0 = .ok (.aload_n 0, 1) := by decide +kernel
theorem dX11_piles_1 : decode cX11_piles 1 = .ok (.getfield 26, 3) := by decide +kernel
theorem dX11_piles_4 : decode cX11_piles 4 = .ok (.iload_n 1, 1) := by decide +kernel
theorem dX11_piles_5 : decode cX11_piles 5 = .ok (.invokevirtual 150, 3) := by decide +kernel
theorem dX11_piles_8 : decode cX11_piles 8 = .ok (.astore 5, 2) := by decide +kernel
theorem dX11_piles_10 : decode cX11_piles 10 = .ok (.aload_n 0, 1) := by decide +kernel
theorem dX11_piles_11 : decode cX11_piles 11 = .ok (.aload 5, 2) := by decide +kernel
theorem dX11_piles_13 : decode cX11_piles 13 = .ok (.iload_n 2, 1) := by decide +kernel
theorem dX11_piles_14 : decode cX11_piles 14 = .ok (.iload_n 3, 1) := by decide +kernel
theorem dX11_piles_15 : decode cX11_piles 15 = .ok (.invokevirtual 263, 3) := by decide +kernel
theorem dX11_piles_18 : decode cX11_piles 18 = .ok (.ifCond .ne 6, 3) := by decide +kernel
theorem dX11_piles_21 : decode cX11_piles 21 = .ok (.bipush (-2), 2) := by decide +kernel
theorem dX11_piles_23 : decode cX11_piles 23 = .ok (.ireturn, 1) := by decide +kernel
theorem dX11_piles_24 : decode cX11_piles 24 = .ok (.iload 4, 2) := by decide +kernel
theorem dX11_piles_26 : decode cX11_piles 26 = .ok (.iconst (-1), 1) := by decide +kernel
theorem dX11_piles_27 : decode cX11_piles 27 = .ok (.if_icmp .eq 18, 3) := by decide +kernel
theorem dX11_piles_30 : decode cX11_piles 30 = .ok (.iload 4, 2) := by decide +kernel
theorem dX11_piles_32 : decode cX11_piles 32 = .ok (.iload_n 2, 1) := by decide +kernel
theorem dX11_piles_33 : decode cX11_piles 33 = .ok (.if_icmp .lt 9, 3) := by decide +kernel
theorem dX11_piles_36 : decode cX11_piles 36 = .ok (.iload 4, 2) := by decide +kernel
theorem dX11_piles_38 : decode cX11_piles 38 = .ok (.iload_n 3, 1) := by decide +kernel
theorem dX11_piles_39 : decode cX11_piles 39 = .ok (.if_icmp .lt 6, 3) := by decide +kernel
theorem dX11_piles_42 : decode cX11_piles 42 = .ok (.bipush (-2), 2) := by decide +kernel
theorem dX11_piles_44 : decode cX11_piles 44 = .ok (.ireturn, 1) := by decide +kernel
theorem dX11_piles_45 : decode cX11_piles 45 = .ok (.aload_n 0, 1) := by decide +kernel
theorem dX11_piles_46 : decode cX11_piles 46 = .ok (.getfield 66, 3) := by decide +kernel
theorem dX11_piles_49 : decode cX11_piles 49 = .ok (.aload 5, 2) := by decide +kernel
theorem dX11_piles_51 : decode cX11_piles 51 = .ok (.aload_n 0, 1) := by decide +kernel
theorem dX11_piles_52 : decode cX11_piles 52 = .ok (.getfield 47, 3) := by decide +kernel
theorem dX11_piles_55 : decode cX11_piles 55 = .ok (.invokevirtual 267, 3) := by decide +kernel
theorem dX11_piles_58 : decode cX11_piles 58 = .ok (.aload_n 0, 1) := by decide +kernel
theorem dX11_piles_59 : decode cX11_piles 59 = .ok (.getfield 83, 3) := by decide +kernel
theorem dX11_piles_62 : decode cX11_piles 62 = .ok (.aload_n 0, 1) := by decide +kernel
theorem dX11_piles_63 : decode cX11_piles 63 = .ok (.getfield 66, 3) := by decide +kernel
theorem dX11_piles_66 : decode cX11_piles 66 = .ok (.iload_n 2, 1) := by decide +kernel
theorem dX11_piles_67 : decode cX11_piles 67 = .ok (.iload_n 3, 1) := by decide +kernel
theorem dX11_piles_68 : decode cX11_piles 68 = .ok (.iload 4, 2) := by decide +kernel
theorem dX11_piles_70 : decode cX11_piles 70 = .ok (.invokevirtual 271, 3) := by decide +kernel
theorem dX11_piles_73 : decode cX11_piles 73 = .ok (.ireturn, 1) := by decide +kernel
theorem dX11_shape_0 : decode cX11_shape 0 = .ok (.aload_n 0, 1) := by decide +kernel
theorem dX11_shape_1 : decode cX11_shape 1 = .ok (.getfield 26, 3) := by decide +kernel
theorem dX11_shape_4 : decode cX11_shape 4 = .ok (.iload_n 1, 1) := by decide +kernel
theorem dX11_shape_5 : decode cX11_shape 5 = .ok (.invokevirtual 150, 3) := by decide +kernel
theorem dX11_shape_8 : decode cX11_shape 8 = .ok (.astore 5, 2) := by decide +kernel
theorem dX11_shape_10 : decode cX11_shape 10 = .ok (.aload_n 0, 1) := by decide +kernel
theorem dX11_shape_11 : decode cX11_shape 11 = .ok (.aload 5, 2) := by decide +kernel
theorem dX11_shape_13 : decode cX11_shape 13 = .ok (.iload_n 2, 1) := by decide +kernel
theorem dX11_shape_14 : decode cX11_shape 14 = .ok (.iload_n 3, 1) := by decide +kernel
theorem dX11_shape_15 : decode cX11_shape 15 = .ok (.invokevirtual 263, 3) := by decide +kernel
theorem dX11_shape_18 : decode cX11_shape 18 = .ok (.ifCond .eq 15, 3) := by decide +kernel
theorem dX11_shape_21 : decode cX11_shape 21 = .ok (.iload 4, 2) := by decide +kernel
theorem dX11_shape_23 : decode cX11_shape 23 = .ok (.ifCond .lt 10, 3) := by decide +kernel
theorem dX11_shape_26 : decode cX11_shape 26 = .ok (.iload 4, 2) := by decide +kernel
theorem dX11_shape_28 : decode cX11_shape 28 = .ok (.bipush 20, 2) := by decide +kernel
theorem dX11_shape_30 : decode cX11_shape 30 = .ok (.if_icmp .le 5, 3) := by decide +kernel
theorem dX11_shape_33 : decode cX11_shape 33 = .ok (.iconst (-1), 1) := by decide +kernel
theorem dX11_shape_34 : decode cX11_shape 34 = .ok (.ireturn, 1) := by decide +kernel
theorem dX11_shape_35 : decode cX11_shape 35 = .ok (.aload_n 0, 1) := by decide +kernel
theorem dX11_shape_36 : decode cX11_shape 36 = .ok (.getfield 66, 3) := by decide +kernel
theorem dX11_shape_39 : decode cX11_shape 39 = .ok (.aload 5, 2) := by decide +kernel
theorem dX11_shape_41 : decode cX11_shape 41 = .ok (.aload_n 0, 1) := by decide +kernel
theorem dX11_shape_42 : decode cX11_shape 42 = .ok (.getfield 47, 3) := by decide +kernel
theorem dX11_shape_45 : decode cX11_shape 45 = .ok (.invokevirtual 267, 3) := by decide +kernel
theorem dX11_shape_48 : decode cX11_shape 48 = .ok (.aload_n 0, 1) := by decide +kernel
theorem dX11_shape_49 : decode cX11_shape 49 = .ok (.getfield 83, 3) := by decide +kernel
theorem dX11_shape_52 : decode cX11_shape 52 = .ok (.aload_n 0, 1) := by decide +kernel
theorem dX11_shape_53 : decode cX11_shape 53 = .ok (.getfield 66, 3) := by decide +kernel
theorem dX11_shape_56 : decode cX11_shape 56 = .ok (.iload_n 2, 1) := by decide +kernel
theorem dX11_shape_57 : decode cX11_shape 57 = .ok (.iload_n 3, 1) := by decide +kernel
theorem dX11_shape_58 : decode cX11_shape 58 = .ok (.invokevirtual 275, 3) := by decide +kernel
theorem dX11_shape_61 : decode cX11_shape 61 = .ok (.aload_n 0, 1) := by decide +kernel
theorem dX11_shape_62 : decode cX11_shape 62 = .ok (.getfield 83, 3) := by decide +kernel
theorem dX11_shape_65 : decode cX11_shape 65 = .ok (.iload 4, 2) := by decide +kernel
theorem dX11_shape_67 : decode cX11_shape 67 = .ok (.invokevirtual 279, 3) := by decide +kernel
theorem dX11_shape_70 : decode cX11_shape 70 = .ok (.ireturn, 1) := by decide +kernel
theorem dX11_isWindow_0 : decode cX11_isWindow 0 = .ok (.aload_n 1, 1) := by decide +kernel
theorem dX11_isWindow_1 : decode cX11_isWindow 1 = .ok (.ifnull 24, 3) := by decide +kernel
theorem dX11_isWindow_4 : decode cX11_isWindow 4 = .ok (.iload_n 2, 1) := by decide +kernel
theorem dX11_isWindow_5 : decode cX11_isWindow 5 = .ok (.ifCond .lt 20, 3) := by decide +kernel
theorem dX11_isWindow_8 : decode cX11_isWindow 8 = .ok (.iload_n 2, 1) := by decide +kernel
theorem dX11_isWindow_9 : decode cX11_isWindow 9 = .ok (.iload_n 3, 1) := by decide +kernel
theorem dX11_isWindow_10 : decode cX11_isWindow 10 = .ok (.if_icmp .gt 15, 3) := by decide +kernel
theorem dX11_isWindow_13 : decode cX11_isWindow 13 = .ok (.iload_n 3, 1) := by decide +kernel
theorem dX11_isWindow_14 : decode cX11_isWindow 14 = .ok (.aload_n 1, 1) := by decide +kernel
theorem dX11_isWindow_15 : decode cX11_isWindow 15 = .ok (.getfield 157, 3) := by decide +kernel
theorem dX11_isWindow_18 : decode cX11_isWindow 18 = .ok (.if_icmp .gt 7, 3) := by decide +kernel
theorem dX11_isWindow_21 : decode cX11_isWindow 21 = .ok (.iconst 1, 1) := by decide +kernel
theorem dX11_isWindow_22 : decode cX11_isWindow 22 = .ok (.goto 4, 3) := by decide +kernel
theorem dX11_isWindow_25 : decode cX11_isWindow 25 = .ok (.iconst 0, 1) := by decide +kernel
theorem dX11_isWindow_26 : decode cX11_isWindow 26 = .ok (.ireturn, 1) := by decide +kernel
theorem dX11_loadWindow_0 : decode cX11_loadWindow 0 = .ok (.aload_n 0, 1) := by decide +kernel
theorem dX11_loadWindow_1 : decode cX11_loadWindow 1 = .ok (.getfield 26, 3) := by decide +kernel
theorem dX11_loadWindow_4 : decode cX11_loadWindow 4 = .ok (.iload_n 1, 1) := by decide +kernel
theorem dX11_loadWindow_5 : decode cX11_loadWindow 5 = .ok (.invokevirtual 150, 3) := by decide +kernel
theorem dX11_loadWindow_8 : decode cX11_loadWindow 8 = .ok (.astore 4, 2) := by decide +kernel
theorem dX11_loadWindow_10 : decode cX11_loadWindow 10 = .ok (.aload_n 0, 1) := by decide +kernel
theorem dX11_loadWindow_11 : decode cX11_loadWindow 11 = .ok (.aload 4, 2) := by decide +kernel
theorem dX11_loadWindow_13 : decode cX11_loadWindow 13 = .ok (.iload_n 2, 1) := by decide +kernel
theorem dX11_loadWindow_14 : decode cX11_loadWindow 14 = .ok (.iload_n 3, 1) := by decide +kernel
theorem dX11_loadWindow_15 : decode cX11_loadWindow 15 = .ok (.invokevirtual 263, 3) := by decide +kernel
theorem dX11_loadWindow_18 : decode cX11_loadWindow 18 = .ok (.ifCond .ne 5, 3) := by decide +kernel
theorem dX11_loadWindow_21 : decode cX11_loadWindow 21 = .ok (.iconst 0, 1) := by decide +kernel
theorem dX11_loadWindow_22 : decode cX11_loadWindow 22 = .ok (.ireturn, 1) := by decide +kernel
theorem dX11_loadWindow_23 : decode cX11_loadWindow 23 = .ok (.aload_n 0, 1) := by decide +kernel
theorem dX11_loadWindow_24 : decode cX11_loadWindow 24 = .ok (.getfield 66, 3) := by decide +kernel
theorem dX11_loadWindow_27 : decode cX11_loadWindow 27 = .ok (.aload 4, 2) := by decide +kernel
theorem dX11_loadWindow_29 : decode cX11_loadWindow 29 = .ok (.aload_n 0, 1) := by decide +kernel
theorem dX11_loadWindow_30 : decode cX11_loadWindow 30 = .ok (.getfield 47, 3) := by decide +kernel
theorem dX11_loadWindow_33 : decode cX11_loadWindow 33 = .ok (.invokevirtual 267, 3) := by decide +kernel
theorem dX11_loadWindow_36 : decode cX11_loadWindow 36 = .ok (.aload_n 0, 1) := by decide +kernel
theorem dX11_loadWindow_37 : decode cX11_loadWindow 37 = .ok (.getfield 66, 3) := by decide +kernel
theorem dX11_loadWindow_40 : decode cX11_loadWindow 40 = .ok (.iload_n 2, 1) := by decide +kernel
theorem dX11_loadWindow_41 : decode cX11_loadWindow 41 = .ok (.iload_n 3, 1) := by decide +kernel
theorem dX11_loadWindow_42 : decode cX11_loadWindow 42 = .ok (.invokevirtual 282, 3) := by decide +kernel
theorem dX11_loadWindow_45 : decode cX11_loadWindow 45 = .ok (.iconst 1, 1) := by decide +kernel
theorem dX11_loadWindow_46 : decode cX11_loadWindow 46 = .ok (.ireturn, 1) := by decide +kernel
theorem dX11_strand_0 : decode cX11_strand 0 = .ok (.aload_n 0, 1) := by decide +kernel
theorem dX11_strand_1 : decode cX11_strand 1 = .ok (.getfield 26, 3) := by decide +kernel
theorem dX11_strand_4 : decode cX11_strand 4 = .ok (.iload_n 1, 1) := by decide +kernel
theorem dX11_strand_5 : decode cX11_strand 5 = .ok (.invokevirtual 150, 3) := by decide +kernel
theorem dX11_strand_8 : decode cX11_strand 8 = .ok (.astore_n 3, 1) := by decide +kernel
theorem dX11_strand_9 : decode cX11_strand 9 = .ok (.aload_n 3, 1) := by decide +kernel
theorem dX11_strand_10 : decode cX11_strand 10 = .ok (.ifnull 11, 3) := by decide +kernel
theorem dX11_strand_13 : decode cX11_strand 13 = .ok (.aload_n 3, 1) := by decide +kernel
theorem dX11_strand_14 : decode cX11_strand 14 = .ok (.iload_n 2, 1) := by decide +kernel
theorem dX11_strand_15 : decode cX11_strand 15 = .ok (.invokevirtual 160, 3) := by decide +kernel
theorem dX11_strand_18 : decode cX11_strand 18 = .ok (.ifCond .ne 5, 3) := by decide +kernel
theorem dX11_strand_21 : decode cX11_strand 21 = .ok (.iconst (-1), 1) := by decide +kernel
theorem dX11_strand_22 : decode cX11_strand 22 = .ok (.ireturn, 1) := by decide +kernel
theorem dX11_strand_23 : decode cX11_strand 23 = .ok (.aload_n 0, 1) := by decide +kernel
theorem dX11_strand_24 : decode cX11_strand 24 = .ok (.aload_n 3, 1) := by decide +kernel
theorem dX11_strand_25 : decode cX11_strand 25 = .ok (.invokevirtual 285, 3) := by decide +kernel
theorem dX11_strand_28 : decode cX11_strand 28 = .ok (.aload_n 0, 1) := by decide +kernel
theorem dX11_strand_29 : decode cX11_strand 29 = .ok (.getfield 76, 3) := by decide +kernel
theorem dX11_strand_32 : decode cX11_strand 32 = .ok (.iload_n 2, 1) := by decide +kernel
theorem dX11_strand_33 : decode cX11_strand 33 = .ok (.invokevirtual 289, 3) := by decide +kernel
theorem dX11_strand_36 : decode cX11_strand 36 = .ok (.ireturn, 1) := by decide +kernel
theorem dX11_under_0 : decode cX11_under 0 = .ok (.aload_n 0, 1) := by decide +kernel
theorem dX11_under_1 : decode cX11_under 1 = .ok (.getfield 26, 3) := by decide +kernel
theorem dX11_under_4 : decode cX11_under 4 = .ok (.iload_n 1, 1) := by decide +kernel
theorem dX11_under_5 : decode cX11_under 5 = .ok (.invokevirtual 150, 3) := by decide +kernel
theorem dX11_under_8 : decode cX11_under 8 = .ok (.astore 4, 2) := by decide +kernel
theorem dX11_under_10 : decode cX11_under 10 = .ok (.aload_n 0, 1) := by decide +kernel
theorem dX11_under_11 : decode cX11_under 11 = .ok (.aload 4, 2) := by decide +kernel
theorem dX11_under_13 : decode cX11_under 13 = .ok (.iload_n 2, 1) := by decide +kernel
theorem dX11_under_14 : decode cX11_under 14 = .ok (.iload_n 3, 1) := by decide +kernel
theorem dX11_under_15 : decode cX11_under 15 = .ok (.invokevirtual 263, 3) := by decide +kernel
theorem dX11_under_18 : decode cX11_under 18 = .ok (.ifCond .ne 5, 3) := by decide +kernel
theorem dX11_under_21 : decode cX11_under 21 = .ok (.iconst (-1), 1) := by decide +kernel
theorem dX11_under_22 : decode cX11_under 22 = .ok (.ireturn, 1) := by decide +kernel
theorem dX11_under_23 : decode cX11_under 23 = .ok (.aload_n 0, 1) := by decide +kernel
theorem dX11_under_24 : decode cX11_under 24 = .ok (.aload 4, 2) := by decide +kernel
theorem dX11_under_26 : decode cX11_under 26 = .ok (.invokevirtual 285, 3) := by decide +kernel
theorem dX11_under_29 : decode cX11_under 29 = .ok (.aload_n 0, 1) := by decide +kernel
theorem dX11_under_30 : decode cX11_under 30 = .ok (.getfield 76, 3) := by decide +kernel
theorem dX11_under_33 : decode cX11_under 33 = .ok (.iload_n 2, 1) := by decide +kernel
theorem dX11_under_34 : decode cX11_under 34 = .ok (.iload_n 3, 1) := by decide +kernel
theorem dX11_under_35 : decode cX11_under 35 = .ok (.invokevirtual 292, 3) := by decide +kernel
theorem dX11_under_38 : decode cX11_under 38 = .ok (.ireturn, 1) := by decide +kernel
theorem dX11_how_0 : decode cX11_how 0 = .ok (.aload_n 0, 1) := by decide +kernel
theorem dX11_how_1 : decode cX11_how 1 = .ok (.getfield 26, 3) := by decide +kernel
theorem dX11_how_4 : decode cX11_how 4 = .ok (.iload_n 1, 1) := by decide +kernel
theorem dX11_how_5 : decode cX11_how 5 = .ok (.invokevirtual 150, 3) := by decide +kernel
theorem dX11_how_8 : decode cX11_how 8 = .ok (.astore_n 3, 1) := by decide +kernel
theorem dX11_how_9 : decode cX11_how 9 = .ok (.aload_n 3, 1) := by decide +kernel
theorem dX11_how_10 : decode cX11_how 10 = .ok (.ifnull 13, 3) := by decide +kernel
theorem dX11_how_13 : decode cX11_how 13 = .ok (.iload_n 2, 1) := by decide +kernel
theorem dX11_how_14 : decode cX11_how 14 = .ok (.ifCond .lt 9, 3) := by decide +kernel
theorem dX11_how_17 : decode cX11_how 17 = .ok (.iload_n 2, 1) := by decide +kernel
theorem dX11_how_18 : decode cX11_how 18 = .ok (.bipush 20, 2) := by decide +kernel
theorem dX11_how_20 : decode cX11_how 20 = .ok (.if_icmp .le 5, 3) := by decide +kernel
theorem dX11_how_23 : decode cX11_how 23 = .ok (.iconst (-1), 1) := by decide +kernel
theorem dX11_how_24 : decode cX11_how 24 = .ok (.ireturn, 1) := by decide +kernel
theorem dX11_how_25 : decode cX11_how 25 = .ok (.aload_n 0, 1) := by decide +kernel
theorem dX11_how_26 : decode cX11_how 26 = .ok (.aload_n 3, 1) := by decide +kernel
theorem dX11_how_27 : decode cX11_how 27 = .ok (.invokevirtual 285, 3) := by decide +kernel
theorem dX11_how_30 : decode cX11_how 30 = .ok (.aload_n 0, 1) := by decide +kernel
theorem dX11_how_31 : decode cX11_how 31 = .ok (.getfield 76, 3) := by decide +kernel
theorem dX11_how_34 : decode cX11_how 34 = .ok (.iload_n 2, 1) := by decide +kernel
theorem dX11_how_35 : decode cX11_how 35 = .ok (.invokevirtual 295, 3) := by decide +kernel
theorem dX11_how_38 : decode cX11_how 38 = .ok (.ireturn, 1) := by decide +kernel
theorem dX11_best_0 : decode cX11_best 0 = .ok (.aload_n 0, 1) := by decide +kernel
theorem dX11_best_1 : decode cX11_best 1 = .ok (.getfield 26, 3) := by decide +kernel
theorem dX11_best_4 : decode cX11_best 4 = .ok (.iload_n 1, 1) := by decide +kernel
theorem dX11_best_5 : decode cX11_best 5 = .ok (.invokevirtual 150, 3) := by decide +kernel
theorem dX11_best_8 : decode cX11_best 8 = .ok (.astore_n 3, 1) := by decide +kernel
theorem dX11_best_9 : decode cX11_best 9 = .ok (.aload_n 3, 1) := by decide +kernel
theorem dX11_best_10 : decode cX11_best 10 = .ok (.ifnull 15, 3) := by decide +kernel
theorem dX11_best_13 : decode cX11_best 13 = .ok (.iload_n 2, 1) := by decide +kernel
theorem dX11_best_14 : decode cX11_best 14 = .ok (.ifCond .lt 11, 3) := by decide +kernel
theorem dX11_best_17 : decode cX11_best 17 = .ok (.iload_n 2, 1) := by decide +kernel
theorem dX11_best_18 : decode cX11_best 18 = .ok (.aload_n 3, 1) := by decide +kernel
theorem dX11_best_19 : decode cX11_best 19 = .ok (.getfield 157, 3) := by decide +kernel
theorem dX11_best_22 : decode cX11_best 22 = .ok (.if_icmp .le 5, 3) := by decide +kernel
theorem dX11_best_25 : decode cX11_best 25 = .ok (.iconst (-1), 1) := by decide +kernel
theorem dX11_best_26 : decode cX11_best 26 = .ok (.ireturn, 1) := by decide +kernel
theorem dX11_best_27 : decode cX11_best 27 = .ok (.aload_n 0, 1) := by decide +kernel
theorem dX11_best_28 : decode cX11_best 28 = .ok (.aload_n 3, 1) := by decide +kernel
theorem dX11_best_29 : decode cX11_best 29 = .ok (.invokevirtual 285, 3) := by decide +kernel
theorem dX11_best_32 : decode cX11_best 32 = .ok (.aload_n 0, 1) := by decide +kernel
theorem dX11_best_33 : decode cX11_best 33 = .ok (.getfield 76, 3) := by decide +kernel
theorem dX11_best_36 : decode cX11_best 36 = .ok (.iload_n 2, 1) := by decide +kernel
theorem dX11_best_37 : decode cX11_best 37 = .ok (.invokevirtual 298, 3) := by decide +kernel
theorem dX11_best_40 : decode cX11_best 40 = .ok (.ireturn, 1) := by decide +kernel
theorem dX11_near_0 : decode cX11_near 0 = .ok (.aload_n 0, 1) := by decide +kernel
theorem dX11_near_1 : decode cX11_near 1 = .ok (.getfield 26, 3) := by decide +kernel
theorem dX11_near_4 : decode cX11_near 4 = .ok (.iload_n 1, 1) := by decide +kernel
theorem dX11_near_5 : decode cX11_near 5 = .ok (.invokevirtual 150, 3) := by decide +kernel
theorem dX11_near_8 : decode cX11_near 8 = .ok (.astore_n 3, 1) := by decide +kernel
theorem dX11_near_9 : decode cX11_near 9 = .ok (.aload_n 3, 1) := by decide +kernel
theorem dX11_near_10 : decode cX11_near 10 = .ok (.ifnull 13, 3) := by decide +kernel
theorem dX11_near_13 : decode cX11_near 13 = .ok (.iload_n 2, 1) := by decide +kernel
theorem dX11_near_14 : decode cX11_near 14 = .ok (.ifCond .lt 9, 3) := by decide +kernel
theorem dX11_near_17 : decode cX11_near 17 = .ok (.iload_n 2, 1) := by decide +kernel
theorem dX11_near_18 : decode cX11_near 18 = .ok (.bipush 20, 2) := by decide +kernel
theorem dX11_near_20 : decode cX11_near 20 = .ok (.if_icmp .le 5, 3) := by decide +kernel
theorem dX11_near_23 : decode cX11_near 23 = .ok (.iconst (-1), 1) := by decide +kernel
theorem dX11_near_24 : decode cX11_near 24 = .ok (.ireturn, 1) := by decide +kernel
theorem dX11_near_25 : decode cX11_near 25 = .ok (.aload_n 0, 1) := by decide +kernel
theorem dX11_near_26 : decode cX11_near 26 = .ok (.aload_n 3, 1) := by decide +kernel
theorem dX11_near_27 : decode cX11_near 27 = .ok (.invokevirtual 285, 3) := by decide +kernel
theorem dX11_near_30 : decode cX11_near 30 = .ok (.aload_n 0, 1) := by decide +kernel
theorem dX11_near_31 : decode cX11_near 31 = .ok (.getfield 76, 3) := by decide +kernel
theorem dX11_near_34 : decode cX11_near 34 = .ok (.iload_n 2, 1) := by decide +kernel
theorem dX11_near_35 : decode cX11_near 35 = .ok (.invokevirtual 301, 3) := by decide +kernel
theorem dX11_near_38 : decode cX11_near 38 = .ok (.ireturn, 1) := by decide +kernel
theorem dX11_fillWindows_0 : decode cX11_fillWindows 0 = .ok (.aload_n 0, 1) := by decide +kernel
theorem dX11_fillWindows_1 : decode cX11_fillWindows 1 = .ok (.getfield 66, 3) := by decide +kernel
theorem dX11_fillWindows_4 : decode cX11_fillWindows 4 = .ok (.aload_n 1, 1) := by decide +kernel
theorem dX11_fillWindows_5 : decode cX11_fillWindows 5 = .ok (.aload_n 0, 1) := by decide +kernel
theorem dX11_fillWindows_6 : decode cX11_fillWindows 6 = .ok (.getfield 47, 3) := by decide +kernel
theorem dX11_fillWindows_9 : decode cX11_fillWindows 9 = .ok (.invokevirtual 267, 3) := by decide +kernel
theorem dX11_fillWindows_12 : decode cX11_fillWindows 12 = .ok (.aload_n 0, 1) := by decide +kernel
theorem dX11_fillWindows_13 : decode cX11_fillWindows 13 = .ok (.getfield 76, 3) := by decide +kernel
theorem dX11_fillWindows_16 : decode cX11_fillWindows 16 = .ok (.aload_n 0, 1) := by decide +kernel
theorem dX11_fillWindows_17 : decode cX11_fillWindows 17 = .ok (.getfield 66, 3) := by decide +kernel
theorem dX11_fillWindows_20 : decode cX11_fillWindows 20 = .ok (.invokevirtual 304, 3) := by decide +kernel
theorem dX11_fillWindows_23 : decode cX11_fillWindows 23 = .ok (.return_, 1) := by decide +kernel
theorem dX11_common_0 : decode cX11_common 0 = .ok (.aload_n 0, 1) := by decide +kernel
theorem dX11_common_1 : decode cX11_common 1 = .ok (.getfield 26, 3) := by decide +kernel
theorem dX11_common_4 : decode cX11_common 4 = .ok (.iload_n 1, 1) := by decide +kernel
theorem dX11_common_5 : decode cX11_common 5 = .ok (.invokevirtual 150, 3) := by decide +kernel
theorem dX11_common_8 : decode cX11_common 8 = .ok (.astore 5, 2) := by decide +kernel
theorem dX11_common_10 : decode cX11_common 10 = .ok (.aload_n 0, 1) := by decide +kernel
theorem dX11_common_11 : decode cX11_common 11 = .ok (.getfield 26, 3) := by decide +kernel
theorem dX11_common_14 : decode cX11_common 14 = .ok (.iload_n 2, 1) := by decide +kernel
theorem dX11_common_15 : decode cX11_common 15 = .ok (.invokevirtual 150, 3) := by decide +kernel
theorem dX11_common_18 : decode cX11_common 18 = .ok (.astore 6, 2) := by decide +kernel
theorem dX11_common_20 : decode cX11_common 20 = .ok (.aload 5, 2) := by decide +kernel
theorem dX11_common_22 : decode cX11_common 22 = .ok (.ifnull 15, 3) := by decide +kernel
theorem dX11_common_25 : decode cX11_common 25 = .ok (.aload_n 0, 1) := by decide +kernel
theorem dX11_common_26 : decode cX11_common 26 = .ok (.aload 6, 2) := by decide +kernel
theorem dX11_common_28 : decode cX11_common 28 = .ok (.iload_n 3, 1) := by decide +kernel
theorem dX11_common_29 : decode cX11_common 29 = .ok (.iload 4, 2) := by decide +kernel
theorem dX11_common_31 : decode cX11_common 31 = .ok (.invokevirtual 263, 3) := by decide +kernel
theorem dX11_common_34 : decode cX11_common 34 = .ok (.ifCond .ne 5, 3) := by decide +kernel
theorem dX11_common_37 : decode cX11_common 37 = .ok (.iconst (-1), 1) := by decide +kernel
theorem dX11_common_38 : decode cX11_common 38 = .ok (.ireturn, 1) := by decide +kernel
theorem dX11_common_39 : decode cX11_common 39 = .ok (.aload_n 0, 1) := by decide +kernel
theorem dX11_common_40 : decode cX11_common 40 = .ok (.aload 5, 2) := by decide +kernel
theorem dX11_common_42 : decode cX11_common 42 = .ok (.aload 6, 2) := by decide +kernel
theorem dX11_common_44 : decode cX11_common 44 = .ok (.invokevirtual 308, 3) := by decide +kernel
theorem dX11_common_47 : decode cX11_common 47 = .ok (.aload_n 0, 1) := by decide +kernel
theorem dX11_common_48 : decode cX11_common 48 = .ok (.getfield 76, 3) := by decide +kernel
theorem dX11_common_51 : decode cX11_common 51 = .ok (.iload_n 3, 1) := by decide +kernel
theorem dX11_common_52 : decode cX11_common 52 = .ok (.iload 4, 2) := by decide +kernel
theorem dX11_common_54 : decode cX11_common 54 = .ok (.invokevirtual 312, 3) := by decide +kernel
theorem dX11_common_57 : decode cX11_common 57 = .ok (.ireturn, 1) := by decide +kernel
theorem dX11_meets_0 : decode cX11_meets 0 = .ok (.aload_n 0, 1) := by decide +kernel
theorem dX11_meets_1 : decode cX11_meets 1 = .ok (.getfield 26, 3) := by decide +kernel
theorem dX11_meets_4 : decode cX11_meets 4 = .ok (.iload_n 1, 1) := by decide +kernel
theorem dX11_meets_5 : decode cX11_meets 5 = .ok (.invokevirtual 150, 3) := by decide +kernel
theorem dX11_meets_8 : decode cX11_meets 8 = .ok (.astore 4, 2) := by decide +kernel
theorem dX11_meets_10 : decode cX11_meets 10 = .ok (.aload_n 0, 1) := by decide +kernel
theorem dX11_meets_11 : decode cX11_meets 11 = .ok (.getfield 26, 3) := by decide +kernel
theorem dX11_meets_14 : decode cX11_meets 14 = .ok (.iload_n 2, 1) := by decide +kernel
theorem dX11_meets_15 : decode cX11_meets 15 = .ok (.invokevirtual 150, 3) := by decide +kernel
theorem dX11_meets_18 : decode cX11_meets 18 = .ok (.astore 5, 2) := by decide +kernel
theorem dX11_meets_20 : decode cX11_meets 20 = .ok (.aload 4, 2) := by decide +kernel
theorem dX11_meets_22 : decode cX11_meets 22 = .ok (.ifnull 17, 3) := by decide +kernel
theorem dX11_meets_25 : decode cX11_meets 25 = .ok (.aload 5, 2) := by decide +kernel
theorem dX11_meets_27 : decode cX11_meets 27 = .ok (.ifnull 12, 3) := by decide +kernel
theorem dX11_meets_30 : decode cX11_meets 30 = .ok (.aload 5, 2) := by decide +kernel
theorem dX11_meets_32 : decode cX11_meets 32 = .ok (.iload_n 3, 1) := by decide +kernel
theorem dX11_meets_33 : decode cX11_meets 33 = .ok (.invokevirtual 160, 3) := by decide +kernel
theorem dX11_meets_36 : decode cX11_meets 36 = .ok (.ifCond .ne 5, 3) := by decide +kernel
theorem dX11_meets_39 : decode cX11_meets 39 = .ok (.iconst (-1), 1) := by decide +kernel
theorem dX11_meets_40 : decode cX11_meets 40 = .ok (.ireturn, 1) := by decide +kernel
theorem dX11_meets_41 : decode cX11_meets 41 = .ok (.aload_n 0, 1) := by decide +kernel
theorem dX11_meets_42 : decode cX11_meets 42 = .ok (.aload 4, 2) := by decide +kernel
theorem dX11_meets_44 : decode cX11_meets 44 = .ok (.aload 5, 2) := by decide +kernel
theorem dX11_meets_46 : decode cX11_meets 46 = .ok (.invokevirtual 308, 3) := by decide +kernel
theorem dX11_meets_49 : decode cX11_meets 49 = .ok (.aload_n 0, 1) := by decide +kernel
theorem dX11_meets_50 : decode cX11_meets 50 = .ok (.getfield 76, 3) := by decide +kernel
theorem dX11_meets_53 : decode cX11_meets 53 = .ok (.iload_n 3, 1) := by decide +kernel
theorem dX11_meets_54 : decode cX11_meets 54 = .ok (.invokevirtual 289, 3) := by decide +kernel
theorem dX11_meets_57 : decode cX11_meets 57 = .ok (.ireturn, 1) := by decide +kernel
theorem dX11_fillCommon_0 : decode cX11_fillCommon 0 = .ok (.aload_n 0, 1) := by decide +kernel
theorem dX11_fillCommon_1 : decode cX11_fillCommon 1 = .ok (.getfield 70, 3) := by decide +kernel
theorem dX11_fillCommon_4 : decode cX11_fillCommon 4 = .ok (.aload_n 1, 1) := by decide +kernel
theorem dX11_fillCommon_5 : decode cX11_fillCommon 5 = .ok (.aload_n 0, 1) := by decide +kernel
theorem dX11_fillCommon_6 : decode cX11_fillCommon 6 = .ok (.getfield 47, 3) := by decide +kernel
theorem dX11_fillCommon_9 : decode cX11_fillCommon 9 = .ok (.invokevirtual 267, 3) := by decide +kernel
theorem dX11_fillCommon_12 : decode cX11_fillCommon 12 = .ok (.aload_n 0, 1) := by decide +kernel
theorem dX11_fillCommon_13 : decode cX11_fillCommon 13 = .ok (.getfield 66, 3) := by decide +kernel
theorem dX11_fillCommon_16 : decode cX11_fillCommon 16 = .ok (.aload_n 2, 1) := by decide +kernel
theorem dX11_fillCommon_17 : decode cX11_fillCommon 17 = .ok (.aload_n 0, 1) := by decide +kernel
theorem dX11_fillCommon_18 : decode cX11_fillCommon 18 = .ok (.getfield 47, 3) := by decide +kernel
theorem dX11_fillCommon_21 : decode cX11_fillCommon 21 = .ok (.invokevirtual 267, 3) := by decide +kernel
theorem dX11_fillCommon_24 : decode cX11_fillCommon 24 = .ok (.aload_n 0, 1) := by decide +kernel
theorem dX11_fillCommon_25 : decode cX11_fillCommon 25 = .ok (.getfield 76, 3) := by decide +kernel
theorem dX11_fillCommon_28 : decode cX11_fillCommon 28 = .ok (.aload_n 0, 1) := by decide +kernel
theorem dX11_fillCommon_29 : decode cX11_fillCommon 29 = .ok (.getfield 70, 3) := by decide +kernel
theorem dX11_fillCommon_32 : decode cX11_fillCommon 32 = .ok (.aload_n 0, 1) := by decide +kernel
theorem dX11_fillCommon_33 : decode cX11_fillCommon 33 = .ok (.getfield 66, 3) := by decide +kernel
theorem dX11_fillCommon_36 : decode cX11_fillCommon 36 = .ok (.invokevirtual 315, 3) := by decide +kernel
theorem dX11_fillCommon_39 : decode cX11_fillCommon 39 = .ok (.return_, 1) := by decide +kernel
theorem dX11_ends_0 : decode cX11_ends 0 = .ok (.aload_n 0, 1) := by decide +kernel
theorem dX11_ends_1 : decode cX11_ends 1 = .ok (.getfield 26, 3) := by decide +kernel
theorem dX11_ends_4 : decode cX11_ends 4 = .ok (.iload_n 1, 1) := by decide +kernel
theorem dX11_ends_5 : decode cX11_ends 5 = .ok (.invokevirtual 178, 3) := by decide +kernel
theorem dX11_ends_8 : decode cX11_ends 8 = .ok (.astore_n 3, 1) := by decide +kernel
theorem dX11_ends_9 : decode cX11_ends 9 = .ok (.aload_n 3, 1) := by decide +kernel
theorem dX11_ends_10 : decode cX11_ends 10 = .ok (.ifnull 11, 3) := by decide +kernel
theorem dX11_ends_13 : decode cX11_ends 13 = .ok (.aload_n 3, 1) := by decide +kernel
theorem dX11_ends_14 : decode cX11_ends 14 = .ok (.iload_n 2, 1) := by decide +kernel
theorem dX11_ends_15 : decode cX11_ends 15 = .ok (.invokevirtual 318, 3) := by decide +kernel
theorem dX11_ends_18 : decode cX11_ends 18 = .ok (.ifCond .ne 5, 3) := by decide +kernel
theorem dX11_ends_21 : decode cX11_ends 21 = .ok (.iconst (-1), 1) := by decide +kernel
theorem dX11_ends_22 : decode cX11_ends 22 = .ok (.ireturn, 1) := by decide +kernel
theorem dX11_ends_23 : decode cX11_ends 23 = .ok (.aload_n 3, 1) := by decide +kernel
theorem dX11_ends_24 : decode cX11_ends 24 = .ok (.getfield 321, 3) := by decide +kernel
theorem dX11_ends_27 : decode cX11_ends 27 = .ok (.iload_n 2, 1) := by decide +kernel
theorem dX11_ends_28 : decode cX11_ends 28 = .ok (.iaload, 1) := by decide +kernel
theorem dX11_ends_29 : decode cX11_ends 29 = .ok (.ireturn, 1) := by decide +kernel
theorem dX11_counts_0 : decode cX11_counts 0 = .ok (.aload_n 0, 1) := by decide +kernel
theorem dX11_counts_1 : decode cX11_counts 1 = .ok (.getfield 26, 3) := by decide +kernel
theorem dX11_counts_4 : decode cX11_counts 4 = .ok (.iload_n 1, 1) := by decide +kernel
theorem dX11_counts_5 : decode cX11_counts 5 = .ok (.invokevirtual 178, 3) := by decide +kernel
theorem dX11_counts_8 : decode cX11_counts 8 = .ok (.astore 4, 2) := by decide +kernel
theorem dX11_counts_10 : decode cX11_counts 10 = .ok (.aload 4, 2) := by decide +kernel
theorem dX11_counts_12 : decode cX11_counts 12 = .ok (.ifnull 29, 3) := by decide +kernel
theorem dX11_counts_15 : decode cX11_counts 15 = .ok (.iload_n 2, 1) := by decide +kernel
theorem dX11_counts_16 : decode cX11_counts 16 = .ok (.ifCond .lt 25, 3) := by decide +kernel
theorem dX11_counts_19 : decode cX11_counts 19 = .ok (.iload_n 2, 1) := by decide +kernel
theorem dX11_counts_20 : decode cX11_counts 20 = .ok (.aload 4, 2) := by decide +kernel
theorem dX11_counts_22 : decode cX11_counts 22 = .ok (.getfield 182, 3) := by decide +kernel
theorem dX11_counts_25 : decode cX11_counts 25 = .ok (.if_icmp .gt 16, 3) := by decide +kernel
theorem dX11_counts_28 : decode cX11_counts 28 = .ok (.iload_n 3, 1) := by decide +kernel
theorem dX11_counts_29 : decode cX11_counts 29 = .ok (.ifCond .lt 12, 3) := by decide +kernel
theorem dX11_counts_32 : decode cX11_counts 32 = .ok (.iload_n 3, 1) := by decide +kernel
theorem dX11_counts_33 : decode cX11_counts 33 = .ok (.aload 4, 2) := by decide +kernel
theorem dX11_counts_35 : decode cX11_counts 35 = .ok (.getfield 182, 3) := by decide +kernel
theorem dX11_counts_38 : decode cX11_counts 38 = .ok (.if_icmp .le 5, 3) := by decide +kernel
theorem dX11_counts_41 : decode cX11_counts 41 = .ok (.iconst (-1), 1) := by decide +kernel
theorem dX11_counts_42 : decode cX11_counts 42 = .ok (.ireturn, 1) := by decide +kernel
theorem dX11_counts_43 : decode cX11_counts 43 = .ok (.aload 4, 2) := by decide +kernel
theorem dX11_counts_45 : decode cX11_counts 45 = .ok (.iload_n 2, 1) := by decide +kernel
theorem dX11_counts_46 : decode cX11_counts 46 = .ok (.iload_n 3, 1) := by decide +kernel
theorem dX11_counts_47 : decode cX11_counts 47 = .ok (.invokevirtual 324, 3) := by decide +kernel
theorem dX11_counts_50 : decode cX11_counts 50 = .ok (.ireturn, 1) := by decide +kernel
theorem dX11_compose_0 : decode cX11_compose 0 = .ok (.aload_n 0, 1) := by decide +kernel
theorem dX11_compose_1 : decode cX11_compose 1 = .ok (.getfield 26, 3) := by decide +kernel
theorem dX11_compose_4 : decode cX11_compose 4 = .ok (.iload_n 1, 1) := by decide +kernel
theorem dX11_compose_5 : decode cX11_compose 5 = .ok (.invokevirtual 178, 3) := by decide +kernel
theorem dX11_compose_8 : decode cX11_compose 8 = .ok (.astore 4, 2) := by decide +kernel
theorem dX11_compose_10 : decode cX11_compose 10 = .ok (.aload_n 0, 1) := by decide +kernel
theorem dX11_compose_11 : decode cX11_compose 11 = .ok (.getfield 26, 3) := by decide +kernel
theorem dX11_compose_14 : decode cX11_compose 14 = .ok (.iload_n 2, 1) := by decide +kernel
theorem dX11_compose_15 : decode cX11_compose 15 = .ok (.invokevirtual 178, 3) := by decide +kernel
theorem dX11_compose_18 : decode cX11_compose 18 = .ok (.astore 5, 2) := by decide +kernel
theorem dX11_compose_20 : decode cX11_compose 20 = .ok (.aload 4, 2) := by decide +kernel
theorem dX11_compose_22 : decode cX11_compose 22 = .ok (.aload 5, 2) := by decide +kernel
theorem dX11_compose_24 : decode cX11_compose 24 = .ok (.invokestatic 327, 3) := by decide +kernel
theorem dX11_compose_27 : decode cX11_compose 27 = .ok (.ifCond .eq 12, 3) := by decide +kernel
theorem dX11_compose_30 : decode cX11_compose 30 = .ok (.aload 4, 2) := by decide +kernel
theorem dX11_compose_32 : decode cX11_compose 32 = .ok (.iload_n 3, 1) := by decide +kernel
theorem dX11_compose_33 : decode cX11_compose 33 = .ok (.invokevirtual 318, 3) := by decide +kernel
theorem dX11_compose_36 : decode cX11_compose 36 = .ok (.ifCond .ne 5, 3) := by decide +kernel
theorem dX11_compose_39 : decode cX11_compose 39 = .ok (.iconst (-1), 1) := by decide +kernel
theorem dX11_compose_40 : decode cX11_compose 40 = .ok (.ireturn, 1) := by decide +kernel
theorem dX11_compose_41 : decode cX11_compose 41 = .ok (.aload_n 0, 1) := by decide +kernel
theorem dX11_compose_42 : decode cX11_compose 42 = .ok (.getfield 90, 3) := by decide +kernel
theorem dX11_compose_45 : decode cX11_compose 45 = .ok (.aload 4, 2) := by decide +kernel
theorem dX11_compose_47 : decode cX11_compose 47 = .ok (.aload 5, 2) := by decide +kernel
theorem dX11_compose_49 : decode cX11_compose 49 = .ok (.aload_n 0, 1) := by decide +kernel
theorem dX11_compose_50 : decode cX11_compose 50 = .ok (.getfield 90, 3) := by decide +kernel
theorem dX11_compose_53 : decode cX11_compose 53 = .ok (.getfield 331, 3) := by decide +kernel
theorem dX11_compose_56 : decode cX11_compose 56 = .ok (.invokevirtual 335, 3) := by decide +kernel
theorem dX11_compose_59 : decode cX11_compose 59 = .ok (.aload_n 0, 1) := by decide +kernel
theorem dX11_compose_60 : decode cX11_compose 60 = .ok (.getfield 90, 3) := by decide +kernel
theorem dX11_compose_63 : decode cX11_compose 63 = .ok (.getfield 331, 3) := by decide +kernel
theorem dX11_compose_66 : decode cX11_compose 66 = .ok (.getfield 321, 3) := by decide +kernel
theorem dX11_compose_69 : decode cX11_compose 69 = .ok (.iload_n 3, 1) := by decide +kernel
theorem dX11_compose_70 : decode cX11_compose 70 = .ok (.iaload, 1) := by decide +kernel
theorem dX11_compose_71 : decode cX11_compose 71 = .ok (.ireturn, 1) := by decide +kernel
theorem dX11_power_0 : decode cX11_power 0 = .ok (.aload_n 0, 1) := by decide +kernel
theorem dX11_power_1 : decode cX11_power 1 = .ok (.getfield 26, 3) := by decide +kernel
theorem dX11_power_4 : decode cX11_power 4 = .ok (.iload_n 1, 1) := by decide +kernel
theorem dX11_power_5 : decode cX11_power 5 = .ok (.invokevirtual 178, 3) := by decide +kernel
theorem dX11_power_8 : decode cX11_power 8 = .ok (.astore 4, 2) := by decide +kernel
theorem dX11_power_10 : decode cX11_power 10 = .ok (.aload 4, 2) := by decide +kernel
theorem dX11_power_12 : decode cX11_power 12 = .ok (.ifnull 23, 3) := by decide +kernel
theorem dX11_power_15 : decode cX11_power 15 = .ok (.iload_n 2, 1) := by decide +kernel
theorem dX11_power_16 : decode cX11_power 16 = .ok (.iconst 1, 1) := by decide +kernel
theorem dX11_power_17 : decode cX11_power 17 = .ok (.if_icmp .lt 18, 3) := by decide +kernel
theorem dX11_power_20 : decode cX11_power 20 = .ok (.iload_n 2, 1) := by decide +kernel
theorem dX11_power_21 : decode cX11_power 21 = .ok (.bipush 20, 2) := by decide +kernel
theorem dX11_power_23 : decode cX11_power 23 = .ok (.if_icmp .gt 12, 3) := by decide +kernel
theorem dX11_power_26 : decode cX11_power 26 = .ok (.aload 4, 2) := by decide +kernel
theorem dX11_power_28 : decode cX11_power 28 = .ok (.iload_n 3, 1) := by decide +kernel
theorem dX11_power_29 : decode cX11_power 29 = .ok (.invokevirtual 318, 3) := by decide +kernel
theorem dX11_power_32 : decode cX11_power 32 = .ok (.ifCond .ne 5, 3) := by decide +kernel
theorem dX11_power_35 : decode cX11_power 35 = .ok (.iconst (-1), 1) := by decide +kernel
theorem dX11_power_36 : decode cX11_power 36 = .ok (.ireturn, 1) := by decide +kernel
theorem dX11_power_37 : decode cX11_power 37 = .ok (.aload_n 0, 1) := by decide +kernel
theorem dX11_power_38 : decode cX11_power 38 = .ok (.getfield 90, 3) := by decide +kernel
theorem dX11_power_41 : decode cX11_power 41 = .ok (.aload 4, 2) := by decide +kernel
theorem dX11_power_43 : decode cX11_power 43 = .ok (.iload_n 2, 1) := by decide +kernel
theorem dX11_power_44 : decode cX11_power 44 = .ok (.invokevirtual 339, 3) := by decide +kernel
theorem dX11_power_47 : decode cX11_power 47 = .ok (.pop, 1) := by decide +kernel
theorem dX11_power_48 : decode cX11_power 48 = .ok (.aload_n 0, 1) := by decide +kernel
theorem dX11_power_49 : decode cX11_power 49 = .ok (.getfield 90, 3) := by decide +kernel
theorem dX11_power_52 : decode cX11_power 52 = .ok (.getfield 343, 3) := by decide +kernel
theorem dX11_power_55 : decode cX11_power 55 = .ok (.getfield 321, 3) := by decide +kernel
theorem dX11_power_58 : decode cX11_power 58 = .ok (.iload_n 3, 1) := by decide +kernel
theorem dX11_power_59 : decode cX11_power 59 = .ok (.iaload, 1) := by decide +kernel
theorem dX11_power_60 : decode cX11_power 60 = .ok (.ireturn, 1) := by decide +kernel
theorem dX11_settles_0 : decode cX11_settles 0 = .ok (.aload_n 0, 1) := by decide +kernel
theorem dX11_settles_1 : decode cX11_settles 1 = .ok (.getfield 26, 3) := by decide +kernel
theorem dX11_settles_4 : decode cX11_settles 4 = .ok (.iload_n 1, 1) := by decide +kernel
theorem dX11_settles_5 : decode cX11_settles 5 = .ok (.invokevirtual 178, 3) := by decide +kernel
theorem dX11_settles_8 : decode cX11_settles 8 = .ok (.astore_n 2, 1) := by decide +kernel
theorem dX11_settles_9 : decode cX11_settles 9 = .ok (.aload_n 2, 1) := by decide +kernel
theorem dX11_settles_10 : decode cX11_settles 10 = .ok (.ifnonnull 5, 3) := by decide +kernel
theorem dX11_settles_13 : decode cX11_settles 13 = .ok (.iconst (-1), 1) := by decide +kernel
theorem dX11_settles_14 : decode cX11_settles 14 = .ok (.ireturn, 1) := by decide +kernel
theorem dX11_settles_15 : decode cX11_settles 15 = .ok (.aload_n 0, 1) := by decide +kernel
theorem dX11_settles_16 : decode cX11_settles 16 = .ok (.getfield 90, 3) := by decide +kernel
theorem dX11_settles_19 : decode cX11_settles 19 = .ok (.aload_n 2, 1) := by decide +kernel
theorem dX11_settles_20 : decode cX11_settles 20 = .ok (.bipush 21, 2) := by decide +kernel
theorem dX11_settles_22 : decode cX11_settles 22 = .ok (.invokevirtual 339, 3) := by decide +kernel
theorem dX11_settles_25 : decode cX11_settles 25 = .ok (.istore_n 3, 1) := by decide +kernel
theorem dX11_settles_26 : decode cX11_settles 26 = .ok (.iload_n 3, 1) := by decide +kernel
theorem dX11_settles_27 : decode cX11_settles 27 = .ok (.bipush 20, 2) := by decide +kernel
theorem dX11_settles_29 : decode cX11_settles 29 = .ok (.if_icmp .gt 7, 3) := by decide +kernel
theorem dX11_settles_32 : decode cX11_settles 32 = .ok (.iload_n 3, 1) := by decide +kernel
theorem dX11_settles_33 : decode cX11_settles 33 = .ok (.goto 4, 3) := by decide +kernel
theorem dX11_settles_36 : decode cX11_settles 36 = .ok (.iconst (-1), 1) := by decide +kernel
theorem dX11_settles_37 : decode cX11_settles 37 = .ok (.ireturn, 1) := by decide +kernel
theorem dX11_knit_0 : decode cX11_knit 0 = .ok (.aload_n 0, 1) := by decide +kernel
theorem dX11_knit_1 : decode cX11_knit 1 = .ok (.getfield 26, 3) := by decide +kernel
theorem dX11_knit_4 : decode cX11_knit 4 = .ok (.iload_n 1, 1) := by decide +kernel
theorem dX11_knit_5 : decode cX11_knit 5 = .ok (.invokevirtual 178, 3) := by decide +kernel
theorem dX11_knit_8 : decode cX11_knit 8 = .ok (.astore_n 3, 1) := by decide +kernel
theorem dX11_knit_9 : decode cX11_knit 9 = .ok (.aload_n 3, 1) := by decide +kernel
theorem dX11_knit_10 : decode cX11_knit 10 = .ok (.ifnull 13, 3) := by decide +kernel
theorem dX11_knit_13 : decode cX11_knit 13 = .ok (.iload_n 2, 1) := by decide +kernel
theorem dX11_knit_14 : decode cX11_knit 14 = .ok (.ifCond .lt 9, 3) := by decide +kernel
theorem dX11_knit_17 : decode cX11_knit 17 = .ok (.iload_n 2, 1) := by decide +kernel
theorem dX11_knit_18 : decode cX11_knit 18 = .ok (.bipush 45, 2) := by decide +kernel
theorem dX11_knit_20 : decode cX11_knit 20 = .ok (.if_icmp .lt 5, 3) := by decide +kernel
theorem dX11_knit_23 : decode cX11_knit 23 = .ok (.iconst (-1), 1) := by decide +kernel
theorem dX11_knit_24 : decode cX11_knit 24 = .ok (.ireturn, 1) := by decide +kernel
theorem dX11_knit_25 : decode cX11_knit 25 = .ok (.aload_n 0, 1) := by decide +kernel
theorem dX11_knit_26 : decode cX11_knit 26 = .ok (.getfield 90, 3) := by decide +kernel
theorem dX11_knit_29 : decode cX11_knit 29 = .ok (.aload_n 3, 1) := by decide +kernel
theorem dX11_knit_30 : decode cX11_knit 30 = .ok (.iload_n 2, 1) := by decide +kernel
theorem dX11_knit_31 : decode cX11_knit 31 = .ok (.invokevirtual 346, 3) := by decide +kernel
theorem dX11_knit_34 : decode cX11_knit 34 = .ok (.ireturn, 1) := by decide +kernel
theorem dX11_below_0 : decode cX11_below 0 = .ok (.aload_n 0, 1) := by decide +kernel
theorem dX11_below_1 : decode cX11_below 1 = .ok (.getfield 26, 3) := by decide +kernel
theorem dX11_below_4 : decode cX11_below 4 = .ok (.iload_n 1, 1) := by decide +kernel
theorem dX11_below_5 : decode cX11_below 5 = .ok (.invokevirtual 178, 3) := by decide +kernel
theorem dX11_below_8 : decode cX11_below 8 = .ok (.astore_n 3, 1) := by decide +kernel
theorem dX11_below_9 : decode cX11_below 9 = .ok (.aload_n 0, 1) := by decide +kernel
theorem dX11_below_10 : decode cX11_below 10 = .ok (.getfield 26, 3) := by decide +kernel
theorem dX11_below_13 : decode cX11_below 13 = .ok (.iload_n 2, 1) := by decide +kernel
theorem dX11_below_14 : decode cX11_below 14 = .ok (.invokevirtual 178, 3) := by decide +kernel
theorem dX11_below_17 : decode cX11_below 17 = .ok (.astore 4, 2) := by decide +kernel
theorem dX11_below_19 : decode cX11_below 19 = .ok (.aload_n 3, 1) := by decide +kernel
theorem dX11_below_20 : decode cX11_below 20 = .ok (.aload 4, 2) := by decide +kernel
theorem dX11_below_22 : decode cX11_below 22 = .ok (.invokestatic 327, 3) := by decide +kernel
theorem dX11_below_25 : decode cX11_below 25 = .ok (.ifCond .eq 20, 3) := by decide +kernel
theorem dX11_below_28 : decode cX11_below 28 = .ok (.aload_n 0, 1) := by decide +kernel
theorem dX11_below_29 : decode cX11_below 29 = .ok (.getfield 90, 3) := by decide +kernel
theorem dX11_below_32 : decode cX11_below 32 = .ok (.aload_n 3, 1) := by decide +kernel
theorem dX11_below_33 : decode cX11_below 33 = .ok (.aload 4, 2) := by decide +kernel
theorem dX11_below_35 : decode cX11_below 35 = .ok (.invokevirtual 349, 3) := by decide +kernel
theorem dX11_below_38 : decode cX11_below 38 = .ok (.ifCond .eq 7, 3) := by decide +kernel
theorem dX11_below_41 : decode cX11_below 41 = .ok (.iconst 1, 1) := by decide +kernel
theorem dX11_below_42 : decode cX11_below 42 = .ok (.goto 4, 3) := by decide +kernel
theorem dX11_below_45 : decode cX11_below 45 = .ok (.iconst 0, 1) := by decide +kernel
theorem dX11_below_46 : decode cX11_below 46 = .ok (.ireturn, 1) := by decide +kernel
theorem dX11_areAlike_0 : decode cX11_areAlike 0 = .ok (.aload_n 0, 1) := by decide +kernel
theorem dX11_areAlike_1 : decode cX11_areAlike 1 = .ok (.ifnull 22, 3) := by decide +kernel
theorem dX11_areAlike_4 : decode cX11_areAlike 4 = .ok (.aload_n 1, 1) := by decide +kernel
theorem dX11_areAlike_5 : decode cX11_areAlike 5 = .ok (.ifnull 18, 3) := by decide +kernel
theorem dX11_areAlike_8 : decode cX11_areAlike 8 = .ok (.aload_n 0, 1) := by decide +kernel
theorem dX11_areAlike_9 : decode cX11_areAlike 9 = .ok (.getfield 182, 3) := by decide +kernel
theorem dX11_areAlike_12 : decode cX11_areAlike 12 = .ok (.aload_n 1, 1) := by decide +kernel
theorem dX11_areAlike_13 : decode cX11_areAlike 13 = .ok (.getfield 182, 3) := by decide +kernel
theorem dX11_areAlike_16 : decode cX11_areAlike 16 = .ok (.if_icmp .ne 7, 3) := by decide +kernel
theorem dX11_areAlike_19 : decode cX11_areAlike 19 = .ok (.iconst 1, 1) := by decide +kernel
theorem dX11_areAlike_20 : decode cX11_areAlike 20 = .ok (.goto 4, 3) := by decide +kernel
theorem dX11_areAlike_23 : decode cX11_areAlike 23 = .ok (.iconst 0, 1) := by decide +kernel
theorem dX11_areAlike_24 : decode cX11_areAlike 24 = .ok (.ireturn, 1) := by decide +kernel
theorem dX11_see_0 : decode cX11_see 0 = .ok (.aload_n 0, 1) := by decide +kernel
theorem dX11_see_1 : decode cX11_see 1 = .ok (.getfield 26, 3) := by decide +kernel
theorem dX11_see_4 : decode cX11_see 4 = .ok (.iload_n 1, 1) := by decide +kernel
theorem dX11_see_5 : decode cX11_see 5 = .ok (.invokevirtual 150, 3) := by decide +kernel
theorem dX11_see_8 : decode cX11_see 8 = .ok (.ifnull 14, 3) := by decide +kernel
theorem dX11_see_11 : decode cX11_see 11 = .ok (.iload_n 2, 1) := by decide +kernel
theorem dX11_see_12 : decode cX11_see 12 = .ok (.iconst 1, 1) := by decide +kernel
theorem dX11_see_13 : decode cX11_see 13 = .ok (.if_icmp .lt 9, 3) := by decide +kernel
theorem dX11_see_16 : decode cX11_see 16 = .ok (.iload_n 2, 1) := by decide +kernel
theorem dX11_see_17 : decode cX11_see 17 = .ok (.bipush 20, 2) := by decide +kernel
theorem dX11_see_19 : decode cX11_see 19 = .ok (.if_icmp .le 5, 3) := by decide +kernel
theorem dX11_see_22 : decode cX11_see 22 = .ok (.iconst 0, 1) := by decide +kernel
theorem dX11_see_23 : decode cX11_see 23 = .ok (.ireturn, 1) := by decide +kernel
theorem dX11_see_24 : decode cX11_see 24 = .ok (.aload_n 0, 1) := by decide +kernel
theorem dX11_see_25 : decode cX11_see 25 = .ok (.getfield 26, 3) := by decide +kernel
theorem dX11_see_28 : decode cX11_see 28 = .ok (.iload_n 1, 1) := by decide +kernel
theorem dX11_see_29 : decode cX11_see 29 = .ok (.iload_n 2, 1) := by decide +kernel
theorem dX11_see_30 : decode cX11_see 30 = .ok (.iload_n 3, 1) := by decide +kernel
theorem dX11_see_31 : decode cX11_see 31 = .ok (.invokevirtual 352, 3) := by decide +kernel
theorem dX11_see_34 : decode cX11_see 34 = .ok (.ireturn, 1) := by decide +kernel
theorem dX11_fits_0 : decode cX11_fits 0 = .ok (.aload_n 0, 1) := by decide +kernel
theorem dX11_fits_1 : decode cX11_fits 1 = .ok (.getfield 26, 3) := by decide +kernel
theorem dX11_fits_4 : decode cX11_fits 4 = .ok (.iload_n 1, 1) := by decide +kernel
theorem dX11_fits_5 : decode cX11_fits 5 = .ok (.invokevirtual 150, 3) := by decide +kernel
theorem dX11_fits_8 : decode cX11_fits 8 = .ok (.astore_n 2, 1) := by decide +kernel
theorem dX11_fits_9 : decode cX11_fits 9 = .ok (.aload_n 2, 1) := by decide +kernel
theorem dX11_fits_10 : decode cX11_fits 10 = .ok (.ifnonnull 5, 3) := by decide +kernel
theorem dX11_fits_13 : decode cX11_fits 13 = .ok (.iconst (-1), 1) := by decide +kernel
theorem dX11_fits_14 : decode cX11_fits 14 = .ok (.ireturn, 1) := by decide +kernel
theorem dX11_fits_15 : decode cX11_fits 15 = .ok (.aload_n 0, 1) := by decide +kernel
theorem dX11_fits_16 : decode cX11_fits 16 = .ok (.aload_n 2, 1) := by decide +kernel
theorem dX11_fits_17 : decode cX11_fits 17 = .ok (.iload_n 1, 1) := by decide +kernel
theorem dX11_fits_18 : decode cX11_fits 18 = .ok (.invokevirtual 356, 3) := by decide +kernel
theorem dX11_fits_21 : decode cX11_fits 21 = .ok (.ireturn, 1) := by decide +kernel
theorem dX11_first_0 : decode cX11_first 0 = .ok (.aload_n 0, 1) := by decide +kernel
theorem dX11_first_1 : decode cX11_first 1 = .ok (.getfield 26, 3) := by decide +kernel
theorem dX11_first_4 : decode cX11_first 4 = .ok (.iload_n 1, 1) := by decide +kernel
theorem dX11_first_5 : decode cX11_first 5 = .ok (.invokevirtual 150, 3) := by decide +kernel
theorem dX11_first_8 : decode cX11_first 8 = .ok (.astore_n 2, 1) := by decide +kernel
theorem dX11_first_9 : decode cX11_first 9 = .ok (.aload_n 2, 1) := by decide +kernel
theorem dX11_first_10 : decode cX11_first 10 = .ok (.ifnonnull 5, 3) := by decide +kernel
theorem dX11_first_13 : decode cX11_first 13 = .ok (.iconst (-1), 1) := by decide +kernel
theorem dX11_first_14 : decode cX11_first 14 = .ok (.ireturn, 1) := by decide +kernel
theorem dX11_first_15 : decode cX11_first 15 = .ok (.aload_n 0, 1) := by decide +kernel
theorem dX11_first_16 : decode cX11_first 16 = .ok (.aload_n 2, 1) := by decide +kernel
theorem dX11_first_17 : decode cX11_first 17 = .ok (.invokevirtual 285, 3) := by decide +kernel
theorem dX11_first_20 : decode cX11_first 20 = .ok (.iconst 0, 1) := by decide +kernel
theorem dX11_first_21 : decode cX11_first 21 = .ok (.istore_n 3, 1) := by decide +kernel
theorem dX11_first_22 : decode cX11_first 22 = .ok (.iload_n 3, 1) := by decide +kernel
theorem dX11_first_23 : decode cX11_first 23 = .ok (.aload_n 2, 1) := by decide +kernel
theorem dX11_first_24 : decode cX11_first 24 = .ok (.getfield 157, 3) := by decide +kernel
theorem dX11_first_27 : decode cX11_first 27 = .ok (.if_icmp .ge 58, 3) := by decide +kernel
theorem dX11_first_30 : decode cX11_first 30 = .ok (.iload_n 3, 1) := by decide +kernel
theorem dX11_first_31 : decode cX11_first 31 = .ok (.iconst 1, 1) := by decide +kernel
theorem dX11_first_32 : decode cX11_first 32 = .ok (.iadd, 1) := by decide +kernel
theorem dX11_first_33 : decode cX11_first 33 = .ok (.istore 4, 2) := by decide +kernel
theorem dX11_first_35 : decode cX11_first 35 = .ok (.iload 4, 2) := by decide +kernel
theorem dX11_first_37 : decode cX11_first 37 = .ok (.aload_n 2, 1) := by decide +kernel
theorem dX11_first_38 : decode cX11_first 38 = .ok (.getfield 157, 3) := by decide +kernel
theorem dX11_first_41 : decode cX11_first 41 = .ok (.if_icmp .gt 38, 3) := by decide +kernel
theorem dX11_first_44 : decode cX11_first 44 = .ok (.aload_n 0, 1) := by decide +kernel
theorem dX11_first_45 : decode cX11_first 45 = .ok (.getfield 26, 3) := by decide +kernel
theorem dX11_first_48 : decode cX11_first 48 = .ok (.iload_n 1, 1) := by decide +kernel
theorem dX11_first_49 : decode cX11_first 49 = .ok (.aload_n 0, 1) := by decide +kernel
theorem dX11_first_50 : decode cX11_first 50 = .ok (.getfield 76, 3) := by decide +kernel
theorem dX11_first_53 : decode cX11_first 53 = .ok (.iload_n 3, 1) := by decide +kernel
theorem dX11_first_54 : decode cX11_first 54 = .ok (.iload 4, 2) := by decide +kernel
theorem dX11_first_56 : decode cX11_first 56 = .ok (.invokevirtual 312, 3) := by decide +kernel
theorem dX11_first_59 : decode cX11_first 59 = .ok (.invokevirtual 360, 3) := by decide +kernel
theorem dX11_first_62 : decode cX11_first 62 = .ok (.ifCond .eq 11, 3) := by decide +kernel
theorem dX11_first_65 : decode cX11_first 65 = .ok (.bipush 32, 2) := by decide +kernel
theorem dX11_first_67 : decode cX11_first 67 = .ok (.iload_n 3, 1) := by decide +kernel
theorem dX11_first_68 : decode cX11_first 68 = .ok (.imul, 1) := by decide +kernel
theorem dX11_first_69 : decode cX11_first 69 = .ok (.iload 4, 2) := by decide +kernel
theorem dX11_first_71 : decode cX11_first 71 = .ok (.iadd, 1) := by decide +kernel
theorem dX11_first_72 : decode cX11_first 72 = .ok (.ireturn, 1) := by decide +kernel
theorem dX11_first_73 : decode cX11_first 73 = .ok (.iinc 4 1, 3) := by decide +kernel
theorem dX11_first_76 : decode cX11_first 76 = .ok (.goto (-41), 3) := by decide +kernel
theorem dX11_first_79 : decode cX11_first 79 = .ok (.iinc 3 1, 3) := by decide +kernel
theorem dX11_first_82 : decode cX11_first 82 = .ok (.goto (-60), 3) := by decide +kernel
theorem dX11_first_85 : decode cX11_first 85 = .ok (.iconst (-1), 1) := by decide +kernel
theorem dX11_first_86 : decode cX11_first 86 = .ok (.ireturn, 1) := by decide +kernel
theorem dX11_ask_0 : decode cX11_ask 0 = .ok (.aload_n 0, 1) := by decide +kernel
theorem dX11_ask_1 : decode cX11_ask 1 = .ok (.getfield 26, 3) := by decide +kernel
theorem dX11_ask_4 : decode cX11_ask 4 = .ok (.iload_n 1, 1) := by decide +kernel
theorem dX11_ask_5 : decode cX11_ask 5 = .ok (.invokevirtual 150, 3) := by decide +kernel
theorem dX11_ask_8 : decode cX11_ask 8 = .ok (.astore_n 2, 1) := by decide +kernel
theorem dX11_ask_9 : decode cX11_ask 9 = .ok (.aload_n 2, 1) := by decide +kernel
theorem dX11_ask_10 : decode cX11_ask 10 = .ok (.ifnonnull 5, 3) := by decide +kernel
theorem dX11_ask_13 : decode cX11_ask 13 = .ok (.iconst (-1), 1) := by decide +kernel
theorem dX11_ask_14 : decode cX11_ask 14 = .ok (.ireturn, 1) := by decide +kernel
theorem dX11_ask_15 : decode cX11_ask 15 = .ok (.aload_n 0, 1) := by decide +kernel
theorem dX11_ask_16 : decode cX11_ask 16 = .ok (.aload_n 2, 1) := by decide +kernel
theorem dX11_ask_17 : decode cX11_ask 17 = .ok (.iload_n 1, 1) := by decide +kernel
theorem dX11_ask_18 : decode cX11_ask 18 = .ok (.invokevirtual 356, 3) := by decide +kernel
theorem dX11_ask_21 : decode cX11_ask 21 = .ok (.istore_n 3, 1) := by decide +kernel
theorem dX11_ask_22 : decode cX11_ask 22 = .ok (.iload_n 3, 1) := by decide +kernel
theorem dX11_ask_23 : decode cX11_ask 23 = .ok (.istore 4, 2) := by decide +kernel
theorem dX11_ask_25 : decode cX11_ask 25 = .ok (.iconst (-1), 1) := by decide +kernel
theorem dX11_ask_26 : decode cX11_ask 26 = .ok (.istore 5, 2) := by decide +kernel
theorem dX11_ask_28 : decode cX11_ask 28 = .ok (.aload_n 0, 1) := by decide +kernel
theorem dX11_ask_29 : decode cX11_ask 29 = .ok (.getfield 101, 3) := by decide +kernel
theorem dX11_ask_32 : decode cX11_ask 32 = .ok (.iconst 0, 1) := by decide +kernel
theorem dX11_ask_33 : decode cX11_ask 33 = .ok (.iaload, 1) := by decide +kernel
theorem dX11_ask_34 : decode cX11_ask 34 = .ok (.istore 6, 2) := by decide +kernel
theorem dX11_ask_36 : decode cX11_ask 36 = .ok (.iconst 1, 1) := by decide +kernel
theorem dX11_ask_37 : decode cX11_ask 37 = .ok (.istore 7, 2) := by decide +kernel
theorem dX11_ask_39 : decode cX11_ask 39 = .ok (.iload 7, 2) := by decide +kernel
theorem dX11_ask_41 : decode cX11_ask 41 = .ok (.bipush 20, 2) := by decide +kernel
theorem dX11_ask_43 : decode cX11_ask 43 = .ok (.if_icmp .gt 47, 3) := by decide +kernel
theorem dX11_ask_46 : decode cX11_ask 46 = .ok (.iload 6, 2) := by decide +kernel
theorem dX11_ask_48 : decode cX11_ask 48 = .ok (.iload_n 3, 1) := by decide +kernel
theorem dX11_ask_49 : decode cX11_ask 49 = .ok (.iload 6, 2) := by decide +kernel
theorem dX11_ask_51 : decode cX11_ask 51 = .ok (.isub, 1) := by decide +kernel
theorem dX11_ask_52 : decode cX11_ask 52 = .ok (.invokestatic 363, 3) := by decide +kernel
theorem dX11_ask_55 : decode cX11_ask 55 = .ok (.istore 8, 2) := by decide +kernel
theorem dX11_ask_57 : decode cX11_ask 57 = .ok (.iload 8, 2) := by decide +kernel
theorem dX11_ask_59 : decode cX11_ask 59 = .ok (.iload 4, 2) := by decide +kernel
theorem dX11_ask_61 : decode cX11_ask 61 = .ok (.if_icmp .ge 11, 3) := by decide +kernel
theorem dX11_ask_64 : decode cX11_ask 64 = .ok (.iload 8, 2) := by decide +kernel
theorem dX11_ask_66 : decode cX11_ask 66 = .ok (.istore 4, 2) := by decide +kernel
theorem dX11_ask_68 : decode cX11_ask 68 = .ok (.iload 7, 2) := by decide +kernel
theorem dX11_ask_70 : decode cX11_ask 70 = .ok (.istore 5, 2) := by decide +kernel
theorem dX11_ask_72 : decode cX11_ask 72 = .ok (.iload 6, 2) := by decide +kernel
theorem dX11_ask_74 : decode cX11_ask 74 = .ok (.aload_n 0, 1) := by decide +kernel
theorem dX11_ask_75 : decode cX11_ask 75 = .ok (.getfield 101, 3) := by decide +kernel
theorem dX11_ask_78 : decode cX11_ask 78 = .ok (.iload 7, 2) := by decide +kernel
theorem dX11_ask_80 : decode cX11_ask 80 = .ok (.iaload, 1) := by decide +kernel
theorem dX11_ask_81 : decode cX11_ask 81 = .ok (.iadd, 1) := by decide +kernel
theorem dX11_ask_82 : decode cX11_ask 82 = .ok (.istore 6, 2) := by decide +kernel
theorem dX11_ask_84 : decode cX11_ask 84 = .ok (.iinc 7 1, 3) := by decide +kernel
theorem dX11_ask_87 : decode cX11_ask 87 = .ok (.goto (-48), 3) := by decide +kernel
theorem dX11_ask_90 : decode cX11_ask 90 = .ok (.iload 5, 2) := by decide +kernel
theorem dX11_ask_92 : decode cX11_ask 92 = .ok (.ireturn, 1) := by decide +kernel
theorem dX11_tallyFits_0 : decode cX11_tallyFits 0 = .ok (.aload_n 0, 1) := by decide +kernel
theorem dX11_tallyFits_1 : decode cX11_tallyFits 1 = .ok (.aload_n 1, 1) := by decide +kernel
theorem dX11_tallyFits_2 : decode cX11_tallyFits 2 = .ok (.invokevirtual 285, 3) := by decide +kernel
theorem dX11_tallyFits_5 : decode cX11_tallyFits 5 = .ok (.iconst 0, 1) := by decide +kernel
theorem dX11_tallyFits_6 : decode cX11_tallyFits 6 = .ok (.istore_n 3, 1) := by decide +kernel
theorem dX11_tallyFits_7 : decode cX11_tallyFits 7 = .ok (.iload_n 3, 1) := by decide +kernel
theorem dX11_tallyFits_8 : decode cX11_tallyFits 8 = .ok (.bipush 20, 2) := by decide +kernel
theorem dX11_tallyFits_10 : decode cX11_tallyFits 10 = .ok (.if_icmp .gt 16, 3) := by decide +kernel
theorem dX11_tallyFits_13 : decode cX11_tallyFits 13 = .ok (.aload_n 0, 1) := by decide +kernel
theorem dX11_tallyFits_14 : decode cX11_tallyFits 14 = .ok (.getfield 101, 3) := by decide +kernel
theorem dX11_tallyFits_17 : decode cX11_tallyFits 17 = .ok (.iload_n 3, 1) := by decide +kernel
theorem dX11_tallyFits_18 : decode cX11_tallyFits 18 = .ok (.iconst 0, 1) := by decide +kernel
theorem dX11_tallyFits_19 : decode cX11_tallyFits 19 = .ok (.iastore, 1) := by decide +kernel
theorem dX11_tallyFits_20 : decode cX11_tallyFits 20 = .ok (.iinc 3 1, 3) := by decide +kernel
theorem dX11_tallyFits_23 : decode cX11_tallyFits 23 = .ok (.goto (-16), 3) := by decide +kernel
theorem dX11_tallyFits_26 : decode cX11_tallyFits 26 = .ok (.iconst 0, 1) := by decide +kernel
theorem dX11_tallyFits_27 : decode cX11_tallyFits 27 = .ok (.istore_n 3, 1) := by decide +kernel
theorem dX11_tallyFits_28 : decode cX11_tallyFits 28 = .ok (.iconst 0, 1) := by decide +kernel
theorem dX11_tallyFits_29 : decode cX11_tallyFits 29 = .ok (.istore 4, 2) := by decide +kernel
theorem dX11_tallyFits_31 : decode cX11_tallyFits 31 = .ok (.iload 4, 2) := by decide +kernel
theorem dX11_tallyFits_33 : decode cX11_tallyFits 33 = .ok (.aload_n 1, 1) := by decide +kernel
theorem dX11_tallyFits_34 : decode cX11_tallyFits 34 = .ok (.getfield 157, 3) := by decide +kernel
theorem dX11_tallyFits_37 : decode cX11_tallyFits 37 = .ok (.if_icmp .ge 82, 3) := by decide +kernel
theorem dX11_tallyFits_40 : decode cX11_tallyFits 40 = .ok (.iload 4, 2) := by decide +kernel
theorem dX11_tallyFits_42 : decode cX11_tallyFits 42 = .ok (.iconst 1, 1) := by decide +kernel
theorem dX11_tallyFits_43 : decode cX11_tallyFits 43 = .ok (.iadd, 1) := by decide +kernel
theorem dX11_tallyFits_44 : decode cX11_tallyFits 44 = .ok (.istore 5, 2) := by decide +kernel
theorem dX11_tallyFits_46 : decode cX11_tallyFits 46 = .ok (.iload 5, 2) := by decide +kernel
theorem dX11_tallyFits_48 : decode cX11_tallyFits 48 = .ok (.aload_n 1, 1) := by decide +kernel
theorem dX11_tallyFits_49 : decode cX11_tallyFits 49 = .ok (.getfield 157, 3) := by decide +kernel
theorem dX11_tallyFits_52 : decode cX11_tallyFits 52 = .ok (.if_icmp .gt 61, 3) := by decide +kernel
theorem dX11_tallyFits_55 : decode cX11_tallyFits 55 = .ok (.aload_n 0, 1) := by decide +kernel
theorem dX11_tallyFits_56 : decode cX11_tallyFits 56 = .ok (.getfield 76, 3) := by decide +kernel
theorem dX11_tallyFits_59 : decode cX11_tallyFits 59 = .ok (.iload 4, 2) := by decide +kernel
theorem dX11_tallyFits_61 : decode cX11_tallyFits 61 = .ok (.iload 5, 2) := by decide +kernel
theorem dX11_tallyFits_63 : decode cX11_tallyFits 63 = .ok (.invokevirtual 312, 3) := by decide +kernel
theorem dX11_tallyFits_66 : decode cX11_tallyFits 66 = .ok (.istore 6, 2) := by decide +kernel
theorem dX11_tallyFits_68 : decode cX11_tallyFits 68 = .ok (.iload 6, 2) := by decide +kernel
theorem dX11_tallyFits_70 : decode cX11_tallyFits 70 = .ok (.ifCond .lt 37, 3) := by decide +kernel
theorem dX11_tallyFits_73 : decode cX11_tallyFits 73 = .ok (.iload 6, 2) := by decide +kernel
theorem dX11_tallyFits_75 : decode cX11_tallyFits 75 = .ok (.bipush 20, 2) := by decide +kernel
theorem dX11_tallyFits_77 : decode cX11_tallyFits 77 = .ok (.if_icmp .gt 30, 3) := by decide +kernel
theorem dX11_tallyFits_80 : decode cX11_tallyFits 80 = .ok (.aload_n 0, 1) := by decide +kernel
theorem dX11_tallyFits_81 : decode cX11_tallyFits 81 = .ok (.getfield 26, 3) := by decide +kernel
theorem dX11_tallyFits_84 : decode cX11_tallyFits 84 = .ok (.iload_n 2, 1) := by decide +kernel
theorem dX11_tallyFits_85 : decode cX11_tallyFits 85 = .ok (.iload 6, 2) := by decide +kernel
theorem dX11_tallyFits_87 : decode cX11_tallyFits 87 = .ok (.invokevirtual 360, 3) := by decide +kernel
theorem dX11_tallyFits_90 : decode cX11_tallyFits 90 = .ok (.ifCond .eq 17, 3) := by decide +kernel
theorem dX11_tallyFits_93 : decode cX11_tallyFits 93 = .ok (.aload_n 0, 1) := by decide +kernel
theorem dX11_tallyFits_94 : decode cX11_tallyFits 94 = .ok (.getfield 101, 3) := by decide +kernel
theorem dX11_tallyFits_97 : decode cX11_tallyFits 97 = .ok (.iload 6, 2) := by decide +kernel
theorem dX11_tallyFits_99 : decode cX11_tallyFits 99 = .ok (.dup2, 1) := by decide +kernel
theorem dX11_tallyFits_100 : decode cX11_tallyFits 100 = .ok (.iaload, 1) := by decide +kernel
theorem dX11_tallyFits_101 : decode cX11_tallyFits 101 = .ok (.iconst 1, 1) := by decide +kernel
theorem dX11_tallyFits_102 : decode cX11_tallyFits 102 = .ok (.iadd, 1) := by decide +kernel
theorem dX11_tallyFits_103 : decode cX11_tallyFits 103 = .ok (.iastore, 1) := by decide +kernel
theorem dX11_tallyFits_104 : decode cX11_tallyFits 104 = .ok (.iinc 3 1, 3) := by decide +kernel
theorem dX11_tallyFits_107 : decode cX11_tallyFits 107 = .ok (.iinc 5 1, 3) := by decide +kernel
theorem dX11_tallyFits_110 : decode cX11_tallyFits 110 = .ok (.goto (-64), 3) := by decide +kernel
theorem dX11_tallyFits_113 : decode cX11_tallyFits 113 = .ok (.iinc 4 1, 3) := by decide +kernel
theorem dX11_tallyFits_116 : decode cX11_tallyFits 116 = .ok (.goto (-85), 3) := by decide +kernel
theorem dX11_tallyFits_119 : decode cX11_tallyFits 119 = .ok (.iload_n 3, 1) := by decide +kernel
theorem dX11_tallyFits_120 : decode cX11_tallyFits 120 = .ok (.ireturn, 1) := by decide +kernel
theorem dX11_drawn_0 : decode cX11_drawn 0 = .ok (.iload_n 1, 1) := by decide +kernel
theorem dX11_drawn_1 : decode cX11_drawn 1 = .ok (.ifCond .lt 21, 3) := by decide +kernel
theorem dX11_drawn_4 : decode cX11_drawn 4 = .ok (.iload_n 1, 1) := by decide +kernel
theorem dX11_drawn_5 : decode cX11_drawn 5 = .ok (.sipush 9999, 3) := by decide +kernel
theorem dX11_drawn_8 : decode cX11_drawn 8 = .ok (.if_icmp .gt 14, 3) := by decide +kernel
theorem dX11_drawn_11 : decode cX11_drawn 11 = .ok (.iload_n 2, 1) := by decide +kernel
theorem dX11_drawn_12 : decode cX11_drawn 12 = .ok (.iconst 1, 1) := by decide +kernel
theorem dX11_drawn_13 : decode cX11_drawn 13 = .ok (.if_icmp .lt 9, 3) := by decide +kernel
theorem dX11_drawn_16 : decode cX11_drawn 16 = .ok (.iload_n 2, 1) := by decide +kernel
theorem dX11_drawn_17 : decode cX11_drawn 17 = .ok (.bipush 20, 2) := by decide +kernel
theorem dX11_drawn_19 : decode cX11_drawn 19 = .ok (.if_icmp .le 5, 3) := by decide +kernel
theorem dX11_drawn_22 : decode cX11_drawn 22 = .ok (.iconst (-1), 1) := by decide +kernel
theorem dX11_drawn_23 : decode cX11_drawn 23 = .ok (.ireturn, 1) := by decide +kernel
theorem dX11_drawn_24 : decode cX11_drawn 24 = .ok (.iload_n 3, 1) := by decide +kernel
theorem dX11_drawn_25 : decode cX11_drawn 25 = .ok (.iconst 1, 1) := by decide +kernel
theorem dX11_drawn_26 : decode cX11_drawn 26 = .ok (.if_icmp .lt 20, 3) := by decide +kernel
theorem dX11_drawn_29 : decode cX11_drawn 29 = .ok (.iload_n 3, 1) := by decide +kernel
theorem dX11_drawn_30 : decode cX11_drawn 30 = .ok (.bipush 100, 2) := by decide +kernel
theorem dX11_drawn_32 : decode cX11_drawn 32 = .ok (.if_icmp .gt 14, 3) := by decide +kernel
theorem dX11_drawn_35 : decode cX11_drawn 35 = .ok (.iload 4, 2) := by decide +kernel
theorem dX11_drawn_37 : decode cX11_drawn 37 = .ok (.ifCond .lt 9, 3) := by decide +kernel
theorem dX11_drawn_40 : decode cX11_drawn 40 = .ok (.iload 4, 2) := by decide +kernel
theorem dX11_drawn_42 : decode cX11_drawn 42 = .ok (.iconst 2, 1) := by decide +kernel
theorem dX11_drawn_43 : decode cX11_drawn 43 = .ok (.if_icmp .le 5, 3) := by decide +kernel
theorem dX11_drawn_46 : decode cX11_drawn 46 = .ok (.iconst (-1), 1) := by decide +kernel
theorem dX11_drawn_47 : decode cX11_drawn 47 = .ok (.ireturn, 1) := by decide +kernel
theorem dX11_drawn_48 : decode cX11_drawn 48 = .ok (.aload_n 0, 1) := by decide +kernel
theorem dX11_drawn_49 : decode cX11_drawn 49 = .ok (.iload_n 1, 1) := by decide +kernel
theorem dX11_drawn_50 : decode cX11_drawn 50 = .ok (.iload_n 2, 1) := by decide +kernel
theorem dX11_drawn_51 : decode cX11_drawn 51 = .ok (.iload_n 3, 1) := by decide +kernel
theorem dX11_drawn_52 : decode cX11_drawn 52 = .ok (.invokevirtual 368, 3) := by decide +kernel
theorem dX11_drawn_55 : decode cX11_drawn 55 = .ok (.iload 4, 2) := by decide +kernel
theorem dX11_drawn_57 : decode cX11_drawn 57 = .ok (.iconst 2, 1) := by decide +kernel
theorem dX11_drawn_58 : decode cX11_drawn 58 = .ok (.if_icmp .ne 21, 3) := by decide +kernel
theorem dX11_drawn_61 : decode cX11_drawn 61 = .ok (.aload_n 0, 1) := by decide +kernel
theorem dX11_drawn_62 : decode cX11_drawn 62 = .ok (.aload_n 0, 1) := by decide +kernel
theorem dX11_drawn_63 : decode cX11_drawn 63 = .ok (.getfield 97, 3) := by decide +kernel
theorem dX11_drawn_66 : decode cX11_drawn 66 = .ok (.invokevirtual 285, 3) := by decide +kernel
theorem dX11_drawn_69 : decode cX11_drawn 69 = .ok (.aload_n 0, 1) := by decide +kernel
theorem dX11_drawn_70 : decode cX11_drawn 70 = .ok (.getfield 76, 3) := by decide +kernel
theorem dX11_drawn_73 : decode cX11_drawn 73 = .ok (.iconst 0, 1) := by decide +kernel
theorem dX11_drawn_74 : decode cX11_drawn 74 = .ok (.iload_n 2, 1) := by decide +kernel
theorem dX11_drawn_75 : decode cX11_drawn 75 = .ok (.invokevirtual 292, 3) := by decide +kernel
theorem dX11_drawn_78 : decode cX11_drawn 78 = .ok (.ireturn, 1) := by decide +kernel
theorem dX11_drawn_79 : decode cX11_drawn 79 = .ok (.aload_n 0, 1) := by decide +kernel
theorem dX11_drawn_80 : decode cX11_drawn 80 = .ok (.getfield 66, 3) := by decide +kernel
theorem dX11_drawn_83 : decode cX11_drawn 83 = .ok (.aload_n 0, 1) := by decide +kernel
theorem dX11_drawn_84 : decode cX11_drawn 84 = .ok (.getfield 97, 3) := by decide +kernel
theorem dX11_drawn_87 : decode cX11_drawn 87 = .ok (.aload_n 0, 1) := by decide +kernel
theorem dX11_drawn_88 : decode cX11_drawn 88 = .ok (.getfield 47, 3) := by decide +kernel
theorem dX11_drawn_91 : decode cX11_drawn 91 = .ok (.invokevirtual 267, 3) := by decide +kernel
theorem dX11_drawn_94 : decode cX11_drawn 94 = .ok (.aload_n 0, 1) := by decide +kernel
theorem dX11_drawn_95 : decode cX11_drawn 95 = .ok (.getfield 66, 3) := by decide +kernel
theorem dX11_drawn_98 : decode cX11_drawn 98 = .ok (.iconst 0, 1) := by decide +kernel
theorem dX11_drawn_99 : decode cX11_drawn 99 = .ok (.iload_n 2, 1) := by decide +kernel
theorem dX11_drawn_100 : decode cX11_drawn 100 = .ok (.invokevirtual 282, 3) := by decide +kernel
theorem dX11_drawn_103 : decode cX11_drawn 103 = .ok (.iload 4, 2) := by decide +kernel
theorem dX11_drawn_105 : decode cX11_drawn 105 = .ok (.ifCond .ne 13, 3) := by decide +kernel
theorem dX11_drawn_108 : decode cX11_drawn 108 = .ok (.aload_n 0, 1) := by decide +kernel
theorem dX11_drawn_109 : decode cX11_drawn 109 = .ok (.getfield 66, 3) := by decide +kernel
theorem dX11_drawn_112 : decode cX11_drawn 112 = .ok (.getfield 248, 3) := by decide +kernel
theorem dX11_drawn_115 : decode cX11_drawn 115 = .ok (.goto 10, 3) := by decide +kernel
theorem dX11_drawn_118 : decode cX11_drawn 118 = .ok (.aload_n 0, 1) := by decide +kernel
theorem dX11_drawn_119 : decode cX11_drawn 119 = .ok (.getfield 66, 3) := by decide +kernel
theorem dX11_drawn_122 : decode cX11_drawn 122 = .ok (.invokevirtual 254, 3) := by decide +kernel
theorem dX11_drawn_125 : decode cX11_drawn 125 = .ok (.ireturn, 1) := by decide +kernel
theorem dX11_draw_0 : decode cX11_draw 0 = .ok (.aload_n 0, 1) := by decide +kernel
theorem dX11_draw_1 : decode cX11_draw 1 = .ok (.getfield 97, 3) := by decide +kernel
theorem dX11_draw_4 : decode cX11_draw 4 = .ok (.iconst 0, 1) := by decide +kernel
theorem dX11_draw_5 : decode cX11_draw 5 = .ok (.putfield 154, 3) := by decide +kernel
theorem dX11_draw_8 : decode cX11_draw 8 = .ok (.aload_n 0, 1) := by decide +kernel
theorem dX11_draw_9 : decode cX11_draw 9 = .ok (.getfield 97, 3) := by decide +kernel
theorem dX11_draw_12 : decode cX11_draw 12 = .ok (.iconst 0, 1) := by decide +kernel
theorem dX11_draw_13 : decode cX11_draw 13 = .ok (.putfield 157, 3) := by decide +kernel
theorem dX11_draw_16 : decode cX11_draw 16 = .ok (.iload_n 1, 1) := by decide +kernel
theorem dX11_draw_17 : decode cX11_draw 17 = .ok (.i2l, 1) := by decide +kernel
theorem dX11_draw_18 : decode cX11_draw 18 = .ok (.lstore 4, 2) := by decide +kernel
theorem dX11_draw_20 : decode cX11_draw 20 = .ok (.iconst 0, 1) := by decide +kernel
theorem dX11_draw_21 : decode cX11_draw 21 = .ok (.istore 6, 2) := by decide +kernel
theorem dX11_draw_23 : decode cX11_draw 23 = .ok (.iload 6, 2) := by decide +kernel
theorem dX11_draw_25 : decode cX11_draw 25 = .ok (.iload_n 2, 1) := by decide +kernel
theorem dX11_draw_26 : decode cX11_draw 26 = .ok (.if_icmp .ge 51, 3) := by decide +kernel
theorem dX11_draw_29 : decode cX11_draw 29 = .ok (.lload 4, 2) := by decide +kernel
theorem dX11_draw_31 : decode cX11_draw 31 = .ok (.ldc2_w 371, 3) := by decide +kernel
theorem dX11_draw_34 : decode cX11_draw 34 = .ok (.lmul, 1) := by decide +kernel
theorem dX11_draw_35 : decode cX11_draw 35 = .ok (.ldc2_w 373, 3) := by decide +kernel
theorem dX11_draw_38 : decode cX11_draw 38 = .ok (.ladd, 1) := by decide +kernel
theorem dX11_draw_39 : decode cX11_draw 39 = .ok (.ldc2_w 375, 3) := by decide +kernel
theorem dX11_draw_42 : decode cX11_draw 42 = .ok (.land, 1) := by decide +kernel
theorem dX11_draw_43 : decode cX11_draw 43 = .ok (.lstore 4, 2) := by decide +kernel
theorem dX11_draw_45 : decode cX11_draw 45 = .ok (.aload_n 0, 1) := by decide +kernel
theorem dX11_draw_46 : decode cX11_draw 46 = .ok (.getfield 97, 3) := by decide +kernel
theorem dX11_draw_49 : decode cX11_draw 49 = .ok (.iload_n 3, 1) := by decide +kernel
theorem dX11_draw_50 : decode cX11_draw 50 = .ok (.iconst 1, 1) := by decide +kernel
theorem dX11_draw_51 : decode cX11_draw 51 = .ok (.if_icmp .ge 7, 3) := by decide +kernel
theorem dX11_draw_54 : decode cX11_draw 54 = .ok (.iconst 0, 1) := by decide +kernel
theorem dX11_draw_55 : decode cX11_draw 55 = .ok (.goto 12, 3) := by decide +kernel
theorem dX11_draw_58 : decode cX11_draw 58 = .ok (.lload 4, 2) := by decide +kernel
theorem dX11_draw_60 : decode cX11_draw 60 = .ok (.ldc2_w 377, 3) := by decide +kernel
theorem dX11_draw_63 : decode cX11_draw 63 = .ok (.ldiv, 1) := by decide +kernel
theorem dX11_draw_64 : decode cX11_draw 64 = .ok (.l2i, 1) := by decide +kernel
theorem dX11_draw_65 : decode cX11_draw 65 = .ok (.iload_n 3, 1) := by decide +kernel
theorem dX11_draw_66 : decode cX11_draw 66 = .ok (.irem, 1) := by decide +kernel
theorem dX11_draw_67 : decode cX11_draw 67 = .ok (.invokevirtual 379, 3) := by decide +kernel
theorem dX11_draw_70 : decode cX11_draw 70 = .ok (.pop, 1) := by decide +kernel
theorem dX11_draw_71 : decode cX11_draw 71 = .ok (.iinc 6 1, 3) := by decide +kernel
theorem dX11_draw_74 : decode cX11_draw 74 = .ok (.goto (-51), 3) := by decide +kernel
theorem dX11_draw_77 : decode cX11_draw 77 = .ok (.return_, 1) := by decide +kernel
