theorem dX2_count_110 : decode cX2_count 110 = .ok (.iload_n 1, 1) := by decide +kernel
theorem dX2_count_111 : decode cX2_count 111 = .ok (.invokevirtual 238, 3) := by decide +kernel
theorem dX2_count_114 : decode cX2_count 114 = .ok (.ireturn, 1) := by decide +kernel
theorem dX2_countRefusals_0 : decode cX2_countRefusals 0 = .ok (.iload_n 1, 1) := by decide +kernel
theorem dX2_countRefusals_1 : decode cX2_countRefusals 1 = .ok (.bipush 10, 2) := by decide +kernel
theorem dX2_countRefusals_3 : decode cX2_countRefusals 3 = .ok (.if_icmp .le 9, 3) := by decide +kernel
theorem dX2_countRefusals_6 : decode cX2_countRefusals 6 = .ok (.iload_n 1, 1) := by decide +kernel
theorem dX2_countRefusals_7 : decode cX2_countRefusals 7 = .ok (.bipush 16, 2) := by decide +kernel
theorem dX2_countRefusals_9 : decode cX2_countRefusals 9 = .ok (.if_icmp .le 6, 3) := by decide +kernel
theorem dX2_countRefusals_12 : decode cX2_countRefusals 12 = .ok (.bipush (-9), 2) := by decide +kernel
theorem dX2_countRefusals_14 : decode cX2_countRefusals 14 = .ok (.ireturn, 1) := by decide +kernel
theorem dX2_countRefusals_15 : decode cX2_countRefusals 15 = .ok (.aload_n 0, 1) := by decide +kernel
theorem dX2_countRefusals_16 : decode cX2_countRefusals 16 = .ok (.getfield 33, 3) := by decide +kernel
theorem dX2_countRefusals_19 : decode cX2_countRefusals 19 = .ok (.iload_n 1, 1) := by decide +kernel
theorem dX2_countRefusals_20 : decode cX2_countRefusals 20 = .ok (.bipush 10, 2) := by decide +kernel
theorem dX2_countRefusals_22 : decode cX2_countRefusals 22 = .ok (.isub, 1) := by decide +kernel
theorem dX2_countRefusals_23 : decode cX2_countRefusals 23 = .ok (.iaload, 1) := by decide +kernel
theorem dX2_countRefusals_24 : decode cX2_countRefusals 24 = .ok (.ireturn, 1) := by decide +kernel
theorem dX2_refused_0 : decode cX2_refused 0 = .ok (.iload_n 1, 1) := by decide +kernel
theorem dX2_refused_1 : decode cX2_refused 1 = .ok (.ifCond .ge 20, 3) := by decide +kernel
theorem dX2_refused_4 : decode cX2_refused 4 = .ok (.iload_n 1, 1) := by decide +kernel
theorem dX2_refused_5 : decode cX2_refused 5 = .ok (.bipush (-6), 2) := by decide +kernel
theorem dX2_refused_7 : decode cX2_refused 7 = .ok (.if_icmp .lt 14, 3) := by decide +kernel
theorem dX2_refused_10 : decode cX2_refused 10 = .ok (.aload_n 0, 1) := by decide +kernel
theorem dX2_refused_11 : decode cX2_refused 11 = .ok (.getfield 33, 3) := by decide +kernel
theorem dX2_refused_14 : decode cX2_refused 14 = .ok (.iload_n 1, 1) := by decide +kernel
theorem dX2_refused_15 : decode cX2_refused 15 = .ok (.ineg, 1) := by decide +kernel
theorem dX2_refused_16 : decode cX2_refused 16 = .ok (.dup2, 1) := by decide +kernel
theorem dX2_refused_17 : decode cX2_refused 17 = .ok (.iaload, 1) := by decide +kernel
theorem dX2_refused_18 : decode cX2_refused 18 = .ok (.iconst 1, 1) := by decide +kernel
theorem dX2_refused_19 : decode cX2_refused 19 = .ok (.iadd, 1) := by decide +kernel
theorem dX2_refused_20 : decode cX2_refused 20 = .ok (.iastore, 1) := by decide +kernel
theorem dX2_refused_21 : decode cX2_refused 21 = .ok (.iload_n 1, 1) := by decide +kernel
theorem dX2_refused_22 : decode cX2_refused 22 = .ok (.ireturn, 1) := by decide +kernel
theorem dX2_refusedLong_0 : decode cX2_refusedLong 0 = .ok (.ldc2_w 241, 3) := by decide +kernel
theorem dX2_refusedLong_3 : decode cX2_refusedLong 3 = .ok (.aload_n 0, 1) := by decide +kernel
theorem dX2_refusedLong_4 : decode cX2_refusedLong 4 = .ok (.iload_n 1, 1) := by decide +kernel
theorem dX2_refusedLong_5 : decode cX2_refusedLong 5 = .ok (.invokevirtual 52, 3) := by decide +kernel
theorem dX2_refusedLong_8 : decode cX2_refusedLong 8 = .ok (.i2l, 1) := by decide +kernel
theorem dX2_refusedLong_9 : decode cX2_refusedLong 9 = .ok (.lsub, 1) := by decide +kernel
theorem dX2_refusedLong_10 : decode cX2_refusedLong 10 = .ok (.lreturn, 1) := by decide +kernel
theorem dX2_rangeRefusal_0 : decode cX2_rangeRefusal 0 = .ok (.iload_n 0, 1) := by decide +kernel
theorem dX2_rangeRefusal_1 : decode cX2_rangeRefusal 1 = .ok (.iload_n 1, 1) := by decide +kernel
theorem dX2_rangeRefusal_2 : decode cX2_rangeRefusal 2 = .ok (.if_icmp .ge 6, 3) := by decide +kernel
theorem dX2_rangeRefusal_5 : decode cX2_rangeRefusal 5 = .ok (.bipush (-4), 2) := by decide +kernel
theorem dX2_rangeRefusal_7 : decode cX2_rangeRefusal 7 = .ok (.ireturn, 1) := by decide +kernel
theorem dX2_rangeRefusal_8 : decode cX2_rangeRefusal 8 = .ok (.iload_n 0, 1) := by decide +kernel
theorem dX2_rangeRefusal_9 : decode cX2_rangeRefusal 9 = .ok (.iload_n 2, 1) := by decide +kernel
theorem dX2_rangeRefusal_10 : decode cX2_rangeRefusal 10 = .ok (.if_icmp .le 8, 3) := by decide +kernel
theorem dX2_rangeRefusal_13 : decode cX2_rangeRefusal 13 = .ok (.bipush (-6), 2) := by decide +kernel
theorem dX2_rangeRefusal_15 : decode cX2_rangeRefusal 15 = .ok (.goto 4, 3) := by decide +kernel
theorem dX2_rangeRefusal_18 : decode cX2_rangeRefusal 18 = .ok (.iconst 0, 1) := by decide +kernel
theorem dX2_rangeRefusal_19 : decode cX2_rangeRefusal 19 = .ok (.ireturn, 1) := by decide +kernel
theorem dX2_whatRefusal_0 : decode cX2_whatRefusal 0 = .ok (.iload_n 0, 1) := by decide +kernel
theorem dX2_whatRefusal_1 : decode cX2_whatRefusal 1 = .ok (.ifCond .lt 8, 3) := by decide +kernel
theorem dX2_whatRefusal_4 : decode cX2_whatRefusal 4 = .ok (.iload_n 0, 1) := by decide +kernel
theorem dX2_whatRefusal_5 : decode cX2_whatRefusal 5 = .ok (.iload_n 1, 1) := by decide +kernel
theorem dX2_whatRefusal_6 : decode cX2_whatRefusal 6 = .ok (.if_icmp .le 8, 3) := by decide +kernel
theorem dX2_whatRefusal_9 : decode cX2_whatRefusal 9 = .ok (.bipush (-2), 2) := by decide +kernel
theorem dX2_whatRefusal_11 : decode cX2_whatRefusal 11 = .ok (.goto 4, 3) := by decide +kernel
theorem dX2_whatRefusal_14 : decode cX2_whatRefusal 14 = .ok (.iconst 0, 1) := by decide +kernel
theorem dX2_whatRefusal_15 : decode cX2_whatRefusal 15 = .ok (.ireturn, 1) := by decide +kernel
theorem dX2_oneRefusal_0 : decode cX2_oneRefusal 0 = .ok (.aload_n 0, 1) := by decide +kernel
theorem dX2_oneRefusal_1 : decode cX2_oneRefusal 1 = .ok (.getfield 10, 3) := by decide +kernel
theorem dX2_oneRefusal_4 : decode cX2_oneRefusal 4 = .ok (.iload_n 1, 1) := by decide +kernel
theorem dX2_oneRefusal_5 : decode cX2_oneRefusal 5 = .ok (.invokevirtual 81, 3) := by decide +kernel
theorem dX2_oneRefusal_8 : decode cX2_oneRefusal 8 = .ok (.ifCond .eq 12, 3) := by decide +kernel
theorem dX2_oneRefusal_11 : decode cX2_oneRefusal 11 = .ok (.iload_n 2, 1) := by decide +kernel
theorem dX2_oneRefusal_12 : decode cX2_oneRefusal 12 = .ok (.iconst 0, 1) := by decide +kernel
theorem dX2_oneRefusal_13 : decode cX2_oneRefusal 13 = .ok (.iload_n 3, 1) := by decide +kernel
theorem dX2_oneRefusal_14 : decode cX2_oneRefusal 14 = .ok (.invokestatic 44, 3) := by decide +kernel
theorem dX2_oneRefusal_17 : decode cX2_oneRefusal 17 = .ok (.goto 4, 3) := by decide +kernel
theorem dX2_oneRefusal_20 : decode cX2_oneRefusal 20 = .ok (.iconst (-1), 1) := by decide +kernel
theorem dX2_oneRefusal_21 : decode cX2_oneRefusal 21 = .ok (.ireturn, 1) := by decide +kernel
theorem dX2_sneezeRefusal_0 : decode cX2_sneezeRefusal 0 = .ok (.aload_n 0, 1) := by decide +kernel
theorem dX2_sneezeRefusal_1 : decode cX2_sneezeRefusal 1 = .ok (.getfield 10, 3) := by decide +kernel
theorem dX2_sneezeRefusal_4 : decode cX2_sneezeRefusal 4 = .ok (.iload_n 1, 1) := by decide +kernel
theorem dX2_sneezeRefusal_5 : decode cX2_sneezeRefusal 5 = .ok (.invokevirtual 81, 3) := by decide +kernel
theorem dX2_sneezeRefusal_8 : decode cX2_sneezeRefusal 8 = .ok (.ifCond .ne 5, 3) := by decide +kernel
theorem dX2_sneezeRefusal_11 : decode cX2_sneezeRefusal 11 = .ok (.iconst (-1), 1) := by decide +kernel
theorem dX2_sneezeRefusal_12 : decode cX2_sneezeRefusal 12 = .ok (.ireturn, 1) := by decide +kernel
theorem dX2_sneezeRefusal_13 : decode cX2_sneezeRefusal 13 = .ok (.iload_n 2, 1) := by decide +kernel
theorem dX2_sneezeRefusal_14 : decode cX2_sneezeRefusal 14 = .ok (.ifCond .lt 13, 3) := by decide +kernel
theorem dX2_sneezeRefusal_17 : decode cX2_sneezeRefusal 17 = .ok (.iload 4, 2) := by decide +kernel
theorem dX2_sneezeRefusal_19 : decode cX2_sneezeRefusal 19 = .ok (.ifCond .lt 8, 3) := by decide +kernel
theorem dX2_sneezeRefusal_22 : decode cX2_sneezeRefusal 22 = .ok (.iload_n 3, 1) := by decide +kernel
theorem dX2_sneezeRefusal_23 : decode cX2_sneezeRefusal 23 = .ok (.iconst 2, 1) := by decide +kernel
theorem dX2_sneezeRefusal_24 : decode cX2_sneezeRefusal 24 = .ok (.if_icmp .ge 6, 3) := by decide +kernel
theorem dX2_sneezeRefusal_27 : decode cX2_sneezeRefusal 27 = .ok (.bipush (-4), 2) := by decide +kernel
theorem dX2_sneezeRefusal_29 : decode cX2_sneezeRefusal 29 = .ok (.ireturn, 1) := by decide +kernel
theorem dX2_sneezeRefusal_30 : decode cX2_sneezeRefusal 30 = .ok (.iload_n 2, 1) := by decide +kernel
theorem dX2_sneezeRefusal_31 : decode cX2_sneezeRefusal 31 = .ok (.bipush 7, 2) := by decide +kernel
theorem dX2_sneezeRefusal_33 : decode cX2_sneezeRefusal 33 = .ok (.if_icmp .gt 16, 3) := by decide +kernel
theorem dX2_sneezeRefusal_36 : decode cX2_sneezeRefusal 36 = .ok (.iload_n 3, 1) := by decide +kernel
theorem dX2_sneezeRefusal_37 : decode cX2_sneezeRefusal 37 = .ok (.bipush 20, 2) := by decide +kernel
theorem dX2_sneezeRefusal_39 : decode cX2_sneezeRefusal 39 = .ok (.if_icmp .gt 10, 3) := by decide +kernel
theorem dX2_sneezeRefusal_42 : decode cX2_sneezeRefusal 42 = .ok (.iload 4, 2) := by decide +kernel
theorem dX2_sneezeRefusal_44 : decode cX2_sneezeRefusal 44 = .ok (.bipush 99, 2) := by decide +kernel
theorem dX2_sneezeRefusal_46 : decode cX2_sneezeRefusal 46 = .ok (.if_icmp .le 6, 3) := by decide +kernel
theorem dX2_sneezeRefusal_49 : decode cX2_sneezeRefusal 49 = .ok (.bipush (-6), 2) := by decide +kernel
theorem dX2_sneezeRefusal_51 : decode cX2_sneezeRefusal 51 = .ok (.ireturn, 1) := by decide +kernel
theorem dX2_sneezeRefusal_52 : decode cX2_sneezeRefusal 52 = .ok (.iload 5, 2) := by decide +kernel
theorem dX2_sneezeRefusal_54 : decode cX2_sneezeRefusal 54 = .ok (.iconst 1, 1) := by decide +kernel
theorem dX2_sneezeRefusal_55 : decode cX2_sneezeRefusal 55 = .ok (.invokestatic 146, 3) := by decide +kernel
theorem dX2_sneezeRefusal_58 : decode cX2_sneezeRefusal 58 = .ok (.ireturn, 1) := by decide +kernel
theorem dX2_thoughtOfNow_0 : decode cX2_thoughtOfNow 0 = .ok (.aload_n 0, 1) := by decide +kernel
theorem dX2_thoughtOfNow_1 : decode cX2_thoughtOfNow 1 = .ok (.getfield 16, 3) := by decide +kernel
theorem dX2_thoughtOfNow_4 : decode cX2_thoughtOfNow 4 = .ok (.aload_n 0, 1) := by decide +kernel
theorem dX2_thoughtOfNow_5 : decode cX2_thoughtOfNow 5 = .ok (.getfield 10, 3) := by decide +kernel
theorem dX2_thoughtOfNow_8 : decode cX2_thoughtOfNow 8 = .ok (.invokevirtual 77, 3) := by decide +kernel
theorem dX2_thoughtOfNow_11 : decode cX2_thoughtOfNow 11 = .ok (.aload_n 0, 1) := by decide +kernel
theorem dX2_thoughtOfNow_12 : decode cX2_thoughtOfNow 12 = .ok (.getfield 16, 3) := by decide +kernel
theorem dX2_thoughtOfNow_15 : decode cX2_thoughtOfNow 15 = .ok (.areturn, 1) := by decide +kernel
theorem dX2_thoughtBehind_0 : decode cX2_thoughtBehind 0 = .ok (.aload_n 0, 1) := by decide +kernel
theorem dX2_thoughtBehind_1 : decode cX2_thoughtBehind 1 = .ok (.invokevirtual 63, 3) := by decide +kernel
theorem dX2_thoughtBehind_4 : decode cX2_thoughtBehind 4 = .ok (.astore_n 2, 1) := by decide +kernel
theorem dX2_thoughtBehind_5 : decode cX2_thoughtBehind 5 = .ok (.aload_n 2, 1) := by decide +kernel
theorem dX2_thoughtBehind_6 : decode cX2_thoughtBehind 6 = .ok (.iload_n 1, 1) := by decide +kernel
theorem dX2_thoughtBehind_7 : decode cX2_thoughtBehind 7 = .ok (.invokevirtual 138, 3) := by decide +kernel
theorem dX2_thoughtBehind_10 : decode cX2_thoughtBehind 10 = .ok (.aload_n 2, 1) := by decide +kernel
theorem dX2_thoughtBehind_11 : decode cX2_thoughtBehind 11 = .ok (.areturn, 1) := by decide +kernel
theorem dX2_firstDry_0 : decode cX2_firstDry 0 = .ok (.aload_n 0, 1) := by decide +kernel
theorem dX2_firstDry_1 : decode cX2_firstDry 1 = .ok (.invokevirtual 63, 3) := by decide +kernel
theorem dX2_firstDry_4 : decode cX2_firstDry 4 = .ok (.astore_n 1, 1) := by decide +kernel
theorem dX2_firstDry_5 : decode cX2_firstDry 5 = .ok (.iconst 0, 1) := by decide +kernel
theorem dX2_firstDry_6 : decode cX2_firstDry 6 = .ok (.istore_n 2, 1) := by decide +kernel
theorem dX2_firstDry_7 : decode cX2_firstDry 7 = .ok (.iload_n 2, 1) := by decide +kernel
theorem dX2_firstDry_8 : decode cX2_firstDry 8 = .ok (.bipush 60, 2) := by decide +kernel
theorem dX2_firstDry_10 : decode cX2_firstDry 10 = .ok (.if_icmp .gt 41, 3) := by decide +kernel
theorem dX2_firstDry_13 : decode cX2_firstDry 13 = .ok (.iconst 0, 1) := by decide +kernel
theorem dX2_firstDry_14 : decode cX2_firstDry 14 = .ok (.istore_n 3, 1) := by decide +kernel
theorem dX2_firstDry_15 : decode cX2_firstDry 15 = .ok (.iload_n 3, 1) := by decide +kernel
theorem dX2_firstDry_16 : decode cX2_firstDry 16 = .ok (.aload_n 1, 1) := by decide +kernel
theorem dX2_firstDry_17 : decode cX2_firstDry 17 = .ok (.getfield 171, 3) := by decide +kernel
theorem dX2_firstDry_20 : decode cX2_firstDry 20 = .ok (.if_icmp .ge 20, 3) := by decide +kernel
theorem dX2_firstDry_23 : decode cX2_firstDry 23 = .ok (.aload_n 1, 1) := by decide +kernel
theorem dX2_firstDry_24 : decode cX2_firstDry 24 = .ok (.getfield 93, 3) := by decide +kernel
theorem dX2_firstDry_27 : decode cX2_firstDry 27 = .ok (.iload_n 3, 1) := by decide +kernel
theorem dX2_firstDry_28 : decode cX2_firstDry 28 = .ok (.iaload, 1) := by decide +kernel
theorem dX2_firstDry_29 : decode cX2_firstDry 29 = .ok (.ifCond .ne 5, 3) := by decide +kernel
theorem dX2_firstDry_32 : decode cX2_firstDry 32 = .ok (.iload_n 3, 1) := by decide +kernel
theorem dX2_firstDry_33 : decode cX2_firstDry 33 = .ok (.ireturn, 1) := by decide +kernel
theorem dX2_firstDry_34 : decode cX2_firstDry 34 = .ok (.iinc 3 1, 3) := by decide +kernel
theorem dX2_firstDry_37 : decode cX2_firstDry 37 = .ok (.goto (-22), 3) := by decide +kernel
theorem dX2_firstDry_40 : decode cX2_firstDry 40 = .ok (.aload_n 1, 1) := by decide +kernel
theorem dX2_firstDry_41 : decode cX2_firstDry 41 = .ok (.iconst 0, 1) := by decide +kernel
theorem dX2_firstDry_42 : decode cX2_firstDry 42 = .ok (.invokevirtual 159, 3) := by decide +kernel
theorem dX2_firstDry_45 : decode cX2_firstDry 45 = .ok (.iinc 2 1, 3) := by decide +kernel
theorem dX2_firstDry_48 : decode cX2_firstDry 48 = .ok (.goto (-41), 3) := by decide +kernel
theorem dX2_firstDry_51 : decode cX2_firstDry 51 = .ok (.bipush (-9), 2) := by decide +kernel
theorem dX2_firstDry_53 : decode cX2_firstDry 53 = .ok (.ireturn, 1) := by decide +kernel
theorem dX2_isWetWithHushed_0 : decode cX2_isWetWithHushed 0 = .ok (.aload_n 0, 1) := by decide +kernel
theorem dX2_isWetWithHushed_1 : decode cX2_isWetWithHushed 1 = .ok (.invokevirtual 63, 3) := by decide +kernel
theorem dX2_isWetWithHushed_4 : decode cX2_isWetWithHushed 4 = .ok (.astore_n 3, 1) := by decide +kernel
theorem dX2_isWetWithHushed_5 : decode cX2_isWetWithHushed 5 = .ok (.aload_n 3, 1) := by decide +kernel
theorem dX2_isWetWithHushed_6 : decode cX2_isWetWithHushed 6 = .ok (.iload_n 1, 1) := by decide +kernel
theorem dX2_isWetWithHushed_7 : decode cX2_isWetWithHushed 7 = .ok (.putfield 172, 3) := by decide +kernel
theorem dX2_isWetWithHushed_10 : decode cX2_isWetWithHushed 10 = .ok (.aload_n 3, 1) := by decide +kernel
theorem dX2_isWetWithHushed_11 : decode cX2_isWetWithHushed 11 = .ok (.aload_n 0, 1) := by decide +kernel
theorem dX2_isWetWithHushed_12 : decode cX2_isWetWithHushed 12 = .ok (.getfield 10, 3) := by decide +kernel
theorem dX2_isWetWithHushed_15 : decode cX2_isWetWithHushed 15 = .ok (.invokevirtual 162, 3) := by decide +kernel
theorem dX2_isWetWithHushed_18 : decode cX2_isWetWithHushed 18 = .ok (.iload_n 2, 1) := by decide +kernel
theorem dX2_isWetWithHushed_19 : decode cX2_isWetWithHushed 19 = .ok (.invokevirtual 165, 3) := by decide +kernel
theorem dX2_isWetWithHushed_22 : decode cX2_isWetWithHushed 22 = .ok (.ireturn, 1) := by decide +kernel
theorem dX2_othersWetBySending_0 : decode cX2_othersWetBySending 0 = .ok (.aload_n 0, 1) := by decide +kernel
theorem dX2_othersWetBySending_1 : decode cX2_othersWetBySending 1 = .ok (.invokevirtual 63, 3) := by decide +kernel
theorem dX2_othersWetBySending_4 : decode cX2_othersWetBySending 4 = .ok (.astore_n 3, 1) := by decide +kernel
theorem dX2_othersWetBySending_5 : decode cX2_othersWetBySending 5 = .ok (.aload_n 3, 1) := by decide +kernel
theorem dX2_othersWetBySending_6 : decode cX2_othersWetBySending 6 = .ok (.iload_n 1, 1) := by decide +kernel
theorem dX2_othersWetBySending_7 : decode cX2_othersWetBySending 7 = .ok (.invokevirtual 243, 3) := by decide +kernel
theorem dX2_othersWetBySending_10 : decode cX2_othersWetBySending 10 = .ok (.aload_n 3, 1) := by decide +kernel
theorem dX2_othersWetBySending_11 : decode cX2_othersWetBySending 11 = .ok (.iload_n 2, 1) := by decide +kernel
theorem dX2_othersWetBySending_12 : decode cX2_othersWetBySending 12 = .ok (.invokevirtual 138, 3) := by decide +kernel
theorem dX2_othersWetBySending_15 : decode cX2_othersWetBySending 15 = .ok (.iconst 0, 1) := by decide +kernel
theorem dX2_othersWetBySending_16 : decode cX2_othersWetBySending 16 = .ok (.istore 4, 2) := by decide +kernel
theorem dX2_othersWetBySending_18 : decode cX2_othersWetBySending 18 = .ok (.iconst 0, 1) := by decide +kernel
theorem dX2_othersWetBySending_19 : decode cX2_othersWetBySending 19 = .ok (.istore 5, 2) := by decide +kernel
theorem dX2_othersWetBySending_21 : decode cX2_othersWetBySending 21 = .ok (.iload 5, 2) := by decide +kernel
theorem dX2_othersWetBySending_23 : decode cX2_othersWetBySending 23 = .ok (.aload_n 3, 1) := by decide +kernel
theorem dX2_othersWetBySending_24 : decode cX2_othersWetBySending 24 = .ok (.getfield 171, 3) := by decide +kernel
theorem dX2_othersWetBySending_27 : decode cX2_othersWetBySending 27 = .ok (.if_icmp .ge 28, 3) := by decide +kernel
theorem dX2_othersWetBySending_30 : decode cX2_othersWetBySending 30 = .ok (.iload 5, 2) := by decide +kernel
theorem dX2_othersWetBySending_32 : decode cX2_othersWetBySending 32 = .ok (.iload_n 1, 1) := by decide +kernel
theorem dX2_othersWetBySending_33 : decode cX2_othersWetBySending 33 = .ok (.if_icmp .eq 16, 3) := by decide +kernel
theorem dX2_othersWetBySending_36 : decode cX2_othersWetBySending 36 = .ok (.aload_n 3, 1) := by decide +kernel
theorem dX2_othersWetBySending_37 : decode cX2_othersWetBySending 37 = .ok (.getfield 93, 3) := by decide +kernel
theorem dX2_othersWetBySending_40 : decode cX2_othersWetBySending 40 = .ok (.iload 5, 2) := by decide +kernel
theorem dX2_othersWetBySending_42 : decode cX2_othersWetBySending 42 = .ok (.iaload, 1) := by decide +kernel
theorem dX2_othersWetBySending_43 : decode cX2_othersWetBySending 43 = .ok (.ifCond .le 6, 3) := by decide +kernel
theorem dX2_othersWetBySending_46 : decode cX2_othersWetBySending 46 = .ok (.iinc 4 1, 3) := by decide +kernel
theorem dX2_othersWetBySending_49 : decode cX2_othersWetBySending 49 = .ok (.iinc 5 1, 3) := by decide +kernel
theorem dX2_othersWetBySending_52 : decode cX2_othersWetBySending 52 = .ok (.goto (-31), 3) := by decide +kernel
theorem dX2_othersWetBySending_55 : decode cX2_othersWetBySending 55 = .ok (.iload 4, 2) := by decide +kernel
theorem dX2_othersWetBySending_57 : decode cX2_othersWetBySending 57 = .ok (.ireturn, 1) := by decide +kernel
theorem dX2_rank_0 : decode cX2_rank 0 = .ok (.iload_n 2, 1) := by decide +kernel
theorem dX2_rank_1 : decode cX2_rank 1 = .ok (.lookupswitch 48 #[(0, 27), (1, 37)], 27) := by decide +kernel
theorem dX2_rank_28 : decode cX2_rank 28 = .ok (.aload_n 0, 1) := by decide +kernel
theorem dX2_rank_29 : decode cX2_rank 29 = .ok (.getfield 10, 3) := by decide +kernel
theorem dX2_rank_32 : decode cX2_rank 32 = .ok (.getfield 93, 3) := by decide +kernel
theorem dX2_rank_35 : decode cX2_rank 35 = .ok (.iload_n 1, 1) := by decide +kernel
theorem dX2_rank_36 : decode cX2_rank 36 = .ok (.iaload, 1) := by decide +kernel
theorem dX2_rank_37 : decode cX2_rank 37 = .ok (.ireturn, 1) := by decide +kernel
theorem dX2_rank_38 : decode cX2_rank 38 = .ok (.aload_n 0, 1) := by decide +kernel
theorem dX2_rank_39 : decode cX2_rank 39 = .ok (.getfield 10, 3) := by decide +kernel
theorem dX2_rank_42 : decode cX2_rank 42 = .ok (.getfield 93, 3) := by decide +kernel
theorem dX2_rank_45 : decode cX2_rank 45 = .ok (.iload_n 1, 1) := by decide +kernel
theorem dX2_rank_46 : decode cX2_rank 46 = .ok (.iaload, 1) := by decide +kernel
theorem dX2_rank_47 : decode cX2_rank 47 = .ok (.ineg, 1) := by decide +kernel
theorem dX2_rank_48 : decode cX2_rank 48 = .ok (.ireturn, 1) := by decide +kernel
theorem dX2_rank_49 : decode cX2_rank 49 = .ok (.aload_n 0, 1) := by decide +kernel
theorem dX2_rank_50 : decode cX2_rank 50 = .ok (.getfield 10, 3) := by decide +kernel
theorem dX2_rank_53 : decode cX2_rank 53 = .ok (.iload_n 1, 1) := by decide +kernel
theorem dX2_rank_54 : decode cX2_rank 54 = .ok (.invokevirtual 105, 3) := by decide +kernel
theorem dX2_rank_57 : decode cX2_rank 57 = .ok (.ireturn, 1) := by decide +kernel
theorem dX2_friendsOfOthers_0 : decode cX2_friendsOfOthers 0 = .ok (.iconst 0, 1) := by decide +kernel
theorem dX2_friendsOfOthers_1 : decode cX2_friendsOfOthers 1 = .ok (.istore_n 1, 1) := by decide +kernel
theorem dX2_friendsOfOthers_2 : decode cX2_friendsOfOthers 2 = .ok (.iconst 0, 1) := by decide +kernel
theorem dX2_friendsOfOthers_3 : decode cX2_friendsOfOthers 3 = .ok (.istore_n 2, 1) := by decide +kernel
theorem dX2_friendsOfOthers_4 : decode cX2_friendsOfOthers 4 = .ok (.iload_n 2, 1) := by decide +kernel
theorem dX2_friendsOfOthers_5 : decode cX2_friendsOfOthers 5 = .ok (.aload_n 0, 1) := by decide +kernel
theorem dX2_friendsOfOthers_6 : decode cX2_friendsOfOthers 6 = .ok (.getfield 10, 3) := by decide +kernel
theorem dX2_friendsOfOthers_9 : decode cX2_friendsOfOthers 9 = .ok (.getfield 171, 3) := by decide +kernel
theorem dX2_friendsOfOthers_12 : decode cX2_friendsOfOthers 12 = .ok (.if_icmp .ge 41, 3) := by decide +kernel
theorem dX2_friendsOfOthers_15 : decode cX2_friendsOfOthers 15 = .ok (.aload_n 0, 1) := by decide +kernel
theorem dX2_friendsOfOthers_16 : decode cX2_friendsOfOthers 16 = .ok (.getfield 10, 3) := by decide +kernel
theorem dX2_friendsOfOthers_19 : decode cX2_friendsOfOthers 19 = .ok (.getfield 102, 3) := by decide +kernel
theorem dX2_friendsOfOthers_22 : decode cX2_friendsOfOthers 22 = .ok (.iload_n 2, 1) := by decide +kernel
theorem dX2_friendsOfOthers_23 : decode cX2_friendsOfOthers 23 = .ok (.iaload, 1) := by decide +kernel
theorem dX2_friendsOfOthers_24 : decode cX2_friendsOfOthers 24 = .ok (.istore_n 3, 1) := by decide +kernel
theorem dX2_friendsOfOthers_25 : decode cX2_friendsOfOthers 25 = .ok (.iload_n 3, 1) := by decide +kernel
theorem dX2_friendsOfOthers_26 : decode cX2_friendsOfOthers 26 = .ok (.iload_n 2, 1) := by decide +kernel
theorem dX2_friendsOfOthers_27 : decode cX2_friendsOfOthers 27 = .ok (.if_icmp .eq 20, 3) := by decide +kernel
theorem dX2_friendsOfOthers_30 : decode cX2_friendsOfOthers 30 = .ok (.aload_n 0, 1) := by decide +kernel
theorem dX2_friendsOfOthers_31 : decode cX2_friendsOfOthers 31 = .ok (.getfield 10, 3) := by decide +kernel
theorem dX2_friendsOfOthers_34 : decode cX2_friendsOfOthers 34 = .ok (.iload_n 3, 1) := by decide +kernel
theorem dX2_friendsOfOthers_35 : decode cX2_friendsOfOthers 35 = .ok (.invokevirtual 81, 3) := by decide +kernel
theorem dX2_friendsOfOthers_38 : decode cX2_friendsOfOthers 38 = .ok (.ifCond .eq 9, 3) := by decide +kernel
theorem dX2_friendsOfOthers_41 : decode cX2_friendsOfOthers 41 = .ok (.iload_n 1, 1) := by decide +kernel
theorem dX2_friendsOfOthers_42 : decode cX2_friendsOfOthers 42 = .ok (.iconst 1, 1) := by decide +kernel
theorem dX2_friendsOfOthers_43 : decode cX2_friendsOfOthers 43 = .ok (.iload_n 3, 1) := by decide +kernel
theorem dX2_friendsOfOthers_44 : decode cX2_friendsOfOthers 44 = .ok (.ishl, 1) := by decide +kernel
theorem dX2_friendsOfOthers_45 : decode cX2_friendsOfOthers 45 = .ok (.ior, 1) := by decide +kernel
theorem dX2_friendsOfOthers_46 : decode cX2_friendsOfOthers 46 = .ok (.istore_n 1, 1) := by decide +kernel
theorem dX2_friendsOfOthers_47 : decode cX2_friendsOfOthers 47 = .ok (.iinc 2 1, 3) := by decide +kernel
theorem dX2_friendsOfOthers_50 : decode cX2_friendsOfOthers 50 = .ok (.goto (-46), 3) := by decide +kernel
theorem dX2_friendsOfOthers_53 : decode cX2_friendsOfOthers 53 = .ok (.iload_n 1, 1) := by decide +kernel
theorem dX2_friendsOfOthers_54 : decode cX2_friendsOfOthers 54 = .ok (.ireturn, 1) := by decide +kernel
theorem dX2_mutualTwos_0 : decode cX2_mutualTwos 0 = .ok (.iconst 0, 1) := by decide +kernel
theorem dX2_mutualTwos_1 : decode cX2_mutualTwos 1 = .ok (.istore_n 1, 1) := by decide +kernel
theorem dX2_mutualTwos_2 : decode cX2_mutualTwos 2 = .ok (.iconst 0, 1) := by decide +kernel
theorem dX2_mutualTwos_3 : decode cX2_mutualTwos 3 = .ok (.istore_n 2, 1) := by decide +kernel
theorem dX2_mutualTwos_4 : decode cX2_mutualTwos 4 = .ok (.iload_n 2, 1) := by decide +kernel
theorem dX2_mutualTwos_5 : decode cX2_mutualTwos 5 = .ok (.aload_n 0, 1) := by decide +kernel
theorem dX2_mutualTwos_6 : decode cX2_mutualTwos 6 = .ok (.getfield 10, 3) := by decide +kernel
theorem dX2_mutualTwos_9 : decode cX2_mutualTwos 9 = .ok (.getfield 171, 3) := by decide +kernel
theorem dX2_mutualTwos_12 : decode cX2_mutualTwos 12 = .ok (.if_icmp .ge 51, 3) := by decide +kernel
theorem dX2_mutualTwos_15 : decode cX2_mutualTwos 15 = .ok (.aload_n 0, 1) := by decide +kernel
theorem dX2_mutualTwos_16 : decode cX2_mutualTwos 16 = .ok (.getfield 10, 3) := by decide +kernel
theorem dX2_mutualTwos_19 : decode cX2_mutualTwos 19 = .ok (.getfield 102, 3) := by decide +kernel
theorem dX2_mutualTwos_22 : decode cX2_mutualTwos 22 = .ok (.iload_n 2, 1) := by decide +kernel
theorem dX2_mutualTwos_23 : decode cX2_mutualTwos 23 = .ok (.iaload, 1) := by decide +kernel
theorem dX2_mutualTwos_24 : decode cX2_mutualTwos 24 = .ok (.istore_n 3, 1) := by decide +kernel
theorem dX2_mutualTwos_25 : decode cX2_mutualTwos 25 = .ok (.iload_n 3, 1) := by decide +kernel
theorem dX2_mutualTwos_26 : decode cX2_mutualTwos 26 = .ok (.iload_n 2, 1) := by decide +kernel
theorem dX2_mutualTwos_27 : decode cX2_mutualTwos 27 = .ok (.if_icmp .le 30, 3) := by decide +kernel
theorem dX2_mutualTwos_30 : decode cX2_mutualTwos 30 = .ok (.aload_n 0, 1) := by decide +kernel
theorem dX2_mutualTwos_31 : decode cX2_mutualTwos 31 = .ok (.getfield 10, 3) := by decide +kernel
theorem dX2_mutualTwos_34 : decode cX2_mutualTwos 34 = .ok (.iload_n 3, 1) := by decide +kernel
theorem dX2_mutualTwos_35 : decode cX2_mutualTwos 35 = .ok (.invokevirtual 81, 3) := by decide +kernel
theorem dX2_mutualTwos_38 : decode cX2_mutualTwos 38 = .ok (.ifCond .eq 19, 3) := by decide +kernel
theorem dX2_mutualTwos_41 : decode cX2_mutualTwos 41 = .ok (.aload_n 0, 1) := by decide +kernel
theorem dX2_mutualTwos_42 : decode cX2_mutualTwos 42 = .ok (.getfield 10, 3) := by decide +kernel
theorem dX2_mutualTwos_45 : decode cX2_mutualTwos 45 = .ok (.getfield 102, 3) := by decide +kernel
theorem dX2_mutualTwos_48 : decode cX2_mutualTwos 48 = .ok (.iload_n 3, 1) := by decide +kernel
theorem dX2_mutualTwos_49 : decode cX2_mutualTwos 49 = .ok (.iaload, 1) := by decide +kernel
theorem dX2_mutualTwos_50 : decode cX2_mutualTwos 50 = .ok (.iload_n 2, 1) := by decide +kernel
theorem dX2_mutualTwos_51 : decode cX2_mutualTwos 51 = .ok (.if_icmp .ne 6, 3) := by decide +kernel
theorem dX2_mutualTwos_54 : decode cX2_mutualTwos 54 = .ok (.iinc 1 1, 3) := by decide +kernel
theorem dX2_mutualTwos_57 : decode cX2_mutualTwos 57 = .ok (.iinc 2 1, 3) := by decide +kernel
theorem dX2_mutualTwos_60 : decode cX2_mutualTwos 60 = .ok (.goto (-56), 3) := by decide +kernel
theorem dX2_mutualTwos_63 : decode cX2_mutualTwos 63 = .ok (.iload_n 1, 1) := by decide +kernel
theorem dX2_mutualTwos_64 : decode cX2_mutualTwos 64 = .ok (.ireturn, 1) := by decide +kernel
theorem dX2_gain_0 : decode cX2_gain 0 = .ok (.aload_n 0, 1) := by decide +kernel
theorem dX2_gain_1 : decode cX2_gain 1 = .ok (.invokevirtual 63, 3) := by decide +kernel
theorem dX2_gain_4 : decode cX2_gain 4 = .ok (.astore 6, 2) := by decide +kernel
theorem dX2_gain_6 : decode cX2_gain 6 = .ok (.iload_n 2, 1) := by decide +kernel
theorem dX2_gain_7 : decode cX2_gain 7 = .ok (.iconst 1, 1) := by decide +kernel
theorem dX2_gain_8 : decode cX2_gain 8 = .ok (.if_icmp .ne 10, 3) := by decide +kernel
theorem dX2_gain_11 : decode cX2_gain 11 = .ok (.aload 6, 2) := by decide +kernel
theorem dX2_gain_13 : decode cX2_gain 13 = .ok (.iload_n 1, 1) := by decide +kernel
theorem dX2_gain_14 : decode cX2_gain 14 = .ok (.invokevirtual 111, 3) := by decide +kernel
theorem dX2_gain_17 : decode cX2_gain 17 = .ok (.pop, 1) := by decide +kernel
theorem dX2_gain_18 : decode cX2_gain 18 = .ok (.iload 4, 2) := by decide +kernel
theorem dX2_gain_20 : decode cX2_gain 20 = .ok (.iconst 1, 1) := by decide +kernel
theorem dX2_gain_21 : decode cX2_gain 21 = .ok (.if_icmp .ne 10, 3) := by decide +kernel
theorem dX2_gain_24 : decode cX2_gain 24 = .ok (.aload 6, 2) := by decide +kernel
theorem dX2_gain_26 : decode cX2_gain 26 = .ok (.iload_n 3, 1) := by decide +kernel
theorem dX2_gain_27 : decode cX2_gain 27 = .ok (.invokevirtual 111, 3) := by decide +kernel
theorem dX2_gain_30 : decode cX2_gain 30 = .ok (.pop, 1) := by decide +kernel
theorem dX2_gain_31 : decode cX2_gain 31 = .ok (.aload 6, 2) := by decide +kernel
theorem dX2_gain_33 : decode cX2_gain 33 = .ok (.iload 5, 2) := by decide +kernel
theorem dX2_gain_35 : decode cX2_gain 35 = .ok (.invokevirtual 138, 3) := by decide +kernel
theorem dX2_gain_38 : decode cX2_gain 38 = .ok (.aload 6, 2) := by decide +kernel
theorem dX2_gain_40 : decode cX2_gain 40 = .ok (.getfield 93, 3) := by decide +kernel
theorem dX2_gain_43 : decode cX2_gain 43 = .ok (.iload_n 1, 1) := by decide +kernel
theorem dX2_gain_44 : decode cX2_gain 44 = .ok (.iaload, 1) := by decide +kernel
theorem dX2_gain_45 : decode cX2_gain 45 = .ok (.iconst 2, 1) := by decide +kernel
theorem dX2_gain_46 : decode cX2_gain 46 = .ok (.iload_n 2, 1) := by decide +kernel
theorem dX2_gain_47 : decode cX2_gain 47 = .ok (.imul, 1) := by decide +kernel
theorem dX2_gain_48 : decode cX2_gain 48 = .ok (.iadd, 1) := by decide +kernel
theorem dX2_gain_49 : decode cX2_gain 49 = .ok (.ireturn, 1) := by decide +kernel
theorem dX2_hasBehindSneezes_0 : decode cX2_hasBehindSneezes 0 = .ok (.aload_n 0, 1) := by decide +kernel
theorem dX2_hasBehindSneezes_1 : decode cX2_hasBehindSneezes 1 = .ok (.invokevirtual 63, 3) := by decide +kernel
theorem dX2_hasBehindSneezes_4 : decode cX2_hasBehindSneezes 4 = .ok (.astore 4, 2) := by decide +kernel
theorem dX2_hasBehindSneezes_6 : decode cX2_hasBehindSneezes 6 = .ok (.iconst 0, 1) := by decide +kernel
theorem dX2_hasBehindSneezes_7 : decode cX2_hasBehindSneezes 7 = .ok (.istore 5, 2) := by decide +kernel
theorem dX2_hasBehindSneezes_9 : decode cX2_hasBehindSneezes 9 = .ok (.iload 5, 2) := by decide +kernel
theorem dX2_hasBehindSneezes_11 : decode cX2_hasBehindSneezes 11 = .ok (.iload_n 2, 1) := by decide +kernel
theorem dX2_hasBehindSneezes_12 : decode cX2_hasBehindSneezes 12 = .ok (.if_icmp .ge 43, 3) := by decide +kernel
theorem dX2_hasBehindSneezes_15 : decode cX2_hasBehindSneezes 15 = .ok (.iload_n 3, 1) := by decide +kernel
theorem dX2_hasBehindSneezes_16 : decode cX2_hasBehindSneezes 16 = .ok (.iload 5, 2) := by decide +kernel
theorem dX2_hasBehindSneezes_18 : decode cX2_hasBehindSneezes 18 = .ok (.ishr, 1) := by decide +kernel
theorem dX2_hasBehindSneezes_19 : decode cX2_hasBehindSneezes 19 = .ok (.iconst 1, 1) := by decide +kernel
theorem dX2_hasBehindSneezes_20 : decode cX2_hasBehindSneezes 20 = .ok (.iand, 1) := by decide +kernel
theorem dX2_hasBehindSneezes_21 : decode cX2_hasBehindSneezes 21 = .ok (.iconst 1, 1) := by decide +kernel
theorem dX2_hasBehindSneezes_22 : decode cX2_hasBehindSneezes 22 = .ok (.if_icmp .ne 7, 3) := by decide +kernel
theorem dX2_hasBehindSneezes_25 : decode cX2_hasBehindSneezes 25 = .ok (.iconst 1, 1) := by decide +kernel
theorem dX2_hasBehindSneezes_26 : decode cX2_hasBehindSneezes 26 = .ok (.goto 4, 3) := by decide +kernel
theorem dX2_hasBehindSneezes_29 : decode cX2_hasBehindSneezes 29 = .ok (.iconst 0, 1) := by decide +kernel
theorem dX2_hasBehindSneezes_30 : decode cX2_hasBehindSneezes 30 = .ok (.istore 6, 2) := by decide +kernel
theorem dX2_hasBehindSneezes_32 : decode cX2_hasBehindSneezes 32 = .ok (.aload 4, 2) := by decide +kernel
theorem dX2_hasBehindSneezes_34 : decode cX2_hasBehindSneezes 34 = .ok (.iload 6, 2) := by decide +kernel
theorem dX2_hasBehindSneezes_36 : decode cX2_hasBehindSneezes 36 = .ok (.ifCond .eq 9, 3) := by decide +kernel
theorem dX2_hasBehindSneezes_39 : decode cX2_hasBehindSneezes 39 = .ok (.iconst 1, 1) := by decide +kernel
theorem dX2_hasBehindSneezes_40 : decode cX2_hasBehindSneezes 40 = .ok (.iload_n 1, 1) := by decide +kernel
theorem dX2_hasBehindSneezes_41 : decode cX2_hasBehindSneezes 41 = .ok (.ishl, 1) := by decide +kernel
theorem dX2_hasBehindSneezes_42 : decode cX2_hasBehindSneezes 42 = .ok (.goto 4, 3) := by decide +kernel
theorem dX2_hasBehindSneezes_45 : decode cX2_hasBehindSneezes 45 = .ok (.iconst 0, 1) := by decide +kernel
theorem dX2_hasBehindSneezes_46 : decode cX2_hasBehindSneezes 46 = .ok (.invokevirtual 159, 3) := by decide +kernel
theorem dX2_hasBehindSneezes_49 : decode cX2_hasBehindSneezes 49 = .ok (.iinc 5 1, 3) := by decide +kernel
theorem dX2_hasBehindSneezes_52 : decode cX2_hasBehindSneezes 52 = .ok (.goto (-43), 3) := by decide +kernel
theorem dX2_hasBehindSneezes_55 : decode cX2_hasBehindSneezes 55 = .ok (.aload 4, 2) := by decide +kernel
theorem dX2_hasBehindSneezes_57 : decode cX2_hasBehindSneezes 57 = .ok (.getfield 93, 3) := by decide +kernel
theorem dX2_hasBehindSneezes_60 : decode cX2_hasBehindSneezes 60 = .ok (.iload_n 1, 1) := by decide +kernel
theorem dX2_hasBehindSneezes_61 : decode cX2_hasBehindSneezes 61 = .ok (.iaload, 1) := by decide +kernel
theorem dX2_hasBehindSneezes_62 : decode cX2_hasBehindSneezes 62 = .ok (.ireturn, 1) := by decide +kernel
theorem dX2_power_0 : decode cX2_power 0 = .ok (.lconst 1, 1) := by decide +kernel
theorem dX2_power_1 : decode cX2_power 1 = .ok (.lstore_n 2, 1) := by decide +kernel
theorem dX2_power_2 : decode cX2_power 2 = .ok (.iconst 0, 1) := by decide +kernel
theorem dX2_power_3 : decode cX2_power 3 = .ok (.istore 4, 2) := by decide +kernel
theorem dX2_power_5 : decode cX2_power 5 = .ok (.iload 4, 2) := by decide +kernel
theorem dX2_power_7 : decode cX2_power 7 = .ok (.iload_n 1, 1) := by decide +kernel
theorem dX2_power_8 : decode cX2_power 8 = .ok (.if_icmp .ge 14, 3) := by decide +kernel
theorem dX2_power_11 : decode cX2_power 11 = .ok (.lload_n 2, 1) := by decide +kernel
theorem dX2_power_12 : decode cX2_power 12 = .ok (.iload_n 0, 1) := by decide +kernel
theorem dX2_power_13 : decode cX2_power 13 = .ok (.i2l, 1) := by decide +kernel
theorem dX2_power_14 : decode cX2_power 14 = .ok (.lmul, 1) := by decide +kernel
theorem dX2_power_15 : decode cX2_power 15 = .ok (.lstore_n 2, 1) := by decide +kernel
theorem dX2_power_16 : decode cX2_power 16 = .ok (.iinc 4 1, 3) := by decide +kernel
theorem dX2_power_19 : decode cX2_power 19 = .ok (.goto (-14), 3) := by decide +kernel
theorem dX2_power_22 : decode cX2_power 22 = .ok (.lload_n 2, 1) := by decide +kernel
theorem dX2_power_23 : decode cX2_power 23 = .ok (.lreturn, 1) := by decide +kernel
theorem dX2_partOfFraction_0 : decode cX2_partOfFraction 0 = .ok (.lload_n 0, 1) := by decide +kernel
theorem dX2_partOfFraction_1 : decode cX2_partOfFraction 1 = .ok (.lload_n 2, 1) := by decide +kernel
theorem dX2_partOfFraction_2 : decode cX2_partOfFraction 2 = .ok (.invokestatic 246, 3) := by decide +kernel
theorem dX2_partOfFraction_5 : decode cX2_partOfFraction 5 = .ok (.lstore 5, 2) := by decide +kernel
theorem dX2_partOfFraction_7 : decode cX2_partOfFraction 7 = .ok (.iload 4, 2) := by decide +kernel
theorem dX2_partOfFraction_9 : decode cX2_partOfFraction 9 = .ok (.ifCond .ne 7, 3) := by decide +kernel
theorem dX2_partOfFraction_12 : decode cX2_partOfFraction 12 = .ok (.lload_n 0, 1) := by decide +kernel
theorem dX2_partOfFraction_13 : decode cX2_partOfFraction 13 = .ok (.goto 4, 3) := by decide +kernel
theorem dX2_partOfFraction_16 : decode cX2_partOfFraction 16 = .ok (.lload_n 2, 1) := by decide +kernel
theorem dX2_partOfFraction_17 : decode cX2_partOfFraction 17 = .ok (.lstore 7, 2) := by decide +kernel
theorem dX2_partOfFraction_19 : decode cX2_partOfFraction 19 = .ok (.lload 5, 2) := by decide +kernel
theorem dX2_partOfFraction_21 : decode cX2_partOfFraction 21 = .ok (.lconst 0, 1) := by decide +kernel
theorem dX2_partOfFraction_22 : decode cX2_partOfFraction 22 = .ok (.lcmp, 1) := by decide +kernel
theorem dX2_partOfFraction_23 : decode cX2_partOfFraction 23 = .ok (.ifCond .gt 8, 3) := by decide +kernel
theorem dX2_partOfFraction_26 : decode cX2_partOfFraction 26 = .ok (.lload 7, 2) := by decide +kernel
theorem dX2_partOfFraction_28 : decode cX2_partOfFraction 28 = .ok (.goto 8, 3) := by decide +kernel
theorem dX2_partOfFraction_31 : decode cX2_partOfFraction 31 = .ok (.lload 7, 2) := by decide +kernel
theorem dX2_partOfFraction_33 : decode cX2_partOfFraction 33 = .ok (.lload 5, 2) := by decide +kernel
theorem dX2_partOfFraction_35 : decode cX2_partOfFraction 35 = .ok (.ldiv, 1) := by decide +kernel
theorem dX2_partOfFraction_36 : decode cX2_partOfFraction 36 = .ok (.lreturn, 1) := by decide +kernel
theorem dX2_greatestDivisor_0 : decode cX2_greatestDivisor 0 = .ok (.lload_n 0, 1) := by decide +kernel
theorem dX2_greatestDivisor_1 : decode cX2_greatestDivisor 1 = .ok (.lstore 4, 2) := by decide +kernel
theorem dX2_greatestDivisor_3 : decode cX2_greatestDivisor 3 = .ok (.lload_n 2, 1) := by decide +kernel
theorem dX2_greatestDivisor_4 : decode cX2_greatestDivisor 4 = .ok (.lstore 6, 2) := by decide +kernel
theorem dX2_greatestDivisor_6 : decode cX2_greatestDivisor 6 = .ok (.iconst 0, 1) := by decide +kernel
theorem dX2_greatestDivisor_7 : decode cX2_greatestDivisor 7 = .ok (.istore 8, 2) := by decide +kernel
theorem dX2_greatestDivisor_9 : decode cX2_greatestDivisor 9 = .ok (.iload 8, 2) := by decide +kernel
theorem dX2_greatestDivisor_11 : decode cX2_greatestDivisor 11 = .ok (.bipush 100, 2) := by decide +kernel
theorem dX2_greatestDivisor_13 : decode cX2_greatestDivisor 13 = .ok (.if_icmp .ge 31, 3) := by decide +kernel
theorem dX2_greatestDivisor_16 : decode cX2_greatestDivisor 16 = .ok (.lload 6, 2) := by decide +kernel
theorem dX2_greatestDivisor_18 : decode cX2_greatestDivisor 18 = .ok (.lconst 0, 1) := by decide +kernel
theorem dX2_greatestDivisor_19 : decode cX2_greatestDivisor 19 = .ok (.lcmp, 1) := by decide +kernel
theorem dX2_greatestDivisor_20 : decode cX2_greatestDivisor 20 = .ok (.ifCond .eq 24, 3) := by decide +kernel
theorem dX2_greatestDivisor_23 : decode cX2_greatestDivisor 23 = .ok (.lload 4, 2) := by decide +kernel
theorem dX2_greatestDivisor_25 : decode cX2_greatestDivisor 25 = .ok (.lload 6, 2) := by decide +kernel
theorem dX2_greatestDivisor_27 : decode cX2_greatestDivisor 27 = .ok (.lrem, 1) := by decide +kernel
theorem dX2_greatestDivisor_28 : decode cX2_greatestDivisor 28 = .ok (.lstore 9, 2) := by decide +kernel
theorem dX2_greatestDivisor_30 : decode cX2_greatestDivisor 30 = .ok (.lload 6, 2) := by decide +kernel
theorem dX2_greatestDivisor_32 : decode cX2_greatestDivisor 32 = .ok (.lstore 4, 2) := by decide +kernel
theorem dX2_greatestDivisor_34 : decode cX2_greatestDivisor 34 = .ok (.lload 9, 2) := by decide +kernel
theorem dX2_greatestDivisor_36 : decode cX2_greatestDivisor 36 = .ok (.lstore 6, 2) := by decide +kernel
theorem dX2_greatestDivisor_38 : decode cX2_greatestDivisor 38 = .ok (.iinc 8 1, 3) := by decide +kernel
theorem dX2_greatestDivisor_41 : decode cX2_greatestDivisor 41 = .ok (.goto (-32), 3) := by decide +kernel
theorem dX2_greatestDivisor_44 : decode cX2_greatestDivisor 44 = .ok (.lload 4, 2) := by decide +kernel
theorem dX2_greatestDivisor_46 : decode cX2_greatestDivisor 46 = .ok (.lreturn, 1) := by decide +kernel
theorem dX2_kindsByRow_0 : decode cX2_kindsByRow 0 = .ok (.iconst 0, 1) := by decide +kernel
theorem dX2_kindsByRow_1 : decode cX2_kindsByRow 1 = .ok (.istore_n 2, 1) := by decide +kernel
theorem dX2_kindsByRow_2 : decode cX2_kindsByRow 2 = .ok (.iconst 0, 1) := by decide +kernel
theorem dX2_kindsByRow_3 : decode cX2_kindsByRow 3 = .ok (.istore_n 3, 1) := by decide +kernel
theorem dX2_kindsByRow_4 : decode cX2_kindsByRow 4 = .ok (.iload_n 3, 1) := by decide +kernel
theorem dX2_kindsByRow_5 : decode cX2_kindsByRow 5 = .ok (.bipush 6, 2) := by decide +kernel
theorem dX2_kindsByRow_7 : decode cX2_kindsByRow 7 = .ok (.if_icmp .ge 39, 3) := by decide +kernel
theorem dX2_kindsByRow_10 : decode cX2_kindsByRow 10 = .ok (.aload_n 0, 1) := by decide +kernel
theorem dX2_kindsByRow_11 : decode cX2_kindsByRow 11 = .ok (.invokevirtual 63, 3) := by decide +kernel
theorem dX2_kindsByRow_14 : decode cX2_kindsByRow 14 = .ok (.astore 4, 2) := by decide +kernel
theorem dX2_kindsByRow_16 : decode cX2_kindsByRow 16 = .ok (.aload 4, 2) := by decide +kernel
theorem dX2_kindsByRow_18 : decode cX2_kindsByRow 18 = .ok (.getfield 84, 3) := by decide +kernel
theorem dX2_kindsByRow_21 : decode cX2_kindsByRow 21 = .ok (.iload_n 1, 1) := by decide +kernel
theorem dX2_kindsByRow_22 : decode cX2_kindsByRow 22 = .ok (.iload_n 3, 1) := by decide +kernel
theorem dX2_kindsByRow_23 : decode cX2_kindsByRow 23 = .ok (.iastore, 1) := by decide +kernel
theorem dX2_kindsByRow_24 : decode cX2_kindsByRow 24 = .ok (.aload_n 0, 1) := by decide +kernel
theorem dX2_kindsByRow_25 : decode cX2_kindsByRow 25 = .ok (.aload 4, 2) := by decide +kernel
theorem dX2_kindsByRow_27 : decode cX2_kindsByRow 27 = .ok (.iload_n 1, 1) := by decide +kernel
theorem dX2_kindsByRow_28 : decode cX2_kindsByRow 28 = .ok (.invokevirtual 250, 3) := by decide +kernel
theorem dX2_kindsByRow_31 : decode cX2_kindsByRow 31 = .ok (.ifCond .eq 9, 3) := by decide +kernel
theorem dX2_kindsByRow_34 : decode cX2_kindsByRow 34 = .ok (.iload_n 2, 1) := by decide +kernel
theorem dX2_kindsByRow_35 : decode cX2_kindsByRow 35 = .ok (.iconst 1, 1) := by decide +kernel
theorem dX2_kindsByRow_36 : decode cX2_kindsByRow 36 = .ok (.iload_n 3, 1) := by decide +kernel
theorem dX2_kindsByRow_37 : decode cX2_kindsByRow 37 = .ok (.ishl, 1) := by decide +kernel
theorem dX2_kindsByRow_38 : decode cX2_kindsByRow 38 = .ok (.ior, 1) := by decide +kernel
theorem dX2_kindsByRow_39 : decode cX2_kindsByRow 39 = .ok (.istore_n 2, 1) := by decide +kernel
theorem dX2_kindsByRow_40 : decode cX2_kindsByRow 40 = .ok (.iinc 3 1, 3) := by decide +kernel
theorem dX2_kindsByRow_43 : decode cX2_kindsByRow 43 = .ok (.goto (-39), 3) := by decide +kernel
theorem dX2_kindsByRow_46 : decode cX2_kindsByRow 46 = .ok (.iload_n 2, 1) := by decide +kernel
theorem dX2_kindsByRow_47 : decode cX2_kindsByRow 47 = .ok (.ireturn, 1) := by decide +kernel
theorem dX2_figuresByRow_0 : decode cX2_figuresByRow 0 = .ok (.iconst 0, 1) := by decide +kernel
theorem dX2_figuresByRow_1 : decode cX2_figuresByRow 1 = .ok (.istore_n 2, 1) := by decide +kernel
theorem dX2_figuresByRow_2 : decode cX2_figuresByRow 2 = .ok (.iconst 0, 1) := by decide +kernel
theorem dX2_figuresByRow_3 : decode cX2_figuresByRow 3 = .ok (.istore_n 3, 1) := by decide +kernel
theorem dX2_figuresByRow_4 : decode cX2_figuresByRow 4 = .ok (.iload_n 3, 1) := by decide +kernel
theorem dX2_figuresByRow_5 : decode cX2_figuresByRow 5 = .ok (.bipush 9, 2) := by decide +kernel
theorem dX2_figuresByRow_7 : decode cX2_figuresByRow 7 = .ok (.if_icmp .gt 39, 3) := by decide +kernel
theorem dX2_figuresByRow_10 : decode cX2_figuresByRow 10 = .ok (.aload_n 0, 1) := by decide +kernel
theorem dX2_figuresByRow_11 : decode cX2_figuresByRow 11 = .ok (.invokevirtual 63, 3) := by decide +kernel
theorem dX2_figuresByRow_14 : decode cX2_figuresByRow 14 = .ok (.astore 4, 2) := by decide +kernel
theorem dX2_figuresByRow_16 : decode cX2_figuresByRow 16 = .ok (.aload 4, 2) := by decide +kernel
theorem dX2_figuresByRow_18 : decode cX2_figuresByRow 18 = .ok (.getfield 87, 3) := by decide +kernel
theorem dX2_figuresByRow_21 : decode cX2_figuresByRow 21 = .ok (.iload_n 1, 1) := by decide +kernel
theorem dX2_figuresByRow_22 : decode cX2_figuresByRow 22 = .ok (.iload_n 3, 1) := by decide +kernel
theorem dX2_figuresByRow_23 : decode cX2_figuresByRow 23 = .ok (.iastore, 1) := by decide +kernel
theorem dX2_figuresByRow_24 : decode cX2_figuresByRow 24 = .ok (.aload_n 0, 1) := by decide +kernel
theorem dX2_figuresByRow_25 : decode cX2_figuresByRow 25 = .ok (.aload 4, 2) := by decide +kernel
theorem dX2_figuresByRow_27 : decode cX2_figuresByRow 27 = .ok (.iload_n 1, 1) := by decide +kernel
theorem dX2_figuresByRow_28 : decode cX2_figuresByRow 28 = .ok (.invokevirtual 250, 3) := by decide +kernel
theorem dX2_figuresByRow_31 : decode cX2_figuresByRow 31 = .ok (.ifCond .eq 9, 3) := by decide +kernel
theorem dX2_figuresByRow_34 : decode cX2_figuresByRow 34 = .ok (.iload_n 2, 1) := by decide +kernel
theorem dX2_figuresByRow_35 : decode cX2_figuresByRow 35 = .ok (.iconst 1, 1) := by decide +kernel
theorem dX2_figuresByRow_36 : decode cX2_figuresByRow 36 = .ok (.iload_n 3, 1) := by decide +kernel
theorem dX2_figuresByRow_37 : decode cX2_figuresByRow 37 = .ok (.ishl, 1) := by decide +kernel
theorem dX2_figuresByRow_38 : decode cX2_figuresByRow 38 = .ok (.ior, 1) := by decide +kernel
theorem dX2_figuresByRow_39 : decode cX2_figuresByRow 39 = .ok (.istore_n 2, 1) := by decide +kernel
theorem dX2_figuresByRow_40 : decode cX2_figuresByRow 40 = .ok (.iinc 3 1, 3) := by decide +kernel
theorem dX2_figuresByRow_43 : decode cX2_figuresByRow 43 = .ok (.goto (-39), 3) := by decide +kernel
theorem dX2_figuresByRow_46 : decode cX2_figuresByRow 46 = .ok (.iload_n 2, 1) := by decide +kernel
theorem dX2_figuresByRow_47 : decode cX2_figuresByRow 47 = .ok (.ireturn, 1) := by decide +kernel
theorem dX2_goesAsRow_0 : decode cX2_goesAsRow 0 = .ok (.iconst 0, 1) := by decide +kernel
theorem dX2_goesAsRow_1 : decode cX2_goesAsRow 1 = .ok (.istore_n 3, 1) := by decide +kernel
theorem dX2_goesAsRow_2 : decode cX2_goesAsRow 2 = .ok (.iload_n 3, 1) := by decide +kernel
theorem dX2_goesAsRow_3 : decode cX2_goesAsRow 3 = .ok (.aload_n 0, 1) := by decide +kernel
theorem dX2_goesAsRow_4 : decode cX2_goesAsRow 4 = .ok (.getfield 36, 3) := by decide +kernel
theorem dX2_goesAsRow_7 : decode cX2_goesAsRow 7 = .ok (.if_icmp .ge 31, 3) := by decide +kernel
theorem dX2_goesAsRow_10 : decode cX2_goesAsRow 10 = .ok (.aload_n 1, 1) := by decide +kernel
theorem dX2_goesAsRow_11 : decode cX2_goesAsRow 11 = .ok (.getfield 93, 3) := by decide +kernel
theorem dX2_goesAsRow_14 : decode cX2_goesAsRow 14 = .ok (.iload_n 2, 1) := by decide +kernel
theorem dX2_goesAsRow_15 : decode cX2_goesAsRow 15 = .ok (.iaload, 1) := by decide +kernel
theorem dX2_goesAsRow_16 : decode cX2_goesAsRow 16 = .ok (.aload_n 0, 1) := by decide +kernel
theorem dX2_goesAsRow_17 : decode cX2_goesAsRow 17 = .ok (.getfield 29, 3) := by decide +kernel
theorem dX2_goesAsRow_20 : decode cX2_goesAsRow 20 = .ok (.iload_n 3, 1) := by decide +kernel
theorem dX2_goesAsRow_21 : decode cX2_goesAsRow 21 = .ok (.iaload, 1) := by decide +kernel
theorem dX2_goesAsRow_22 : decode cX2_goesAsRow 22 = .ok (.if_icmp .eq 5, 3) := by decide +kernel
theorem dX2_goesAsRow_25 : decode cX2_goesAsRow 25 = .ok (.iconst 0, 1) := by decide +kernel
theorem dX2_goesAsRow_26 : decode cX2_goesAsRow 26 = .ok (.ireturn, 1) := by decide +kernel
theorem dX2_goesAsRow_27 : decode cX2_goesAsRow 27 = .ok (.aload_n 1, 1) := by decide +kernel
theorem dX2_goesAsRow_28 : decode cX2_goesAsRow 28 = .ok (.iconst 0, 1) := by decide +kernel
theorem dX2_goesAsRow_29 : decode cX2_goesAsRow 29 = .ok (.invokevirtual 159, 3) := by decide +kernel
theorem dX2_goesAsRow_32 : decode cX2_goesAsRow 32 = .ok (.iinc 3 1, 3) := by decide +kernel
theorem dX2_goesAsRow_35 : decode cX2_goesAsRow 35 = .ok (.goto (-33), 3) := by decide +kernel
theorem dX2_goesAsRow_38 : decode cX2_goesAsRow 38 = .ok (.iconst 1, 1) := by decide +kernel
theorem dX2_goesAsRow_39 : decode cX2_goesAsRow 39 = .ok (.ireturn, 1) := by decide +kernel
theorem dX2_nextSeed_0 : decode cX2_nextSeed 0 = .ok (.iload_n 0, 1) := by decide +kernel
theorem dX2_nextSeed_1 : decode cX2_nextSeed 1 = .ok (.ldc 254, 2) := by decide +kernel
theorem dX2_nextSeed_3 : decode cX2_nextSeed 3 = .ok (.imul, 1) := by decide +kernel
theorem dX2_nextSeed_4 : decode cX2_nextSeed 4 = .ok (.ldc 255, 2) := by decide +kernel
theorem dX2_nextSeed_6 : decode cX2_nextSeed 6 = .ok (.iadd, 1) := by decide +kernel
theorem dX2_nextSeed_7 : decode cX2_nextSeed 7 = .ok (.ireturn, 1) := by decide +kernel
theorem dX2_lotBelow_0 : decode cX2_lotBelow 0 = .ok (.iload_n 1, 1) := by decide +kernel
theorem dX2_lotBelow_1 : decode cX2_lotBelow 1 = .ok (.ifCond .gt 7, 3) := by decide +kernel
theorem dX2_lotBelow_4 : decode cX2_lotBelow 4 = .ok (.iconst 0, 1) := by decide +kernel
theorem dX2_lotBelow_5 : decode cX2_lotBelow 5 = .ok (.goto 14, 3) := by decide +kernel
theorem dX2_lotBelow_8 : decode cX2_lotBelow 8 = .ok (.iload_n 0, 1) := by decide +kernel
theorem dX2_lotBelow_9 : decode cX2_lotBelow 9 = .ok (.ldc_w 256, 3) := by decide +kernel
theorem dX2_lotBelow_12 : decode cX2_lotBelow 12 = .ok (.iand, 1) := by decide +kernel
theorem dX2_lotBelow_13 : decode cX2_lotBelow 13 = .ok (.sipush 256, 3) := by decide +kernel
theorem dX2_lotBelow_16 : decode cX2_lotBelow 16 = .ok (.idiv, 1) := by decide +kernel
theorem dX2_lotBelow_17 : decode cX2_lotBelow 17 = .ok (.iload_n 1, 1) := by decide +kernel
theorem dX2_lotBelow_18 : decode cX2_lotBelow 18 = .ok (.irem, 1) := by decide +kernel
theorem dX2_lotBelow_19 : decode cX2_lotBelow 19 = .ok (.ireturn, 1) := by decide +kernel
theorem dX3_init_0 : decode cX3_init 0 = .ok (.aload_n 0, 1) := by decide +kernel
theorem dX3_init_1 : decode cX3_init 1 = .ok (.invokespecial 1, 3) := by decide +kernel
theorem dX3_init_4 : decode cX3_init 4 = .ok (.aload_n 0, 1) := by decide +kernel
theorem dX3_init_5 : decode cX3_init 5 = .ok (.bipush 47, 2) := by decide +kernel
theorem dX3_init_7 : decode cX3_init 7 = .ok (.newarray .int, 2) := by decide +kernel
theorem dX3_init_9 : decode cX3_init 9 = .ok (.putfield 9, 3) := by decide +kernel
theorem dX3_init_12 : decode cX3_init 12 = .ok (.aload_n 0, 1) := by decide +kernel
theorem dX3_init_13 : decode cX3_init 13 = .ok (.bipush 47, 2) := by decide +kernel
theorem dX3_init_15 : decode cX3_init 15 = .ok (.newarray .int, 2) := by decide +kernel
theorem dX3_init_17 : decode cX3_init 17 = .ok (.putfield 13, 3) := by decide +kernel
theorem dX3_init_20 : decode cX3_init 20 = .ok (.aload_n 0, 1) := by decide +kernel
theorem dX3_init_21 : decode cX3_init 21 = .ok (.bipush 47, 2) := by decide +kernel
theorem dX3_init_23 : decode cX3_init 23 = .ok (.newarray .int, 2) := by decide +kernel
theorem dX3_init_25 : decode cX3_init 25 = .ok (.putfield 16, 3) := by decide +kernel
theorem dX3_init_28 : decode cX3_init 28 = .ok (.aload_n 0, 1) := by decide +kernel
theorem dX3_init_29 : decode cX3_init 29 = .ok (.bipush 47, 2) := by decide +kernel
theorem dX3_init_31 : decode cX3_init 31 = .ok (.newarray .int, 2) := by decide +kernel
theorem dX3_init_33 : decode cX3_init 33 = .ok (.putfield 19, 3) := by decide +kernel
theorem dX3_init_36 : decode cX3_init 36 = .ok (.aload_n 0, 1) := by decide +kernel
theorem dX3_init_37 : decode cX3_init 37 = .ok (.bipush 96, 2) := by decide +kernel
theorem dX3_init_39 : decode cX3_init 39 = .ok (.newarray .int, 2) := by decide +kernel
theorem dX3_init_41 : decode cX3_init 41 = .ok (.putfield 22, 3) := by decide +kernel
theorem dX3_init_44 : decode cX3_init 44 = .ok (.aload_n 0, 1) := by decide +kernel
theorem dX3_init_45 : decode cX3_init 45 = .ok (.bipush 16, 2) := by decide +kernel
theorem dX3_init_47 : decode cX3_init 47 = .ok (.newarray .int, 2) := by decide +kernel
theorem dX3_init_49 : decode cX3_init 49 = .ok (.putfield 25, 3) := by decide +kernel
theorem dX3_init_52 : decode cX3_init 52 = .ok (.aload_n 0, 1) := by decide +kernel
theorem dX3_init_53 : decode cX3_init 53 = .ok (.bipush 7, 2) := by decide +kernel
theorem dX3_init_55 : decode cX3_init 55 = .ok (.newarray .int, 2) := by decide +kernel
theorem dX3_init_57 : decode cX3_init 57 = .ok (.putfield 28, 3) := by decide +kernel
theorem dX3_init_60 : decode cX3_init 60 = .ok (.aload_n 0, 1) := by decide +kernel
theorem dX3_init_61 : decode cX3_init 61 = .ok (.iconst 3, 1) := by decide +kernel
theorem dX3_init_62 : decode cX3_init 62 = .ok (.newarray .int, 2) := by decide +kernel
theorem dX3_init_64 : decode cX3_init 64 = .ok (.putfield 31, 3) := by decide +kernel
theorem dX3_init_67 : decode cX3_init 67 = .ok (.aload_n 0, 1) := by decide +kernel
theorem dX3_init_68 : decode cX3_init 68 = .ok (.getfield 9, 3) := by decide +kernel
theorem dX3_init_71 : decode cX3_init 71 = .ok (.iconst 2, 1) := by decide +kernel
theorem dX3_init_72 : decode cX3_init 72 = .ok (.bipush 20, 2) := by decide +kernel
theorem dX3_init_74 : decode cX3_init 74 = .ok (.iastore, 1) := by decide +kernel
theorem dX3_init_75 : decode cX3_init 75 = .ok (.aload_n 0, 1) := by decide +kernel
theorem dX3_init_76 : decode cX3_init 76 = .ok (.getfield 9, 3) := by decide +kernel
theorem dX3_init_79 : decode cX3_init 79 = .ok (.iconst 3, 1) := by decide +kernel
theorem dX3_init_80 : decode cX3_init 80 = .ok (.bipush 10, 2) := by decide +kernel
theorem dX3_init_82 : decode cX3_init 82 = .ok (.iastore, 1) := by decide +kernel
theorem dX3_init_83 : decode cX3_init 83 = .ok (.return_, 1) := by decide +kernel
theorem dX3_isIn_0 : decode cX3_isIn 0 = .ok (.iload_n 0, 1) := by decide +kernel
theorem dX3_isIn_1 : decode cX3_isIn 1 = .ok (.iload_n 1, 1) := by decide +kernel
theorem dX3_isIn_2 : decode cX3_isIn 2 = .ok (.if_icmp .lt 12, 3) := by decide +kernel
theorem dX3_isIn_5 : decode cX3_isIn 5 = .ok (.iload_n 0, 1) := by decide +kernel
theorem dX3_isIn_6 : decode cX3_isIn 6 = .ok (.iload_n 2, 1) := by decide +kernel
theorem dX3_isIn_7 : decode cX3_isIn 7 = .ok (.if_icmp .gt 7, 3) := by decide +kernel
theorem dX3_isIn_10 : decode cX3_isIn 10 = .ok (.iconst 1, 1) := by decide +kernel
theorem dX3_isIn_11 : decode cX3_isIn 11 = .ok (.goto 4, 3) := by decide +kernel
theorem dX3_isIn_14 : decode cX3_isIn 14 = .ok (.iconst 0, 1) := by decide +kernel
theorem dX3_isIn_15 : decode cX3_isIn 15 = .ok (.ireturn, 1) := by decide +kernel
theorem dX3_least_0 : decode cX3_least 0 = .ok (.iload_n 0, 1) := by decide +kernel
theorem dX3_least_1 : decode cX3_least 1 = .ok (.iload_n 1, 1) := by decide +kernel
theorem dX3_least_2 : decode cX3_least 2 = .ok (.if_icmp .ge 7, 3) := by decide +kernel
theorem dX3_least_5 : decode cX3_least 5 = .ok (.iload_n 0, 1) := by decide +kernel
theorem dX3_least_6 : decode cX3_least 6 = .ok (.goto 4, 3) := by decide +kernel
theorem dX3_least_9 : decode cX3_least 9 = .ok (.iload_n 1, 1) := by decide +kernel
theorem dX3_least_10 : decode cX3_least 10 = .ok (.ireturn, 1) := by decide +kernel
theorem dX3_copies_0 : decode cX3_copies 0 = .ok (.iconst 0, 1) := by decide +kernel
theorem dX3_copies_1 : decode cX3_copies 1 = .ok (.istore_n 2, 1) := by decide +kernel
theorem dX3_copies_2 : decode cX3_copies 2 = .ok (.iload_n 2, 1) := by decide +kernel
theorem dX3_copies_3 : decode cX3_copies 3 = .ok (.bipush 47, 2) := by decide +kernel
theorem dX3_copies_5 : decode cX3_copies 5 = .ok (.if_icmp .ge 15, 3) := by decide +kernel
theorem dX3_copies_8 : decode cX3_copies 8 = .ok (.aload_n 1, 1) := by decide +kernel
theorem dX3_copies_9 : decode cX3_copies 9 = .ok (.iload_n 2, 1) := by decide +kernel
theorem dX3_copies_10 : decode cX3_copies 10 = .ok (.aload_n 0, 1) := by decide +kernel
theorem dX3_copies_11 : decode cX3_copies 11 = .ok (.iload_n 2, 1) := by decide +kernel
theorem dX3_copies_12 : decode cX3_copies 12 = .ok (.iaload, 1) := by decide +kernel
theorem dX3_copies_13 : decode cX3_copies 13 = .ok (.iastore, 1) := by decide +kernel
theorem dX3_copies_14 : decode cX3_copies 14 = .ok (.iinc 2 1, 3) := by decide +kernel
theorem dX3_copies_17 : decode cX3_copies 17 = .ok (.goto (-15), 3) := by decide +kernel
theorem dX3_copies_20 : decode cX3_copies 20 = .ok (.return_, 1) := by decide +kernel
theorem dX3_no_0 : decode cX3_no 0 = .ok (.aload_n 0, 1) := by decide +kernel
theorem dX3_no_1 : decode cX3_no 1 = .ok (.getfield 28, 3) := by decide +kernel
theorem dX3_no_4 : decode cX3_no 4 = .ok (.iload_n 1, 1) := by decide +kernel
theorem dX3_no_5 : decode cX3_no 5 = .ok (.ineg, 1) := by decide +kernel
theorem dX3_no_6 : decode cX3_no 6 = .ok (.dup2, 1) := by decide +kernel
theorem dX3_no_7 : decode cX3_no 7 = .ok (.iaload, 1) := by decide +kernel
theorem dX3_no_8 : decode cX3_no 8 = .ok (.iconst 1, 1) := by decide +kernel
theorem dX3_no_9 : decode cX3_no 9 = .ok (.iadd, 1) := by decide +kernel
theorem dX3_no_10 : decode cX3_no 10 = .ok (.iastore, 1) := by decide +kernel
theorem dX3_no_11 : decode cX3_no 11 = .ok (.iload_n 1, 1) := by decide +kernel
theorem dX3_no_12 : decode cX3_no 12 = .ok (.ireturn, 1) := by decide +kernel
theorem dX3_noWide_0 : decode cX3_noWide 0 = .ok (.ldc2_w 34, 3) := by decide +kernel
theorem dX3_noWide_3 : decode cX3_noWide 3 = .ok (.aload_n 0, 1) := by decide +kernel
theorem dX3_noWide_4 : decode cX3_noWide 4 = .ok (.iload_n 1, 1) := by decide +kernel
theorem dX3_noWide_5 : decode cX3_noWide 5 = .ok (.invokevirtual 36, 3) := by decide +kernel
theorem dX3_noWide_8 : decode cX3_noWide 8 = .ok (.i2l, 1) := by decide +kernel
theorem dX3_noWide_9 : decode cX3_noWide 9 = .ok (.lsub, 1) := by decide +kernel
theorem dX3_noWide_10 : decode cX3_noWide 10 = .ok (.lreturn, 1) := by decide +kernel
theorem dX3_of_0 : decode cX3_of 0 = .ok (.iconst 5, 1) := by decide +kernel
theorem dX3_of_1 : decode cX3_of 1 = .ok (.bipush 7, 2) := by decide +kernel
theorem dX3_of_3 : decode cX3_of 3 = .ok (.iload_n 0, 1) := by decide +kernel
theorem dX3_of_4 : decode cX3_of 4 = .ok (.imul, 1) := by decide +kernel
theorem dX3_of_5 : decode cX3_of 5 = .ok (.iadd, 1) := by decide +kernel
theorem dX3_of_6 : decode cX3_of 6 = .ok (.iload_n 1, 1) := by decide +kernel
theorem dX3_of_7 : decode cX3_of 7 = .ok (.iadd, 1) := by decide +kernel
theorem dX3_of_8 : decode cX3_of 8 = .ok (.ireturn, 1) := by decide +kernel
theorem dX3_isPerson_0 : decode cX3_isPerson 0 = .ok (.iload_n 1, 1) := by decide +kernel
theorem dX3_isPerson_1 : decode cX3_isPerson 1 = .ok (.iconst 0, 1) := by decide +kernel
theorem dX3_isPerson_2 : decode cX3_isPerson 2 = .ok (.aload_n 0, 1) := by decide +kernel
theorem dX3_isPerson_3 : decode cX3_isPerson 3 = .ok (.getfield 9, 3) := by decide +kernel
theorem dX3_isPerson_6 : decode cX3_isPerson 6 = .ok (.iconst 0, 1) := by decide +kernel
theorem dX3_isPerson_7 : decode cX3_isPerson 7 = .ok (.iaload, 1) := by decide +kernel
theorem dX3_isPerson_8 : decode cX3_isPerson 8 = .ok (.iconst 1, 1) := by decide +kernel
theorem dX3_isPerson_9 : decode cX3_isPerson 9 = .ok (.isub, 1) := by decide +kernel
theorem dX3_isPerson_10 : decode cX3_isPerson 10 = .ok (.invokestatic 40, 3) := by decide +kernel
theorem dX3_isPerson_13 : decode cX3_isPerson 13 = .ok (.ireturn, 1) := by decide +kernel
theorem dX3_has_0 : decode cX3_has 0 = .ok (.iload_n 0, 1) := by decide +kernel
theorem dX3_has_1 : decode cX3_has 1 = .ok (.iload_n 1, 1) := by decide +kernel
theorem dX3_has_2 : decode cX3_has 2 = .ok (.ishr, 1) := by decide +kernel
theorem dX3_has_3 : decode cX3_has 3 = .ok (.iconst 1, 1) := by decide +kernel
theorem dX3_has_4 : decode cX3_has 4 = .ok (.iand, 1) := by decide +kernel
theorem dX3_has_5 : decode cX3_has 5 = .ok (.iconst 1, 1) := by decide +kernel
theorem dX3_has_6 : decode cX3_has 6 = .ok (.if_icmp .ne 7, 3) := by decide +kernel
theorem dX3_has_9 : decode cX3_has 9 = .ok (.iconst 1, 1) := by decide +kernel
theorem dX3_has_10 : decode cX3_has 10 = .ok (.goto 4, 3) := by decide +kernel
theorem dX3_has_13 : decode cX3_has 13 = .ok (.iconst 0, 1) := by decide +kernel
theorem dX3_has_14 : decode cX3_has 14 = .ok (.ireturn, 1) := by decide +kernel
theorem dX3_bits_0 : decode cX3_bits 0 = .ok (.iconst 0, 1) := by decide +kernel
theorem dX3_bits_1 : decode cX3_bits 1 = .ok (.istore_n 1, 1) := by decide +kernel
theorem dX3_bits_2 : decode cX3_bits 2 = .ok (.iconst 0, 1) := by decide +kernel
theorem dX3_bits_3 : decode cX3_bits 3 = .ok (.istore_n 2, 1) := by decide +kernel
theorem dX3_bits_4 : decode cX3_bits 4 = .ok (.iload_n 2, 1) := by decide +kernel
theorem dX3_bits_5 : decode cX3_bits 5 = .ok (.bipush 6, 2) := by decide +kernel
theorem dX3_bits_7 : decode cX3_bits 7 = .ok (.if_icmp .ge 17, 3) := by decide +kernel
theorem dX3_bits_10 : decode cX3_bits 10 = .ok (.iload_n 1, 1) := by decide +kernel
theorem dX3_bits_11 : decode cX3_bits 11 = .ok (.iload_n 0, 1) := by decide +kernel
theorem dX3_bits_12 : decode cX3_bits 12 = .ok (.iload_n 2, 1) := by decide +kernel
theorem dX3_bits_13 : decode cX3_bits 13 = .ok (.ishr, 1) := by decide +kernel
theorem dX3_bits_14 : decode cX3_bits 14 = .ok (.iconst 1, 1) := by decide +kernel
theorem dX3_bits_15 : decode cX3_bits 15 = .ok (.iand, 1) := by decide +kernel
theorem dX3_bits_16 : decode cX3_bits 16 = .ok (.iadd, 1) := by decide +kernel
theorem dX3_bits_17 : decode cX3_bits 17 = .ok (.istore_n 1, 1) := by decide +kernel
theorem dX3_bits_18 : decode cX3_bits 18 = .ok (.iinc 2 1, 3) := by decide +kernel
theorem dX3_bits_21 : decode cX3_bits 21 = .ok (.goto (-17), 3) := by decide +kernel
theorem dX3_bits_24 : decode cX3_bits 24 = .ok (.iload_n 1, 1) := by decide +kernel
theorem dX3_bits_25 : decode cX3_bits 25 = .ok (.ireturn, 1) := by decide +kernel
theorem dX3_speaksBy_0 : decode cX3_speaksBy 0 = .ok (.iload_n 1, 1) := by decide +kernel
theorem dX3_speaksBy_1 : decode cX3_speaksBy 1 = .ok (.iconst 2, 1) := by decide +kernel
theorem dX3_speaksBy_2 : decode cX3_speaksBy 2 = .ok (.idiv, 1) := by decide +kernel
theorem dX3_speaksBy_3 : decode cX3_speaksBy 3 = .ok (.iconst 1, 1) := by decide +kernel
theorem dX3_speaksBy_4 : decode cX3_speaksBy 4 = .ok (.iadd, 1) := by decide +kernel
theorem dX3_speaksBy_5 : decode cX3_speaksBy 5 = .ok (.istore_n 2, 1) := by decide +kernel
theorem dX3_speaksBy_6 : decode cX3_speaksBy 6 = .ok (.iload_n 0, 1) := by decide +kernel
theorem dX3_speaksBy_7 : decode cX3_speaksBy 7 = .ok (.tableswitch 63 1 5 #[33, 42, 44, 47, 42], 33) := by decide +kernel
theorem dX3_speaksBy_40 : decode cX3_speaksBy 40 = .ok (.bipush 12, 2) := by decide +kernel
theorem dX3_speaksBy_42 : decode cX3_speaksBy 42 = .ok (.iload_n 2, 1) := by decide +kernel
theorem dX3_speaksBy_43 : decode cX3_speaksBy 43 = .ok (.iconst 3, 1) := by decide +kernel
theorem dX3_speaksBy_44 : decode cX3_speaksBy 44 = .ok (.iadd, 1) := by decide +kernel
theorem dX3_speaksBy_45 : decode cX3_speaksBy 45 = .ok (.invokestatic 44, 3) := by decide +kernel
theorem dX3_speaksBy_48 : decode cX3_speaksBy 48 = .ok (.ireturn, 1) := by decide +kernel
theorem dX3_speaksBy_49 : decode cX3_speaksBy 49 = .ok (.iconst 0, 1) := by decide +kernel
theorem dX3_speaksBy_50 : decode cX3_speaksBy 50 = .ok (.ireturn, 1) := by decide +kernel
theorem dX3_speaksBy_51 : decode cX3_speaksBy 51 = .ok (.bipush 12, 2) := by decide +kernel
theorem dX3_speaksBy_53 : decode cX3_speaksBy 53 = .ok (.ireturn, 1) := by decide +kernel
theorem dX3_speaksBy_54 : decode cX3_speaksBy 54 = .ok (.bipush 12, 2) := by decide +kernel
theorem dX3_speaksBy_56 : decode cX3_speaksBy 56 = .ok (.iconst 2, 1) := by decide +kernel
theorem dX3_speaksBy_57 : decode cX3_speaksBy 57 = .ok (.bipush 12, 2) := by decide +kernel
theorem dX3_speaksBy_59 : decode cX3_speaksBy 59 = .ok (.iload_n 2, 1) := by decide +kernel
theorem dX3_speaksBy_60 : decode cX3_speaksBy 60 = .ok (.iconst 3, 1) := by decide +kernel
theorem dX3_speaksBy_61 : decode cX3_speaksBy 61 = .ok (.iadd, 1) := by decide +kernel
theorem dX3_speaksBy_62 : decode cX3_speaksBy 62 = .ok (.invokestatic 44, 3) := by decide +kernel
theorem dX3_speaksBy_65 : decode cX3_speaksBy 65 = .ok (.imul, 1) := by decide +kernel
theorem dX3_speaksBy_66 : decode cX3_speaksBy 66 = .ok (.invokestatic 44, 3) := by decide +kernel
theorem dX3_speaksBy_69 : decode cX3_speaksBy 69 = .ok (.ireturn, 1) := by decide +kernel
theorem dX3_speaksBy_70 : decode cX3_speaksBy 70 = .ok (.iload_n 2, 1) := by decide +kernel
theorem dX3_speaksBy_71 : decode cX3_speaksBy 71 = .ok (.ireturn, 1) := by decide +kernel
theorem dX3_drinksBy_0 : decode cX3_drinksBy 0 = .ok (.iload_n 0, 1) := by decide +kernel
theorem dX3_drinksBy_1 : decode cX3_drinksBy 1 = .ok (.tableswitch 41 1 5 #[35, 37, 35, 39, 37], 35) := by decide +kernel
theorem dX3_drinksBy_36 : decode cX3_drinksBy 36 = .ok (.iconst 2, 1) := by decide +kernel
theorem dX3_drinksBy_37 : decode cX3_drinksBy 37 = .ok (.ireturn, 1) := by decide +kernel
theorem dX3_drinksBy_38 : decode cX3_drinksBy 38 = .ok (.iconst 4, 1) := by decide +kernel
theorem dX3_drinksBy_39 : decode cX3_drinksBy 39 = .ok (.ireturn, 1) := by decide +kernel
theorem dX3_drinksBy_40 : decode cX3_drinksBy 40 = .ok (.iconst 1, 1) := by decide +kernel
theorem dX3_drinksBy_41 : decode cX3_drinksBy 41 = .ok (.ireturn, 1) := by decide +kernel
theorem dX3_drinksBy_42 : decode cX3_drinksBy 42 = .ok (.iconst 3, 1) := by decide +kernel
theorem dX3_drinksBy_43 : decode cX3_drinksBy 43 = .ok (.ireturn, 1) := by decide +kernel
theorem dX3_speaksIn_0 : decode cX3_speaksIn 0 = .ok (.aload_n 0, 1) := by decide +kernel
theorem dX3_speaksIn_1 : decode cX3_speaksIn 1 = .ok (.iconst 4, 1) := by decide +kernel
theorem dX3_speaksIn_2 : decode cX3_speaksIn 2 = .ok (.iaload, 1) := by decide +kernel
theorem dX3_speaksIn_3 : decode cX3_speaksIn 3 = .ok (.iload_n 1, 1) := by decide +kernel
theorem dX3_speaksIn_4 : decode cX3_speaksIn 4 = .ok (.invokestatic 48, 3) := by decide +kernel
theorem dX3_speaksIn_7 : decode cX3_speaksIn 7 = .ok (.ifCond .eq 8, 3) := by decide +kernel
theorem dX3_speaksIn_10 : decode cX3_speaksIn 10 = .ok (.bipush 12, 2) := by decide +kernel
theorem dX3_speaksIn_12 : decode cX3_speaksIn 12 = .ok (.goto 20, 3) := by decide +kernel
theorem dX3_speaksIn_15 : decode cX3_speaksIn 15 = .ok (.aload_n 0, 1) := by decide +kernel
theorem dX3_speaksIn_16 : decode cX3_speaksIn 16 = .ok (.iload_n 1, 1) := by decide +kernel
theorem dX3_speaksIn_17 : decode cX3_speaksIn 17 = .ok (.iconst 0, 1) := by decide +kernel
theorem dX3_speaksIn_18 : decode cX3_speaksIn 18 = .ok (.invokestatic 52, 3) := by decide +kernel
theorem dX3_speaksIn_21 : decode cX3_speaksIn 21 = .ok (.iaload, 1) := by decide +kernel
theorem dX3_speaksIn_22 : decode cX3_speaksIn 22 = .ok (.aload_n 0, 1) := by decide +kernel
theorem dX3_speaksIn_23 : decode cX3_speaksIn 23 = .ok (.iload_n 1, 1) := by decide +kernel
theorem dX3_speaksIn_24 : decode cX3_speaksIn 24 = .ok (.iconst 1, 1) := by decide +kernel
theorem dX3_speaksIn_25 : decode cX3_speaksIn 25 = .ok (.invokestatic 52, 3) := by decide +kernel
theorem dX3_speaksIn_28 : decode cX3_speaksIn 28 = .ok (.iaload, 1) := by decide +kernel
theorem dX3_speaksIn_29 : decode cX3_speaksIn 29 = .ok (.invokestatic 55, 3) := by decide +kernel
theorem dX3_speaksIn_32 : decode cX3_speaksIn 32 = .ok (.ireturn, 1) := by decide +kernel
theorem dX3_mayDraw_0 : decode cX3_mayDraw 0 = .ok (.aload_n 0, 1) := by decide +kernel
theorem dX3_mayDraw_1 : decode cX3_mayDraw 1 = .ok (.iload_n 1, 1) := by decide +kernel
theorem dX3_mayDraw_2 : decode cX3_mayDraw 2 = .ok (.iconst 5, 1) := by decide +kernel
theorem dX3_mayDraw_3 : decode cX3_mayDraw 3 = .ok (.invokestatic 52, 3) := by decide +kernel
theorem dX3_mayDraw_6 : decode cX3_mayDraw 6 = .ok (.iaload, 1) := by decide +kernel
theorem dX3_mayDraw_7 : decode cX3_mayDraw 7 = .ok (.ifCond .ne 50, 3) := by decide +kernel
theorem dX3_mayDraw_10 : decode cX3_mayDraw 10 = .ok (.aload_n 0, 1) := by decide +kernel
theorem dX3_mayDraw_11 : decode cX3_mayDraw 11 = .ok (.iload_n 1, 1) := by decide +kernel
theorem dX3_mayDraw_12 : decode cX3_mayDraw 12 = .ok (.iconst 3, 1) := by decide +kernel
theorem dX3_mayDraw_13 : decode cX3_mayDraw 13 = .ok (.invokestatic 52, 3) := by decide +kernel
theorem dX3_mayDraw_16 : decode cX3_mayDraw 16 = .ok (.iaload, 1) := by decide +kernel
theorem dX3_mayDraw_17 : decode cX3_mayDraw 17 = .ok (.bipush 20, 2) := by decide +kernel
theorem dX3_mayDraw_19 : decode cX3_mayDraw 19 = .ok (.if_icmp .ge 38, 3) := by decide +kernel
theorem dX3_mayDraw_22 : decode cX3_mayDraw 22 = .ok (.aload_n 0, 1) := by decide +kernel
theorem dX3_mayDraw_23 : decode cX3_mayDraw 23 = .ok (.iload_n 1, 1) := by decide +kernel
theorem dX3_mayDraw_24 : decode cX3_mayDraw 24 = .ok (.iconst 4, 1) := by decide +kernel
theorem dX3_mayDraw_25 : decode cX3_mayDraw 25 = .ok (.invokestatic 52, 3) := by decide +kernel
theorem dX3_mayDraw_28 : decode cX3_mayDraw 28 = .ok (.iaload, 1) := by decide +kernel
theorem dX3_mayDraw_29 : decode cX3_mayDraw 29 = .ok (.ifCond .eq 24, 3) := by decide +kernel
theorem dX3_mayDraw_32 : decode cX3_mayDraw 32 = .ok (.aload_n 0, 1) := by decide +kernel
theorem dX3_mayDraw_33 : decode cX3_mayDraw 33 = .ok (.iload_n 1, 1) := by decide +kernel
theorem dX3_mayDraw_34 : decode cX3_mayDraw 34 = .ok (.iconst 0, 1) := by decide +kernel
theorem dX3_mayDraw_35 : decode cX3_mayDraw 35 = .ok (.invokestatic 52, 3) := by decide +kernel
theorem dX3_mayDraw_38 : decode cX3_mayDraw 38 = .ok (.iaload, 1) := by decide +kernel
theorem dX3_mayDraw_39 : decode cX3_mayDraw 39 = .ok (.iconst 5, 1) := by decide +kernel
theorem dX3_mayDraw_40 : decode cX3_mayDraw 40 = .ok (.if_icmp .ne 17, 3) := by decide +kernel
theorem dX3_mayDraw_43 : decode cX3_mayDraw 43 = .ok (.aload_n 0, 1) := by decide +kernel
theorem dX3_mayDraw_44 : decode cX3_mayDraw 44 = .ok (.iconst 4, 1) := by decide +kernel
theorem dX3_mayDraw_45 : decode cX3_mayDraw 45 = .ok (.iaload, 1) := by decide +kernel
theorem dX3_mayDraw_46 : decode cX3_mayDraw 46 = .ok (.iload_n 1, 1) := by decide +kernel
theorem dX3_mayDraw_47 : decode cX3_mayDraw 47 = .ok (.invokestatic 48, 3) := by decide +kernel
theorem dX3_mayDraw_50 : decode cX3_mayDraw 50 = .ok (.ifCond .ne 7, 3) := by decide +kernel
theorem dX3_mayDraw_53 : decode cX3_mayDraw 53 = .ok (.iconst 1, 1) := by decide +kernel
theorem dX3_mayDraw_54 : decode cX3_mayDraw 54 = .ok (.goto 4, 3) := by decide +kernel
theorem dX3_mayDraw_57 : decode cX3_mayDraw 57 = .ok (.iconst 0, 1) := by decide +kernel
theorem dX3_mayDraw_58 : decode cX3_mayDraw 58 = .ok (.ireturn, 1) := by decide +kernel
theorem dX3_draws_0 : decode cX3_draws 0 = .ok (.aload_n 0, 1) := by decide +kernel
theorem dX3_draws_1 : decode cX3_draws 1 = .ok (.iload_n 1, 1) := by decide +kernel
theorem dX3_draws_2 : decode cX3_draws 2 = .ok (.invokestatic 58, 3) := by decide +kernel
theorem dX3_draws_5 : decode cX3_draws 5 = .ok (.ifCond .ne 4, 3) := by decide +kernel
theorem dX3_draws_8 : decode cX3_draws 8 = .ok (.return_, 1) := by decide +kernel
theorem dX3_draws_9 : decode cX3_draws 9 = .ok (.aload_n 0, 1) := by decide +kernel
theorem dX3_draws_10 : decode cX3_draws 10 = .ok (.iload_n 1, 1) := by decide +kernel
theorem dX3_draws_11 : decode cX3_draws 11 = .ok (.iconst 2, 1) := by decide +kernel
theorem dX3_draws_12 : decode cX3_draws 12 = .ok (.invokestatic 52, 3) := by decide +kernel
theorem dX3_draws_15 : decode cX3_draws 15 = .ok (.iaload, 1) := by decide +kernel
theorem dX3_draws_16 : decode cX3_draws 16 = .ok (.aload_n 0, 1) := by decide +kernel
theorem dX3_draws_17 : decode cX3_draws 17 = .ok (.iconst 2, 1) := by decide +kernel
theorem dX3_draws_18 : decode cX3_draws 18 = .ok (.iaload, 1) := by decide +kernel
theorem dX3_draws_19 : decode cX3_draws 19 = .ok (.invokestatic 44, 3) := by decide +kernel
theorem dX3_draws_22 : decode cX3_draws 22 = .ok (.istore_n 2, 1) := by decide +kernel
theorem dX3_draws_23 : decode cX3_draws 23 = .ok (.aload_n 0, 1) := by decide +kernel
theorem dX3_draws_24 : decode cX3_draws 24 = .ok (.iconst 2, 1) := by decide +kernel
theorem dX3_draws_25 : decode cX3_draws 25 = .ok (.dup2, 1) := by decide +kernel
theorem dX3_draws_26 : decode cX3_draws 26 = .ok (.iaload, 1) := by decide +kernel
theorem dX3_draws_27 : decode cX3_draws 27 = .ok (.iload_n 2, 1) := by decide +kernel
theorem dX3_draws_28 : decode cX3_draws 28 = .ok (.isub, 1) := by decide +kernel
theorem dX3_draws_29 : decode cX3_draws 29 = .ok (.iastore, 1) := by decide +kernel
theorem dX3_draws_30 : decode cX3_draws 30 = .ok (.aload_n 0, 1) := by decide +kernel
theorem dX3_draws_31 : decode cX3_draws 31 = .ok (.iload_n 1, 1) := by decide +kernel
theorem dX3_draws_32 : decode cX3_draws 32 = .ok (.iconst 3, 1) := by decide +kernel
theorem dX3_draws_33 : decode cX3_draws 33 = .ok (.invokestatic 52, 3) := by decide +kernel
theorem dX3_draws_36 : decode cX3_draws 36 = .ok (.dup2, 1) := by decide +kernel
theorem dX3_draws_37 : decode cX3_draws 37 = .ok (.iaload, 1) := by decide +kernel
theorem dX3_draws_38 : decode cX3_draws 38 = .ok (.iload_n 2, 1) := by decide +kernel
theorem dX3_draws_39 : decode cX3_draws 39 = .ok (.iadd, 1) := by decide +kernel
theorem dX3_draws_40 : decode cX3_draws 40 = .ok (.iastore, 1) := by decide +kernel
theorem dX3_draws_41 : decode cX3_draws 41 = .ok (.iload_n 2, 1) := by decide +kernel
theorem dX3_draws_42 : decode cX3_draws 42 = .ok (.ifCond .le 11, 3) := by decide +kernel
theorem dX3_draws_45 : decode cX3_draws 45 = .ok (.aload_n 0, 1) := by decide +kernel
theorem dX3_draws_46 : decode cX3_draws 46 = .ok (.iload_n 1, 1) := by decide +kernel
theorem dX3_draws_47 : decode cX3_draws 47 = .ok (.iconst 5, 1) := by decide +kernel
theorem dX3_draws_48 : decode cX3_draws 48 = .ok (.invokestatic 52, 3) := by decide +kernel
theorem dX3_draws_51 : decode cX3_draws 51 = .ok (.iconst 1, 1) := by decide +kernel
theorem dX3_draws_52 : decode cX3_draws 52 = .ok (.iastore, 1) := by decide +kernel
theorem dX3_draws_53 : decode cX3_draws 53 = .ok (.aload_n 0, 1) := by decide +kernel
theorem dX3_draws_54 : decode cX3_draws 54 = .ok (.iload_n 1, 1) := by decide +kernel
theorem dX3_draws_55 : decode cX3_draws 55 = .ok (.bipush 6, 2) := by decide +kernel
theorem dX3_draws_57 : decode cX3_draws 57 = .ok (.invokestatic 52, 3) := by decide +kernel
theorem dX3_draws_60 : decode cX3_draws 60 = .ok (.iaload, 1) := by decide +kernel
theorem dX3_draws_61 : decode cX3_draws 61 = .ok (.istore_n 3, 1) := by decide +kernel
theorem dX3_draws_62 : decode cX3_draws 62 = .ok (.iload_n 3, 1) := by decide +kernel
theorem dX3_draws_63 : decode cX3_draws 63 = .ok (.iload_n 1, 1) := by decide +kernel
theorem dX3_draws_64 : decode cX3_draws 64 = .ok (.if_icmp .eq 37, 3) := by decide +kernel
theorem dX3_draws_67 : decode cX3_draws 67 = .ok (.iload_n 3, 1) := by decide +kernel
theorem dX3_draws_68 : decode cX3_draws 68 = .ok (.aload_n 0, 1) := by decide +kernel
theorem dX3_draws_69 : decode cX3_draws 69 = .ok (.iconst 0, 1) := by decide +kernel
theorem dX3_draws_70 : decode cX3_draws 70 = .ok (.iaload, 1) := by decide +kernel
theorem dX3_draws_71 : decode cX3_draws 71 = .ok (.if_icmp .ge 30, 3) := by decide +kernel
theorem dX3_draws_74 : decode cX3_draws 74 = .ok (.aload_n 0, 1) := by decide +kernel
theorem dX3_draws_75 : decode cX3_draws 75 = .ok (.iload_n 3, 1) := by decide +kernel
theorem dX3_draws_76 : decode cX3_draws 76 = .ok (.iconst 4, 1) := by decide +kernel
theorem dX3_draws_77 : decode cX3_draws 77 = .ok (.invokestatic 52, 3) := by decide +kernel
theorem dX3_draws_80 : decode cX3_draws 80 = .ok (.iaload, 1) := by decide +kernel
theorem dX3_draws_81 : decode cX3_draws 81 = .ok (.ifCond .eq 20, 3) := by decide +kernel
theorem dX3_draws_84 : decode cX3_draws 84 = .ok (.aload_n 0, 1) := by decide +kernel
theorem dX3_draws_85 : decode cX3_draws 85 = .ok (.iload_n 3, 1) := by decide +kernel
theorem dX3_draws_86 : decode cX3_draws 86 = .ok (.iconst 3, 1) := by decide +kernel
theorem dX3_draws_87 : decode cX3_draws 87 = .ok (.invokestatic 52, 3) := by decide +kernel
theorem dX3_draws_90 : decode cX3_draws 90 = .ok (.iaload, 1) := by decide +kernel
theorem dX3_draws_91 : decode cX3_draws 91 = .ok (.aload_n 0, 1) := by decide +kernel
theorem dX3_draws_92 : decode cX3_draws 92 = .ok (.iload_n 1, 1) := by decide +kernel
theorem dX3_draws_93 : decode cX3_draws 93 = .ok (.iconst 3, 1) := by decide +kernel
theorem dX3_draws_94 : decode cX3_draws 94 = .ok (.invokestatic 52, 3) := by decide +kernel
theorem dX3_draws_97 : decode cX3_draws 97 = .ok (.iaload, 1) := by decide +kernel
theorem dX3_draws_98 : decode cX3_draws 98 = .ok (.if_icmp .lt 4, 3) := by decide +kernel
theorem dX3_draws_101 : decode cX3_draws 101 = .ok (.return_, 1) := by decide +kernel
theorem dX3_draws_102 : decode cX3_draws 102 = .ok (.aload_n 0, 1) := by decide +kernel
theorem dX3_draws_103 : decode cX3_draws 103 = .ok (.iload_n 1, 1) := by decide +kernel
theorem dX3_draws_104 : decode cX3_draws 104 = .ok (.iconst 3, 1) := by decide +kernel
theorem dX3_draws_105 : decode cX3_draws 105 = .ok (.invokestatic 52, 3) := by decide +kernel
theorem dX3_draws_108 : decode cX3_draws 108 = .ok (.dup2, 1) := by decide +kernel
theorem dX3_draws_109 : decode cX3_draws 109 = .ok (.iaload, 1) := by decide +kernel
theorem dX3_draws_110 : decode cX3_draws 110 = .ok (.iload_n 2, 1) := by decide +kernel
theorem dX3_draws_111 : decode cX3_draws 111 = .ok (.iconst 2, 1) := by decide +kernel
theorem dX3_draws_112 : decode cX3_draws 112 = .ok (.idiv, 1) := by decide +kernel
theorem dX3_draws_113 : decode cX3_draws 113 = .ok (.isub, 1) := by decide +kernel
theorem dX3_draws_114 : decode cX3_draws 114 = .ok (.iastore, 1) := by decide +kernel
theorem dX3_draws_115 : decode cX3_draws 115 = .ok (.aload_n 0, 1) := by decide +kernel
theorem dX3_draws_116 : decode cX3_draws 116 = .ok (.iload_n 3, 1) := by decide +kernel
theorem dX3_draws_117 : decode cX3_draws 117 = .ok (.iconst 3, 1) := by decide +kernel
theorem dX3_draws_118 : decode cX3_draws 118 = .ok (.invokestatic 52, 3) := by decide +kernel
theorem dX3_draws_121 : decode cX3_draws 121 = .ok (.bipush 99, 2) := by decide +kernel
theorem dX3_draws_123 : decode cX3_draws 123 = .ok (.aload_n 0, 1) := by decide +kernel
theorem dX3_draws_124 : decode cX3_draws 124 = .ok (.iload_n 3, 1) := by decide +kernel
theorem dX3_draws_125 : decode cX3_draws 125 = .ok (.iconst 3, 1) := by decide +kernel
theorem dX3_draws_126 : decode cX3_draws 126 = .ok (.invokestatic 52, 3) := by decide +kernel
theorem dX3_draws_129 : decode cX3_draws 129 = .ok (.iaload, 1) := by decide +kernel
theorem dX3_draws_130 : decode cX3_draws 130 = .ok (.iload_n 2, 1) := by decide +kernel
theorem dX3_draws_131 : decode cX3_draws 131 = .ok (.iconst 2, 1) := by decide +kernel
theorem dX3_draws_132 : decode cX3_draws 132 = .ok (.idiv, 1) := by decide +kernel
theorem dX3_draws_133 : decode cX3_draws 133 = .ok (.iadd, 1) := by decide +kernel
theorem dX3_draws_134 : decode cX3_draws 134 = .ok (.invokestatic 44, 3) := by decide +kernel
theorem dX3_draws_137 : decode cX3_draws 137 = .ok (.iastore, 1) := by decide +kernel
theorem dX3_draws_138 : decode cX3_draws 138 = .ok (.return_, 1) := by decide +kernel
theorem dX3_hour_0 : decode cX3_hour 0 = .ok (.aload_n 0, 1) := by decide +kernel
theorem dX3_hour_1 : decode cX3_hour 1 = .ok (.iconst 1, 1) := by decide +kernel
theorem dX3_hour_2 : decode cX3_hour 2 = .ok (.iaload, 1) := by decide +kernel
theorem dX3_hour_3 : decode cX3_hour 3 = .ok (.bipush 12, 2) := by decide +kernel
theorem dX3_hour_5 : decode cX3_hour 5 = .ok (.irem, 1) := by decide +kernel
theorem dX3_hour_6 : decode cX3_hour 6 = .ok (.istore_n 2, 1) := by decide +kernel
theorem dX3_hour_7 : decode cX3_hour 7 = .ok (.iload_n 2, 1) := by decide +kernel
theorem dX3_hour_8 : decode cX3_hour 8 = .ok (.ifCond .ne 49, 3) := by decide +kernel
theorem dX3_hour_11 : decode cX3_hour 11 = .ok (.iconst 0, 1) := by decide +kernel
theorem dX3_hour_12 : decode cX3_hour 12 = .ok (.istore_n 3, 1) := by decide +kernel
theorem dX3_hour_13 : decode cX3_hour 13 = .ok (.iload_n 3, 1) := by decide +kernel
theorem dX3_hour_14 : decode cX3_hour 14 = .ok (.aload_n 0, 1) := by decide +kernel
theorem dX3_hour_15 : decode cX3_hour 15 = .ok (.iconst 0, 1) := by decide +kernel
theorem dX3_hour_16 : decode cX3_hour 16 = .ok (.iaload, 1) := by decide +kernel
theorem dX3_hour_17 : decode cX3_hour 17 = .ok (.if_icmp .ge 25, 3) := by decide +kernel
theorem dX3_hour_20 : decode cX3_hour 20 = .ok (.aload_n 0, 1) := by decide +kernel
theorem dX3_hour_21 : decode cX3_hour 21 = .ok (.iload_n 3, 1) := by decide +kernel
theorem dX3_hour_22 : decode cX3_hour 22 = .ok (.iconst 4, 1) := by decide +kernel
theorem dX3_hour_23 : decode cX3_hour 23 = .ok (.invokestatic 52, 3) := by decide +kernel
theorem dX3_hour_26 : decode cX3_hour 26 = .ok (.iconst 0, 1) := by decide +kernel
theorem dX3_hour_27 : decode cX3_hour 27 = .ok (.iastore, 1) := by decide +kernel
theorem dX3_hour_28 : decode cX3_hour 28 = .ok (.aload_n 0, 1) := by decide +kernel
theorem dX3_hour_29 : decode cX3_hour 29 = .ok (.iload_n 3, 1) := by decide +kernel
theorem dX3_hour_30 : decode cX3_hour 30 = .ok (.iconst 5, 1) := by decide +kernel
theorem dX3_hour_31 : decode cX3_hour 31 = .ok (.invokestatic 52, 3) := by decide +kernel
theorem dX3_hour_34 : decode cX3_hour 34 = .ok (.iconst 0, 1) := by decide +kernel
theorem dX3_hour_35 : decode cX3_hour 35 = .ok (.iastore, 1) := by decide +kernel
theorem dX3_hour_36 : decode cX3_hour 36 = .ok (.iinc 3 1, 3) := by decide +kernel
theorem dX3_hour_39 : decode cX3_hour 39 = .ok (.goto (-26), 3) := by decide +kernel
theorem dX3_hour_42 : decode cX3_hour 42 = .ok (.aload_n 0, 1) := by decide +kernel
theorem dX3_hour_43 : decode cX3_hour 43 = .ok (.iconst 2, 1) := by decide +kernel
theorem dX3_hour_44 : decode cX3_hour 44 = .ok (.bipush 99, 2) := by decide +kernel
theorem dX3_hour_46 : decode cX3_hour 46 = .ok (.aload_n 0, 1) := by decide +kernel
theorem dX3_hour_47 : decode cX3_hour 47 = .ok (.iconst 2, 1) := by decide +kernel
theorem dX3_hour_48 : decode cX3_hour 48 = .ok (.iaload, 1) := by decide +kernel
theorem dX3_hour_49 : decode cX3_hour 49 = .ok (.aload_n 0, 1) := by decide +kernel
theorem dX3_hour_50 : decode cX3_hour 50 = .ok (.iconst 3, 1) := by decide +kernel
theorem dX3_hour_51 : decode cX3_hour 51 = .ok (.iaload, 1) := by decide +kernel
theorem dX3_hour_52 : decode cX3_hour 52 = .ok (.iadd, 1) := by decide +kernel
theorem dX3_hour_53 : decode cX3_hour 53 = .ok (.invokestatic 44, 3) := by decide +kernel
theorem dX3_hour_56 : decode cX3_hour 56 = .ok (.iastore, 1) := by decide +kernel
theorem dX3_hour_57 : decode cX3_hour 57 = .ok (.iconst 0, 1) := by decide +kernel
theorem dX3_hour_58 : decode cX3_hour 58 = .ok (.istore_n 3, 1) := by decide +kernel
theorem dX3_hour_59 : decode cX3_hour 59 = .ok (.iload_n 3, 1) := by decide +kernel
theorem dX3_hour_60 : decode cX3_hour 60 = .ok (.aload_n 0, 1) := by decide +kernel
theorem dX3_hour_61 : decode cX3_hour 61 = .ok (.iconst 0, 1) := by decide +kernel
theorem dX3_hour_62 : decode cX3_hour 62 = .ok (.iaload, 1) := by decide +kernel
theorem dX3_hour_63 : decode cX3_hour 63 = .ok (.if_icmp .ge 34, 3) := by decide +kernel
theorem dX3_hour_66 : decode cX3_hour 66 = .ok (.aload_n 0, 1) := by decide +kernel
theorem dX3_hour_67 : decode cX3_hour 67 = .ok (.iload_n 3, 1) := by decide +kernel
theorem dX3_hour_68 : decode cX3_hour 68 = .ok (.invokestatic 62, 3) := by decide +kernel
theorem dX3_hour_71 : decode cX3_hour 71 = .ok (.iload_n 2, 1) := by decide +kernel
theorem dX3_hour_72 : decode cX3_hour 72 = .ok (.if_icmp .eq 11, 3) := by decide +kernel
theorem dX3_hour_75 : decode cX3_hour 75 = .ok (.iload_n 1, 1) := by decide +kernel
theorem dX3_hour_76 : decode cX3_hour 76 = .ok (.iload_n 3, 1) := by decide +kernel
theorem dX3_hour_77 : decode cX3_hour 77 = .ok (.invokestatic 48, 3) := by decide +kernel
theorem dX3_hour_80 : decode cX3_hour 80 = .ok (.ifCond .eq 11, 3) := by decide +kernel
theorem dX3_hour_83 : decode cX3_hour 83 = .ok (.aload_n 0, 1) := by decide +kernel
theorem dX3_hour_84 : decode cX3_hour 84 = .ok (.iload_n 3, 1) := by decide +kernel
theorem dX3_hour_85 : decode cX3_hour 85 = .ok (.iconst 4, 1) := by decide +kernel
theorem dX3_hour_86 : decode cX3_hour 86 = .ok (.invokestatic 52, 3) := by decide +kernel
theorem dX3_hour_89 : decode cX3_hour 89 = .ok (.iconst 1, 1) := by decide +kernel
theorem dX3_hour_90 : decode cX3_hour 90 = .ok (.iastore, 1) := by decide +kernel
theorem dX3_hour_91 : decode cX3_hour 91 = .ok (.iinc 3 1, 3) := by decide +kernel
theorem dX3_hour_94 : decode cX3_hour 94 = .ok (.goto (-35), 3) := by decide +kernel
theorem dX3_hour_97 : decode cX3_hour 97 = .ok (.iconst 0, 1) := by decide +kernel
theorem dX3_hour_98 : decode cX3_hour 98 = .ok (.istore_n 3, 1) := by decide +kernel
theorem dX3_hour_99 : decode cX3_hour 99 = .ok (.iload_n 3, 1) := by decide +kernel
theorem dX3_hour_100 : decode cX3_hour 100 = .ok (.aload_n 0, 1) := by decide +kernel
theorem dX3_hour_101 : decode cX3_hour 101 = .ok (.iconst 0, 1) := by decide +kernel
theorem dX3_hour_102 : decode cX3_hour 102 = .ok (.iaload, 1) := by decide +kernel
theorem dX3_hour_103 : decode cX3_hour 103 = .ok (.if_icmp .ge 14, 3) := by decide +kernel
theorem dX3_hour_106 : decode cX3_hour 106 = .ok (.aload_n 0, 1) := by decide +kernel
theorem dX3_hour_107 : decode cX3_hour 107 = .ok (.iload_n 3, 1) := by decide +kernel
theorem dX3_hour_108 : decode cX3_hour 108 = .ok (.invokestatic 66, 3) := by decide +kernel
theorem dX3_hour_111 : decode cX3_hour 111 = .ok (.iinc 3 1, 3) := by decide +kernel
theorem dX3_hour_114 : decode cX3_hour 114 = .ok (.goto (-15), 3) := by decide +kernel
theorem dX3_hour_117 : decode cX3_hour 117 = .ok (.iconst 0, 1) := by decide +kernel
theorem dX3_hour_118 : decode cX3_hour 118 = .ok (.istore_n 3, 1) := by decide +kernel
theorem dX3_hour_119 : decode cX3_hour 119 = .ok (.iload_n 3, 1) := by decide +kernel
theorem dX3_hour_120 : decode cX3_hour 120 = .ok (.aload_n 0, 1) := by decide +kernel
theorem dX3_hour_121 : decode cX3_hour 121 = .ok (.iconst 0, 1) := by decide +kernel
theorem dX3_hour_122 : decode cX3_hour 122 = .ok (.iaload, 1) := by decide +kernel
theorem dX3_hour_123 : decode cX3_hour 123 = .ok (.if_icmp .ge 53, 3) := by decide +kernel
theorem dX3_hour_126 : decode cX3_hour 126 = .ok (.iload_n 2, 1) := by decide +kernel
theorem dX3_hour_127 : decode cX3_hour 127 = .ok (.bipush 11, 2) := by decide +kernel
theorem dX3_hour_129 : decode cX3_hour 129 = .ok (.if_icmp .ne 47, 3) := by decide +kernel
theorem dX3_hour_132 : decode cX3_hour 132 = .ok (.aload_n 0, 1) := by decide +kernel
theorem dX3_hour_133 : decode cX3_hour 133 = .ok (.iload_n 3, 1) := by decide +kernel
theorem dX3_hour_134 : decode cX3_hour 134 = .ok (.iconst 3, 1) := by decide +kernel
theorem dX3_hour_135 : decode cX3_hour 135 = .ok (.invokestatic 52, 3) := by decide +kernel
theorem dX3_hour_138 : decode cX3_hour 138 = .ok (.iaload, 1) := by decide +kernel
theorem dX3_hour_139 : decode cX3_hour 139 = .ok (.aload_n 0, 1) := by decide +kernel
theorem dX3_hour_140 : decode cX3_hour 140 = .ok (.iload_n 3, 1) := by decide +kernel
theorem dX3_hour_141 : decode cX3_hour 141 = .ok (.iconst 0, 1) := by decide +kernel
theorem dX3_hour_142 : decode cX3_hour 142 = .ok (.invokestatic 52, 3) := by decide +kernel
theorem dX3_hour_145 : decode cX3_hour 145 = .ok (.iaload, 1) := by decide +kernel
theorem dX3_hour_146 : decode cX3_hour 146 = .ok (.invokestatic 70, 3) := by decide +kernel
theorem dX3_hour_149 : decode cX3_hour 149 = .ok (.isub, 1) := by decide +kernel
theorem dX3_hour_150 : decode cX3_hour 150 = .ok (.istore 4, 2) := by decide +kernel
theorem dX3_hour_152 : decode cX3_hour 152 = .ok (.aload_n 0, 1) := by decide +kernel
theorem dX3_hour_153 : decode cX3_hour 153 = .ok (.iload_n 3, 1) := by decide +kernel
theorem dX3_hour_154 : decode cX3_hour 154 = .ok (.iconst 3, 1) := by decide +kernel
theorem dX3_hour_155 : decode cX3_hour 155 = .ok (.invokestatic 52, 3) := by decide +kernel
theorem dX3_hour_158 : decode cX3_hour 158 = .ok (.iload 4, 2) := by decide +kernel
theorem dX3_hour_160 : decode cX3_hour 160 = .ok (.ifCond .ge 7, 3) := by decide +kernel
theorem dX3_hour_163 : decode cX3_hour 163 = .ok (.iconst 0, 1) := by decide +kernel
theorem dX3_hour_164 : decode cX3_hour 164 = .ok (.goto 5, 3) := by decide +kernel
theorem dX3_hour_167 : decode cX3_hour 167 = .ok (.iload 4, 2) := by decide +kernel
theorem dX3_hour_169 : decode cX3_hour 169 = .ok (.iastore, 1) := by decide +kernel
theorem dX3_hour_170 : decode cX3_hour 170 = .ok (.iinc 3 1, 3) := by decide +kernel
theorem dX3_hour_173 : decode cX3_hour 173 = .ok (.goto (-54), 3) := by decide +kernel
theorem dX3_hour_176 : decode cX3_hour 176 = .ok (.aload_n 0, 1) := by decide +kernel
theorem dX3_hour_177 : decode cX3_hour 177 = .ok (.iconst 1, 1) := by decide +kernel
theorem dX3_hour_178 : decode cX3_hour 178 = .ok (.dup2, 1) := by decide +kernel
theorem dX3_hour_179 : decode cX3_hour 179 = .ok (.iaload, 1) := by decide +kernel
theorem dX3_hour_180 : decode cX3_hour 180 = .ok (.iconst 1, 1) := by decide +kernel
theorem dX3_hour_181 : decode cX3_hour 181 = .ok (.iadd, 1) := by decide +kernel
theorem dX3_hour_182 : decode cX3_hour 182 = .ok (.iastore, 1) := by decide +kernel
theorem dX3_hour_183 : decode cX3_hour 183 = .ok (.return_, 1) := by decide +kernel
theorem dX3_hoursOn_0 : decode cX3_hoursOn 0 = .ok (.iconst 0, 1) := by decide +kernel
theorem dX3_hoursOn_1 : decode cX3_hoursOn 1 = .ok (.istore_n 2, 1) := by decide +kernel
theorem dX3_hoursOn_2 : decode cX3_hoursOn 2 = .ok (.iload_n 2, 1) := by decide +kernel
theorem dX3_hoursOn_3 : decode cX3_hoursOn 3 = .ok (.iload_n 1, 1) := by decide +kernel
theorem dX3_hoursOn_4 : decode cX3_hoursOn 4 = .ok (.if_icmp .ge 14, 3) := by decide +kernel
theorem dX3_hoursOn_7 : decode cX3_hoursOn 7 = .ok (.aload_n 0, 1) := by decide +kernel
theorem dX3_hoursOn_8 : decode cX3_hoursOn 8 = .ok (.iconst 0, 1) := by decide +kernel
theorem dX3_hoursOn_9 : decode cX3_hoursOn 9 = .ok (.invokestatic 73, 3) := by decide +kernel
theorem dX3_hoursOn_12 : decode cX3_hoursOn 12 = .ok (.iinc 2 1, 3) := by decide +kernel
theorem dX3_hoursOn_15 : decode cX3_hoursOn 15 = .ok (.goto (-13), 3) := by decide +kernel
theorem dX3_hoursOn_18 : decode cX3_hoursOn 18 = .ok (.return_, 1) := by decide +kernel
theorem dX3_allHave_0 : decode cX3_allHave 0 = .ok (.iconst 0, 1) := by decide +kernel
theorem dX3_allHave_1 : decode cX3_allHave 1 = .ok (.istore_n 1, 1) := by decide +kernel
theorem dX3_allHave_2 : decode cX3_allHave 2 = .ok (.iconst 0, 1) := by decide +kernel
theorem dX3_allHave_3 : decode cX3_allHave 3 = .ok (.istore_n 2, 1) := by decide +kernel
theorem dX3_allHave_4 : decode cX3_allHave 4 = .ok (.iload_n 2, 1) := by decide +kernel
theorem dX3_allHave_5 : decode cX3_allHave 5 = .ok (.aload_n 0, 1) := by decide +kernel
theorem dX3_allHave_6 : decode cX3_allHave 6 = .ok (.iconst 0, 1) := by decide +kernel
theorem dX3_allHave_7 : decode cX3_allHave 7 = .ok (.iaload, 1) := by decide +kernel
theorem dX3_allHave_8 : decode cX3_allHave 8 = .ok (.if_icmp .ge 19, 3) := by decide +kernel
theorem dX3_allHave_11 : decode cX3_allHave 11 = .ok (.iload_n 1, 1) := by decide +kernel
theorem dX3_allHave_12 : decode cX3_allHave 12 = .ok (.aload_n 0, 1) := by decide +kernel
theorem dX3_allHave_13 : decode cX3_allHave 13 = .ok (.iload_n 2, 1) := by decide +kernel
theorem dX3_allHave_14 : decode cX3_allHave 14 = .ok (.iconst 3, 1) := by decide +kernel
theorem dX3_allHave_15 : decode cX3_allHave 15 = .ok (.invokestatic 52, 3) := by decide +kernel
theorem dX3_allHave_18 : decode cX3_allHave 18 = .ok (.iaload, 1) := by decide +kernel
theorem dX3_allHave_19 : decode cX3_allHave 19 = .ok (.iadd, 1) := by decide +kernel
theorem dX3_allHave_20 : decode cX3_allHave 20 = .ok (.istore_n 1, 1) := by decide +kernel
theorem dX3_allHave_21 : decode cX3_allHave 21 = .ok (.iinc 2 1, 3) := by decide +kernel
theorem dX3_allHave_24 : decode cX3_allHave 24 = .ok (.goto (-20), 3) := by decide +kernel
theorem dX3_allHave_27 : decode cX3_allHave 27 = .ok (.iload_n 1, 1) := by decide +kernel
theorem dX3_allHave_28 : decode cX3_allHave 28 = .ok (.ireturn, 1) := by decide +kernel
theorem dX3_flagged_0 : decode cX3_flagged 0 = .ok (.iconst 0, 1) := by decide +kernel
theorem dX3_flagged_1 : decode cX3_flagged 1 = .ok (.istore_n 2, 1) := by decide +kernel
theorem dX3_flagged_2 : decode cX3_flagged 2 = .ok (.iconst 0, 1) := by decide +kernel
theorem dX3_flagged_3 : decode cX3_flagged 3 = .ok (.istore_n 3, 1) := by decide +kernel
theorem dX3_flagged_4 : decode cX3_flagged 4 = .ok (.iload_n 3, 1) := by decide +kernel
theorem dX3_flagged_5 : decode cX3_flagged 5 = .ok (.aload_n 0, 1) := by decide +kernel
theorem dX3_flagged_6 : decode cX3_flagged 6 = .ok (.iconst 0, 1) := by decide +kernel
theorem dX3_flagged_7 : decode cX3_flagged 7 = .ok (.iaload, 1) := by decide +kernel
theorem dX3_flagged_8 : decode cX3_flagged 8 = .ok (.if_icmp .ge 21, 3) := by decide +kernel
theorem dX3_flagged_11 : decode cX3_flagged 11 = .ok (.iload_n 2, 1) := by decide +kernel
theorem dX3_flagged_12 : decode cX3_flagged 12 = .ok (.aload_n 0, 1) := by decide +kernel
theorem dX3_flagged_13 : decode cX3_flagged 13 = .ok (.iload_n 3, 1) := by decide +kernel
theorem dX3_flagged_14 : decode cX3_flagged 14 = .ok (.iload_n 1, 1) := by decide +kernel
theorem dX3_flagged_15 : decode cX3_flagged 15 = .ok (.invokestatic 52, 3) := by decide +kernel
theorem dX3_flagged_18 : decode cX3_flagged 18 = .ok (.iaload, 1) := by decide +kernel
theorem dX3_flagged_19 : decode cX3_flagged 19 = .ok (.iload_n 3, 1) := by decide +kernel
theorem dX3_flagged_20 : decode cX3_flagged 20 = .ok (.ishl, 1) := by decide +kernel
theorem dX3_flagged_21 : decode cX3_flagged 21 = .ok (.ior, 1) := by decide +kernel
theorem dX3_flagged_22 : decode cX3_flagged 22 = .ok (.istore_n 2, 1) := by decide +kernel
theorem dX3_flagged_23 : decode cX3_flagged 23 = .ok (.iinc 3 1, 3) := by decide +kernel
theorem dX3_flagged_26 : decode cX3_flagged 26 = .ok (.goto (-22), 3) := by decide +kernel
theorem dX3_flagged_29 : decode cX3_flagged 29 = .ok (.iload_n 2, 1) := by decide +kernel
theorem dX3_flagged_30 : decode cX3_flagged 30 = .ok (.ireturn, 1) := by decide +kernel
theorem dX3_dryOnes_0 : decode cX3_dryOnes 0 = .ok (.iconst 0, 1) := by decide +kernel
theorem dX3_dryOnes_1 : decode cX3_dryOnes 1 = .ok (.istore_n 1, 1) := by decide +kernel
theorem dX3_dryOnes_2 : decode cX3_dryOnes 2 = .ok (.iconst 0, 1) := by decide +kernel
theorem dX3_dryOnes_3 : decode cX3_dryOnes 3 = .ok (.istore_n 2, 1) := by decide +kernel
theorem dX3_dryOnes_4 : decode cX3_dryOnes 4 = .ok (.iload_n 2, 1) := by decide +kernel
theorem dX3_dryOnes_5 : decode cX3_dryOnes 5 = .ok (.aload_n 0, 1) := by decide +kernel
theorem dX3_dryOnes_6 : decode cX3_dryOnes 6 = .ok (.iconst 0, 1) := by decide +kernel
theorem dX3_dryOnes_7 : decode cX3_dryOnes 7 = .ok (.iaload, 1) := by decide +kernel
theorem dX3_dryOnes_8 : decode cX3_dryOnes 8 = .ok (.if_icmp .ge 29, 3) := by decide +kernel
theorem dX3_dryOnes_11 : decode cX3_dryOnes 11 = .ok (.iload_n 1, 1) := by decide +kernel
theorem dX3_dryOnes_12 : decode cX3_dryOnes 12 = .ok (.aload_n 0, 1) := by decide +kernel
theorem dX3_dryOnes_13 : decode cX3_dryOnes 13 = .ok (.iload_n 2, 1) := by decide +kernel
theorem dX3_dryOnes_14 : decode cX3_dryOnes 14 = .ok (.iconst 3, 1) := by decide +kernel
theorem dX3_dryOnes_15 : decode cX3_dryOnes 15 = .ok (.invokestatic 52, 3) := by decide +kernel
theorem dX3_dryOnes_18 : decode cX3_dryOnes 18 = .ok (.iaload, 1) := by decide +kernel
theorem dX3_dryOnes_19 : decode cX3_dryOnes 19 = .ok (.ifCond .ne 9, 3) := by decide +kernel
theorem dX3_dryOnes_22 : decode cX3_dryOnes 22 = .ok (.iconst 1, 1) := by decide +kernel
theorem dX3_dryOnes_23 : decode cX3_dryOnes 23 = .ok (.iload_n 2, 1) := by decide +kernel
theorem dX3_dryOnes_24 : decode cX3_dryOnes 24 = .ok (.ishl, 1) := by decide +kernel
theorem dX3_dryOnes_25 : decode cX3_dryOnes 25 = .ok (.goto 4, 3) := by decide +kernel
theorem dX3_dryOnes_28 : decode cX3_dryOnes 28 = .ok (.iconst 0, 1) := by decide +kernel
theorem dX3_dryOnes_29 : decode cX3_dryOnes 29 = .ok (.ior, 1) := by decide +kernel
theorem dX3_dryOnes_30 : decode cX3_dryOnes 30 = .ok (.istore_n 1, 1) := by decide +kernel
theorem dX3_dryOnes_31 : decode cX3_dryOnes 31 = .ok (.iinc 2 1, 3) := by decide +kernel
theorem dX3_dryOnes_34 : decode cX3_dryOnes 34 = .ok (.goto (-30), 3) := by decide +kernel
theorem dX3_dryOnes_37 : decode cX3_dryOnes 37 = .ok (.iload_n 1, 1) := by decide +kernel
theorem dX3_dryOnes_38 : decode cX3_dryOnes 38 = .ok (.ireturn, 1) := by decide +kernel
theorem dX3_letter_0 : decode cX3_letter 0 = .ok (.iload_n 1, 1) := by decide +kernel
theorem dX3_letter_1 : decode cX3_letter 1 = .ok (.ifCond .ge 10, 3) := by decide +kernel
theorem dX3_letter_4 : decode cX3_letter 4 = .ok (.aload_n 0, 1) := by decide +kernel
theorem dX3_letter_5 : decode cX3_letter 5 = .ok (.bipush (-4), 2) := by decide +kernel
theorem dX3_letter_7 : decode cX3_letter 7 = .ok (.invokevirtual 36, 3) := by decide +kernel
theorem dX3_letter_10 : decode cX3_letter 10 = .ok (.ireturn, 1) := by decide +kernel
theorem dX3_letter_11 : decode cX3_letter 11 = .ok (.iload_n 1, 1) := by decide +kernel
theorem dX3_letter_12 : decode cX3_letter 12 = .ok (.sipush 255, 3) := by decide +kernel
theorem dX3_letter_15 : decode cX3_letter 15 = .ok (.if_icmp .gt 12, 3) := by decide +kernel
theorem dX3_letter_18 : decode cX3_letter 18 = .ok (.aload_n 0, 1) := by decide +kernel
theorem dX3_letter_19 : decode cX3_letter 19 = .ok (.getfield 76, 3) := by decide +kernel
theorem dX3_letter_22 : decode cX3_letter 22 = .ok (.bipush 96, 2) := by decide +kernel
theorem dX3_letter_24 : decode cX3_letter 24 = .ok (.if_icmp .ne 10, 3) := by decide +kernel
theorem dX3_letter_27 : decode cX3_letter 27 = .ok (.aload_n 0, 1) := by decide +kernel
theorem dX3_letter_28 : decode cX3_letter 28 = .ok (.bipush (-6), 2) := by decide +kernel
theorem dX3_letter_30 : decode cX3_letter 30 = .ok (.invokevirtual 36, 3) := by decide +kernel
theorem dX3_letter_33 : decode cX3_letter 33 = .ok (.ireturn, 1) := by decide +kernel
theorem dX3_letter_34 : decode cX3_letter 34 = .ok (.aload_n 0, 1) := by decide +kernel
theorem dX3_letter_35 : decode cX3_letter 35 = .ok (.getfield 22, 3) := by decide +kernel
theorem dX3_letter_38 : decode cX3_letter 38 = .ok (.aload_n 0, 1) := by decide +kernel
theorem dX3_letter_39 : decode cX3_letter 39 = .ok (.getfield 76, 3) := by decide +kernel
theorem dX3_letter_42 : decode cX3_letter 42 = .ok (.iload_n 1, 1) := by decide +kernel
theorem dX3_letter_43 : decode cX3_letter 43 = .ok (.iastore, 1) := by decide +kernel
theorem dX3_letter_44 : decode cX3_letter 44 = .ok (.aload_n 0, 1) := by decide +kernel
theorem dX3_letter_45 : decode cX3_letter 45 = .ok (.dup, 1) := by decide +kernel
theorem dX3_letter_46 : decode cX3_letter 46 = .ok (.getfield 76, 3) := by decide +kernel
theorem dX3_letter_49 : decode cX3_letter 49 = .ok (.iconst 1, 1) := by decide +kernel
theorem dX3_letter_50 : decode cX3_letter 50 = .ok (.iadd, 1) := by decide +kernel
theorem dX3_letter_51 : decode cX3_letter 51 = .ok (.putfield 76, 3) := by decide +kernel
theorem dX3_letter_54 : decode cX3_letter 54 = .ok (.aload_n 0, 1) := by decide +kernel
theorem dX3_letter_55 : decode cX3_letter 55 = .ok (.getfield 76, 3) := by decide +kernel
theorem dX3_letter_58 : decode cX3_letter 58 = .ok (.ireturn, 1) := by decide +kernel
theorem dX3_here_0 : decode cX3_here 0 = .ok (.aload_n 0, 1) := by decide +kernel
theorem dX3_here_1 : decode cX3_here 1 = .ok (.getfield 80, 3) := by decide +kernel
theorem dX3_here_4 : decode cX3_here 4 = .ok (.aload_n 0, 1) := by decide +kernel
theorem dX3_here_5 : decode cX3_here 5 = .ok (.getfield 76, 3) := by decide +kernel
theorem dX3_here_8 : decode cX3_here 8 = .ok (.if_icmp .ge 15, 3) := by decide +kernel
theorem dX3_here_11 : decode cX3_here 11 = .ok (.aload_n 0, 1) := by decide +kernel
theorem dX3_here_12 : decode cX3_here 12 = .ok (.getfield 22, 3) := by decide +kernel
theorem dX3_here_15 : decode cX3_here 15 = .ok (.aload_n 0, 1) := by decide +kernel
theorem dX3_here_16 : decode cX3_here 16 = .ok (.getfield 80, 3) := by decide +kernel
theorem dX3_here_19 : decode cX3_here 19 = .ok (.iaload, 1) := by decide +kernel
theorem dX3_here_20 : decode cX3_here 20 = .ok (.goto 4, 3) := by decide +kernel
theorem dX3_here_23 : decode cX3_here 23 = .ok (.iconst (-1), 1) := by decide +kernel
theorem dX3_here_24 : decode cX3_here 24 = .ok (.ireturn, 1) := by decide +kernel
theorem dX3_readsNumber_0 : decode cX3_readsNumber 0 = .ok (.aload_n 0, 1) := by decide +kernel
theorem dX3_readsNumber_1 : decode cX3_readsNumber 1 = .ok (.getfield 31, 3) := by decide +kernel
theorem dX3_readsNumber_4 : decode cX3_readsNumber 4 = .ok (.iload_n 1, 1) := by decide +kernel
theorem dX3_readsNumber_5 : decode cX3_readsNumber 5 = .ok (.iconst 0, 1) := by decide +kernel
theorem dX3_readsNumber_6 : decode cX3_readsNumber 6 = .ok (.iastore, 1) := by decide +kernel
theorem dX3_readsNumber_7 : decode cX3_readsNumber 7 = .ok (.iconst 0, 1) := by decide +kernel
theorem dX3_readsNumber_8 : decode cX3_readsNumber 8 = .ok (.istore_n 3, 1) := by decide +kernel
theorem dX3_readsNumber_9 : decode cX3_readsNumber 9 = .ok (.iload_n 3, 1) := by decide +kernel
theorem dX3_readsNumber_10 : decode cX3_readsNumber 10 = .ok (.iload_n 2, 1) := by decide +kernel
theorem dX3_readsNumber_11 : decode cX3_readsNumber 11 = .ok (.if_icmp .ge 58, 3) := by decide +kernel
theorem dX3_readsNumber_14 : decode cX3_readsNumber 14 = .ok (.aload_n 0, 1) := by decide +kernel
theorem dX3_readsNumber_15 : decode cX3_readsNumber 15 = .ok (.invokevirtual 83, 3) := by decide +kernel
theorem dX3_readsNumber_18 : decode cX3_readsNumber 18 = .ok (.bipush 48, 2) := by decide +kernel
theorem dX3_readsNumber_20 : decode cX3_readsNumber 20 = .ok (.bipush 57, 2) := by decide +kernel
theorem dX3_readsNumber_22 : decode cX3_readsNumber 22 = .ok (.invokestatic 40, 3) := by decide +kernel
theorem dX3_readsNumber_25 : decode cX3_readsNumber 25 = .ok (.ifCond .ne 5, 3) := by decide +kernel
theorem dX3_readsNumber_28 : decode cX3_readsNumber 28 = .ok (.iconst 0, 1) := by decide +kernel
theorem dX3_readsNumber_29 : decode cX3_readsNumber 29 = .ok (.ireturn, 1) := by decide +kernel
theorem dX3_readsNumber_30 : decode cX3_readsNumber 30 = .ok (.aload_n 0, 1) := by decide +kernel
theorem dX3_readsNumber_31 : decode cX3_readsNumber 31 = .ok (.getfield 31, 3) := by decide +kernel
theorem dX3_readsNumber_34 : decode cX3_readsNumber 34 = .ok (.iload_n 1, 1) := by decide +kernel
theorem dX3_readsNumber_35 : decode cX3_readsNumber 35 = .ok (.bipush 10, 2) := by decide +kernel
theorem dX3_readsNumber_37 : decode cX3_readsNumber 37 = .ok (.aload_n 0, 1) := by decide +kernel
theorem dX3_readsNumber_38 : decode cX3_readsNumber 38 = .ok (.getfield 31, 3) := by decide +kernel
theorem dX3_readsNumber_41 : decode cX3_readsNumber 41 = .ok (.iload_n 1, 1) := by decide +kernel
theorem dX3_readsNumber_42 : decode cX3_readsNumber 42 = .ok (.iaload, 1) := by decide +kernel
theorem dX3_readsNumber_43 : decode cX3_readsNumber 43 = .ok (.imul, 1) := by decide +kernel
theorem dX3_readsNumber_44 : decode cX3_readsNumber 44 = .ok (.aload_n 0, 1) := by decide +kernel
theorem dX3_readsNumber_45 : decode cX3_readsNumber 45 = .ok (.invokevirtual 83, 3) := by decide +kernel
theorem dX3_readsNumber_48 : decode cX3_readsNumber 48 = .ok (.iadd, 1) := by decide +kernel
theorem dX3_readsNumber_49 : decode cX3_readsNumber 49 = .ok (.bipush 48, 2) := by decide +kernel
theorem dX3_readsNumber_51 : decode cX3_readsNumber 51 = .ok (.isub, 1) := by decide +kernel
theorem dX3_readsNumber_52 : decode cX3_readsNumber 52 = .ok (.iastore, 1) := by decide +kernel
theorem dX3_readsNumber_53 : decode cX3_readsNumber 53 = .ok (.aload_n 0, 1) := by decide +kernel
theorem dX3_readsNumber_54 : decode cX3_readsNumber 54 = .ok (.dup, 1) := by decide +kernel
theorem dX3_readsNumber_55 : decode cX3_readsNumber 55 = .ok (.getfield 80, 3) := by decide +kernel
theorem dX3_readsNumber_58 : decode cX3_readsNumber 58 = .ok (.iconst 1, 1) := by decide +kernel
theorem dX3_readsNumber_59 : decode cX3_readsNumber 59 = .ok (.iadd, 1) := by decide +kernel
theorem dX3_readsNumber_60 : decode cX3_readsNumber 60 = .ok (.putfield 80, 3) := by decide +kernel
theorem dX3_readsNumber_63 : decode cX3_readsNumber 63 = .ok (.iinc 3 1, 3) := by decide +kernel
theorem dX3_readsNumber_66 : decode cX3_readsNumber 66 = .ok (.goto (-57), 3) := by decide +kernel
theorem dX3_readsNumber_69 : decode cX3_readsNumber 69 = .ok (.iconst 1, 1) := by decide +kernel
theorem dX3_readsNumber_70 : decode cX3_readsNumber 70 = .ok (.ireturn, 1) := by decide +kernel
theorem dX3_kindBy_0 : decode cX3_kindBy 0 = .ok (.iload_n 0, 1) := by decide +kernel
theorem dX3_kindBy_1 : decode cX3_kindBy 1 = .ok (.tableswitch 75 108 119 #[73, 69, 75, 75, 63, 75, 75, 67, 71, 75, 75, 65], 63) := by decide +kernel
theorem dX3_kindBy_64 : decode cX3_kindBy 64 = .ok (.iconst 0, 1) := by decide +kernel
theorem dX3_kindBy_65 : decode cX3_kindBy 65 = .ok (.ireturn, 1) := by decide +kernel
theorem dX3_kindBy_66 : decode cX3_kindBy 66 = .ok (.iconst 1, 1) := by decide +kernel
theorem dX3_kindBy_67 : decode cX3_kindBy 67 = .ok (.ireturn, 1) := by decide +kernel
theorem dX3_kindBy_68 : decode cX3_kindBy 68 = .ok (.iconst 2, 1) := by decide +kernel
theorem dX3_kindBy_69 : decode cX3_kindBy 69 = .ok (.ireturn, 1) := by decide +kernel
theorem dX3_kindBy_70 : decode cX3_kindBy 70 = .ok (.iconst 3, 1) := by decide +kernel
theorem dX3_kindBy_71 : decode cX3_kindBy 71 = .ok (.ireturn, 1) := by decide +kernel
theorem dX3_kindBy_72 : decode cX3_kindBy 72 = .ok (.iconst 4, 1) := by decide +kernel
theorem dX3_kindBy_73 : decode cX3_kindBy 73 = .ok (.ireturn, 1) := by decide +kernel
theorem dX3_kindBy_74 : decode cX3_kindBy 74 = .ok (.iconst 5, 1) := by decide +kernel
theorem dX3_kindBy_75 : decode cX3_kindBy 75 = .ok (.ireturn, 1) := by decide +kernel
theorem dX3_kindBy_76 : decode cX3_kindBy 76 = .ok (.bipush (-9), 2) := by decide +kernel
theorem dX3_kindBy_78 : decode cX3_kindBy 78 = .ok (.ireturn, 1) := by decide +kernel
theorem dX3_readsKind_0 : decode cX3_readsKind 0 = .ok (.aload_n 0, 1) := by decide +kernel
theorem dX3_readsKind_1 : decode cX3_readsKind 1 = .ok (.getfield 31, 3) := by decide +kernel
theorem dX3_readsKind_4 : decode cX3_readsKind 4 = .ok (.iconst 0, 1) := by decide +kernel
theorem dX3_readsKind_5 : decode cX3_readsKind 5 = .ok (.aload_n 0, 1) := by decide +kernel
theorem dX3_readsKind_6 : decode cX3_readsKind 6 = .ok (.invokevirtual 83, 3) := by decide +kernel
theorem dX3_readsKind_9 : decode cX3_readsKind 9 = .ok (.invokestatic 87, 3) := by decide +kernel
theorem dX3_readsKind_12 : decode cX3_readsKind 12 = .ok (.iastore, 1) := by decide +kernel
theorem dX3_readsKind_13 : decode cX3_readsKind 13 = .ok (.aload_n 0, 1) := by decide +kernel
theorem dX3_readsKind_14 : decode cX3_readsKind 14 = .ok (.dup, 1) := by decide +kernel
theorem dX3_readsKind_15 : decode cX3_readsKind 15 = .ok (.getfield 80, 3) := by decide +kernel
theorem dX3_readsKind_18 : decode cX3_readsKind 18 = .ok (.aload_n 0, 1) := by decide +kernel
theorem dX3_readsKind_19 : decode cX3_readsKind 19 = .ok (.getfield 31, 3) := by decide +kernel
theorem dX3_readsKind_22 : decode cX3_readsKind 22 = .ok (.iconst 0, 1) := by decide +kernel
theorem dX3_readsKind_23 : decode cX3_readsKind 23 = .ok (.iaload, 1) := by decide +kernel
theorem dX3_readsKind_24 : decode cX3_readsKind 24 = .ok (.ifCond .ge 7, 3) := by decide +kernel
theorem dX3_readsKind_27 : decode cX3_readsKind 27 = .ok (.iconst 0, 1) := by decide +kernel
theorem dX3_readsKind_28 : decode cX3_readsKind 28 = .ok (.goto 4, 3) := by decide +kernel
theorem dX3_readsKind_31 : decode cX3_readsKind 31 = .ok (.iconst 1, 1) := by decide +kernel
theorem dX3_readsKind_32 : decode cX3_readsKind 32 = .ok (.iadd, 1) := by decide +kernel
theorem dX3_readsKind_33 : decode cX3_readsKind 33 = .ok (.putfield 80, 3) := by decide +kernel
theorem dX3_readsKind_36 : decode cX3_readsKind 36 = .ok (.aload_n 0, 1) := by decide +kernel
theorem dX3_readsKind_37 : decode cX3_readsKind 37 = .ok (.getfield 31, 3) := by decide +kernel
theorem dX3_readsKind_40 : decode cX3_readsKind 40 = .ok (.iconst 0, 1) := by decide +kernel
theorem dX3_readsKind_41 : decode cX3_readsKind 41 = .ok (.iaload, 1) := by decide +kernel
theorem dX3_readsKind_42 : decode cX3_readsKind 42 = .ok (.ifCond .lt 7, 3) := by decide +kernel
theorem dX3_readsKind_45 : decode cX3_readsKind 45 = .ok (.iconst 1, 1) := by decide +kernel
theorem dX3_readsKind_46 : decode cX3_readsKind 46 = .ok (.goto 4, 3) := by decide +kernel
theorem dX3_readsKind_49 : decode cX3_readsKind 49 = .ok (.iconst 0, 1) := by decide +kernel
theorem dX3_readsKind_50 : decode cX3_readsKind 50 = .ok (.ireturn, 1) := by decide +kernel
theorem dX3_readsStatement_0 : decode cX3_readsStatement 0 = .ok (.aload_n 0, 1) := by decide +kernel
theorem dX3_readsStatement_1 : decode cX3_readsStatement 1 = .ok (.invokevirtual 83, 3) := by decide +kernel
theorem dX3_readsStatement_4 : decode cX3_readsStatement 4 = .ok (.istore_n 1, 1) := by decide +kernel
theorem dX3_readsStatement_5 : decode cX3_readsStatement 5 = .ok (.aload_n 0, 1) := by decide +kernel
theorem dX3_readsStatement_6 : decode cX3_readsStatement 6 = .ok (.dup, 1) := by decide +kernel
theorem dX3_readsStatement_7 : decode cX3_readsStatement 7 = .ok (.getfield 80, 3) := by decide +kernel
theorem dX3_readsStatement_10 : decode cX3_readsStatement 10 = .ok (.iconst 1, 1) := by decide +kernel
theorem dX3_readsStatement_11 : decode cX3_readsStatement 11 = .ok (.iadd, 1) := by decide +kernel
theorem dX3_readsStatement_12 : decode cX3_readsStatement 12 = .ok (.putfield 80, 3) := by decide +kernel
theorem dX3_readsStatement_15 : decode cX3_readsStatement 15 = .ok (.iload_n 1, 1) := by decide +kernel
theorem dX3_readsStatement_16 : decode cX3_readsStatement 16 = .ok (.tableswitch 196 102 119 #[122, 149, 176, 196, 196, 196, 176, 196, 196, 196, 88, 196, 196, 186, 196, 196, 196, 176], 88) := by decide +kernel
theorem dX3_readsStatement_104 : decode cX3_readsStatement 104 = .ok (.aload_n 0, 1) := by decide +kernel
theorem dX3_readsStatement_105 : decode cX3_readsStatement 105 = .ok (.invokevirtual 90, 3) := by decide +kernel
theorem dX3_readsStatement_108 : decode cX3_readsStatement 108 = .ok (.ifCond .eq 25, 3) := by decide +kernel
theorem dX3_readsStatement_111 : decode cX3_readsStatement 111 = .ok (.aload_n 0, 1) := by decide +kernel
theorem dX3_readsStatement_112 : decode cX3_readsStatement 112 = .ok (.iconst 1, 1) := by decide +kernel
theorem dX3_readsStatement_113 : decode cX3_readsStatement 113 = .ok (.iconst 1, 1) := by decide +kernel
theorem dX3_readsStatement_114 : decode cX3_readsStatement 114 = .ok (.invokevirtual 94, 3) := by decide +kernel
theorem dX3_readsStatement_117 : decode cX3_readsStatement 117 = .ok (.ifCond .eq 16, 3) := by decide +kernel
theorem dX3_readsStatement_120 : decode cX3_readsStatement 120 = .ok (.aload_n 0, 1) := by decide +kernel
theorem dX3_readsStatement_121 : decode cX3_readsStatement 121 = .ok (.iconst 2, 1) := by decide +kernel
theorem dX3_readsStatement_122 : decode cX3_readsStatement 122 = .ok (.iconst 1, 1) := by decide +kernel
theorem dX3_readsStatement_123 : decode cX3_readsStatement 123 = .ok (.invokevirtual 94, 3) := by decide +kernel
theorem dX3_readsStatement_126 : decode cX3_readsStatement 126 = .ok (.ifCond .eq 7, 3) := by decide +kernel
theorem dX3_readsStatement_129 : decode cX3_readsStatement 129 = .ok (.iconst 1, 1) := by decide +kernel
theorem dX3_readsStatement_130 : decode cX3_readsStatement 130 = .ok (.goto 4, 3) := by decide +kernel
theorem dX3_readsStatement_133 : decode cX3_readsStatement 133 = .ok (.iconst 0, 1) := by decide +kernel
theorem dX3_readsStatement_134 : decode cX3_readsStatement 134 = .ok (.istore_n 2, 1) := by decide +kernel
theorem dX3_readsStatement_135 : decode cX3_readsStatement 135 = .ok (.goto 89, 3) := by decide +kernel
theorem dX3_readsStatement_138 : decode cX3_readsStatement 138 = .ok (.aload_n 0, 1) := by decide +kernel
theorem dX3_readsStatement_139 : decode cX3_readsStatement 139 = .ok (.iconst 0, 1) := by decide +kernel
theorem dX3_readsStatement_140 : decode cX3_readsStatement 140 = .ok (.iconst 1, 1) := by decide +kernel
theorem dX3_readsStatement_141 : decode cX3_readsStatement 141 = .ok (.invokevirtual 94, 3) := by decide +kernel
theorem dX3_readsStatement_144 : decode cX3_readsStatement 144 = .ok (.ifCond .eq 16, 3) := by decide +kernel
theorem dX3_readsStatement_147 : decode cX3_readsStatement 147 = .ok (.aload_n 0, 1) := by decide +kernel
theorem dX3_readsStatement_148 : decode cX3_readsStatement 148 = .ok (.iconst 1, 1) := by decide +kernel
theorem dX3_readsStatement_149 : decode cX3_readsStatement 149 = .ok (.iconst 1, 1) := by decide +kernel
theorem dX3_readsStatement_150 : decode cX3_readsStatement 150 = .ok (.invokevirtual 94, 3) := by decide +kernel
theorem dX3_readsStatement_153 : decode cX3_readsStatement 153 = .ok (.ifCond .eq 7, 3) := by decide +kernel
theorem dX3_readsStatement_156 : decode cX3_readsStatement 156 = .ok (.iconst 1, 1) := by decide +kernel
theorem dX3_readsStatement_157 : decode cX3_readsStatement 157 = .ok (.goto 4, 3) := by decide +kernel
theorem dX3_readsStatement_160 : decode cX3_readsStatement 160 = .ok (.iconst 0, 1) := by decide +kernel
theorem dX3_readsStatement_161 : decode cX3_readsStatement 161 = .ok (.istore_n 2, 1) := by decide +kernel
theorem dX3_readsStatement_162 : decode cX3_readsStatement 162 = .ok (.goto 62, 3) := by decide +kernel
theorem dX3_readsStatement_165 : decode cX3_readsStatement 165 = .ok (.aload_n 0, 1) := by decide +kernel
theorem dX3_readsStatement_166 : decode cX3_readsStatement 166 = .ok (.iconst 0, 1) := by decide +kernel
theorem dX3_readsStatement_167 : decode cX3_readsStatement 167 = .ok (.iconst 1, 1) := by decide +kernel
theorem dX3_readsStatement_168 : decode cX3_readsStatement 168 = .ok (.invokevirtual 94, 3) := by decide +kernel
theorem dX3_readsStatement_171 : decode cX3_readsStatement 171 = .ok (.ifCond .eq 16, 3) := by decide +kernel
theorem dX3_readsStatement_174 : decode cX3_readsStatement 174 = .ok (.aload_n 0, 1) := by decide +kernel
theorem dX3_readsStatement_175 : decode cX3_readsStatement 175 = .ok (.iconst 1, 1) := by decide +kernel
theorem dX3_readsStatement_176 : decode cX3_readsStatement 176 = .ok (.iconst 2, 1) := by decide +kernel
theorem dX3_readsStatement_177 : decode cX3_readsStatement 177 = .ok (.invokevirtual 94, 3) := by decide +kernel
theorem dX3_readsStatement_180 : decode cX3_readsStatement 180 = .ok (.ifCond .eq 7, 3) := by decide +kernel
theorem dX3_readsStatement_183 : decode cX3_readsStatement 183 = .ok (.iconst 1, 1) := by decide +kernel
theorem dX3_readsStatement_184 : decode cX3_readsStatement 184 = .ok (.goto 4, 3) := by decide +kernel
theorem dX3_readsStatement_187 : decode cX3_readsStatement 187 = .ok (.iconst 0, 1) := by decide +kernel
theorem dX3_readsStatement_188 : decode cX3_readsStatement 188 = .ok (.istore_n 2, 1) := by decide +kernel
theorem dX3_readsStatement_189 : decode cX3_readsStatement 189 = .ok (.goto 35, 3) := by decide +kernel
theorem dX3_readsStatement_192 : decode cX3_readsStatement 192 = .ok (.aload_n 0, 1) := by decide +kernel
theorem dX3_readsStatement_193 : decode cX3_readsStatement 193 = .ok (.iconst 0, 1) := by decide +kernel
theorem dX3_readsStatement_194 : decode cX3_readsStatement 194 = .ok (.iconst 2, 1) := by decide +kernel
theorem dX3_readsStatement_195 : decode cX3_readsStatement 195 = .ok (.invokevirtual 94, 3) := by decide +kernel
theorem dX3_readsStatement_198 : decode cX3_readsStatement 198 = .ok (.istore_n 2, 1) := by decide +kernel
theorem dX3_readsStatement_199 : decode cX3_readsStatement 199 = .ok (.goto 25, 3) := by decide +kernel
theorem dX3_readsStatement_202 : decode cX3_readsStatement 202 = .ok (.aload_n 0, 1) := by decide +kernel
theorem dX3_readsStatement_203 : decode cX3_readsStatement 203 = .ok (.iconst 0, 1) := by decide +kernel
theorem dX3_readsStatement_204 : decode cX3_readsStatement 204 = .ok (.iconst 1, 1) := by decide +kernel
theorem dX3_readsStatement_205 : decode cX3_readsStatement 205 = .ok (.invokevirtual 94, 3) := by decide +kernel
theorem dX3_readsStatement_208 : decode cX3_readsStatement 208 = .ok (.istore_n 2, 1) := by decide +kernel
theorem dX3_readsStatement_209 : decode cX3_readsStatement 209 = .ok (.goto 15, 3) := by decide +kernel
theorem dX3_readsStatement_212 : decode cX3_readsStatement 212 = .ok (.aload_n 0, 1) := by decide +kernel
theorem dX3_readsStatement_213 : decode cX3_readsStatement 213 = .ok (.dup, 1) := by decide +kernel
theorem dX3_readsStatement_214 : decode cX3_readsStatement 214 = .ok (.getfield 80, 3) := by decide +kernel
theorem dX3_readsStatement_217 : decode cX3_readsStatement 217 = .ok (.iconst 1, 1) := by decide +kernel
theorem dX3_readsStatement_218 : decode cX3_readsStatement 218 = .ok (.isub, 1) := by decide +kernel
theorem dX3_readsStatement_219 : decode cX3_readsStatement 219 = .ok (.putfield 80, 3) := by decide +kernel
theorem dX3_readsStatement_222 : decode cX3_readsStatement 222 = .ok (.iconst 0, 1) := by decide +kernel
theorem dX3_readsStatement_223 : decode cX3_readsStatement 223 = .ok (.ireturn, 1) := by decide +kernel
theorem dX3_readsStatement_224 : decode cX3_readsStatement 224 = .ok (.iload_n 2, 1) := by decide +kernel
theorem dX3_readsStatement_225 : decode cX3_readsStatement 225 = .ok (.ifCond .eq 12, 3) := by decide +kernel
theorem dX3_readsStatement_228 : decode cX3_readsStatement 228 = .ok (.aload_n 0, 1) := by decide +kernel
theorem dX3_readsStatement_229 : decode cX3_readsStatement 229 = .ok (.invokevirtual 83, 3) := by decide +kernel
theorem dX3_readsStatement_232 : decode cX3_readsStatement 232 = .ok (.bipush 59, 2) := by decide +kernel
theorem dX3_readsStatement_234 : decode cX3_readsStatement 234 = .ok (.if_icmp .eq 5, 3) := by decide +kernel
theorem dX3_readsStatement_237 : decode cX3_readsStatement 237 = .ok (.iconst 0, 1) := by decide +kernel
theorem dX3_readsStatement_238 : decode cX3_readsStatement 238 = .ok (.ireturn, 1) := by decide +kernel
theorem dX3_readsStatement_239 : decode cX3_readsStatement 239 = .ok (.aload_n 0, 1) := by decide +kernel
theorem dX3_readsStatement_240 : decode cX3_readsStatement 240 = .ok (.dup, 1) := by decide +kernel
theorem dX3_readsStatement_241 : decode cX3_readsStatement 241 = .ok (.getfield 80, 3) := by decide +kernel
theorem dX3_readsStatement_244 : decode cX3_readsStatement 244 = .ok (.iconst 1, 1) := by decide +kernel
theorem dX3_readsStatement_245 : decode cX3_readsStatement 245 = .ok (.iadd, 1) := by decide +kernel
theorem dX3_readsStatement_246 : decode cX3_readsStatement 246 = .ok (.putfield 80, 3) := by decide +kernel
theorem dX3_readsStatement_249 : decode cX3_readsStatement 249 = .ok (.iconst 1, 1) := by decide +kernel
theorem dX3_readsStatement_250 : decode cX3_readsStatement 250 = .ok (.ireturn, 1) := by decide +kernel
theorem dX3_addsPerson_0 : decode cX3_addsPerson 0 = .ok (.aload_n 0, 1) := by decide +kernel
theorem dX3_addsPerson_1 : decode cX3_addsPerson 1 = .ok (.getfield 9, 3) := by decide +kernel
theorem dX3_addsPerson_4 : decode cX3_addsPerson 4 = .ok (.iconst 0, 1) := by decide +kernel
theorem dX3_addsPerson_5 : decode cX3_addsPerson 5 = .ok (.iaload, 1) := by decide +kernel
theorem dX3_addsPerson_6 : decode cX3_addsPerson 6 = .ok (.bipush 6, 2) := by decide +kernel
theorem dX3_addsPerson_8 : decode cX3_addsPerson 8 = .ok (.if_icmp .ne 5, 3) := by decide +kernel
theorem dX3_addsPerson_11 : decode cX3_addsPerson 11 = .ok (.iconst 0, 1) := by decide +kernel
theorem dX3_addsPerson_12 : decode cX3_addsPerson 12 = .ok (.ireturn, 1) := by decide +kernel
theorem dX3_addsPerson_13 : decode cX3_addsPerson 13 = .ok (.aload_n 0, 1) := by decide +kernel
theorem dX3_addsPerson_14 : decode cX3_addsPerson 14 = .ok (.getfield 9, 3) := by decide +kernel
theorem dX3_addsPerson_17 : decode cX3_addsPerson 17 = .ok (.iconst 0, 1) := by decide +kernel
theorem dX3_addsPerson_18 : decode cX3_addsPerson 18 = .ok (.iaload, 1) := by decide +kernel
theorem dX3_addsPerson_19 : decode cX3_addsPerson 19 = .ok (.istore_n 1, 1) := by decide +kernel
theorem dX3_addsPerson_20 : decode cX3_addsPerson 20 = .ok (.iconst 0, 1) := by decide +kernel
theorem dX3_addsPerson_21 : decode cX3_addsPerson 21 = .ok (.istore_n 2, 1) := by decide +kernel
theorem dX3_addsPerson_22 : decode cX3_addsPerson 22 = .ok (.iload_n 2, 1) := by decide +kernel
theorem dX3_addsPerson_23 : decode cX3_addsPerson 23 = .ok (.iconst 3, 1) := by decide +kernel
theorem dX3_addsPerson_24 : decode cX3_addsPerson 24 = .ok (.if_icmp .ge 25, 3) := by decide +kernel
theorem dX3_addsPerson_27 : decode cX3_addsPerson 27 = .ok (.aload_n 0, 1) := by decide +kernel
theorem dX3_addsPerson_28 : decode cX3_addsPerson 28 = .ok (.getfield 9, 3) := by decide +kernel
theorem dX3_addsPerson_31 : decode cX3_addsPerson 31 = .ok (.iload_n 1, 1) := by decide +kernel
theorem dX3_addsPerson_32 : decode cX3_addsPerson 32 = .ok (.iload_n 2, 1) := by decide +kernel
theorem dX3_addsPerson_33 : decode cX3_addsPerson 33 = .ok (.invokestatic 52, 3) := by decide +kernel
theorem dX3_addsPerson_36 : decode cX3_addsPerson 36 = .ok (.aload_n 0, 1) := by decide +kernel
theorem dX3_addsPerson_37 : decode cX3_addsPerson 37 = .ok (.getfield 31, 3) := by decide +kernel
theorem dX3_addsPerson_40 : decode cX3_addsPerson 40 = .ok (.iload_n 2, 1) := by decide +kernel
theorem dX3_addsPerson_41 : decode cX3_addsPerson 41 = .ok (.iaload, 1) := by decide +kernel
theorem dX3_addsPerson_42 : decode cX3_addsPerson 42 = .ok (.iastore, 1) := by decide +kernel
theorem dX3_addsPerson_43 : decode cX3_addsPerson 43 = .ok (.iinc 2 1, 3) := by decide +kernel
theorem dX3_addsPerson_46 : decode cX3_addsPerson 46 = .ok (.goto (-24), 3) := by decide +kernel
theorem dX3_addsPerson_49 : decode cX3_addsPerson 49 = .ok (.aload_n 0, 1) := by decide +kernel
theorem dX3_addsPerson_50 : decode cX3_addsPerson 50 = .ok (.getfield 9, 3) := by decide +kernel
theorem dX3_addsPerson_53 : decode cX3_addsPerson 53 = .ok (.iload_n 1, 1) := by decide +kernel
theorem dX3_addsPerson_54 : decode cX3_addsPerson 54 = .ok (.iconst 3, 1) := by decide +kernel
theorem dX3_addsPerson_55 : decode cX3_addsPerson 55 = .ok (.invokestatic 52, 3) := by decide +kernel
theorem dX3_addsPerson_58 : decode cX3_addsPerson 58 = .ok (.iconst 5, 1) := by decide +kernel
theorem dX3_addsPerson_59 : decode cX3_addsPerson 59 = .ok (.iastore, 1) := by decide +kernel
theorem dX3_addsPerson_60 : decode cX3_addsPerson 60 = .ok (.aload_n 0, 1) := by decide +kernel
theorem dX3_addsPerson_61 : decode cX3_addsPerson 61 = .ok (.getfield 9, 3) := by decide +kernel
theorem dX3_addsPerson_64 : decode cX3_addsPerson 64 = .ok (.iload_n 1, 1) := by decide +kernel
theorem dX3_addsPerson_65 : decode cX3_addsPerson 65 = .ok (.iconst 4, 1) := by decide +kernel
theorem dX3_addsPerson_66 : decode cX3_addsPerson 66 = .ok (.invokestatic 52, 3) := by decide +kernel
theorem dX3_addsPerson_69 : decode cX3_addsPerson 69 = .ok (.iconst 0, 1) := by decide +kernel
theorem dX3_addsPerson_70 : decode cX3_addsPerson 70 = .ok (.iastore, 1) := by decide +kernel
theorem dX3_addsPerson_71 : decode cX3_addsPerson 71 = .ok (.aload_n 0, 1) := by decide +kernel
theorem dX3_addsPerson_72 : decode cX3_addsPerson 72 = .ok (.getfield 9, 3) := by decide +kernel
theorem dX3_addsPerson_75 : decode cX3_addsPerson 75 = .ok (.iload_n 1, 1) := by decide +kernel
theorem dX3_addsPerson_76 : decode cX3_addsPerson 76 = .ok (.iconst 5, 1) := by decide +kernel
theorem dX3_addsPerson_77 : decode cX3_addsPerson 77 = .ok (.invokestatic 52, 3) := by decide +kernel
theorem dX3_addsPerson_80 : decode cX3_addsPerson 80 = .ok (.iconst 0, 1) := by decide +kernel
theorem dX3_addsPerson_81 : decode cX3_addsPerson 81 = .ok (.iastore, 1) := by decide +kernel
theorem dX3_addsPerson_82 : decode cX3_addsPerson 82 = .ok (.aload_n 0, 1) := by decide +kernel
theorem dX3_addsPerson_83 : decode cX3_addsPerson 83 = .ok (.getfield 9, 3) := by decide +kernel
theorem dX3_addsPerson_86 : decode cX3_addsPerson 86 = .ok (.iload_n 1, 1) := by decide +kernel
theorem dX3_addsPerson_87 : decode cX3_addsPerson 87 = .ok (.bipush 6, 2) := by decide +kernel
theorem dX3_addsPerson_89 : decode cX3_addsPerson 89 = .ok (.invokestatic 52, 3) := by decide +kernel
theorem dX3_addsPerson_92 : decode cX3_addsPerson 92 = .ok (.iload_n 1, 1) := by decide +kernel
theorem dX3_addsPerson_93 : decode cX3_addsPerson 93 = .ok (.iastore, 1) := by decide +kernel
theorem dX3_addsPerson_94 : decode cX3_addsPerson 94 = .ok (.aload_n 0, 1) := by decide +kernel
theorem dX3_addsPerson_95 : decode cX3_addsPerson 95 = .ok (.getfield 9, 3) := by decide +kernel
theorem dX3_addsPerson_98 : decode cX3_addsPerson 98 = .ok (.iconst 0, 1) := by decide +kernel
theorem dX3_addsPerson_99 : decode cX3_addsPerson 99 = .ok (.dup2, 1) := by decide +kernel
theorem dX3_addsPerson_100 : decode cX3_addsPerson 100 = .ok (.iaload, 1) := by decide +kernel
theorem dX3_addsPerson_101 : decode cX3_addsPerson 101 = .ok (.iconst 1, 1) := by decide +kernel
theorem dX3_addsPerson_102 : decode cX3_addsPerson 102 = .ok (.iadd, 1) := by decide +kernel
theorem dX3_addsPerson_103 : decode cX3_addsPerson 103 = .ok (.iastore, 1) := by decide +kernel
theorem dX3_addsPerson_104 : decode cX3_addsPerson 104 = .ok (.iconst 1, 1) := by decide +kernel
theorem dX3_addsPerson_105 : decode cX3_addsPerson 105 = .ok (.ireturn, 1) := by decide +kernel
theorem dX3_isDone_0 : decode cX3_isDone 0 = .ok (.aload_n 0, 1) := by decide +kernel
theorem dX3_isDone_1 : decode cX3_isDone 1 = .ok (.getfield 31, 3) := by decide +kernel
theorem dX3_isDone_4 : decode cX3_isDone 4 = .ok (.iconst 0, 1) := by decide +kernel
theorem dX3_isDone_5 : decode cX3_isDone 5 = .ok (.iaload, 1) := by decide +kernel
theorem dX3_isDone_6 : decode cX3_isDone 6 = .ok (.istore_n 2, 1) := by decide +kernel
theorem dX3_isDone_7 : decode cX3_isDone 7 = .ok (.aload_n 0, 1) := by decide +kernel
theorem dX3_isDone_8 : decode cX3_isDone 8 = .ok (.getfield 31, 3) := by decide +kernel
theorem dX3_isDone_11 : decode cX3_isDone 11 = .ok (.iconst 1, 1) := by decide +kernel
theorem dX3_isDone_12 : decode cX3_isDone 12 = .ok (.iaload, 1) := by decide +kernel
theorem dX3_isDone_13 : decode cX3_isDone 13 = .ok (.istore_n 3, 1) := by decide +kernel
theorem dX3_isDone_14 : decode cX3_isDone 14 = .ok (.iload_n 1, 1) := by decide +kernel
theorem dX3_isDone_15 : decode cX3_isDone 15 = .ok (.tableswitch 194 102 119 #[90, 120, 194, 194, 194, 194, 152, 194, 194, 194, 85, 194, 194, 171, 194, 194, 194, 143], 85) := by decide +kernel
theorem dX3_isDone_100 : decode cX3_isDone 100 = .ok (.aload_n 0, 1) := by decide +kernel
theorem dX3_isDone_101 : decode cX3_isDone 101 = .ok (.invokevirtual 97, 3) := by decide +kernel
theorem dX3_isDone_104 : decode cX3_isDone 104 = .ok (.ireturn, 1) := by decide +kernel
theorem dX3_isDone_105 : decode cX3_isDone 105 = .ok (.aload_n 0, 1) := by decide +kernel
theorem dX3_isDone_106 : decode cX3_isDone 106 = .ok (.iload_n 2, 1) := by decide +kernel
theorem dX3_isDone_107 : decode cX3_isDone 107 = .ok (.invokevirtual 100, 3) := by decide +kernel
theorem dX3_isDone_110 : decode cX3_isDone 110 = .ok (.ifCond .eq 9, 3) := by decide +kernel
theorem dX3_isDone_113 : decode cX3_isDone 113 = .ok (.iload_n 3, 1) := by decide +kernel
theorem dX3_isDone_114 : decode cX3_isDone 114 = .ok (.bipush 6, 2) := by decide +kernel
theorem dX3_isDone_116 : decode cX3_isDone 116 = .ok (.if_icmp .lt 5, 3) := by decide +kernel
theorem dX3_isDone_119 : decode cX3_isDone 119 = .ok (.iconst 0, 1) := by decide +kernel
theorem dX3_isDone_120 : decode cX3_isDone 120 = .ok (.ireturn, 1) := by decide +kernel
theorem dX3_isDone_121 : decode cX3_isDone 121 = .ok (.aload_n 0, 1) := by decide +kernel
theorem dX3_isDone_122 : decode cX3_isDone 122 = .ok (.getfield 9, 3) := by decide +kernel
theorem dX3_isDone_125 : decode cX3_isDone 125 = .ok (.iload_n 2, 1) := by decide +kernel
theorem dX3_isDone_126 : decode cX3_isDone 126 = .ok (.bipush 6, 2) := by decide +kernel
theorem dX3_isDone_128 : decode cX3_isDone 128 = .ok (.invokestatic 52, 3) := by decide +kernel
theorem dX3_isDone_131 : decode cX3_isDone 131 = .ok (.iload_n 3, 1) := by decide +kernel
theorem dX3_isDone_132 : decode cX3_isDone 132 = .ok (.iastore, 1) := by decide +kernel
theorem dX3_isDone_133 : decode cX3_isDone 133 = .ok (.iconst 1, 1) := by decide +kernel
theorem dX3_isDone_134 : decode cX3_isDone 134 = .ok (.ireturn, 1) := by decide +kernel
theorem dX3_isDone_135 : decode cX3_isDone 135 = .ok (.aload_n 0, 1) := by decide +kernel
theorem dX3_isDone_136 : decode cX3_isDone 136 = .ok (.iload_n 2, 1) := by decide +kernel
theorem dX3_isDone_137 : decode cX3_isDone 137 = .ok (.invokevirtual 100, 3) := by decide +kernel
theorem dX3_isDone_140 : decode cX3_isDone 140 = .ok (.ifCond .ne 5, 3) := by decide +kernel
theorem dX3_isDone_143 : decode cX3_isDone 143 = .ok (.iconst 0, 1) := by decide +kernel
theorem dX3_isDone_144 : decode cX3_isDone 144 = .ok (.ireturn, 1) := by decide +kernel
theorem dX3_isDone_145 : decode cX3_isDone 145 = .ok (.aload_n 0, 1) := by decide +kernel
theorem dX3_isDone_146 : decode cX3_isDone 146 = .ok (.getfield 9, 3) := by decide +kernel
theorem dX3_isDone_149 : decode cX3_isDone 149 = .ok (.iload_n 2, 1) := by decide +kernel
theorem dX3_isDone_150 : decode cX3_isDone 150 = .ok (.iconst 3, 1) := by decide +kernel
theorem dX3_isDone_151 : decode cX3_isDone 151 = .ok (.invokestatic 52, 3) := by decide +kernel
theorem dX3_isDone_154 : decode cX3_isDone 154 = .ok (.iload_n 3, 1) := by decide +kernel
theorem dX3_isDone_155 : decode cX3_isDone 155 = .ok (.iastore, 1) := by decide +kernel
theorem dX3_isDone_156 : decode cX3_isDone 156 = .ok (.iconst 1, 1) := by decide +kernel
theorem dX3_isDone_157 : decode cX3_isDone 157 = .ok (.ireturn, 1) := by decide +kernel
theorem dX3_isDone_158 : decode cX3_isDone 158 = .ok (.aload_n 0, 1) := by decide +kernel
theorem dX3_isDone_159 : decode cX3_isDone 159 = .ok (.getfield 9, 3) := by decide +kernel
theorem dX3_isDone_162 : decode cX3_isDone 162 = .ok (.iconst 2, 1) := by decide +kernel
theorem dX3_isDone_163 : decode cX3_isDone 163 = .ok (.iload_n 2, 1) := by decide +kernel
theorem dX3_isDone_164 : decode cX3_isDone 164 = .ok (.iastore, 1) := by decide +kernel
theorem dX3_isDone_165 : decode cX3_isDone 165 = .ok (.iconst 1, 1) := by decide +kernel
theorem dX3_isDone_166 : decode cX3_isDone 166 = .ok (.ireturn, 1) := by decide +kernel
theorem dX3_isDone_167 : decode cX3_isDone 167 = .ok (.aload_n 0, 1) := by decide +kernel
theorem dX3_isDone_168 : decode cX3_isDone 168 = .ok (.getfield 9, 3) := by decide +kernel
theorem dX3_isDone_171 : decode cX3_isDone 171 = .ok (.iconst 3, 1) := by decide +kernel
theorem dX3_isDone_172 : decode cX3_isDone 172 = .ok (.iload_n 2, 1) := by decide +kernel
theorem dX3_isDone_173 : decode cX3_isDone 173 = .ok (.iastore, 1) := by decide +kernel
theorem dX3_isDone_174 : decode cX3_isDone 174 = .ok (.iload_n 2, 1) := by decide +kernel
theorem dX3_isDone_175 : decode cX3_isDone 175 = .ok (.bipush 30, 2) := by decide +kernel
theorem dX3_isDone_177 : decode cX3_isDone 177 = .ok (.if_icmp .gt 7, 3) := by decide +kernel
theorem dX3_isDone_180 : decode cX3_isDone 180 = .ok (.iconst 1, 1) := by decide +kernel
theorem dX3_isDone_181 : decode cX3_isDone 181 = .ok (.goto 4, 3) := by decide +kernel
theorem dX3_isDone_184 : decode cX3_isDone 184 = .ok (.iconst 0, 1) := by decide +kernel
theorem dX3_isDone_185 : decode cX3_isDone 185 = .ok (.ireturn, 1) := by decide +kernel
theorem dX3_isDone_186 : decode cX3_isDone 186 = .ok (.aload_n 0, 1) := by decide +kernel
theorem dX3_isDone_187 : decode cX3_isDone 187 = .ok (.iload_n 2, 1) := by decide +kernel
theorem dX3_isDone_188 : decode cX3_isDone 188 = .ok (.invokevirtual 100, 3) := by decide +kernel
theorem dX3_isDone_191 : decode cX3_isDone 191 = .ok (.ifCond .ne 5, 3) := by decide +kernel
theorem dX3_isDone_194 : decode cX3_isDone 194 = .ok (.iconst 0, 1) := by decide +kernel
theorem dX3_isDone_195 : decode cX3_isDone 195 = .ok (.ireturn, 1) := by decide +kernel
theorem dX3_isDone_196 : decode cX3_isDone 196 = .ok (.aload_n 0, 1) := by decide +kernel
theorem dX3_isDone_197 : decode cX3_isDone 197 = .ok (.getfield 9, 3) := by decide +kernel
theorem dX3_isDone_200 : decode cX3_isDone 200 = .ok (.iload_n 2, 1) := by decide +kernel
theorem dX3_isDone_201 : decode cX3_isDone 201 = .ok (.iconst 4, 1) := by decide +kernel
theorem dX3_isDone_202 : decode cX3_isDone 202 = .ok (.invokestatic 52, 3) := by decide +kernel
theorem dX3_isDone_205 : decode cX3_isDone 205 = .ok (.iconst 1, 1) := by decide +kernel
theorem dX3_isDone_206 : decode cX3_isDone 206 = .ok (.iastore, 1) := by decide +kernel
theorem dX3_isDone_207 : decode cX3_isDone 207 = .ok (.iconst 1, 1) := by decide +kernel
theorem dX3_isDone_208 : decode cX3_isDone 208 = .ok (.ireturn, 1) := by decide +kernel
theorem dX3_isDone_209 : decode cX3_isDone 209 = .ok (.iload_n 2, 1) := by decide +kernel
theorem dX3_isDone_210 : decode cX3_isDone 210 = .ok (.iconst 1, 1) := by decide +kernel
theorem dX3_isDone_211 : decode cX3_isDone 211 = .ok (.bipush 60, 2) := by decide +kernel
theorem dX3_isDone_213 : decode cX3_isDone 213 = .ok (.invokestatic 40, 3) := by decide +kernel
theorem dX3_isDone_216 : decode cX3_isDone 216 = .ok (.ifCond .eq 17, 3) := by decide +kernel
theorem dX3_isDone_219 : decode cX3_isDone 219 = .ok (.aload_n 0, 1) := by decide +kernel
theorem dX3_isDone_220 : decode cX3_isDone 220 = .ok (.getfield 9, 3) := by decide +kernel
theorem dX3_isDone_223 : decode cX3_isDone 223 = .ok (.iconst 1, 1) := by decide +kernel
theorem dX3_isDone_224 : decode cX3_isDone 224 = .ok (.iaload, 1) := by decide +kernel
theorem dX3_isDone_225 : decode cX3_isDone 225 = .ok (.iload_n 2, 1) := by decide +kernel
theorem dX3_isDone_226 : decode cX3_isDone 226 = .ok (.iadd, 1) := by decide +kernel
theorem dX3_isDone_227 : decode cX3_isDone 227 = .ok (.sipush 999, 3) := by decide +kernel
theorem dX3_isDone_230 : decode cX3_isDone 230 = .ok (.if_icmp .le 5, 3) := by decide +kernel
theorem dX3_isDone_233 : decode cX3_isDone 233 = .ok (.iconst 0, 1) := by decide +kernel
theorem dX3_isDone_234 : decode cX3_isDone 234 = .ok (.ireturn, 1) := by decide +kernel
theorem dX3_isDone_235 : decode cX3_isDone 235 = .ok (.aload_n 0, 1) := by decide +kernel
theorem dX3_isDone_236 : decode cX3_isDone 236 = .ok (.getfield 9, 3) := by decide +kernel
theorem dX3_isDone_239 : decode cX3_isDone 239 = .ok (.iload_n 2, 1) := by decide +kernel
theorem dX3_isDone_240 : decode cX3_isDone 240 = .ok (.invokestatic 104, 3) := by decide +kernel
theorem dX3_isDone_243 : decode cX3_isDone 243 = .ok (.iconst 1, 1) := by decide +kernel
theorem dX3_isDone_244 : decode cX3_isDone 244 = .ok (.ireturn, 1) := by decide +kernel
theorem dX3_hill_0 : decode cX3_hill 0 = .ok (.aload_n 0, 1) := by decide +kernel
theorem dX3_hill_1 : decode cX3_hill 1 = .ok (.iconst 0, 1) := by decide +kernel
theorem dX3_hill_2 : decode cX3_hill 2 = .ok (.putfield 80, 3) := by decide +kernel
theorem dX3_hill_5 : decode cX3_hill 5 = .ok (.iconst 0, 1) := by decide +kernel
theorem dX3_hill_6 : decode cX3_hill 6 = .ok (.istore_n 1, 1) := by decide +kernel
theorem dX3_hill_7 : decode cX3_hill 7 = .ok (.bipush (-9), 2) := by decide +kernel
theorem dX3_hill_9 : decode cX3_hill 9 = .ok (.istore_n 2, 1) := by decide +kernel
theorem dX3_hill_10 : decode cX3_hill 10 = .ok (.aload_n 0, 1) := by decide +kernel
theorem dX3_hill_11 : decode cX3_hill 11 = .ok (.invokevirtual 107, 3) := by decide +kernel
theorem dX3_hill_14 : decode cX3_hill 14 = .ok (.ifCond .ne 12, 3) := by decide +kernel
theorem dX3_hill_17 : decode cX3_hill 17 = .ok (.sipush (-1000), 3) := by decide +kernel
theorem dX3_hill_20 : decode cX3_hill 20 = .ok (.aload_n 0, 1) := by decide +kernel
theorem dX3_hill_21 : decode cX3_hill 21 = .ok (.getfield 80, 3) := by decide +kernel
theorem dX3_hill_24 : decode cX3_hill 24 = .ok (.isub, 1) := by decide +kernel
theorem dX3_hill_25 : decode cX3_hill 25 = .ok (.istore_n 2, 1) := by decide +kernel
theorem dX3_hill_26 : decode cX3_hill 26 = .ok (.iinc 1 1, 3) := by decide +kernel
theorem dX3_hill_29 : decode cX3_hill 29 = .ok (.iload_n 2, 1) := by decide +kernel
theorem dX3_hill_30 : decode cX3_hill 30 = .ok (.bipush (-9), 2) := by decide +kernel
theorem dX3_hill_32 : decode cX3_hill 32 = .ok (.if_icmp .ne 14, 3) := by decide +kernel
theorem dX3_hill_35 : decode cX3_hill 35 = .ok (.aload_n 0, 1) := by decide +kernel
theorem dX3_hill_36 : decode cX3_hill 36 = .ok (.getfield 80, 3) := by decide +kernel
theorem dX3_hill_39 : decode cX3_hill 39 = .ok (.aload_n 0, 1) := by decide +kernel
theorem dX3_hill_40 : decode cX3_hill 40 = .ok (.getfield 76, 3) := by decide +kernel
theorem dX3_hill_43 : decode cX3_hill 43 = .ok (.if_icmp .lt (-33), 3) := by decide +kernel
theorem dX3_hill_46 : decode cX3_hill 46 = .ok (.aload_n 0, 1) := by decide +kernel
theorem dX3_hill_47 : decode cX3_hill 47 = .ok (.getfield 9, 3) := by decide +kernel
theorem dX3_hill_50 : decode cX3_hill 50 = .ok (.aload_n 0, 1) := by decide +kernel
theorem dX3_hill_51 : decode cX3_hill 51 = .ok (.getfield 19, 3) := by decide +kernel
theorem dX3_hill_54 : decode cX3_hill 54 = .ok (.invokestatic 110, 3) := by decide +kernel
theorem dX3_hill_57 : decode cX3_hill 57 = .ok (.aload_n 0, 1) := by decide +kernel
theorem dX3_hill_58 : decode cX3_hill 58 = .ok (.iconst 0, 1) := by decide +kernel
theorem dX3_hill_59 : decode cX3_hill 59 = .ok (.putfield 80, 3) := by decide +kernel
theorem dX3_hill_62 : decode cX3_hill 62 = .ok (.iload_n 2, 1) := by decide +kernel
theorem dX3_hill_63 : decode cX3_hill 63 = .ok (.bipush (-9), 2) := by decide +kernel
theorem dX3_hill_65 : decode cX3_hill 65 = .ok (.if_icmp .ne 63, 3) := by decide +kernel
theorem dX3_hill_68 : decode cX3_hill 68 = .ok (.aload_n 0, 1) := by decide +kernel
theorem dX3_hill_69 : decode cX3_hill 69 = .ok (.getfield 80, 3) := by decide +kernel
theorem dX3_hill_72 : decode cX3_hill 72 = .ok (.aload_n 0, 1) := by decide +kernel
theorem dX3_hill_73 : decode cX3_hill 73 = .ok (.getfield 76, 3) := by decide +kernel
theorem dX3_hill_76 : decode cX3_hill 76 = .ok (.if_icmp .ge 52, 3) := by decide +kernel
theorem dX3_hill_79 : decode cX3_hill 79 = .ok (.aload_n 0, 1) := by decide +kernel
theorem dX3_hill_80 : decode cX3_hill 80 = .ok (.getfield 80, 3) := by decide +kernel
theorem dX3_hill_83 : decode cX3_hill 83 = .ok (.istore_n 3, 1) := by decide +kernel
theorem dX3_hill_84 : decode cX3_hill 84 = .ok (.aload_n 0, 1) := by decide +kernel
theorem dX3_hill_85 : decode cX3_hill 85 = .ok (.invokevirtual 83, 3) := by decide +kernel
theorem dX3_hill_88 : decode cX3_hill 88 = .ok (.istore 4, 2) := by decide +kernel
theorem dX3_hill_90 : decode cX3_hill 90 = .ok (.aload_n 0, 1) := by decide +kernel
theorem dX3_hill_91 : decode cX3_hill 91 = .ok (.invokevirtual 107, 3) := by decide +kernel
theorem dX3_hill_94 : decode cX3_hill 94 = .ok (.istore 5, 2) := by decide +kernel
theorem dX3_hill_96 : decode cX3_hill 96 = .ok (.aload_n 0, 1) := by decide +kernel
theorem dX3_hill_97 : decode cX3_hill 97 = .ok (.iload 4, 2) := by decide +kernel
theorem dX3_hill_99 : decode cX3_hill 99 = .ok (.invokevirtual 114, 3) := by decide +kernel
theorem dX3_hill_102 : decode cX3_hill 102 = .ok (.ifCond .eq 6, 3) := by decide +kernel
theorem dX3_hill_105 : decode cX3_hill 105 = .ok (.goto (-43), 3) := by decide +kernel
theorem dX3_hill_108 : decode cX3_hill 108 = .ok (.sipush (-2000), 3) := by decide +kernel
theorem dX3_hill_111 : decode cX3_hill 111 = .ok (.iload_n 3, 1) := by decide +kernel
theorem dX3_hill_112 : decode cX3_hill 112 = .ok (.isub, 1) := by decide +kernel
theorem dX3_hill_113 : decode cX3_hill 113 = .ok (.istore_n 2, 1) := by decide +kernel
theorem dX3_hill_114 : decode cX3_hill 114 = .ok (.aload_n 0, 1) := by decide +kernel
theorem dX3_hill_115 : decode cX3_hill 115 = .ok (.getfield 19, 3) := by decide +kernel
theorem dX3_hill_118 : decode cX3_hill 118 = .ok (.aload_n 0, 1) := by decide +kernel
theorem dX3_hill_119 : decode cX3_hill 119 = .ok (.getfield 9, 3) := by decide +kernel
theorem dX3_hill_122 : decode cX3_hill 122 = .ok (.invokestatic 110, 3) := by decide +kernel
theorem dX3_hill_125 : decode cX3_hill 125 = .ok (.goto (-63), 3) := by decide +kernel
theorem dX3_hill_128 : decode cX3_hill 128 = .ok (.aload_n 0, 1) := by decide +kernel
theorem dX3_hill_129 : decode cX3_hill 129 = .ok (.iconst 0, 1) := by decide +kernel
theorem dX3_hill_130 : decode cX3_hill 130 = .ok (.putfield 76, 3) := by decide +kernel
theorem dX3_hill_133 : decode cX3_hill 133 = .ok (.iload_n 2, 1) := by decide +kernel
theorem dX3_hill_134 : decode cX3_hill 134 = .ok (.bipush (-9), 2) := by decide +kernel
theorem dX3_hill_136 : decode cX3_hill 136 = .ok (.if_icmp .ne 7, 3) := by decide +kernel
theorem dX3_hill_139 : decode cX3_hill 139 = .ok (.iload_n 1, 1) := by decide +kernel
theorem dX3_hill_140 : decode cX3_hill 140 = .ok (.goto 4, 3) := by decide +kernel
theorem dX3_hill_143 : decode cX3_hill 143 = .ok (.iload_n 2, 1) := by decide +kernel
theorem dX3_hill_144 : decode cX3_hill 144 = .ok (.ireturn, 1) := by decide +kernel
theorem dX3_person_0 : decode cX3_person 0 = .ok (.aload_n 0, 1) := by decide +kernel
theorem dX3_person_1 : decode cX3_person 1 = .ok (.iload_n 1, 1) := by decide +kernel
theorem dX3_person_2 : decode cX3_person 2 = .ok (.invokevirtual 100, 3) := by decide +kernel
theorem dX3_person_5 : decode cX3_person 5 = .ok (.ifCond .ne 9, 3) := by decide +kernel
theorem dX3_person_8 : decode cX3_person 8 = .ok (.aload_n 0, 1) := by decide +kernel
theorem dX3_person_9 : decode cX3_person 9 = .ok (.iconst (-1), 1) := by decide +kernel
theorem dX3_person_10 : decode cX3_person 10 = .ok (.invokevirtual 36, 3) := by decide +kernel
theorem dX3_person_13 : decode cX3_person 13 = .ok (.ireturn, 1) := by decide +kernel
theorem dX3_person_14 : decode cX3_person 14 = .ok (.iload_n 2, 1) := by decide +kernel
theorem dX3_person_15 : decode cX3_person 15 = .ok (.iconst 0, 1) := by decide +kernel
theorem dX3_person_16 : decode cX3_person 16 = .ok (.bipush 6, 2) := by decide +kernel
theorem dX3_person_18 : decode cX3_person 18 = .ok (.invokestatic 40, 3) := by decide +kernel
theorem dX3_person_21 : decode cX3_person 21 = .ok (.ifCond .eq 14, 3) := by decide +kernel
theorem dX3_person_24 : decode cX3_person 24 = .ok (.aload_n 0, 1) := by decide +kernel
theorem dX3_person_25 : decode cX3_person 25 = .ok (.getfield 9, 3) := by decide +kernel
theorem dX3_person_28 : decode cX3_person 28 = .ok (.iload_n 1, 1) := by decide +kernel
theorem dX3_person_29 : decode cX3_person 29 = .ok (.iload_n 2, 1) := by decide +kernel
theorem dX3_person_30 : decode cX3_person 30 = .ok (.invokestatic 52, 3) := by decide +kernel
theorem dX3_person_33 : decode cX3_person 33 = .ok (.iaload, 1) := by decide +kernel
theorem dX3_person_34 : decode cX3_person 34 = .ok (.ireturn, 1) := by decide +kernel
theorem dX3_person_35 : decode cX3_person 35 = .ok (.iload_n 2, 1) := by decide +kernel
theorem dX3_person_36 : decode cX3_person 36 = .ok (.bipush 7, 2) := by decide +kernel
theorem dX3_person_38 : decode cX3_person 38 = .ok (.if_icmp .ne 14, 3) := by decide +kernel
theorem dX3_person_41 : decode cX3_person 41 = .ok (.aload_n 0, 1) := by decide +kernel
theorem dX3_person_42 : decode cX3_person 42 = .ok (.getfield 9, 3) := by decide +kernel
theorem dX3_person_45 : decode cX3_person 45 = .ok (.iload_n 1, 1) := by decide +kernel
theorem dX3_person_46 : decode cX3_person 46 = .ok (.invokestatic 62, 3) := by decide +kernel
theorem dX3_person_49 : decode cX3_person 49 = .ok (.goto 31, 3) := by decide +kernel
theorem dX3_person_52 : decode cX3_person 52 = .ok (.iload_n 2, 1) := by decide +kernel
theorem dX3_person_53 : decode cX3_person 53 = .ok (.bipush 8, 2) := by decide +kernel
theorem dX3_person_55 : decode cX3_person 55 = .ok (.if_icmp .ne 19, 3) := by decide +kernel
theorem dX3_person_58 : decode cX3_person 58 = .ok (.aload_n 0, 1) := by decide +kernel
theorem dX3_person_59 : decode cX3_person 59 = .ok (.getfield 9, 3) := by decide +kernel
theorem dX3_person_62 : decode cX3_person 62 = .ok (.iload_n 1, 1) := by decide +kernel
theorem dX3_person_63 : decode cX3_person 63 = .ok (.iconst 0, 1) := by decide +kernel
theorem dX3_person_64 : decode cX3_person 64 = .ok (.invokestatic 52, 3) := by decide +kernel
theorem dX3_person_67 : decode cX3_person 67 = .ok (.iaload, 1) := by decide +kernel
theorem dX3_person_68 : decode cX3_person 68 = .ok (.invokestatic 70, 3) := by decide +kernel
theorem dX3_person_71 : decode cX3_person 71 = .ok (.goto 9, 3) := by decide +kernel
theorem dX3_person_74 : decode cX3_person 74 = .ok (.aload_n 0, 1) := by decide +kernel
theorem dX3_person_75 : decode cX3_person 75 = .ok (.bipush (-2), 2) := by decide +kernel
theorem dX3_person_77 : decode cX3_person 77 = .ok (.invokevirtual 36, 3) := by decide +kernel
theorem dX3_person_80 : decode cX3_person 80 = .ok (.ireturn, 1) := by decide +kernel
theorem dX3_speaks_0 : decode cX3_speaks 0 = .ok (.aload_n 0, 1) := by decide +kernel
theorem dX3_speaks_1 : decode cX3_speaks 1 = .ok (.iload_n 1, 1) := by decide +kernel
theorem dX3_speaks_2 : decode cX3_speaks 2 = .ok (.invokevirtual 100, 3) := by decide +kernel
theorem dX3_speaks_5 : decode cX3_speaks 5 = .ok (.ifCond .ne 9, 3) := by decide +kernel
theorem dX3_speaks_8 : decode cX3_speaks 8 = .ok (.aload_n 0, 1) := by decide +kernel
theorem dX3_speaks_9 : decode cX3_speaks 9 = .ok (.iconst (-1), 1) := by decide +kernel
theorem dX3_speaks_10 : decode cX3_speaks 10 = .ok (.invokevirtual 36, 3) := by decide +kernel
theorem dX3_speaks_13 : decode cX3_speaks 13 = .ok (.ireturn, 1) := by decide +kernel
theorem dX3_speaks_14 : decode cX3_speaks 14 = .ok (.aload_n 0, 1) := by decide +kernel
theorem dX3_speaks_15 : decode cX3_speaks 15 = .ok (.getfield 9, 3) := by decide +kernel
theorem dX3_speaks_18 : decode cX3_speaks 18 = .ok (.iload_n 1, 1) := by decide +kernel
theorem dX3_speaks_19 : decode cX3_speaks 19 = .ok (.iconst 4, 1) := by decide +kernel
theorem dX3_speaks_20 : decode cX3_speaks 20 = .ok (.invokestatic 52, 3) := by decide +kernel
theorem dX3_speaks_23 : decode cX3_speaks 23 = .ok (.iaload, 1) := by decide +kernel
theorem dX3_speaks_24 : decode cX3_speaks 24 = .ok (.iconst 1, 1) := by decide +kernel
theorem dX3_speaks_25 : decode cX3_speaks 25 = .ok (.if_icmp .ne 10, 3) := by decide +kernel
theorem dX3_speaks_28 : decode cX3_speaks 28 = .ok (.aload_n 0, 1) := by decide +kernel
theorem dX3_speaks_29 : decode cX3_speaks 29 = .ok (.bipush (-3), 2) := by decide +kernel
theorem dX3_speaks_31 : decode cX3_speaks 31 = .ok (.invokevirtual 36, 3) := by decide +kernel
theorem dX3_speaks_34 : decode cX3_speaks 34 = .ok (.ireturn, 1) := by decide +kernel
theorem dX3_speaks_35 : decode cX3_speaks 35 = .ok (.aload_n 0, 1) := by decide +kernel
theorem dX3_speaks_36 : decode cX3_speaks 36 = .ok (.getfield 9, 3) := by decide +kernel
theorem dX3_speaks_39 : decode cX3_speaks 39 = .ok (.iload_n 1, 1) := by decide +kernel
theorem dX3_speaks_40 : decode cX3_speaks 40 = .ok (.iconst 4, 1) := by decide +kernel
theorem dX3_speaks_41 : decode cX3_speaks 41 = .ok (.invokestatic 52, 3) := by decide +kernel
theorem dX3_speaks_44 : decode cX3_speaks 44 = .ok (.iconst 1, 1) := by decide +kernel
theorem dX3_speaks_45 : decode cX3_speaks 45 = .ok (.iastore, 1) := by decide +kernel
theorem dX3_speaks_46 : decode cX3_speaks 46 = .ok (.aload_n 0, 1) := by decide +kernel
theorem dX3_speaks_47 : decode cX3_speaks 47 = .ok (.getfield 9, 3) := by decide +kernel
theorem dX3_speaks_50 : decode cX3_speaks 50 = .ok (.iconst 4, 1) := by decide +kernel
theorem dX3_speaks_51 : decode cX3_speaks 51 = .ok (.invokestatic 117, 3) := by decide +kernel
theorem dX3_speaks_54 : decode cX3_speaks 54 = .ok (.invokestatic 120, 3) := by decide +kernel
theorem dX3_speaks_57 : decode cX3_speaks 57 = .ok (.ireturn, 1) := by decide +kernel
theorem dX3_sets_0 : decode cX3_sets 0 = .ok (.aload_n 0, 1) := by decide +kernel
theorem dX3_sets_1 : decode cX3_sets 1 = .ok (.getfield 9, 3) := by decide +kernel
theorem dX3_sets_4 : decode cX3_sets 4 = .ok (.iload_n 1, 1) := by decide +kernel
theorem dX3_sets_5 : decode cX3_sets 5 = .ok (.iaload, 1) := by decide +kernel
theorem dX3_sets_6 : decode cX3_sets 6 = .ok (.istore_n 3, 1) := by decide +kernel
theorem dX3_sets_7 : decode cX3_sets 7 = .ok (.aload_n 0, 1) := by decide +kernel
theorem dX3_sets_8 : decode cX3_sets 8 = .ok (.getfield 9, 3) := by decide +kernel
theorem dX3_sets_11 : decode cX3_sets 11 = .ok (.iload_n 1, 1) := by decide +kernel
theorem dX3_sets_12 : decode cX3_sets 12 = .ok (.iload_n 2, 1) := by decide +kernel
theorem dX3_sets_13 : decode cX3_sets 13 = .ok (.iastore, 1) := by decide +kernel
theorem dX3_sets_14 : decode cX3_sets 14 = .ok (.iload_n 3, 1) := by decide +kernel
theorem dX3_sets_15 : decode cX3_sets 15 = .ok (.ireturn, 1) := by decide +kernel
theorem dX3_befriends_0 : decode cX3_befriends 0 = .ok (.aload_n 0, 1) := by decide +kernel
theorem dX3_befriends_1 : decode cX3_befriends 1 = .ok (.iload_n 1, 1) := by decide +kernel
theorem dX3_befriends_2 : decode cX3_befriends 2 = .ok (.invokevirtual 100, 3) := by decide +kernel
theorem dX3_befriends_5 : decode cX3_befriends 5 = .ok (.ifCond .eq 26, 3) := by decide +kernel
theorem dX3_befriends_8 : decode cX3_befriends 8 = .ok (.iload_n 2, 1) := by decide +kernel
theorem dX3_befriends_9 : decode cX3_befriends 9 = .ok (.iconst 0, 1) := by decide +kernel
theorem dX3_befriends_10 : decode cX3_befriends 10 = .ok (.iconst 5, 1) := by decide +kernel
theorem dX3_befriends_11 : decode cX3_befriends 11 = .ok (.invokestatic 40, 3) := by decide +kernel
theorem dX3_befriends_14 : decode cX3_befriends 14 = .ok (.ifCond .eq 17, 3) := by decide +kernel
theorem dX3_befriends_17 : decode cX3_befriends 17 = .ok (.aload_n 0, 1) := by decide +kernel
theorem dX3_befriends_18 : decode cX3_befriends 18 = .ok (.iload_n 1, 1) := by decide +kernel
theorem dX3_befriends_19 : decode cX3_befriends 19 = .ok (.bipush 6, 2) := by decide +kernel
theorem dX3_befriends_21 : decode cX3_befriends 21 = .ok (.invokestatic 52, 3) := by decide +kernel
theorem dX3_befriends_24 : decode cX3_befriends 24 = .ok (.iload_n 2, 1) := by decide +kernel
theorem dX3_befriends_25 : decode cX3_befriends 25 = .ok (.invokevirtual 123, 3) := by decide +kernel
theorem dX3_befriends_28 : decode cX3_befriends 28 = .ok (.goto 8, 3) := by decide +kernel
theorem dX3_befriends_31 : decode cX3_befriends 31 = .ok (.aload_n 0, 1) := by decide +kernel
theorem dX3_befriends_32 : decode cX3_befriends 32 = .ok (.iconst (-1), 1) := by decide +kernel
theorem dX3_befriends_33 : decode cX3_befriends 33 = .ok (.invokevirtual 36, 3) := by decide +kernel
theorem dX3_befriends_36 : decode cX3_befriends 36 = .ok (.ireturn, 1) := by decide +kernel
theorem dX3_wrongBy_0 : decode cX3_wrongBy 0 = .ok (.iload_n 0, 1) := by decide +kernel
theorem dX3_wrongBy_1 : decode cX3_wrongBy 1 = .ok (.iload_n 1, 1) := by decide +kernel
theorem dX3_wrongBy_2 : decode cX3_wrongBy 2 = .ok (.if_icmp .ge 8, 3) := by decide +kernel
theorem dX3_wrongBy_5 : decode cX3_wrongBy 5 = .ok (.bipush (-4), 2) := by decide +kernel
theorem dX3_wrongBy_7 : decode cX3_wrongBy 7 = .ok (.goto 14, 3) := by decide +kernel
theorem dX3_wrongBy_10 : decode cX3_wrongBy 10 = .ok (.iload_n 0, 1) := by decide +kernel
theorem dX3_wrongBy_11 : decode cX3_wrongBy 11 = .ok (.iload_n 2, 1) := by decide +kernel
theorem dX3_wrongBy_12 : decode cX3_wrongBy 12 = .ok (.if_icmp .le 8, 3) := by decide +kernel
theorem dX3_wrongBy_15 : decode cX3_wrongBy 15 = .ok (.bipush (-6), 2) := by decide +kernel
theorem dX3_wrongBy_17 : decode cX3_wrongBy 17 = .ok (.goto 4, 3) := by decide +kernel
theorem dX3_wrongBy_20 : decode cX3_wrongBy 20 = .ok (.iconst 0, 1) := by decide +kernel
theorem dX3_wrongBy_21 : decode cX3_wrongBy 21 = .ok (.ireturn, 1) := by decide +kernel
theorem dX3_setsOf_0 : decode cX3_setsOf 0 = .ok (.aload_n 0, 1) := by decide +kernel
theorem dX3_setsOf_1 : decode cX3_setsOf 1 = .ok (.iload_n 1, 1) := by decide +kernel
theorem dX3_setsOf_2 : decode cX3_setsOf 2 = .ok (.invokevirtual 100, 3) := by decide +kernel
theorem dX3_setsOf_5 : decode cX3_setsOf 5 = .ok (.ifCond .eq 13, 3) := by decide +kernel
theorem dX3_setsOf_8 : decode cX3_setsOf 8 = .ok (.iload_n 3, 1) := by decide +kernel
theorem dX3_setsOf_9 : decode cX3_setsOf 9 = .ok (.iconst 0, 1) := by decide +kernel
theorem dX3_setsOf_10 : decode cX3_setsOf 10 = .ok (.iload 4, 2) := by decide +kernel
theorem dX3_setsOf_12 : decode cX3_setsOf 12 = .ok (.invokestatic 126, 3) := by decide +kernel
theorem dX3_setsOf_15 : decode cX3_setsOf 15 = .ok (.goto 4, 3) := by decide +kernel
theorem dX3_setsOf_18 : decode cX3_setsOf 18 = .ok (.iconst (-1), 1) := by decide +kernel
theorem dX3_setsOf_19 : decode cX3_setsOf 19 = .ok (.istore 5, 2) := by decide +kernel
theorem dX3_setsOf_21 : decode cX3_setsOf 21 = .ok (.iload 5, 2) := by decide +kernel
theorem dX3_setsOf_23 : decode cX3_setsOf 23 = .ok (.ifCond .eq 12, 3) := by decide +kernel
theorem dX3_setsOf_26 : decode cX3_setsOf 26 = .ok (.aload_n 0, 1) := by decide +kernel
theorem dX3_setsOf_27 : decode cX3_setsOf 27 = .ok (.iload 5, 2) := by decide +kernel
theorem dX3_setsOf_29 : decode cX3_setsOf 29 = .ok (.invokevirtual 36, 3) := by decide +kernel
theorem dX3_setsOf_32 : decode cX3_setsOf 32 = .ok (.goto 13, 3) := by decide +kernel
theorem dX3_setsOf_35 : decode cX3_setsOf 35 = .ok (.aload_n 0, 1) := by decide +kernel
theorem dX3_setsOf_36 : decode cX3_setsOf 36 = .ok (.iload_n 1, 1) := by decide +kernel
theorem dX3_setsOf_37 : decode cX3_setsOf 37 = .ok (.iload_n 2, 1) := by decide +kernel
theorem dX3_setsOf_38 : decode cX3_setsOf 38 = .ok (.invokestatic 52, 3) := by decide +kernel
theorem dX3_setsOf_41 : decode cX3_setsOf 41 = .ok (.iload_n 3, 1) := by decide +kernel
theorem dX3_setsOf_42 : decode cX3_setsOf 42 = .ok (.invokevirtual 123, 3) := by decide +kernel
theorem dX3_setsOf_45 : decode cX3_setsOf 45 = .ok (.ireturn, 1) := by decide +kernel
theorem dX3_pours_0 : decode cX3_pours 0 = .ok (.aload_n 0, 1) := by decide +kernel
theorem dX3_pours_1 : decode cX3_pours 1 = .ok (.iload_n 1, 1) := by decide +kernel
theorem dX3_pours_2 : decode cX3_pours 2 = .ok (.iconst 3, 1) := by decide +kernel
theorem dX3_pours_3 : decode cX3_pours 3 = .ok (.iload_n 2, 1) := by decide +kernel
theorem dX3_pours_4 : decode cX3_pours 4 = .ok (.bipush 99, 2) := by decide +kernel
theorem dX3_pours_6 : decode cX3_pours 6 = .ok (.invokevirtual 130, 3) := by decide +kernel
theorem dX3_pours_9 : decode cX3_pours 9 = .ok (.ireturn, 1) := by decide +kernel
theorem dX3_cans_0 : decode cX3_cans 0 = .ok (.aload_n 0, 1) := by decide +kernel
theorem dX3_cans_1 : decode cX3_cans 1 = .ok (.iload_n 1, 1) := by decide +kernel
theorem dX3_cans_2 : decode cX3_cans 2 = .ok (.iconst 2, 1) := by decide +kernel
theorem dX3_cans_3 : decode cX3_cans 3 = .ok (.iload_n 2, 1) := by decide +kernel
theorem dX3_cans_4 : decode cX3_cans 4 = .ok (.bipush 9, 2) := by decide +kernel
theorem dX3_cans_6 : decode cX3_cans 6 = .ok (.invokevirtual 130, 3) := by decide +kernel
theorem dX3_cans_9 : decode cX3_cans 9 = .ok (.ireturn, 1) := by decide +kernel
theorem dX3_setsIn_0 : decode cX3_setsIn 0 = .ok (.iload_n 2, 1) := by decide +kernel
theorem dX3_setsIn_1 : decode cX3_setsIn 1 = .ok (.iconst 0, 1) := by decide +kernel
theorem dX3_setsIn_2 : decode cX3_setsIn 2 = .ok (.iload_n 3, 1) := by decide +kernel
theorem dX3_setsIn_3 : decode cX3_setsIn 3 = .ok (.invokestatic 126, 3) := by decide +kernel
theorem dX3_setsIn_6 : decode cX3_setsIn 6 = .ok (.istore 4, 2) := by decide +kernel
theorem dX3_setsIn_8 : decode cX3_setsIn 8 = .ok (.iload 4, 2) := by decide +kernel
theorem dX3_setsIn_10 : decode cX3_setsIn 10 = .ok (.ifCond .eq 12, 3) := by decide +kernel
theorem dX3_setsIn_13 : decode cX3_setsIn 13 = .ok (.aload_n 0, 1) := by decide +kernel
theorem dX3_setsIn_14 : decode cX3_setsIn 14 = .ok (.iload 4, 2) := by decide +kernel
theorem dX3_setsIn_16 : decode cX3_setsIn 16 = .ok (.invokevirtual 36, 3) := by decide +kernel
theorem dX3_setsIn_19 : decode cX3_setsIn 19 = .ok (.goto 9, 3) := by decide +kernel
theorem dX3_setsIn_22 : decode cX3_setsIn 22 = .ok (.aload_n 0, 1) := by decide +kernel
theorem dX3_setsIn_23 : decode cX3_setsIn 23 = .ok (.iload_n 1, 1) := by decide +kernel
theorem dX3_setsIn_24 : decode cX3_setsIn 24 = .ok (.iload_n 2, 1) := by decide +kernel
theorem dX3_setsIn_25 : decode cX3_setsIn 25 = .ok (.invokevirtual 123, 3) := by decide +kernel
theorem dX3_setsIn_28 : decode cX3_setsIn 28 = .ok (.ireturn, 1) := by decide +kernel
theorem dX3_water_0 : decode cX3_water 0 = .ok (.aload_n 0, 1) := by decide +kernel
theorem dX3_water_1 : decode cX3_water 1 = .ok (.iconst 2, 1) := by decide +kernel
theorem dX3_water_2 : decode cX3_water 2 = .ok (.iload_n 1, 1) := by decide +kernel
theorem dX3_water_3 : decode cX3_water 3 = .ok (.bipush 99, 2) := by decide +kernel
theorem dX3_water_5 : decode cX3_water 5 = .ok (.invokevirtual 134, 3) := by decide +kernel
theorem dX3_water_8 : decode cX3_water 8 = .ok (.ireturn, 1) := by decide +kernel
theorem dX3_flow_0 : decode cX3_flow 0 = .ok (.aload_n 0, 1) := by decide +kernel
theorem dX3_flow_1 : decode cX3_flow 1 = .ok (.iconst 3, 1) := by decide +kernel
theorem dX3_flow_2 : decode cX3_flow 2 = .ok (.iload_n 1, 1) := by decide +kernel
theorem dX3_flow_3 : decode cX3_flow 3 = .ok (.bipush 30, 2) := by decide +kernel
theorem dX3_flow_5 : decode cX3_flow 5 = .ok (.invokevirtual 134, 3) := by decide +kernel
theorem dX3_flow_8 : decode cX3_flow 8 = .ok (.ireturn, 1) := by decide +kernel
theorem dX3_turn_0 : decode cX3_turn 0 = .ok (.aload_n 0, 1) := by decide +kernel
theorem dX3_turn_1 : decode cX3_turn 1 = .ok (.iload_n 1, 1) := by decide +kernel
theorem dX3_turn_2 : decode cX3_turn 2 = .ok (.invokevirtual 100, 3) := by decide +kernel
theorem dX3_turn_5 : decode cX3_turn 5 = .ok (.ifCond .ne 7, 3) := by decide +kernel
theorem dX3_turn_8 : decode cX3_turn 8 = .ok (.iconst (-1), 1) := by decide +kernel
theorem dX3_turn_9 : decode cX3_turn 9 = .ok (.goto 24, 3) := by decide +kernel
theorem dX3_turn_12 : decode cX3_turn 12 = .ok (.iload_n 2, 1) := by decide +kernel
theorem dX3_turn_13 : decode cX3_turn 13 = .ok (.iconst 0, 1) := by decide +kernel
theorem dX3_turn_14 : decode cX3_turn 14 = .ok (.iconst 5, 1) := by decide +kernel
theorem dX3_turn_15 : decode cX3_turn 15 = .ok (.invokestatic 40, 3) := by decide +kernel
theorem dX3_turn_18 : decode cX3_turn 18 = .ok (.ifCond .ne 8, 3) := by decide +kernel
theorem dX3_turn_21 : decode cX3_turn 21 = .ok (.bipush (-2), 2) := by decide +kernel
theorem dX3_turn_23 : decode cX3_turn 23 = .ok (.goto 10, 3) := by decide +kernel
theorem dX3_turn_26 : decode cX3_turn 26 = .ok (.iload_n 3, 1) := by decide +kernel
theorem dX3_turn_27 : decode cX3_turn 27 = .ok (.iconst 0, 1) := by decide +kernel
theorem dX3_turn_28 : decode cX3_turn 28 = .ok (.bipush 9, 2) := by decide +kernel
theorem dX3_turn_30 : decode cX3_turn 30 = .ok (.invokestatic 126, 3) := by decide +kernel
theorem dX3_turn_33 : decode cX3_turn 33 = .ok (.istore 4, 2) := by decide +kernel
theorem dX3_turn_35 : decode cX3_turn 35 = .ok (.iload 4, 2) := by decide +kernel
theorem dX3_turn_37 : decode cX3_turn 37 = .ok (.ifCond .eq 10, 3) := by decide +kernel
theorem dX3_turn_40 : decode cX3_turn 40 = .ok (.aload_n 0, 1) := by decide +kernel
theorem dX3_turn_41 : decode cX3_turn 41 = .ok (.iload 4, 2) := by decide +kernel
theorem dX3_turn_43 : decode cX3_turn 43 = .ok (.invokevirtual 36, 3) := by decide +kernel
theorem dX3_turn_46 : decode cX3_turn 46 = .ok (.ireturn, 1) := by decide +kernel
theorem dX3_turn_47 : decode cX3_turn 47 = .ok (.bipush 10, 2) := by decide +kernel
theorem dX3_turn_49 : decode cX3_turn 49 = .ok (.aload_n 0, 1) := by decide +kernel
theorem dX3_turn_50 : decode cX3_turn 50 = .ok (.getfield 9, 3) := by decide +kernel
theorem dX3_turn_53 : decode cX3_turn 53 = .ok (.iload_n 1, 1) := by decide +kernel
theorem dX3_turn_54 : decode cX3_turn 54 = .ok (.iconst 0, 1) := by decide +kernel
theorem dX3_turn_55 : decode cX3_turn 55 = .ok (.invokestatic 52, 3) := by decide +kernel
theorem dX3_turn_58 : decode cX3_turn 58 = .ok (.iaload, 1) := by decide +kernel
theorem dX3_turn_59 : decode cX3_turn 59 = .ok (.imul, 1) := by decide +kernel
theorem dX3_turn_60 : decode cX3_turn 60 = .ok (.aload_n 0, 1) := by decide +kernel
theorem dX3_turn_61 : decode cX3_turn 61 = .ok (.getfield 9, 3) := by decide +kernel
theorem dX3_turn_64 : decode cX3_turn 64 = .ok (.iload_n 1, 1) := by decide +kernel
theorem dX3_turn_65 : decode cX3_turn 65 = .ok (.iconst 1, 1) := by decide +kernel
theorem dX3_turn_66 : decode cX3_turn 66 = .ok (.invokestatic 52, 3) := by decide +kernel
theorem dX3_turn_69 : decode cX3_turn 69 = .ok (.iaload, 1) := by decide +kernel
theorem dX3_turn_70 : decode cX3_turn 70 = .ok (.iadd, 1) := by decide +kernel
theorem dX3_turn_71 : decode cX3_turn 71 = .ok (.istore 5, 2) := by decide +kernel
theorem dX3_turn_73 : decode cX3_turn 73 = .ok (.aload_n 0, 1) := by decide +kernel
theorem dX3_turn_74 : decode cX3_turn 74 = .ok (.getfield 9, 3) := by decide +kernel
theorem dX3_turn_77 : decode cX3_turn 77 = .ok (.iload_n 1, 1) := by decide +kernel
theorem dX3_turn_78 : decode cX3_turn 78 = .ok (.iconst 0, 1) := by decide +kernel
theorem dX3_turn_79 : decode cX3_turn 79 = .ok (.invokestatic 52, 3) := by decide +kernel
theorem dX3_turn_82 : decode cX3_turn 82 = .ok (.iload_n 2, 1) := by decide +kernel
theorem dX3_turn_83 : decode cX3_turn 83 = .ok (.iastore, 1) := by decide +kernel
theorem dX3_turn_84 : decode cX3_turn 84 = .ok (.aload_n 0, 1) := by decide +kernel
theorem dX3_turn_85 : decode cX3_turn 85 = .ok (.getfield 9, 3) := by decide +kernel
theorem dX3_turn_88 : decode cX3_turn 88 = .ok (.iload_n 1, 1) := by decide +kernel
theorem dX3_turn_89 : decode cX3_turn 89 = .ok (.iconst 1, 1) := by decide +kernel
theorem dX3_turn_90 : decode cX3_turn 90 = .ok (.invokestatic 52, 3) := by decide +kernel
theorem dX3_turn_93 : decode cX3_turn 93 = .ok (.iload_n 3, 1) := by decide +kernel
theorem dX3_turn_94 : decode cX3_turn 94 = .ok (.iastore, 1) := by decide +kernel
theorem dX3_turn_95 : decode cX3_turn 95 = .ok (.iload 5, 2) := by decide +kernel
theorem dX3_turn_97 : decode cX3_turn 97 = .ok (.ireturn, 1) := by decide +kernel
theorem dX3_hours_0 : decode cX3_hours 0 = .ok (.iload_n 1, 1) := by decide +kernel
theorem dX3_hours_1 : decode cX3_hours 1 = .ok (.iconst 1, 1) := by decide +kernel
theorem dX3_hours_2 : decode cX3_hours 2 = .ok (.if_icmp .ge 10, 3) := by decide +kernel
theorem dX3_hours_5 : decode cX3_hours 5 = .ok (.aload_n 0, 1) := by decide +kernel
theorem dX3_hours_6 : decode cX3_hours 6 = .ok (.bipush (-4), 2) := by decide +kernel
theorem dX3_hours_8 : decode cX3_hours 8 = .ok (.invokevirtual 36, 3) := by decide +kernel
theorem dX3_hours_11 : decode cX3_hours 11 = .ok (.ireturn, 1) := by decide +kernel
theorem dX3_hours_12 : decode cX3_hours 12 = .ok (.iload_n 1, 1) := by decide +kernel
theorem dX3_hours_13 : decode cX3_hours 13 = .ok (.bipush 60, 2) := by decide +kernel
theorem dX3_hours_15 : decode cX3_hours 15 = .ok (.if_icmp .gt 17, 3) := by decide +kernel
theorem dX3_hours_18 : decode cX3_hours 18 = .ok (.aload_n 0, 1) := by decide +kernel
theorem dX3_hours_19 : decode cX3_hours 19 = .ok (.getfield 9, 3) := by decide +kernel
theorem dX3_hours_22 : decode cX3_hours 22 = .ok (.iconst 1, 1) := by decide +kernel
theorem dX3_hours_23 : decode cX3_hours 23 = .ok (.iaload, 1) := by decide +kernel
theorem dX3_hours_24 : decode cX3_hours 24 = .ok (.iload_n 1, 1) := by decide +kernel
theorem dX3_hours_25 : decode cX3_hours 25 = .ok (.iadd, 1) := by decide +kernel
theorem dX3_hours_26 : decode cX3_hours 26 = .ok (.sipush 999, 3) := by decide +kernel
theorem dX3_hours_29 : decode cX3_hours 29 = .ok (.if_icmp .le 10, 3) := by decide +kernel
theorem dX3_hours_32 : decode cX3_hours 32 = .ok (.aload_n 0, 1) := by decide +kernel
theorem dX3_hours_33 : decode cX3_hours 33 = .ok (.bipush (-6), 2) := by decide +kernel
theorem dX3_hours_35 : decode cX3_hours 35 = .ok (.invokevirtual 36, 3) := by decide +kernel
theorem dX3_hours_38 : decode cX3_hours 38 = .ok (.ireturn, 1) := by decide +kernel
theorem dX3_hours_39 : decode cX3_hours 39 = .ok (.aload_n 0, 1) := by decide +kernel
theorem dX3_hours_40 : decode cX3_hours 40 = .ok (.getfield 9, 3) := by decide +kernel
theorem dX3_hours_43 : decode cX3_hours 43 = .ok (.iload_n 1, 1) := by decide +kernel
theorem dX3_hours_44 : decode cX3_hours 44 = .ok (.invokestatic 104, 3) := by decide +kernel
theorem dX3_hours_47 : decode cX3_hours 47 = .ok (.aload_n 0, 1) := by decide +kernel
theorem dX3_hours_48 : decode cX3_hours 48 = .ok (.getfield 9, 3) := by decide +kernel
theorem dX3_hours_51 : decode cX3_hours 51 = .ok (.iconst 2, 1) := by decide +kernel
theorem dX3_hours_52 : decode cX3_hours 52 = .ok (.iaload, 1) := by decide +kernel
theorem dX3_hours_53 : decode cX3_hours 53 = .ok (.ireturn, 1) := by decide +kernel
theorem dX3_takes_0 : decode cX3_takes 0 = .ok (.aload_n 0, 1) := by decide +kernel
theorem dX3_takes_1 : decode cX3_takes 1 = .ok (.getfield 9, 3) := by decide +kernel
theorem dX3_takes_4 : decode cX3_takes 4 = .ok (.aload_n 0, 1) := by decide +kernel
theorem dX3_takes_5 : decode cX3_takes 5 = .ok (.getfield 13, 3) := by decide +kernel
theorem dX3_takes_8 : decode cX3_takes 8 = .ok (.invokestatic 110, 3) := by decide +kernel
theorem dX3_takes_11 : decode cX3_takes 11 = .ok (.aload_n 0, 1) := by decide +kernel
theorem dX3_takes_12 : decode cX3_takes 12 = .ok (.getfield 13, 3) := by decide +kernel
theorem dX3_takes_15 : decode cX3_takes 15 = .ok (.iload_n 1, 1) := by decide +kernel
theorem dX3_takes_16 : decode cX3_takes 16 = .ok (.invokestatic 104, 3) := by decide +kernel
theorem dX3_takes_19 : decode cX3_takes 19 = .ok (.return_, 1) := by decide +kernel
theorem dX3_hasThen_0 : decode cX3_hasThen 0 = .ok (.aload_n 0, 1) := by decide +kernel
theorem dX3_hasThen_1 : decode cX3_hasThen 1 = .ok (.iload_n 1, 1) := by decide +kernel
theorem dX3_hasThen_2 : decode cX3_hasThen 2 = .ok (.invokevirtual 100, 3) := by decide +kernel
theorem dX3_hasThen_5 : decode cX3_hasThen 5 = .ok (.ifCond .eq 13, 3) := by decide +kernel
theorem dX3_hasThen_8 : decode cX3_hasThen 8 = .ok (.iload_n 2, 1) := by decide +kernel
theorem dX3_hasThen_9 : decode cX3_hasThen 9 = .ok (.iconst 0, 1) := by decide +kernel
theorem dX3_hasThen_10 : decode cX3_hasThen 10 = .ok (.bipush 60, 2) := by decide +kernel
theorem dX3_hasThen_12 : decode cX3_hasThen 12 = .ok (.invokestatic 126, 3) := by decide +kernel
theorem dX3_hasThen_15 : decode cX3_hasThen 15 = .ok (.goto 4, 3) := by decide +kernel
theorem dX3_hasThen_18 : decode cX3_hasThen 18 = .ok (.iconst (-1), 1) := by decide +kernel
theorem dX3_hasThen_19 : decode cX3_hasThen 19 = .ok (.istore_n 3, 1) := by decide +kernel
theorem dX3_hasThen_20 : decode cX3_hasThen 20 = .ok (.iload_n 3, 1) := by decide +kernel
theorem dX3_hasThen_21 : decode cX3_hasThen 21 = .ok (.ifCond .eq 9, 3) := by decide +kernel
theorem dX3_hasThen_24 : decode cX3_hasThen 24 = .ok (.aload_n 0, 1) := by decide +kernel
theorem dX3_hasThen_25 : decode cX3_hasThen 25 = .ok (.iload_n 3, 1) := by decide +kernel
theorem dX3_hasThen_26 : decode cX3_hasThen 26 = .ok (.invokevirtual 36, 3) := by decide +kernel
theorem dX3_hasThen_29 : decode cX3_hasThen 29 = .ok (.ireturn, 1) := by decide +kernel
theorem dX3_hasThen_30 : decode cX3_hasThen 30 = .ok (.aload_n 0, 1) := by decide +kernel
theorem dX3_hasThen_31 : decode cX3_hasThen 31 = .ok (.iload_n 2, 1) := by decide +kernel
theorem dX3_hasThen_32 : decode cX3_hasThen 32 = .ok (.invokevirtual 137, 3) := by decide +kernel
theorem dX3_hasThen_35 : decode cX3_hasThen 35 = .ok (.aload_n 0, 1) := by decide +kernel
theorem dX3_hasThen_36 : decode cX3_hasThen 36 = .ok (.getfield 13, 3) := by decide +kernel
theorem dX3_hasThen_39 : decode cX3_hasThen 39 = .ok (.iload_n 1, 1) := by decide +kernel
theorem dX3_hasThen_40 : decode cX3_hasThen 40 = .ok (.iconst 3, 1) := by decide +kernel
theorem dX3_hasThen_41 : decode cX3_hasThen 41 = .ok (.invokestatic 52, 3) := by decide +kernel
theorem dX3_hasThen_44 : decode cX3_hasThen 44 = .ok (.iaload, 1) := by decide +kernel
theorem dX3_hasThen_45 : decode cX3_hasThen 45 = .ok (.ireturn, 1) := by decide +kernel
theorem dX3_then_0 : decode cX3_then 0 = .ok (.iload_n 1, 1) := by decide +kernel
theorem dX3_then_1 : decode cX3_then 1 = .ok (.iconst 0, 1) := by decide +kernel
theorem dX3_then_2 : decode cX3_then 2 = .ok (.bipush 60, 2) := by decide +kernel
theorem dX3_then_4 : decode cX3_then 4 = .ok (.invokestatic 126, 3) := by decide +kernel
theorem dX3_then_7 : decode cX3_then 7 = .ok (.istore_n 3, 1) := by decide +kernel
theorem dX3_then_8 : decode cX3_then 8 = .ok (.iload_n 3, 1) := by decide +kernel
theorem dX3_then_9 : decode cX3_then 9 = .ok (.ifCond .ne 15, 3) := by decide +kernel
theorem dX3_then_12 : decode cX3_then 12 = .ok (.iload_n 2, 1) := by decide +kernel
theorem dX3_then_13 : decode cX3_then 13 = .ok (.iconst 0, 1) := by decide +kernel
theorem dX3_then_14 : decode cX3_then 14 = .ok (.iconst 3, 1) := by decide +kernel
theorem dX3_then_15 : decode cX3_then 15 = .ok (.invokestatic 40, 3) := by decide +kernel
theorem dX3_then_18 : decode cX3_then 18 = .ok (.ifCond .ne 6, 3) := by decide +kernel
theorem dX3_then_21 : decode cX3_then 21 = .ok (.bipush (-2), 2) := by decide +kernel
theorem dX3_then_23 : decode cX3_then 23 = .ok (.istore_n 3, 1) := by decide +kernel
theorem dX3_then_24 : decode cX3_then 24 = .ok (.iload_n 3, 1) := by decide +kernel
theorem dX3_then_25 : decode cX3_then 25 = .ok (.ifCond .eq 9, 3) := by decide +kernel
theorem dX3_then_28 : decode cX3_then 28 = .ok (.aload_n 0, 1) := by decide +kernel
theorem dX3_then_29 : decode cX3_then 29 = .ok (.iload_n 3, 1) := by decide +kernel
theorem dX3_then_30 : decode cX3_then 30 = .ok (.invokevirtual 36, 3) := by decide +kernel
theorem dX3_then_33 : decode cX3_then 33 = .ok (.ireturn, 1) := by decide +kernel
theorem dX3_then_34 : decode cX3_then 34 = .ok (.aload_n 0, 1) := by decide +kernel
theorem dX3_then_35 : decode cX3_then 35 = .ok (.iload_n 1, 1) := by decide +kernel
theorem dX3_then_36 : decode cX3_then 36 = .ok (.invokevirtual 137, 3) := by decide +kernel
theorem dX3_then_39 : decode cX3_then 39 = .ok (.iload_n 2, 1) := by decide +kernel
theorem dX3_then_40 : decode cX3_then 40 = .ok (.ifCond .ne 12, 3) := by decide +kernel
theorem dX3_then_43 : decode cX3_then 43 = .ok (.aload_n 0, 1) := by decide +kernel
theorem dX3_then_44 : decode cX3_then 44 = .ok (.getfield 13, 3) := by decide +kernel
theorem dX3_then_47 : decode cX3_then 47 = .ok (.iconst 2, 1) := by decide +kernel
theorem dX3_then_48 : decode cX3_then 48 = .ok (.iaload, 1) := by decide +kernel
theorem dX3_then_49 : decode cX3_then 49 = .ok (.goto 42, 3) := by decide +kernel
theorem dX3_then_52 : decode cX3_then 52 = .ok (.iload_n 2, 1) := by decide +kernel
theorem dX3_then_53 : decode cX3_then 53 = .ok (.iconst 1, 1) := by decide +kernel
theorem dX3_then_54 : decode cX3_then 54 = .ok (.if_icmp .ne 14, 3) := by decide +kernel
theorem dX3_then_57 : decode cX3_then 57 = .ok (.aload_n 0, 1) := by decide +kernel
theorem dX3_then_58 : decode cX3_then 58 = .ok (.getfield 13, 3) := by decide +kernel
theorem dX3_then_61 : decode cX3_then 61 = .ok (.iconst 4, 1) := by decide +kernel
theorem dX3_then_62 : decode cX3_then 62 = .ok (.invokestatic 117, 3) := by decide +kernel
theorem dX3_then_65 : decode cX3_then 65 = .ok (.goto 26, 3) := by decide +kernel
theorem dX3_then_68 : decode cX3_then 68 = .ok (.iload_n 2, 1) := by decide +kernel
theorem dX3_then_69 : decode cX3_then 69 = .ok (.iconst 2, 1) := by decide +kernel
theorem dX3_then_70 : decode cX3_then 70 = .ok (.if_icmp .ne 14, 3) := by decide +kernel
theorem dX3_then_73 : decode cX3_then 73 = .ok (.aload_n 0, 1) := by decide +kernel
theorem dX3_then_74 : decode cX3_then 74 = .ok (.getfield 13, 3) := by decide +kernel
theorem dX3_then_77 : decode cX3_then 77 = .ok (.iconst 5, 1) := by decide +kernel
theorem dX3_then_78 : decode cX3_then 78 = .ok (.invokestatic 117, 3) := by decide +kernel
theorem dX3_then_81 : decode cX3_then 81 = .ok (.goto 10, 3) := by decide +kernel
theorem dX3_then_84 : decode cX3_then 84 = .ok (.aload_n 0, 1) := by decide +kernel
theorem dX3_then_85 : decode cX3_then 85 = .ok (.getfield 13, 3) := by decide +kernel
theorem dX3_then_88 : decode cX3_then 88 = .ok (.invokestatic 141, 3) := by decide +kernel
theorem dX3_then_91 : decode cX3_then 91 = .ok (.ireturn, 1) := by decide +kernel
theorem dX3_whenNothing_0 : decode cX3_whenNothing 0 = .ok (.aload_n 0, 1) := by decide +kernel
theorem dX3_whenNothing_1 : decode cX3_whenNothing 1 = .ok (.getfield 9, 3) := by decide +kernel
theorem dX3_whenNothing_4 : decode cX3_whenNothing 4 = .ok (.aload_n 0, 1) := by decide +kernel
theorem dX3_whenNothing_5 : decode cX3_whenNothing 5 = .ok (.getfield 13, 3) := by decide +kernel
theorem dX3_whenNothing_8 : decode cX3_whenNothing 8 = .ok (.invokestatic 110, 3) := by decide +kernel
theorem dX3_whenNothing_11 : decode cX3_whenNothing 11 = .ok (.iconst 0, 1) := by decide +kernel
theorem dX3_whenNothing_12 : decode cX3_whenNothing 12 = .ok (.istore_n 2, 1) := by decide +kernel
theorem dX3_whenNothing_13 : decode cX3_whenNothing 13 = .ok (.iload_n 2, 1) := by decide +kernel
theorem dX3_whenNothing_14 : decode cX3_whenNothing 14 = .ok (.bipush 60, 2) := by decide +kernel
theorem dX3_whenNothing_16 : decode cX3_whenNothing 16 = .ok (.if_icmp .gt 28, 3) := by decide +kernel
theorem dX3_whenNothing_19 : decode cX3_whenNothing 19 = .ok (.aload_n 0, 1) := by decide +kernel
theorem dX3_whenNothing_20 : decode cX3_whenNothing 20 = .ok (.getfield 13, 3) := by decide +kernel
theorem dX3_whenNothing_23 : decode cX3_whenNothing 23 = .ok (.iload_n 1, 1) := by decide +kernel
theorem dX3_whenNothing_24 : decode cX3_whenNothing 24 = .ok (.iaload, 1) := by decide +kernel
theorem dX3_whenNothing_25 : decode cX3_whenNothing 25 = .ok (.ifCond .ne 5, 3) := by decide +kernel
theorem dX3_whenNothing_28 : decode cX3_whenNothing 28 = .ok (.iload_n 2, 1) := by decide +kernel
theorem dX3_whenNothing_29 : decode cX3_whenNothing 29 = .ok (.ireturn, 1) := by decide +kernel
theorem dX3_whenNothing_30 : decode cX3_whenNothing 30 = .ok (.aload_n 0, 1) := by decide +kernel
theorem dX3_whenNothing_31 : decode cX3_whenNothing 31 = .ok (.getfield 13, 3) := by decide +kernel
theorem dX3_whenNothing_34 : decode cX3_whenNothing 34 = .ok (.iconst 0, 1) := by decide +kernel
theorem dX3_whenNothing_35 : decode cX3_whenNothing 35 = .ok (.invokestatic 73, 3) := by decide +kernel
theorem dX3_whenNothing_38 : decode cX3_whenNothing 38 = .ok (.iinc 2 1, 3) := by decide +kernel
theorem dX3_whenNothing_41 : decode cX3_whenNothing 41 = .ok (.goto (-28), 3) := by decide +kernel
theorem dX3_whenNothing_44 : decode cX3_whenNothing 44 = .ok (.bipush (-9), 2) := by decide +kernel
theorem dX3_whenNothing_46 : decode cX3_whenNothing 46 = .ok (.ireturn, 1) := by decide +kernel
theorem dX3_firstDry_0 : decode cX3_firstDry 0 = .ok (.bipush (-9), 2) := by decide +kernel
theorem dX3_firstDry_2 : decode cX3_firstDry 2 = .ok (.istore_n 1, 1) := by decide +kernel
theorem dX3_firstDry_3 : decode cX3_firstDry 3 = .ok (.ldc 145, 2) := by decide +kernel
theorem dX3_firstDry_5 : decode cX3_firstDry 5 = .ok (.istore_n 2, 1) := by decide +kernel
theorem dX3_firstDry_6 : decode cX3_firstDry 6 = .ok (.iconst 0, 1) := by decide +kernel
theorem dX3_firstDry_7 : decode cX3_firstDry 7 = .ok (.istore_n 3, 1) := by decide +kernel
theorem dX3_firstDry_8 : decode cX3_firstDry 8 = .ok (.iload_n 3, 1) := by decide +kernel
theorem dX3_firstDry_9 : decode cX3_firstDry 9 = .ok (.aload_n 0, 1) := by decide +kernel
theorem dX3_firstDry_10 : decode cX3_firstDry 10 = .ok (.getfield 9, 3) := by decide +kernel
theorem dX3_firstDry_13 : decode cX3_firstDry 13 = .ok (.iconst 0, 1) := by decide +kernel
theorem dX3_firstDry_14 : decode cX3_firstDry 14 = .ok (.iaload, 1) := by decide +kernel
theorem dX3_firstDry_15 : decode cX3_firstDry 15 = .ok (.if_icmp .ge 39, 3) := by decide +kernel
theorem dX3_firstDry_18 : decode cX3_firstDry 18 = .ok (.aload_n 0, 1) := by decide +kernel
theorem dX3_firstDry_19 : decode cX3_firstDry 19 = .ok (.iload_n 3, 1) := by decide +kernel
theorem dX3_firstDry_20 : decode cX3_firstDry 20 = .ok (.iconst 3, 1) := by decide +kernel
theorem dX3_firstDry_21 : decode cX3_firstDry 21 = .ok (.invokestatic 52, 3) := by decide +kernel
theorem dX3_firstDry_24 : decode cX3_firstDry 24 = .ok (.invokevirtual 146, 3) := by decide +kernel
theorem dX3_firstDry_27 : decode cX3_firstDry 27 = .ok (.istore 4, 2) := by decide +kernel
theorem dX3_firstDry_29 : decode cX3_firstDry 29 = .ok (.iload 4, 2) := by decide +kernel
theorem dX3_firstDry_31 : decode cX3_firstDry 31 = .ok (.ifCond .lt 17, 3) := by decide +kernel
theorem dX3_firstDry_34 : decode cX3_firstDry 34 = .ok (.iload 4, 2) := by decide +kernel
theorem dX3_firstDry_36 : decode cX3_firstDry 36 = .ok (.iload_n 2, 1) := by decide +kernel
theorem dX3_firstDry_37 : decode cX3_firstDry 37 = .ok (.if_icmp .lt 6, 3) := by decide +kernel
theorem dX3_firstDry_40 : decode cX3_firstDry 40 = .ok (.goto 8, 3) := by decide +kernel
theorem dX3_firstDry_43 : decode cX3_firstDry 43 = .ok (.iload_n 3, 1) := by decide +kernel
theorem dX3_firstDry_44 : decode cX3_firstDry 44 = .ok (.istore_n 1, 1) := by decide +kernel
theorem dX3_firstDry_45 : decode cX3_firstDry 45 = .ok (.iload 4, 2) := by decide +kernel
theorem dX3_firstDry_47 : decode cX3_firstDry 47 = .ok (.istore_n 2, 1) := by decide +kernel
theorem dX3_firstDry_48 : decode cX3_firstDry 48 = .ok (.iinc 3 1, 3) := by decide +kernel
theorem dX3_firstDry_51 : decode cX3_firstDry 51 = .ok (.goto (-43), 3) := by decide +kernel
theorem dX3_firstDry_54 : decode cX3_firstDry 54 = .ok (.iload_n 1, 1) := by decide +kernel
theorem dX3_firstDry_55 : decode cX3_firstDry 55 = .ok (.ireturn, 1) := by decide +kernel
theorem dX3_dry_0 : decode cX3_dry 0 = .ok (.iload_n 1, 1) := by decide +kernel
theorem dX3_dry_1 : decode cX3_dry 1 = .ok (.iconst (-1), 1) := by decide +kernel
theorem dX3_dry_2 : decode cX3_dry 2 = .ok (.if_icmp .ne 10, 3) := by decide +kernel
theorem dX3_dry_5 : decode cX3_dry 5 = .ok (.aload_n 0, 1) := by decide +kernel
theorem dX3_dry_6 : decode cX3_dry 6 = .ok (.invokevirtual 149, 3) := by decide +kernel
theorem dX3_dry_9 : decode cX3_dry 9 = .ok (.goto 28, 3) := by decide +kernel
theorem dX3_dry_12 : decode cX3_dry 12 = .ok (.aload_n 0, 1) := by decide +kernel
theorem dX3_dry_13 : decode cX3_dry 13 = .ok (.iload_n 1, 1) := by decide +kernel
theorem dX3_dry_14 : decode cX3_dry 14 = .ok (.invokevirtual 100, 3) := by decide +kernel
theorem dX3_dry_17 : decode cX3_dry 17 = .ok (.ifCond .eq 15, 3) := by decide +kernel
theorem dX3_dry_20 : decode cX3_dry 20 = .ok (.aload_n 0, 1) := by decide +kernel
theorem dX3_dry_21 : decode cX3_dry 21 = .ok (.iload_n 1, 1) := by decide +kernel
theorem dX3_dry_22 : decode cX3_dry 22 = .ok (.iconst 3, 1) := by decide +kernel
theorem dX3_dry_23 : decode cX3_dry 23 = .ok (.invokestatic 52, 3) := by decide +kernel
theorem dX3_dry_26 : decode cX3_dry 26 = .ok (.invokevirtual 146, 3) := by decide +kernel
theorem dX3_dry_29 : decode cX3_dry 29 = .ok (.goto 8, 3) := by decide +kernel
theorem dX3_dry_32 : decode cX3_dry 32 = .ok (.aload_n 0, 1) := by decide +kernel
theorem dX3_dry_33 : decode cX3_dry 33 = .ok (.iconst (-1), 1) := by decide +kernel
theorem dX3_dry_34 : decode cX3_dry 34 = .ok (.invokevirtual 36, 3) := by decide +kernel
theorem dX3_dry_37 : decode cX3_dry 37 = .ok (.ireturn, 1) := by decide +kernel
theorem dX3_empty_0 : decode cX3_empty 0 = .ok (.aload_n 0, 1) := by decide +kernel
theorem dX3_empty_1 : decode cX3_empty 1 = .ok (.iconst 2, 1) := by decide +kernel
theorem dX3_empty_2 : decode cX3_empty 2 = .ok (.invokevirtual 146, 3) := by decide +kernel
theorem dX3_empty_5 : decode cX3_empty 5 = .ok (.ireturn, 1) := by decide +kernel
theorem dX3_isNoneDry_0 : decode cX3_isNoneDry 0 = .ok (.iconst 0, 1) := by decide +kernel
theorem dX3_isNoneDry_1 : decode cX3_isNoneDry 1 = .ok (.istore_n 3, 1) := by decide +kernel
theorem dX3_isNoneDry_2 : decode cX3_isNoneDry 2 = .ok (.iload_n 3, 1) := by decide +kernel
theorem dX3_isNoneDry_3 : decode cX3_isNoneDry 3 = .ok (.iload_n 2, 1) := by decide +kernel
theorem dX3_isNoneDry_4 : decode cX3_isNoneDry 4 = .ok (.if_icmp .gt 31, 3) := by decide +kernel
theorem dX3_isNoneDry_7 : decode cX3_isNoneDry 7 = .ok (.aload_n 0, 1) := by decide +kernel
theorem dX3_isNoneDry_8 : decode cX3_isNoneDry 8 = .ok (.getfield 13, 3) := by decide +kernel
theorem dX3_isNoneDry_11 : decode cX3_isNoneDry 11 = .ok (.invokestatic 152, 3) := by decide +kernel
theorem dX3_isNoneDry_14 : decode cX3_isNoneDry 14 = .ok (.iload_n 1, 1) := by decide +kernel
theorem dX3_isNoneDry_15 : decode cX3_isNoneDry 15 = .ok (.iand, 1) := by decide +kernel
theorem dX3_isNoneDry_16 : decode cX3_isNoneDry 16 = .ok (.ifCond .eq 5, 3) := by decide +kernel
theorem dX3_isNoneDry_19 : decode cX3_isNoneDry 19 = .ok (.iconst 0, 1) := by decide +kernel
theorem dX3_isNoneDry_20 : decode cX3_isNoneDry 20 = .ok (.ireturn, 1) := by decide +kernel
theorem dX3_isNoneDry_21 : decode cX3_isNoneDry 21 = .ok (.aload_n 0, 1) := by decide +kernel
theorem dX3_isNoneDry_22 : decode cX3_isNoneDry 22 = .ok (.getfield 13, 3) := by decide +kernel
theorem dX3_isNoneDry_25 : decode cX3_isNoneDry 25 = .ok (.iconst 0, 1) := by decide +kernel
theorem dX3_isNoneDry_26 : decode cX3_isNoneDry 26 = .ok (.invokestatic 73, 3) := by decide +kernel
theorem dX3_isNoneDry_29 : decode cX3_isNoneDry 29 = .ok (.iinc 3 1, 3) := by decide +kernel
theorem dX3_isNoneDry_32 : decode cX3_isNoneDry 32 = .ok (.goto (-30), 3) := by decide +kernel
theorem dX3_isNoneDry_35 : decode cX3_isNoneDry 35 = .ok (.iconst 1, 1) := by decide +kernel
theorem dX3_isNoneDry_36 : decode cX3_isNoneDry 36 = .ok (.ireturn, 1) := by decide +kernel
theorem dX3_flowBest_0 : decode cX3_flowBest 0 = .ok (.iload_n 1, 1) := by decide +kernel
theorem dX3_flowBest_1 : decode cX3_flowBest 1 = .ok (.iconst 0, 1) := by decide +kernel
theorem dX3_flowBest_2 : decode cX3_flowBest 2 = .ok (.bipush 48, 2) := by decide +kernel
theorem dX3_flowBest_4 : decode cX3_flowBest 4 = .ok (.invokestatic 126, 3) := by decide +kernel
theorem dX3_flowBest_7 : decode cX3_flowBest 7 = .ok (.istore_n 2, 1) := by decide +kernel
theorem dX3_flowBest_8 : decode cX3_flowBest 8 = .ok (.iload_n 2, 1) := by decide +kernel
theorem dX3_flowBest_9 : decode cX3_flowBest 9 = .ok (.ifCond .eq 9, 3) := by decide +kernel
theorem dX3_flowBest_12 : decode cX3_flowBest 12 = .ok (.aload_n 0, 1) := by decide +kernel
theorem dX3_flowBest_13 : decode cX3_flowBest 13 = .ok (.iload_n 2, 1) := by decide +kernel
theorem dX3_flowBest_14 : decode cX3_flowBest 14 = .ok (.invokevirtual 36, 3) := by decide +kernel
theorem dX3_flowBest_17 : decode cX3_flowBest 17 = .ok (.ireturn, 1) := by decide +kernel
theorem dX3_flowBest_18 : decode cX3_flowBest 18 = .ok (.iconst 0, 1) := by decide +kernel
theorem dX3_flowBest_19 : decode cX3_flowBest 19 = .ok (.istore_n 3, 1) := by decide +kernel
theorem dX3_flowBest_20 : decode cX3_flowBest 20 = .ok (.iload_n 3, 1) := by decide +kernel
theorem dX3_flowBest_21 : decode cX3_flowBest 21 = .ok (.bipush 30, 2) := by decide +kernel
theorem dX3_flowBest_23 : decode cX3_flowBest 23 = .ok (.if_icmp .gt 38, 3) := by decide +kernel
theorem dX3_flowBest_26 : decode cX3_flowBest 26 = .ok (.aload_n 0, 1) := by decide +kernel
theorem dX3_flowBest_27 : decode cX3_flowBest 27 = .ok (.getfield 9, 3) := by decide +kernel
theorem dX3_flowBest_30 : decode cX3_flowBest 30 = .ok (.aload_n 0, 1) := by decide +kernel
theorem dX3_flowBest_31 : decode cX3_flowBest 31 = .ok (.getfield 13, 3) := by decide +kernel
theorem dX3_flowBest_34 : decode cX3_flowBest 34 = .ok (.invokestatic 110, 3) := by decide +kernel
theorem dX3_flowBest_37 : decode cX3_flowBest 37 = .ok (.aload_n 0, 1) := by decide +kernel
theorem dX3_flowBest_38 : decode cX3_flowBest 38 = .ok (.getfield 13, 3) := by decide +kernel
theorem dX3_flowBest_41 : decode cX3_flowBest 41 = .ok (.iconst 3, 1) := by decide +kernel
theorem dX3_flowBest_42 : decode cX3_flowBest 42 = .ok (.iload_n 3, 1) := by decide +kernel
theorem dX3_flowBest_43 : decode cX3_flowBest 43 = .ok (.iastore, 1) := by decide +kernel
theorem dX3_flowBest_44 : decode cX3_flowBest 44 = .ok (.aload_n 0, 1) := by decide +kernel
theorem dX3_flowBest_45 : decode cX3_flowBest 45 = .ok (.iconst (-1), 1) := by decide +kernel
theorem dX3_flowBest_46 : decode cX3_flowBest 46 = .ok (.iload_n 1, 1) := by decide +kernel
theorem dX3_flowBest_47 : decode cX3_flowBest 47 = .ok (.invokevirtual 155, 3) := by decide +kernel
theorem dX3_flowBest_50 : decode cX3_flowBest 50 = .ok (.ifCond .eq 5, 3) := by decide +kernel
theorem dX3_flowBest_53 : decode cX3_flowBest 53 = .ok (.iload_n 3, 1) := by decide +kernel
theorem dX3_flowBest_54 : decode cX3_flowBest 54 = .ok (.ireturn, 1) := by decide +kernel
theorem dX3_flowBest_55 : decode cX3_flowBest 55 = .ok (.iinc 3 1, 3) := by decide +kernel
theorem dX3_flowBest_58 : decode cX3_flowBest 58 = .ok (.goto (-38), 3) := by decide +kernel
theorem dX3_flowBest_61 : decode cX3_flowBest 61 = .ok (.bipush (-9), 2) := by decide +kernel
theorem dX3_flowBest_63 : decode cX3_flowBest 63 = .ok (.ireturn, 1) := by decide +kernel
theorem dX3_canBest_0 : decode cX3_canBest 0 = .ok (.aload_n 0, 1) := by decide +kernel
theorem dX3_canBest_1 : decode cX3_canBest 1 = .ok (.iload_n 1, 1) := by decide +kernel
theorem dX3_canBest_2 : decode cX3_canBest 2 = .ok (.invokevirtual 100, 3) := by decide +kernel
theorem dX3_canBest_5 : decode cX3_canBest 5 = .ok (.ifCond .eq 13, 3) := by decide +kernel
theorem dX3_canBest_8 : decode cX3_canBest 8 = .ok (.iload_n 2, 1) := by decide +kernel
theorem dX3_canBest_9 : decode cX3_canBest 9 = .ok (.iconst 0, 1) := by decide +kernel
theorem dX3_canBest_10 : decode cX3_canBest 10 = .ok (.bipush 48, 2) := by decide +kernel
theorem dX3_canBest_12 : decode cX3_canBest 12 = .ok (.invokestatic 126, 3) := by decide +kernel
theorem dX3_canBest_15 : decode cX3_canBest 15 = .ok (.goto 4, 3) := by decide +kernel
theorem dX3_canBest_18 : decode cX3_canBest 18 = .ok (.iconst (-1), 1) := by decide +kernel
theorem dX3_canBest_19 : decode cX3_canBest 19 = .ok (.istore_n 3, 1) := by decide +kernel
theorem dX3_canBest_20 : decode cX3_canBest 20 = .ok (.iload_n 3, 1) := by decide +kernel
theorem dX3_canBest_21 : decode cX3_canBest 21 = .ok (.ifCond .eq 9, 3) := by decide +kernel
theorem dX3_canBest_24 : decode cX3_canBest 24 = .ok (.aload_n 0, 1) := by decide +kernel
theorem dX3_canBest_25 : decode cX3_canBest 25 = .ok (.iload_n 3, 1) := by decide +kernel
theorem dX3_canBest_26 : decode cX3_canBest 26 = .ok (.invokevirtual 36, 3) := by decide +kernel
theorem dX3_canBest_29 : decode cX3_canBest 29 = .ok (.ireturn, 1) := by decide +kernel
theorem dX3_canBest_30 : decode cX3_canBest 30 = .ok (.iconst 0, 1) := by decide +kernel
theorem dX3_canBest_31 : decode cX3_canBest 31 = .ok (.istore 4, 2) := by decide +kernel
theorem dX3_canBest_33 : decode cX3_canBest 33 = .ok (.iload 4, 2) := by decide +kernel
theorem dX3_canBest_35 : decode cX3_canBest 35 = .ok (.bipush 9, 2) := by decide +kernel
theorem dX3_canBest_37 : decode cX3_canBest 37 = .ok (.if_icmp .gt 46, 3) := by decide +kernel
theorem dX3_canBest_40 : decode cX3_canBest 40 = .ok (.aload_n 0, 1) := by decide +kernel
theorem dX3_canBest_41 : decode cX3_canBest 41 = .ok (.getfield 9, 3) := by decide +kernel
theorem dX3_canBest_44 : decode cX3_canBest 44 = .ok (.aload_n 0, 1) := by decide +kernel
theorem dX3_canBest_45 : decode cX3_canBest 45 = .ok (.getfield 13, 3) := by decide +kernel
theorem dX3_canBest_48 : decode cX3_canBest 48 = .ok (.invokestatic 110, 3) := by decide +kernel
theorem dX3_canBest_51 : decode cX3_canBest 51 = .ok (.aload_n 0, 1) := by decide +kernel
theorem dX3_canBest_52 : decode cX3_canBest 52 = .ok (.getfield 13, 3) := by decide +kernel
theorem dX3_canBest_55 : decode cX3_canBest 55 = .ok (.iload_n 1, 1) := by decide +kernel
theorem dX3_canBest_56 : decode cX3_canBest 56 = .ok (.iconst 2, 1) := by decide +kernel
theorem dX3_canBest_57 : decode cX3_canBest 57 = .ok (.invokestatic 52, 3) := by decide +kernel
theorem dX3_canBest_60 : decode cX3_canBest 60 = .ok (.iload 4, 2) := by decide +kernel
theorem dX3_canBest_62 : decode cX3_canBest 62 = .ok (.iastore, 1) := by decide +kernel
theorem dX3_canBest_63 : decode cX3_canBest 63 = .ok (.aload_n 0, 1) := by decide +kernel
theorem dX3_canBest_64 : decode cX3_canBest 64 = .ok (.iconst 1, 1) := by decide +kernel
theorem dX3_canBest_65 : decode cX3_canBest 65 = .ok (.iload_n 1, 1) := by decide +kernel
theorem dX3_canBest_66 : decode cX3_canBest 66 = .ok (.ishl, 1) := by decide +kernel
theorem dX3_canBest_67 : decode cX3_canBest 67 = .ok (.iload_n 2, 1) := by decide +kernel
theorem dX3_canBest_68 : decode cX3_canBest 68 = .ok (.invokevirtual 155, 3) := by decide +kernel
theorem dX3_canBest_71 : decode cX3_canBest 71 = .ok (.ifCond .eq 6, 3) := by decide +kernel
theorem dX3_canBest_74 : decode cX3_canBest 74 = .ok (.iload 4, 2) := by decide +kernel
theorem dX3_canBest_76 : decode cX3_canBest 76 = .ok (.ireturn, 1) := by decide +kernel
theorem dX3_canBest_77 : decode cX3_canBest 77 = .ok (.iinc 4 1, 3) := by decide +kernel
theorem dX3_canBest_80 : decode cX3_canBest 80 = .ok (.goto (-47), 3) := by decide +kernel
theorem dX3_canBest_83 : decode cX3_canBest 83 = .ok (.bipush (-9), 2) := by decide +kernel
theorem dX3_canBest_85 : decode cX3_canBest 85 = .ok (.ireturn, 1) := by decide +kernel
theorem dX3_leastHas_0 : decode cX3_leastHas 0 = .ok (.ldc 145, 2) := by decide +kernel
theorem dX3_leastHas_2 : decode cX3_leastHas 2 = .ok (.istore_n 1, 1) := by decide +kernel
theorem dX3_leastHas_3 : decode cX3_leastHas 3 = .ok (.iconst 0, 1) := by decide +kernel
theorem dX3_leastHas_4 : decode cX3_leastHas 4 = .ok (.istore_n 2, 1) := by decide +kernel
theorem dX3_leastHas_5 : decode cX3_leastHas 5 = .ok (.iload_n 2, 1) := by decide +kernel
theorem dX3_leastHas_6 : decode cX3_leastHas 6 = .ok (.aload_n 0, 1) := by decide +kernel
theorem dX3_leastHas_7 : decode cX3_leastHas 7 = .ok (.iconst 0, 1) := by decide +kernel
theorem dX3_leastHas_8 : decode cX3_leastHas 8 = .ok (.iaload, 1) := by decide +kernel
theorem dX3_leastHas_9 : decode cX3_leastHas 9 = .ok (.if_icmp .ge 21, 3) := by decide +kernel
theorem dX3_leastHas_12 : decode cX3_leastHas 12 = .ok (.iload_n 1, 1) := by decide +kernel
theorem dX3_leastHas_13 : decode cX3_leastHas 13 = .ok (.aload_n 0, 1) := by decide +kernel
theorem dX3_leastHas_14 : decode cX3_leastHas 14 = .ok (.iload_n 2, 1) := by decide +kernel
theorem dX3_leastHas_15 : decode cX3_leastHas 15 = .ok (.iconst 3, 1) := by decide +kernel
theorem dX3_leastHas_16 : decode cX3_leastHas 16 = .ok (.invokestatic 52, 3) := by decide +kernel
theorem dX3_leastHas_19 : decode cX3_leastHas 19 = .ok (.iaload, 1) := by decide +kernel
theorem dX3_leastHas_20 : decode cX3_leastHas 20 = .ok (.invokestatic 44, 3) := by decide +kernel
theorem dX3_leastHas_23 : decode cX3_leastHas 23 = .ok (.istore_n 1, 1) := by decide +kernel
theorem dX3_leastHas_24 : decode cX3_leastHas 24 = .ok (.iinc 2 1, 3) := by decide +kernel
theorem dX3_leastHas_27 : decode cX3_leastHas 27 = .ok (.goto (-22), 3) := by decide +kernel
theorem dX3_leastHas_30 : decode cX3_leastHas 30 = .ok (.iload_n 1, 1) := by decide +kernel
theorem dX3_leastHas_31 : decode cX3_leastHas 31 = .ok (.ireturn, 1) := by decide +kernel
theorem dX3_friendBest_0 : decode cX3_friendBest 0 = .ok (.aload_n 0, 1) := by decide +kernel
theorem dX3_friendBest_1 : decode cX3_friendBest 1 = .ok (.iload_n 1, 1) := by decide +kernel
theorem dX3_friendBest_2 : decode cX3_friendBest 2 = .ok (.invokevirtual 100, 3) := by decide +kernel
theorem dX3_friendBest_5 : decode cX3_friendBest 5 = .ok (.ifCond .eq 13, 3) := by decide +kernel
theorem dX3_friendBest_8 : decode cX3_friendBest 8 = .ok (.iload_n 2, 1) := by decide +kernel
theorem dX3_friendBest_9 : decode cX3_friendBest 9 = .ok (.iconst 0, 1) := by decide +kernel
theorem dX3_friendBest_10 : decode cX3_friendBest 10 = .ok (.bipush 48, 2) := by decide +kernel
theorem dX3_friendBest_12 : decode cX3_friendBest 12 = .ok (.invokestatic 126, 3) := by decide +kernel
theorem dX3_friendBest_15 : decode cX3_friendBest 15 = .ok (.goto 4, 3) := by decide +kernel
theorem dX3_friendBest_18 : decode cX3_friendBest 18 = .ok (.iconst (-1), 1) := by decide +kernel
theorem dX3_friendBest_19 : decode cX3_friendBest 19 = .ok (.istore_n 3, 1) := by decide +kernel
theorem dX3_friendBest_20 : decode cX3_friendBest 20 = .ok (.iload_n 3, 1) := by decide +kernel
theorem dX3_friendBest_21 : decode cX3_friendBest 21 = .ok (.ifCond .eq 9, 3) := by decide +kernel
theorem dX3_friendBest_24 : decode cX3_friendBest 24 = .ok (.aload_n 0, 1) := by decide +kernel
theorem dX3_friendBest_25 : decode cX3_friendBest 25 = .ok (.iload_n 3, 1) := by decide +kernel
theorem dX3_friendBest_26 : decode cX3_friendBest 26 = .ok (.invokevirtual 36, 3) := by decide +kernel
theorem dX3_friendBest_29 : decode cX3_friendBest 29 = .ok (.ireturn, 1) := by decide +kernel
theorem dX3_friendBest_30 : decode cX3_friendBest 30 = .ok (.aload_n 0, 1) := by decide +kernel
theorem dX3_friendBest_31 : decode cX3_friendBest 31 = .ok (.iload_n 2, 1) := by decide +kernel
theorem dX3_friendBest_32 : decode cX3_friendBest 32 = .ok (.invokevirtual 137, 3) := by decide +kernel
theorem dX3_friendBest_35 : decode cX3_friendBest 35 = .ok (.aload_n 0, 1) := by decide +kernel
theorem dX3_friendBest_36 : decode cX3_friendBest 36 = .ok (.getfield 13, 3) := by decide +kernel
theorem dX3_friendBest_39 : decode cX3_friendBest 39 = .ok (.invokestatic 158, 3) := by decide +kernel
theorem dX3_friendBest_42 : decode cX3_friendBest 42 = .ok (.istore 4, 2) := by decide +kernel
theorem dX3_friendBest_44 : decode cX3_friendBest 44 = .ok (.bipush (-9), 2) := by decide +kernel
theorem dX3_friendBest_46 : decode cX3_friendBest 46 = .ok (.istore 5, 2) := by decide +kernel
theorem dX3_friendBest_48 : decode cX3_friendBest 48 = .ok (.iconst 0, 1) := by decide +kernel
theorem dX3_friendBest_49 : decode cX3_friendBest 49 = .ok (.istore 6, 2) := by decide +kernel
theorem dX3_friendBest_51 : decode cX3_friendBest 51 = .ok (.iload 6, 2) := by decide +kernel
theorem dX3_friendBest_53 : decode cX3_friendBest 53 = .ok (.aload_n 0, 1) := by decide +kernel
theorem dX3_friendBest_54 : decode cX3_friendBest 54 = .ok (.getfield 9, 3) := by decide +kernel
theorem dX3_friendBest_57 : decode cX3_friendBest 57 = .ok (.iconst 0, 1) := by decide +kernel
theorem dX3_friendBest_58 : decode cX3_friendBest 58 = .ok (.iaload, 1) := by decide +kernel
theorem dX3_friendBest_59 : decode cX3_friendBest 59 = .ok (.if_icmp .ge 78, 3) := by decide +kernel
theorem dX3_friendBest_62 : decode cX3_friendBest 62 = .ok (.iload 6, 2) := by decide +kernel
theorem dX3_friendBest_64 : decode cX3_friendBest 64 = .ok (.iload_n 1, 1) := by decide +kernel
theorem dX3_friendBest_65 : decode cX3_friendBest 65 = .ok (.if_icmp .ne 6, 3) := by decide +kernel
theorem dX3_friendBest_68 : decode cX3_friendBest 68 = .ok (.goto 63, 3) := by decide +kernel
theorem dX3_friendBest_71 : decode cX3_friendBest 71 = .ok (.aload_n 0, 1) := by decide +kernel
theorem dX3_friendBest_72 : decode cX3_friendBest 72 = .ok (.getfield 9, 3) := by decide +kernel
theorem dX3_friendBest_75 : decode cX3_friendBest 75 = .ok (.aload_n 0, 1) := by decide +kernel
theorem dX3_friendBest_76 : decode cX3_friendBest 76 = .ok (.getfield 13, 3) := by decide +kernel
theorem dX3_friendBest_79 : decode cX3_friendBest 79 = .ok (.invokestatic 110, 3) := by decide +kernel
theorem dX3_friendBest_82 : decode cX3_friendBest 82 = .ok (.aload_n 0, 1) := by decide +kernel
theorem dX3_friendBest_83 : decode cX3_friendBest 83 = .ok (.getfield 13, 3) := by decide +kernel
theorem dX3_friendBest_86 : decode cX3_friendBest 86 = .ok (.iload_n 1, 1) := by decide +kernel
theorem dX3_friendBest_87 : decode cX3_friendBest 87 = .ok (.bipush 6, 2) := by decide +kernel
theorem dX3_friendBest_89 : decode cX3_friendBest 89 = .ok (.invokestatic 52, 3) := by decide +kernel
theorem dX3_friendBest_92 : decode cX3_friendBest 92 = .ok (.iload 6, 2) := by decide +kernel
theorem dX3_friendBest_94 : decode cX3_friendBest 94 = .ok (.iastore, 1) := by decide +kernel
theorem dX3_friendBest_95 : decode cX3_friendBest 95 = .ok (.aload_n 0, 1) := by decide +kernel
theorem dX3_friendBest_96 : decode cX3_friendBest 96 = .ok (.getfield 13, 3) := by decide +kernel
theorem dX3_friendBest_99 : decode cX3_friendBest 99 = .ok (.iload_n 2, 1) := by decide +kernel
theorem dX3_friendBest_100 : decode cX3_friendBest 100 = .ok (.invokestatic 104, 3) := by decide +kernel
theorem dX3_friendBest_103 : decode cX3_friendBest 103 = .ok (.aload_n 0, 1) := by decide +kernel
theorem dX3_friendBest_104 : decode cX3_friendBest 104 = .ok (.getfield 13, 3) := by decide +kernel
theorem dX3_friendBest_107 : decode cX3_friendBest 107 = .ok (.invokestatic 158, 3) := by decide +kernel
theorem dX3_friendBest_110 : decode cX3_friendBest 110 = .ok (.iload 4, 2) := by decide +kernel
theorem dX3_friendBest_112 : decode cX3_friendBest 112 = .ok (.if_icmp .gt 6, 3) := by decide +kernel
theorem dX3_friendBest_115 : decode cX3_friendBest 115 = .ok (.goto 16, 3) := by decide +kernel
theorem dX3_friendBest_118 : decode cX3_friendBest 118 = .ok (.iload 6, 2) := by decide +kernel
theorem dX3_friendBest_120 : decode cX3_friendBest 120 = .ok (.istore 5, 2) := by decide +kernel
theorem dX3_friendBest_122 : decode cX3_friendBest 122 = .ok (.aload_n 0, 1) := by decide +kernel
theorem dX3_friendBest_123 : decode cX3_friendBest 123 = .ok (.getfield 13, 3) := by decide +kernel
theorem dX3_friendBest_126 : decode cX3_friendBest 126 = .ok (.invokestatic 158, 3) := by decide +kernel
theorem dX3_friendBest_129 : decode cX3_friendBest 129 = .ok (.istore 4, 2) := by decide +kernel
theorem dX3_friendBest_131 : decode cX3_friendBest 131 = .ok (.iinc 6 1, 3) := by decide +kernel
theorem dX3_friendBest_134 : decode cX3_friendBest 134 = .ok (.goto (-83), 3) := by decide +kernel
theorem dX3_friendBest_137 : decode cX3_friendBest 137 = .ok (.iload 5, 2) := by decide +kernel
theorem dX3_friendBest_139 : decode cX3_friendBest 139 = .ok (.ireturn, 1) := by decide +kernel
theorem dX3_hush_0 : decode cX3_hush 0 = .ok (.iload_n 1, 1) := by decide +kernel
theorem dX3_hush_1 : decode cX3_hush 1 = .ok (.iconst 0, 1) := by decide +kernel
theorem dX3_hush_2 : decode cX3_hush 2 = .ok (.bipush 48, 2) := by decide +kernel
theorem dX3_hush_4 : decode cX3_hush 4 = .ok (.invokestatic 126, 3) := by decide +kernel
theorem dX3_hush_7 : decode cX3_hush 7 = .ok (.istore_n 2, 1) := by decide +kernel
theorem dX3_hush_8 : decode cX3_hush 8 = .ok (.iload_n 2, 1) := by decide +kernel
theorem dX3_hush_9 : decode cX3_hush 9 = .ok (.ifCond .eq 9, 3) := by decide +kernel
theorem dX3_hush_12 : decode cX3_hush 12 = .ok (.aload_n 0, 1) := by decide +kernel
theorem dX3_hush_13 : decode cX3_hush 13 = .ok (.iload_n 2, 1) := by decide +kernel
theorem dX3_hush_14 : decode cX3_hush 14 = .ok (.invokevirtual 36, 3) := by decide +kernel
theorem dX3_hush_17 : decode cX3_hush 17 = .ok (.ireturn, 1) := by decide +kernel
theorem dX3_hush_18 : decode cX3_hush 18 = .ok (.aload_n 0, 1) := by decide +kernel
theorem dX3_hush_19 : decode cX3_hush 19 = .ok (.iload_n 1, 1) := by decide +kernel
theorem dX3_hush_20 : decode cX3_hush 20 = .ok (.invokevirtual 137, 3) := by decide +kernel
theorem dX3_hush_23 : decode cX3_hush 23 = .ok (.aload_n 0, 1) := by decide +kernel
theorem dX3_hush_24 : decode cX3_hush 24 = .ok (.getfield 13, 3) := by decide +kernel
theorem dX3_hush_27 : decode cX3_hush 27 = .ok (.invokestatic 141, 3) := by decide +kernel
theorem dX3_hush_30 : decode cX3_hush 30 = .ok (.istore_n 3, 1) := by decide +kernel
theorem dX3_hush_31 : decode cX3_hush 31 = .ok (.bipush (-9), 2) := by decide +kernel
theorem dX3_hush_33 : decode cX3_hush 33 = .ok (.istore 4, 2) := by decide +kernel
theorem dX3_hush_35 : decode cX3_hush 35 = .ok (.iconst 0, 1) := by decide +kernel
theorem dX3_hush_36 : decode cX3_hush 36 = .ok (.istore 5, 2) := by decide +kernel
theorem dX3_hush_38 : decode cX3_hush 38 = .ok (.iload 5, 2) := by decide +kernel
theorem dX3_hush_40 : decode cX3_hush 40 = .ok (.aload_n 0, 1) := by decide +kernel
theorem dX3_hush_41 : decode cX3_hush 41 = .ok (.getfield 9, 3) := by decide +kernel
theorem dX3_hush_44 : decode cX3_hush 44 = .ok (.iconst 0, 1) := by decide +kernel
theorem dX3_hush_45 : decode cX3_hush 45 = .ok (.iaload, 1) := by decide +kernel
theorem dX3_hush_46 : decode cX3_hush 46 = .ok (.if_icmp .ge 64, 3) := by decide +kernel
theorem dX3_hush_49 : decode cX3_hush 49 = .ok (.aload_n 0, 1) := by decide +kernel
theorem dX3_hush_50 : decode cX3_hush 50 = .ok (.getfield 9, 3) := by decide +kernel
theorem dX3_hush_53 : decode cX3_hush 53 = .ok (.aload_n 0, 1) := by decide +kernel
theorem dX3_hush_54 : decode cX3_hush 54 = .ok (.getfield 13, 3) := by decide +kernel
theorem dX3_hush_57 : decode cX3_hush 57 = .ok (.invokestatic 110, 3) := by decide +kernel
theorem dX3_hush_60 : decode cX3_hush 60 = .ok (.aload_n 0, 1) := by decide +kernel
theorem dX3_hush_61 : decode cX3_hush 61 = .ok (.getfield 13, 3) := by decide +kernel
theorem dX3_hush_64 : decode cX3_hush 64 = .ok (.iconst 4, 1) := by decide +kernel
theorem dX3_hush_65 : decode cX3_hush 65 = .ok (.iconst 1, 1) := by decide +kernel
theorem dX3_hush_66 : decode cX3_hush 66 = .ok (.iload 5, 2) := by decide +kernel
theorem dX3_hush_68 : decode cX3_hush 68 = .ok (.ishl, 1) := by decide +kernel
theorem dX3_hush_69 : decode cX3_hush 69 = .ok (.iastore, 1) := by decide +kernel
theorem dX3_hush_70 : decode cX3_hush 70 = .ok (.aload_n 0, 1) := by decide +kernel
theorem dX3_hush_71 : decode cX3_hush 71 = .ok (.getfield 13, 3) := by decide +kernel
theorem dX3_hush_74 : decode cX3_hush 74 = .ok (.iload_n 1, 1) := by decide +kernel
theorem dX3_hush_75 : decode cX3_hush 75 = .ok (.invokestatic 104, 3) := by decide +kernel
theorem dX3_hush_78 : decode cX3_hush 78 = .ok (.aload_n 0, 1) := by decide +kernel
theorem dX3_hush_79 : decode cX3_hush 79 = .ok (.getfield 13, 3) := by decide +kernel
theorem dX3_hush_82 : decode cX3_hush 82 = .ok (.invokestatic 141, 3) := by decide +kernel
theorem dX3_hush_85 : decode cX3_hush 85 = .ok (.iload_n 3, 1) := by decide +kernel
theorem dX3_hush_86 : decode cX3_hush 86 = .ok (.if_icmp .gt 6, 3) := by decide +kernel
theorem dX3_hush_89 : decode cX3_hush 89 = .ok (.goto 15, 3) := by decide +kernel
theorem dX3_hush_92 : decode cX3_hush 92 = .ok (.iload 5, 2) := by decide +kernel
theorem dX3_hush_94 : decode cX3_hush 94 = .ok (.istore 4, 2) := by decide +kernel
theorem dX3_hush_96 : decode cX3_hush 96 = .ok (.aload_n 0, 1) := by decide +kernel
theorem dX3_hush_97 : decode cX3_hush 97 = .ok (.getfield 13, 3) := by decide +kernel
theorem dX3_hush_100 : decode cX3_hush 100 = .ok (.invokestatic 141, 3) := by decide +kernel
theorem dX3_hush_103 : decode cX3_hush 103 = .ok (.istore_n 3, 1) := by decide +kernel
theorem dX3_hush_104 : decode cX3_hush 104 = .ok (.iinc 5 1, 3) := by decide +kernel
theorem dX3_hush_107 : decode cX3_hush 107 = .ok (.goto (-69), 3) := by decide +kernel
theorem dX3_hush_110 : decode cX3_hush 110 = .ok (.iload 4, 2) := by decide +kernel
theorem dX3_hush_112 : decode cX3_hush 112 = .ok (.ireturn, 1) := by decide +kernel
theorem dX3_fewest_0 : decode cX3_fewest 0 = .ok (.iload_n 1, 1) := by decide +kernel
theorem dX3_fewest_1 : decode cX3_fewest 1 = .ok (.iconst 0, 1) := by decide +kernel
theorem dX3_fewest_2 : decode cX3_fewest 2 = .ok (.bipush 24, 2) := by decide +kernel
theorem dX3_fewest_4 : decode cX3_fewest 4 = .ok (.invokestatic 126, 3) := by decide +kernel
theorem dX3_fewest_7 : decode cX3_fewest 7 = .ok (.istore_n 2, 1) := by decide +kernel
theorem dX3_fewest_8 : decode cX3_fewest 8 = .ok (.iload_n 2, 1) := by decide +kernel
theorem dX3_fewest_9 : decode cX3_fewest 9 = .ok (.ifCond .eq 9, 3) := by decide +kernel
theorem dX3_fewest_12 : decode cX3_fewest 12 = .ok (.aload_n 0, 1) := by decide +kernel
theorem dX3_fewest_13 : decode cX3_fewest 13 = .ok (.iload_n 2, 1) := by decide +kernel
theorem dX3_fewest_14 : decode cX3_fewest 14 = .ok (.invokevirtual 36, 3) := by decide +kernel
theorem dX3_fewest_17 : decode cX3_fewest 17 = .ok (.ireturn, 1) := by decide +kernel
theorem dX3_fewest_18 : decode cX3_fewest 18 = .ok (.bipush (-9), 2) := by decide +kernel
theorem dX3_fewest_20 : decode cX3_fewest 20 = .ok (.istore_n 3, 1) := by decide +kernel
theorem dX3_fewest_21 : decode cX3_fewest 21 = .ok (.iconst 0, 1) := by decide +kernel
theorem dX3_fewest_22 : decode cX3_fewest 22 = .ok (.istore 4, 2) := by decide +kernel
theorem dX3_fewest_24 : decode cX3_fewest 24 = .ok (.iload 4, 2) := by decide +kernel
theorem dX3_fewest_26 : decode cX3_fewest 26 = .ok (.iconst 1, 1) := by decide +kernel
theorem dX3_fewest_27 : decode cX3_fewest 27 = .ok (.aload_n 0, 1) := by decide +kernel
theorem dX3_fewest_28 : decode cX3_fewest 28 = .ok (.getfield 9, 3) := by decide +kernel
theorem dX3_fewest_31 : decode cX3_fewest 31 = .ok (.iconst 0, 1) := by decide +kernel
theorem dX3_fewest_32 : decode cX3_fewest 32 = .ok (.iaload, 1) := by decide +kernel
theorem dX3_fewest_33 : decode cX3_fewest 33 = .ok (.ishl, 1) := by decide +kernel
theorem dX3_fewest_34 : decode cX3_fewest 34 = .ok (.if_icmp .ge 59, 3) := by decide +kernel
theorem dX3_fewest_37 : decode cX3_fewest 37 = .ok (.iload_n 3, 1) := by decide +kernel
theorem dX3_fewest_38 : decode cX3_fewest 38 = .ok (.ifCond .lt 18, 3) := by decide +kernel
theorem dX3_fewest_41 : decode cX3_fewest 41 = .ok (.iload 4, 2) := by decide +kernel
theorem dX3_fewest_43 : decode cX3_fewest 43 = .ok (.invokestatic 120, 3) := by decide +kernel
theorem dX3_fewest_46 : decode cX3_fewest 46 = .ok (.iload_n 3, 1) := by decide +kernel
theorem dX3_fewest_47 : decode cX3_fewest 47 = .ok (.invokestatic 120, 3) := by decide +kernel
theorem dX3_fewest_50 : decode cX3_fewest 50 = .ok (.if_icmp .lt 6, 3) := by decide +kernel
theorem dX3_fewest_53 : decode cX3_fewest 53 = .ok (.goto 34, 3) := by decide +kernel
theorem dX3_fewest_56 : decode cX3_fewest 56 = .ok (.aload_n 0, 1) := by decide +kernel
theorem dX3_fewest_57 : decode cX3_fewest 57 = .ok (.getfield 9, 3) := by decide +kernel
theorem dX3_fewest_60 : decode cX3_fewest 60 = .ok (.aload_n 0, 1) := by decide +kernel
theorem dX3_fewest_61 : decode cX3_fewest 61 = .ok (.getfield 13, 3) := by decide +kernel
theorem dX3_fewest_64 : decode cX3_fewest 64 = .ok (.invokestatic 110, 3) := by decide +kernel
theorem dX3_fewest_67 : decode cX3_fewest 67 = .ok (.aload_n 0, 1) := by decide +kernel
theorem dX3_fewest_68 : decode cX3_fewest 68 = .ok (.getfield 13, 3) := by decide +kernel
theorem dX3_fewest_71 : decode cX3_fewest 71 = .ok (.iconst 4, 1) := by decide +kernel
theorem dX3_fewest_72 : decode cX3_fewest 72 = .ok (.iload 4, 2) := by decide +kernel
theorem dX3_fewest_74 : decode cX3_fewest 74 = .ok (.iastore, 1) := by decide +kernel
theorem dX3_fewest_75 : decode cX3_fewest 75 = .ok (.aload_n 0, 1) := by decide +kernel
theorem dX3_fewest_76 : decode cX3_fewest 76 = .ok (.iconst (-1), 1) := by decide +kernel
theorem dX3_fewest_77 : decode cX3_fewest 77 = .ok (.iload_n 1, 1) := by decide +kernel
theorem dX3_fewest_78 : decode cX3_fewest 78 = .ok (.invokevirtual 155, 3) := by decide +kernel
theorem dX3_fewest_81 : decode cX3_fewest 81 = .ok (.ifCond .eq 6, 3) := by decide +kernel
theorem dX3_fewest_84 : decode cX3_fewest 84 = .ok (.iload 4, 2) := by decide +kernel
theorem dX3_fewest_86 : decode cX3_fewest 86 = .ok (.istore_n 3, 1) := by decide +kernel
theorem dX3_fewest_87 : decode cX3_fewest 87 = .ok (.iinc 4 1, 3) := by decide +kernel
theorem dX3_fewest_90 : decode cX3_fewest 90 = .ok (.goto (-66), 3) := by decide +kernel
theorem dX3_fewest_93 : decode cX3_fewest 93 = .ok (.iload_n 3, 1) := by decide +kernel
theorem dX3_fewest_94 : decode cX3_fewest 94 = .ok (.ireturn, 1) := by decide +kernel
theorem dX3_word_0 : decode cX3_word 0 = .ok (.iload_n 1, 1) := by decide +kernel
theorem dX3_word_1 : decode cX3_word 1 = .ok (.iconst 1, 1) := by decide +kernel
theorem dX3_word_2 : decode cX3_word 2 = .ok (.bipush 24, 2) := by decide +kernel
theorem dX3_word_4 : decode cX3_word 4 = .ok (.invokestatic 126, 3) := by decide +kernel
theorem dX3_word_7 : decode cX3_word 7 = .ok (.istore_n 2, 1) := by decide +kernel
theorem dX3_word_8 : decode cX3_word 8 = .ok (.iload_n 2, 1) := by decide +kernel
theorem dX3_word_9 : decode cX3_word 9 = .ok (.ifCond .eq 9, 3) := by decide +kernel
theorem dX3_word_12 : decode cX3_word 12 = .ok (.aload_n 0, 1) := by decide +kernel
theorem dX3_word_13 : decode cX3_word 13 = .ok (.iload_n 2, 1) := by decide +kernel
theorem dX3_word_14 : decode cX3_word 14 = .ok (.invokevirtual 36, 3) := by decide +kernel
theorem dX3_word_17 : decode cX3_word 17 = .ok (.ireturn, 1) := by decide +kernel
theorem dX3_word_18 : decode cX3_word 18 = .ok (.aload_n 0, 1) := by decide +kernel
theorem dX3_word_19 : decode cX3_word 19 = .ok (.iload_n 1, 1) := by decide +kernel
theorem dX3_word_20 : decode cX3_word 20 = .ok (.invokevirtual 137, 3) := by decide +kernel
theorem dX3_word_23 : decode cX3_word 23 = .ok (.aload_n 0, 1) := by decide +kernel
theorem dX3_word_24 : decode cX3_word 24 = .ok (.getfield 13, 3) := by decide +kernel
theorem dX3_word_27 : decode cX3_word 27 = .ok (.invokestatic 141, 3) := by decide +kernel
theorem dX3_word_30 : decode cX3_word 30 = .ok (.istore_n 3, 1) := by decide +kernel
theorem dX3_word_31 : decode cX3_word 31 = .ok (.bipush (-9), 2) := by decide +kernel
theorem dX3_word_33 : decode cX3_word 33 = .ok (.istore 4, 2) := by decide +kernel
theorem dX3_word_35 : decode cX3_word 35 = .ok (.iconst 0, 1) := by decide +kernel
theorem dX3_word_36 : decode cX3_word 36 = .ok (.istore 5, 2) := by decide +kernel
theorem dX3_word_38 : decode cX3_word 38 = .ok (.iload 5, 2) := by decide +kernel
theorem dX3_word_40 : decode cX3_word 40 = .ok (.aload_n 0, 1) := by decide +kernel
theorem dX3_word_41 : decode cX3_word 41 = .ok (.getfield 9, 3) := by decide +kernel
theorem dX3_word_44 : decode cX3_word 44 = .ok (.iconst 0, 1) := by decide +kernel
theorem dX3_word_45 : decode cX3_word 45 = .ok (.iaload, 1) := by decide +kernel
theorem dX3_word_46 : decode cX3_word 46 = .ok (.if_icmp .ge 66, 3) := by decide +kernel
theorem dX3_word_49 : decode cX3_word 49 = .ok (.aload_n 0, 1) := by decide +kernel
theorem dX3_word_50 : decode cX3_word 50 = .ok (.getfield 9, 3) := by decide +kernel
theorem dX3_word_53 : decode cX3_word 53 = .ok (.aload_n 0, 1) := by decide +kernel
theorem dX3_word_54 : decode cX3_word 54 = .ok (.getfield 13, 3) := by decide +kernel
theorem dX3_word_57 : decode cX3_word 57 = .ok (.invokestatic 110, 3) := by decide +kernel
theorem dX3_word_60 : decode cX3_word 60 = .ok (.aload_n 0, 1) := by decide +kernel
theorem dX3_word_61 : decode cX3_word 61 = .ok (.getfield 13, 3) := by decide +kernel
theorem dX3_word_64 : decode cX3_word 64 = .ok (.iload 5, 2) := by decide +kernel
theorem dX3_word_66 : decode cX3_word 66 = .ok (.iconst 4, 1) := by decide +kernel
theorem dX3_word_67 : decode cX3_word 67 = .ok (.invokestatic 52, 3) := by decide +kernel
theorem dX3_word_70 : decode cX3_word 70 = .ok (.iconst 1, 1) := by decide +kernel
theorem dX3_word_71 : decode cX3_word 71 = .ok (.iastore, 1) := by decide +kernel
theorem dX3_word_72 : decode cX3_word 72 = .ok (.aload_n 0, 1) := by decide +kernel
theorem dX3_word_73 : decode cX3_word 73 = .ok (.getfield 13, 3) := by decide +kernel
theorem dX3_word_76 : decode cX3_word 76 = .ok (.iload_n 1, 1) := by decide +kernel
theorem dX3_word_77 : decode cX3_word 77 = .ok (.invokestatic 104, 3) := by decide +kernel
theorem dX3_word_80 : decode cX3_word 80 = .ok (.aload_n 0, 1) := by decide +kernel
theorem dX3_word_81 : decode cX3_word 81 = .ok (.getfield 13, 3) := by decide +kernel
theorem dX3_word_84 : decode cX3_word 84 = .ok (.invokestatic 141, 3) := by decide +kernel
theorem dX3_word_87 : decode cX3_word 87 = .ok (.iload_n 3, 1) := by decide +kernel
theorem dX3_word_88 : decode cX3_word 88 = .ok (.if_icmp .lt 6, 3) := by decide +kernel
theorem dX3_word_91 : decode cX3_word 91 = .ok (.goto 15, 3) := by decide +kernel
theorem dX3_word_94 : decode cX3_word 94 = .ok (.iload 5, 2) := by decide +kernel
theorem dX3_word_96 : decode cX3_word 96 = .ok (.istore 4, 2) := by decide +kernel
theorem dX3_word_98 : decode cX3_word 98 = .ok (.aload_n 0, 1) := by decide +kernel
theorem dX3_word_99 : decode cX3_word 99 = .ok (.getfield 13, 3) := by decide +kernel
theorem dX3_word_102 : decode cX3_word 102 = .ok (.invokestatic 141, 3) := by decide +kernel
theorem dX3_word_105 : decode cX3_word 105 = .ok (.istore_n 3, 1) := by decide +kernel
theorem dX3_word_106 : decode cX3_word 106 = .ok (.iinc 5 1, 3) := by decide +kernel
theorem dX3_word_109 : decode cX3_word 109 = .ok (.goto (-71), 3) := by decide +kernel
theorem dX3_word_112 : decode cX3_word 112 = .ok (.iload 4, 2) := by decide +kernel
theorem dX3_word_114 : decode cX3_word 114 = .ok (.ireturn, 1) := by decide +kernel
theorem dX3_send_0 : decode cX3_send 0 = .ok (.iload_n 1, 1) := by decide +kernel
theorem dX3_send_1 : decode cX3_send 1 = .ok (.iconst 0, 1) := by decide +kernel
theorem dX3_send_2 : decode cX3_send 2 = .ok (.bipush 24, 2) := by decide +kernel
theorem dX3_send_4 : decode cX3_send 4 = .ok (.invokestatic 126, 3) := by decide +kernel
theorem dX3_send_7 : decode cX3_send 7 = .ok (.istore_n 3, 1) := by decide +kernel
theorem dX3_send_8 : decode cX3_send 8 = .ok (.iload_n 3, 1) := by decide +kernel
theorem dX3_send_9 : decode cX3_send 9 = .ok (.ifCond .ne 15, 3) := by decide +kernel
theorem dX3_send_12 : decode cX3_send 12 = .ok (.iload_n 2, 1) := by decide +kernel
theorem dX3_send_13 : decode cX3_send 13 = .ok (.iconst 0, 1) := by decide +kernel
theorem dX3_send_14 : decode cX3_send 14 = .ok (.iconst 1, 1) := by decide +kernel
theorem dX3_send_15 : decode cX3_send 15 = .ok (.invokestatic 40, 3) := by decide +kernel
theorem dX3_send_18 : decode cX3_send 18 = .ok (.ifCond .ne 6, 3) := by decide +kernel
theorem dX3_send_21 : decode cX3_send 21 = .ok (.bipush (-2), 2) := by decide +kernel
theorem dX3_send_23 : decode cX3_send 23 = .ok (.istore_n 3, 1) := by decide +kernel
theorem dX3_send_24 : decode cX3_send 24 = .ok (.iload_n 3, 1) := by decide +kernel
theorem dX3_send_25 : decode cX3_send 25 = .ok (.ifCond .eq 9, 3) := by decide +kernel
theorem dX3_send_28 : decode cX3_send 28 = .ok (.aload_n 0, 1) := by decide +kernel
theorem dX3_send_29 : decode cX3_send 29 = .ok (.iload_n 3, 1) := by decide +kernel
theorem dX3_send_30 : decode cX3_send 30 = .ok (.invokevirtual 36, 3) := by decide +kernel
theorem dX3_send_33 : decode cX3_send 33 = .ok (.ireturn, 1) := by decide +kernel
theorem dX3_send_34 : decode cX3_send 34 = .ok (.bipush (-9), 2) := by decide +kernel
theorem dX3_send_36 : decode cX3_send 36 = .ok (.istore 4, 2) := by decide +kernel
theorem dX3_send_38 : decode cX3_send 38 = .ok (.iconst (-1), 1) := by decide +kernel
theorem dX3_send_39 : decode cX3_send 39 = .ok (.istore 5, 2) := by decide +kernel
theorem dX3_send_41 : decode cX3_send 41 = .ok (.iconst 0, 1) := by decide +kernel
theorem dX3_send_42 : decode cX3_send 42 = .ok (.istore 6, 2) := by decide +kernel
theorem dX3_send_44 : decode cX3_send 44 = .ok (.iload 6, 2) := by decide +kernel
theorem dX3_send_46 : decode cX3_send 46 = .ok (.aload_n 0, 1) := by decide +kernel
theorem dX3_send_47 : decode cX3_send 47 = .ok (.getfield 9, 3) := by decide +kernel
theorem dX3_send_50 : decode cX3_send 50 = .ok (.iconst 0, 1) := by decide +kernel
theorem dX3_send_51 : decode cX3_send 51 = .ok (.iaload, 1) := by decide +kernel
theorem dX3_send_52 : decode cX3_send 52 = .ok (.if_icmp .ge 119, 3) := by decide +kernel
theorem dX3_send_55 : decode cX3_send 55 = .ok (.aload_n 0, 1) := by decide +kernel
theorem dX3_send_56 : decode cX3_send 56 = .ok (.getfield 9, 3) := by decide +kernel
theorem dX3_send_59 : decode cX3_send 59 = .ok (.aload_n 0, 1) := by decide +kernel
theorem dX3_send_60 : decode cX3_send 60 = .ok (.getfield 13, 3) := by decide +kernel
theorem dX3_send_63 : decode cX3_send 63 = .ok (.invokestatic 110, 3) := by decide +kernel
theorem dX3_send_66 : decode cX3_send 66 = .ok (.aload_n 0, 1) := by decide +kernel
theorem dX3_send_67 : decode cX3_send 67 = .ok (.getfield 13, 3) := by decide +kernel
theorem dX3_send_70 : decode cX3_send 70 = .ok (.iconst 2, 1) := by decide +kernel
theorem dX3_send_71 : decode cX3_send 71 = .ok (.bipush 99, 2) := by decide +kernel
theorem dX3_send_73 : decode cX3_send 73 = .ok (.aload_n 0, 1) := by decide +kernel
theorem dX3_send_74 : decode cX3_send 74 = .ok (.getfield 13, 3) := by decide +kernel
theorem dX3_send_77 : decode cX3_send 77 = .ok (.iconst 2, 1) := by decide +kernel
theorem dX3_send_78 : decode cX3_send 78 = .ok (.iaload, 1) := by decide +kernel
theorem dX3_send_79 : decode cX3_send 79 = .ok (.aload_n 0, 1) := by decide +kernel
theorem dX3_send_80 : decode cX3_send 80 = .ok (.getfield 13, 3) := by decide +kernel
theorem dX3_send_83 : decode cX3_send 83 = .ok (.iload 6, 2) := by decide +kernel
theorem dX3_send_85 : decode cX3_send 85 = .ok (.iconst 3, 1) := by decide +kernel
theorem dX3_send_86 : decode cX3_send 86 = .ok (.invokestatic 52, 3) := by decide +kernel
theorem dX3_send_89 : decode cX3_send 89 = .ok (.iaload, 1) := by decide +kernel
theorem dX3_send_90 : decode cX3_send 90 = .ok (.iadd, 1) := by decide +kernel
theorem dX3_send_91 : decode cX3_send 91 = .ok (.invokestatic 44, 3) := by decide +kernel
theorem dX3_send_94 : decode cX3_send 94 = .ok (.iastore, 1) := by decide +kernel
theorem dX3_send_95 : decode cX3_send 95 = .ok (.aload_n 0, 1) := by decide +kernel
theorem dX3_send_96 : decode cX3_send 96 = .ok (.getfield 13, 3) := by decide +kernel
theorem dX3_send_99 : decode cX3_send 99 = .ok (.iload 6, 2) := by decide +kernel
theorem dX3_send_101 : decode cX3_send 101 = .ok (.iconst 3, 1) := by decide +kernel
theorem dX3_send_102 : decode cX3_send 102 = .ok (.invokestatic 52, 3) := by decide +kernel
theorem dX3_send_105 : decode cX3_send 105 = .ok (.iconst 0, 1) := by decide +kernel
theorem dX3_send_106 : decode cX3_send 106 = .ok (.iastore, 1) := by decide +kernel
theorem dX3_send_107 : decode cX3_send 107 = .ok (.aload_n 0, 1) := by decide +kernel
theorem dX3_send_108 : decode cX3_send 108 = .ok (.getfield 13, 3) := by decide +kernel
theorem dX3_send_111 : decode cX3_send 111 = .ok (.iload_n 1, 1) := by decide +kernel
theorem dX3_send_112 : decode cX3_send 112 = .ok (.invokestatic 104, 3) := by decide +kernel
theorem dX3_send_115 : decode cX3_send 115 = .ok (.iconst 1, 1) := by decide +kernel
theorem dX3_send_116 : decode cX3_send 116 = .ok (.aload_n 0, 1) := by decide +kernel
theorem dX3_send_117 : decode cX3_send 117 = .ok (.getfield 9, 3) := by decide +kernel
theorem dX3_send_120 : decode cX3_send 120 = .ok (.iconst 0, 1) := by decide +kernel
theorem dX3_send_121 : decode cX3_send 121 = .ok (.iaload, 1) := by decide +kernel
