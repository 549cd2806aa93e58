theorem dX0_init_0 : decode cX0_init 0 = .ok (.aload_n 0, 1) := by decide +kernel
theorem dX0_init_1 : decode cX0_init 1 = .ok (.invokespecial 3, 3) := by decide +kernel
theorem dX0_init_4 : decode cX0_init 4 = .ok (.aload_n 0, 1) := by decide +kernel
theorem dX0_init_5 : decode cX0_init 5 = .ok (.bipush 6, 2) := by decide +kernel
theorem dX0_init_7 : decode cX0_init 7 = .ok (.newarray .int, 2) := by decide +kernel
theorem dX0_init_9 : decode cX0_init 9 = .ok (.putfield 9, 3) := by decide +kernel
theorem dX0_init_12 : decode cX0_init 12 = .ok (.aload_n 0, 1) := by decide +kernel
theorem dX0_init_13 : decode cX0_init 13 = .ok (.bipush 6, 2) := by decide +kernel
theorem dX0_init_15 : decode cX0_init 15 = .ok (.newarray .int, 2) := by decide +kernel
theorem dX0_init_17 : decode cX0_init 17 = .ok (.putfield 15, 3) := by decide +kernel
theorem dX0_init_20 : decode cX0_init 20 = .ok (.aload_n 0, 1) := by decide +kernel
theorem dX0_init_21 : decode cX0_init 21 = .ok (.bipush 6, 2) := by decide +kernel
theorem dX0_init_23 : decode cX0_init 23 = .ok (.newarray .int, 2) := by decide +kernel
theorem dX0_init_25 : decode cX0_init 25 = .ok (.putfield 18, 3) := by decide +kernel
theorem dX0_init_28 : decode cX0_init 28 = .ok (.aload_n 0, 1) := by decide +kernel
theorem dX0_init_29 : decode cX0_init 29 = .ok (.bipush 6, 2) := by decide +kernel
theorem dX0_init_31 : decode cX0_init 31 = .ok (.newarray .int, 2) := by decide +kernel
theorem dX0_init_33 : decode cX0_init 33 = .ok (.putfield 21, 3) := by decide +kernel
theorem dX0_init_36 : decode cX0_init 36 = .ok (.aload_n 0, 1) := by decide +kernel
theorem dX0_init_37 : decode cX0_init 37 = .ok (.bipush 6, 2) := by decide +kernel
theorem dX0_init_39 : decode cX0_init 39 = .ok (.newarray .int, 2) := by decide +kernel
theorem dX0_init_41 : decode cX0_init 41 = .ok (.putfield 24, 3) := by decide +kernel
theorem dX0_init_44 : decode cX0_init 44 = .ok (.aload_n 0, 1) := by decide +kernel
theorem dX0_init_45 : decode cX0_init 45 = .ok (.iconst 0, 1) := by decide +kernel
theorem dX0_init_46 : decode cX0_init 46 = .ok (.putfield 27, 3) := by decide +kernel
theorem dX0_init_49 : decode cX0_init 49 = .ok (.aload_n 0, 1) := by decide +kernel
theorem dX0_init_50 : decode cX0_init 50 = .ok (.bipush 20, 2) := by decide +kernel
theorem dX0_init_52 : decode cX0_init 52 = .ok (.putfield 31, 3) := by decide +kernel
theorem dX0_init_55 : decode cX0_init 55 = .ok (.aload_n 0, 1) := by decide +kernel
theorem dX0_init_56 : decode cX0_init 56 = .ok (.bipush 10, 2) := by decide +kernel
theorem dX0_init_58 : decode cX0_init 58 = .ok (.putfield 34, 3) := by decide +kernel
theorem dX0_init_61 : decode cX0_init 61 = .ok (.aload_n 0, 1) := by decide +kernel
theorem dX0_init_62 : decode cX0_init 62 = .ok (.iconst 0, 1) := by decide +kernel
theorem dX0_init_63 : decode cX0_init 63 = .ok (.putfield 37, 3) := by decide +kernel
theorem dX0_init_66 : decode cX0_init 66 = .ok (.aload_n 0, 1) := by decide +kernel
theorem dX0_init_67 : decode cX0_init 67 = .ok (.iconst 0, 1) := by decide +kernel
theorem dX0_init_68 : decode cX0_init 68 = .ok (.putfield 40, 3) := by decide +kernel
theorem dX0_init_71 : decode cX0_init 71 = .ok (.aload_n 0, 1) := by decide +kernel
theorem dX0_init_72 : decode cX0_init 72 = .ok (.iconst 0, 1) := by decide +kernel
theorem dX0_init_73 : decode cX0_init 73 = .ok (.putfield 43, 3) := by decide +kernel
theorem dX0_init_76 : decode cX0_init 76 = .ok (.aload_n 0, 1) := by decide +kernel
theorem dX0_init_77 : decode cX0_init 77 = .ok (.iconst 0, 1) := by decide +kernel
theorem dX0_init_78 : decode cX0_init 78 = .ok (.putfield 46, 3) := by decide +kernel
theorem dX0_init_81 : decode cX0_init 81 = .ok (.return_, 1) := by decide +kernel
theorem dX0_copyFrom_0 : decode cX0_copyFrom 0 = .ok (.iconst 0, 1) := by decide +kernel
theorem dX0_copyFrom_1 : decode cX0_copyFrom 1 = .ok (.istore_n 2, 1) := by decide +kernel
theorem dX0_copyFrom_2 : decode cX0_copyFrom 2 = .ok (.iload_n 2, 1) := by decide +kernel
theorem dX0_copyFrom_3 : decode cX0_copyFrom 3 = .ok (.aload_n 1, 1) := by decide +kernel
theorem dX0_copyFrom_4 : decode cX0_copyFrom 4 = .ok (.getfield 27, 3) := by decide +kernel
theorem dX0_copyFrom_7 : decode cX0_copyFrom 7 = .ok (.if_icmp .ge 69, 3) := by decide +kernel
theorem dX0_copyFrom_10 : decode cX0_copyFrom 10 = .ok (.aload_n 0, 1) := by decide +kernel
theorem dX0_copyFrom_11 : decode cX0_copyFrom 11 = .ok (.getfield 9, 3) := by decide +kernel
theorem dX0_copyFrom_14 : decode cX0_copyFrom 14 = .ok (.iload_n 2, 1) := by decide +kernel
theorem dX0_copyFrom_15 : decode cX0_copyFrom 15 = .ok (.aload_n 1, 1) := by decide +kernel
theorem dX0_copyFrom_16 : decode cX0_copyFrom 16 = .ok (.getfield 9, 3) := by decide +kernel
theorem dX0_copyFrom_19 : decode cX0_copyFrom 19 = .ok (.iload_n 2, 1) := by decide +kernel
theorem dX0_copyFrom_20 : decode cX0_copyFrom 20 = .ok (.iaload, 1) := by decide +kernel
theorem dX0_copyFrom_21 : decode cX0_copyFrom 21 = .ok (.iastore, 1) := by decide +kernel
theorem dX0_copyFrom_22 : decode cX0_copyFrom 22 = .ok (.aload_n 0, 1) := by decide +kernel
theorem dX0_copyFrom_23 : decode cX0_copyFrom 23 = .ok (.getfield 15, 3) := by decide +kernel
theorem dX0_copyFrom_26 : decode cX0_copyFrom 26 = .ok (.iload_n 2, 1) := by decide +kernel
theorem dX0_copyFrom_27 : decode cX0_copyFrom 27 = .ok (.aload_n 1, 1) := by decide +kernel
theorem dX0_copyFrom_28 : decode cX0_copyFrom 28 = .ok (.getfield 15, 3) := by decide +kernel
theorem dX0_copyFrom_31 : decode cX0_copyFrom 31 = .ok (.iload_n 2, 1) := by decide +kernel
theorem dX0_copyFrom_32 : decode cX0_copyFrom 32 = .ok (.iaload, 1) := by decide +kernel
theorem dX0_copyFrom_33 : decode cX0_copyFrom 33 = .ok (.iastore, 1) := by decide +kernel
theorem dX0_copyFrom_34 : decode cX0_copyFrom 34 = .ok (.aload_n 0, 1) := by decide +kernel
theorem dX0_copyFrom_35 : decode cX0_copyFrom 35 = .ok (.getfield 18, 3) := by decide +kernel
theorem dX0_copyFrom_38 : decode cX0_copyFrom 38 = .ok (.iload_n 2, 1) := by decide +kernel
theorem dX0_copyFrom_39 : decode cX0_copyFrom 39 = .ok (.aload_n 1, 1) := by decide +kernel
theorem dX0_copyFrom_40 : decode cX0_copyFrom 40 = .ok (.getfield 18, 3) := by decide +kernel
theorem dX0_copyFrom_43 : decode cX0_copyFrom 43 = .ok (.iload_n 2, 1) := by decide +kernel
theorem dX0_copyFrom_44 : decode cX0_copyFrom 44 = .ok (.iaload, 1) := by decide +kernel
theorem dX0_copyFrom_45 : decode cX0_copyFrom 45 = .ok (.iastore, 1) := by decide +kernel
theorem dX0_copyFrom_46 : decode cX0_copyFrom 46 = .ok (.aload_n 0, 1) := by decide +kernel
theorem dX0_copyFrom_47 : decode cX0_copyFrom 47 = .ok (.getfield 21, 3) := by decide +kernel
theorem dX0_copyFrom_50 : decode cX0_copyFrom 50 = .ok (.iload_n 2, 1) := by decide +kernel
theorem dX0_copyFrom_51 : decode cX0_copyFrom 51 = .ok (.aload_n 1, 1) := by decide +kernel
theorem dX0_copyFrom_52 : decode cX0_copyFrom 52 = .ok (.getfield 21, 3) := by decide +kernel
theorem dX0_copyFrom_55 : decode cX0_copyFrom 55 = .ok (.iload_n 2, 1) := by decide +kernel
theorem dX0_copyFrom_56 : decode cX0_copyFrom 56 = .ok (.iaload, 1) := by decide +kernel
theorem dX0_copyFrom_57 : decode cX0_copyFrom 57 = .ok (.iastore, 1) := by decide +kernel
theorem dX0_copyFrom_58 : decode cX0_copyFrom 58 = .ok (.aload_n 0, 1) := by decide +kernel
theorem dX0_copyFrom_59 : decode cX0_copyFrom 59 = .ok (.getfield 24, 3) := by decide +kernel
theorem dX0_copyFrom_62 : decode cX0_copyFrom 62 = .ok (.iload_n 2, 1) := by decide +kernel
theorem dX0_copyFrom_63 : decode cX0_copyFrom 63 = .ok (.aload_n 1, 1) := by decide +kernel
theorem dX0_copyFrom_64 : decode cX0_copyFrom 64 = .ok (.getfield 24, 3) := by decide +kernel
theorem dX0_copyFrom_67 : decode cX0_copyFrom 67 = .ok (.iload_n 2, 1) := by decide +kernel
theorem dX0_copyFrom_68 : decode cX0_copyFrom 68 = .ok (.iaload, 1) := by decide +kernel
theorem dX0_copyFrom_69 : decode cX0_copyFrom 69 = .ok (.iastore, 1) := by decide +kernel
theorem dX0_copyFrom_70 : decode cX0_copyFrom 70 = .ok (.iinc 2 1, 3) := by decide +kernel
theorem dX0_copyFrom_73 : decode cX0_copyFrom 73 = .ok (.goto (-71), 3) := by decide +kernel
theorem dX0_copyFrom_76 : decode cX0_copyFrom 76 = .ok (.aload_n 0, 1) := by decide +kernel
theorem dX0_copyFrom_77 : decode cX0_copyFrom 77 = .ok (.aload_n 1, 1) := by decide +kernel
theorem dX0_copyFrom_78 : decode cX0_copyFrom 78 = .ok (.getfield 27, 3) := by decide +kernel
theorem dX0_copyFrom_81 : decode cX0_copyFrom 81 = .ok (.putfield 27, 3) := by decide +kernel
theorem dX0_copyFrom_84 : decode cX0_copyFrom 84 = .ok (.aload_n 0, 1) := by decide +kernel
theorem dX0_copyFrom_85 : decode cX0_copyFrom 85 = .ok (.aload_n 1, 1) := by decide +kernel
theorem dX0_copyFrom_86 : decode cX0_copyFrom 86 = .ok (.getfield 31, 3) := by decide +kernel
theorem dX0_copyFrom_89 : decode cX0_copyFrom 89 = .ok (.putfield 31, 3) := by decide +kernel
theorem dX0_copyFrom_92 : decode cX0_copyFrom 92 = .ok (.aload_n 0, 1) := by decide +kernel
theorem dX0_copyFrom_93 : decode cX0_copyFrom 93 = .ok (.aload_n 1, 1) := by decide +kernel
theorem dX0_copyFrom_94 : decode cX0_copyFrom 94 = .ok (.getfield 34, 3) := by decide +kernel
theorem dX0_copyFrom_97 : decode cX0_copyFrom 97 = .ok (.putfield 34, 3) := by decide +kernel
theorem dX0_copyFrom_100 : decode cX0_copyFrom 100 = .ok (.aload_n 0, 1) := by decide +kernel
theorem dX0_copyFrom_101 : decode cX0_copyFrom 101 = .ok (.aload_n 1, 1) := by decide +kernel
theorem dX0_copyFrom_102 : decode cX0_copyFrom 102 = .ok (.getfield 37, 3) := by decide +kernel
theorem dX0_copyFrom_105 : decode cX0_copyFrom 105 = .ok (.putfield 37, 3) := by decide +kernel
theorem dX0_copyFrom_108 : decode cX0_copyFrom 108 = .ok (.aload_n 0, 1) := by decide +kernel
theorem dX0_copyFrom_109 : decode cX0_copyFrom 109 = .ok (.aload_n 1, 1) := by decide +kernel
theorem dX0_copyFrom_110 : decode cX0_copyFrom 110 = .ok (.getfield 40, 3) := by decide +kernel
theorem dX0_copyFrom_113 : decode cX0_copyFrom 113 = .ok (.putfield 40, 3) := by decide +kernel
theorem dX0_copyFrom_116 : decode cX0_copyFrom 116 = .ok (.aload_n 0, 1) := by decide +kernel
theorem dX0_copyFrom_117 : decode cX0_copyFrom 117 = .ok (.aload_n 1, 1) := by decide +kernel
theorem dX0_copyFrom_118 : decode cX0_copyFrom 118 = .ok (.getfield 43, 3) := by decide +kernel
theorem dX0_copyFrom_121 : decode cX0_copyFrom 121 = .ok (.putfield 43, 3) := by decide +kernel
theorem dX0_copyFrom_124 : decode cX0_copyFrom 124 = .ok (.aload_n 0, 1) := by decide +kernel
theorem dX0_copyFrom_125 : decode cX0_copyFrom 125 = .ok (.aload_n 1, 1) := by decide +kernel
theorem dX0_copyFrom_126 : decode cX0_copyFrom 126 = .ok (.getfield 46, 3) := by decide +kernel
theorem dX0_copyFrom_129 : decode cX0_copyFrom 129 = .ok (.putfield 46, 3) := by decide +kernel
theorem dX0_copyFrom_132 : decode cX0_copyFrom 132 = .ok (.return_, 1) := by decide +kernel
theorem dX0_isThere_0 : decode cX0_isThere 0 = .ok (.iload_n 1, 1) := by decide +kernel
theorem dX0_isThere_1 : decode cX0_isThere 1 = .ok (.ifCond .lt 15, 3) := by decide +kernel
theorem dX0_isThere_4 : decode cX0_isThere 4 = .ok (.iload_n 1, 1) := by decide +kernel
theorem dX0_isThere_5 : decode cX0_isThere 5 = .ok (.aload_n 0, 1) := by decide +kernel
theorem dX0_isThere_6 : decode cX0_isThere 6 = .ok (.getfield 27, 3) := by decide +kernel
theorem dX0_isThere_9 : decode cX0_isThere 9 = .ok (.if_icmp .ge 7, 3) := by decide +kernel
theorem dX0_isThere_12 : decode cX0_isThere 12 = .ok (.iconst 1, 1) := by decide +kernel
theorem dX0_isThere_13 : decode cX0_isThere 13 = .ok (.goto 4, 3) := by decide +kernel
theorem dX0_isThere_16 : decode cX0_isThere 16 = .ok (.iconst 0, 1) := by decide +kernel
theorem dX0_isThere_17 : decode cX0_isThere 17 = .ok (.ireturn, 1) := by decide +kernel
theorem dX0_addPerson_0 : decode cX0_addPerson 0 = .ok (.aload_n 0, 1) := by decide +kernel
theorem dX0_addPerson_1 : decode cX0_addPerson 1 = .ok (.getfield 27, 3) := by decide +kernel
theorem dX0_addPerson_4 : decode cX0_addPerson 4 = .ok (.bipush 6, 2) := by decide +kernel
theorem dX0_addPerson_6 : decode cX0_addPerson 6 = .ok (.if_icmp .lt 5, 3) := by decide +kernel
theorem dX0_addPerson_9 : decode cX0_addPerson 9 = .ok (.iconst 0, 1) := by decide +kernel
theorem dX0_addPerson_10 : decode cX0_addPerson 10 = .ok (.ireturn, 1) := by decide +kernel
theorem dX0_addPerson_11 : decode cX0_addPerson 11 = .ok (.aload_n 0, 1) := by decide +kernel
theorem dX0_addPerson_12 : decode cX0_addPerson 12 = .ok (.getfield 9, 3) := by decide +kernel
theorem dX0_addPerson_15 : decode cX0_addPerson 15 = .ok (.aload_n 0, 1) := by decide +kernel
theorem dX0_addPerson_16 : decode cX0_addPerson 16 = .ok (.getfield 27, 3) := by decide +kernel
theorem dX0_addPerson_19 : decode cX0_addPerson 19 = .ok (.iload_n 1, 1) := by decide +kernel
theorem dX0_addPerson_20 : decode cX0_addPerson 20 = .ok (.iastore, 1) := by decide +kernel
theorem dX0_addPerson_21 : decode cX0_addPerson 21 = .ok (.aload_n 0, 1) := by decide +kernel
theorem dX0_addPerson_22 : decode cX0_addPerson 22 = .ok (.getfield 15, 3) := by decide +kernel
theorem dX0_addPerson_25 : decode cX0_addPerson 25 = .ok (.aload_n 0, 1) := by decide +kernel
theorem dX0_addPerson_26 : decode cX0_addPerson 26 = .ok (.getfield 27, 3) := by decide +kernel
theorem dX0_addPerson_29 : decode cX0_addPerson 29 = .ok (.iload_n 2, 1) := by decide +kernel
theorem dX0_addPerson_30 : decode cX0_addPerson 30 = .ok (.iastore, 1) := by decide +kernel
theorem dX0_addPerson_31 : decode cX0_addPerson 31 = .ok (.aload_n 0, 1) := by decide +kernel
theorem dX0_addPerson_32 : decode cX0_addPerson 32 = .ok (.getfield 18, 3) := by decide +kernel
theorem dX0_addPerson_35 : decode cX0_addPerson 35 = .ok (.aload_n 0, 1) := by decide +kernel
theorem dX0_addPerson_36 : decode cX0_addPerson 36 = .ok (.getfield 27, 3) := by decide +kernel
theorem dX0_addPerson_39 : decode cX0_addPerson 39 = .ok (.iload_n 3, 1) := by decide +kernel
theorem dX0_addPerson_40 : decode cX0_addPerson 40 = .ok (.iastore, 1) := by decide +kernel
theorem dX0_addPerson_41 : decode cX0_addPerson 41 = .ok (.aload_n 0, 1) := by decide +kernel
theorem dX0_addPerson_42 : decode cX0_addPerson 42 = .ok (.getfield 21, 3) := by decide +kernel
theorem dX0_addPerson_45 : decode cX0_addPerson 45 = .ok (.aload_n 0, 1) := by decide +kernel
theorem dX0_addPerson_46 : decode cX0_addPerson 46 = .ok (.getfield 27, 3) := by decide +kernel
theorem dX0_addPerson_49 : decode cX0_addPerson 49 = .ok (.iconst 5, 1) := by decide +kernel
theorem dX0_addPerson_50 : decode cX0_addPerson 50 = .ok (.iastore, 1) := by decide +kernel
theorem dX0_addPerson_51 : decode cX0_addPerson 51 = .ok (.aload_n 0, 1) := by decide +kernel
theorem dX0_addPerson_52 : decode cX0_addPerson 52 = .ok (.getfield 24, 3) := by decide +kernel
theorem dX0_addPerson_55 : decode cX0_addPerson 55 = .ok (.aload_n 0, 1) := by decide +kernel
theorem dX0_addPerson_56 : decode cX0_addPerson 56 = .ok (.getfield 27, 3) := by decide +kernel
theorem dX0_addPerson_59 : decode cX0_addPerson 59 = .ok (.aload_n 0, 1) := by decide +kernel
theorem dX0_addPerson_60 : decode cX0_addPerson 60 = .ok (.getfield 27, 3) := by decide +kernel
theorem dX0_addPerson_63 : decode cX0_addPerson 63 = .ok (.iastore, 1) := by decide +kernel
theorem dX0_addPerson_64 : decode cX0_addPerson 64 = .ok (.aload_n 0, 1) := by decide +kernel
theorem dX0_addPerson_65 : decode cX0_addPerson 65 = .ok (.dup, 1) := by decide +kernel
theorem dX0_addPerson_66 : decode cX0_addPerson 66 = .ok (.getfield 27, 3) := by decide +kernel
theorem dX0_addPerson_69 : decode cX0_addPerson 69 = .ok (.iconst 1, 1) := by decide +kernel
theorem dX0_addPerson_70 : decode cX0_addPerson 70 = .ok (.iadd, 1) := by decide +kernel
theorem dX0_addPerson_71 : decode cX0_addPerson 71 = .ok (.putfield 27, 3) := by decide +kernel
theorem dX0_addPerson_74 : decode cX0_addPerson 74 = .ok (.iconst 1, 1) := by decide +kernel
theorem dX0_addPerson_75 : decode cX0_addPerson 75 = .ok (.ireturn, 1) := by decide +kernel
theorem dX0_setFriend_0 : decode cX0_setFriend 0 = .ok (.aload_n 0, 1) := by decide +kernel
theorem dX0_setFriend_1 : decode cX0_setFriend 1 = .ok (.iload_n 1, 1) := by decide +kernel
theorem dX0_setFriend_2 : decode cX0_setFriend 2 = .ok (.invokevirtual 49, 3) := by decide +kernel
theorem dX0_setFriend_5 : decode cX0_setFriend 5 = .ok (.ifCond .eq 13, 3) := by decide +kernel
theorem dX0_setFriend_8 : decode cX0_setFriend 8 = .ok (.iload_n 2, 1) := by decide +kernel
theorem dX0_setFriend_9 : decode cX0_setFriend 9 = .ok (.ifCond .lt 9, 3) := by decide +kernel
theorem dX0_setFriend_12 : decode cX0_setFriend 12 = .ok (.iload_n 2, 1) := by decide +kernel
theorem dX0_setFriend_13 : decode cX0_setFriend 13 = .ok (.bipush 6, 2) := by decide +kernel
theorem dX0_setFriend_15 : decode cX0_setFriend 15 = .ok (.if_icmp .lt 5, 3) := by decide +kernel
theorem dX0_setFriend_18 : decode cX0_setFriend 18 = .ok (.iconst 0, 1) := by decide +kernel
theorem dX0_setFriend_19 : decode cX0_setFriend 19 = .ok (.ireturn, 1) := by decide +kernel
theorem dX0_setFriend_20 : decode cX0_setFriend 20 = .ok (.aload_n 0, 1) := by decide +kernel
theorem dX0_setFriend_21 : decode cX0_setFriend 21 = .ok (.getfield 24, 3) := by decide +kernel
theorem dX0_setFriend_24 : decode cX0_setFriend 24 = .ok (.iload_n 1, 1) := by decide +kernel
theorem dX0_setFriend_25 : decode cX0_setFriend 25 = .ok (.iload_n 2, 1) := by decide +kernel
theorem dX0_setFriend_26 : decode cX0_setFriend 26 = .ok (.iastore, 1) := by decide +kernel
theorem dX0_setFriend_27 : decode cX0_setFriend 27 = .ok (.iconst 1, 1) := by decide +kernel
theorem dX0_setFriend_28 : decode cX0_setFriend 28 = .ok (.ireturn, 1) := by decide +kernel
theorem dX0_setHas_0 : decode cX0_setHas 0 = .ok (.aload_n 0, 1) := by decide +kernel
theorem dX0_setHas_1 : decode cX0_setHas 1 = .ok (.iload_n 1, 1) := by decide +kernel
theorem dX0_setHas_2 : decode cX0_setHas 2 = .ok (.invokevirtual 49, 3) := by decide +kernel
theorem dX0_setHas_5 : decode cX0_setHas 5 = .ok (.ifCond .eq 13, 3) := by decide +kernel
theorem dX0_setHas_8 : decode cX0_setHas 8 = .ok (.iload_n 2, 1) := by decide +kernel
theorem dX0_setHas_9 : decode cX0_setHas 9 = .ok (.ifCond .lt 9, 3) := by decide +kernel
theorem dX0_setHas_12 : decode cX0_setHas 12 = .ok (.iload_n 2, 1) := by decide +kernel
theorem dX0_setHas_13 : decode cX0_setHas 13 = .ok (.bipush 99, 2) := by decide +kernel
theorem dX0_setHas_15 : decode cX0_setHas 15 = .ok (.if_icmp .le 5, 3) := by decide +kernel
theorem dX0_setHas_18 : decode cX0_setHas 18 = .ok (.iconst 0, 1) := by decide +kernel
theorem dX0_setHas_19 : decode cX0_setHas 19 = .ok (.ireturn, 1) := by decide +kernel
theorem dX0_setHas_20 : decode cX0_setHas 20 = .ok (.aload_n 0, 1) := by decide +kernel
theorem dX0_setHas_21 : decode cX0_setHas 21 = .ok (.getfield 21, 3) := by decide +kernel
theorem dX0_setHas_24 : decode cX0_setHas 24 = .ok (.iload_n 1, 1) := by decide +kernel
theorem dX0_setHas_25 : decode cX0_setHas 25 = .ok (.iload_n 2, 1) := by decide +kernel
theorem dX0_setHas_26 : decode cX0_setHas 26 = .ok (.iastore, 1) := by decide +kernel
theorem dX0_setHas_27 : decode cX0_setHas 27 = .ok (.iconst 1, 1) := by decide +kernel
theorem dX0_setHas_28 : decode cX0_setHas 28 = .ok (.ireturn, 1) := by decide +kernel
theorem dX0_setWater_0 : decode cX0_setWater 0 = .ok (.iload_n 1, 1) := by decide +kernel
theorem dX0_setWater_1 : decode cX0_setWater 1 = .ok (.ifCond .lt 9, 3) := by decide +kernel
theorem dX0_setWater_4 : decode cX0_setWater 4 = .ok (.iload_n 1, 1) := by decide +kernel
theorem dX0_setWater_5 : decode cX0_setWater 5 = .ok (.bipush 99, 2) := by decide +kernel
theorem dX0_setWater_7 : decode cX0_setWater 7 = .ok (.if_icmp .le 5, 3) := by decide +kernel
theorem dX0_setWater_10 : decode cX0_setWater 10 = .ok (.iconst 0, 1) := by decide +kernel
theorem dX0_setWater_11 : decode cX0_setWater 11 = .ok (.ireturn, 1) := by decide +kernel
theorem dX0_setWater_12 : decode cX0_setWater 12 = .ok (.aload_n 0, 1) := by decide +kernel
theorem dX0_setWater_13 : decode cX0_setWater 13 = .ok (.iload_n 1, 1) := by decide +kernel
theorem dX0_setWater_14 : decode cX0_setWater 14 = .ok (.putfield 31, 3) := by decide +kernel
theorem dX0_setWater_17 : decode cX0_setWater 17 = .ok (.iconst 1, 1) := by decide +kernel
theorem dX0_setWater_18 : decode cX0_setWater 18 = .ok (.ireturn, 1) := by decide +kernel
theorem dX0_setFlow_0 : decode cX0_setFlow 0 = .ok (.iload_n 1, 1) := by decide +kernel
theorem dX0_setFlow_1 : decode cX0_setFlow 1 = .ok (.ifCond .lt 9, 3) := by decide +kernel
theorem dX0_setFlow_4 : decode cX0_setFlow 4 = .ok (.iload_n 1, 1) := by decide +kernel
theorem dX0_setFlow_5 : decode cX0_setFlow 5 = .ok (.bipush 30, 2) := by decide +kernel
theorem dX0_setFlow_7 : decode cX0_setFlow 7 = .ok (.if_icmp .le 5, 3) := by decide +kernel
theorem dX0_setFlow_10 : decode cX0_setFlow 10 = .ok (.iconst 0, 1) := by decide +kernel
theorem dX0_setFlow_11 : decode cX0_setFlow 11 = .ok (.ireturn, 1) := by decide +kernel
theorem dX0_setFlow_12 : decode cX0_setFlow 12 = .ok (.aload_n 0, 1) := by decide +kernel
theorem dX0_setFlow_13 : decode cX0_setFlow 13 = .ok (.iload_n 1, 1) := by decide +kernel
theorem dX0_setFlow_14 : decode cX0_setFlow 14 = .ok (.putfield 34, 3) := by decide +kernel
theorem dX0_setFlow_17 : decode cX0_setFlow 17 = .ok (.iconst 1, 1) := by decide +kernel
theorem dX0_setFlow_18 : decode cX0_setFlow 18 = .ok (.ireturn, 1) := by decide +kernel
theorem dX0_letSpeak_0 : decode cX0_letSpeak 0 = .ok (.aload_n 0, 1) := by decide +kernel
theorem dX0_letSpeak_1 : decode cX0_letSpeak 1 = .ok (.iload_n 1, 1) := by decide +kernel
theorem dX0_letSpeak_2 : decode cX0_letSpeak 2 = .ok (.invokevirtual 49, 3) := by decide +kernel
theorem dX0_letSpeak_5 : decode cX0_letSpeak 5 = .ok (.ifCond .ne 5, 3) := by decide +kernel
theorem dX0_letSpeak_8 : decode cX0_letSpeak 8 = .ok (.iconst 0, 1) := by decide +kernel
theorem dX0_letSpeak_9 : decode cX0_letSpeak 9 = .ok (.ireturn, 1) := by decide +kernel
theorem dX0_letSpeak_10 : decode cX0_letSpeak 10 = .ok (.aload_n 0, 1) := by decide +kernel
theorem dX0_letSpeak_11 : decode cX0_letSpeak 11 = .ok (.dup, 1) := by decide +kernel
theorem dX0_letSpeak_12 : decode cX0_letSpeak 12 = .ok (.getfield 40, 3) := by decide +kernel
theorem dX0_letSpeak_15 : decode cX0_letSpeak 15 = .ok (.iconst 1, 1) := by decide +kernel
theorem dX0_letSpeak_16 : decode cX0_letSpeak 16 = .ok (.iload_n 1, 1) := by decide +kernel
theorem dX0_letSpeak_17 : decode cX0_letSpeak 17 = .ok (.ishl, 1) := by decide +kernel
theorem dX0_letSpeak_18 : decode cX0_letSpeak 18 = .ok (.ior, 1) := by decide +kernel
theorem dX0_letSpeak_19 : decode cX0_letSpeak 19 = .ok (.putfield 40, 3) := by decide +kernel
theorem dX0_letSpeak_22 : decode cX0_letSpeak 22 = .ok (.iconst 1, 1) := by decide +kernel
theorem dX0_letSpeak_23 : decode cX0_letSpeak 23 = .ok (.ireturn, 1) := by decide +kernel
theorem dX0_everybody_0 : decode cX0_everybody 0 = .ok (.iconst 1, 1) := by decide +kernel
theorem dX0_everybody_1 : decode cX0_everybody 1 = .ok (.aload_n 0, 1) := by decide +kernel
theorem dX0_everybody_2 : decode cX0_everybody 2 = .ok (.getfield 27, 3) := by decide +kernel
theorem dX0_everybody_5 : decode cX0_everybody 5 = .ok (.ishl, 1) := by decide +kernel
theorem dX0_everybody_6 : decode cX0_everybody 6 = .ok (.iconst 1, 1) := by decide +kernel
theorem dX0_everybody_7 : decode cX0_everybody 7 = .ok (.isub, 1) := by decide +kernel
theorem dX0_everybody_8 : decode cX0_everybody 8 = .ok (.ireturn, 1) := by decide +kernel
theorem dX0_hasSpoken_0 : decode cX0_hasSpoken 0 = .ok (.aload_n 0, 1) := by decide +kernel
theorem dX0_hasSpoken_1 : decode cX0_hasSpoken 1 = .ok (.getfield 40, 3) := by decide +kernel
theorem dX0_hasSpoken_4 : decode cX0_hasSpoken 4 = .ok (.iload_n 1, 1) := by decide +kernel
theorem dX0_hasSpoken_5 : decode cX0_hasSpoken 5 = .ok (.ishr, 1) := by decide +kernel
theorem dX0_hasSpoken_6 : decode cX0_hasSpoken 6 = .ok (.iconst 1, 1) := by decide +kernel
theorem dX0_hasSpoken_7 : decode cX0_hasSpoken 7 = .ok (.iand, 1) := by decide +kernel
theorem dX0_hasSpoken_8 : decode cX0_hasSpoken 8 = .ok (.iconst 1, 1) := by decide +kernel
theorem dX0_hasSpoken_9 : decode cX0_hasSpoken 9 = .ok (.if_icmp .ne 7, 3) := by decide +kernel
theorem dX0_hasSpoken_12 : decode cX0_hasSpoken 12 = .ok (.iconst 1, 1) := by decide +kernel
theorem dX0_hasSpoken_13 : decode cX0_hasSpoken 13 = .ok (.goto 4, 3) := by decide +kernel
theorem dX0_hasSpoken_16 : decode cX0_hasSpoken 16 = .ok (.iconst 0, 1) := by decide +kernel
theorem dX0_hasSpoken_17 : decode cX0_hasSpoken 17 = .ok (.ireturn, 1) := by decide +kernel
theorem dX0_hasDrawn_0 : decode cX0_hasDrawn 0 = .ok (.aload_n 0, 1) := by decide +kernel
theorem dX0_hasDrawn_1 : decode cX0_hasDrawn 1 = .ok (.getfield 43, 3) := by decide +kernel
theorem dX0_hasDrawn_4 : decode cX0_hasDrawn 4 = .ok (.iload_n 1, 1) := by decide +kernel
theorem dX0_hasDrawn_5 : decode cX0_hasDrawn 5 = .ok (.ishr, 1) := by decide +kernel
theorem dX0_hasDrawn_6 : decode cX0_hasDrawn 6 = .ok (.iconst 1, 1) := by decide +kernel
theorem dX0_hasDrawn_7 : decode cX0_hasDrawn 7 = .ok (.iand, 1) := by decide +kernel
theorem dX0_hasDrawn_8 : decode cX0_hasDrawn 8 = .ok (.iconst 1, 1) := by decide +kernel
theorem dX0_hasDrawn_9 : decode cX0_hasDrawn 9 = .ok (.if_icmp .ne 7, 3) := by decide +kernel
theorem dX0_hasDrawn_12 : decode cX0_hasDrawn 12 = .ok (.iconst 1, 1) := by decide +kernel
theorem dX0_hasDrawn_13 : decode cX0_hasDrawn 13 = .ok (.goto 4, 3) := by decide +kernel
theorem dX0_hasDrawn_16 : decode cX0_hasDrawn 16 = .ok (.iconst 0, 1) := by decide +kernel
theorem dX0_hasDrawn_17 : decode cX0_hasDrawn 17 = .ok (.ireturn, 1) := by decide +kernel
theorem dX0_isHushed_0 : decode cX0_isHushed 0 = .ok (.aload_n 0, 1) := by decide +kernel
theorem dX0_isHushed_1 : decode cX0_isHushed 1 = .ok (.getfield 46, 3) := by decide +kernel
theorem dX0_isHushed_4 : decode cX0_isHushed 4 = .ok (.iload_n 1, 1) := by decide +kernel
theorem dX0_isHushed_5 : decode cX0_isHushed 5 = .ok (.ishr, 1) := by decide +kernel
theorem dX0_isHushed_6 : decode cX0_isHushed 6 = .ok (.iconst 1, 1) := by decide +kernel
theorem dX0_isHushed_7 : decode cX0_isHushed 7 = .ok (.iand, 1) := by decide +kernel
theorem dX0_isHushed_8 : decode cX0_isHushed 8 = .ok (.iconst 1, 1) := by decide +kernel
theorem dX0_isHushed_9 : decode cX0_isHushed 9 = .ok (.if_icmp .ne 7, 3) := by decide +kernel
theorem dX0_isHushed_12 : decode cX0_isHushed 12 = .ok (.iconst 1, 1) := by decide +kernel
theorem dX0_isHushed_13 : decode cX0_isHushed 13 = .ok (.goto 4, 3) := by decide +kernel
theorem dX0_isHushed_16 : decode cX0_isHushed 16 = .ok (.iconst 0, 1) := by decide +kernel
theorem dX0_isHushed_17 : decode cX0_isHushed 17 = .ok (.ireturn, 1) := by decide +kernel
theorem dX0_speakingHour_0 : decode cX0_speakingHour 0 = .ok (.aload_n 0, 1) := by decide +kernel
theorem dX0_speakingHour_1 : decode cX0_speakingHour 1 = .ok (.getfield 15, 3) := by decide +kernel
theorem dX0_speakingHour_4 : decode cX0_speakingHour 4 = .ok (.iload_n 1, 1) := by decide +kernel
theorem dX0_speakingHour_5 : decode cX0_speakingHour 5 = .ok (.iaload, 1) := by decide +kernel
theorem dX0_speakingHour_6 : decode cX0_speakingHour 6 = .ok (.iconst 2, 1) := by decide +kernel
theorem dX0_speakingHour_7 : decode cX0_speakingHour 7 = .ok (.idiv, 1) := by decide +kernel
theorem dX0_speakingHour_8 : decode cX0_speakingHour 8 = .ok (.iconst 1, 1) := by decide +kernel
theorem dX0_speakingHour_9 : decode cX0_speakingHour 9 = .ok (.iadd, 1) := by decide +kernel
theorem dX0_speakingHour_10 : decode cX0_speakingHour 10 = .ok (.istore_n 2, 1) := by decide +kernel
theorem dX0_speakingHour_11 : decode cX0_speakingHour 11 = .ok (.bipush 12, 2) := by decide +kernel
theorem dX0_speakingHour_13 : decode cX0_speakingHour 13 = .ok (.iload_n 2, 1) := by decide +kernel
theorem dX0_speakingHour_14 : decode cX0_speakingHour 14 = .ok (.iconst 3, 1) := by decide +kernel
theorem dX0_speakingHour_15 : decode cX0_speakingHour 15 = .ok (.iadd, 1) := by decide +kernel
theorem dX0_speakingHour_16 : decode cX0_speakingHour 16 = .ok (.invokestatic 53, 3) := by decide +kernel
theorem dX0_speakingHour_19 : decode cX0_speakingHour 19 = .ok (.istore_n 3, 1) := by decide +kernel
theorem dX0_speakingHour_20 : decode cX0_speakingHour 20 = .ok (.aload_n 0, 1) := by decide +kernel
theorem dX0_speakingHour_21 : decode cX0_speakingHour 21 = .ok (.getfield 9, 3) := by decide +kernel
theorem dX0_speakingHour_24 : decode cX0_speakingHour 24 = .ok (.iload_n 1, 1) := by decide +kernel
theorem dX0_speakingHour_25 : decode cX0_speakingHour 25 = .ok (.iaload, 1) := by decide +kernel
theorem dX0_speakingHour_26 : decode cX0_speakingHour 26 = .ok (.tableswitch 52 1 5 #[34, 36, 38, 41, 50], 34) := by decide +kernel
theorem dX0_speakingHour_60 : decode cX0_speakingHour 60 = .ok (.iload_n 3, 1) := by decide +kernel
theorem dX0_speakingHour_61 : decode cX0_speakingHour 61 = .ok (.ireturn, 1) := by decide +kernel
theorem dX0_speakingHour_62 : decode cX0_speakingHour 62 = .ok (.iconst 0, 1) := by decide +kernel
theorem dX0_speakingHour_63 : decode cX0_speakingHour 63 = .ok (.ireturn, 1) := by decide +kernel
theorem dX0_speakingHour_64 : decode cX0_speakingHour 64 = .ok (.bipush 12, 2) := by decide +kernel
theorem dX0_speakingHour_66 : decode cX0_speakingHour 66 = .ok (.ireturn, 1) := by decide +kernel
theorem dX0_speakingHour_67 : decode cX0_speakingHour 67 = .ok (.bipush 12, 2) := by decide +kernel
theorem dX0_speakingHour_69 : decode cX0_speakingHour 69 = .ok (.iconst 2, 1) := by decide +kernel
theorem dX0_speakingHour_70 : decode cX0_speakingHour 70 = .ok (.iload_n 3, 1) := by decide +kernel
theorem dX0_speakingHour_71 : decode cX0_speakingHour 71 = .ok (.imul, 1) := by decide +kernel
theorem dX0_speakingHour_72 : decode cX0_speakingHour 72 = .ok (.invokestatic 53, 3) := by decide +kernel
theorem dX0_speakingHour_75 : decode cX0_speakingHour 75 = .ok (.ireturn, 1) := by decide +kernel
theorem dX0_speakingHour_76 : decode cX0_speakingHour 76 = .ok (.iconst 0, 1) := by decide +kernel
theorem dX0_speakingHour_77 : decode cX0_speakingHour 77 = .ok (.ireturn, 1) := by decide +kernel
theorem dX0_speakingHour_78 : decode cX0_speakingHour 78 = .ok (.iload_n 2, 1) := by decide +kernel
theorem dX0_speakingHour_79 : decode cX0_speakingHour 79 = .ok (.ireturn, 1) := by decide +kernel
theorem dX0_drinkOf_0 : decode cX0_drinkOf 0 = .ok (.iconst 3, 1) := by decide +kernel
theorem dX0_drinkOf_1 : decode cX0_drinkOf 1 = .ok (.istore_n 2, 1) := by decide +kernel
theorem dX0_drinkOf_2 : decode cX0_drinkOf 2 = .ok (.iconst 2, 1) := by decide +kernel
theorem dX0_drinkOf_3 : decode cX0_drinkOf 3 = .ok (.istore_n 3, 1) := by decide +kernel
theorem dX0_drinkOf_4 : decode cX0_drinkOf 4 = .ok (.aload_n 0, 1) := by decide +kernel
theorem dX0_drinkOf_5 : decode cX0_drinkOf 5 = .ok (.getfield 9, 3) := by decide +kernel
theorem dX0_drinkOf_8 : decode cX0_drinkOf 8 = .ok (.iload_n 1, 1) := by decide +kernel
theorem dX0_drinkOf_9 : decode cX0_drinkOf 9 = .ok (.iaload, 1) := by decide +kernel
theorem dX0_drinkOf_10 : decode cX0_drinkOf 10 = .ok (.tableswitch 50 1 5 #[34, 36, 40, 42, 46], 34) := by decide +kernel
theorem dX0_drinkOf_44 : decode cX0_drinkOf 44 = .ok (.iload_n 3, 1) := by decide +kernel
theorem dX0_drinkOf_45 : decode cX0_drinkOf 45 = .ok (.ireturn, 1) := by decide +kernel
theorem dX0_drinkOf_46 : decode cX0_drinkOf 46 = .ok (.iload_n 2, 1) := by decide +kernel
theorem dX0_drinkOf_47 : decode cX0_drinkOf 47 = .ok (.iconst 1, 1) := by decide +kernel
theorem dX0_drinkOf_48 : decode cX0_drinkOf 48 = .ok (.iadd, 1) := by decide +kernel
theorem dX0_drinkOf_49 : decode cX0_drinkOf 49 = .ok (.ireturn, 1) := by decide +kernel
theorem dX0_drinkOf_50 : decode cX0_drinkOf 50 = .ok (.iload_n 3, 1) := by decide +kernel
theorem dX0_drinkOf_51 : decode cX0_drinkOf 51 = .ok (.ireturn, 1) := by decide +kernel
theorem dX0_drinkOf_52 : decode cX0_drinkOf 52 = .ok (.iload_n 3, 1) := by decide +kernel
theorem dX0_drinkOf_53 : decode cX0_drinkOf 53 = .ok (.iconst 1, 1) := by decide +kernel
theorem dX0_drinkOf_54 : decode cX0_drinkOf 54 = .ok (.isub, 1) := by decide +kernel
theorem dX0_drinkOf_55 : decode cX0_drinkOf 55 = .ok (.ireturn, 1) := by decide +kernel
theorem dX0_drinkOf_56 : decode cX0_drinkOf 56 = .ok (.iload_n 2, 1) := by decide +kernel
theorem dX0_drinkOf_57 : decode cX0_drinkOf 57 = .ok (.iconst 1, 1) := by decide +kernel
theorem dX0_drinkOf_58 : decode cX0_drinkOf 58 = .ok (.iadd, 1) := by decide +kernel
theorem dX0_drinkOf_59 : decode cX0_drinkOf 59 = .ok (.ireturn, 1) := by decide +kernel
theorem dX0_drinkOf_60 : decode cX0_drinkOf 60 = .ok (.iload_n 2, 1) := by decide +kernel
theorem dX0_drinkOf_61 : decode cX0_drinkOf 61 = .ok (.ireturn, 1) := by decide +kernel
theorem dX0_drawsThoughSpoken_0 : decode cX0_drawsThoughSpoken 0 = .ok (.aload_n 0, 1) := by decide +kernel
theorem dX0_drawsThoughSpoken_1 : decode cX0_drawsThoughSpoken 1 = .ok (.getfield 9, 3) := by decide +kernel
theorem dX0_drawsThoughSpoken_4 : decode cX0_drawsThoughSpoken 4 = .ok (.iload_n 1, 1) := by decide +kernel
theorem dX0_drawsThoughSpoken_5 : decode cX0_drawsThoughSpoken 5 = .ok (.iaload, 1) := by decide +kernel
theorem dX0_drawsThoughSpoken_6 : decode cX0_drawsThoughSpoken 6 = .ok (.iconst 5, 1) := by decide +kernel
theorem dX0_drawsThoughSpoken_7 : decode cX0_drawsThoughSpoken 7 = .ok (.if_icmp .ne 15, 3) := by decide +kernel
theorem dX0_drawsThoughSpoken_10 : decode cX0_drawsThoughSpoken 10 = .ok (.aload_n 0, 1) := by decide +kernel
theorem dX0_drawsThoughSpoken_11 : decode cX0_drawsThoughSpoken 11 = .ok (.iload_n 1, 1) := by decide +kernel
theorem dX0_drawsThoughSpoken_12 : decode cX0_drawsThoughSpoken 12 = .ok (.invokevirtual 59, 3) := by decide +kernel
theorem dX0_drawsThoughSpoken_15 : decode cX0_drawsThoughSpoken 15 = .ok (.ifCond .ne 7, 3) := by decide +kernel
theorem dX0_drawsThoughSpoken_18 : decode cX0_drawsThoughSpoken 18 = .ok (.iconst 1, 1) := by decide +kernel
theorem dX0_drawsThoughSpoken_19 : decode cX0_drawsThoughSpoken 19 = .ok (.goto 4, 3) := by decide +kernel
theorem dX0_drawsThoughSpoken_22 : decode cX0_drawsThoughSpoken 22 = .ok (.iconst 0, 1) := by decide +kernel
theorem dX0_drawsThoughSpoken_23 : decode cX0_drawsThoughSpoken 23 = .ok (.ireturn, 1) := by decide +kernel
theorem dX0_mayPass_0 : decode cX0_mayPass 0 = .ok (.iload_n 1, 1) := by decide +kernel
theorem dX0_mayPass_1 : decode cX0_mayPass 1 = .ok (.iconst 1, 1) := by decide +kernel
theorem dX0_mayPass_2 : decode cX0_mayPass 2 = .ok (.if_icmp .lt 25, 3) := by decide +kernel
theorem dX0_mayPass_5 : decode cX0_mayPass 5 = .ok (.iload_n 1, 1) := by decide +kernel
theorem dX0_mayPass_6 : decode cX0_mayPass 6 = .ok (.bipush 60, 2) := by decide +kernel
theorem dX0_mayPass_8 : decode cX0_mayPass 8 = .ok (.if_icmp .gt 19, 3) := by decide +kernel
theorem dX0_mayPass_11 : decode cX0_mayPass 11 = .ok (.aload_n 0, 1) := by decide +kernel
theorem dX0_mayPass_12 : decode cX0_mayPass 12 = .ok (.getfield 37, 3) := by decide +kernel
theorem dX0_mayPass_15 : decode cX0_mayPass 15 = .ok (.iload_n 1, 1) := by decide +kernel
theorem dX0_mayPass_16 : decode cX0_mayPass 16 = .ok (.iadd, 1) := by decide +kernel
theorem dX0_mayPass_17 : decode cX0_mayPass 17 = .ok (.sipush 999, 3) := by decide +kernel
theorem dX0_mayPass_20 : decode cX0_mayPass 20 = .ok (.if_icmp .gt 7, 3) := by decide +kernel
theorem dX0_mayPass_23 : decode cX0_mayPass 23 = .ok (.iconst 1, 1) := by decide +kernel
theorem dX0_mayPass_24 : decode cX0_mayPass 24 = .ok (.goto 4, 3) := by decide +kernel
theorem dX0_mayPass_27 : decode cX0_mayPass 27 = .ok (.iconst 0, 1) := by decide +kernel
theorem dX0_mayPass_28 : decode cX0_mayPass 28 = .ok (.ireturn, 1) := by decide +kernel
theorem dX0_passHours_0 : decode cX0_passHours 0 = .ok (.iconst 0, 1) := by decide +kernel
theorem dX0_passHours_1 : decode cX0_passHours 1 = .ok (.istore_n 2, 1) := by decide +kernel
theorem dX0_passHours_2 : decode cX0_passHours 2 = .ok (.iload_n 2, 1) := by decide +kernel
theorem dX0_passHours_3 : decode cX0_passHours 3 = .ok (.iload_n 1, 1) := by decide +kernel
theorem dX0_passHours_4 : decode cX0_passHours 4 = .ok (.if_icmp .ge 14, 3) := by decide +kernel
theorem dX0_passHours_7 : decode cX0_passHours 7 = .ok (.aload_n 0, 1) := by decide +kernel
theorem dX0_passHours_8 : decode cX0_passHours 8 = .ok (.iconst 0, 1) := by decide +kernel
theorem dX0_passHours_9 : decode cX0_passHours 9 = .ok (.invokevirtual 62, 3) := by decide +kernel
theorem dX0_passHours_12 : decode cX0_passHours 12 = .ok (.iinc 2 1, 3) := by decide +kernel
theorem dX0_passHours_15 : decode cX0_passHours 15 = .ok (.goto (-13), 3) := by decide +kernel
theorem dX0_passHours_18 : decode cX0_passHours 18 = .ok (.return_, 1) := by decide +kernel
theorem dX0_passHour_0 : decode cX0_passHour 0 = .ok (.aload_n 0, 1) := by decide +kernel
theorem dX0_passHour_1 : decode cX0_passHour 1 = .ok (.getfield 37, 3) := by decide +kernel
theorem dX0_passHour_4 : decode cX0_passHour 4 = .ok (.bipush 12, 2) := by decide +kernel
theorem dX0_passHour_6 : decode cX0_passHour 6 = .ok (.irem, 1) := by decide +kernel
theorem dX0_passHour_7 : decode cX0_passHour 7 = .ok (.istore_n 2, 1) := by decide +kernel
theorem dX0_passHour_8 : decode cX0_passHour 8 = .ok (.iload_n 2, 1) := by decide +kernel
theorem dX0_passHour_9 : decode cX0_passHour 9 = .ok (.ifCond .ne 7, 3) := by decide +kernel
theorem dX0_passHour_12 : decode cX0_passHour 12 = .ok (.aload_n 0, 1) := by decide +kernel
theorem dX0_passHour_13 : decode cX0_passHour 13 = .ok (.invokevirtual 66, 3) := by decide +kernel
theorem dX0_passHour_16 : decode cX0_passHour 16 = .ok (.aload_n 0, 1) := by decide +kernel
theorem dX0_passHour_17 : decode cX0_passHour 17 = .ok (.dup, 1) := by decide +kernel
theorem dX0_passHour_18 : decode cX0_passHour 18 = .ok (.getfield 40, 3) := by decide +kernel
theorem dX0_passHour_21 : decode cX0_passHour 21 = .ok (.iload_n 1, 1) := by decide +kernel
theorem dX0_passHour_22 : decode cX0_passHour 22 = .ok (.ior, 1) := by decide +kernel
theorem dX0_passHour_23 : decode cX0_passHour 23 = .ok (.putfield 40, 3) := by decide +kernel
theorem dX0_passHour_26 : decode cX0_passHour 26 = .ok (.aload_n 0, 1) := by decide +kernel
theorem dX0_passHour_27 : decode cX0_passHour 27 = .ok (.iload_n 2, 1) := by decide +kernel
theorem dX0_passHour_28 : decode cX0_passHour 28 = .ok (.invokevirtual 69, 3) := by decide +kernel
theorem dX0_passHour_31 : decode cX0_passHour 31 = .ok (.iconst 0, 1) := by decide +kernel
theorem dX0_passHour_32 : decode cX0_passHour 32 = .ok (.istore_n 3, 1) := by decide +kernel
theorem dX0_passHour_33 : decode cX0_passHour 33 = .ok (.iload_n 3, 1) := by decide +kernel
theorem dX0_passHour_34 : decode cX0_passHour 34 = .ok (.aload_n 0, 1) := by decide +kernel
theorem dX0_passHour_35 : decode cX0_passHour 35 = .ok (.getfield 27, 3) := by decide +kernel
theorem dX0_passHour_38 : decode cX0_passHour 38 = .ok (.if_icmp .ge 22, 3) := by decide +kernel
theorem dX0_passHour_41 : decode cX0_passHour 41 = .ok (.aload_n 0, 1) := by decide +kernel
theorem dX0_passHour_42 : decode cX0_passHour 42 = .ok (.iload_n 3, 1) := by decide +kernel
theorem dX0_passHour_43 : decode cX0_passHour 43 = .ok (.invokevirtual 72, 3) := by decide +kernel
theorem dX0_passHour_46 : decode cX0_passHour 46 = .ok (.ifCond .eq 8, 3) := by decide +kernel
theorem dX0_passHour_49 : decode cX0_passHour 49 = .ok (.aload_n 0, 1) := by decide +kernel
theorem dX0_passHour_50 : decode cX0_passHour 50 = .ok (.iload_n 3, 1) := by decide +kernel
theorem dX0_passHour_51 : decode cX0_passHour 51 = .ok (.invokevirtual 75, 3) := by decide +kernel
theorem dX0_passHour_54 : decode cX0_passHour 54 = .ok (.iinc 3 1, 3) := by decide +kernel
theorem dX0_passHour_57 : decode cX0_passHour 57 = .ok (.goto (-24), 3) := by decide +kernel
theorem dX0_passHour_60 : decode cX0_passHour 60 = .ok (.iload_n 2, 1) := by decide +kernel
theorem dX0_passHour_61 : decode cX0_passHour 61 = .ok (.bipush 11, 2) := by decide +kernel
theorem dX0_passHour_63 : decode cX0_passHour 63 = .ok (.if_icmp .ne 7, 3) := by decide +kernel
theorem dX0_passHour_66 : decode cX0_passHour 66 = .ok (.aload_n 0, 1) := by decide +kernel
theorem dX0_passHour_67 : decode cX0_passHour 67 = .ok (.invokevirtual 78, 3) := by decide +kernel
theorem dX0_passHour_70 : decode cX0_passHour 70 = .ok (.aload_n 0, 1) := by decide +kernel
theorem dX0_passHour_71 : decode cX0_passHour 71 = .ok (.dup, 1) := by decide +kernel
theorem dX0_passHour_72 : decode cX0_passHour 72 = .ok (.getfield 37, 3) := by decide +kernel
theorem dX0_passHour_75 : decode cX0_passHour 75 = .ok (.iconst 1, 1) := by decide +kernel
theorem dX0_passHour_76 : decode cX0_passHour 76 = .ok (.iadd, 1) := by decide +kernel
theorem dX0_passHour_77 : decode cX0_passHour 77 = .ok (.putfield 37, 3) := by decide +kernel
theorem dX0_passHour_80 : decode cX0_passHour 80 = .ok (.return_, 1) := by decide +kernel
theorem dX0_passHourForDrawers_0 : decode cX0_passHourForDrawers 0 = .ok (.aload_n 0, 1) := by decide +kernel
theorem dX0_passHourForDrawers_1 : decode cX0_passHourForDrawers 1 = .ok (.getfield 37, 3) := by decide +kernel
theorem dX0_passHourForDrawers_4 : decode cX0_passHourForDrawers 4 = .ok (.bipush 12, 2) := by decide +kernel
theorem dX0_passHourForDrawers_6 : decode cX0_passHourForDrawers 6 = .ok (.irem, 1) := by decide +kernel
theorem dX0_passHourForDrawers_7 : decode cX0_passHourForDrawers 7 = .ok (.ifCond .ne 7, 3) := by decide +kernel
theorem dX0_passHourForDrawers_10 : decode cX0_passHourForDrawers 10 = .ok (.iconst 0, 1) := by decide +kernel
theorem dX0_passHourForDrawers_11 : decode cX0_passHourForDrawers 11 = .ok (.goto 7, 3) := by decide +kernel
theorem dX0_passHourForDrawers_14 : decode cX0_passHourForDrawers 14 = .ok (.aload_n 0, 1) := by decide +kernel
theorem dX0_passHourForDrawers_15 : decode cX0_passHourForDrawers 15 = .ok (.getfield 43, 3) := by decide +kernel
theorem dX0_passHourForDrawers_18 : decode cX0_passHourForDrawers 18 = .ok (.istore_n 1, 1) := by decide +kernel
theorem dX0_passHourForDrawers_19 : decode cX0_passHourForDrawers 19 = .ok (.aload_n 0, 1) := by decide +kernel
theorem dX0_passHourForDrawers_20 : decode cX0_passHourForDrawers 20 = .ok (.iconst 0, 1) := by decide +kernel
theorem dX0_passHourForDrawers_21 : decode cX0_passHourForDrawers 21 = .ok (.invokevirtual 62, 3) := by decide +kernel
theorem dX0_passHourForDrawers_24 : decode cX0_passHourForDrawers 24 = .ok (.aload_n 0, 1) := by decide +kernel
theorem dX0_passHourForDrawers_25 : decode cX0_passHourForDrawers 25 = .ok (.getfield 43, 3) := by decide +kernel
theorem dX0_passHourForDrawers_28 : decode cX0_passHourForDrawers 28 = .ok (.iload_n 1, 1) := by decide +kernel
theorem dX0_passHourForDrawers_29 : decode cX0_passHourForDrawers 29 = .ok (.iconst (-1), 1) := by decide +kernel
theorem dX0_passHourForDrawers_30 : decode cX0_passHourForDrawers 30 = .ok (.ixor, 1) := by decide +kernel
theorem dX0_passHourForDrawers_31 : decode cX0_passHourForDrawers 31 = .ok (.iand, 1) := by decide +kernel
theorem dX0_passHourForDrawers_32 : decode cX0_passHourForDrawers 32 = .ok (.ireturn, 1) := by decide +kernel
theorem dX0_beginDay_0 : decode cX0_beginDay 0 = .ok (.aload_n 0, 1) := by decide +kernel
theorem dX0_beginDay_1 : decode cX0_beginDay 1 = .ok (.iconst 0, 1) := by decide +kernel
theorem dX0_beginDay_2 : decode cX0_beginDay 2 = .ok (.putfield 40, 3) := by decide +kernel
theorem dX0_beginDay_5 : decode cX0_beginDay 5 = .ok (.aload_n 0, 1) := by decide +kernel
theorem dX0_beginDay_6 : decode cX0_beginDay 6 = .ok (.iconst 0, 1) := by decide +kernel
theorem dX0_beginDay_7 : decode cX0_beginDay 7 = .ok (.putfield 43, 3) := by decide +kernel
theorem dX0_beginDay_10 : decode cX0_beginDay 10 = .ok (.aload_n 0, 1) := by decide +kernel
theorem dX0_beginDay_11 : decode cX0_beginDay 11 = .ok (.bipush 99, 2) := by decide +kernel
theorem dX0_beginDay_13 : decode cX0_beginDay 13 = .ok (.aload_n 0, 1) := by decide +kernel
theorem dX0_beginDay_14 : decode cX0_beginDay 14 = .ok (.getfield 31, 3) := by decide +kernel
theorem dX0_beginDay_17 : decode cX0_beginDay 17 = .ok (.aload_n 0, 1) := by decide +kernel
theorem dX0_beginDay_18 : decode cX0_beginDay 18 = .ok (.getfield 34, 3) := by decide +kernel
theorem dX0_beginDay_21 : decode cX0_beginDay 21 = .ok (.iadd, 1) := by decide +kernel
theorem dX0_beginDay_22 : decode cX0_beginDay 22 = .ok (.invokestatic 53, 3) := by decide +kernel
theorem dX0_beginDay_25 : decode cX0_beginDay 25 = .ok (.putfield 31, 3) := by decide +kernel
theorem dX0_beginDay_28 : decode cX0_beginDay 28 = .ok (.return_, 1) := by decide +kernel
theorem dX0_letSpeakAt_0 : decode cX0_letSpeakAt 0 = .ok (.iconst 0, 1) := by decide +kernel
theorem dX0_letSpeakAt_1 : decode cX0_letSpeakAt 1 = .ok (.istore_n 2, 1) := by decide +kernel
theorem dX0_letSpeakAt_2 : decode cX0_letSpeakAt 2 = .ok (.iload_n 2, 1) := by decide +kernel
theorem dX0_letSpeakAt_3 : decode cX0_letSpeakAt 3 = .ok (.aload_n 0, 1) := by decide +kernel
theorem dX0_letSpeakAt_4 : decode cX0_letSpeakAt 4 = .ok (.getfield 27, 3) := by decide +kernel
theorem dX0_letSpeakAt_7 : decode cX0_letSpeakAt 7 = .ok (.if_icmp .ge 38, 3) := by decide +kernel
theorem dX0_letSpeakAt_10 : decode cX0_letSpeakAt 10 = .ok (.aload_n 0, 1) := by decide +kernel
theorem dX0_letSpeakAt_11 : decode cX0_letSpeakAt 11 = .ok (.iload_n 2, 1) := by decide +kernel
theorem dX0_letSpeakAt_12 : decode cX0_letSpeakAt 12 = .ok (.invokevirtual 59, 3) := by decide +kernel
theorem dX0_letSpeakAt_15 : decode cX0_letSpeakAt 15 = .ok (.ifCond .ne 24, 3) := by decide +kernel
theorem dX0_letSpeakAt_18 : decode cX0_letSpeakAt 18 = .ok (.aload_n 0, 1) := by decide +kernel
theorem dX0_letSpeakAt_19 : decode cX0_letSpeakAt 19 = .ok (.iload_n 2, 1) := by decide +kernel
theorem dX0_letSpeakAt_20 : decode cX0_letSpeakAt 20 = .ok (.invokevirtual 81, 3) := by decide +kernel
theorem dX0_letSpeakAt_23 : decode cX0_letSpeakAt 23 = .ok (.iload_n 1, 1) := by decide +kernel
theorem dX0_letSpeakAt_24 : decode cX0_letSpeakAt 24 = .ok (.if_icmp .ne 15, 3) := by decide +kernel
theorem dX0_letSpeakAt_27 : decode cX0_letSpeakAt 27 = .ok (.aload_n 0, 1) := by decide +kernel
theorem dX0_letSpeakAt_28 : decode cX0_letSpeakAt 28 = .ok (.dup, 1) := by decide +kernel
theorem dX0_letSpeakAt_29 : decode cX0_letSpeakAt 29 = .ok (.getfield 40, 3) := by decide +kernel
theorem dX0_letSpeakAt_32 : decode cX0_letSpeakAt 32 = .ok (.iconst 1, 1) := by decide +kernel
theorem dX0_letSpeakAt_33 : decode cX0_letSpeakAt 33 = .ok (.iload_n 2, 1) := by decide +kernel
theorem dX0_letSpeakAt_34 : decode cX0_letSpeakAt 34 = .ok (.ishl, 1) := by decide +kernel
theorem dX0_letSpeakAt_35 : decode cX0_letSpeakAt 35 = .ok (.ior, 1) := by decide +kernel
theorem dX0_letSpeakAt_36 : decode cX0_letSpeakAt 36 = .ok (.putfield 40, 3) := by decide +kernel
theorem dX0_letSpeakAt_39 : decode cX0_letSpeakAt 39 = .ok (.iinc 2 1, 3) := by decide +kernel
theorem dX0_letSpeakAt_42 : decode cX0_letSpeakAt 42 = .ok (.goto (-40), 3) := by decide +kernel
theorem dX0_letSpeakAt_45 : decode cX0_letSpeakAt 45 = .ok (.return_, 1) := by decide +kernel
theorem dX0_mayDraw_0 : decode cX0_mayDraw 0 = .ok (.aload_n 0, 1) := by decide +kernel
theorem dX0_mayDraw_1 : decode cX0_mayDraw 1 = .ok (.iload_n 1, 1) := by decide +kernel
theorem dX0_mayDraw_2 : decode cX0_mayDraw 2 = .ok (.invokevirtual 85, 3) := by decide +kernel
theorem dX0_mayDraw_5 : decode cX0_mayDraw 5 = .ok (.ifCond .eq 11, 3) := by decide +kernel
theorem dX0_mayDraw_8 : decode cX0_mayDraw 8 = .ok (.aload_n 0, 1) := by decide +kernel
theorem dX0_mayDraw_9 : decode cX0_mayDraw 9 = .ok (.iload_n 1, 1) := by decide +kernel
theorem dX0_mayDraw_10 : decode cX0_mayDraw 10 = .ok (.invokevirtual 88, 3) := by decide +kernel
theorem dX0_mayDraw_13 : decode cX0_mayDraw 13 = .ok (.ifCond .eq 7, 3) := by decide +kernel
theorem dX0_mayDraw_16 : decode cX0_mayDraw 16 = .ok (.iconst 1, 1) := by decide +kernel
theorem dX0_mayDraw_17 : decode cX0_mayDraw 17 = .ok (.goto 4, 3) := by decide +kernel
theorem dX0_mayDraw_20 : decode cX0_mayDraw 20 = .ok (.iconst 0, 1) := by decide +kernel
theorem dX0_mayDraw_21 : decode cX0_mayDraw 21 = .ok (.istore_n 2, 1) := by decide +kernel
theorem dX0_mayDraw_22 : decode cX0_mayDraw 22 = .ok (.iload_n 2, 1) := by decide +kernel
theorem dX0_mayDraw_23 : decode cX0_mayDraw 23 = .ok (.ifCond .eq 26, 3) := by decide +kernel
theorem dX0_mayDraw_26 : decode cX0_mayDraw 26 = .ok (.aload_n 0, 1) := by decide +kernel
theorem dX0_mayDraw_27 : decode cX0_mayDraw 27 = .ok (.iload_n 1, 1) := by decide +kernel
theorem dX0_mayDraw_28 : decode cX0_mayDraw 28 = .ok (.invokevirtual 91, 3) := by decide +kernel
theorem dX0_mayDraw_31 : decode cX0_mayDraw 31 = .ok (.ifCond .ne 18, 3) := by decide +kernel
theorem dX0_mayDraw_34 : decode cX0_mayDraw 34 = .ok (.aload_n 0, 1) := by decide +kernel
theorem dX0_mayDraw_35 : decode cX0_mayDraw 35 = .ok (.getfield 21, 3) := by decide +kernel
theorem dX0_mayDraw_38 : decode cX0_mayDraw 38 = .ok (.iload_n 1, 1) := by decide +kernel
theorem dX0_mayDraw_39 : decode cX0_mayDraw 39 = .ok (.iaload, 1) := by decide +kernel
theorem dX0_mayDraw_40 : decode cX0_mayDraw 40 = .ok (.bipush 20, 2) := by decide +kernel
theorem dX0_mayDraw_42 : decode cX0_mayDraw 42 = .ok (.if_icmp .ge 7, 3) := by decide +kernel
theorem dX0_mayDraw_45 : decode cX0_mayDraw 45 = .ok (.iconst 1, 1) := by decide +kernel
theorem dX0_mayDraw_46 : decode cX0_mayDraw 46 = .ok (.goto 4, 3) := by decide +kernel
theorem dX0_mayDraw_49 : decode cX0_mayDraw 49 = .ok (.iconst 0, 1) := by decide +kernel
theorem dX0_mayDraw_50 : decode cX0_mayDraw 50 = .ok (.ireturn, 1) := by decide +kernel
theorem dX0_letDraw_0 : decode cX0_letDraw 0 = .ok (.aload_n 0, 1) := by decide +kernel
theorem dX0_letDraw_1 : decode cX0_letDraw 1 = .ok (.getfield 18, 3) := by decide +kernel
theorem dX0_letDraw_4 : decode cX0_letDraw 4 = .ok (.iload_n 1, 1) := by decide +kernel
theorem dX0_letDraw_5 : decode cX0_letDraw 5 = .ok (.iaload, 1) := by decide +kernel
theorem dX0_letDraw_6 : decode cX0_letDraw 6 = .ok (.aload_n 0, 1) := by decide +kernel
theorem dX0_letDraw_7 : decode cX0_letDraw 7 = .ok (.getfield 31, 3) := by decide +kernel
theorem dX0_letDraw_10 : decode cX0_letDraw 10 = .ok (.invokestatic 53, 3) := by decide +kernel
theorem dX0_letDraw_13 : decode cX0_letDraw 13 = .ok (.istore_n 2, 1) := by decide +kernel
theorem dX0_letDraw_14 : decode cX0_letDraw 14 = .ok (.iload_n 2, 1) := by decide +kernel
theorem dX0_letDraw_15 : decode cX0_letDraw 15 = .ok (.ifCond .gt 4, 3) := by decide +kernel
theorem dX0_letDraw_18 : decode cX0_letDraw 18 = .ok (.return_, 1) := by decide +kernel
theorem dX0_letDraw_19 : decode cX0_letDraw 19 = .ok (.aload_n 0, 1) := by decide +kernel
theorem dX0_letDraw_20 : decode cX0_letDraw 20 = .ok (.dup, 1) := by decide +kernel
theorem dX0_letDraw_21 : decode cX0_letDraw 21 = .ok (.getfield 31, 3) := by decide +kernel
theorem dX0_letDraw_24 : decode cX0_letDraw 24 = .ok (.iload_n 2, 1) := by decide +kernel
theorem dX0_letDraw_25 : decode cX0_letDraw 25 = .ok (.isub, 1) := by decide +kernel
theorem dX0_letDraw_26 : decode cX0_letDraw 26 = .ok (.putfield 31, 3) := by decide +kernel
theorem dX0_letDraw_29 : decode cX0_letDraw 29 = .ok (.aload_n 0, 1) := by decide +kernel
theorem dX0_letDraw_30 : decode cX0_letDraw 30 = .ok (.getfield 21, 3) := by decide +kernel
theorem dX0_letDraw_33 : decode cX0_letDraw 33 = .ok (.iload_n 1, 1) := by decide +kernel
theorem dX0_letDraw_34 : decode cX0_letDraw 34 = .ok (.dup2, 1) := by decide +kernel
theorem dX0_letDraw_35 : decode cX0_letDraw 35 = .ok (.iaload, 1) := by decide +kernel
theorem dX0_letDraw_36 : decode cX0_letDraw 36 = .ok (.iload_n 2, 1) := by decide +kernel
theorem dX0_letDraw_37 : decode cX0_letDraw 37 = .ok (.iadd, 1) := by decide +kernel
theorem dX0_letDraw_38 : decode cX0_letDraw 38 = .ok (.iastore, 1) := by decide +kernel
theorem dX0_letDraw_39 : decode cX0_letDraw 39 = .ok (.aload_n 0, 1) := by decide +kernel
theorem dX0_letDraw_40 : decode cX0_letDraw 40 = .ok (.dup, 1) := by decide +kernel
theorem dX0_letDraw_41 : decode cX0_letDraw 41 = .ok (.getfield 43, 3) := by decide +kernel
theorem dX0_letDraw_44 : decode cX0_letDraw 44 = .ok (.iconst 1, 1) := by decide +kernel
theorem dX0_letDraw_45 : decode cX0_letDraw 45 = .ok (.iload_n 1, 1) := by decide +kernel
theorem dX0_letDraw_46 : decode cX0_letDraw 46 = .ok (.ishl, 1) := by decide +kernel
theorem dX0_letDraw_47 : decode cX0_letDraw 47 = .ok (.ior, 1) := by decide +kernel
theorem dX0_letDraw_48 : decode cX0_letDraw 48 = .ok (.putfield 43, 3) := by decide +kernel
theorem dX0_letDraw_51 : decode cX0_letDraw 51 = .ok (.aload_n 0, 1) := by decide +kernel
theorem dX0_letDraw_52 : decode cX0_letDraw 52 = .ok (.iload_n 1, 1) := by decide +kernel
theorem dX0_letDraw_53 : decode cX0_letDraw 53 = .ok (.invokevirtual 94, 3) := by decide +kernel
theorem dX0_letDraw_56 : decode cX0_letDraw 56 = .ok (.ifCond .eq 43, 3) := by decide +kernel
theorem dX0_letDraw_59 : decode cX0_letDraw 59 = .ok (.aload_n 0, 1) := by decide +kernel
theorem dX0_letDraw_60 : decode cX0_letDraw 60 = .ok (.getfield 24, 3) := by decide +kernel
theorem dX0_letDraw_63 : decode cX0_letDraw 63 = .ok (.iload_n 1, 1) := by decide +kernel
theorem dX0_letDraw_64 : decode cX0_letDraw 64 = .ok (.iaload, 1) := by decide +kernel
theorem dX0_letDraw_65 : decode cX0_letDraw 65 = .ok (.istore_n 3, 1) := by decide +kernel
theorem dX0_letDraw_66 : decode cX0_letDraw 66 = .ok (.aload_n 0, 1) := by decide +kernel
theorem dX0_letDraw_67 : decode cX0_letDraw 67 = .ok (.getfield 21, 3) := by decide +kernel
theorem dX0_letDraw_70 : decode cX0_letDraw 70 = .ok (.iload_n 1, 1) := by decide +kernel
theorem dX0_letDraw_71 : decode cX0_letDraw 71 = .ok (.dup2, 1) := by decide +kernel
theorem dX0_letDraw_72 : decode cX0_letDraw 72 = .ok (.iaload, 1) := by decide +kernel
theorem dX0_letDraw_73 : decode cX0_letDraw 73 = .ok (.iload_n 2, 1) := by decide +kernel
theorem dX0_letDraw_74 : decode cX0_letDraw 74 = .ok (.iconst 2, 1) := by decide +kernel
theorem dX0_letDraw_75 : decode cX0_letDraw 75 = .ok (.idiv, 1) := by decide +kernel
theorem dX0_letDraw_76 : decode cX0_letDraw 76 = .ok (.isub, 1) := by decide +kernel
theorem dX0_letDraw_77 : decode cX0_letDraw 77 = .ok (.iastore, 1) := by decide +kernel
theorem dX0_letDraw_78 : decode cX0_letDraw 78 = .ok (.aload_n 0, 1) := by decide +kernel
theorem dX0_letDraw_79 : decode cX0_letDraw 79 = .ok (.getfield 21, 3) := by decide +kernel
theorem dX0_letDraw_82 : decode cX0_letDraw 82 = .ok (.iload_n 3, 1) := by decide +kernel
theorem dX0_letDraw_83 : decode cX0_letDraw 83 = .ok (.bipush 99, 2) := by decide +kernel
theorem dX0_letDraw_85 : decode cX0_letDraw 85 = .ok (.aload_n 0, 1) := by decide +kernel
theorem dX0_letDraw_86 : decode cX0_letDraw 86 = .ok (.getfield 21, 3) := by decide +kernel
theorem dX0_letDraw_89 : decode cX0_letDraw 89 = .ok (.iload_n 3, 1) := by decide +kernel
theorem dX0_letDraw_90 : decode cX0_letDraw 90 = .ok (.iaload, 1) := by decide +kernel
theorem dX0_letDraw_91 : decode cX0_letDraw 91 = .ok (.iload_n 2, 1) := by decide +kernel
theorem dX0_letDraw_92 : decode cX0_letDraw 92 = .ok (.iconst 2, 1) := by decide +kernel
theorem dX0_letDraw_93 : decode cX0_letDraw 93 = .ok (.idiv, 1) := by decide +kernel
theorem dX0_letDraw_94 : decode cX0_letDraw 94 = .ok (.iadd, 1) := by decide +kernel
theorem dX0_letDraw_95 : decode cX0_letDraw 95 = .ok (.invokestatic 53, 3) := by decide +kernel
theorem dX0_letDraw_98 : decode cX0_letDraw 98 = .ok (.iastore, 1) := by decide +kernel
theorem dX0_letDraw_99 : decode cX0_letDraw 99 = .ok (.return_, 1) := by decide +kernel
theorem dX0_givesToFriend_0 : decode cX0_givesToFriend 0 = .ok (.aload_n 0, 1) := by decide +kernel
theorem dX0_givesToFriend_1 : decode cX0_givesToFriend 1 = .ok (.getfield 24, 3) := by decide +kernel
theorem dX0_givesToFriend_4 : decode cX0_givesToFriend 4 = .ok (.iload_n 1, 1) := by decide +kernel
theorem dX0_givesToFriend_5 : decode cX0_givesToFriend 5 = .ok (.iaload, 1) := by decide +kernel
theorem dX0_givesToFriend_6 : decode cX0_givesToFriend 6 = .ok (.istore_n 2, 1) := by decide +kernel
theorem dX0_givesToFriend_7 : decode cX0_givesToFriend 7 = .ok (.iload_n 2, 1) := by decide +kernel
theorem dX0_givesToFriend_8 : decode cX0_givesToFriend 8 = .ok (.iload_n 1, 1) := by decide +kernel
theorem dX0_givesToFriend_9 : decode cX0_givesToFriend 9 = .ok (.if_icmp .eq 38, 3) := by decide +kernel
theorem dX0_givesToFriend_12 : decode cX0_givesToFriend 12 = .ok (.aload_n 0, 1) := by decide +kernel
theorem dX0_givesToFriend_13 : decode cX0_givesToFriend 13 = .ok (.iload_n 2, 1) := by decide +kernel
theorem dX0_givesToFriend_14 : decode cX0_givesToFriend 14 = .ok (.invokevirtual 49, 3) := by decide +kernel
theorem dX0_givesToFriend_17 : decode cX0_givesToFriend 17 = .ok (.ifCond .eq 30, 3) := by decide +kernel
theorem dX0_givesToFriend_20 : decode cX0_givesToFriend 20 = .ok (.aload_n 0, 1) := by decide +kernel
theorem dX0_givesToFriend_21 : decode cX0_givesToFriend 21 = .ok (.iload_n 2, 1) := by decide +kernel
theorem dX0_givesToFriend_22 : decode cX0_givesToFriend 22 = .ok (.invokevirtual 85, 3) := by decide +kernel
theorem dX0_givesToFriend_25 : decode cX0_givesToFriend 25 = .ok (.ifCond .eq 22, 3) := by decide +kernel
theorem dX0_givesToFriend_28 : decode cX0_givesToFriend 28 = .ok (.aload_n 0, 1) := by decide +kernel
theorem dX0_givesToFriend_29 : decode cX0_givesToFriend 29 = .ok (.getfield 21, 3) := by decide +kernel
theorem dX0_givesToFriend_32 : decode cX0_givesToFriend 32 = .ok (.iload_n 2, 1) := by decide +kernel
theorem dX0_givesToFriend_33 : decode cX0_givesToFriend 33 = .ok (.iaload, 1) := by decide +kernel
theorem dX0_givesToFriend_34 : decode cX0_givesToFriend 34 = .ok (.aload_n 0, 1) := by decide +kernel
theorem dX0_givesToFriend_35 : decode cX0_givesToFriend 35 = .ok (.getfield 21, 3) := by decide +kernel
theorem dX0_givesToFriend_38 : decode cX0_givesToFriend 38 = .ok (.iload_n 1, 1) := by decide +kernel
theorem dX0_givesToFriend_39 : decode cX0_givesToFriend 39 = .ok (.iaload, 1) := by decide +kernel
theorem dX0_givesToFriend_40 : decode cX0_givesToFriend 40 = .ok (.if_icmp .ge 7, 3) := by decide +kernel
theorem dX0_givesToFriend_43 : decode cX0_givesToFriend 43 = .ok (.iconst 1, 1) := by decide +kernel
theorem dX0_givesToFriend_44 : decode cX0_givesToFriend 44 = .ok (.goto 4, 3) := by decide +kernel
theorem dX0_givesToFriend_47 : decode cX0_givesToFriend 47 = .ok (.iconst 0, 1) := by decide +kernel
theorem dX0_givesToFriend_48 : decode cX0_givesToFriend 48 = .ok (.ireturn, 1) := by decide +kernel
theorem dX0_letDrink_0 : decode cX0_letDrink 0 = .ok (.iconst 0, 1) := by decide +kernel
theorem dX0_letDrink_1 : decode cX0_letDrink 1 = .ok (.istore_n 1, 1) := by decide +kernel
theorem dX0_letDrink_2 : decode cX0_letDrink 2 = .ok (.iload_n 1, 1) := by decide +kernel
theorem dX0_letDrink_3 : decode cX0_letDrink 3 = .ok (.aload_n 0, 1) := by decide +kernel
theorem dX0_letDrink_4 : decode cX0_letDrink 4 = .ok (.getfield 27, 3) := by decide +kernel
theorem dX0_letDrink_7 : decode cX0_letDrink 7 = .ok (.if_icmp .ge 31, 3) := by decide +kernel
theorem dX0_letDrink_10 : decode cX0_letDrink 10 = .ok (.aload_n 0, 1) := by decide +kernel
theorem dX0_letDrink_11 : decode cX0_letDrink 11 = .ok (.getfield 21, 3) := by decide +kernel
theorem dX0_letDrink_14 : decode cX0_letDrink 14 = .ok (.iload_n 1, 1) := by decide +kernel
theorem dX0_letDrink_15 : decode cX0_letDrink 15 = .ok (.iconst 0, 1) := by decide +kernel
theorem dX0_letDrink_16 : decode cX0_letDrink 16 = .ok (.aload_n 0, 1) := by decide +kernel
theorem dX0_letDrink_17 : decode cX0_letDrink 17 = .ok (.getfield 21, 3) := by decide +kernel
theorem dX0_letDrink_20 : decode cX0_letDrink 20 = .ok (.iload_n 1, 1) := by decide +kernel
theorem dX0_letDrink_21 : decode cX0_letDrink 21 = .ok (.iaload, 1) := by decide +kernel
theorem dX0_letDrink_22 : decode cX0_letDrink 22 = .ok (.aload_n 0, 1) := by decide +kernel
theorem dX0_letDrink_23 : decode cX0_letDrink 23 = .ok (.iload_n 1, 1) := by decide +kernel
theorem dX0_letDrink_24 : decode cX0_letDrink 24 = .ok (.invokevirtual 97, 3) := by decide +kernel
theorem dX0_letDrink_27 : decode cX0_letDrink 27 = .ok (.isub, 1) := by decide +kernel
theorem dX0_letDrink_28 : decode cX0_letDrink 28 = .ok (.invokestatic 100, 3) := by decide +kernel
theorem dX0_letDrink_31 : decode cX0_letDrink 31 = .ok (.iastore, 1) := by decide +kernel
theorem dX0_letDrink_32 : decode cX0_letDrink 32 = .ok (.iinc 1 1, 3) := by decide +kernel
theorem dX0_letDrink_35 : decode cX0_letDrink 35 = .ok (.goto (-33), 3) := by decide +kernel
theorem dX0_letDrink_38 : decode cX0_letDrink 38 = .ok (.return_, 1) := by decide +kernel
theorem dX0_giveToWell_0 : decode cX0_giveToWell 0 = .ok (.aload_n 0, 1) := by decide +kernel
theorem dX0_giveToWell_1 : decode cX0_giveToWell 1 = .ok (.bipush 99, 2) := by decide +kernel
theorem dX0_giveToWell_3 : decode cX0_giveToWell 3 = .ok (.aload_n 0, 1) := by decide +kernel
theorem dX0_giveToWell_4 : decode cX0_giveToWell 4 = .ok (.getfield 31, 3) := by decide +kernel
theorem dX0_giveToWell_7 : decode cX0_giveToWell 7 = .ok (.aload_n 0, 1) := by decide +kernel
theorem dX0_giveToWell_8 : decode cX0_giveToWell 8 = .ok (.getfield 21, 3) := by decide +kernel
theorem dX0_giveToWell_11 : decode cX0_giveToWell 11 = .ok (.iload_n 1, 1) := by decide +kernel
theorem dX0_giveToWell_12 : decode cX0_giveToWell 12 = .ok (.iaload, 1) := by decide +kernel
theorem dX0_giveToWell_13 : decode cX0_giveToWell 13 = .ok (.iadd, 1) := by decide +kernel
theorem dX0_giveToWell_14 : decode cX0_giveToWell 14 = .ok (.invokestatic 53, 3) := by decide +kernel
theorem dX0_giveToWell_17 : decode cX0_giveToWell 17 = .ok (.putfield 31, 3) := by decide +kernel
theorem dX0_giveToWell_20 : decode cX0_giveToWell 20 = .ok (.aload_n 0, 1) := by decide +kernel
theorem dX0_giveToWell_21 : decode cX0_giveToWell 21 = .ok (.getfield 21, 3) := by decide +kernel
theorem dX0_giveToWell_24 : decode cX0_giveToWell 24 = .ok (.iload_n 1, 1) := by decide +kernel
theorem dX0_giveToWell_25 : decode cX0_giveToWell 25 = .ok (.iconst 0, 1) := by decide +kernel
theorem dX0_giveToWell_26 : decode cX0_giveToWell 26 = .ok (.iastore, 1) := by decide +kernel
theorem dX0_giveToWell_27 : decode cX0_giveToWell 27 = .ok (.return_, 1) := by decide +kernel
theorem dX0_together_0 : decode cX0_together 0 = .ok (.iconst 0, 1) := by decide +kernel
theorem dX0_together_1 : decode cX0_together 1 = .ok (.istore_n 1, 1) := by decide +kernel
theorem dX0_together_2 : decode cX0_together 2 = .ok (.iconst 0, 1) := by decide +kernel
theorem dX0_together_3 : decode cX0_together 3 = .ok (.istore_n 2, 1) := by decide +kernel
theorem dX0_together_4 : decode cX0_together 4 = .ok (.iload_n 2, 1) := by decide +kernel
theorem dX0_together_5 : decode cX0_together 5 = .ok (.aload_n 0, 1) := by decide +kernel
theorem dX0_together_6 : decode cX0_together 6 = .ok (.getfield 27, 3) := by decide +kernel
theorem dX0_together_9 : decode cX0_together 9 = .ok (.if_icmp .ge 18, 3) := by decide +kernel
theorem dX0_together_12 : decode cX0_together 12 = .ok (.iload_n 1, 1) := by decide +kernel
theorem dX0_together_13 : decode cX0_together 13 = .ok (.aload_n 0, 1) := by decide +kernel
theorem dX0_together_14 : decode cX0_together 14 = .ok (.getfield 21, 3) := by decide +kernel
theorem dX0_together_17 : decode cX0_together 17 = .ok (.iload_n 2, 1) := by decide +kernel
theorem dX0_together_18 : decode cX0_together 18 = .ok (.iaload, 1) := by decide +kernel
theorem dX0_together_19 : decode cX0_together 19 = .ok (.iadd, 1) := by decide +kernel
theorem dX0_together_20 : decode cX0_together 20 = .ok (.istore_n 1, 1) := by decide +kernel
theorem dX0_together_21 : decode cX0_together 21 = .ok (.iinc 2 1, 3) := by decide +kernel
theorem dX0_together_24 : decode cX0_together 24 = .ok (.goto (-20), 3) := by decide +kernel
theorem dX0_together_27 : decode cX0_together 27 = .ok (.iload_n 1, 1) := by decide +kernel
theorem dX0_together_28 : decode cX0_together 28 = .ok (.ireturn, 1) := by decide +kernel
theorem dX0_leastHas_0 : decode cX0_leastHas 0 = .ok (.bipush 99, 2) := by decide +kernel
theorem dX0_leastHas_2 : decode cX0_leastHas 2 = .ok (.istore_n 1, 1) := by decide +kernel
theorem dX0_leastHas_3 : decode cX0_leastHas 3 = .ok (.iconst 0, 1) := by decide +kernel
theorem dX0_leastHas_4 : decode cX0_leastHas 4 = .ok (.istore_n 2, 1) := by decide +kernel
theorem dX0_leastHas_5 : decode cX0_leastHas 5 = .ok (.iload_n 2, 1) := by decide +kernel
theorem dX0_leastHas_6 : decode cX0_leastHas 6 = .ok (.aload_n 0, 1) := by decide +kernel
theorem dX0_leastHas_7 : decode cX0_leastHas 7 = .ok (.getfield 27, 3) := by decide +kernel
theorem dX0_leastHas_10 : decode cX0_leastHas 10 = .ok (.if_icmp .ge 20, 3) := by decide +kernel
theorem dX0_leastHas_13 : decode cX0_leastHas 13 = .ok (.iload_n 1, 1) := by decide +kernel
theorem dX0_leastHas_14 : decode cX0_leastHas 14 = .ok (.aload_n 0, 1) := by decide +kernel
theorem dX0_leastHas_15 : decode cX0_leastHas 15 = .ok (.getfield 21, 3) := by decide +kernel
theorem dX0_leastHas_18 : decode cX0_leastHas 18 = .ok (.iload_n 2, 1) := by decide +kernel
theorem dX0_leastHas_19 : decode cX0_leastHas 19 = .ok (.iaload, 1) := by decide +kernel
theorem dX0_leastHas_20 : decode cX0_leastHas 20 = .ok (.invokestatic 53, 3) := by decide +kernel
theorem dX0_leastHas_23 : decode cX0_leastHas 23 = .ok (.istore_n 1, 1) := by decide +kernel
theorem dX0_leastHas_24 : decode cX0_leastHas 24 = .ok (.iinc 2 1, 3) := by decide +kernel
theorem dX0_leastHas_27 : decode cX0_leastHas 27 = .ok (.goto (-22), 3) := by decide +kernel
theorem dX0_leastHas_30 : decode cX0_leastHas 30 = .ok (.iload_n 1, 1) := by decide +kernel
theorem dX0_leastHas_31 : decode cX0_leastHas 31 = .ok (.ireturn, 1) := by decide +kernel
theorem dX0_countDry_0 : decode cX0_countDry 0 = .ok (.aload_n 0, 1) := by decide +kernel
theorem dX0_countDry_1 : decode cX0_countDry 1 = .ok (.invokevirtual 103, 3) := by decide +kernel
theorem dX0_countDry_4 : decode cX0_countDry 4 = .ok (.invokestatic 107, 3) := by decide +kernel
theorem dX0_countDry_7 : decode cX0_countDry 7 = .ok (.ireturn, 1) := by decide +kernel
theorem dX0_dryPeople_0 : decode cX0_dryPeople 0 = .ok (.iconst 0, 1) := by decide +kernel
theorem dX0_dryPeople_1 : decode cX0_dryPeople 1 = .ok (.istore_n 1, 1) := by decide +kernel
theorem dX0_dryPeople_2 : decode cX0_dryPeople 2 = .ok (.iconst 0, 1) := by decide +kernel
theorem dX0_dryPeople_3 : decode cX0_dryPeople 3 = .ok (.istore_n 2, 1) := by decide +kernel
theorem dX0_dryPeople_4 : decode cX0_dryPeople 4 = .ok (.iload_n 2, 1) := by decide +kernel
theorem dX0_dryPeople_5 : decode cX0_dryPeople 5 = .ok (.aload_n 0, 1) := by decide +kernel
theorem dX0_dryPeople_6 : decode cX0_dryPeople 6 = .ok (.getfield 27, 3) := by decide +kernel
theorem dX0_dryPeople_9 : decode cX0_dryPeople 9 = .ok (.if_icmp .ge 24, 3) := by decide +kernel
theorem dX0_dryPeople_12 : decode cX0_dryPeople 12 = .ok (.aload_n 0, 1) := by decide +kernel
theorem dX0_dryPeople_13 : decode cX0_dryPeople 13 = .ok (.getfield 21, 3) := by decide +kernel
theorem dX0_dryPeople_16 : decode cX0_dryPeople 16 = .ok (.iload_n 2, 1) := by decide +kernel
theorem dX0_dryPeople_17 : decode cX0_dryPeople 17 = .ok (.iaload, 1) := by decide +kernel
theorem dX0_dryPeople_18 : decode cX0_dryPeople 18 = .ok (.ifCond .ne 9, 3) := by decide +kernel
theorem dX0_dryPeople_21 : decode cX0_dryPeople 21 = .ok (.iload_n 1, 1) := by decide +kernel
theorem dX0_dryPeople_22 : decode cX0_dryPeople 22 = .ok (.iconst 1, 1) := by decide +kernel
theorem dX0_dryPeople_23 : decode cX0_dryPeople 23 = .ok (.iload_n 2, 1) := by decide +kernel
theorem dX0_dryPeople_24 : decode cX0_dryPeople 24 = .ok (.ishl, 1) := by decide +kernel
theorem dX0_dryPeople_25 : decode cX0_dryPeople 25 = .ok (.ior, 1) := by decide +kernel
theorem dX0_dryPeople_26 : decode cX0_dryPeople 26 = .ok (.istore_n 1, 1) := by decide +kernel
theorem dX0_dryPeople_27 : decode cX0_dryPeople 27 = .ok (.iinc 2 1, 3) := by decide +kernel
theorem dX0_dryPeople_30 : decode cX0_dryPeople 30 = .ok (.goto (-26), 3) := by decide +kernel
theorem dX0_dryPeople_33 : decode cX0_dryPeople 33 = .ok (.iload_n 1, 1) := by decide +kernel
theorem dX0_dryPeople_34 : decode cX0_dryPeople 34 = .ok (.ireturn, 1) := by decide +kernel
theorem dX0_staysWet_0 : decode cX0_staysWet 0 = .ok (.iconst 0, 1) := by decide +kernel
theorem dX0_staysWet_1 : decode cX0_staysWet 1 = .ok (.istore_n 3, 1) := by decide +kernel
theorem dX0_staysWet_2 : decode cX0_staysWet 2 = .ok (.iload_n 3, 1) := by decide +kernel
theorem dX0_staysWet_3 : decode cX0_staysWet 3 = .ok (.iload_n 2, 1) := by decide +kernel
theorem dX0_staysWet_4 : decode cX0_staysWet 4 = .ok (.if_icmp .gt 25, 3) := by decide +kernel
theorem dX0_staysWet_7 : decode cX0_staysWet 7 = .ok (.aload_n 0, 1) := by decide +kernel
theorem dX0_staysWet_8 : decode cX0_staysWet 8 = .ok (.invokevirtual 103, 3) := by decide +kernel
theorem dX0_staysWet_11 : decode cX0_staysWet 11 = .ok (.iload_n 1, 1) := by decide +kernel
theorem dX0_staysWet_12 : decode cX0_staysWet 12 = .ok (.iand, 1) := by decide +kernel
theorem dX0_staysWet_13 : decode cX0_staysWet 13 = .ok (.ifCond .eq 5, 3) := by decide +kernel
theorem dX0_staysWet_16 : decode cX0_staysWet 16 = .ok (.iconst 0, 1) := by decide +kernel
theorem dX0_staysWet_17 : decode cX0_staysWet 17 = .ok (.ireturn, 1) := by decide +kernel
theorem dX0_staysWet_18 : decode cX0_staysWet 18 = .ok (.aload_n 0, 1) := by decide +kernel
theorem dX0_staysWet_19 : decode cX0_staysWet 19 = .ok (.iconst 0, 1) := by decide +kernel
theorem dX0_staysWet_20 : decode cX0_staysWet 20 = .ok (.invokevirtual 62, 3) := by decide +kernel
theorem dX0_staysWet_23 : decode cX0_staysWet 23 = .ok (.iinc 3 1, 3) := by decide +kernel
theorem dX0_staysWet_26 : decode cX0_staysWet 26 = .ok (.goto (-24), 3) := by decide +kernel
theorem dX0_staysWet_29 : decode cX0_staysWet 29 = .ok (.iconst 1, 1) := by decide +kernel
theorem dX0_staysWet_30 : decode cX0_staysWet 30 = .ok (.ireturn, 1) := by decide +kernel
theorem dX1_init_0 : decode cX1_init 0 = .ok (.aload_n 0, 1) := by decide +kernel
theorem dX1_init_1 : decode cX1_init 1 = .ok (.invokespecial 3, 3) := by decide +kernel
theorem dX1_init_4 : decode cX1_init 4 = .ok (.aload_n 0, 1) := by decide +kernel
theorem dX1_init_5 : decode cX1_init 5 = .ok (.bipush 96, 2) := by decide +kernel
theorem dX1_init_7 : decode cX1_init 7 = .ok (.newarray .int, 2) := by decide +kernel
theorem dX1_init_9 : decode cX1_init 9 = .ok (.putfield 9, 3) := by decide +kernel
theorem dX1_init_12 : decode cX1_init 12 = .ok (.aload_n 0, 1) := by decide +kernel
theorem dX1_init_13 : decode cX1_init 13 = .ok (.iconst 0, 1) := by decide +kernel
theorem dX1_init_14 : decode cX1_init 14 = .ok (.putfield 15, 3) := by decide +kernel
theorem dX1_init_17 : decode cX1_init 17 = .ok (.return_, 1) := by decide +kernel
theorem dX1_add_0 : decode cX1_add 0 = .ok (.aload_n 0, 1) := by decide +kernel
theorem dX1_add_1 : decode cX1_add 1 = .ok (.getfield 15, 3) := by decide +kernel
theorem dX1_add_4 : decode cX1_add 4 = .ok (.bipush 96, 2) := by decide +kernel
theorem dX1_add_6 : decode cX1_add 6 = .ok (.if_icmp .lt 5, 3) := by decide +kernel
theorem dX1_add_9 : decode cX1_add 9 = .ok (.iconst 0, 1) := by decide +kernel
theorem dX1_add_10 : decode cX1_add 10 = .ok (.ireturn, 1) := by decide +kernel
theorem dX1_add_11 : decode cX1_add 11 = .ok (.aload_n 0, 1) := by decide +kernel
theorem dX1_add_12 : decode cX1_add 12 = .ok (.getfield 9, 3) := by decide +kernel
theorem dX1_add_15 : decode cX1_add 15 = .ok (.aload_n 0, 1) := by decide +kernel
theorem dX1_add_16 : decode cX1_add 16 = .ok (.getfield 15, 3) := by decide +kernel
theorem dX1_add_19 : decode cX1_add 19 = .ok (.iload_n 1, 1) := by decide +kernel
theorem dX1_add_20 : decode cX1_add 20 = .ok (.iastore, 1) := by decide +kernel
theorem dX1_add_21 : decode cX1_add 21 = .ok (.aload_n 0, 1) := by decide +kernel
theorem dX1_add_22 : decode cX1_add 22 = .ok (.dup, 1) := by decide +kernel
theorem dX1_add_23 : decode cX1_add 23 = .ok (.getfield 15, 3) := by decide +kernel
theorem dX1_add_26 : decode cX1_add 26 = .ok (.iconst 1, 1) := by decide +kernel
theorem dX1_add_27 : decode cX1_add 27 = .ok (.iadd, 1) := by decide +kernel
theorem dX1_add_28 : decode cX1_add 28 = .ok (.putfield 15, 3) := by decide +kernel
theorem dX1_add_31 : decode cX1_add 31 = .ok (.iconst 1, 1) := by decide +kernel
theorem dX1_add_32 : decode cX1_add 32 = .ok (.ireturn, 1) := by decide +kernel
theorem dX1_forget_0 : decode cX1_forget 0 = .ok (.aload_n 0, 1) := by decide +kernel
theorem dX1_forget_1 : decode cX1_forget 1 = .ok (.iconst 0, 1) := by decide +kernel
theorem dX1_forget_2 : decode cX1_forget 2 = .ok (.putfield 15, 3) := by decide +kernel
theorem dX1_forget_5 : decode cX1_forget 5 = .ok (.return_, 1) := by decide +kernel
theorem dX1_firstWrongLetter_0 : decode cX1_firstWrongLetter 0 = .ok (.aload_n 0, 1) := by decide +kernel
theorem dX1_firstWrongLetter_1 : decode cX1_firstWrongLetter 1 = .ok (.getfield 15, 3) := by decide +kernel
theorem dX1_firstWrongLetter_4 : decode cX1_firstWrongLetter 4 = .ok (.ifCond .ne 5, 3) := by decide +kernel
theorem dX1_firstWrongLetter_7 : decode cX1_firstWrongLetter 7 = .ok (.iconst 0, 1) := by decide +kernel
theorem dX1_firstWrongLetter_8 : decode cX1_firstWrongLetter 8 = .ok (.ireturn, 1) := by decide +kernel
theorem dX1_firstWrongLetter_9 : decode cX1_firstWrongLetter 9 = .ok (.iconst 0, 1) := by decide +kernel
theorem dX1_firstWrongLetter_10 : decode cX1_firstWrongLetter 10 = .ok (.istore_n 1, 1) := by decide +kernel
theorem dX1_firstWrongLetter_11 : decode cX1_firstWrongLetter 11 = .ok (.iload_n 1, 1) := by decide +kernel
theorem dX1_firstWrongLetter_12 : decode cX1_firstWrongLetter 12 = .ok (.aload_n 0, 1) := by decide +kernel
theorem dX1_firstWrongLetter_13 : decode cX1_firstWrongLetter 13 = .ok (.getfield 15, 3) := by decide +kernel
theorem dX1_firstWrongLetter_16 : decode cX1_firstWrongLetter 16 = .ok (.if_icmp .ge 64, 3) := by decide +kernel
theorem dX1_firstWrongLetter_19 : decode cX1_firstWrongLetter 19 = .ok (.aload_n 0, 1) := by decide +kernel
theorem dX1_firstWrongLetter_20 : decode cX1_firstWrongLetter 20 = .ok (.iload_n 1, 1) := by decide +kernel
theorem dX1_firstWrongLetter_21 : decode cX1_firstWrongLetter 21 = .ok (.invokevirtual 19, 3) := by decide +kernel
theorem dX1_firstWrongLetter_24 : decode cX1_firstWrongLetter 24 = .ok (.invokestatic 23, 3) := by decide +kernel
theorem dX1_firstWrongLetter_27 : decode cX1_firstWrongLetter 27 = .ok (.astore_n 2, 1) := by decide +kernel
theorem dX1_firstWrongLetter_28 : decode cX1_firstWrongLetter 28 = .ok (.aload_n 2, 1) := by decide +kernel
theorem dX1_firstWrongLetter_29 : decode cX1_firstWrongLetter 29 = .ok (.invokevirtual 27, 3) := by decide +kernel
theorem dX1_firstWrongLetter_32 : decode cX1_firstWrongLetter 32 = .ok (.ifCond .eq 5, 3) := by decide +kernel
theorem dX1_firstWrongLetter_35 : decode cX1_firstWrongLetter 35 = .ok (.iload_n 1, 1) := by decide +kernel
theorem dX1_firstWrongLetter_36 : decode cX1_firstWrongLetter 36 = .ok (.ireturn, 1) := by decide +kernel
theorem dX1_firstWrongLetter_37 : decode cX1_firstWrongLetter 37 = .ok (.iinc 1 1, 3) := by decide +kernel
theorem dX1_firstWrongLetter_40 : decode cX1_firstWrongLetter 40 = .ok (.iconst 0, 1) := by decide +kernel
theorem dX1_firstWrongLetter_41 : decode cX1_firstWrongLetter 41 = .ok (.istore_n 3, 1) := by decide +kernel
theorem dX1_firstWrongLetter_42 : decode cX1_firstWrongLetter 42 = .ok (.iload_n 3, 1) := by decide +kernel
theorem dX1_firstWrongLetter_43 : decode cX1_firstWrongLetter 43 = .ok (.aload_n 2, 1) := by decide +kernel
theorem dX1_firstWrongLetter_44 : decode cX1_firstWrongLetter 44 = .ok (.invokevirtual 33, 3) := by decide +kernel
theorem dX1_firstWrongLetter_47 : decode cX1_firstWrongLetter 47 = .ok (.if_icmp .ge 30, 3) := by decide +kernel
theorem dX1_firstWrongLetter_50 : decode cX1_firstWrongLetter 50 = .ok (.aload_n 2, 1) := by decide +kernel
theorem dX1_firstWrongLetter_51 : decode cX1_firstWrongLetter 51 = .ok (.iload_n 3, 1) := by decide +kernel
theorem dX1_firstWrongLetter_52 : decode cX1_firstWrongLetter 52 = .ok (.invokevirtual 37, 3) := by decide +kernel
theorem dX1_firstWrongLetter_55 : decode cX1_firstWrongLetter 55 = .ok (.aload_n 0, 1) := by decide +kernel
theorem dX1_firstWrongLetter_56 : decode cX1_firstWrongLetter 56 = .ok (.iload_n 1, 1) := by decide +kernel
theorem dX1_firstWrongLetter_57 : decode cX1_firstWrongLetter 57 = .ok (.invokevirtual 19, 3) := by decide +kernel
theorem dX1_firstWrongLetter_60 : decode cX1_firstWrongLetter 60 = .ok (.invokestatic 41, 3) := by decide +kernel
theorem dX1_firstWrongLetter_63 : decode cX1_firstWrongLetter 63 = .ok (.ifCond .ne 5, 3) := by decide +kernel
theorem dX1_firstWrongLetter_66 : decode cX1_firstWrongLetter 66 = .ok (.iload_n 1, 1) := by decide +kernel
theorem dX1_firstWrongLetter_67 : decode cX1_firstWrongLetter 67 = .ok (.ireturn, 1) := by decide +kernel
theorem dX1_firstWrongLetter_68 : decode cX1_firstWrongLetter 68 = .ok (.iinc 1 1, 3) := by decide +kernel
theorem dX1_firstWrongLetter_71 : decode cX1_firstWrongLetter 71 = .ok (.iinc 3 1, 3) := by decide +kernel
theorem dX1_firstWrongLetter_74 : decode cX1_firstWrongLetter 74 = .ok (.goto (-32), 3) := by decide +kernel
theorem dX1_firstWrongLetter_77 : decode cX1_firstWrongLetter 77 = .ok (.goto (-66), 3) := by decide +kernel
theorem dX1_firstWrongLetter_80 : decode cX1_firstWrongLetter 80 = .ok (.bipush (-9), 2) := by decide +kernel
theorem dX1_firstWrongLetter_82 : decode cX1_firstWrongLetter 82 = .ok (.ireturn, 1) := by decide +kernel
theorem dX1_firstWrongStatement_0 : decode cX1_firstWrongStatement 0 = .ok (.iconst 0, 1) := by decide +kernel
theorem dX1_firstWrongStatement_1 : decode cX1_firstWrongStatement 1 = .ok (.istore_n 2, 1) := by decide +kernel
theorem dX1_firstWrongStatement_2 : decode cX1_firstWrongStatement 2 = .ok (.iload_n 2, 1) := by decide +kernel
theorem dX1_firstWrongStatement_3 : decode cX1_firstWrongStatement 3 = .ok (.aload_n 0, 1) := by decide +kernel
theorem dX1_firstWrongStatement_4 : decode cX1_firstWrongStatement 4 = .ok (.getfield 15, 3) := by decide +kernel
theorem dX1_firstWrongStatement_7 : decode cX1_firstWrongStatement 7 = .ok (.if_icmp .ge 33, 3) := by decide +kernel
theorem dX1_firstWrongStatement_10 : decode cX1_firstWrongStatement 10 = .ok (.aload_n 0, 1) := by decide +kernel
theorem dX1_firstWrongStatement_11 : decode cX1_firstWrongStatement 11 = .ok (.aload_n 1, 1) := by decide +kernel
theorem dX1_firstWrongStatement_12 : decode cX1_firstWrongStatement 12 = .ok (.iload_n 2, 1) := by decide +kernel
theorem dX1_firstWrongStatement_13 : decode cX1_firstWrongStatement 13 = .ok (.invokevirtual 45, 3) := by decide +kernel
theorem dX1_firstWrongStatement_16 : decode cX1_firstWrongStatement 16 = .ok (.ifCond .ne 5, 3) := by decide +kernel
theorem dX1_firstWrongStatement_19 : decode cX1_firstWrongStatement 19 = .ok (.iload_n 2, 1) := by decide +kernel
theorem dX1_firstWrongStatement_20 : decode cX1_firstWrongStatement 20 = .ok (.ireturn, 1) := by decide +kernel
theorem dX1_firstWrongStatement_21 : decode cX1_firstWrongStatement 21 = .ok (.iload_n 2, 1) := by decide +kernel
theorem dX1_firstWrongStatement_22 : decode cX1_firstWrongStatement 22 = .ok (.iconst 1, 1) := by decide +kernel
theorem dX1_firstWrongStatement_23 : decode cX1_firstWrongStatement 23 = .ok (.aload_n 0, 1) := by decide +kernel
theorem dX1_firstWrongStatement_24 : decode cX1_firstWrongStatement 24 = .ok (.iload_n 2, 1) := by decide +kernel
theorem dX1_firstWrongStatement_25 : decode cX1_firstWrongStatement 25 = .ok (.invokevirtual 19, 3) := by decide +kernel
theorem dX1_firstWrongStatement_28 : decode cX1_firstWrongStatement 28 = .ok (.invokestatic 23, 3) := by decide +kernel
theorem dX1_firstWrongStatement_31 : decode cX1_firstWrongStatement 31 = .ok (.invokevirtual 33, 3) := by decide +kernel
theorem dX1_firstWrongStatement_34 : decode cX1_firstWrongStatement 34 = .ok (.iadd, 1) := by decide +kernel
theorem dX1_firstWrongStatement_35 : decode cX1_firstWrongStatement 35 = .ok (.iadd, 1) := by decide +kernel
theorem dX1_firstWrongStatement_36 : decode cX1_firstWrongStatement 36 = .ok (.istore_n 2, 1) := by decide +kernel
theorem dX1_firstWrongStatement_37 : decode cX1_firstWrongStatement 37 = .ok (.goto (-35), 3) := by decide +kernel
theorem dX1_firstWrongStatement_40 : decode cX1_firstWrongStatement 40 = .ok (.bipush (-9), 2) := by decide +kernel
theorem dX1_firstWrongStatement_42 : decode cX1_firstWrongStatement 42 = .ok (.ireturn, 1) := by decide +kernel
theorem dX1_statements_0 : decode cX1_statements 0 = .ok (.iconst 0, 1) := by decide +kernel
theorem dX1_statements_1 : decode cX1_statements 1 = .ok (.istore_n 1, 1) := by decide +kernel
theorem dX1_statements_2 : decode cX1_statements 2 = .ok (.iconst 0, 1) := by decide +kernel
theorem dX1_statements_3 : decode cX1_statements 3 = .ok (.istore_n 2, 1) := by decide +kernel
theorem dX1_statements_4 : decode cX1_statements 4 = .ok (.iload_n 2, 1) := by decide +kernel
theorem dX1_statements_5 : decode cX1_statements 5 = .ok (.aload_n 0, 1) := by decide +kernel
theorem dX1_statements_6 : decode cX1_statements 6 = .ok (.getfield 15, 3) := by decide +kernel
theorem dX1_statements_9 : decode cX1_statements 9 = .ok (.if_icmp .ge 23, 3) := by decide +kernel
theorem dX1_statements_12 : decode cX1_statements 12 = .ok (.aload_n 0, 1) := by decide +kernel
theorem dX1_statements_13 : decode cX1_statements 13 = .ok (.getfield 9, 3) := by decide +kernel
theorem dX1_statements_16 : decode cX1_statements 16 = .ok (.iload_n 2, 1) := by decide +kernel
theorem dX1_statements_17 : decode cX1_statements 17 = .ok (.iaload, 1) := by decide +kernel
theorem dX1_statements_18 : decode cX1_statements 18 = .ok (.bipush 59, 2) := by decide +kernel
theorem dX1_statements_20 : decode cX1_statements 20 = .ok (.if_icmp .ne 6, 3) := by decide +kernel
theorem dX1_statements_23 : decode cX1_statements 23 = .ok (.iinc 1 1, 3) := by decide +kernel
theorem dX1_statements_26 : decode cX1_statements 26 = .ok (.iinc 2 1, 3) := by decide +kernel
theorem dX1_statements_29 : decode cX1_statements 29 = .ok (.goto (-25), 3) := by decide +kernel
theorem dX1_statements_32 : decode cX1_statements 32 = .ok (.iload_n 1, 1) := by decide +kernel
theorem dX1_statements_33 : decode cX1_statements 33 = .ok (.ireturn, 1) := by decide +kernel
theorem dX1_letterAt_0 : decode cX1_letterAt 0 = .ok (.iload_n 1, 1) := by decide +kernel
theorem dX1_letterAt_1 : decode cX1_letterAt 1 = .ok (.ifCond .lt 20, 3) := by decide +kernel
theorem dX1_letterAt_4 : decode cX1_letterAt 4 = .ok (.iload_n 1, 1) := by decide +kernel
theorem dX1_letterAt_5 : decode cX1_letterAt 5 = .ok (.aload_n 0, 1) := by decide +kernel
theorem dX1_letterAt_6 : decode cX1_letterAt 6 = .ok (.getfield 15, 3) := by decide +kernel
theorem dX1_letterAt_9 : decode cX1_letterAt 9 = .ok (.if_icmp .ge 12, 3) := by decide +kernel
theorem dX1_letterAt_12 : decode cX1_letterAt 12 = .ok (.aload_n 0, 1) := by decide +kernel
theorem dX1_letterAt_13 : decode cX1_letterAt 13 = .ok (.getfield 9, 3) := by decide +kernel
theorem dX1_letterAt_16 : decode cX1_letterAt 16 = .ok (.iload_n 1, 1) := by decide +kernel
theorem dX1_letterAt_17 : decode cX1_letterAt 17 = .ok (.iaload, 1) := by decide +kernel
theorem dX1_letterAt_18 : decode cX1_letterAt 18 = .ok (.goto 4, 3) := by decide +kernel
theorem dX1_letterAt_21 : decode cX1_letterAt 21 = .ok (.iconst (-1), 1) := by decide +kernel
theorem dX1_letterAt_22 : decode cX1_letterAt 22 = .ok (.ireturn, 1) := by decide +kernel
theorem dX1_digitAt_0 : decode cX1_digitAt 0 = .ok (.aload_n 0, 1) := by decide +kernel
theorem dX1_digitAt_1 : decode cX1_digitAt 1 = .ok (.iload_n 1, 1) := by decide +kernel
theorem dX1_digitAt_2 : decode cX1_digitAt 2 = .ok (.invokevirtual 19, 3) := by decide +kernel
theorem dX1_digitAt_5 : decode cX1_digitAt 5 = .ok (.bipush 48, 2) := by decide +kernel
theorem dX1_digitAt_7 : decode cX1_digitAt 7 = .ok (.isub, 1) := by decide +kernel
theorem dX1_digitAt_8 : decode cX1_digitAt 8 = .ok (.ireturn, 1) := by decide +kernel
theorem dX1_twoDigitsAt_0 : decode cX1_twoDigitsAt 0 = .ok (.bipush 10, 2) := by decide +kernel
theorem dX1_twoDigitsAt_2 : decode cX1_twoDigitsAt 2 = .ok (.aload_n 0, 1) := by decide +kernel
theorem dX1_twoDigitsAt_3 : decode cX1_twoDigitsAt 3 = .ok (.iload_n 1, 1) := by decide +kernel
theorem dX1_twoDigitsAt_4 : decode cX1_twoDigitsAt 4 = .ok (.invokevirtual 49, 3) := by decide +kernel
theorem dX1_twoDigitsAt_7 : decode cX1_twoDigitsAt 7 = .ok (.imul, 1) := by decide +kernel
theorem dX1_twoDigitsAt_8 : decode cX1_twoDigitsAt 8 = .ok (.aload_n 0, 1) := by decide +kernel
theorem dX1_twoDigitsAt_9 : decode cX1_twoDigitsAt 9 = .ok (.iload_n 1, 1) := by decide +kernel
theorem dX1_twoDigitsAt_10 : decode cX1_twoDigitsAt 10 = .ok (.iconst 1, 1) := by decide +kernel
theorem dX1_twoDigitsAt_11 : decode cX1_twoDigitsAt 11 = .ok (.iadd, 1) := by decide +kernel
theorem dX1_twoDigitsAt_12 : decode cX1_twoDigitsAt 12 = .ok (.invokevirtual 49, 3) := by decide +kernel
theorem dX1_twoDigitsAt_15 : decode cX1_twoDigitsAt 15 = .ok (.iadd, 1) := by decide +kernel
theorem dX1_twoDigitsAt_16 : decode cX1_twoDigitsAt 16 = .ok (.ireturn, 1) := by decide +kernel
theorem dX1_shapeBehind_0 : decode cX1_shapeBehind 0 = .ok (.iload_n 0, 1) := by decide +kernel
theorem dX1_shapeBehind_1 : decode cX1_shapeBehind 1 = .ok (.tableswitch 108 102 119 #[90, 93, 105, 108, 108, 108, 99, 108, 108, 108, 87, 108, 108, 102, 108, 108, 108, 96], 87) := by decide +kernel
theorem dX1_shapeBehind_88 : decode cX1_shapeBehind 88 = .ok (.ldc 52, 2) := by decide +kernel
theorem dX1_shapeBehind_90 : decode cX1_shapeBehind 90 = .ok (.areturn, 1) := by decide +kernel
theorem dX1_shapeBehind_91 : decode cX1_shapeBehind 91 = .ok (.ldc 54, 2) := by decide +kernel
theorem dX1_shapeBehind_93 : decode cX1_shapeBehind 93 = .ok (.areturn, 1) := by decide +kernel
theorem dX1_shapeBehind_94 : decode cX1_shapeBehind 94 = .ok (.ldc 56, 2) := by decide +kernel
theorem dX1_shapeBehind_96 : decode cX1_shapeBehind 96 = .ok (.areturn, 1) := by decide +kernel
theorem dX1_shapeBehind_97 : decode cX1_shapeBehind 97 = .ok (.ldc 54, 2) := by decide +kernel
theorem dX1_shapeBehind_99 : decode cX1_shapeBehind 99 = .ok (.areturn, 1) := by decide +kernel
theorem dX1_shapeBehind_100 : decode cX1_shapeBehind 100 = .ok (.ldc 54, 2) := by decide +kernel
theorem dX1_shapeBehind_102 : decode cX1_shapeBehind 102 = .ok (.areturn, 1) := by decide +kernel
theorem dX1_shapeBehind_103 : decode cX1_shapeBehind 103 = .ok (.ldc 58, 2) := by decide +kernel
theorem dX1_shapeBehind_105 : decode cX1_shapeBehind 105 = .ok (.areturn, 1) := by decide +kernel
theorem dX1_shapeBehind_106 : decode cX1_shapeBehind 106 = .ok (.ldc 54, 2) := by decide +kernel
theorem dX1_shapeBehind_108 : decode cX1_shapeBehind 108 = .ok (.areturn, 1) := by decide +kernel
theorem dX1_shapeBehind_109 : decode cX1_shapeBehind 109 = .ok (.ldc 60, 2) := by decide +kernel
theorem dX1_shapeBehind_111 : decode cX1_shapeBehind 111 = .ok (.areturn, 1) := by decide +kernel
theorem dX1_fits_0 : decode cX1_fits 0 = .ok (.iload_n 0, 1) := by decide +kernel
theorem dX1_fits_1 : decode cX1_fits 1 = .ok (.lookupswitch 58 #[(100, 40), (107, 27)], 27) := by decide +kernel
theorem dX1_fits_28 : decode cX1_fits 28 = .ok (.iload_n 1, 1) := by decide +kernel
theorem dX1_fits_29 : decode cX1_fits 29 = .ok (.invokestatic 62, 3) := by decide +kernel
theorem dX1_fits_32 : decode cX1_fits 32 = .ok (.ifCond .lt 7, 3) := by decide +kernel
theorem dX1_fits_35 : decode cX1_fits 35 = .ok (.iconst 1, 1) := by decide +kernel
theorem dX1_fits_36 : decode cX1_fits 36 = .ok (.goto 4, 3) := by decide +kernel
theorem dX1_fits_39 : decode cX1_fits 39 = .ok (.iconst 0, 1) := by decide +kernel
theorem dX1_fits_40 : decode cX1_fits 40 = .ok (.ireturn, 1) := by decide +kernel
theorem dX1_fits_41 : decode cX1_fits 41 = .ok (.iload_n 1, 1) := by decide +kernel
theorem dX1_fits_42 : decode cX1_fits 42 = .ok (.bipush 48, 2) := by decide +kernel
theorem dX1_fits_44 : decode cX1_fits 44 = .ok (.if_icmp .lt 13, 3) := by decide +kernel
theorem dX1_fits_47 : decode cX1_fits 47 = .ok (.iload_n 1, 1) := by decide +kernel
theorem dX1_fits_48 : decode cX1_fits 48 = .ok (.bipush 57, 2) := by decide +kernel
theorem dX1_fits_50 : decode cX1_fits 50 = .ok (.if_icmp .gt 7, 3) := by decide +kernel
theorem dX1_fits_53 : decode cX1_fits 53 = .ok (.iconst 1, 1) := by decide +kernel
theorem dX1_fits_54 : decode cX1_fits 54 = .ok (.goto 4, 3) := by decide +kernel
theorem dX1_fits_57 : decode cX1_fits 57 = .ok (.iconst 0, 1) := by decide +kernel
theorem dX1_fits_58 : decode cX1_fits 58 = .ok (.ireturn, 1) := by decide +kernel
theorem dX1_fits_59 : decode cX1_fits 59 = .ok (.iload_n 1, 1) := by decide +kernel
theorem dX1_fits_60 : decode cX1_fits 60 = .ok (.iload_n 0, 1) := by decide +kernel
theorem dX1_fits_61 : decode cX1_fits 61 = .ok (.if_icmp .ne 7, 3) := by decide +kernel
theorem dX1_fits_64 : decode cX1_fits 64 = .ok (.iconst 1, 1) := by decide +kernel
theorem dX1_fits_65 : decode cX1_fits 65 = .ok (.goto 4, 3) := by decide +kernel
theorem dX1_fits_68 : decode cX1_fits 68 = .ok (.iconst 0, 1) := by decide +kernel
theorem dX1_fits_69 : decode cX1_fits 69 = .ok (.ireturn, 1) := by decide +kernel
theorem dX1_kindOf_0 : decode cX1_kindOf 0 = .ok (.iload_n 0, 1) := by decide +kernel
theorem dX1_kindOf_1 : decode cX1_kindOf 1 = .ok (.ifCond .ge 7, 3) := by decide +kernel
theorem dX1_kindOf_4 : decode cX1_kindOf 4 = .ok (.iconst (-1), 1) := by decide +kernel
theorem dX1_kindOf_5 : decode cX1_kindOf 5 = .ok (.goto 10, 3) := by decide +kernel
theorem dX1_kindOf_8 : decode cX1_kindOf 8 = .ok (.ldc 65, 2) := by decide +kernel
theorem dX1_kindOf_10 : decode cX1_kindOf 10 = .ok (.iload_n 0, 1) := by decide +kernel
theorem dX1_kindOf_11 : decode cX1_kindOf 11 = .ok (.i2c, 1) := by decide +kernel
theorem dX1_kindOf_12 : decode cX1_kindOf 12 = .ok (.invokevirtual 67, 3) := by decide +kernel
theorem dX1_kindOf_15 : decode cX1_kindOf 15 = .ok (.ireturn, 1) := by decide +kernel
theorem dX1_letCome_0 : decode cX1_letCome 0 = .ok (.aload_n 0, 1) := by decide +kernel
theorem dX1_letCome_1 : decode cX1_letCome 1 = .ok (.iload_n 2, 1) := by decide +kernel
theorem dX1_letCome_2 : decode cX1_letCome 2 = .ok (.iconst 1, 1) := by decide +kernel
theorem dX1_letCome_3 : decode cX1_letCome 3 = .ok (.iadd, 1) := by decide +kernel
theorem dX1_letCome_4 : decode cX1_letCome 4 = .ok (.invokevirtual 19, 3) := by decide +kernel
theorem dX1_letCome_7 : decode cX1_letCome 7 = .ok (.invokestatic 62, 3) := by decide +kernel
theorem dX1_letCome_10 : decode cX1_letCome 10 = .ok (.istore_n 3, 1) := by decide +kernel
theorem dX1_letCome_11 : decode cX1_letCome 11 = .ok (.aload_n 0, 1) := by decide +kernel
theorem dX1_letCome_12 : decode cX1_letCome 12 = .ok (.iload_n 2, 1) := by decide +kernel
theorem dX1_letCome_13 : decode cX1_letCome 13 = .ok (.iconst 1, 1) := by decide +kernel
theorem dX1_letCome_14 : decode cX1_letCome 14 = .ok (.iadd, 1) := by decide +kernel
theorem dX1_letCome_15 : decode cX1_letCome 15 = .ok (.invokevirtual 49, 3) := by decide +kernel
theorem dX1_letCome_18 : decode cX1_letCome 18 = .ok (.istore 4, 2) := by decide +kernel
theorem dX1_letCome_20 : decode cX1_letCome 20 = .ok (.aload_n 0, 1) := by decide +kernel
theorem dX1_letCome_21 : decode cX1_letCome 21 = .ok (.iload_n 2, 1) := by decide +kernel
theorem dX1_letCome_22 : decode cX1_letCome 22 = .ok (.iconst 1, 1) := by decide +kernel
theorem dX1_letCome_23 : decode cX1_letCome 23 = .ok (.iadd, 1) := by decide +kernel
theorem dX1_letCome_24 : decode cX1_letCome 24 = .ok (.invokevirtual 70, 3) := by decide +kernel
theorem dX1_letCome_27 : decode cX1_letCome 27 = .ok (.istore 5, 2) := by decide +kernel
theorem dX1_letCome_29 : decode cX1_letCome 29 = .ok (.aload_n 0, 1) := by decide +kernel
theorem dX1_letCome_30 : decode cX1_letCome 30 = .ok (.iload_n 2, 1) := by decide +kernel
theorem dX1_letCome_31 : decode cX1_letCome 31 = .ok (.invokevirtual 19, 3) := by decide +kernel
theorem dX1_letCome_34 : decode cX1_letCome 34 = .ok (.tableswitch 155 102 119 #[106, 120, 155, 155, 155, 155, 141, 155, 155, 155, 86, 155, 155, 148, 155, 155, 155, 134], 86) := by decide +kernel
theorem dX1_letCome_120 : decode cX1_letCome 120 = .ok (.aload_n 1, 1) := by decide +kernel
theorem dX1_letCome_121 : decode cX1_letCome 121 = .ok (.iload_n 3, 1) := by decide +kernel
theorem dX1_letCome_122 : decode cX1_letCome 122 = .ok (.aload_n 0, 1) := by decide +kernel
theorem dX1_letCome_123 : decode cX1_letCome 123 = .ok (.iload_n 2, 1) := by decide +kernel
theorem dX1_letCome_124 : decode cX1_letCome 124 = .ok (.iconst 2, 1) := by decide +kernel
theorem dX1_letCome_125 : decode cX1_letCome 125 = .ok (.iadd, 1) := by decide +kernel
theorem dX1_letCome_126 : decode cX1_letCome 126 = .ok (.invokevirtual 49, 3) := by decide +kernel
theorem dX1_letCome_129 : decode cX1_letCome 129 = .ok (.aload_n 0, 1) := by decide +kernel
theorem dX1_letCome_130 : decode cX1_letCome 130 = .ok (.iload_n 2, 1) := by decide +kernel
theorem dX1_letCome_131 : decode cX1_letCome 131 = .ok (.iconst 3, 1) := by decide +kernel
theorem dX1_letCome_132 : decode cX1_letCome 132 = .ok (.iadd, 1) := by decide +kernel
theorem dX1_letCome_133 : decode cX1_letCome 133 = .ok (.invokevirtual 49, 3) := by decide +kernel
theorem dX1_letCome_136 : decode cX1_letCome 136 = .ok (.invokevirtual 73, 3) := by decide +kernel
theorem dX1_letCome_139 : decode cX1_letCome 139 = .ok (.ireturn, 1) := by decide +kernel
theorem dX1_letCome_140 : decode cX1_letCome 140 = .ok (.aload_n 1, 1) := by decide +kernel
theorem dX1_letCome_141 : decode cX1_letCome 141 = .ok (.iload 4, 2) := by decide +kernel
theorem dX1_letCome_143 : decode cX1_letCome 143 = .ok (.aload_n 0, 1) := by decide +kernel
theorem dX1_letCome_144 : decode cX1_letCome 144 = .ok (.iload_n 2, 1) := by decide +kernel
theorem dX1_letCome_145 : decode cX1_letCome 145 = .ok (.iconst 2, 1) := by decide +kernel
theorem dX1_letCome_146 : decode cX1_letCome 146 = .ok (.iadd, 1) := by decide +kernel
theorem dX1_letCome_147 : decode cX1_letCome 147 = .ok (.invokevirtual 49, 3) := by decide +kernel
theorem dX1_letCome_150 : decode cX1_letCome 150 = .ok (.invokevirtual 79, 3) := by decide +kernel
theorem dX1_letCome_153 : decode cX1_letCome 153 = .ok (.ireturn, 1) := by decide +kernel
theorem dX1_letCome_154 : decode cX1_letCome 154 = .ok (.aload_n 1, 1) := by decide +kernel
theorem dX1_letCome_155 : decode cX1_letCome 155 = .ok (.iload 4, 2) := by decide +kernel
theorem dX1_letCome_157 : decode cX1_letCome 157 = .ok (.aload_n 0, 1) := by decide +kernel
theorem dX1_letCome_158 : decode cX1_letCome 158 = .ok (.iload_n 2, 1) := by decide +kernel
theorem dX1_letCome_159 : decode cX1_letCome 159 = .ok (.iconst 2, 1) := by decide +kernel
theorem dX1_letCome_160 : decode cX1_letCome 160 = .ok (.iadd, 1) := by decide +kernel
theorem dX1_letCome_161 : decode cX1_letCome 161 = .ok (.invokevirtual 70, 3) := by decide +kernel
theorem dX1_letCome_164 : decode cX1_letCome 164 = .ok (.invokevirtual 83, 3) := by decide +kernel
theorem dX1_letCome_167 : decode cX1_letCome 167 = .ok (.ireturn, 1) := by decide +kernel
theorem dX1_letCome_168 : decode cX1_letCome 168 = .ok (.aload_n 1, 1) := by decide +kernel
theorem dX1_letCome_169 : decode cX1_letCome 169 = .ok (.iload 5, 2) := by decide +kernel
theorem dX1_letCome_171 : decode cX1_letCome 171 = .ok (.invokevirtual 86, 3) := by decide +kernel
theorem dX1_letCome_174 : decode cX1_letCome 174 = .ok (.ireturn, 1) := by decide +kernel
theorem dX1_letCome_175 : decode cX1_letCome 175 = .ok (.aload_n 1, 1) := by decide +kernel
theorem dX1_letCome_176 : decode cX1_letCome 176 = .ok (.iload 5, 2) := by decide +kernel
theorem dX1_letCome_178 : decode cX1_letCome 178 = .ok (.invokevirtual 90, 3) := by decide +kernel
theorem dX1_letCome_181 : decode cX1_letCome 181 = .ok (.ireturn, 1) := by decide +kernel
theorem dX1_letCome_182 : decode cX1_letCome 182 = .ok (.aload_n 1, 1) := by decide +kernel
theorem dX1_letCome_183 : decode cX1_letCome 183 = .ok (.iload 4, 2) := by decide +kernel
theorem dX1_letCome_185 : decode cX1_letCome 185 = .ok (.invokevirtual 93, 3) := by decide +kernel
theorem dX1_letCome_188 : decode cX1_letCome 188 = .ok (.ireturn, 1) := by decide +kernel
theorem dX1_letCome_189 : decode cX1_letCome 189 = .ok (.aload_n 1, 1) := by decide +kernel
theorem dX1_letCome_190 : decode cX1_letCome 190 = .ok (.iload 5, 2) := by decide +kernel
theorem dX1_letCome_192 : decode cX1_letCome 192 = .ok (.invokevirtual 96, 3) := by decide +kernel
theorem dX1_letCome_195 : decode cX1_letCome 195 = .ok (.ifCond .ne 5, 3) := by decide +kernel
theorem dX1_letCome_198 : decode cX1_letCome 198 = .ok (.iconst 0, 1) := by decide +kernel
theorem dX1_letCome_199 : decode cX1_letCome 199 = .ok (.ireturn, 1) := by decide +kernel
theorem dX1_letCome_200 : decode cX1_letCome 200 = .ok (.aload_n 1, 1) := by decide +kernel
theorem dX1_letCome_201 : decode cX1_letCome 201 = .ok (.iload 5, 2) := by decide +kernel
theorem dX1_letCome_203 : decode cX1_letCome 203 = .ok (.invokevirtual 99, 3) := by decide +kernel
theorem dX1_letCome_206 : decode cX1_letCome 206 = .ok (.iconst 1, 1) := by decide +kernel
theorem dX1_letCome_207 : decode cX1_letCome 207 = .ok (.ireturn, 1) := by decide +kernel
theorem dX2_init_0 : decode cX2_init 0 = .ok (.aload_n 0, 1) := by decide +kernel
theorem dX2_init_1 : decode cX2_init 1 = .ok (.invokespecial 1, 3) := by decide +kernel
theorem dX2_init_4 : decode cX2_init 4 = .ok (.aload_n 0, 1) := by decide +kernel
theorem dX2_init_5 : decode cX2_init 5 = .ok (.new 7, 3) := by decide +kernel
theorem dX2_init_8 : decode cX2_init 8 = .ok (.dup, 1) := by decide +kernel
theorem dX2_init_9 : decode cX2_init 9 = .ok (.invokespecial 9, 3) := by decide +kernel
theorem dX2_init_12 : decode cX2_init 12 = .ok (.putfield 10, 3) := by decide +kernel
theorem dX2_init_15 : decode cX2_init 15 = .ok (.aload_n 0, 1) := by decide +kernel
theorem dX2_init_16 : decode cX2_init 16 = .ok (.new 7, 3) := by decide +kernel
theorem dX2_init_19 : decode cX2_init 19 = .ok (.dup, 1) := by decide +kernel
theorem dX2_init_20 : decode cX2_init 20 = .ok (.invokespecial 9, 3) := by decide +kernel
theorem dX2_init_23 : decode cX2_init 23 = .ok (.putfield 16, 3) := by decide +kernel
theorem dX2_init_26 : decode cX2_init 26 = .ok (.aload_n 0, 1) := by decide +kernel
theorem dX2_init_27 : decode cX2_init 27 = .ok (.new 7, 3) := by decide +kernel
theorem dX2_init_30 : decode cX2_init 30 = .ok (.dup, 1) := by decide +kernel
theorem dX2_init_31 : decode cX2_init 31 = .ok (.invokespecial 9, 3) := by decide +kernel
theorem dX2_init_34 : decode cX2_init 34 = .ok (.putfield 19, 3) := by decide +kernel
theorem dX2_init_37 : decode cX2_init 37 = .ok (.aload_n 0, 1) := by decide +kernel
theorem dX2_init_38 : decode cX2_init 38 = .ok (.new 22, 3) := by decide +kernel
theorem dX2_init_41 : decode cX2_init 41 = .ok (.dup, 1) := by decide +kernel
theorem dX2_init_42 : decode cX2_init 42 = .ok (.invokespecial 24, 3) := by decide +kernel
theorem dX2_init_45 : decode cX2_init 45 = .ok (.putfield 25, 3) := by decide +kernel
theorem dX2_init_48 : decode cX2_init 48 = .ok (.aload_n 0, 1) := by decide +kernel
theorem dX2_init_49 : decode cX2_init 49 = .ok (.bipush 16, 2) := by decide +kernel
theorem dX2_init_51 : decode cX2_init 51 = .ok (.newarray .int, 2) := by decide +kernel
theorem dX2_init_53 : decode cX2_init 53 = .ok (.putfield 29, 3) := by decide +kernel
theorem dX2_init_56 : decode cX2_init 56 = .ok (.aload_n 0, 1) := by decide +kernel
theorem dX2_init_57 : decode cX2_init 57 = .ok (.bipush 7, 2) := by decide +kernel
theorem dX2_init_59 : decode cX2_init 59 = .ok (.newarray .int, 2) := by decide +kernel
theorem dX2_init_61 : decode cX2_init 61 = .ok (.putfield 33, 3) := by decide +kernel
theorem dX2_init_64 : decode cX2_init 64 = .ok (.aload_n 0, 1) := by decide +kernel
theorem dX2_init_65 : decode cX2_init 65 = .ok (.iconst 0, 1) := by decide +kernel
theorem dX2_init_66 : decode cX2_init 66 = .ok (.putfield 36, 3) := by decide +kernel
theorem dX2_init_69 : decode cX2_init 69 = .ok (.aload_n 0, 1) := by decide +kernel
theorem dX2_init_70 : decode cX2_init 70 = .ok (.iconst 0, 1) := by decide +kernel
theorem dX2_init_71 : decode cX2_init 71 = .ok (.putfield 40, 3) := by decide +kernel
theorem dX2_init_74 : decode cX2_init 74 = .ok (.return_, 1) := by decide +kernel
theorem dX2_letter_0 : decode cX2_letter 0 = .ok (.iload_n 1, 1) := by decide +kernel
theorem dX2_letter_1 : decode cX2_letter 1 = .ok (.iconst 0, 1) := by decide +kernel
theorem dX2_letter_2 : decode cX2_letter 2 = .ok (.sipush 255, 3) := by decide +kernel
theorem dX2_letter_5 : decode cX2_letter 5 = .ok (.invokestatic 44, 3) := by decide +kernel
theorem dX2_letter_8 : decode cX2_letter 8 = .ok (.istore_n 2, 1) := by decide +kernel
theorem dX2_letter_9 : decode cX2_letter 9 = .ok (.iload_n 2, 1) := by decide +kernel
theorem dX2_letter_10 : decode cX2_letter 10 = .ok (.ifCond .ne 17, 3) := by decide +kernel
theorem dX2_letter_13 : decode cX2_letter 13 = .ok (.aload_n 0, 1) := by decide +kernel
theorem dX2_letter_14 : decode cX2_letter 14 = .ok (.getfield 25, 3) := by decide +kernel
theorem dX2_letter_17 : decode cX2_letter 17 = .ok (.iload_n 1, 1) := by decide +kernel
theorem dX2_letter_18 : decode cX2_letter 18 = .ok (.invokevirtual 48, 3) := by decide +kernel
theorem dX2_letter_21 : decode cX2_letter 21 = .ok (.ifCond .ne 6, 3) := by decide +kernel
theorem dX2_letter_24 : decode cX2_letter 24 = .ok (.bipush (-6), 2) := by decide +kernel
theorem dX2_letter_26 : decode cX2_letter 26 = .ok (.istore_n 2, 1) := by decide +kernel
theorem dX2_letter_27 : decode cX2_letter 27 = .ok (.iload_n 2, 1) := by decide +kernel
theorem dX2_letter_28 : decode cX2_letter 28 = .ok (.ifCond .eq 9, 3) := by decide +kernel
theorem dX2_letter_31 : decode cX2_letter 31 = .ok (.aload_n 0, 1) := by decide +kernel
theorem dX2_letter_32 : decode cX2_letter 32 = .ok (.iload_n 2, 1) := by decide +kernel
theorem dX2_letter_33 : decode cX2_letter 33 = .ok (.invokevirtual 52, 3) := by decide +kernel
theorem dX2_letter_36 : decode cX2_letter 36 = .ok (.ireturn, 1) := by decide +kernel
theorem dX2_letter_37 : decode cX2_letter 37 = .ok (.aload_n 0, 1) := by decide +kernel
theorem dX2_letter_38 : decode cX2_letter 38 = .ok (.getfield 25, 3) := by decide +kernel
theorem dX2_letter_41 : decode cX2_letter 41 = .ok (.getfield 56, 3) := by decide +kernel
theorem dX2_letter_44 : decode cX2_letter 44 = .ok (.ireturn, 1) := by decide +kernel
theorem dX2_hill_0 : decode cX2_hill 0 = .ok (.aload_n 0, 1) := by decide +kernel
theorem dX2_hill_1 : decode cX2_hill 1 = .ok (.getfield 25, 3) := by decide +kernel
theorem dX2_hill_4 : decode cX2_hill 4 = .ok (.invokevirtual 59, 3) := by decide +kernel
theorem dX2_hill_7 : decode cX2_hill 7 = .ok (.istore_n 1, 1) := by decide +kernel
theorem dX2_hill_8 : decode cX2_hill 8 = .ok (.aload_n 0, 1) := by decide +kernel
theorem dX2_hill_9 : decode cX2_hill 9 = .ok (.invokevirtual 63, 3) := by decide +kernel
theorem dX2_hill_12 : decode cX2_hill 12 = .ok (.astore_n 2, 1) := by decide +kernel
theorem dX2_hill_13 : decode cX2_hill 13 = .ok (.iload_n 1, 1) := by decide +kernel
theorem dX2_hill_14 : decode cX2_hill 14 = .ok (.bipush (-9), 2) := by decide +kernel
theorem dX2_hill_16 : decode cX2_hill 16 = .ok (.if_icmp .ne 14, 3) := by decide +kernel
theorem dX2_hill_19 : decode cX2_hill 19 = .ok (.aload_n 0, 1) := by decide +kernel
theorem dX2_hill_20 : decode cX2_hill 20 = .ok (.getfield 25, 3) := by decide +kernel
theorem dX2_hill_23 : decode cX2_hill 23 = .ok (.aload_n 2, 1) := by decide +kernel
theorem dX2_hill_24 : decode cX2_hill 24 = .ok (.invokevirtual 67, 3) := by decide +kernel
theorem dX2_hill_27 : decode cX2_hill 27 = .ok (.goto 5, 3) := by decide +kernel
theorem dX2_hill_30 : decode cX2_hill 30 = .ok (.bipush (-9), 2) := by decide +kernel
theorem dX2_hill_32 : decode cX2_hill 32 = .ok (.istore_n 3, 1) := by decide +kernel
theorem dX2_hill_33 : decode cX2_hill 33 = .ok (.aload_n 0, 1) := by decide +kernel
theorem dX2_hill_34 : decode cX2_hill 34 = .ok (.getfield 25, 3) := by decide +kernel
theorem dX2_hill_37 : decode cX2_hill 37 = .ok (.invokevirtual 71, 3) := by decide +kernel
theorem dX2_hill_40 : decode cX2_hill 40 = .ok (.istore 4, 2) := by decide +kernel
theorem dX2_hill_42 : decode cX2_hill 42 = .ok (.aload_n 0, 1) := by decide +kernel
theorem dX2_hill_43 : decode cX2_hill 43 = .ok (.getfield 25, 3) := by decide +kernel
theorem dX2_hill_46 : decode cX2_hill 46 = .ok (.invokevirtual 74, 3) := by decide +kernel
theorem dX2_hill_49 : decode cX2_hill 49 = .ok (.iload_n 1, 1) := by decide +kernel
theorem dX2_hill_50 : decode cX2_hill 50 = .ok (.bipush (-9), 2) := by decide +kernel
theorem dX2_hill_52 : decode cX2_hill 52 = .ok (.if_icmp .eq 9, 3) := by decide +kernel
theorem dX2_hill_55 : decode cX2_hill 55 = .ok (.sipush (-1000), 3) := by decide +kernel
theorem dX2_hill_58 : decode cX2_hill 58 = .ok (.iload_n 1, 1) := by decide +kernel
theorem dX2_hill_59 : decode cX2_hill 59 = .ok (.isub, 1) := by decide +kernel
theorem dX2_hill_60 : decode cX2_hill 60 = .ok (.ireturn, 1) := by decide +kernel
theorem dX2_hill_61 : decode cX2_hill 61 = .ok (.iload_n 3, 1) := by decide +kernel
theorem dX2_hill_62 : decode cX2_hill 62 = .ok (.bipush (-9), 2) := by decide +kernel
theorem dX2_hill_64 : decode cX2_hill 64 = .ok (.if_icmp .eq 9, 3) := by decide +kernel
theorem dX2_hill_67 : decode cX2_hill 67 = .ok (.sipush (-2000), 3) := by decide +kernel
theorem dX2_hill_70 : decode cX2_hill 70 = .ok (.iload_n 3, 1) := by decide +kernel
theorem dX2_hill_71 : decode cX2_hill 71 = .ok (.isub, 1) := by decide +kernel
theorem dX2_hill_72 : decode cX2_hill 72 = .ok (.ireturn, 1) := by decide +kernel
theorem dX2_hill_73 : decode cX2_hill 73 = .ok (.aload_n 0, 1) := by decide +kernel
theorem dX2_hill_74 : decode cX2_hill 74 = .ok (.getfield 10, 3) := by decide +kernel
theorem dX2_hill_77 : decode cX2_hill 77 = .ok (.aload_n 2, 1) := by decide +kernel
theorem dX2_hill_78 : decode cX2_hill 78 = .ok (.invokevirtual 77, 3) := by decide +kernel
theorem dX2_hill_81 : decode cX2_hill 81 = .ok (.iload 4, 2) := by decide +kernel
theorem dX2_hill_83 : decode cX2_hill 83 = .ok (.ireturn, 1) := by decide +kernel
theorem dX2_person_0 : decode cX2_person 0 = .ok (.aload_n 0, 1) := by decide +kernel
theorem dX2_person_1 : decode cX2_person 1 = .ok (.getfield 10, 3) := by decide +kernel
theorem dX2_person_4 : decode cX2_person 4 = .ok (.iload_n 1, 1) := by decide +kernel
theorem dX2_person_5 : decode cX2_person 5 = .ok (.invokevirtual 81, 3) := by decide +kernel
theorem dX2_person_8 : decode cX2_person 8 = .ok (.ifCond .ne 9, 3) := by decide +kernel
theorem dX2_person_11 : decode cX2_person 11 = .ok (.aload_n 0, 1) := by decide +kernel
theorem dX2_person_12 : decode cX2_person 12 = .ok (.iconst (-1), 1) := by decide +kernel
theorem dX2_person_13 : decode cX2_person 13 = .ok (.invokevirtual 52, 3) := by decide +kernel
theorem dX2_person_16 : decode cX2_person 16 = .ok (.ireturn, 1) := by decide +kernel
theorem dX2_person_17 : decode cX2_person 17 = .ok (.iload_n 2, 1) := by decide +kernel
theorem dX2_person_18 : decode cX2_person 18 = .ok (.tableswitch 152 0 8 #[50, 60, 70, 80, 90, 107, 124, 134, 143], 50) := by decide +kernel
theorem dX2_person_68 : decode cX2_person 68 = .ok (.aload_n 0, 1) := by decide +kernel
theorem dX2_person_69 : decode cX2_person 69 = .ok (.getfield 10, 3) := by decide +kernel
theorem dX2_person_72 : decode cX2_person 72 = .ok (.getfield 84, 3) := by decide +kernel
theorem dX2_person_75 : decode cX2_person 75 = .ok (.iload_n 1, 1) := by decide +kernel
theorem dX2_person_76 : decode cX2_person 76 = .ok (.iaload, 1) := by decide +kernel
theorem dX2_person_77 : decode cX2_person 77 = .ok (.ireturn, 1) := by decide +kernel
theorem dX2_person_78 : decode cX2_person 78 = .ok (.aload_n 0, 1) := by decide +kernel
theorem dX2_person_79 : decode cX2_person 79 = .ok (.getfield 10, 3) := by decide +kernel
theorem dX2_person_82 : decode cX2_person 82 = .ok (.getfield 87, 3) := by decide +kernel
theorem dX2_person_85 : decode cX2_person 85 = .ok (.iload_n 1, 1) := by decide +kernel
theorem dX2_person_86 : decode cX2_person 86 = .ok (.iaload, 1) := by decide +kernel
theorem dX2_person_87 : decode cX2_person 87 = .ok (.ireturn, 1) := by decide +kernel
theorem dX2_person_88 : decode cX2_person 88 = .ok (.aload_n 0, 1) := by decide +kernel
theorem dX2_person_89 : decode cX2_person 89 = .ok (.getfield 10, 3) := by decide +kernel
theorem dX2_person_92 : decode cX2_person 92 = .ok (.getfield 90, 3) := by decide +kernel
theorem dX2_person_95 : decode cX2_person 95 = .ok (.iload_n 1, 1) := by decide +kernel
theorem dX2_person_96 : decode cX2_person 96 = .ok (.iaload, 1) := by decide +kernel
theorem dX2_person_97 : decode cX2_person 97 = .ok (.ireturn, 1) := by decide +kernel
theorem dX2_person_98 : decode cX2_person 98 = .ok (.aload_n 0, 1) := by decide +kernel
theorem dX2_person_99 : decode cX2_person 99 = .ok (.getfield 10, 3) := by decide +kernel
theorem dX2_person_102 : decode cX2_person 102 = .ok (.getfield 93, 3) := by decide +kernel
theorem dX2_person_105 : decode cX2_person 105 = .ok (.iload_n 1, 1) := by decide +kernel
theorem dX2_person_106 : decode cX2_person 106 = .ok (.iaload, 1) := by decide +kernel
theorem dX2_person_107 : decode cX2_person 107 = .ok (.ireturn, 1) := by decide +kernel
theorem dX2_person_108 : decode cX2_person 108 = .ok (.aload_n 0, 1) := by decide +kernel
theorem dX2_person_109 : decode cX2_person 109 = .ok (.getfield 10, 3) := by decide +kernel
theorem dX2_person_112 : decode cX2_person 112 = .ok (.iload_n 1, 1) := by decide +kernel
theorem dX2_person_113 : decode cX2_person 113 = .ok (.invokevirtual 96, 3) := by decide +kernel
theorem dX2_person_116 : decode cX2_person 116 = .ok (.ifCond .eq 7, 3) := by decide +kernel
theorem dX2_person_119 : decode cX2_person 119 = .ok (.iconst 1, 1) := by decide +kernel
theorem dX2_person_120 : decode cX2_person 120 = .ok (.goto 4, 3) := by decide +kernel
theorem dX2_person_123 : decode cX2_person 123 = .ok (.iconst 0, 1) := by decide +kernel
theorem dX2_person_124 : decode cX2_person 124 = .ok (.ireturn, 1) := by decide +kernel
theorem dX2_person_125 : decode cX2_person 125 = .ok (.aload_n 0, 1) := by decide +kernel
theorem dX2_person_126 : decode cX2_person 126 = .ok (.getfield 10, 3) := by decide +kernel
theorem dX2_person_129 : decode cX2_person 129 = .ok (.iload_n 1, 1) := by decide +kernel
theorem dX2_person_130 : decode cX2_person 130 = .ok (.invokevirtual 99, 3) := by decide +kernel
theorem dX2_person_133 : decode cX2_person 133 = .ok (.ifCond .eq 7, 3) := by decide +kernel
theorem dX2_person_136 : decode cX2_person 136 = .ok (.iconst 1, 1) := by decide +kernel
theorem dX2_person_137 : decode cX2_person 137 = .ok (.goto 4, 3) := by decide +kernel
theorem dX2_person_140 : decode cX2_person 140 = .ok (.iconst 0, 1) := by decide +kernel
theorem dX2_person_141 : decode cX2_person 141 = .ok (.ireturn, 1) := by decide +kernel
theorem dX2_person_142 : decode cX2_person 142 = .ok (.aload_n 0, 1) := by decide +kernel
theorem dX2_person_143 : decode cX2_person 143 = .ok (.getfield 10, 3) := by decide +kernel
theorem dX2_person_146 : decode cX2_person 146 = .ok (.getfield 102, 3) := by decide +kernel
theorem dX2_person_149 : decode cX2_person 149 = .ok (.iload_n 1, 1) := by decide +kernel
theorem dX2_person_150 : decode cX2_person 150 = .ok (.iaload, 1) := by decide +kernel
theorem dX2_person_151 : decode cX2_person 151 = .ok (.ireturn, 1) := by decide +kernel
theorem dX2_person_152 : decode cX2_person 152 = .ok (.aload_n 0, 1) := by decide +kernel
theorem dX2_person_153 : decode cX2_person 153 = .ok (.getfield 10, 3) := by decide +kernel
theorem dX2_person_156 : decode cX2_person 156 = .ok (.iload_n 1, 1) := by decide +kernel
theorem dX2_person_157 : decode cX2_person 157 = .ok (.invokevirtual 105, 3) := by decide +kernel
theorem dX2_person_160 : decode cX2_person 160 = .ok (.ireturn, 1) := by decide +kernel
theorem dX2_person_161 : decode cX2_person 161 = .ok (.aload_n 0, 1) := by decide +kernel
theorem dX2_person_162 : decode cX2_person 162 = .ok (.getfield 10, 3) := by decide +kernel
theorem dX2_person_165 : decode cX2_person 165 = .ok (.iload_n 1, 1) := by decide +kernel
theorem dX2_person_166 : decode cX2_person 166 = .ok (.invokevirtual 108, 3) := by decide +kernel
theorem dX2_person_169 : decode cX2_person 169 = .ok (.ireturn, 1) := by decide +kernel
theorem dX2_person_170 : decode cX2_person 170 = .ok (.aload_n 0, 1) := by decide +kernel
theorem dX2_person_171 : decode cX2_person 171 = .ok (.bipush (-2), 2) := by decide +kernel
theorem dX2_person_173 : decode cX2_person 173 = .ok (.invokevirtual 52, 3) := by decide +kernel
theorem dX2_person_176 : decode cX2_person 176 = .ok (.ireturn, 1) := by decide +kernel
theorem dX2_speaks_0 : decode cX2_speaks 0 = .ok (.aload_n 0, 1) := by decide +kernel
theorem dX2_speaks_1 : decode cX2_speaks 1 = .ok (.getfield 10, 3) := by decide +kernel
theorem dX2_speaks_4 : decode cX2_speaks 4 = .ok (.iload_n 1, 1) := by decide +kernel
theorem dX2_speaks_5 : decode cX2_speaks 5 = .ok (.invokevirtual 81, 3) := by decide +kernel
theorem dX2_speaks_8 : decode cX2_speaks 8 = .ok (.ifCond .ne 9, 3) := by decide +kernel
theorem dX2_speaks_11 : decode cX2_speaks 11 = .ok (.aload_n 0, 1) := by decide +kernel
theorem dX2_speaks_12 : decode cX2_speaks 12 = .ok (.iconst (-1), 1) := by decide +kernel
theorem dX2_speaks_13 : decode cX2_speaks 13 = .ok (.invokevirtual 52, 3) := by decide +kernel
theorem dX2_speaks_16 : decode cX2_speaks 16 = .ok (.ireturn, 1) := by decide +kernel
theorem dX2_speaks_17 : decode cX2_speaks 17 = .ok (.aload_n 0, 1) := by decide +kernel
theorem dX2_speaks_18 : decode cX2_speaks 18 = .ok (.getfield 10, 3) := by decide +kernel
theorem dX2_speaks_21 : decode cX2_speaks 21 = .ok (.iload_n 1, 1) := by decide +kernel
theorem dX2_speaks_22 : decode cX2_speaks 22 = .ok (.invokevirtual 96, 3) := by decide +kernel
theorem dX2_speaks_25 : decode cX2_speaks 25 = .ok (.ifCond .eq 10, 3) := by decide +kernel
theorem dX2_speaks_28 : decode cX2_speaks 28 = .ok (.aload_n 0, 1) := by decide +kernel
theorem dX2_speaks_29 : decode cX2_speaks 29 = .ok (.bipush (-3), 2) := by decide +kernel
theorem dX2_speaks_31 : decode cX2_speaks 31 = .ok (.invokevirtual 52, 3) := by decide +kernel
theorem dX2_speaks_34 : decode cX2_speaks 34 = .ok (.ireturn, 1) := by decide +kernel
theorem dX2_speaks_35 : decode cX2_speaks 35 = .ok (.aload_n 0, 1) := by decide +kernel
theorem dX2_speaks_36 : decode cX2_speaks 36 = .ok (.getfield 10, 3) := by decide +kernel
theorem dX2_speaks_39 : decode cX2_speaks 39 = .ok (.iload_n 1, 1) := by decide +kernel
theorem dX2_speaks_40 : decode cX2_speaks 40 = .ok (.invokevirtual 111, 3) := by decide +kernel
theorem dX2_speaks_43 : decode cX2_speaks 43 = .ok (.pop, 1) := by decide +kernel
theorem dX2_speaks_44 : decode cX2_speaks 44 = .ok (.aload_n 0, 1) := by decide +kernel
theorem dX2_speaks_45 : decode cX2_speaks 45 = .ok (.getfield 10, 3) := by decide +kernel
theorem dX2_speaks_48 : decode cX2_speaks 48 = .ok (.getfield 114, 3) := by decide +kernel
theorem dX2_speaks_51 : decode cX2_speaks 51 = .ok (.invokestatic 117, 3) := by decide +kernel
theorem dX2_speaks_54 : decode cX2_speaks 54 = .ok (.ireturn, 1) := by decide +kernel
theorem dX2_befriends_0 : decode cX2_befriends 0 = .ok (.aload_n 0, 1) := by decide +kernel
theorem dX2_befriends_1 : decode cX2_befriends 1 = .ok (.getfield 10, 3) := by decide +kernel
theorem dX2_befriends_4 : decode cX2_befriends 4 = .ok (.iload_n 1, 1) := by decide +kernel
theorem dX2_befriends_5 : decode cX2_befriends 5 = .ok (.invokevirtual 81, 3) := by decide +kernel
theorem dX2_befriends_8 : decode cX2_befriends 8 = .ok (.ifCond .ne 9, 3) := by decide +kernel
theorem dX2_befriends_11 : decode cX2_befriends 11 = .ok (.aload_n 0, 1) := by decide +kernel
theorem dX2_befriends_12 : decode cX2_befriends 12 = .ok (.iconst (-1), 1) := by decide +kernel
theorem dX2_befriends_13 : decode cX2_befriends 13 = .ok (.invokevirtual 52, 3) := by decide +kernel
theorem dX2_befriends_16 : decode cX2_befriends 16 = .ok (.ireturn, 1) := by decide +kernel
theorem dX2_befriends_17 : decode cX2_befriends 17 = .ok (.aload_n 0, 1) := by decide +kernel
theorem dX2_befriends_18 : decode cX2_befriends 18 = .ok (.getfield 10, 3) := by decide +kernel
theorem dX2_befriends_21 : decode cX2_befriends 21 = .ok (.getfield 102, 3) := by decide +kernel
theorem dX2_befriends_24 : decode cX2_befriends 24 = .ok (.iload_n 1, 1) := by decide +kernel
theorem dX2_befriends_25 : decode cX2_befriends 25 = .ok (.iaload, 1) := by decide +kernel
theorem dX2_befriends_26 : decode cX2_befriends 26 = .ok (.istore_n 3, 1) := by decide +kernel
theorem dX2_befriends_27 : decode cX2_befriends 27 = .ok (.aload_n 0, 1) := by decide +kernel
theorem dX2_befriends_28 : decode cX2_befriends 28 = .ok (.getfield 10, 3) := by decide +kernel
theorem dX2_befriends_31 : decode cX2_befriends 31 = .ok (.iload_n 1, 1) := by decide +kernel
theorem dX2_befriends_32 : decode cX2_befriends 32 = .ok (.iload_n 2, 1) := by decide +kernel
theorem dX2_befriends_33 : decode cX2_befriends 33 = .ok (.invokevirtual 122, 3) := by decide +kernel
theorem dX2_befriends_36 : decode cX2_befriends 36 = .ok (.ifCond .eq 7, 3) := by decide +kernel
theorem dX2_befriends_39 : decode cX2_befriends 39 = .ok (.iload_n 3, 1) := by decide +kernel
theorem dX2_befriends_40 : decode cX2_befriends 40 = .ok (.goto 8, 3) := by decide +kernel
theorem dX2_befriends_43 : decode cX2_befriends 43 = .ok (.aload_n 0, 1) := by decide +kernel
theorem dX2_befriends_44 : decode cX2_befriends 44 = .ok (.iconst (-1), 1) := by decide +kernel
theorem dX2_befriends_45 : decode cX2_befriends 45 = .ok (.invokevirtual 52, 3) := by decide +kernel
theorem dX2_befriends_48 : decode cX2_befriends 48 = .ok (.ireturn, 1) := by decide +kernel
theorem dX2_pours_0 : decode cX2_pours 0 = .ok (.aload_n 0, 1) := by decide +kernel
theorem dX2_pours_1 : decode cX2_pours 1 = .ok (.iload_n 1, 1) := by decide +kernel
theorem dX2_pours_2 : decode cX2_pours 2 = .ok (.iload_n 2, 1) := by decide +kernel
theorem dX2_pours_3 : decode cX2_pours 3 = .ok (.bipush 99, 2) := by decide +kernel
theorem dX2_pours_5 : decode cX2_pours 5 = .ok (.invokevirtual 126, 3) := by decide +kernel
theorem dX2_pours_8 : decode cX2_pours 8 = .ok (.istore_n 3, 1) := by decide +kernel
theorem dX2_pours_9 : decode cX2_pours 9 = .ok (.iload_n 3, 1) := by decide +kernel
theorem dX2_pours_10 : decode cX2_pours 10 = .ok (.ifCond .eq 9, 3) := by decide +kernel
theorem dX2_pours_13 : decode cX2_pours 13 = .ok (.aload_n 0, 1) := by decide +kernel
theorem dX2_pours_14 : decode cX2_pours 14 = .ok (.iload_n 3, 1) := by decide +kernel
theorem dX2_pours_15 : decode cX2_pours 15 = .ok (.invokevirtual 52, 3) := by decide +kernel
theorem dX2_pours_18 : decode cX2_pours 18 = .ok (.ireturn, 1) := by decide +kernel
theorem dX2_pours_19 : decode cX2_pours 19 = .ok (.aload_n 0, 1) := by decide +kernel
theorem dX2_pours_20 : decode cX2_pours 20 = .ok (.getfield 10, 3) := by decide +kernel
theorem dX2_pours_23 : decode cX2_pours 23 = .ok (.getfield 93, 3) := by decide +kernel
theorem dX2_pours_26 : decode cX2_pours 26 = .ok (.iload_n 1, 1) := by decide +kernel
theorem dX2_pours_27 : decode cX2_pours 27 = .ok (.iaload, 1) := by decide +kernel
theorem dX2_pours_28 : decode cX2_pours 28 = .ok (.istore 4, 2) := by decide +kernel
theorem dX2_pours_30 : decode cX2_pours 30 = .ok (.aload_n 0, 1) := by decide +kernel
theorem dX2_pours_31 : decode cX2_pours 31 = .ok (.getfield 10, 3) := by decide +kernel
theorem dX2_pours_34 : decode cX2_pours 34 = .ok (.getfield 93, 3) := by decide +kernel
theorem dX2_pours_37 : decode cX2_pours 37 = .ok (.iload_n 1, 1) := by decide +kernel
theorem dX2_pours_38 : decode cX2_pours 38 = .ok (.iload_n 2, 1) := by decide +kernel
theorem dX2_pours_39 : decode cX2_pours 39 = .ok (.iastore, 1) := by decide +kernel
theorem dX2_pours_40 : decode cX2_pours 40 = .ok (.iload 4, 2) := by decide +kernel
theorem dX2_pours_42 : decode cX2_pours 42 = .ok (.ireturn, 1) := by decide +kernel
theorem dX2_cans_0 : decode cX2_cans 0 = .ok (.aload_n 0, 1) := by decide +kernel
theorem dX2_cans_1 : decode cX2_cans 1 = .ok (.iload_n 1, 1) := by decide +kernel
theorem dX2_cans_2 : decode cX2_cans 2 = .ok (.iload_n 2, 1) := by decide +kernel
theorem dX2_cans_3 : decode cX2_cans 3 = .ok (.bipush 9, 2) := by decide +kernel
theorem dX2_cans_5 : decode cX2_cans 5 = .ok (.invokevirtual 126, 3) := by decide +kernel
theorem dX2_cans_8 : decode cX2_cans 8 = .ok (.istore_n 3, 1) := by decide +kernel
theorem dX2_cans_9 : decode cX2_cans 9 = .ok (.iload_n 3, 1) := by decide +kernel
theorem dX2_cans_10 : decode cX2_cans 10 = .ok (.ifCond .eq 9, 3) := by decide +kernel
theorem dX2_cans_13 : decode cX2_cans 13 = .ok (.aload_n 0, 1) := by decide +kernel
theorem dX2_cans_14 : decode cX2_cans 14 = .ok (.iload_n 3, 1) := by decide +kernel
theorem dX2_cans_15 : decode cX2_cans 15 = .ok (.invokevirtual 52, 3) := by decide +kernel
theorem dX2_cans_18 : decode cX2_cans 18 = .ok (.ireturn, 1) := by decide +kernel
theorem dX2_cans_19 : decode cX2_cans 19 = .ok (.aload_n 0, 1) := by decide +kernel
theorem dX2_cans_20 : decode cX2_cans 20 = .ok (.getfield 10, 3) := by decide +kernel
theorem dX2_cans_23 : decode cX2_cans 23 = .ok (.getfield 90, 3) := by decide +kernel
theorem dX2_cans_26 : decode cX2_cans 26 = .ok (.iload_n 1, 1) := by decide +kernel
theorem dX2_cans_27 : decode cX2_cans 27 = .ok (.iaload, 1) := by decide +kernel
theorem dX2_cans_28 : decode cX2_cans 28 = .ok (.istore 4, 2) := by decide +kernel
theorem dX2_cans_30 : decode cX2_cans 30 = .ok (.aload_n 0, 1) := by decide +kernel
theorem dX2_cans_31 : decode cX2_cans 31 = .ok (.getfield 10, 3) := by decide +kernel
theorem dX2_cans_34 : decode cX2_cans 34 = .ok (.getfield 90, 3) := by decide +kernel
theorem dX2_cans_37 : decode cX2_cans 37 = .ok (.iload_n 1, 1) := by decide +kernel
theorem dX2_cans_38 : decode cX2_cans 38 = .ok (.iload_n 2, 1) := by decide +kernel
theorem dX2_cans_39 : decode cX2_cans 39 = .ok (.iastore, 1) := by decide +kernel
theorem dX2_cans_40 : decode cX2_cans 40 = .ok (.iload 4, 2) := by decide +kernel
theorem dX2_cans_42 : decode cX2_cans 42 = .ok (.ireturn, 1) := by decide +kernel
theorem dX2_water_0 : decode cX2_water 0 = .ok (.iload_n 1, 1) := by decide +kernel
theorem dX2_water_1 : decode cX2_water 1 = .ok (.iconst 0, 1) := by decide +kernel
theorem dX2_water_2 : decode cX2_water 2 = .ok (.bipush 99, 2) := by decide +kernel
theorem dX2_water_4 : decode cX2_water 4 = .ok (.invokestatic 44, 3) := by decide +kernel
theorem dX2_water_7 : decode cX2_water 7 = .ok (.istore_n 2, 1) := by decide +kernel
theorem dX2_water_8 : decode cX2_water 8 = .ok (.iload_n 2, 1) := by decide +kernel
theorem dX2_water_9 : decode cX2_water 9 = .ok (.ifCond .eq 9, 3) := by decide +kernel
theorem dX2_water_12 : decode cX2_water 12 = .ok (.aload_n 0, 1) := by decide +kernel
theorem dX2_water_13 : decode cX2_water 13 = .ok (.iload_n 2, 1) := by decide +kernel
theorem dX2_water_14 : decode cX2_water 14 = .ok (.invokevirtual 52, 3) := by decide +kernel
theorem dX2_water_17 : decode cX2_water 17 = .ok (.ireturn, 1) := by decide +kernel
theorem dX2_water_18 : decode cX2_water 18 = .ok (.aload_n 0, 1) := by decide +kernel
theorem dX2_water_19 : decode cX2_water 19 = .ok (.getfield 10, 3) := by decide +kernel
theorem dX2_water_22 : decode cX2_water 22 = .ok (.getfield 129, 3) := by decide +kernel
theorem dX2_water_25 : decode cX2_water 25 = .ok (.istore_n 3, 1) := by decide +kernel
theorem dX2_water_26 : decode cX2_water 26 = .ok (.aload_n 0, 1) := by decide +kernel
theorem dX2_water_27 : decode cX2_water 27 = .ok (.getfield 10, 3) := by decide +kernel
theorem dX2_water_30 : decode cX2_water 30 = .ok (.iload_n 1, 1) := by decide +kernel
theorem dX2_water_31 : decode cX2_water 31 = .ok (.putfield 129, 3) := by decide +kernel
theorem dX2_water_34 : decode cX2_water 34 = .ok (.iload_n 3, 1) := by decide +kernel
theorem dX2_water_35 : decode cX2_water 35 = .ok (.ireturn, 1) := by decide +kernel
theorem dX2_flow_0 : decode cX2_flow 0 = .ok (.iload_n 1, 1) := by decide +kernel
theorem dX2_flow_1 : decode cX2_flow 1 = .ok (.iconst 0, 1) := by decide +kernel
theorem dX2_flow_2 : decode cX2_flow 2 = .ok (.bipush 30, 2) := by decide +kernel
theorem dX2_flow_4 : decode cX2_flow 4 = .ok (.invokestatic 44, 3) := by decide +kernel
theorem dX2_flow_7 : decode cX2_flow 7 = .ok (.istore_n 2, 1) := by decide +kernel
theorem dX2_flow_8 : decode cX2_flow 8 = .ok (.iload_n 2, 1) := by decide +kernel
theorem dX2_flow_9 : decode cX2_flow 9 = .ok (.ifCond .eq 9, 3) := by decide +kernel
theorem dX2_flow_12 : decode cX2_flow 12 = .ok (.aload_n 0, 1) := by decide +kernel
theorem dX2_flow_13 : decode cX2_flow 13 = .ok (.iload_n 2, 1) := by decide +kernel
theorem dX2_flow_14 : decode cX2_flow 14 = .ok (.invokevirtual 52, 3) := by decide +kernel
theorem dX2_flow_17 : decode cX2_flow 17 = .ok (.ireturn, 1) := by decide +kernel
theorem dX2_flow_18 : decode cX2_flow 18 = .ok (.aload_n 0, 1) := by decide +kernel
theorem dX2_flow_19 : decode cX2_flow 19 = .ok (.getfield 10, 3) := by decide +kernel
theorem dX2_flow_22 : decode cX2_flow 22 = .ok (.getfield 132, 3) := by decide +kernel
theorem dX2_flow_25 : decode cX2_flow 25 = .ok (.istore_n 3, 1) := by decide +kernel
theorem dX2_flow_26 : decode cX2_flow 26 = .ok (.aload_n 0, 1) := by decide +kernel
theorem dX2_flow_27 : decode cX2_flow 27 = .ok (.getfield 10, 3) := by decide +kernel
theorem dX2_flow_30 : decode cX2_flow 30 = .ok (.iload_n 1, 1) := by decide +kernel
theorem dX2_flow_31 : decode cX2_flow 31 = .ok (.putfield 132, 3) := by decide +kernel
theorem dX2_flow_34 : decode cX2_flow 34 = .ok (.iload_n 3, 1) := by decide +kernel
theorem dX2_flow_35 : decode cX2_flow 35 = .ok (.ireturn, 1) := by decide +kernel
theorem dX2_turn_0 : decode cX2_turn 0 = .ok (.aload_n 0, 1) := by decide +kernel
theorem dX2_turn_1 : decode cX2_turn 1 = .ok (.getfield 10, 3) := by decide +kernel
theorem dX2_turn_4 : decode cX2_turn 4 = .ok (.iload_n 1, 1) := by decide +kernel
theorem dX2_turn_5 : decode cX2_turn 5 = .ok (.invokevirtual 81, 3) := by decide +kernel
theorem dX2_turn_8 : decode cX2_turn 8 = .ok (.ifCond .ne 9, 3) := by decide +kernel
theorem dX2_turn_11 : decode cX2_turn 11 = .ok (.aload_n 0, 1) := by decide +kernel
theorem dX2_turn_12 : decode cX2_turn 12 = .ok (.iconst (-1), 1) := by decide +kernel
theorem dX2_turn_13 : decode cX2_turn 13 = .ok (.invokevirtual 52, 3) := by decide +kernel
theorem dX2_turn_16 : decode cX2_turn 16 = .ok (.ireturn, 1) := by decide +kernel
theorem dX2_turn_17 : decode cX2_turn 17 = .ok (.iload_n 2, 1) := by decide +kernel
theorem dX2_turn_18 : decode cX2_turn 18 = .ok (.ifCond .lt 9, 3) := by decide +kernel
theorem dX2_turn_21 : decode cX2_turn 21 = .ok (.iload_n 2, 1) := by decide +kernel
theorem dX2_turn_22 : decode cX2_turn 22 = .ok (.bipush 6, 2) := by decide +kernel
theorem dX2_turn_24 : decode cX2_turn 24 = .ok (.if_icmp .lt 10, 3) := by decide +kernel
theorem dX2_turn_27 : decode cX2_turn 27 = .ok (.aload_n 0, 1) := by decide +kernel
theorem dX2_turn_28 : decode cX2_turn 28 = .ok (.bipush (-2), 2) := by decide +kernel
theorem dX2_turn_30 : decode cX2_turn 30 = .ok (.invokevirtual 52, 3) := by decide +kernel
theorem dX2_turn_33 : decode cX2_turn 33 = .ok (.ireturn, 1) := by decide +kernel
theorem dX2_turn_34 : decode cX2_turn 34 = .ok (.iload_n 3, 1) := by decide +kernel
theorem dX2_turn_35 : decode cX2_turn 35 = .ok (.iconst 0, 1) := by decide +kernel
theorem dX2_turn_36 : decode cX2_turn 36 = .ok (.bipush 9, 2) := by decide +kernel
theorem dX2_turn_38 : decode cX2_turn 38 = .ok (.invokestatic 44, 3) := by decide +kernel
theorem dX2_turn_41 : decode cX2_turn 41 = .ok (.istore 4, 2) := by decide +kernel
theorem dX2_turn_43 : decode cX2_turn 43 = .ok (.iload 4, 2) := by decide +kernel
theorem dX2_turn_45 : decode cX2_turn 45 = .ok (.ifCond .eq 10, 3) := by decide +kernel
theorem dX2_turn_48 : decode cX2_turn 48 = .ok (.aload_n 0, 1) := by decide +kernel
theorem dX2_turn_49 : decode cX2_turn 49 = .ok (.iload 4, 2) := by decide +kernel
theorem dX2_turn_51 : decode cX2_turn 51 = .ok (.invokevirtual 52, 3) := by decide +kernel
theorem dX2_turn_54 : decode cX2_turn 54 = .ok (.ireturn, 1) := by decide +kernel
theorem dX2_turn_55 : decode cX2_turn 55 = .ok (.bipush 10, 2) := by decide +kernel
theorem dX2_turn_57 : decode cX2_turn 57 = .ok (.aload_n 0, 1) := by decide +kernel
theorem dX2_turn_58 : decode cX2_turn 58 = .ok (.getfield 10, 3) := by decide +kernel
theorem dX2_turn_61 : decode cX2_turn 61 = .ok (.getfield 84, 3) := by decide +kernel
theorem dX2_turn_64 : decode cX2_turn 64 = .ok (.iload_n 1, 1) := by decide +kernel
theorem dX2_turn_65 : decode cX2_turn 65 = .ok (.iaload, 1) := by decide +kernel
theorem dX2_turn_66 : decode cX2_turn 66 = .ok (.imul, 1) := by decide +kernel
theorem dX2_turn_67 : decode cX2_turn 67 = .ok (.aload_n 0, 1) := by decide +kernel
theorem dX2_turn_68 : decode cX2_turn 68 = .ok (.getfield 10, 3) := by decide +kernel
theorem dX2_turn_71 : decode cX2_turn 71 = .ok (.getfield 87, 3) := by decide +kernel
theorem dX2_turn_74 : decode cX2_turn 74 = .ok (.iload_n 1, 1) := by decide +kernel
theorem dX2_turn_75 : decode cX2_turn 75 = .ok (.iaload, 1) := by decide +kernel
theorem dX2_turn_76 : decode cX2_turn 76 = .ok (.iadd, 1) := by decide +kernel
theorem dX2_turn_77 : decode cX2_turn 77 = .ok (.istore 5, 2) := by decide +kernel
theorem dX2_turn_79 : decode cX2_turn 79 = .ok (.aload_n 0, 1) := by decide +kernel
theorem dX2_turn_80 : decode cX2_turn 80 = .ok (.getfield 10, 3) := by decide +kernel
theorem dX2_turn_83 : decode cX2_turn 83 = .ok (.getfield 84, 3) := by decide +kernel
theorem dX2_turn_86 : decode cX2_turn 86 = .ok (.iload_n 1, 1) := by decide +kernel
theorem dX2_turn_87 : decode cX2_turn 87 = .ok (.iload_n 2, 1) := by decide +kernel
theorem dX2_turn_88 : decode cX2_turn 88 = .ok (.iastore, 1) := by decide +kernel
theorem dX2_turn_89 : decode cX2_turn 89 = .ok (.aload_n 0, 1) := by decide +kernel
theorem dX2_turn_90 : decode cX2_turn 90 = .ok (.getfield 10, 3) := by decide +kernel
theorem dX2_turn_93 : decode cX2_turn 93 = .ok (.getfield 87, 3) := by decide +kernel
theorem dX2_turn_96 : decode cX2_turn 96 = .ok (.iload_n 1, 1) := by decide +kernel
theorem dX2_turn_97 : decode cX2_turn 97 = .ok (.iload_n 3, 1) := by decide +kernel
theorem dX2_turn_98 : decode cX2_turn 98 = .ok (.iastore, 1) := by decide +kernel
theorem dX2_turn_99 : decode cX2_turn 99 = .ok (.iload 5, 2) := by decide +kernel
theorem dX2_turn_101 : decode cX2_turn 101 = .ok (.ireturn, 1) := by decide +kernel
theorem dX2_hours_0 : decode cX2_hours 0 = .ok (.iload_n 1, 1) := by decide +kernel
theorem dX2_hours_1 : decode cX2_hours 1 = .ok (.iconst 1, 1) := by decide +kernel
theorem dX2_hours_2 : decode cX2_hours 2 = .ok (.bipush 60, 2) := by decide +kernel
theorem dX2_hours_4 : decode cX2_hours 4 = .ok (.invokestatic 44, 3) := by decide +kernel
theorem dX2_hours_7 : decode cX2_hours 7 = .ok (.istore_n 2, 1) := by decide +kernel
theorem dX2_hours_8 : decode cX2_hours 8 = .ok (.iload_n 2, 1) := by decide +kernel
theorem dX2_hours_9 : decode cX2_hours 9 = .ok (.ifCond .ne 17, 3) := by decide +kernel
theorem dX2_hours_12 : decode cX2_hours 12 = .ok (.aload_n 0, 1) := by decide +kernel
theorem dX2_hours_13 : decode cX2_hours 13 = .ok (.getfield 10, 3) := by decide +kernel
theorem dX2_hours_16 : decode cX2_hours 16 = .ok (.iload_n 1, 1) := by decide +kernel
theorem dX2_hours_17 : decode cX2_hours 17 = .ok (.invokevirtual 135, 3) := by decide +kernel
theorem dX2_hours_20 : decode cX2_hours 20 = .ok (.ifCond .ne 6, 3) := by decide +kernel
theorem dX2_hours_23 : decode cX2_hours 23 = .ok (.bipush (-6), 2) := by decide +kernel
theorem dX2_hours_25 : decode cX2_hours 25 = .ok (.istore_n 2, 1) := by decide +kernel
theorem dX2_hours_26 : decode cX2_hours 26 = .ok (.iload_n 2, 1) := by decide +kernel
theorem dX2_hours_27 : decode cX2_hours 27 = .ok (.ifCond .eq 9, 3) := by decide +kernel
theorem dX2_hours_30 : decode cX2_hours 30 = .ok (.aload_n 0, 1) := by decide +kernel
theorem dX2_hours_31 : decode cX2_hours 31 = .ok (.iload_n 2, 1) := by decide +kernel
theorem dX2_hours_32 : decode cX2_hours 32 = .ok (.invokevirtual 52, 3) := by decide +kernel
theorem dX2_hours_35 : decode cX2_hours 35 = .ok (.ireturn, 1) := by decide +kernel
theorem dX2_hours_36 : decode cX2_hours 36 = .ok (.aload_n 0, 1) := by decide +kernel
theorem dX2_hours_37 : decode cX2_hours 37 = .ok (.getfield 10, 3) := by decide +kernel
theorem dX2_hours_40 : decode cX2_hours 40 = .ok (.iload_n 1, 1) := by decide +kernel
theorem dX2_hours_41 : decode cX2_hours 41 = .ok (.invokevirtual 138, 3) := by decide +kernel
theorem dX2_hours_44 : decode cX2_hours 44 = .ok (.aload_n 0, 1) := by decide +kernel
theorem dX2_hours_45 : decode cX2_hours 45 = .ok (.getfield 10, 3) := by decide +kernel
theorem dX2_hours_48 : decode cX2_hours 48 = .ok (.getfield 129, 3) := by decide +kernel
theorem dX2_hours_51 : decode cX2_hours 51 = .ok (.ireturn, 1) := by decide +kernel
theorem dX2_hasThen_0 : decode cX2_hasThen 0 = .ok (.aload_n 0, 1) := by decide +kernel
theorem dX2_hasThen_1 : decode cX2_hasThen 1 = .ok (.iload_n 1, 1) := by decide +kernel
theorem dX2_hasThen_2 : decode cX2_hasThen 2 = .ok (.iload_n 2, 1) := by decide +kernel
theorem dX2_hasThen_3 : decode cX2_hasThen 3 = .ok (.bipush 60, 2) := by decide +kernel
theorem dX2_hasThen_5 : decode cX2_hasThen 5 = .ok (.invokevirtual 126, 3) := by decide +kernel
theorem dX2_hasThen_8 : decode cX2_hasThen 8 = .ok (.istore_n 3, 1) := by decide +kernel
theorem dX2_hasThen_9 : decode cX2_hasThen 9 = .ok (.iload_n 3, 1) := by decide +kernel
theorem dX2_hasThen_10 : decode cX2_hasThen 10 = .ok (.ifCond .eq 9, 3) := by decide +kernel
theorem dX2_hasThen_13 : decode cX2_hasThen 13 = .ok (.aload_n 0, 1) := by decide +kernel
theorem dX2_hasThen_14 : decode cX2_hasThen 14 = .ok (.iload_n 3, 1) := by decide +kernel
theorem dX2_hasThen_15 : decode cX2_hasThen 15 = .ok (.invokevirtual 52, 3) := by decide +kernel
theorem dX2_hasThen_18 : decode cX2_hasThen 18 = .ok (.ireturn, 1) := by decide +kernel
theorem dX2_hasThen_19 : decode cX2_hasThen 19 = .ok (.aload_n 0, 1) := by decide +kernel
theorem dX2_hasThen_20 : decode cX2_hasThen 20 = .ok (.iload_n 2, 1) := by decide +kernel
theorem dX2_hasThen_21 : decode cX2_hasThen 21 = .ok (.invokevirtual 142, 3) := by decide +kernel
theorem dX2_hasThen_24 : decode cX2_hasThen 24 = .ok (.getfield 93, 3) := by decide +kernel
theorem dX2_hasThen_27 : decode cX2_hasThen 27 = .ok (.iload_n 1, 1) := by decide +kernel
theorem dX2_hasThen_28 : decode cX2_hasThen 28 = .ok (.iaload, 1) := by decide +kernel
theorem dX2_hasThen_29 : decode cX2_hasThen 29 = .ok (.ireturn, 1) := by decide +kernel
theorem dX2_then_0 : decode cX2_then 0 = .ok (.iload_n 1, 1) := by decide +kernel
theorem dX2_then_1 : decode cX2_then 1 = .ok (.iconst 0, 1) := by decide +kernel
theorem dX2_then_2 : decode cX2_then 2 = .ok (.bipush 60, 2) := by decide +kernel
theorem dX2_then_4 : decode cX2_then 4 = .ok (.invokestatic 44, 3) := by decide +kernel
theorem dX2_then_7 : decode cX2_then 7 = .ok (.istore_n 3, 1) := by decide +kernel
theorem dX2_then_8 : decode cX2_then 8 = .ok (.iload_n 3, 1) := by decide +kernel
theorem dX2_then_9 : decode cX2_then 9 = .ok (.ifCond .ne 9, 3) := by decide +kernel
theorem dX2_then_12 : decode cX2_then 12 = .ok (.iload_n 2, 1) := by decide +kernel
theorem dX2_then_13 : decode cX2_then 13 = .ok (.iconst 3, 1) := by decide +kernel
theorem dX2_then_14 : decode cX2_then 14 = .ok (.invokestatic 146, 3) := by decide +kernel
theorem dX2_then_17 : decode cX2_then 17 = .ok (.istore_n 3, 1) := by decide +kernel
theorem dX2_then_18 : decode cX2_then 18 = .ok (.iload_n 3, 1) := by decide +kernel
theorem dX2_then_19 : decode cX2_then 19 = .ok (.ifCond .eq 9, 3) := by decide +kernel
theorem dX2_then_22 : decode cX2_then 22 = .ok (.aload_n 0, 1) := by decide +kernel
theorem dX2_then_23 : decode cX2_then 23 = .ok (.iload_n 3, 1) := by decide +kernel
theorem dX2_then_24 : decode cX2_then 24 = .ok (.invokevirtual 52, 3) := by decide +kernel
theorem dX2_then_27 : decode cX2_then 27 = .ok (.ireturn, 1) := by decide +kernel
theorem dX2_then_28 : decode cX2_then 28 = .ok (.aload_n 0, 1) := by decide +kernel
theorem dX2_then_29 : decode cX2_then 29 = .ok (.iload_n 1, 1) := by decide +kernel
theorem dX2_then_30 : decode cX2_then 30 = .ok (.invokevirtual 142, 3) := by decide +kernel
theorem dX2_then_33 : decode cX2_then 33 = .ok (.astore 4, 2) := by decide +kernel
theorem dX2_then_35 : decode cX2_then 35 = .ok (.iload_n 2, 1) := by decide +kernel
theorem dX2_then_36 : decode cX2_then 36 = .ok (.tableswitch 46 0 2 #[28, 34, 40], 28) := by decide +kernel
theorem dX2_then_64 : decode cX2_then 64 = .ok (.aload 4, 2) := by decide +kernel
theorem dX2_then_66 : decode cX2_then 66 = .ok (.getfield 129, 3) := by decide +kernel
theorem dX2_then_69 : decode cX2_then 69 = .ok (.ireturn, 1) := by decide +kernel
theorem dX2_then_70 : decode cX2_then 70 = .ok (.aload 4, 2) := by decide +kernel
theorem dX2_then_72 : decode cX2_then 72 = .ok (.getfield 114, 3) := by decide +kernel
theorem dX2_then_75 : decode cX2_then 75 = .ok (.ireturn, 1) := by decide +kernel
theorem dX2_then_76 : decode cX2_then 76 = .ok (.aload 4, 2) := by decide +kernel
theorem dX2_then_78 : decode cX2_then 78 = .ok (.getfield 150, 3) := by decide +kernel
theorem dX2_then_81 : decode cX2_then 81 = .ok (.ireturn, 1) := by decide +kernel
theorem dX2_then_82 : decode cX2_then 82 = .ok (.aload 4, 2) := by decide +kernel
theorem dX2_then_84 : decode cX2_then 84 = .ok (.invokevirtual 153, 3) := by decide +kernel
theorem dX2_then_87 : decode cX2_then 87 = .ok (.ireturn, 1) := by decide +kernel
theorem dX2_dry_0 : decode cX2_dry 0 = .ok (.iload_n 1, 1) := by decide +kernel
theorem dX2_dry_1 : decode cX2_dry 1 = .ok (.iconst (-1), 1) := by decide +kernel
theorem dX2_dry_2 : decode cX2_dry 2 = .ok (.if_icmp .ne 8, 3) := by decide +kernel
theorem dX2_dry_5 : decode cX2_dry 5 = .ok (.aload_n 0, 1) := by decide +kernel
theorem dX2_dry_6 : decode cX2_dry 6 = .ok (.invokevirtual 156, 3) := by decide +kernel
theorem dX2_dry_9 : decode cX2_dry 9 = .ok (.ireturn, 1) := by decide +kernel
theorem dX2_dry_10 : decode cX2_dry 10 = .ok (.aload_n 0, 1) := by decide +kernel
theorem dX2_dry_11 : decode cX2_dry 11 = .ok (.getfield 10, 3) := by decide +kernel
theorem dX2_dry_14 : decode cX2_dry 14 = .ok (.iload_n 1, 1) := by decide +kernel
theorem dX2_dry_15 : decode cX2_dry 15 = .ok (.invokevirtual 81, 3) := by decide +kernel
theorem dX2_dry_18 : decode cX2_dry 18 = .ok (.ifCond .ne 9, 3) := by decide +kernel
theorem dX2_dry_21 : decode cX2_dry 21 = .ok (.aload_n 0, 1) := by decide +kernel
theorem dX2_dry_22 : decode cX2_dry 22 = .ok (.iconst (-1), 1) := by decide +kernel
theorem dX2_dry_23 : decode cX2_dry 23 = .ok (.invokevirtual 52, 3) := by decide +kernel
theorem dX2_dry_26 : decode cX2_dry 26 = .ok (.ireturn, 1) := by decide +kernel
theorem dX2_dry_27 : decode cX2_dry 27 = .ok (.aload_n 0, 1) := by decide +kernel
theorem dX2_dry_28 : decode cX2_dry 28 = .ok (.invokevirtual 63, 3) := by decide +kernel
theorem dX2_dry_31 : decode cX2_dry 31 = .ok (.astore_n 2, 1) := by decide +kernel
theorem dX2_dry_32 : decode cX2_dry 32 = .ok (.iconst 0, 1) := by decide +kernel
theorem dX2_dry_33 : decode cX2_dry 33 = .ok (.istore_n 3, 1) := by decide +kernel
theorem dX2_dry_34 : decode cX2_dry 34 = .ok (.iload_n 3, 1) := by decide +kernel
theorem dX2_dry_35 : decode cX2_dry 35 = .ok (.bipush 60, 2) := by decide +kernel
theorem dX2_dry_37 : decode cX2_dry 37 = .ok (.if_icmp .gt 25, 3) := by decide +kernel
theorem dX2_dry_40 : decode cX2_dry 40 = .ok (.aload_n 2, 1) := by decide +kernel
theorem dX2_dry_41 : decode cX2_dry 41 = .ok (.getfield 93, 3) := by decide +kernel
theorem dX2_dry_44 : decode cX2_dry 44 = .ok (.iload_n 1, 1) := by decide +kernel
theorem dX2_dry_45 : decode cX2_dry 45 = .ok (.iaload, 1) := by decide +kernel
theorem dX2_dry_46 : decode cX2_dry 46 = .ok (.ifCond .ne 5, 3) := by decide +kernel
theorem dX2_dry_49 : decode cX2_dry 49 = .ok (.iload_n 3, 1) := by decide +kernel
theorem dX2_dry_50 : decode cX2_dry 50 = .ok (.ireturn, 1) := by decide +kernel
theorem dX2_dry_51 : decode cX2_dry 51 = .ok (.aload_n 2, 1) := by decide +kernel
theorem dX2_dry_52 : decode cX2_dry 52 = .ok (.iconst 0, 1) := by decide +kernel
theorem dX2_dry_53 : decode cX2_dry 53 = .ok (.invokevirtual 159, 3) := by decide +kernel
theorem dX2_dry_56 : decode cX2_dry 56 = .ok (.iinc 3 1, 3) := by decide +kernel
theorem dX2_dry_59 : decode cX2_dry 59 = .ok (.goto (-25), 3) := by decide +kernel
theorem dX2_dry_62 : decode cX2_dry 62 = .ok (.bipush (-9), 2) := by decide +kernel
theorem dX2_dry_64 : decode cX2_dry 64 = .ok (.ireturn, 1) := by decide +kernel
theorem dX2_empty_0 : decode cX2_empty 0 = .ok (.aload_n 0, 1) := by decide +kernel
theorem dX2_empty_1 : decode cX2_empty 1 = .ok (.invokevirtual 63, 3) := by decide +kernel
theorem dX2_empty_4 : decode cX2_empty 4 = .ok (.astore_n 1, 1) := by decide +kernel
theorem dX2_empty_5 : decode cX2_empty 5 = .ok (.iconst 0, 1) := by decide +kernel
theorem dX2_empty_6 : decode cX2_empty 6 = .ok (.istore_n 2, 1) := by decide +kernel
theorem dX2_empty_7 : decode cX2_empty 7 = .ok (.iload_n 2, 1) := by decide +kernel
theorem dX2_empty_8 : decode cX2_empty 8 = .ok (.bipush 60, 2) := by decide +kernel
theorem dX2_empty_10 : decode cX2_empty 10 = .ok (.if_icmp .gt 23, 3) := by decide +kernel
theorem dX2_empty_13 : decode cX2_empty 13 = .ok (.aload_n 1, 1) := by decide +kernel
theorem dX2_empty_14 : decode cX2_empty 14 = .ok (.getfield 129, 3) := by decide +kernel
theorem dX2_empty_17 : decode cX2_empty 17 = .ok (.ifCond .ne 5, 3) := by decide +kernel
theorem dX2_empty_20 : decode cX2_empty 20 = .ok (.iload_n 2, 1) := by decide +kernel
theorem dX2_empty_21 : decode cX2_empty 21 = .ok (.ireturn, 1) := by decide +kernel
theorem dX2_empty_22 : decode cX2_empty 22 = .ok (.aload_n 1, 1) := by decide +kernel
theorem dX2_empty_23 : decode cX2_empty 23 = .ok (.iconst 0, 1) := by decide +kernel
theorem dX2_empty_24 : decode cX2_empty 24 = .ok (.invokevirtual 159, 3) := by decide +kernel
theorem dX2_empty_27 : decode cX2_empty 27 = .ok (.iinc 2 1, 3) := by decide +kernel
theorem dX2_empty_30 : decode cX2_empty 30 = .ok (.goto (-23), 3) := by decide +kernel
theorem dX2_empty_33 : decode cX2_empty 33 = .ok (.bipush (-9), 2) := by decide +kernel
theorem dX2_empty_35 : decode cX2_empty 35 = .ok (.ireturn, 1) := by decide +kernel
theorem dX2_flowBest_0 : decode cX2_flowBest 0 = .ok (.iload_n 1, 1) := by decide +kernel
theorem dX2_flowBest_1 : decode cX2_flowBest 1 = .ok (.iconst 0, 1) := by decide +kernel
theorem dX2_flowBest_2 : decode cX2_flowBest 2 = .ok (.bipush 48, 2) := by decide +kernel
theorem dX2_flowBest_4 : decode cX2_flowBest 4 = .ok (.invokestatic 44, 3) := by decide +kernel
theorem dX2_flowBest_7 : decode cX2_flowBest 7 = .ok (.istore_n 2, 1) := by decide +kernel
theorem dX2_flowBest_8 : decode cX2_flowBest 8 = .ok (.iload_n 2, 1) := by decide +kernel
theorem dX2_flowBest_9 : decode cX2_flowBest 9 = .ok (.ifCond .eq 9, 3) := by decide +kernel
theorem dX2_flowBest_12 : decode cX2_flowBest 12 = .ok (.aload_n 0, 1) := by decide +kernel
theorem dX2_flowBest_13 : decode cX2_flowBest 13 = .ok (.iload_n 2, 1) := by decide +kernel
theorem dX2_flowBest_14 : decode cX2_flowBest 14 = .ok (.invokevirtual 52, 3) := by decide +kernel
theorem dX2_flowBest_17 : decode cX2_flowBest 17 = .ok (.ireturn, 1) := by decide +kernel
theorem dX2_flowBest_18 : decode cX2_flowBest 18 = .ok (.iconst 0, 1) := by decide +kernel
theorem dX2_flowBest_19 : decode cX2_flowBest 19 = .ok (.istore_n 3, 1) := by decide +kernel
theorem dX2_flowBest_20 : decode cX2_flowBest 20 = .ok (.iload_n 3, 1) := by decide +kernel
theorem dX2_flowBest_21 : decode cX2_flowBest 21 = .ok (.bipush 30, 2) := by decide +kernel
theorem dX2_flowBest_23 : decode cX2_flowBest 23 = .ok (.if_icmp .gt 39, 3) := by decide +kernel
theorem dX2_flowBest_26 : decode cX2_flowBest 26 = .ok (.aload_n 0, 1) := by decide +kernel
theorem dX2_flowBest_27 : decode cX2_flowBest 27 = .ok (.invokevirtual 63, 3) := by decide +kernel
theorem dX2_flowBest_30 : decode cX2_flowBest 30 = .ok (.astore 4, 2) := by decide +kernel
theorem dX2_flowBest_32 : decode cX2_flowBest 32 = .ok (.aload 4, 2) := by decide +kernel
theorem dX2_flowBest_34 : decode cX2_flowBest 34 = .ok (.iload_n 3, 1) := by decide +kernel
theorem dX2_flowBest_35 : decode cX2_flowBest 35 = .ok (.putfield 132, 3) := by decide +kernel
theorem dX2_flowBest_38 : decode cX2_flowBest 38 = .ok (.aload 4, 2) := by decide +kernel
theorem dX2_flowBest_40 : decode cX2_flowBest 40 = .ok (.aload_n 0, 1) := by decide +kernel
theorem dX2_flowBest_41 : decode cX2_flowBest 41 = .ok (.getfield 10, 3) := by decide +kernel
theorem dX2_flowBest_44 : decode cX2_flowBest 44 = .ok (.invokevirtual 162, 3) := by decide +kernel
theorem dX2_flowBest_47 : decode cX2_flowBest 47 = .ok (.iload_n 1, 1) := by decide +kernel
theorem dX2_flowBest_48 : decode cX2_flowBest 48 = .ok (.invokevirtual 165, 3) := by decide +kernel
theorem dX2_flowBest_51 : decode cX2_flowBest 51 = .ok (.ifCond .eq 5, 3) := by decide +kernel
theorem dX2_flowBest_54 : decode cX2_flowBest 54 = .ok (.iload_n 3, 1) := by decide +kernel
theorem dX2_flowBest_55 : decode cX2_flowBest 55 = .ok (.ireturn, 1) := by decide +kernel
theorem dX2_flowBest_56 : decode cX2_flowBest 56 = .ok (.iinc 3 1, 3) := by decide +kernel
theorem dX2_flowBest_59 : decode cX2_flowBest 59 = .ok (.goto (-39), 3) := by decide +kernel
theorem dX2_flowBest_62 : decode cX2_flowBest 62 = .ok (.bipush (-9), 2) := by decide +kernel
theorem dX2_flowBest_64 : decode cX2_flowBest 64 = .ok (.ireturn, 1) := by decide +kernel
theorem dX2_canBest_0 : decode cX2_canBest 0 = .ok (.aload_n 0, 1) := by decide +kernel
theorem dX2_canBest_1 : decode cX2_canBest 1 = .ok (.iload_n 1, 1) := by decide +kernel
theorem dX2_canBest_2 : decode cX2_canBest 2 = .ok (.iload_n 2, 1) := by decide +kernel
theorem dX2_canBest_3 : decode cX2_canBest 3 = .ok (.bipush 48, 2) := by decide +kernel
theorem dX2_canBest_5 : decode cX2_canBest 5 = .ok (.invokevirtual 126, 3) := by decide +kernel
theorem dX2_canBest_8 : decode cX2_canBest 8 = .ok (.istore_n 3, 1) := by decide +kernel
theorem dX2_canBest_9 : decode cX2_canBest 9 = .ok (.iload_n 3, 1) := by decide +kernel
theorem dX2_canBest_10 : decode cX2_canBest 10 = .ok (.ifCond .eq 9, 3) := by decide +kernel
theorem dX2_canBest_13 : decode cX2_canBest 13 = .ok (.aload_n 0, 1) := by decide +kernel
theorem dX2_canBest_14 : decode cX2_canBest 14 = .ok (.iload_n 3, 1) := by decide +kernel
theorem dX2_canBest_15 : decode cX2_canBest 15 = .ok (.invokevirtual 52, 3) := by decide +kernel
theorem dX2_canBest_18 : decode cX2_canBest 18 = .ok (.ireturn, 1) := by decide +kernel
theorem dX2_canBest_19 : decode cX2_canBest 19 = .ok (.iconst 0, 1) := by decide +kernel
theorem dX2_canBest_20 : decode cX2_canBest 20 = .ok (.istore 4, 2) := by decide +kernel
theorem dX2_canBest_22 : decode cX2_canBest 22 = .ok (.iload 4, 2) := by decide +kernel
theorem dX2_canBest_24 : decode cX2_canBest 24 = .ok (.bipush 9, 2) := by decide +kernel
theorem dX2_canBest_26 : decode cX2_canBest 26 = .ok (.if_icmp .gt 39, 3) := by decide +kernel
theorem dX2_canBest_29 : decode cX2_canBest 29 = .ok (.aload_n 0, 1) := by decide +kernel
theorem dX2_canBest_30 : decode cX2_canBest 30 = .ok (.invokevirtual 63, 3) := by decide +kernel
theorem dX2_canBest_33 : decode cX2_canBest 33 = .ok (.astore 5, 2) := by decide +kernel
theorem dX2_canBest_35 : decode cX2_canBest 35 = .ok (.aload 5, 2) := by decide +kernel
theorem dX2_canBest_37 : decode cX2_canBest 37 = .ok (.getfield 90, 3) := by decide +kernel
theorem dX2_canBest_40 : decode cX2_canBest 40 = .ok (.iload_n 1, 1) := by decide +kernel
theorem dX2_canBest_41 : decode cX2_canBest 41 = .ok (.iload 4, 2) := by decide +kernel
theorem dX2_canBest_43 : decode cX2_canBest 43 = .ok (.iastore, 1) := by decide +kernel
theorem dX2_canBest_44 : decode cX2_canBest 44 = .ok (.aload 5, 2) := by decide +kernel
theorem dX2_canBest_46 : decode cX2_canBest 46 = .ok (.iconst 1, 1) := by decide +kernel
theorem dX2_canBest_47 : decode cX2_canBest 47 = .ok (.iload_n 1, 1) := by decide +kernel
theorem dX2_canBest_48 : decode cX2_canBest 48 = .ok (.ishl, 1) := by decide +kernel
theorem dX2_canBest_49 : decode cX2_canBest 49 = .ok (.iload_n 2, 1) := by decide +kernel
theorem dX2_canBest_50 : decode cX2_canBest 50 = .ok (.invokevirtual 165, 3) := by decide +kernel
theorem dX2_canBest_53 : decode cX2_canBest 53 = .ok (.ifCond .eq 6, 3) := by decide +kernel
theorem dX2_canBest_56 : decode cX2_canBest 56 = .ok (.iload 4, 2) := by decide +kernel
theorem dX2_canBest_58 : decode cX2_canBest 58 = .ok (.ireturn, 1) := by decide +kernel
theorem dX2_canBest_59 : decode cX2_canBest 59 = .ok (.iinc 4 1, 3) := by decide +kernel
theorem dX2_canBest_62 : decode cX2_canBest 62 = .ok (.goto (-40), 3) := by decide +kernel
theorem dX2_canBest_65 : decode cX2_canBest 65 = .ok (.bipush (-9), 2) := by decide +kernel
theorem dX2_canBest_67 : decode cX2_canBest 67 = .ok (.ireturn, 1) := by decide +kernel
theorem dX2_friendBest_0 : decode cX2_friendBest 0 = .ok (.aload_n 0, 1) := by decide +kernel
theorem dX2_friendBest_1 : decode cX2_friendBest 1 = .ok (.iload_n 1, 1) := by decide +kernel
theorem dX2_friendBest_2 : decode cX2_friendBest 2 = .ok (.iload_n 2, 1) := by decide +kernel
theorem dX2_friendBest_3 : decode cX2_friendBest 3 = .ok (.bipush 48, 2) := by decide +kernel
theorem dX2_friendBest_5 : decode cX2_friendBest 5 = .ok (.invokevirtual 126, 3) := by decide +kernel
theorem dX2_friendBest_8 : decode cX2_friendBest 8 = .ok (.istore_n 3, 1) := by decide +kernel
theorem dX2_friendBest_9 : decode cX2_friendBest 9 = .ok (.iload_n 3, 1) := by decide +kernel
theorem dX2_friendBest_10 : decode cX2_friendBest 10 = .ok (.ifCond .eq 9, 3) := by decide +kernel
theorem dX2_friendBest_13 : decode cX2_friendBest 13 = .ok (.aload_n 0, 1) := by decide +kernel
theorem dX2_friendBest_14 : decode cX2_friendBest 14 = .ok (.iload_n 3, 1) := by decide +kernel
theorem dX2_friendBest_15 : decode cX2_friendBest 15 = .ok (.invokevirtual 52, 3) := by decide +kernel
theorem dX2_friendBest_18 : decode cX2_friendBest 18 = .ok (.ireturn, 1) := by decide +kernel
theorem dX2_friendBest_19 : decode cX2_friendBest 19 = .ok (.bipush (-9), 2) := by decide +kernel
theorem dX2_friendBest_21 : decode cX2_friendBest 21 = .ok (.istore 4, 2) := by decide +kernel
theorem dX2_friendBest_23 : decode cX2_friendBest 23 = .ok (.aload_n 0, 1) := by decide +kernel
theorem dX2_friendBest_24 : decode cX2_friendBest 24 = .ok (.iload_n 2, 1) := by decide +kernel
theorem dX2_friendBest_25 : decode cX2_friendBest 25 = .ok (.invokevirtual 142, 3) := by decide +kernel
theorem dX2_friendBest_28 : decode cX2_friendBest 28 = .ok (.invokevirtual 168, 3) := by decide +kernel
theorem dX2_friendBest_31 : decode cX2_friendBest 31 = .ok (.istore 5, 2) := by decide +kernel
theorem dX2_friendBest_33 : decode cX2_friendBest 33 = .ok (.iconst 0, 1) := by decide +kernel
theorem dX2_friendBest_34 : decode cX2_friendBest 34 = .ok (.istore 6, 2) := by decide +kernel
theorem dX2_friendBest_36 : decode cX2_friendBest 36 = .ok (.iload 6, 2) := by decide +kernel
theorem dX2_friendBest_38 : decode cX2_friendBest 38 = .ok (.aload_n 0, 1) := by decide +kernel
theorem dX2_friendBest_39 : decode cX2_friendBest 39 = .ok (.getfield 10, 3) := by decide +kernel
theorem dX2_friendBest_42 : decode cX2_friendBest 42 = .ok (.getfield 171, 3) := by decide +kernel
theorem dX2_friendBest_45 : decode cX2_friendBest 45 = .ok (.if_icmp .ge 60, 3) := by decide +kernel
theorem dX2_friendBest_48 : decode cX2_friendBest 48 = .ok (.iload 6, 2) := by decide +kernel
theorem dX2_friendBest_50 : decode cX2_friendBest 50 = .ok (.iload_n 1, 1) := by decide +kernel
theorem dX2_friendBest_51 : decode cX2_friendBest 51 = .ok (.if_icmp .ne 6, 3) := by decide +kernel
theorem dX2_friendBest_54 : decode cX2_friendBest 54 = .ok (.goto 45, 3) := by decide +kernel
theorem dX2_friendBest_57 : decode cX2_friendBest 57 = .ok (.aload_n 0, 1) := by decide +kernel
theorem dX2_friendBest_58 : decode cX2_friendBest 58 = .ok (.invokevirtual 63, 3) := by decide +kernel
theorem dX2_friendBest_61 : decode cX2_friendBest 61 = .ok (.astore 7, 2) := by decide +kernel
theorem dX2_friendBest_63 : decode cX2_friendBest 63 = .ok (.aload 7, 2) := by decide +kernel
theorem dX2_friendBest_65 : decode cX2_friendBest 65 = .ok (.getfield 102, 3) := by decide +kernel
theorem dX2_friendBest_68 : decode cX2_friendBest 68 = .ok (.iload_n 1, 1) := by decide +kernel
theorem dX2_friendBest_69 : decode cX2_friendBest 69 = .ok (.iload 6, 2) := by decide +kernel
theorem dX2_friendBest_71 : decode cX2_friendBest 71 = .ok (.iastore, 1) := by decide +kernel
theorem dX2_friendBest_72 : decode cX2_friendBest 72 = .ok (.aload 7, 2) := by decide +kernel
theorem dX2_friendBest_74 : decode cX2_friendBest 74 = .ok (.iload_n 2, 1) := by decide +kernel
theorem dX2_friendBest_75 : decode cX2_friendBest 75 = .ok (.invokevirtual 138, 3) := by decide +kernel
theorem dX2_friendBest_78 : decode cX2_friendBest 78 = .ok (.aload 7, 2) := by decide +kernel
theorem dX2_friendBest_80 : decode cX2_friendBest 80 = .ok (.invokevirtual 168, 3) := by decide +kernel
theorem dX2_friendBest_83 : decode cX2_friendBest 83 = .ok (.iload 5, 2) := by decide +kernel
theorem dX2_friendBest_85 : decode cX2_friendBest 85 = .ok (.if_icmp .le 14, 3) := by decide +kernel
theorem dX2_friendBest_88 : decode cX2_friendBest 88 = .ok (.aload 7, 2) := by decide +kernel
theorem dX2_friendBest_90 : decode cX2_friendBest 90 = .ok (.invokevirtual 168, 3) := by decide +kernel
theorem dX2_friendBest_93 : decode cX2_friendBest 93 = .ok (.istore 5, 2) := by decide +kernel
theorem dX2_friendBest_95 : decode cX2_friendBest 95 = .ok (.iload 6, 2) := by decide +kernel
theorem dX2_friendBest_97 : decode cX2_friendBest 97 = .ok (.istore 4, 2) := by decide +kernel
theorem dX2_friendBest_99 : decode cX2_friendBest 99 = .ok (.iinc 6 1, 3) := by decide +kernel
theorem dX2_friendBest_102 : decode cX2_friendBest 102 = .ok (.goto (-66), 3) := by decide +kernel
theorem dX2_friendBest_105 : decode cX2_friendBest 105 = .ok (.iload 4, 2) := by decide +kernel
theorem dX2_friendBest_107 : decode cX2_friendBest 107 = .ok (.ireturn, 1) := by decide +kernel
theorem dX2_hush_0 : decode cX2_hush 0 = .ok (.iload_n 1, 1) := by decide +kernel
theorem dX2_hush_1 : decode cX2_hush 1 = .ok (.iconst 0, 1) := by decide +kernel
theorem dX2_hush_2 : decode cX2_hush 2 = .ok (.bipush 48, 2) := by decide +kernel
theorem dX2_hush_4 : decode cX2_hush 4 = .ok (.invokestatic 44, 3) := by decide +kernel
theorem dX2_hush_7 : decode cX2_hush 7 = .ok (.istore_n 2, 1) := by decide +kernel
theorem dX2_hush_8 : decode cX2_hush 8 = .ok (.iload_n 2, 1) := by decide +kernel
theorem dX2_hush_9 : decode cX2_hush 9 = .ok (.ifCond .eq 9, 3) := by decide +kernel
theorem dX2_hush_12 : decode cX2_hush 12 = .ok (.aload_n 0, 1) := by decide +kernel
theorem dX2_hush_13 : decode cX2_hush 13 = .ok (.iload_n 2, 1) := by decide +kernel
theorem dX2_hush_14 : decode cX2_hush 14 = .ok (.invokevirtual 52, 3) := by decide +kernel
theorem dX2_hush_17 : decode cX2_hush 17 = .ok (.ireturn, 1) := by decide +kernel
theorem dX2_hush_18 : decode cX2_hush 18 = .ok (.bipush (-9), 2) := by decide +kernel
theorem dX2_hush_20 : decode cX2_hush 20 = .ok (.istore_n 3, 1) := by decide +kernel
theorem dX2_hush_21 : decode cX2_hush 21 = .ok (.aload_n 0, 1) := by decide +kernel
theorem dX2_hush_22 : decode cX2_hush 22 = .ok (.iload_n 1, 1) := by decide +kernel
theorem dX2_hush_23 : decode cX2_hush 23 = .ok (.invokevirtual 142, 3) := by decide +kernel
theorem dX2_hush_26 : decode cX2_hush 26 = .ok (.invokevirtual 153, 3) := by decide +kernel
theorem dX2_hush_29 : decode cX2_hush 29 = .ok (.istore 4, 2) := by decide +kernel
theorem dX2_hush_31 : decode cX2_hush 31 = .ok (.iconst 0, 1) := by decide +kernel
theorem dX2_hush_32 : decode cX2_hush 32 = .ok (.istore 5, 2) := by decide +kernel
theorem dX2_hush_34 : decode cX2_hush 34 = .ok (.iload 5, 2) := by decide +kernel
theorem dX2_hush_36 : decode cX2_hush 36 = .ok (.aload_n 0, 1) := by decide +kernel
theorem dX2_hush_37 : decode cX2_hush 37 = .ok (.getfield 10, 3) := by decide +kernel
theorem dX2_hush_40 : decode cX2_hush 40 = .ok (.getfield 171, 3) := by decide +kernel
theorem dX2_hush_43 : decode cX2_hush 43 = .ok (.if_icmp .ge 50, 3) := by decide +kernel
theorem dX2_hush_46 : decode cX2_hush 46 = .ok (.aload_n 0, 1) := by decide +kernel
theorem dX2_hush_47 : decode cX2_hush 47 = .ok (.invokevirtual 63, 3) := by decide +kernel
theorem dX2_hush_50 : decode cX2_hush 50 = .ok (.astore 6, 2) := by decide +kernel
theorem dX2_hush_52 : decode cX2_hush 52 = .ok (.aload 6, 2) := by decide +kernel
theorem dX2_hush_54 : decode cX2_hush 54 = .ok (.iconst 1, 1) := by decide +kernel
theorem dX2_hush_55 : decode cX2_hush 55 = .ok (.iload 5, 2) := by decide +kernel
theorem dX2_hush_57 : decode cX2_hush 57 = .ok (.ishl, 1) := by decide +kernel
theorem dX2_hush_58 : decode cX2_hush 58 = .ok (.putfield 172, 3) := by decide +kernel
theorem dX2_hush_61 : decode cX2_hush 61 = .ok (.aload 6, 2) := by decide +kernel
theorem dX2_hush_63 : decode cX2_hush 63 = .ok (.iload_n 1, 1) := by decide +kernel
theorem dX2_hush_64 : decode cX2_hush 64 = .ok (.invokevirtual 138, 3) := by decide +kernel
theorem dX2_hush_67 : decode cX2_hush 67 = .ok (.aload 6, 2) := by decide +kernel
theorem dX2_hush_69 : decode cX2_hush 69 = .ok (.invokevirtual 153, 3) := by decide +kernel
theorem dX2_hush_72 : decode cX2_hush 72 = .ok (.iload 4, 2) := by decide +kernel
theorem dX2_hush_74 : decode cX2_hush 74 = .ok (.if_icmp .le 13, 3) := by decide +kernel
theorem dX2_hush_77 : decode cX2_hush 77 = .ok (.aload 6, 2) := by decide +kernel
theorem dX2_hush_79 : decode cX2_hush 79 = .ok (.invokevirtual 153, 3) := by decide +kernel
theorem dX2_hush_82 : decode cX2_hush 82 = .ok (.istore 4, 2) := by decide +kernel
theorem dX2_hush_84 : decode cX2_hush 84 = .ok (.iload 5, 2) := by decide +kernel
theorem dX2_hush_86 : decode cX2_hush 86 = .ok (.istore_n 3, 1) := by decide +kernel
theorem dX2_hush_87 : decode cX2_hush 87 = .ok (.iinc 5 1, 3) := by decide +kernel
theorem dX2_hush_90 : decode cX2_hush 90 = .ok (.goto (-56), 3) := by decide +kernel
theorem dX2_hush_93 : decode cX2_hush 93 = .ok (.iload_n 3, 1) := by decide +kernel
theorem dX2_hush_94 : decode cX2_hush 94 = .ok (.ireturn, 1) := by decide +kernel
theorem dX2_fewest_0 : decode cX2_fewest 0 = .ok (.iload_n 1, 1) := by decide +kernel
theorem dX2_fewest_1 : decode cX2_fewest 1 = .ok (.iconst 0, 1) := by decide +kernel
theorem dX2_fewest_2 : decode cX2_fewest 2 = .ok (.bipush 24, 2) := by decide +kernel
theorem dX2_fewest_4 : decode cX2_fewest 4 = .ok (.invokestatic 44, 3) := by decide +kernel
theorem dX2_fewest_7 : decode cX2_fewest 7 = .ok (.istore_n 2, 1) := by decide +kernel
theorem dX2_fewest_8 : decode cX2_fewest 8 = .ok (.iload_n 2, 1) := by decide +kernel
theorem dX2_fewest_9 : decode cX2_fewest 9 = .ok (.ifCond .eq 9, 3) := by decide +kernel
theorem dX2_fewest_12 : decode cX2_fewest 12 = .ok (.aload_n 0, 1) := by decide +kernel
theorem dX2_fewest_13 : decode cX2_fewest 13 = .ok (.iload_n 2, 1) := by decide +kernel
theorem dX2_fewest_14 : decode cX2_fewest 14 = .ok (.invokevirtual 52, 3) := by decide +kernel
theorem dX2_fewest_17 : decode cX2_fewest 17 = .ok (.ireturn, 1) := by decide +kernel
theorem dX2_fewest_18 : decode cX2_fewest 18 = .ok (.bipush (-9), 2) := by decide +kernel
theorem dX2_fewest_20 : decode cX2_fewest 20 = .ok (.istore_n 3, 1) := by decide +kernel
theorem dX2_fewest_21 : decode cX2_fewest 21 = .ok (.bipush 7, 2) := by decide +kernel
theorem dX2_fewest_23 : decode cX2_fewest 23 = .ok (.istore 4, 2) := by decide +kernel
theorem dX2_fewest_25 : decode cX2_fewest 25 = .ok (.iconst 0, 1) := by decide +kernel
theorem dX2_fewest_26 : decode cX2_fewest 26 = .ok (.istore 5, 2) := by decide +kernel
theorem dX2_fewest_28 : decode cX2_fewest 28 = .ok (.iload 5, 2) := by decide +kernel
theorem dX2_fewest_30 : decode cX2_fewest 30 = .ok (.aload_n 0, 1) := by decide +kernel
theorem dX2_fewest_31 : decode cX2_fewest 31 = .ok (.getfield 10, 3) := by decide +kernel
theorem dX2_fewest_34 : decode cX2_fewest 34 = .ok (.invokevirtual 162, 3) := by decide +kernel
theorem dX2_fewest_37 : decode cX2_fewest 37 = .ok (.if_icmp .gt 39, 3) := by decide +kernel
theorem dX2_fewest_40 : decode cX2_fewest 40 = .ok (.iload 5, 2) := by decide +kernel
theorem dX2_fewest_42 : decode cX2_fewest 42 = .ok (.invokestatic 117, 3) := by decide +kernel
theorem dX2_fewest_45 : decode cX2_fewest 45 = .ok (.iload 4, 2) := by decide +kernel
theorem dX2_fewest_47 : decode cX2_fewest 47 = .ok (.if_icmp .ge 23, 3) := by decide +kernel
theorem dX2_fewest_50 : decode cX2_fewest 50 = .ok (.aload_n 0, 1) := by decide +kernel
theorem dX2_fewest_51 : decode cX2_fewest 51 = .ok (.iload 5, 2) := by decide +kernel
theorem dX2_fewest_53 : decode cX2_fewest 53 = .ok (.iload_n 1, 1) := by decide +kernel
theorem dX2_fewest_54 : decode cX2_fewest 54 = .ok (.invokevirtual 175, 3) := by decide +kernel
theorem dX2_fewest_57 : decode cX2_fewest 57 = .ok (.ifCond .eq 13, 3) := by decide +kernel
theorem dX2_fewest_60 : decode cX2_fewest 60 = .ok (.iload 5, 2) := by decide +kernel
theorem dX2_fewest_62 : decode cX2_fewest 62 = .ok (.invokestatic 117, 3) := by decide +kernel
theorem dX2_fewest_65 : decode cX2_fewest 65 = .ok (.istore 4, 2) := by decide +kernel
theorem dX2_fewest_67 : decode cX2_fewest 67 = .ok (.iload 5, 2) := by decide +kernel
theorem dX2_fewest_69 : decode cX2_fewest 69 = .ok (.istore_n 3, 1) := by decide +kernel
theorem dX2_fewest_70 : decode cX2_fewest 70 = .ok (.iinc 5 1, 3) := by decide +kernel
theorem dX2_fewest_73 : decode cX2_fewest 73 = .ok (.goto (-45), 3) := by decide +kernel
theorem dX2_fewest_76 : decode cX2_fewest 76 = .ok (.iload_n 3, 1) := by decide +kernel
theorem dX2_fewest_77 : decode cX2_fewest 77 = .ok (.ireturn, 1) := by decide +kernel
theorem dX2_word_0 : decode cX2_word 0 = .ok (.iload_n 1, 1) := by decide +kernel
theorem dX2_word_1 : decode cX2_word 1 = .ok (.iconst 1, 1) := by decide +kernel
theorem dX2_word_2 : decode cX2_word 2 = .ok (.bipush 24, 2) := by decide +kernel
theorem dX2_word_4 : decode cX2_word 4 = .ok (.invokestatic 44, 3) := by decide +kernel
theorem dX2_word_7 : decode cX2_word 7 = .ok (.istore_n 2, 1) := by decide +kernel
theorem dX2_word_8 : decode cX2_word 8 = .ok (.iload_n 2, 1) := by decide +kernel
theorem dX2_word_9 : decode cX2_word 9 = .ok (.ifCond .eq 9, 3) := by decide +kernel
theorem dX2_word_12 : decode cX2_word 12 = .ok (.aload_n 0, 1) := by decide +kernel
theorem dX2_word_13 : decode cX2_word 13 = .ok (.iload_n 2, 1) := by decide +kernel
theorem dX2_word_14 : decode cX2_word 14 = .ok (.invokevirtual 52, 3) := by decide +kernel
theorem dX2_word_17 : decode cX2_word 17 = .ok (.ireturn, 1) := by decide +kernel
theorem dX2_word_18 : decode cX2_word 18 = .ok (.bipush (-9), 2) := by decide +kernel
theorem dX2_word_20 : decode cX2_word 20 = .ok (.istore_n 3, 1) := by decide +kernel
theorem dX2_word_21 : decode cX2_word 21 = .ok (.aload_n 0, 1) := by decide +kernel
theorem dX2_word_22 : decode cX2_word 22 = .ok (.iload_n 1, 1) := by decide +kernel
theorem dX2_word_23 : decode cX2_word 23 = .ok (.invokevirtual 142, 3) := by decide +kernel
theorem dX2_word_26 : decode cX2_word 26 = .ok (.invokevirtual 153, 3) := by decide +kernel
theorem dX2_word_29 : decode cX2_word 29 = .ok (.istore 4, 2) := by decide +kernel
theorem dX2_word_31 : decode cX2_word 31 = .ok (.iconst 0, 1) := by decide +kernel
theorem dX2_word_32 : decode cX2_word 32 = .ok (.istore 5, 2) := by decide +kernel
theorem dX2_word_34 : decode cX2_word 34 = .ok (.iload 5, 2) := by decide +kernel
theorem dX2_word_36 : decode cX2_word 36 = .ok (.aload_n 0, 1) := by decide +kernel
theorem dX2_word_37 : decode cX2_word 37 = .ok (.getfield 10, 3) := by decide +kernel
theorem dX2_word_40 : decode cX2_word 40 = .ok (.getfield 171, 3) := by decide +kernel
theorem dX2_word_43 : decode cX2_word 43 = .ok (.if_icmp .ge 49, 3) := by decide +kernel
theorem dX2_word_46 : decode cX2_word 46 = .ok (.aload_n 0, 1) := by decide +kernel
theorem dX2_word_47 : decode cX2_word 47 = .ok (.invokevirtual 63, 3) := by decide +kernel
theorem dX2_word_50 : decode cX2_word 50 = .ok (.astore 6, 2) := by decide +kernel
theorem dX2_word_52 : decode cX2_word 52 = .ok (.aload 6, 2) := by decide +kernel
theorem dX2_word_54 : decode cX2_word 54 = .ok (.iload 5, 2) := by decide +kernel
theorem dX2_word_56 : decode cX2_word 56 = .ok (.invokevirtual 111, 3) := by decide +kernel
theorem dX2_word_59 : decode cX2_word 59 = .ok (.pop, 1) := by decide +kernel
theorem dX2_word_60 : decode cX2_word 60 = .ok (.aload 6, 2) := by decide +kernel
theorem dX2_word_62 : decode cX2_word 62 = .ok (.iload_n 1, 1) := by decide +kernel
theorem dX2_word_63 : decode cX2_word 63 = .ok (.invokevirtual 138, 3) := by decide +kernel
theorem dX2_word_66 : decode cX2_word 66 = .ok (.aload 6, 2) := by decide +kernel
theorem dX2_word_68 : decode cX2_word 68 = .ok (.invokevirtual 153, 3) := by decide +kernel
theorem dX2_word_71 : decode cX2_word 71 = .ok (.iload 4, 2) := by decide +kernel
theorem dX2_word_73 : decode cX2_word 73 = .ok (.if_icmp .ge 13, 3) := by decide +kernel
theorem dX2_word_76 : decode cX2_word 76 = .ok (.aload 6, 2) := by decide +kernel
theorem dX2_word_78 : decode cX2_word 78 = .ok (.invokevirtual 153, 3) := by decide +kernel
theorem dX2_word_81 : decode cX2_word 81 = .ok (.istore 4, 2) := by decide +kernel
theorem dX2_word_83 : decode cX2_word 83 = .ok (.iload 5, 2) := by decide +kernel
theorem dX2_word_85 : decode cX2_word 85 = .ok (.istore_n 3, 1) := by decide +kernel
theorem dX2_word_86 : decode cX2_word 86 = .ok (.iinc 5 1, 3) := by decide +kernel
theorem dX2_word_89 : decode cX2_word 89 = .ok (.goto (-55), 3) := by decide +kernel
theorem dX2_word_92 : decode cX2_word 92 = .ok (.iload_n 3, 1) := by decide +kernel
theorem dX2_word_93 : decode cX2_word 93 = .ok (.ireturn, 1) := by decide +kernel
theorem dX2_send_0 : decode cX2_send 0 = .ok (.iload_n 1, 1) := by decide +kernel
theorem dX2_send_1 : decode cX2_send 1 = .ok (.iconst 0, 1) := by decide +kernel
theorem dX2_send_2 : decode cX2_send 2 = .ok (.bipush 24, 2) := by decide +kernel
theorem dX2_send_4 : decode cX2_send 4 = .ok (.invokestatic 44, 3) := by decide +kernel
theorem dX2_send_7 : decode cX2_send 7 = .ok (.istore_n 3, 1) := by decide +kernel
theorem dX2_send_8 : decode cX2_send 8 = .ok (.iload_n 3, 1) := by decide +kernel
theorem dX2_send_9 : decode cX2_send 9 = .ok (.ifCond .ne 9, 3) := by decide +kernel
theorem dX2_send_12 : decode cX2_send 12 = .ok (.iload_n 2, 1) := by decide +kernel
theorem dX2_send_13 : decode cX2_send 13 = .ok (.iconst 1, 1) := by decide +kernel
theorem dX2_send_14 : decode cX2_send 14 = .ok (.invokestatic 146, 3) := by decide +kernel
theorem dX2_send_17 : decode cX2_send 17 = .ok (.istore_n 3, 1) := by decide +kernel
theorem dX2_send_18 : decode cX2_send 18 = .ok (.iload_n 3, 1) := by decide +kernel
theorem dX2_send_19 : decode cX2_send 19 = .ok (.ifCond .eq 9, 3) := by decide +kernel
theorem dX2_send_22 : decode cX2_send 22 = .ok (.aload_n 0, 1) := by decide +kernel
theorem dX2_send_23 : decode cX2_send 23 = .ok (.iload_n 3, 1) := by decide +kernel
theorem dX2_send_24 : decode cX2_send 24 = .ok (.invokevirtual 52, 3) := by decide +kernel
theorem dX2_send_27 : decode cX2_send 27 = .ok (.ireturn, 1) := by decide +kernel
theorem dX2_send_28 : decode cX2_send 28 = .ok (.bipush (-9), 2) := by decide +kernel
theorem dX2_send_30 : decode cX2_send 30 = .ok (.istore 4, 2) := by decide +kernel
theorem dX2_send_32 : decode cX2_send 32 = .ok (.bipush (-9), 2) := by decide +kernel
theorem dX2_send_34 : decode cX2_send 34 = .ok (.istore 5, 2) := by decide +kernel
theorem dX2_send_36 : decode cX2_send 36 = .ok (.iconst 0, 1) := by decide +kernel
theorem dX2_send_37 : decode cX2_send 37 = .ok (.istore 6, 2) := by decide +kernel
theorem dX2_send_39 : decode cX2_send 39 = .ok (.iload 6, 2) := by decide +kernel
theorem dX2_send_41 : decode cX2_send 41 = .ok (.aload_n 0, 1) := by decide +kernel
theorem dX2_send_42 : decode cX2_send 42 = .ok (.getfield 10, 3) := by decide +kernel
theorem dX2_send_45 : decode cX2_send 45 = .ok (.getfield 171, 3) := by decide +kernel
theorem dX2_send_48 : decode cX2_send 48 = .ok (.if_icmp .ge 33, 3) := by decide +kernel
theorem dX2_send_51 : decode cX2_send 51 = .ok (.aload_n 0, 1) := by decide +kernel
theorem dX2_send_52 : decode cX2_send 52 = .ok (.iload 6, 2) := by decide +kernel
theorem dX2_send_54 : decode cX2_send 54 = .ok (.iload_n 1, 1) := by decide +kernel
theorem dX2_send_55 : decode cX2_send 55 = .ok (.invokevirtual 178, 3) := by decide +kernel
theorem dX2_send_58 : decode cX2_send 58 = .ok (.istore 7, 2) := by decide +kernel
theorem dX2_send_60 : decode cX2_send 60 = .ok (.iload 7, 2) := by decide +kernel
theorem dX2_send_62 : decode cX2_send 62 = .ok (.iload 5, 2) := by decide +kernel
theorem dX2_send_64 : decode cX2_send 64 = .ok (.if_icmp .le 11, 3) := by decide +kernel
theorem dX2_send_67 : decode cX2_send 67 = .ok (.iload 7, 2) := by decide +kernel
theorem dX2_send_69 : decode cX2_send 69 = .ok (.istore 5, 2) := by decide +kernel
theorem dX2_send_71 : decode cX2_send 71 = .ok (.iload 6, 2) := by decide +kernel
theorem dX2_send_73 : decode cX2_send 73 = .ok (.istore 4, 2) := by decide +kernel
theorem dX2_send_75 : decode cX2_send 75 = .ok (.iinc 6 1, 3) := by decide +kernel
theorem dX2_send_78 : decode cX2_send 78 = .ok (.goto (-39), 3) := by decide +kernel
theorem dX2_send_81 : decode cX2_send 81 = .ok (.iload_n 2, 1) := by decide +kernel
theorem dX2_send_82 : decode cX2_send 82 = .ok (.ifCond .ne 8, 3) := by decide +kernel
theorem dX2_send_85 : decode cX2_send 85 = .ok (.iload 4, 2) := by decide +kernel
theorem dX2_send_87 : decode cX2_send 87 = .ok (.goto 5, 3) := by decide +kernel
theorem dX2_send_90 : decode cX2_send 90 = .ok (.iload 5, 2) := by decide +kernel
theorem dX2_send_92 : decode cX2_send 92 = .ok (.ireturn, 1) := by decide +kernel
theorem dX2_next_0 : decode cX2_next 0 = .ok (.aload_n 0, 1) := by decide +kernel
theorem dX2_next_1 : decode cX2_next 1 = .ok (.invokevirtual 63, 3) := by decide +kernel
theorem dX2_next_4 : decode cX2_next 4 = .ok (.invokevirtual 181, 3) := by decide +kernel
theorem dX2_next_7 : decode cX2_next 7 = .ok (.ireturn, 1) := by decide +kernel
theorem dX2_richest_0 : decode cX2_richest 0 = .ok (.iload_n 1, 1) := by decide +kernel
theorem dX2_richest_1 : decode cX2_richest 1 = .ok (.iconst 2, 1) := by decide +kernel
theorem dX2_richest_2 : decode cX2_richest 2 = .ok (.invokestatic 146, 3) := by decide +kernel
theorem dX2_richest_5 : decode cX2_richest 5 = .ok (.istore_n 2, 1) := by decide +kernel
theorem dX2_richest_6 : decode cX2_richest 6 = .ok (.iload_n 2, 1) := by decide +kernel
theorem dX2_richest_7 : decode cX2_richest 7 = .ok (.ifCond .eq 9, 3) := by decide +kernel
theorem dX2_richest_10 : decode cX2_richest 10 = .ok (.aload_n 0, 1) := by decide +kernel
theorem dX2_richest_11 : decode cX2_richest 11 = .ok (.iload_n 2, 1) := by decide +kernel
theorem dX2_richest_12 : decode cX2_richest 12 = .ok (.invokevirtual 52, 3) := by decide +kernel
theorem dX2_richest_15 : decode cX2_richest 15 = .ok (.ireturn, 1) := by decide +kernel
theorem dX2_richest_16 : decode cX2_richest 16 = .ok (.bipush (-9), 2) := by decide +kernel
theorem dX2_richest_18 : decode cX2_richest 18 = .ok (.istore_n 3, 1) := by decide +kernel
theorem dX2_richest_19 : decode cX2_richest 19 = .ok (.iconst 0, 1) := by decide +kernel
theorem dX2_richest_20 : decode cX2_richest 20 = .ok (.istore 4, 2) := by decide +kernel
theorem dX2_richest_22 : decode cX2_richest 22 = .ok (.iload 4, 2) := by decide +kernel
theorem dX2_richest_24 : decode cX2_richest 24 = .ok (.aload_n 0, 1) := by decide +kernel
theorem dX2_richest_25 : decode cX2_richest 25 = .ok (.getfield 10, 3) := by decide +kernel
theorem dX2_richest_28 : decode cX2_richest 28 = .ok (.getfield 171, 3) := by decide +kernel
theorem dX2_richest_31 : decode cX2_richest 31 = .ok (.if_icmp .ge 34, 3) := by decide +kernel
theorem dX2_richest_34 : decode cX2_richest 34 = .ok (.iload_n 3, 1) := by decide +kernel
theorem dX2_richest_35 : decode cX2_richest 35 = .ok (.bipush (-9), 2) := by decide +kernel
theorem dX2_richest_37 : decode cX2_richest 37 = .ok (.if_icmp .eq 19, 3) := by decide +kernel
theorem dX2_richest_40 : decode cX2_richest 40 = .ok (.aload_n 0, 1) := by decide +kernel
theorem dX2_richest_41 : decode cX2_richest 41 = .ok (.iload 4, 2) := by decide +kernel
theorem dX2_richest_43 : decode cX2_richest 43 = .ok (.iload_n 1, 1) := by decide +kernel
theorem dX2_richest_44 : decode cX2_richest 44 = .ok (.invokevirtual 184, 3) := by decide +kernel
theorem dX2_richest_47 : decode cX2_richest 47 = .ok (.aload_n 0, 1) := by decide +kernel
theorem dX2_richest_48 : decode cX2_richest 48 = .ok (.iload_n 3, 1) := by decide +kernel
theorem dX2_richest_49 : decode cX2_richest 49 = .ok (.iload_n 1, 1) := by decide +kernel
theorem dX2_richest_50 : decode cX2_richest 50 = .ok (.invokevirtual 184, 3) := by decide +kernel
theorem dX2_richest_53 : decode cX2_richest 53 = .ok (.if_icmp .le 6, 3) := by decide +kernel
theorem dX2_richest_56 : decode cX2_richest 56 = .ok (.iload 4, 2) := by decide +kernel
theorem dX2_richest_58 : decode cX2_richest 58 = .ok (.istore_n 3, 1) := by decide +kernel
theorem dX2_richest_59 : decode cX2_richest 59 = .ok (.iinc 4 1, 3) := by decide +kernel
theorem dX2_richest_62 : decode cX2_richest 62 = .ok (.goto (-40), 3) := by decide +kernel
theorem dX2_richest_65 : decode cX2_richest 65 = .ok (.iload_n 3, 1) := by decide +kernel
theorem dX2_richest_66 : decode cX2_richest 66 = .ok (.ireturn, 1) := by decide +kernel
theorem dX2_quiet_0 : decode cX2_quiet 0 = .ok (.iload_n 1, 1) := by decide +kernel
theorem dX2_quiet_1 : decode cX2_quiet 1 = .ok (.iconst 0, 1) := by decide +kernel
theorem dX2_quiet_2 : decode cX2_quiet 2 = .ok (.bipush 11, 2) := by decide +kernel
theorem dX2_quiet_4 : decode cX2_quiet 4 = .ok (.invokestatic 44, 3) := by decide +kernel
theorem dX2_quiet_7 : decode cX2_quiet 7 = .ok (.istore_n 2, 1) := by decide +kernel
theorem dX2_quiet_8 : decode cX2_quiet 8 = .ok (.iload_n 2, 1) := by decide +kernel
theorem dX2_quiet_9 : decode cX2_quiet 9 = .ok (.ifCond .eq 9, 3) := by decide +kernel
theorem dX2_quiet_12 : decode cX2_quiet 12 = .ok (.aload_n 0, 1) := by decide +kernel
theorem dX2_quiet_13 : decode cX2_quiet 13 = .ok (.iload_n 2, 1) := by decide +kernel
theorem dX2_quiet_14 : decode cX2_quiet 14 = .ok (.invokevirtual 52, 3) := by decide +kernel
theorem dX2_quiet_17 : decode cX2_quiet 17 = .ok (.ireturn, 1) := by decide +kernel
theorem dX2_quiet_18 : decode cX2_quiet 18 = .ok (.iconst 0, 1) := by decide +kernel
theorem dX2_quiet_19 : decode cX2_quiet 19 = .ok (.istore_n 3, 1) := by decide +kernel
theorem dX2_quiet_20 : decode cX2_quiet 20 = .ok (.iconst 0, 1) := by decide +kernel
theorem dX2_quiet_21 : decode cX2_quiet 21 = .ok (.istore 4, 2) := by decide +kernel
theorem dX2_quiet_23 : decode cX2_quiet 23 = .ok (.iload 4, 2) := by decide +kernel
theorem dX2_quiet_25 : decode cX2_quiet 25 = .ok (.aload_n 0, 1) := by decide +kernel
theorem dX2_quiet_26 : decode cX2_quiet 26 = .ok (.getfield 10, 3) := by decide +kernel
theorem dX2_quiet_29 : decode cX2_quiet 29 = .ok (.getfield 171, 3) := by decide +kernel
theorem dX2_quiet_32 : decode cX2_quiet 32 = .ok (.if_icmp .ge 25, 3) := by decide +kernel
theorem dX2_quiet_35 : decode cX2_quiet 35 = .ok (.aload_n 0, 1) := by decide +kernel
theorem dX2_quiet_36 : decode cX2_quiet 36 = .ok (.getfield 10, 3) := by decide +kernel
theorem dX2_quiet_39 : decode cX2_quiet 39 = .ok (.iload 4, 2) := by decide +kernel
theorem dX2_quiet_41 : decode cX2_quiet 41 = .ok (.invokevirtual 105, 3) := by decide +kernel
theorem dX2_quiet_44 : decode cX2_quiet 44 = .ok (.iload_n 1, 1) := by decide +kernel
theorem dX2_quiet_45 : decode cX2_quiet 45 = .ok (.if_icmp .le 6, 3) := by decide +kernel
theorem dX2_quiet_48 : decode cX2_quiet 48 = .ok (.iinc 3 1, 3) := by decide +kernel
theorem dX2_quiet_51 : decode cX2_quiet 51 = .ok (.iinc 4 1, 3) := by decide +kernel
theorem dX2_quiet_54 : decode cX2_quiet 54 = .ok (.goto (-31), 3) := by decide +kernel
theorem dX2_quiet_57 : decode cX2_quiet 57 = .ok (.iload_n 3, 1) := by decide +kernel
theorem dX2_quiet_58 : decode cX2_quiet 58 = .ok (.ireturn, 1) := by decide +kernel
theorem dX2_thirst_0 : decode cX2_thirst 0 = .ok (.iconst 0, 1) := by decide +kernel
theorem dX2_thirst_1 : decode cX2_thirst 1 = .ok (.istore_n 1, 1) := by decide +kernel
theorem dX2_thirst_2 : decode cX2_thirst 2 = .ok (.iconst 0, 1) := by decide +kernel
theorem dX2_thirst_3 : decode cX2_thirst 3 = .ok (.istore_n 2, 1) := by decide +kernel
theorem dX2_thirst_4 : decode cX2_thirst 4 = .ok (.iload_n 2, 1) := by decide +kernel
theorem dX2_thirst_5 : decode cX2_thirst 5 = .ok (.aload_n 0, 1) := by decide +kernel
theorem dX2_thirst_6 : decode cX2_thirst 6 = .ok (.getfield 10, 3) := by decide +kernel
theorem dX2_thirst_9 : decode cX2_thirst 9 = .ok (.getfield 171, 3) := by decide +kernel
theorem dX2_thirst_12 : decode cX2_thirst 12 = .ok (.if_icmp .ge 20, 3) := by decide +kernel
theorem dX2_thirst_15 : decode cX2_thirst 15 = .ok (.iload_n 1, 1) := by decide +kernel
theorem dX2_thirst_16 : decode cX2_thirst 16 = .ok (.aload_n 0, 1) := by decide +kernel
theorem dX2_thirst_17 : decode cX2_thirst 17 = .ok (.getfield 10, 3) := by decide +kernel
theorem dX2_thirst_20 : decode cX2_thirst 20 = .ok (.iload_n 2, 1) := by decide +kernel
theorem dX2_thirst_21 : decode cX2_thirst 21 = .ok (.invokevirtual 108, 3) := by decide +kernel
theorem dX2_thirst_24 : decode cX2_thirst 24 = .ok (.iadd, 1) := by decide +kernel
theorem dX2_thirst_25 : decode cX2_thirst 25 = .ok (.istore_n 1, 1) := by decide +kernel
theorem dX2_thirst_26 : decode cX2_thirst 26 = .ok (.iinc 2 1, 3) := by decide +kernel
theorem dX2_thirst_29 : decode cX2_thirst 29 = .ok (.goto (-25), 3) := by decide +kernel
theorem dX2_thirst_32 : decode cX2_thirst 32 = .ok (.iload_n 1, 1) := by decide +kernel
theorem dX2_thirst_33 : decode cX2_thirst 33 = .ok (.ireturn, 1) := by decide +kernel
theorem dX2_lasts_0 : decode cX2_lasts 0 = .ok (.aload_n 0, 1) := by decide +kernel
theorem dX2_lasts_1 : decode cX2_lasts 1 = .ok (.getfield 10, 3) := by decide +kernel
theorem dX2_lasts_4 : decode cX2_lasts 4 = .ok (.iload_n 1, 1) := by decide +kernel
theorem dX2_lasts_5 : decode cX2_lasts 5 = .ok (.invokevirtual 81, 3) := by decide +kernel
theorem dX2_lasts_8 : decode cX2_lasts 8 = .ok (.ifCond .ne 9, 3) := by decide +kernel
theorem dX2_lasts_11 : decode cX2_lasts 11 = .ok (.aload_n 0, 1) := by decide +kernel
theorem dX2_lasts_12 : decode cX2_lasts 12 = .ok (.iconst (-1), 1) := by decide +kernel
theorem dX2_lasts_13 : decode cX2_lasts 13 = .ok (.invokevirtual 52, 3) := by decide +kernel
theorem dX2_lasts_16 : decode cX2_lasts 16 = .ok (.ireturn, 1) := by decide +kernel
theorem dX2_lasts_17 : decode cX2_lasts 17 = .ok (.aload_n 0, 1) := by decide +kernel
theorem dX2_lasts_18 : decode cX2_lasts 18 = .ok (.getfield 10, 3) := by decide +kernel
theorem dX2_lasts_21 : decode cX2_lasts 21 = .ok (.iload_n 1, 1) := by decide +kernel
theorem dX2_lasts_22 : decode cX2_lasts 22 = .ok (.invokevirtual 108, 3) := by decide +kernel
theorem dX2_lasts_25 : decode cX2_lasts 25 = .ok (.istore_n 2, 1) := by decide +kernel
theorem dX2_lasts_26 : decode cX2_lasts 26 = .ok (.iload_n 2, 1) := by decide +kernel
theorem dX2_lasts_27 : decode cX2_lasts 27 = .ok (.ifCond .gt 8, 3) := by decide +kernel
theorem dX2_lasts_30 : decode cX2_lasts 30 = .ok (.bipush 99, 2) := by decide +kernel
theorem dX2_lasts_32 : decode cX2_lasts 32 = .ok (.goto 14, 3) := by decide +kernel
theorem dX2_lasts_35 : decode cX2_lasts 35 = .ok (.aload_n 0, 1) := by decide +kernel
theorem dX2_lasts_36 : decode cX2_lasts 36 = .ok (.getfield 10, 3) := by decide +kernel
theorem dX2_lasts_39 : decode cX2_lasts 39 = .ok (.getfield 93, 3) := by decide +kernel
theorem dX2_lasts_42 : decode cX2_lasts 42 = .ok (.iload_n 1, 1) := by decide +kernel
theorem dX2_lasts_43 : decode cX2_lasts 43 = .ok (.iaload, 1) := by decide +kernel
theorem dX2_lasts_44 : decode cX2_lasts 44 = .ok (.iload_n 2, 1) := by decide +kernel
theorem dX2_lasts_45 : decode cX2_lasts 45 = .ok (.idiv, 1) := by decide +kernel
theorem dX2_lasts_46 : decode cX2_lasts 46 = .ok (.ireturn, 1) := by decide +kernel
theorem dX2_carries_0 : decode cX2_carries 0 = .ok (.iload_n 1, 1) := by decide +kernel
theorem dX2_carries_1 : decode cX2_carries 1 = .ok (.iconst 1, 1) := by decide +kernel
theorem dX2_carries_2 : decode cX2_carries 2 = .ok (.invokestatic 146, 3) := by decide +kernel
theorem dX2_carries_5 : decode cX2_carries 5 = .ok (.istore_n 2, 1) := by decide +kernel
theorem dX2_carries_6 : decode cX2_carries 6 = .ok (.iload_n 2, 1) := by decide +kernel
theorem dX2_carries_7 : decode cX2_carries 7 = .ok (.ifCond .eq 9, 3) := by decide +kernel
theorem dX2_carries_10 : decode cX2_carries 10 = .ok (.aload_n 0, 1) := by decide +kernel
theorem dX2_carries_11 : decode cX2_carries 11 = .ok (.iload_n 2, 1) := by decide +kernel
theorem dX2_carries_12 : decode cX2_carries 12 = .ok (.invokevirtual 52, 3) := by decide +kernel
theorem dX2_carries_15 : decode cX2_carries 15 = .ok (.ireturn, 1) := by decide +kernel
theorem dX2_carries_16 : decode cX2_carries 16 = .ok (.iload_n 1, 1) := by decide +kernel
theorem dX2_carries_17 : decode cX2_carries 17 = .ok (.ifCond .ne 10, 3) := by decide +kernel
theorem dX2_carries_20 : decode cX2_carries 20 = .ok (.aload_n 0, 1) := by decide +kernel
theorem dX2_carries_21 : decode cX2_carries 21 = .ok (.invokevirtual 187, 3) := by decide +kernel
theorem dX2_carries_24 : decode cX2_carries 24 = .ok (.goto 7, 3) := by decide +kernel
theorem dX2_carries_27 : decode cX2_carries 27 = .ok (.aload_n 0, 1) := by decide +kernel
theorem dX2_carries_28 : decode cX2_carries 28 = .ok (.invokevirtual 190, 3) := by decide +kernel
theorem dX2_carries_31 : decode cX2_carries 31 = .ok (.ireturn, 1) := by decide +kernel
theorem dX2_two_0 : decode cX2_two 0 = .ok (.aload_n 0, 1) := by decide +kernel
theorem dX2_two_1 : decode cX2_two 1 = .ok (.getfield 10, 3) := by decide +kernel
theorem dX2_two_4 : decode cX2_two 4 = .ok (.iload_n 1, 1) := by decide +kernel
theorem dX2_two_5 : decode cX2_two 5 = .ok (.invokevirtual 81, 3) := by decide +kernel
theorem dX2_two_8 : decode cX2_two 8 = .ok (.ifCond .eq 19, 3) := by decide +kernel
theorem dX2_two_11 : decode cX2_two 11 = .ok (.aload_n 0, 1) := by decide +kernel
theorem dX2_two_12 : decode cX2_two 12 = .ok (.getfield 10, 3) := by decide +kernel
theorem dX2_two_15 : decode cX2_two 15 = .ok (.iload_n 2, 1) := by decide +kernel
theorem dX2_two_16 : decode cX2_two 16 = .ok (.invokevirtual 81, 3) := by decide +kernel
theorem dX2_two_19 : decode cX2_two 19 = .ok (.ifCond .eq 8, 3) := by decide +kernel
theorem dX2_two_22 : decode cX2_two 22 = .ok (.iload_n 1, 1) := by decide +kernel
theorem dX2_two_23 : decode cX2_two 23 = .ok (.iload_n 2, 1) := by decide +kernel
theorem dX2_two_24 : decode cX2_two 24 = .ok (.if_icmp .ne 9, 3) := by decide +kernel
theorem dX2_two_27 : decode cX2_two 27 = .ok (.aload_n 0, 1) := by decide +kernel
theorem dX2_two_28 : decode cX2_two 28 = .ok (.iconst (-1), 1) := by decide +kernel
theorem dX2_two_29 : decode cX2_two 29 = .ok (.invokevirtual 52, 3) := by decide +kernel
theorem dX2_two_32 : decode cX2_two 32 = .ok (.ireturn, 1) := by decide +kernel
theorem dX2_two_33 : decode cX2_two 33 = .ok (.iload_n 3, 1) := by decide +kernel
theorem dX2_two_34 : decode cX2_two 34 = .ok (.iconst 0, 1) := by decide +kernel
theorem dX2_two_35 : decode cX2_two 35 = .ok (.bipush 24, 2) := by decide +kernel
theorem dX2_two_37 : decode cX2_two 37 = .ok (.invokestatic 44, 3) := by decide +kernel
theorem dX2_two_40 : decode cX2_two 40 = .ok (.istore 4, 2) := by decide +kernel
theorem dX2_two_42 : decode cX2_two 42 = .ok (.iload 4, 2) := by decide +kernel
theorem dX2_two_44 : decode cX2_two 44 = .ok (.ifCond .eq 10, 3) := by decide +kernel
theorem dX2_two_47 : decode cX2_two 47 = .ok (.aload_n 0, 1) := by decide +kernel
theorem dX2_two_48 : decode cX2_two 48 = .ok (.iload 4, 2) := by decide +kernel
theorem dX2_two_50 : decode cX2_two 50 = .ok (.invokevirtual 52, 3) := by decide +kernel
theorem dX2_two_53 : decode cX2_two 53 = .ok (.ireturn, 1) := by decide +kernel
theorem dX2_two_54 : decode cX2_two 54 = .ok (.iconst 0, 1) := by decide +kernel
theorem dX2_two_55 : decode cX2_two 55 = .ok (.istore 5, 2) := by decide +kernel
theorem dX2_two_57 : decode cX2_two 57 = .ok (.iload 5, 2) := by decide +kernel
theorem dX2_two_59 : decode cX2_two 59 = .ok (.iconst 4, 1) := by decide +kernel
theorem dX2_two_60 : decode cX2_two 60 = .ok (.if_icmp .ge 96, 3) := by decide +kernel
theorem dX2_two_63 : decode cX2_two 63 = .ok (.iload 5, 2) := by decide +kernel
theorem dX2_two_65 : decode cX2_two 65 = .ok (.iconst 2, 1) := by decide +kernel
theorem dX2_two_66 : decode cX2_two 66 = .ok (.idiv, 1) := by decide +kernel
theorem dX2_two_67 : decode cX2_two 67 = .ok (.istore 6, 2) := by decide +kernel
theorem dX2_two_69 : decode cX2_two 69 = .ok (.iload 5, 2) := by decide +kernel
theorem dX2_two_71 : decode cX2_two 71 = .ok (.iconst 2, 1) := by decide +kernel
theorem dX2_two_72 : decode cX2_two 72 = .ok (.irem, 1) := by decide +kernel
theorem dX2_two_73 : decode cX2_two 73 = .ok (.istore 7, 2) := by decide +kernel
theorem dX2_two_75 : decode cX2_two 75 = .ok (.aload_n 0, 1) := by decide +kernel
theorem dX2_two_76 : decode cX2_two 76 = .ok (.iload_n 1, 1) := by decide +kernel
theorem dX2_two_77 : decode cX2_two 77 = .ok (.iload 6, 2) := by decide +kernel
theorem dX2_two_79 : decode cX2_two 79 = .ok (.iload_n 2, 1) := by decide +kernel
theorem dX2_two_80 : decode cX2_two 80 = .ok (.iload 7, 2) := by decide +kernel
theorem dX2_two_82 : decode cX2_two 82 = .ok (.iload_n 3, 1) := by decide +kernel
theorem dX2_two_83 : decode cX2_two 83 = .ok (.invokevirtual 193, 3) := by decide +kernel
theorem dX2_two_86 : decode cX2_two 86 = .ok (.aload_n 0, 1) := by decide +kernel
theorem dX2_two_87 : decode cX2_two 87 = .ok (.iload_n 1, 1) := by decide +kernel
theorem dX2_two_88 : decode cX2_two 88 = .ok (.iconst 1, 1) := by decide +kernel
theorem dX2_two_89 : decode cX2_two 89 = .ok (.iload 6, 2) := by decide +kernel
theorem dX2_two_91 : decode cX2_two 91 = .ok (.isub, 1) := by decide +kernel
theorem dX2_two_92 : decode cX2_two 92 = .ok (.iload_n 2, 1) := by decide +kernel
theorem dX2_two_93 : decode cX2_two 93 = .ok (.iload 7, 2) := by decide +kernel
theorem dX2_two_95 : decode cX2_two 95 = .ok (.iload_n 3, 1) := by decide +kernel
theorem dX2_two_96 : decode cX2_two 96 = .ok (.invokevirtual 193, 3) := by decide +kernel
theorem dX2_two_99 : decode cX2_two 99 = .ok (.if_icmp .lt 7, 3) := by decide +kernel
theorem dX2_two_102 : decode cX2_two 102 = .ok (.iconst 1, 1) := by decide +kernel
theorem dX2_two_103 : decode cX2_two 103 = .ok (.goto 4, 3) := by decide +kernel
theorem dX2_two_106 : decode cX2_two 106 = .ok (.iconst 0, 1) := by decide +kernel
theorem dX2_two_107 : decode cX2_two 107 = .ok (.istore 8, 2) := by decide +kernel
theorem dX2_two_109 : decode cX2_two 109 = .ok (.iload 8, 2) := by decide +kernel
theorem dX2_two_111 : decode cX2_two 111 = .ok (.ifCond .eq 39, 3) := by decide +kernel
theorem dX2_two_114 : decode cX2_two 114 = .ok (.aload_n 0, 1) := by decide +kernel
theorem dX2_two_115 : decode cX2_two 115 = .ok (.iload_n 2, 1) := by decide +kernel
theorem dX2_two_116 : decode cX2_two 116 = .ok (.iload 7, 2) := by decide +kernel
theorem dX2_two_118 : decode cX2_two 118 = .ok (.iload_n 1, 1) := by decide +kernel
theorem dX2_two_119 : decode cX2_two 119 = .ok (.iload 6, 2) := by decide +kernel
theorem dX2_two_121 : decode cX2_two 121 = .ok (.iload_n 3, 1) := by decide +kernel
theorem dX2_two_122 : decode cX2_two 122 = .ok (.invokevirtual 193, 3) := by decide +kernel
theorem dX2_two_125 : decode cX2_two 125 = .ok (.aload_n 0, 1) := by decide +kernel
theorem dX2_two_126 : decode cX2_two 126 = .ok (.iload_n 2, 1) := by decide +kernel
theorem dX2_two_127 : decode cX2_two 127 = .ok (.iconst 1, 1) := by decide +kernel
theorem dX2_two_128 : decode cX2_two 128 = .ok (.iload 7, 2) := by decide +kernel
theorem dX2_two_130 : decode cX2_two 130 = .ok (.isub, 1) := by decide +kernel
theorem dX2_two_131 : decode cX2_two 131 = .ok (.iload_n 1, 1) := by decide +kernel
theorem dX2_two_132 : decode cX2_two 132 = .ok (.iload 6, 2) := by decide +kernel
theorem dX2_two_134 : decode cX2_two 134 = .ok (.iload_n 3, 1) := by decide +kernel
theorem dX2_two_135 : decode cX2_two 135 = .ok (.invokevirtual 193, 3) := by decide +kernel
theorem dX2_two_138 : decode cX2_two 138 = .ok (.if_icmp .lt 12, 3) := by decide +kernel
theorem dX2_two_141 : decode cX2_two 141 = .ok (.bipush 10, 2) := by decide +kernel
theorem dX2_two_143 : decode cX2_two 143 = .ok (.iload 6, 2) := by decide +kernel
theorem dX2_two_145 : decode cX2_two 145 = .ok (.imul, 1) := by decide +kernel
theorem dX2_two_146 : decode cX2_two 146 = .ok (.iload 7, 2) := by decide +kernel
theorem dX2_two_148 : decode cX2_two 148 = .ok (.iadd, 1) := by decide +kernel
theorem dX2_two_149 : decode cX2_two 149 = .ok (.ireturn, 1) := by decide +kernel
theorem dX2_two_150 : decode cX2_two 150 = .ok (.iinc 5 1, 3) := by decide +kernel
theorem dX2_two_153 : decode cX2_two 153 = .ok (.goto (-96), 3) := by decide +kernel
theorem dX2_two_156 : decode cX2_two 156 = .ok (.bipush (-9), 2) := by decide +kernel
theorem dX2_two_158 : decode cX2_two 158 = .ok (.ireturn, 1) := by decide +kernel
theorem dX2_sneeze_0 : decode cX2_sneeze 0 = .ok (.aload_n 0, 1) := by decide +kernel
theorem dX2_sneeze_1 : decode cX2_sneeze 1 = .ok (.iload_n 1, 1) := by decide +kernel
theorem dX2_sneeze_2 : decode cX2_sneeze 2 = .ok (.iload_n 2, 1) := by decide +kernel
theorem dX2_sneeze_3 : decode cX2_sneeze 3 = .ok (.iload_n 3, 1) := by decide +kernel
theorem dX2_sneeze_4 : decode cX2_sneeze 4 = .ok (.iload 4, 2) := by decide +kernel
theorem dX2_sneeze_6 : decode cX2_sneeze 6 = .ok (.iload 5, 2) := by decide +kernel
theorem dX2_sneeze_8 : decode cX2_sneeze 8 = .ok (.invokevirtual 197, 3) := by decide +kernel
theorem dX2_sneeze_11 : decode cX2_sneeze 11 = .ok (.istore 6, 2) := by decide +kernel
theorem dX2_sneeze_13 : decode cX2_sneeze 13 = .ok (.iload 6, 2) := by decide +kernel
theorem dX2_sneeze_15 : decode cX2_sneeze 15 = .ok (.ifCond .eq 10, 3) := by decide +kernel
theorem dX2_sneeze_18 : decode cX2_sneeze 18 = .ok (.aload_n 0, 1) := by decide +kernel
theorem dX2_sneeze_19 : decode cX2_sneeze 19 = .ok (.iload 6, 2) := by decide +kernel
theorem dX2_sneeze_21 : decode cX2_sneeze 21 = .ok (.invokevirtual 200, 3) := by decide +kernel
theorem dX2_sneeze_24 : decode cX2_sneeze 24 = .ok (.lreturn, 1) := by decide +kernel
theorem dX2_sneeze_25 : decode cX2_sneeze 25 = .ok (.lconst 0, 1) := by decide +kernel
theorem dX2_sneeze_26 : decode cX2_sneeze 26 = .ok (.lstore 7, 2) := by decide +kernel
theorem dX2_sneeze_28 : decode cX2_sneeze 28 = .ok (.iconst 0, 1) := by decide +kernel
theorem dX2_sneeze_29 : decode cX2_sneeze 29 = .ok (.istore 9, 2) := by decide +kernel
theorem dX2_sneeze_31 : decode cX2_sneeze 31 = .ok (.iload 9, 2) := by decide +kernel
theorem dX2_sneeze_33 : decode cX2_sneeze 33 = .ok (.iconst 1, 1) := by decide +kernel
theorem dX2_sneeze_34 : decode cX2_sneeze 34 = .ok (.iload_n 2, 1) := by decide +kernel
theorem dX2_sneeze_35 : decode cX2_sneeze 35 = .ok (.ishl, 1) := by decide +kernel
theorem dX2_sneeze_36 : decode cX2_sneeze 36 = .ok (.if_icmp .ge 40, 3) := by decide +kernel
theorem dX2_sneeze_39 : decode cX2_sneeze 39 = .ok (.aload_n 0, 1) := by decide +kernel
theorem dX2_sneeze_40 : decode cX2_sneeze 40 = .ok (.iload_n 1, 1) := by decide +kernel
theorem dX2_sneeze_41 : decode cX2_sneeze 41 = .ok (.iload_n 2, 1) := by decide +kernel
theorem dX2_sneeze_42 : decode cX2_sneeze 42 = .ok (.iload 9, 2) := by decide +kernel
theorem dX2_sneeze_44 : decode cX2_sneeze 44 = .ok (.invokevirtual 204, 3) := by decide +kernel
theorem dX2_sneeze_47 : decode cX2_sneeze 47 = .ok (.iload 4, 2) := by decide +kernel
theorem dX2_sneeze_49 : decode cX2_sneeze 49 = .ok (.if_icmp .lt 21, 3) := by decide +kernel
theorem dX2_sneeze_52 : decode cX2_sneeze 52 = .ok (.lload 7, 2) := by decide +kernel
theorem dX2_sneeze_54 : decode cX2_sneeze 54 = .ok (.iload_n 3, 1) := by decide +kernel
theorem dX2_sneeze_55 : decode cX2_sneeze 55 = .ok (.iconst 1, 1) := by decide +kernel
theorem dX2_sneeze_56 : decode cX2_sneeze 56 = .ok (.isub, 1) := by decide +kernel
theorem dX2_sneeze_57 : decode cX2_sneeze 57 = .ok (.iload_n 2, 1) := by decide +kernel
theorem dX2_sneeze_58 : decode cX2_sneeze 58 = .ok (.iload 9, 2) := by decide +kernel
theorem dX2_sneeze_60 : decode cX2_sneeze 60 = .ok (.invokestatic 117, 3) := by decide +kernel
theorem dX2_sneeze_63 : decode cX2_sneeze 63 = .ok (.isub, 1) := by decide +kernel
theorem dX2_sneeze_64 : decode cX2_sneeze 64 = .ok (.invokestatic 207, 3) := by decide +kernel
theorem dX2_sneeze_67 : decode cX2_sneeze 67 = .ok (.ladd, 1) := by decide +kernel
theorem dX2_sneeze_68 : decode cX2_sneeze 68 = .ok (.lstore 7, 2) := by decide +kernel
theorem dX2_sneeze_70 : decode cX2_sneeze 70 = .ok (.iinc 9 1, 3) := by decide +kernel
theorem dX2_sneeze_73 : decode cX2_sneeze 73 = .ok (.goto (-42), 3) := by decide +kernel
theorem dX2_sneeze_76 : decode cX2_sneeze 76 = .ok (.lload 7, 2) := by decide +kernel
theorem dX2_sneeze_78 : decode cX2_sneeze 78 = .ok (.iload_n 3, 1) := by decide +kernel
theorem dX2_sneeze_79 : decode cX2_sneeze 79 = .ok (.iload_n 2, 1) := by decide +kernel
theorem dX2_sneeze_80 : decode cX2_sneeze 80 = .ok (.invokestatic 207, 3) := by decide +kernel
theorem dX2_sneeze_83 : decode cX2_sneeze 83 = .ok (.iload 5, 2) := by decide +kernel
theorem dX2_sneeze_85 : decode cX2_sneeze 85 = .ok (.invokestatic 211, 3) := by decide +kernel
theorem dX2_sneeze_88 : decode cX2_sneeze 88 = .ok (.lreturn, 1) := by decide +kernel
theorem dX2_mean_0 : decode cX2_mean 0 = .ok (.iload_n 1, 1) := by decide +kernel
theorem dX2_mean_1 : decode cX2_mean 1 = .ok (.iconst 1, 1) := by decide +kernel
theorem dX2_mean_2 : decode cX2_mean 2 = .ok (.invokestatic 146, 3) := by decide +kernel
theorem dX2_mean_5 : decode cX2_mean 5 = .ok (.istore_n 2, 1) := by decide +kernel
theorem dX2_mean_6 : decode cX2_mean 6 = .ok (.iload_n 2, 1) := by decide +kernel
theorem dX2_mean_7 : decode cX2_mean 7 = .ok (.ifCond .eq 9, 3) := by decide +kernel
theorem dX2_mean_10 : decode cX2_mean 10 = .ok (.aload_n 0, 1) := by decide +kernel
theorem dX2_mean_11 : decode cX2_mean 11 = .ok (.iload_n 2, 1) := by decide +kernel
theorem dX2_mean_12 : decode cX2_mean 12 = .ok (.invokevirtual 200, 3) := by decide +kernel
theorem dX2_mean_15 : decode cX2_mean 15 = .ok (.lreturn, 1) := by decide +kernel
theorem dX2_mean_16 : decode cX2_mean 16 = .ok (.aload_n 0, 1) := by decide +kernel
theorem dX2_mean_17 : decode cX2_mean 17 = .ok (.getfield 10, 3) := by decide +kernel
theorem dX2_mean_20 : decode cX2_mean 20 = .ok (.invokevirtual 153, 3) := by decide +kernel
theorem dX2_mean_23 : decode cX2_mean 23 = .ok (.i2l, 1) := by decide +kernel
theorem dX2_mean_24 : decode cX2_mean 24 = .ok (.iconst 1, 1) := by decide +kernel
theorem dX2_mean_25 : decode cX2_mean 25 = .ok (.aload_n 0, 1) := by decide +kernel
theorem dX2_mean_26 : decode cX2_mean 26 = .ok (.getfield 10, 3) := by decide +kernel
theorem dX2_mean_29 : decode cX2_mean 29 = .ok (.getfield 171, 3) := by decide +kernel
theorem dX2_mean_32 : decode cX2_mean 32 = .ok (.invokestatic 215, 3) := by decide +kernel
theorem dX2_mean_35 : decode cX2_mean 35 = .ok (.i2l, 1) := by decide +kernel
theorem dX2_mean_36 : decode cX2_mean 36 = .ok (.iload_n 1, 1) := by decide +kernel
theorem dX2_mean_37 : decode cX2_mean 37 = .ok (.invokestatic 211, 3) := by decide +kernel
theorem dX2_mean_40 : decode cX2_mean 40 = .ok (.lreturn, 1) := by decide +kernel
theorem dX2_whatIs_0 : decode cX2_whatIs 0 = .ok (.aload_n 0, 1) := by decide +kernel
theorem dX2_whatIs_1 : decode cX2_whatIs 1 = .ok (.getfield 10, 3) := by decide +kernel
theorem dX2_whatIs_4 : decode cX2_whatIs 4 = .ok (.iload_n 1, 1) := by decide +kernel
theorem dX2_whatIs_5 : decode cX2_whatIs 5 = .ok (.invokevirtual 81, 3) := by decide +kernel
theorem dX2_whatIs_8 : decode cX2_whatIs 8 = .ok (.ifCond .ne 9, 3) := by decide +kernel
theorem dX2_whatIs_11 : decode cX2_whatIs 11 = .ok (.aload_n 0, 1) := by decide +kernel
theorem dX2_whatIs_12 : decode cX2_whatIs 12 = .ok (.iconst (-1), 1) := by decide +kernel
theorem dX2_whatIs_13 : decode cX2_whatIs 13 = .ok (.invokevirtual 52, 3) := by decide +kernel
theorem dX2_whatIs_16 : decode cX2_whatIs 16 = .ok (.ireturn, 1) := by decide +kernel
theorem dX2_whatIs_17 : decode cX2_whatIs 17 = .ok (.iload_n 2, 1) := by decide +kernel
theorem dX2_whatIs_18 : decode cX2_whatIs 18 = .ok (.iconst 1, 1) := by decide +kernel
theorem dX2_whatIs_19 : decode cX2_whatIs 19 = .ok (.invokestatic 146, 3) := by decide +kernel
theorem dX2_whatIs_22 : decode cX2_whatIs 22 = .ok (.istore_n 3, 1) := by decide +kernel
theorem dX2_whatIs_23 : decode cX2_whatIs 23 = .ok (.iload_n 3, 1) := by decide +kernel
theorem dX2_whatIs_24 : decode cX2_whatIs 24 = .ok (.ifCond .eq 9, 3) := by decide +kernel
theorem dX2_whatIs_27 : decode cX2_whatIs 27 = .ok (.aload_n 0, 1) := by decide +kernel
theorem dX2_whatIs_28 : decode cX2_whatIs 28 = .ok (.iload_n 3, 1) := by decide +kernel
theorem dX2_whatIs_29 : decode cX2_whatIs 29 = .ok (.invokevirtual 52, 3) := by decide +kernel
theorem dX2_whatIs_32 : decode cX2_whatIs 32 = .ok (.ireturn, 1) := by decide +kernel
theorem dX2_whatIs_33 : decode cX2_whatIs 33 = .ok (.iload_n 2, 1) := by decide +kernel
theorem dX2_whatIs_34 : decode cX2_whatIs 34 = .ok (.ifCond .ne 11, 3) := by decide +kernel
theorem dX2_whatIs_37 : decode cX2_whatIs 37 = .ok (.aload_n 0, 1) := by decide +kernel
theorem dX2_whatIs_38 : decode cX2_whatIs 38 = .ok (.iload_n 1, 1) := by decide +kernel
theorem dX2_whatIs_39 : decode cX2_whatIs 39 = .ok (.invokevirtual 220, 3) := by decide +kernel
theorem dX2_whatIs_42 : decode cX2_whatIs 42 = .ok (.goto 8, 3) := by decide +kernel
theorem dX2_whatIs_45 : decode cX2_whatIs 45 = .ok (.aload_n 0, 1) := by decide +kernel
theorem dX2_whatIs_46 : decode cX2_whatIs 46 = .ok (.iload_n 1, 1) := by decide +kernel
theorem dX2_whatIs_47 : decode cX2_whatIs 47 = .ok (.invokevirtual 223, 3) := by decide +kernel
theorem dX2_whatIs_50 : decode cX2_whatIs 50 = .ok (.ireturn, 1) := by decide +kernel
theorem dX2_row_0 : decode cX2_row 0 = .ok (.iload_n 1, 1) := by decide +kernel
theorem dX2_row_1 : decode cX2_row 1 = .ok (.iconst 0, 1) := by decide +kernel
theorem dX2_row_2 : decode cX2_row 2 = .ok (.bipush 99, 2) := by decide +kernel
theorem dX2_row_4 : decode cX2_row 4 = .ok (.invokestatic 44, 3) := by decide +kernel
theorem dX2_row_7 : decode cX2_row 7 = .ok (.istore_n 2, 1) := by decide +kernel
theorem dX2_row_8 : decode cX2_row 8 = .ok (.iload_n 2, 1) := by decide +kernel
theorem dX2_row_9 : decode cX2_row 9 = .ok (.ifCond .ne 15, 3) := by decide +kernel
theorem dX2_row_12 : decode cX2_row 12 = .ok (.aload_n 0, 1) := by decide +kernel
theorem dX2_row_13 : decode cX2_row 13 = .ok (.getfield 36, 3) := by decide +kernel
theorem dX2_row_16 : decode cX2_row 16 = .ok (.bipush 16, 2) := by decide +kernel
theorem dX2_row_18 : decode cX2_row 18 = .ok (.if_icmp .lt 6, 3) := by decide +kernel
theorem dX2_row_21 : decode cX2_row 21 = .ok (.bipush (-6), 2) := by decide +kernel
theorem dX2_row_23 : decode cX2_row 23 = .ok (.istore_n 2, 1) := by decide +kernel
theorem dX2_row_24 : decode cX2_row 24 = .ok (.iload_n 2, 1) := by decide +kernel
theorem dX2_row_25 : decode cX2_row 25 = .ok (.ifCond .eq 9, 3) := by decide +kernel
theorem dX2_row_28 : decode cX2_row 28 = .ok (.aload_n 0, 1) := by decide +kernel
theorem dX2_row_29 : decode cX2_row 29 = .ok (.iload_n 2, 1) := by decide +kernel
theorem dX2_row_30 : decode cX2_row 30 = .ok (.invokevirtual 52, 3) := by decide +kernel
theorem dX2_row_33 : decode cX2_row 33 = .ok (.ireturn, 1) := by decide +kernel
theorem dX2_row_34 : decode cX2_row 34 = .ok (.aload_n 0, 1) := by decide +kernel
theorem dX2_row_35 : decode cX2_row 35 = .ok (.getfield 29, 3) := by decide +kernel
theorem dX2_row_38 : decode cX2_row 38 = .ok (.aload_n 0, 1) := by decide +kernel
theorem dX2_row_39 : decode cX2_row 39 = .ok (.getfield 36, 3) := by decide +kernel
theorem dX2_row_42 : decode cX2_row 42 = .ok (.iload_n 1, 1) := by decide +kernel
theorem dX2_row_43 : decode cX2_row 43 = .ok (.iastore, 1) := by decide +kernel
theorem dX2_row_44 : decode cX2_row 44 = .ok (.aload_n 0, 1) := by decide +kernel
theorem dX2_row_45 : decode cX2_row 45 = .ok (.dup, 1) := by decide +kernel
theorem dX2_row_46 : decode cX2_row 46 = .ok (.getfield 36, 3) := by decide +kernel
theorem dX2_row_49 : decode cX2_row 49 = .ok (.iconst 1, 1) := by decide +kernel
theorem dX2_row_50 : decode cX2_row 50 = .ok (.iadd, 1) := by decide +kernel
theorem dX2_row_51 : decode cX2_row 51 = .ok (.putfield 36, 3) := by decide +kernel
theorem dX2_row_54 : decode cX2_row 54 = .ok (.aload_n 0, 1) := by decide +kernel
theorem dX2_row_55 : decode cX2_row 55 = .ok (.getfield 36, 3) := by decide +kernel
theorem dX2_row_58 : decode cX2_row 58 = .ok (.ireturn, 1) := by decide +kernel
theorem dX2_judge_0 : decode cX2_judge 0 = .ok (.aload_n 0, 1) := by decide +kernel
theorem dX2_judge_1 : decode cX2_judge 1 = .ok (.getfield 36, 3) := by decide +kernel
theorem dX2_judge_4 : decode cX2_judge 4 = .ok (.istore_n 1, 1) := by decide +kernel
theorem dX2_judge_5 : decode cX2_judge 5 = .ok (.aload_n 0, 1) := by decide +kernel
theorem dX2_judge_6 : decode cX2_judge 6 = .ok (.iconst 0, 1) := by decide +kernel
theorem dX2_judge_7 : decode cX2_judge 7 = .ok (.putfield 36, 3) := by decide +kernel
theorem dX2_judge_10 : decode cX2_judge 10 = .ok (.iconst 0, 1) := by decide +kernel
theorem dX2_judge_11 : decode cX2_judge 11 = .ok (.istore_n 2, 1) := by decide +kernel
theorem dX2_judge_12 : decode cX2_judge 12 = .ok (.iload_n 2, 1) := by decide +kernel
theorem dX2_judge_13 : decode cX2_judge 13 = .ok (.iload_n 1, 1) := by decide +kernel
theorem dX2_judge_14 : decode cX2_judge 14 = .ok (.if_icmp .ge 40, 3) := by decide +kernel
theorem dX2_judge_17 : decode cX2_judge 17 = .ok (.aload_n 0, 1) := by decide +kernel
theorem dX2_judge_18 : decode cX2_judge 18 = .ok (.getfield 10, 3) := by decide +kernel
theorem dX2_judge_21 : decode cX2_judge 21 = .ok (.iload_n 2, 1) := by decide +kernel
theorem dX2_judge_22 : decode cX2_judge 22 = .ok (.invokevirtual 81, 3) := by decide +kernel
theorem dX2_judge_25 : decode cX2_judge 25 = .ok (.ifCond .eq 21, 3) := by decide +kernel
theorem dX2_judge_28 : decode cX2_judge 28 = .ok (.aload_n 0, 1) := by decide +kernel
theorem dX2_judge_29 : decode cX2_judge 29 = .ok (.getfield 10, 3) := by decide +kernel
theorem dX2_judge_32 : decode cX2_judge 32 = .ok (.getfield 90, 3) := by decide +kernel
theorem dX2_judge_35 : decode cX2_judge 35 = .ok (.iload_n 2, 1) := by decide +kernel
theorem dX2_judge_36 : decode cX2_judge 36 = .ok (.iaload, 1) := by decide +kernel
theorem dX2_judge_37 : decode cX2_judge 37 = .ok (.aload_n 0, 1) := by decide +kernel
theorem dX2_judge_38 : decode cX2_judge 38 = .ok (.getfield 29, 3) := by decide +kernel
theorem dX2_judge_41 : decode cX2_judge 41 = .ok (.iload_n 2, 1) := by decide +kernel
theorem dX2_judge_42 : decode cX2_judge 42 = .ok (.iaload, 1) := by decide +kernel
theorem dX2_judge_43 : decode cX2_judge 43 = .ok (.if_icmp .eq 5, 3) := by decide +kernel
theorem dX2_judge_46 : decode cX2_judge 46 = .ok (.iload_n 2, 1) := by decide +kernel
theorem dX2_judge_47 : decode cX2_judge 47 = .ok (.ireturn, 1) := by decide +kernel
theorem dX2_judge_48 : decode cX2_judge 48 = .ok (.iinc 2 1, 3) := by decide +kernel
theorem dX2_judge_51 : decode cX2_judge 51 = .ok (.goto (-39), 3) := by decide +kernel
theorem dX2_judge_54 : decode cX2_judge 54 = .ok (.bipush (-9), 2) := by decide +kernel
theorem dX2_judge_56 : decode cX2_judge 56 = .ok (.ireturn, 1) := by decide +kernel
theorem dX2_clear_0 : decode cX2_clear 0 = .ok (.aload_n 0, 1) := by decide +kernel
theorem dX2_clear_1 : decode cX2_clear 1 = .ok (.getfield 36, 3) := by decide +kernel
theorem dX2_clear_4 : decode cX2_clear 4 = .ok (.istore_n 1, 1) := by decide +kernel
theorem dX2_clear_5 : decode cX2_clear 5 = .ok (.aload_n 0, 1) := by decide +kernel
theorem dX2_clear_6 : decode cX2_clear 6 = .ok (.iconst 0, 1) := by decide +kernel
theorem dX2_clear_7 : decode cX2_clear 7 = .ok (.putfield 36, 3) := by decide +kernel
theorem dX2_clear_10 : decode cX2_clear 10 = .ok (.iload_n 1, 1) := by decide +kernel
theorem dX2_clear_11 : decode cX2_clear 11 = .ok (.ireturn, 1) := by decide +kernel
theorem dX2_lots_0 : decode cX2_lots 0 = .ok (.iload_n 1, 1) := by decide +kernel
theorem dX2_lots_1 : decode cX2_lots 1 = .ok (.iconst 1, 1) := by decide +kernel
theorem dX2_lots_2 : decode cX2_lots 2 = .ok (.bipush 20, 2) := by decide +kernel
theorem dX2_lots_4 : decode cX2_lots 4 = .ok (.invokestatic 44, 3) := by decide +kernel
theorem dX2_lots_7 : decode cX2_lots 7 = .ok (.istore 4, 2) := by decide +kernel
theorem dX2_lots_9 : decode cX2_lots 9 = .ok (.iload 4, 2) := by decide +kernel
theorem dX2_lots_11 : decode cX2_lots 11 = .ok (.ifCond .ne 10, 3) := by decide +kernel
theorem dX2_lots_14 : decode cX2_lots 14 = .ok (.iload_n 3, 1) := by decide +kernel
theorem dX2_lots_15 : decode cX2_lots 15 = .ok (.iconst 1, 1) := by decide +kernel
theorem dX2_lots_16 : decode cX2_lots 16 = .ok (.invokestatic 146, 3) := by decide +kernel
theorem dX2_lots_19 : decode cX2_lots 19 = .ok (.istore 4, 2) := by decide +kernel
theorem dX2_lots_21 : decode cX2_lots 21 = .ok (.iload 4, 2) := by decide +kernel
theorem dX2_lots_23 : decode cX2_lots 23 = .ok (.ifCond .eq 10, 3) := by decide +kernel
theorem dX2_lots_26 : decode cX2_lots 26 = .ok (.aload_n 0, 1) := by decide +kernel
theorem dX2_lots_27 : decode cX2_lots 27 = .ok (.iload 4, 2) := by decide +kernel
theorem dX2_lots_29 : decode cX2_lots 29 = .ok (.invokevirtual 52, 3) := by decide +kernel
theorem dX2_lots_32 : decode cX2_lots 32 = .ok (.ireturn, 1) := by decide +kernel
theorem dX2_lots_33 : decode cX2_lots 33 = .ok (.iload_n 2, 1) := by decide +kernel
theorem dX2_lots_34 : decode cX2_lots 34 = .ok (.istore 5, 2) := by decide +kernel
theorem dX2_lots_36 : decode cX2_lots 36 = .ok (.iconst 0, 1) := by decide +kernel
theorem dX2_lots_37 : decode cX2_lots 37 = .ok (.istore 6, 2) := by decide +kernel
theorem dX2_lots_39 : decode cX2_lots 39 = .ok (.iconst 0, 1) := by decide +kernel
theorem dX2_lots_40 : decode cX2_lots 40 = .ok (.istore 7, 2) := by decide +kernel
theorem dX2_lots_42 : decode cX2_lots 42 = .ok (.iload 7, 2) := by decide +kernel
theorem dX2_lots_44 : decode cX2_lots 44 = .ok (.iload_n 1, 1) := by decide +kernel
theorem dX2_lots_45 : decode cX2_lots 45 = .ok (.if_icmp .ge 78, 3) := by decide +kernel
theorem dX2_lots_48 : decode cX2_lots 48 = .ok (.aload_n 0, 1) := by decide +kernel
theorem dX2_lots_49 : decode cX2_lots 49 = .ok (.invokevirtual 63, 3) := by decide +kernel
theorem dX2_lots_52 : decode cX2_lots 52 = .ok (.astore 8, 2) := by decide +kernel
theorem dX2_lots_54 : decode cX2_lots 54 = .ok (.iconst 0, 1) := by decide +kernel
theorem dX2_lots_55 : decode cX2_lots 55 = .ok (.istore 9, 2) := by decide +kernel
theorem dX2_lots_57 : decode cX2_lots 57 = .ok (.iload 9, 2) := by decide +kernel
theorem dX2_lots_59 : decode cX2_lots 59 = .ok (.iconst 4, 1) := by decide +kernel
theorem dX2_lots_60 : decode cX2_lots 60 = .ok (.if_icmp .ge 35, 3) := by decide +kernel
theorem dX2_lots_63 : decode cX2_lots 63 = .ok (.iload 5, 2) := by decide +kernel
theorem dX2_lots_65 : decode cX2_lots 65 = .ok (.invokestatic 226, 3) := by decide +kernel
theorem dX2_lots_68 : decode cX2_lots 68 = .ok (.istore 5, 2) := by decide +kernel
theorem dX2_lots_70 : decode cX2_lots 70 = .ok (.aload 8, 2) := by decide +kernel
theorem dX2_lots_72 : decode cX2_lots 72 = .ok (.iload 5, 2) := by decide +kernel
theorem dX2_lots_74 : decode cX2_lots 74 = .ok (.bipush 31, 2) := by decide +kernel
theorem dX2_lots_76 : decode cX2_lots 76 = .ok (.invokestatic 229, 3) := by decide +kernel
theorem dX2_lots_79 : decode cX2_lots 79 = .ok (.putfield 132, 3) := by decide +kernel
theorem dX2_lots_82 : decode cX2_lots 82 = .ok (.aload 8, 2) := by decide +kernel
theorem dX2_lots_84 : decode cX2_lots 84 = .ok (.bipush 12, 2) := by decide +kernel
theorem dX2_lots_86 : decode cX2_lots 86 = .ok (.invokevirtual 138, 3) := by decide +kernel
theorem dX2_lots_89 : decode cX2_lots 89 = .ok (.iinc 9 1, 3) := by decide +kernel
theorem dX2_lots_92 : decode cX2_lots 92 = .ok (.goto (-35), 3) := by decide +kernel
theorem dX2_lots_95 : decode cX2_lots 95 = .ok (.iload 6, 2) := by decide +kernel
theorem dX2_lots_97 : decode cX2_lots 97 = .ok (.iload_n 3, 1) := by decide +kernel
theorem dX2_lots_98 : decode cX2_lots 98 = .ok (.ifCond .ne 11, 3) := by decide +kernel
theorem dX2_lots_101 : decode cX2_lots 101 = .ok (.aload 8, 2) := by decide +kernel
theorem dX2_lots_103 : decode cX2_lots 103 = .ok (.invokevirtual 153, 3) := by decide +kernel
theorem dX2_lots_106 : decode cX2_lots 106 = .ok (.goto 8, 3) := by decide +kernel
theorem dX2_lots_109 : decode cX2_lots 109 = .ok (.aload 8, 2) := by decide +kernel
theorem dX2_lots_111 : decode cX2_lots 111 = .ok (.invokevirtual 232, 3) := by decide +kernel
theorem dX2_lots_114 : decode cX2_lots 114 = .ok (.iadd, 1) := by decide +kernel
theorem dX2_lots_115 : decode cX2_lots 115 = .ok (.istore 6, 2) := by decide +kernel
theorem dX2_lots_117 : decode cX2_lots 117 = .ok (.iinc 7 1, 3) := by decide +kernel
theorem dX2_lots_120 : decode cX2_lots 120 = .ok (.goto (-78), 3) := by decide +kernel
theorem dX2_lots_123 : decode cX2_lots 123 = .ok (.iload 6, 2) := by decide +kernel
theorem dX2_lots_125 : decode cX2_lots 125 = .ok (.ireturn, 1) := by decide +kernel
theorem dX2_image_0 : decode cX2_image 0 = .ok (.aload_n 0, 1) := by decide +kernel
theorem dX2_image_1 : decode cX2_image 1 = .ok (.getfield 19, 3) := by decide +kernel
theorem dX2_image_4 : decode cX2_image 4 = .ok (.aload_n 0, 1) := by decide +kernel
theorem dX2_image_5 : decode cX2_image 5 = .ok (.getfield 10, 3) := by decide +kernel
theorem dX2_image_8 : decode cX2_image 8 = .ok (.invokevirtual 77, 3) := by decide +kernel
theorem dX2_image_11 : decode cX2_image 11 = .ok (.aload_n 0, 1) := by decide +kernel
theorem dX2_image_12 : decode cX2_image 12 = .ok (.iconst 1, 1) := by decide +kernel
theorem dX2_image_13 : decode cX2_image 13 = .ok (.putfield 40, 3) := by decide +kernel
theorem dX2_image_16 : decode cX2_image 16 = .ok (.aload_n 0, 1) := by decide +kernel
theorem dX2_image_17 : decode cX2_image 17 = .ok (.getfield 10, 3) := by decide +kernel
theorem dX2_image_20 : decode cX2_image 20 = .ok (.getfield 235, 3) := by decide +kernel
theorem dX2_image_23 : decode cX2_image 23 = .ok (.ireturn, 1) := by decide +kernel
theorem dX2_on_0 : decode cX2_on 0 = .ok (.aload_n 0, 1) := by decide +kernel
theorem dX2_on_1 : decode cX2_on 1 = .ok (.getfield 40, 3) := by decide +kernel
theorem dX2_on_4 : decode cX2_on 4 = .ok (.ifCond .ne 10, 3) := by decide +kernel
theorem dX2_on_7 : decode cX2_on 7 = .ok (.aload_n 0, 1) := by decide +kernel
theorem dX2_on_8 : decode cX2_on 8 = .ok (.bipush (-3), 2) := by decide +kernel
theorem dX2_on_10 : decode cX2_on 10 = .ok (.invokevirtual 52, 3) := by decide +kernel
theorem dX2_on_13 : decode cX2_on 13 = .ok (.ireturn, 1) := by decide +kernel
theorem dX2_on_14 : decode cX2_on 14 = .ok (.aload_n 0, 1) := by decide +kernel
theorem dX2_on_15 : decode cX2_on 15 = .ok (.getfield 10, 3) := by decide +kernel
theorem dX2_on_18 : decode cX2_on 18 = .ok (.aload_n 0, 1) := by decide +kernel
theorem dX2_on_19 : decode cX2_on 19 = .ok (.getfield 19, 3) := by decide +kernel
theorem dX2_on_22 : decode cX2_on 22 = .ok (.invokevirtual 77, 3) := by decide +kernel
theorem dX2_on_25 : decode cX2_on 25 = .ok (.aload_n 0, 1) := by decide +kernel
theorem dX2_on_26 : decode cX2_on 26 = .ok (.getfield 10, 3) := by decide +kernel
theorem dX2_on_29 : decode cX2_on 29 = .ok (.getfield 235, 3) := by decide +kernel
theorem dX2_on_32 : decode cX2_on 32 = .ok (.ireturn, 1) := by decide +kernel
theorem dX2_count_0 : decode cX2_count 0 = .ok (.iload_n 1, 1) := by decide +kernel
theorem dX2_count_1 : decode cX2_count 1 = .ok (.tableswitch 108 0 7 #[47, 55, 63, 71, 79, 87, 95, 100], 47) := by decide +kernel
theorem dX2_count_48 : decode cX2_count 48 = .ok (.aload_n 0, 1) := by decide +kernel
theorem dX2_count_49 : decode cX2_count 49 = .ok (.getfield 10, 3) := by decide +kernel
theorem dX2_count_52 : decode cX2_count 52 = .ok (.getfield 171, 3) := by decide +kernel
theorem dX2_count_55 : decode cX2_count 55 = .ok (.ireturn, 1) := by decide +kernel
theorem dX2_count_56 : decode cX2_count 56 = .ok (.aload_n 0, 1) := by decide +kernel
theorem dX2_count_57 : decode cX2_count 57 = .ok (.getfield 10, 3) := by decide +kernel
theorem dX2_count_60 : decode cX2_count 60 = .ok (.getfield 235, 3) := by decide +kernel
theorem dX2_count_63 : decode cX2_count 63 = .ok (.ireturn, 1) := by decide +kernel
theorem dX2_count_64 : decode cX2_count 64 = .ok (.aload_n 0, 1) := by decide +kernel
theorem dX2_count_65 : decode cX2_count 65 = .ok (.getfield 10, 3) := by decide +kernel
theorem dX2_count_68 : decode cX2_count 68 = .ok (.getfield 129, 3) := by decide +kernel
theorem dX2_count_71 : decode cX2_count 71 = .ok (.ireturn, 1) := by decide +kernel
theorem dX2_count_72 : decode cX2_count 72 = .ok (.aload_n 0, 1) := by decide +kernel
theorem dX2_count_73 : decode cX2_count 73 = .ok (.getfield 10, 3) := by decide +kernel
theorem dX2_count_76 : decode cX2_count 76 = .ok (.getfield 132, 3) := by decide +kernel
theorem dX2_count_79 : decode cX2_count 79 = .ok (.ireturn, 1) := by decide +kernel
theorem dX2_count_80 : decode cX2_count 80 = .ok (.aload_n 0, 1) := by decide +kernel
theorem dX2_count_81 : decode cX2_count 81 = .ok (.getfield 10, 3) := by decide +kernel
theorem dX2_count_84 : decode cX2_count 84 = .ok (.getfield 114, 3) := by decide +kernel
theorem dX2_count_87 : decode cX2_count 87 = .ok (.ireturn, 1) := by decide +kernel
theorem dX2_count_88 : decode cX2_count 88 = .ok (.aload_n 0, 1) := by decide +kernel
theorem dX2_count_89 : decode cX2_count 89 = .ok (.getfield 10, 3) := by decide +kernel
theorem dX2_count_92 : decode cX2_count 92 = .ok (.invokevirtual 153, 3) := by decide +kernel
theorem dX2_count_95 : decode cX2_count 95 = .ok (.ireturn, 1) := by decide +kernel
theorem dX2_count_96 : decode cX2_count 96 = .ok (.aload_n 0, 1) := by decide +kernel
theorem dX2_count_97 : decode cX2_count 97 = .ok (.getfield 36, 3) := by decide +kernel
theorem dX2_count_100 : decode cX2_count 100 = .ok (.ireturn, 1) := by decide +kernel
theorem dX2_count_101 : decode cX2_count 101 = .ok (.aload_n 0, 1) := by decide +kernel
theorem dX2_count_102 : decode cX2_count 102 = .ok (.getfield 25, 3) := by decide +kernel
theorem dX2_count_105 : decode cX2_count 105 = .ok (.getfield 56, 3) := by decide +kernel
theorem dX2_count_108 : decode cX2_count 108 = .ok (.ireturn, 1) := by decide +kernel
theorem dX2_count_109 : decode cX2_count 109 = .ok (.aload_n 0, 1) := by decide +kernel
