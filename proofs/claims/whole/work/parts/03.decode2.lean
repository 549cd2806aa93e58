theorem dX3_send_122 : decode cX3_send 122 = .ok (.ishl, 1) := by decide +kernel
theorem dX3_send_123 : decode cX3_send 123 = .ok (.iconst 1, 1) := by decide +kernel
theorem dX3_send_124 : decode cX3_send 124 = .ok (.isub, 1) := by decide +kernel
theorem dX3_send_125 : decode cX3_send 125 = .ok (.iconst 1, 1) := by decide +kernel
theorem dX3_send_126 : decode cX3_send 126 = .ok (.iload 6, 2) := by decide +kernel
theorem dX3_send_128 : decode cX3_send 128 = .ok (.ishl, 1) := by decide +kernel
theorem dX3_send_129 : decode cX3_send 129 = .ok (.iconst (-1), 1) := by decide +kernel
theorem dX3_send_130 : decode cX3_send 130 = .ok (.ixor, 1) := by decide +kernel
theorem dX3_send_131 : decode cX3_send 131 = .ok (.iand, 1) := by decide +kernel
theorem dX3_send_132 : decode cX3_send 132 = .ok (.aload_n 0, 1) := by decide +kernel
theorem dX3_send_133 : decode cX3_send 133 = .ok (.getfield 13, 3) := by decide +kernel
theorem dX3_send_136 : decode cX3_send 136 = .ok (.invokestatic 152, 3) := by decide +kernel
theorem dX3_send_139 : decode cX3_send 139 = .ok (.iconst (-1), 1) := by decide +kernel
theorem dX3_send_140 : decode cX3_send 140 = .ok (.ixor, 1) := by decide +kernel
theorem dX3_send_141 : decode cX3_send 141 = .ok (.iand, 1) := by decide +kernel
theorem dX3_send_142 : decode cX3_send 142 = .ok (.invokestatic 120, 3) := by decide +kernel
theorem dX3_send_145 : decode cX3_send 145 = .ok (.istore 7, 2) := by decide +kernel
theorem dX3_send_147 : decode cX3_send 147 = .ok (.iload 7, 2) := by decide +kernel
theorem dX3_send_149 : decode cX3_send 149 = .ok (.iload 5, 2) := by decide +kernel
theorem dX3_send_151 : decode cX3_send 151 = .ok (.if_icmp .gt 6, 3) := by decide +kernel
theorem dX3_send_154 : decode cX3_send 154 = .ok (.goto 11, 3) := by decide +kernel
theorem dX3_send_157 : decode cX3_send 157 = .ok (.iload 6, 2) := by decide +kernel
theorem dX3_send_159 : decode cX3_send 159 = .ok (.istore 4, 2) := by decide +kernel
theorem dX3_send_161 : decode cX3_send 161 = .ok (.iload 7, 2) := by decide +kernel
theorem dX3_send_163 : decode cX3_send 163 = .ok (.istore 5, 2) := by decide +kernel
theorem dX3_send_165 : decode cX3_send 165 = .ok (.iinc 6 1, 3) := by decide +kernel
theorem dX3_send_168 : decode cX3_send 168 = .ok (.goto (-124), 3) := by decide +kernel
theorem dX3_send_171 : decode cX3_send 171 = .ok (.iload 4, 2) := by decide +kernel
theorem dX3_send_173 : decode cX3_send 173 = .ok (.ifCond .lt 7, 3) := by decide +kernel
theorem dX3_send_176 : decode cX3_send 176 = .ok (.iload_n 2, 1) := by decide +kernel
theorem dX3_send_177 : decode cX3_send 177 = .ok (.ifCond .ne 8, 3) := by decide +kernel
theorem dX3_send_180 : decode cX3_send 180 = .ok (.iload 4, 2) := by decide +kernel
theorem dX3_send_182 : decode cX3_send 182 = .ok (.goto 5, 3) := by decide +kernel
theorem dX3_send_185 : decode cX3_send 185 = .ok (.iload 5, 2) := by decide +kernel
theorem dX3_send_187 : decode cX3_send 187 = .ok (.ireturn, 1) := by decide +kernel
theorem dX3_next_0 : decode cX3_next 0 = .ok (.aload_n 0, 1) := by decide +kernel
theorem dX3_next_1 : decode cX3_next 1 = .ok (.getfield 9, 3) := by decide +kernel
theorem dX3_next_4 : decode cX3_next 4 = .ok (.iconst 1, 1) := by decide +kernel
theorem dX3_next_5 : decode cX3_next 5 = .ok (.iaload, 1) := by decide +kernel
theorem dX3_next_6 : decode cX3_next 6 = .ok (.bipush 12, 2) := by decide +kernel
theorem dX3_next_8 : decode cX3_next 8 = .ok (.irem, 1) := by decide +kernel
theorem dX3_next_9 : decode cX3_next 9 = .ok (.ifCond .ne 7, 3) := by decide +kernel
theorem dX3_next_12 : decode cX3_next 12 = .ok (.iconst 0, 1) := by decide +kernel
theorem dX3_next_13 : decode cX3_next 13 = .ok (.goto 11, 3) := by decide +kernel
theorem dX3_next_16 : decode cX3_next 16 = .ok (.aload_n 0, 1) := by decide +kernel
theorem dX3_next_17 : decode cX3_next 17 = .ok (.getfield 9, 3) := by decide +kernel
theorem dX3_next_20 : decode cX3_next 20 = .ok (.iconst 5, 1) := by decide +kernel
theorem dX3_next_21 : decode cX3_next 21 = .ok (.invokestatic 117, 3) := by decide +kernel
theorem dX3_next_24 : decode cX3_next 24 = .ok (.istore_n 1, 1) := by decide +kernel
theorem dX3_next_25 : decode cX3_next 25 = .ok (.aload_n 0, 1) := by decide +kernel
theorem dX3_next_26 : decode cX3_next 26 = .ok (.iconst 1, 1) := by decide +kernel
theorem dX3_next_27 : decode cX3_next 27 = .ok (.invokevirtual 137, 3) := by decide +kernel
theorem dX3_next_30 : decode cX3_next 30 = .ok (.aload_n 0, 1) := by decide +kernel
theorem dX3_next_31 : decode cX3_next 31 = .ok (.getfield 13, 3) := by decide +kernel
theorem dX3_next_34 : decode cX3_next 34 = .ok (.iconst 5, 1) := by decide +kernel
theorem dX3_next_35 : decode cX3_next 35 = .ok (.invokestatic 117, 3) := by decide +kernel
theorem dX3_next_38 : decode cX3_next 38 = .ok (.iload_n 1, 1) := by decide +kernel
theorem dX3_next_39 : decode cX3_next 39 = .ok (.iconst (-1), 1) := by decide +kernel
theorem dX3_next_40 : decode cX3_next 40 = .ok (.ixor, 1) := by decide +kernel
theorem dX3_next_41 : decode cX3_next 41 = .ok (.iand, 1) := by decide +kernel
theorem dX3_next_42 : decode cX3_next 42 = .ok (.ireturn, 1) := by decide +kernel
theorem dX3_extreme_0 : decode cX3_extreme 0 = .ok (.bipush (-9), 2) := by decide +kernel
theorem dX3_extreme_2 : decode cX3_extreme 2 = .ok (.istore_n 3, 1) := by decide +kernel
theorem dX3_extreme_3 : decode cX3_extreme 3 = .ok (.iconst 0, 1) := by decide +kernel
theorem dX3_extreme_4 : decode cX3_extreme 4 = .ok (.istore 4, 2) := by decide +kernel
theorem dX3_extreme_6 : decode cX3_extreme 6 = .ok (.iconst 0, 1) := by decide +kernel
theorem dX3_extreme_7 : decode cX3_extreme 7 = .ok (.istore 5, 2) := by decide +kernel
theorem dX3_extreme_9 : decode cX3_extreme 9 = .ok (.iload 5, 2) := by decide +kernel
theorem dX3_extreme_11 : decode cX3_extreme 11 = .ok (.aload_n 0, 1) := by decide +kernel
theorem dX3_extreme_12 : decode cX3_extreme 12 = .ok (.getfield 9, 3) := by decide +kernel
theorem dX3_extreme_15 : decode cX3_extreme 15 = .ok (.iconst 0, 1) := by decide +kernel
theorem dX3_extreme_16 : decode cX3_extreme 16 = .ok (.iaload, 1) := by decide +kernel
theorem dX3_extreme_17 : decode cX3_extreme 17 = .ok (.if_icmp .ge 61, 3) := by decide +kernel
theorem dX3_extreme_20 : decode cX3_extreme 20 = .ok (.iload_n 2, 1) := by decide +kernel
theorem dX3_extreme_21 : decode cX3_extreme 21 = .ok (.ifCond .eq 15, 3) := by decide +kernel
theorem dX3_extreme_24 : decode cX3_extreme 24 = .ok (.aload_n 0, 1) := by decide +kernel
theorem dX3_extreme_25 : decode cX3_extreme 25 = .ok (.getfield 9, 3) := by decide +kernel
theorem dX3_extreme_28 : decode cX3_extreme 28 = .ok (.iload 5, 2) := by decide +kernel
theorem dX3_extreme_30 : decode cX3_extreme 30 = .ok (.invokestatic 62, 3) := by decide +kernel
theorem dX3_extreme_33 : decode cX3_extreme 33 = .ok (.goto 16, 3) := by decide +kernel
theorem dX3_extreme_36 : decode cX3_extreme 36 = .ok (.iload_n 1, 1) := by decide +kernel
theorem dX3_extreme_37 : decode cX3_extreme 37 = .ok (.aload_n 0, 1) := by decide +kernel
theorem dX3_extreme_38 : decode cX3_extreme 38 = .ok (.getfield 9, 3) := by decide +kernel
theorem dX3_extreme_41 : decode cX3_extreme 41 = .ok (.iload 5, 2) := by decide +kernel
theorem dX3_extreme_43 : decode cX3_extreme 43 = .ok (.iconst 3, 1) := by decide +kernel
theorem dX3_extreme_44 : decode cX3_extreme 44 = .ok (.invokestatic 52, 3) := by decide +kernel
theorem dX3_extreme_47 : decode cX3_extreme 47 = .ok (.iaload, 1) := by decide +kernel
theorem dX3_extreme_48 : decode cX3_extreme 48 = .ok (.imul, 1) := by decide +kernel
theorem dX3_extreme_49 : decode cX3_extreme 49 = .ok (.istore 6, 2) := by decide +kernel
theorem dX3_extreme_51 : decode cX3_extreme 51 = .ok (.iload_n 3, 1) := by decide +kernel
theorem dX3_extreme_52 : decode cX3_extreme 52 = .ok (.ifCond .lt 13, 3) := by decide +kernel
theorem dX3_extreme_55 : decode cX3_extreme 55 = .ok (.iload 6, 2) := by decide +kernel
theorem dX3_extreme_57 : decode cX3_extreme 57 = .ok (.iload 4, 2) := by decide +kernel
theorem dX3_extreme_59 : decode cX3_extreme 59 = .ok (.if_icmp .gt 6, 3) := by decide +kernel
theorem dX3_extreme_62 : decode cX3_extreme 62 = .ok (.goto 10, 3) := by decide +kernel
theorem dX3_extreme_65 : decode cX3_extreme 65 = .ok (.iload 5, 2) := by decide +kernel
theorem dX3_extreme_67 : decode cX3_extreme 67 = .ok (.istore_n 3, 1) := by decide +kernel
theorem dX3_extreme_68 : decode cX3_extreme 68 = .ok (.iload 6, 2) := by decide +kernel
theorem dX3_extreme_70 : decode cX3_extreme 70 = .ok (.istore 4, 2) := by decide +kernel
theorem dX3_extreme_72 : decode cX3_extreme 72 = .ok (.iinc 5 1, 3) := by decide +kernel
theorem dX3_extreme_75 : decode cX3_extreme 75 = .ok (.goto (-66), 3) := by decide +kernel
theorem dX3_extreme_78 : decode cX3_extreme 78 = .ok (.iload_n 3, 1) := by decide +kernel
theorem dX3_extreme_79 : decode cX3_extreme 79 = .ok (.ireturn, 1) := by decide +kernel
theorem dX3_richest_0 : decode cX3_richest 0 = .ok (.iload_n 1, 1) := by decide +kernel
theorem dX3_richest_1 : decode cX3_richest 1 = .ok (.ifCond .ne 12, 3) := by decide +kernel
theorem dX3_richest_4 : decode cX3_richest 4 = .ok (.aload_n 0, 1) := by decide +kernel
theorem dX3_richest_5 : decode cX3_richest 5 = .ok (.iconst 1, 1) := by decide +kernel
theorem dX3_richest_6 : decode cX3_richest 6 = .ok (.iconst 0, 1) := by decide +kernel
theorem dX3_richest_7 : decode cX3_richest 7 = .ok (.invokevirtual 161, 3) := by decide +kernel
theorem dX3_richest_10 : decode cX3_richest 10 = .ok (.goto 37, 3) := by decide +kernel
theorem dX3_richest_13 : decode cX3_richest 13 = .ok (.iload_n 1, 1) := by decide +kernel
theorem dX3_richest_14 : decode cX3_richest 14 = .ok (.iconst 1, 1) := by decide +kernel
theorem dX3_richest_15 : decode cX3_richest 15 = .ok (.if_icmp .ne 12, 3) := by decide +kernel
theorem dX3_richest_18 : decode cX3_richest 18 = .ok (.aload_n 0, 1) := by decide +kernel
theorem dX3_richest_19 : decode cX3_richest 19 = .ok (.iconst (-1), 1) := by decide +kernel
theorem dX3_richest_20 : decode cX3_richest 20 = .ok (.iconst 0, 1) := by decide +kernel
theorem dX3_richest_21 : decode cX3_richest 21 = .ok (.invokevirtual 161, 3) := by decide +kernel
theorem dX3_richest_24 : decode cX3_richest 24 = .ok (.goto 23, 3) := by decide +kernel
theorem dX3_richest_27 : decode cX3_richest 27 = .ok (.iload_n 1, 1) := by decide +kernel
theorem dX3_richest_28 : decode cX3_richest 28 = .ok (.iconst 2, 1) := by decide +kernel
theorem dX3_richest_29 : decode cX3_richest 29 = .ok (.if_icmp .ne 12, 3) := by decide +kernel
theorem dX3_richest_32 : decode cX3_richest 32 = .ok (.aload_n 0, 1) := by decide +kernel
theorem dX3_richest_33 : decode cX3_richest 33 = .ok (.iconst 1, 1) := by decide +kernel
theorem dX3_richest_34 : decode cX3_richest 34 = .ok (.iconst 1, 1) := by decide +kernel
theorem dX3_richest_35 : decode cX3_richest 35 = .ok (.invokevirtual 161, 3) := by decide +kernel
theorem dX3_richest_38 : decode cX3_richest 38 = .ok (.goto 9, 3) := by decide +kernel
theorem dX3_richest_41 : decode cX3_richest 41 = .ok (.aload_n 0, 1) := by decide +kernel
theorem dX3_richest_42 : decode cX3_richest 42 = .ok (.bipush (-2), 2) := by decide +kernel
theorem dX3_richest_44 : decode cX3_richest 44 = .ok (.invokevirtual 36, 3) := by decide +kernel
theorem dX3_richest_47 : decode cX3_richest 47 = .ok (.ireturn, 1) := by decide +kernel
theorem dX3_quiet_0 : decode cX3_quiet 0 = .ok (.iload_n 1, 1) := by decide +kernel
theorem dX3_quiet_1 : decode cX3_quiet 1 = .ok (.iconst 0, 1) := by decide +kernel
theorem dX3_quiet_2 : decode cX3_quiet 2 = .ok (.bipush 11, 2) := by decide +kernel
theorem dX3_quiet_4 : decode cX3_quiet 4 = .ok (.invokestatic 126, 3) := by decide +kernel
theorem dX3_quiet_7 : decode cX3_quiet 7 = .ok (.istore_n 2, 1) := by decide +kernel
theorem dX3_quiet_8 : decode cX3_quiet 8 = .ok (.iload_n 2, 1) := by decide +kernel
theorem dX3_quiet_9 : decode cX3_quiet 9 = .ok (.ifCond .eq 9, 3) := by decide +kernel
theorem dX3_quiet_12 : decode cX3_quiet 12 = .ok (.aload_n 0, 1) := by decide +kernel
theorem dX3_quiet_13 : decode cX3_quiet 13 = .ok (.iload_n 2, 1) := by decide +kernel
theorem dX3_quiet_14 : decode cX3_quiet 14 = .ok (.invokevirtual 36, 3) := by decide +kernel
theorem dX3_quiet_17 : decode cX3_quiet 17 = .ok (.ireturn, 1) := by decide +kernel
theorem dX3_quiet_18 : decode cX3_quiet 18 = .ok (.iconst 0, 1) := by decide +kernel
theorem dX3_quiet_19 : decode cX3_quiet 19 = .ok (.istore_n 3, 1) := by decide +kernel
theorem dX3_quiet_20 : decode cX3_quiet 20 = .ok (.iconst 0, 1) := by decide +kernel
theorem dX3_quiet_21 : decode cX3_quiet 21 = .ok (.istore 4, 2) := by decide +kernel
theorem dX3_quiet_23 : decode cX3_quiet 23 = .ok (.iload 4, 2) := by decide +kernel
theorem dX3_quiet_25 : decode cX3_quiet 25 = .ok (.aload_n 0, 1) := by decide +kernel
theorem dX3_quiet_26 : decode cX3_quiet 26 = .ok (.getfield 9, 3) := by decide +kernel
theorem dX3_quiet_29 : decode cX3_quiet 29 = .ok (.iconst 0, 1) := by decide +kernel
theorem dX3_quiet_30 : decode cX3_quiet 30 = .ok (.iaload, 1) := by decide +kernel
theorem dX3_quiet_31 : decode cX3_quiet 31 = .ok (.if_icmp .ge 30, 3) := by decide +kernel
theorem dX3_quiet_34 : decode cX3_quiet 34 = .ok (.iload_n 3, 1) := by decide +kernel
theorem dX3_quiet_35 : decode cX3_quiet 35 = .ok (.aload_n 0, 1) := by decide +kernel
theorem dX3_quiet_36 : decode cX3_quiet 36 = .ok (.getfield 9, 3) := by decide +kernel
theorem dX3_quiet_39 : decode cX3_quiet 39 = .ok (.iload 4, 2) := by decide +kernel
theorem dX3_quiet_41 : decode cX3_quiet 41 = .ok (.invokestatic 62, 3) := by decide +kernel
theorem dX3_quiet_44 : decode cX3_quiet 44 = .ok (.iload_n 1, 1) := by decide +kernel
theorem dX3_quiet_45 : decode cX3_quiet 45 = .ok (.if_icmp .le 7, 3) := by decide +kernel
theorem dX3_quiet_48 : decode cX3_quiet 48 = .ok (.iconst 1, 1) := by decide +kernel
theorem dX3_quiet_49 : decode cX3_quiet 49 = .ok (.goto 4, 3) := by decide +kernel
theorem dX3_quiet_52 : decode cX3_quiet 52 = .ok (.iconst 0, 1) := by decide +kernel
theorem dX3_quiet_53 : decode cX3_quiet 53 = .ok (.iadd, 1) := by decide +kernel
theorem dX3_quiet_54 : decode cX3_quiet 54 = .ok (.istore_n 3, 1) := by decide +kernel
theorem dX3_quiet_55 : decode cX3_quiet 55 = .ok (.iinc 4 1, 3) := by decide +kernel
theorem dX3_quiet_58 : decode cX3_quiet 58 = .ok (.goto (-35), 3) := by decide +kernel
theorem dX3_quiet_61 : decode cX3_quiet 61 = .ok (.iload_n 3, 1) := by decide +kernel
theorem dX3_quiet_62 : decode cX3_quiet 62 = .ok (.ireturn, 1) := by decide +kernel
theorem dX3_thirst_0 : decode cX3_thirst 0 = .ok (.iconst 0, 1) := by decide +kernel
theorem dX3_thirst_1 : decode cX3_thirst 1 = .ok (.istore_n 1, 1) := by decide +kernel
theorem dX3_thirst_2 : decode cX3_thirst 2 = .ok (.iconst 0, 1) := by decide +kernel
theorem dX3_thirst_3 : decode cX3_thirst 3 = .ok (.istore_n 2, 1) := by decide +kernel
theorem dX3_thirst_4 : decode cX3_thirst 4 = .ok (.iload_n 2, 1) := by decide +kernel
theorem dX3_thirst_5 : decode cX3_thirst 5 = .ok (.aload_n 0, 1) := by decide +kernel
theorem dX3_thirst_6 : decode cX3_thirst 6 = .ok (.getfield 9, 3) := by decide +kernel
theorem dX3_thirst_9 : decode cX3_thirst 9 = .ok (.iconst 0, 1) := by decide +kernel
theorem dX3_thirst_10 : decode cX3_thirst 10 = .ok (.iaload, 1) := by decide +kernel
theorem dX3_thirst_11 : decode cX3_thirst 11 = .ok (.if_icmp .ge 25, 3) := by decide +kernel
theorem dX3_thirst_14 : decode cX3_thirst 14 = .ok (.iload_n 1, 1) := by decide +kernel
theorem dX3_thirst_15 : decode cX3_thirst 15 = .ok (.aload_n 0, 1) := by decide +kernel
theorem dX3_thirst_16 : decode cX3_thirst 16 = .ok (.getfield 9, 3) := by decide +kernel
theorem dX3_thirst_19 : decode cX3_thirst 19 = .ok (.iload_n 2, 1) := by decide +kernel
theorem dX3_thirst_20 : decode cX3_thirst 20 = .ok (.iconst 0, 1) := by decide +kernel
theorem dX3_thirst_21 : decode cX3_thirst 21 = .ok (.invokestatic 52, 3) := by decide +kernel
theorem dX3_thirst_24 : decode cX3_thirst 24 = .ok (.iaload, 1) := by decide +kernel
theorem dX3_thirst_25 : decode cX3_thirst 25 = .ok (.invokestatic 70, 3) := by decide +kernel
theorem dX3_thirst_28 : decode cX3_thirst 28 = .ok (.iadd, 1) := by decide +kernel
theorem dX3_thirst_29 : decode cX3_thirst 29 = .ok (.istore_n 1, 1) := by decide +kernel
theorem dX3_thirst_30 : decode cX3_thirst 30 = .ok (.iinc 2 1, 3) := by decide +kernel
theorem dX3_thirst_33 : decode cX3_thirst 33 = .ok (.goto (-29), 3) := by decide +kernel
theorem dX3_thirst_36 : decode cX3_thirst 36 = .ok (.iload_n 1, 1) := by decide +kernel
theorem dX3_thirst_37 : decode cX3_thirst 37 = .ok (.ireturn, 1) := by decide +kernel
theorem dX3_lasts_0 : decode cX3_lasts 0 = .ok (.aload_n 0, 1) := by decide +kernel
theorem dX3_lasts_1 : decode cX3_lasts 1 = .ok (.iload_n 1, 1) := by decide +kernel
theorem dX3_lasts_2 : decode cX3_lasts 2 = .ok (.invokevirtual 100, 3) := by decide +kernel
theorem dX3_lasts_5 : decode cX3_lasts 5 = .ok (.ifCond .eq 30, 3) := by decide +kernel
theorem dX3_lasts_8 : decode cX3_lasts 8 = .ok (.aload_n 0, 1) := by decide +kernel
theorem dX3_lasts_9 : decode cX3_lasts 9 = .ok (.getfield 9, 3) := by decide +kernel
theorem dX3_lasts_12 : decode cX3_lasts 12 = .ok (.iload_n 1, 1) := by decide +kernel
theorem dX3_lasts_13 : decode cX3_lasts 13 = .ok (.iconst 3, 1) := by decide +kernel
theorem dX3_lasts_14 : decode cX3_lasts 14 = .ok (.invokestatic 52, 3) := by decide +kernel
theorem dX3_lasts_17 : decode cX3_lasts 17 = .ok (.iaload, 1) := by decide +kernel
theorem dX3_lasts_18 : decode cX3_lasts 18 = .ok (.aload_n 0, 1) := by decide +kernel
theorem dX3_lasts_19 : decode cX3_lasts 19 = .ok (.getfield 9, 3) := by decide +kernel
theorem dX3_lasts_22 : decode cX3_lasts 22 = .ok (.iload_n 1, 1) := by decide +kernel
theorem dX3_lasts_23 : decode cX3_lasts 23 = .ok (.iconst 0, 1) := by decide +kernel
theorem dX3_lasts_24 : decode cX3_lasts 24 = .ok (.invokestatic 52, 3) := by decide +kernel
theorem dX3_lasts_27 : decode cX3_lasts 27 = .ok (.iaload, 1) := by decide +kernel
theorem dX3_lasts_28 : decode cX3_lasts 28 = .ok (.invokestatic 70, 3) := by decide +kernel
theorem dX3_lasts_31 : decode cX3_lasts 31 = .ok (.idiv, 1) := by decide +kernel
theorem dX3_lasts_32 : decode cX3_lasts 32 = .ok (.goto 8, 3) := by decide +kernel
theorem dX3_lasts_35 : decode cX3_lasts 35 = .ok (.aload_n 0, 1) := by decide +kernel
theorem dX3_lasts_36 : decode cX3_lasts 36 = .ok (.iconst (-1), 1) := by decide +kernel
theorem dX3_lasts_37 : decode cX3_lasts 37 = .ok (.invokevirtual 36, 3) := by decide +kernel
theorem dX3_lasts_40 : decode cX3_lasts 40 = .ok (.ireturn, 1) := by decide +kernel
theorem dX3_carries_0 : decode cX3_carries 0 = .ok (.iload_n 1, 1) := by decide +kernel
theorem dX3_carries_1 : decode cX3_carries 1 = .ok (.iconst 0, 1) := by decide +kernel
theorem dX3_carries_2 : decode cX3_carries 2 = .ok (.iconst 1, 1) := by decide +kernel
theorem dX3_carries_3 : decode cX3_carries 3 = .ok (.invokestatic 40, 3) := by decide +kernel
theorem dX3_carries_6 : decode cX3_carries 6 = .ok (.ifCond .ne 10, 3) := by decide +kernel
theorem dX3_carries_9 : decode cX3_carries 9 = .ok (.aload_n 0, 1) := by decide +kernel
theorem dX3_carries_10 : decode cX3_carries 10 = .ok (.bipush (-2), 2) := by decide +kernel
theorem dX3_carries_12 : decode cX3_carries 12 = .ok (.invokevirtual 36, 3) := by decide +kernel
theorem dX3_carries_15 : decode cX3_carries 15 = .ok (.ireturn, 1) := by decide +kernel
theorem dX3_carries_16 : decode cX3_carries 16 = .ok (.iconst 0, 1) := by decide +kernel
theorem dX3_carries_17 : decode cX3_carries 17 = .ok (.istore_n 2, 1) := by decide +kernel
theorem dX3_carries_18 : decode cX3_carries 18 = .ok (.iconst 0, 1) := by decide +kernel
theorem dX3_carries_19 : decode cX3_carries 19 = .ok (.istore_n 3, 1) := by decide +kernel
theorem dX3_carries_20 : decode cX3_carries 20 = .ok (.iconst 0, 1) := by decide +kernel
theorem dX3_carries_21 : decode cX3_carries 21 = .ok (.istore 4, 2) := by decide +kernel
theorem dX3_carries_23 : decode cX3_carries 23 = .ok (.iload 4, 2) := by decide +kernel
theorem dX3_carries_25 : decode cX3_carries 25 = .ok (.aload_n 0, 1) := by decide +kernel
theorem dX3_carries_26 : decode cX3_carries 26 = .ok (.getfield 9, 3) := by decide +kernel
theorem dX3_carries_29 : decode cX3_carries 29 = .ok (.iconst 0, 1) := by decide +kernel
theorem dX3_carries_30 : decode cX3_carries 30 = .ok (.iaload, 1) := by decide +kernel
theorem dX3_carries_31 : decode cX3_carries 31 = .ok (.if_icmp .ge 83, 3) := by decide +kernel
theorem dX3_carries_34 : decode cX3_carries 34 = .ok (.aload_n 0, 1) := by decide +kernel
theorem dX3_carries_35 : decode cX3_carries 35 = .ok (.getfield 9, 3) := by decide +kernel
theorem dX3_carries_38 : decode cX3_carries 38 = .ok (.iload 4, 2) := by decide +kernel
theorem dX3_carries_40 : decode cX3_carries 40 = .ok (.bipush 6, 2) := by decide +kernel
theorem dX3_carries_42 : decode cX3_carries 42 = .ok (.invokestatic 52, 3) := by decide +kernel
theorem dX3_carries_45 : decode cX3_carries 45 = .ok (.iaload, 1) := by decide +kernel
theorem dX3_carries_46 : decode cX3_carries 46 = .ok (.istore 5, 2) := by decide +kernel
theorem dX3_carries_48 : decode cX3_carries 48 = .ok (.iload 5, 2) := by decide +kernel
theorem dX3_carries_50 : decode cX3_carries 50 = .ok (.iload 4, 2) := by decide +kernel
theorem dX3_carries_52 : decode cX3_carries 52 = .ok (.if_icmp .eq 56, 3) := by decide +kernel
theorem dX3_carries_55 : decode cX3_carries 55 = .ok (.iload 5, 2) := by decide +kernel
theorem dX3_carries_57 : decode cX3_carries 57 = .ok (.aload_n 0, 1) := by decide +kernel
theorem dX3_carries_58 : decode cX3_carries 58 = .ok (.getfield 9, 3) := by decide +kernel
theorem dX3_carries_61 : decode cX3_carries 61 = .ok (.iconst 0, 1) := by decide +kernel
theorem dX3_carries_62 : decode cX3_carries 62 = .ok (.iaload, 1) := by decide +kernel
theorem dX3_carries_63 : decode cX3_carries 63 = .ok (.if_icmp .lt 6, 3) := by decide +kernel
theorem dX3_carries_66 : decode cX3_carries 66 = .ok (.goto 42, 3) := by decide +kernel
theorem dX3_carries_69 : decode cX3_carries 69 = .ok (.iload_n 2, 1) := by decide +kernel
theorem dX3_carries_70 : decode cX3_carries 70 = .ok (.iconst 1, 1) := by decide +kernel
theorem dX3_carries_71 : decode cX3_carries 71 = .ok (.iload 5, 2) := by decide +kernel
theorem dX3_carries_73 : decode cX3_carries 73 = .ok (.ishl, 1) := by decide +kernel
theorem dX3_carries_74 : decode cX3_carries 74 = .ok (.ior, 1) := by decide +kernel
theorem dX3_carries_75 : decode cX3_carries 75 = .ok (.istore_n 2, 1) := by decide +kernel
theorem dX3_carries_76 : decode cX3_carries 76 = .ok (.iload_n 3, 1) := by decide +kernel
theorem dX3_carries_77 : decode cX3_carries 77 = .ok (.iload 5, 2) := by decide +kernel
theorem dX3_carries_79 : decode cX3_carries 79 = .ok (.iload 4, 2) := by decide +kernel
theorem dX3_carries_81 : decode cX3_carries 81 = .ok (.if_icmp .le 24, 3) := by decide +kernel
theorem dX3_carries_84 : decode cX3_carries 84 = .ok (.aload_n 0, 1) := by decide +kernel
theorem dX3_carries_85 : decode cX3_carries 85 = .ok (.getfield 9, 3) := by decide +kernel
theorem dX3_carries_88 : decode cX3_carries 88 = .ok (.iload 5, 2) := by decide +kernel
theorem dX3_carries_90 : decode cX3_carries 90 = .ok (.bipush 6, 2) := by decide +kernel
theorem dX3_carries_92 : decode cX3_carries 92 = .ok (.invokestatic 52, 3) := by decide +kernel
theorem dX3_carries_95 : decode cX3_carries 95 = .ok (.iaload, 1) := by decide +kernel
theorem dX3_carries_96 : decode cX3_carries 96 = .ok (.iload 4, 2) := by decide +kernel
theorem dX3_carries_98 : decode cX3_carries 98 = .ok (.if_icmp .ne 7, 3) := by decide +kernel
theorem dX3_carries_101 : decode cX3_carries 101 = .ok (.iconst 1, 1) := by decide +kernel
theorem dX3_carries_102 : decode cX3_carries 102 = .ok (.goto 4, 3) := by decide +kernel
theorem dX3_carries_105 : decode cX3_carries 105 = .ok (.iconst 0, 1) := by decide +kernel
theorem dX3_carries_106 : decode cX3_carries 106 = .ok (.iadd, 1) := by decide +kernel
theorem dX3_carries_107 : decode cX3_carries 107 = .ok (.istore_n 3, 1) := by decide +kernel
theorem dX3_carries_108 : decode cX3_carries 108 = .ok (.iinc 4 1, 3) := by decide +kernel
theorem dX3_carries_111 : decode cX3_carries 111 = .ok (.goto (-88), 3) := by decide +kernel
theorem dX3_carries_114 : decode cX3_carries 114 = .ok (.iload_n 1, 1) := by decide +kernel
theorem dX3_carries_115 : decode cX3_carries 115 = .ok (.ifCond .ne 7, 3) := by decide +kernel
theorem dX3_carries_118 : decode cX3_carries 118 = .ok (.iload_n 2, 1) := by decide +kernel
theorem dX3_carries_119 : decode cX3_carries 119 = .ok (.goto 4, 3) := by decide +kernel
theorem dX3_carries_122 : decode cX3_carries 122 = .ok (.iload_n 3, 1) := by decide +kernel
theorem dX3_carries_123 : decode cX3_carries 123 = .ok (.ireturn, 1) := by decide +kernel
theorem dX3_hasBy_0 : decode cX3_hasBy 0 = .ok (.aload_n 0, 1) := by decide +kernel
theorem dX3_hasBy_1 : decode cX3_hasBy 1 = .ok (.getfield 9, 3) := by decide +kernel
theorem dX3_hasBy_4 : decode cX3_hasBy 4 = .ok (.aload_n 0, 1) := by decide +kernel
theorem dX3_hasBy_5 : decode cX3_hasBy 5 = .ok (.getfield 13, 3) := by decide +kernel
theorem dX3_hasBy_8 : decode cX3_hasBy 8 = .ok (.invokestatic 110, 3) := by decide +kernel
theorem dX3_hasBy_11 : decode cX3_hasBy 11 = .ok (.iload_n 3, 1) := by decide +kernel
theorem dX3_hasBy_12 : decode cX3_hasBy 12 = .ok (.iconst 1, 1) := by decide +kernel
theorem dX3_hasBy_13 : decode cX3_hasBy 13 = .ok (.if_icmp .ne 14, 3) := by decide +kernel
theorem dX3_hasBy_16 : decode cX3_hasBy 16 = .ok (.aload_n 0, 1) := by decide +kernel
theorem dX3_hasBy_17 : decode cX3_hasBy 17 = .ok (.getfield 13, 3) := by decide +kernel
theorem dX3_hasBy_20 : decode cX3_hasBy 20 = .ok (.iload_n 2, 1) := by decide +kernel
theorem dX3_hasBy_21 : decode cX3_hasBy 21 = .ok (.iconst 4, 1) := by decide +kernel
theorem dX3_hasBy_22 : decode cX3_hasBy 22 = .ok (.invokestatic 52, 3) := by decide +kernel
theorem dX3_hasBy_25 : decode cX3_hasBy 25 = .ok (.iconst 1, 1) := by decide +kernel
theorem dX3_hasBy_26 : decode cX3_hasBy 26 = .ok (.iastore, 1) := by decide +kernel
theorem dX3_hasBy_27 : decode cX3_hasBy 27 = .ok (.iload 5, 2) := by decide +kernel
theorem dX3_hasBy_29 : decode cX3_hasBy 29 = .ok (.iconst 1, 1) := by decide +kernel
theorem dX3_hasBy_30 : decode cX3_hasBy 30 = .ok (.if_icmp .ne 15, 3) := by decide +kernel
theorem dX3_hasBy_33 : decode cX3_hasBy 33 = .ok (.aload_n 0, 1) := by decide +kernel
theorem dX3_hasBy_34 : decode cX3_hasBy 34 = .ok (.getfield 13, 3) := by decide +kernel
theorem dX3_hasBy_37 : decode cX3_hasBy 37 = .ok (.iload 4, 2) := by decide +kernel
theorem dX3_hasBy_39 : decode cX3_hasBy 39 = .ok (.iconst 4, 1) := by decide +kernel
theorem dX3_hasBy_40 : decode cX3_hasBy 40 = .ok (.invokestatic 52, 3) := by decide +kernel
theorem dX3_hasBy_43 : decode cX3_hasBy 43 = .ok (.iconst 1, 1) := by decide +kernel
theorem dX3_hasBy_44 : decode cX3_hasBy 44 = .ok (.iastore, 1) := by decide +kernel
theorem dX3_hasBy_45 : decode cX3_hasBy 45 = .ok (.aload_n 0, 1) := by decide +kernel
theorem dX3_hasBy_46 : decode cX3_hasBy 46 = .ok (.getfield 13, 3) := by decide +kernel
theorem dX3_hasBy_49 : decode cX3_hasBy 49 = .ok (.iload 6, 2) := by decide +kernel
theorem dX3_hasBy_51 : decode cX3_hasBy 51 = .ok (.invokestatic 104, 3) := by decide +kernel
theorem dX3_hasBy_54 : decode cX3_hasBy 54 = .ok (.aload_n 0, 1) := by decide +kernel
theorem dX3_hasBy_55 : decode cX3_hasBy 55 = .ok (.getfield 13, 3) := by decide +kernel
theorem dX3_hasBy_58 : decode cX3_hasBy 58 = .ok (.iload_n 1, 1) := by decide +kernel
theorem dX3_hasBy_59 : decode cX3_hasBy 59 = .ok (.iconst 3, 1) := by decide +kernel
theorem dX3_hasBy_60 : decode cX3_hasBy 60 = .ok (.invokestatic 52, 3) := by decide +kernel
theorem dX3_hasBy_63 : decode cX3_hasBy 63 = .ok (.iaload, 1) := by decide +kernel
theorem dX3_hasBy_64 : decode cX3_hasBy 64 = .ok (.iconst 2, 1) := by decide +kernel
theorem dX3_hasBy_65 : decode cX3_hasBy 65 = .ok (.iload_n 1, 1) := by decide +kernel
theorem dX3_hasBy_66 : decode cX3_hasBy 66 = .ok (.iload_n 2, 1) := by decide +kernel
theorem dX3_hasBy_67 : decode cX3_hasBy 67 = .ok (.if_icmp .ne 7, 3) := by decide +kernel
theorem dX3_hasBy_70 : decode cX3_hasBy 70 = .ok (.iload_n 3, 1) := by decide +kernel
theorem dX3_hasBy_71 : decode cX3_hasBy 71 = .ok (.goto 5, 3) := by decide +kernel
theorem dX3_hasBy_74 : decode cX3_hasBy 74 = .ok (.iload 5, 2) := by decide +kernel
theorem dX3_hasBy_76 : decode cX3_hasBy 76 = .ok (.imul, 1) := by decide +kernel
theorem dX3_hasBy_77 : decode cX3_hasBy 77 = .ok (.iadd, 1) := by decide +kernel
theorem dX3_hasBy_78 : decode cX3_hasBy 78 = .ok (.ireturn, 1) := by decide +kernel
theorem dX3_two_0 : decode cX3_two 0 = .ok (.aload_n 0, 1) := by decide +kernel
theorem dX3_two_1 : decode cX3_two 1 = .ok (.iload_n 1, 1) := by decide +kernel
theorem dX3_two_2 : decode cX3_two 2 = .ok (.invokevirtual 100, 3) := by decide +kernel
theorem dX3_two_5 : decode cX3_two 5 = .ok (.ifCond .eq 26, 3) := by decide +kernel
theorem dX3_two_8 : decode cX3_two 8 = .ok (.aload_n 0, 1) := by decide +kernel
theorem dX3_two_9 : decode cX3_two 9 = .ok (.iload_n 2, 1) := by decide +kernel
theorem dX3_two_10 : decode cX3_two 10 = .ok (.invokevirtual 100, 3) := by decide +kernel
theorem dX3_two_13 : decode cX3_two 13 = .ok (.ifCond .eq 18, 3) := by decide +kernel
theorem dX3_two_16 : decode cX3_two 16 = .ok (.iload_n 1, 1) := by decide +kernel
theorem dX3_two_17 : decode cX3_two 17 = .ok (.iload_n 2, 1) := by decide +kernel
theorem dX3_two_18 : decode cX3_two 18 = .ok (.if_icmp .eq 13, 3) := by decide +kernel
theorem dX3_two_21 : decode cX3_two 21 = .ok (.iload_n 3, 1) := by decide +kernel
theorem dX3_two_22 : decode cX3_two 22 = .ok (.iconst 0, 1) := by decide +kernel
theorem dX3_two_23 : decode cX3_two 23 = .ok (.bipush 24, 2) := by decide +kernel
theorem dX3_two_25 : decode cX3_two 25 = .ok (.invokestatic 126, 3) := by decide +kernel
theorem dX3_two_28 : decode cX3_two 28 = .ok (.goto 4, 3) := by decide +kernel
theorem dX3_two_31 : decode cX3_two 31 = .ok (.iconst (-1), 1) := by decide +kernel
theorem dX3_two_32 : decode cX3_two 32 = .ok (.istore 4, 2) := by decide +kernel
theorem dX3_two_34 : decode cX3_two 34 = .ok (.iload 4, 2) := by decide +kernel
theorem dX3_two_36 : decode cX3_two 36 = .ok (.ifCond .eq 10, 3) := by decide +kernel
theorem dX3_two_39 : decode cX3_two 39 = .ok (.aload_n 0, 1) := by decide +kernel
theorem dX3_two_40 : decode cX3_two 40 = .ok (.iload 4, 2) := by decide +kernel
theorem dX3_two_42 : decode cX3_two 42 = .ok (.invokevirtual 36, 3) := by decide +kernel
theorem dX3_two_45 : decode cX3_two 45 = .ok (.ireturn, 1) := by decide +kernel
theorem dX3_two_46 : decode cX3_two 46 = .ok (.iconst 0, 1) := by decide +kernel
theorem dX3_two_47 : decode cX3_two 47 = .ok (.istore 5, 2) := by decide +kernel
theorem dX3_two_49 : decode cX3_two 49 = .ok (.iload 5, 2) := by decide +kernel
theorem dX3_two_51 : decode cX3_two 51 = .ok (.iconst 4, 1) := by decide +kernel
theorem dX3_two_52 : decode cX3_two 52 = .ok (.if_icmp .ge 88, 3) := by decide +kernel
theorem dX3_two_55 : decode cX3_two 55 = .ok (.iload 5, 2) := by decide +kernel
theorem dX3_two_57 : decode cX3_two 57 = .ok (.iconst 2, 1) := by decide +kernel
theorem dX3_two_58 : decode cX3_two 58 = .ok (.idiv, 1) := by decide +kernel
theorem dX3_two_59 : decode cX3_two 59 = .ok (.istore 6, 2) := by decide +kernel
theorem dX3_two_61 : decode cX3_two 61 = .ok (.iload 5, 2) := by decide +kernel
theorem dX3_two_63 : decode cX3_two 63 = .ok (.iconst 2, 1) := by decide +kernel
theorem dX3_two_64 : decode cX3_two 64 = .ok (.irem, 1) := by decide +kernel
theorem dX3_two_65 : decode cX3_two 65 = .ok (.istore 7, 2) := by decide +kernel
theorem dX3_two_67 : decode cX3_two 67 = .ok (.aload_n 0, 1) := by decide +kernel
theorem dX3_two_68 : decode cX3_two 68 = .ok (.iload_n 1, 1) := by decide +kernel
theorem dX3_two_69 : decode cX3_two 69 = .ok (.iload_n 1, 1) := by decide +kernel
theorem dX3_two_70 : decode cX3_two 70 = .ok (.iconst 1, 1) := by decide +kernel
theorem dX3_two_71 : decode cX3_two 71 = .ok (.iload 6, 2) := by decide +kernel
theorem dX3_two_73 : decode cX3_two 73 = .ok (.isub, 1) := by decide +kernel
theorem dX3_two_74 : decode cX3_two 74 = .ok (.iload_n 2, 1) := by decide +kernel
theorem dX3_two_75 : decode cX3_two 75 = .ok (.iload 7, 2) := by decide +kernel
theorem dX3_two_77 : decode cX3_two 77 = .ok (.iload_n 3, 1) := by decide +kernel
theorem dX3_two_78 : decode cX3_two 78 = .ok (.invokevirtual 165, 3) := by decide +kernel
theorem dX3_two_81 : decode cX3_two 81 = .ok (.aload_n 0, 1) := by decide +kernel
theorem dX3_two_82 : decode cX3_two 82 = .ok (.iload_n 1, 1) := by decide +kernel
theorem dX3_two_83 : decode cX3_two 83 = .ok (.iload_n 1, 1) := by decide +kernel
theorem dX3_two_84 : decode cX3_two 84 = .ok (.iload 6, 2) := by decide +kernel
theorem dX3_two_86 : decode cX3_two 86 = .ok (.iload_n 2, 1) := by decide +kernel
theorem dX3_two_87 : decode cX3_two 87 = .ok (.iload 7, 2) := by decide +kernel
theorem dX3_two_89 : decode cX3_two 89 = .ok (.iload_n 3, 1) := by decide +kernel
theorem dX3_two_90 : decode cX3_two 90 = .ok (.invokevirtual 165, 3) := by decide +kernel
theorem dX3_two_93 : decode cX3_two 93 = .ok (.if_icmp .gt 41, 3) := by decide +kernel
theorem dX3_two_96 : decode cX3_two 96 = .ok (.aload_n 0, 1) := by decide +kernel
theorem dX3_two_97 : decode cX3_two 97 = .ok (.iload_n 2, 1) := by decide +kernel
theorem dX3_two_98 : decode cX3_two 98 = .ok (.iload_n 1, 1) := by decide +kernel
theorem dX3_two_99 : decode cX3_two 99 = .ok (.iload 6, 2) := by decide +kernel
theorem dX3_two_101 : decode cX3_two 101 = .ok (.iload_n 2, 1) := by decide +kernel
theorem dX3_two_102 : decode cX3_two 102 = .ok (.iconst 1, 1) := by decide +kernel
theorem dX3_two_103 : decode cX3_two 103 = .ok (.iload 7, 2) := by decide +kernel
theorem dX3_two_105 : decode cX3_two 105 = .ok (.isub, 1) := by decide +kernel
theorem dX3_two_106 : decode cX3_two 106 = .ok (.iload_n 3, 1) := by decide +kernel
theorem dX3_two_107 : decode cX3_two 107 = .ok (.invokevirtual 165, 3) := by decide +kernel
theorem dX3_two_110 : decode cX3_two 110 = .ok (.aload_n 0, 1) := by decide +kernel
theorem dX3_two_111 : decode cX3_two 111 = .ok (.iload_n 2, 1) := by decide +kernel
theorem dX3_two_112 : decode cX3_two 112 = .ok (.iload_n 1, 1) := by decide +kernel
theorem dX3_two_113 : decode cX3_two 113 = .ok (.iload 6, 2) := by decide +kernel
theorem dX3_two_115 : decode cX3_two 115 = .ok (.iload_n 2, 1) := by decide +kernel
theorem dX3_two_116 : decode cX3_two 116 = .ok (.iload 7, 2) := by decide +kernel
theorem dX3_two_118 : decode cX3_two 118 = .ok (.iload_n 3, 1) := by decide +kernel
theorem dX3_two_119 : decode cX3_two 119 = .ok (.invokevirtual 165, 3) := by decide +kernel
theorem dX3_two_122 : decode cX3_two 122 = .ok (.if_icmp .gt 12, 3) := by decide +kernel
theorem dX3_two_125 : decode cX3_two 125 = .ok (.bipush 10, 2) := by decide +kernel
theorem dX3_two_127 : decode cX3_two 127 = .ok (.iload 6, 2) := by decide +kernel
theorem dX3_two_129 : decode cX3_two 129 = .ok (.imul, 1) := by decide +kernel
theorem dX3_two_130 : decode cX3_two 130 = .ok (.iload 7, 2) := by decide +kernel
theorem dX3_two_132 : decode cX3_two 132 = .ok (.iadd, 1) := by decide +kernel
theorem dX3_two_133 : decode cX3_two 133 = .ok (.ireturn, 1) := by decide +kernel
theorem dX3_two_134 : decode cX3_two 134 = .ok (.iinc 5 1, 3) := by decide +kernel
theorem dX3_two_137 : decode cX3_two 137 = .ok (.goto (-88), 3) := by decide +kernel
theorem dX3_two_140 : decode cX3_two 140 = .ok (.bipush (-9), 2) := by decide +kernel
theorem dX3_two_142 : decode cX3_two 142 = .ok (.ireturn, 1) := by decide +kernel
theorem dX3_gcd_0 : decode cX3_gcd 0 = .ok (.lload_n 0, 1) := by decide +kernel
theorem dX3_gcd_1 : decode cX3_gcd 1 = .ok (.lstore 4, 2) := by decide +kernel
theorem dX3_gcd_3 : decode cX3_gcd 3 = .ok (.lload_n 2, 1) := by decide +kernel
theorem dX3_gcd_4 : decode cX3_gcd 4 = .ok (.lstore 6, 2) := by decide +kernel
theorem dX3_gcd_6 : decode cX3_gcd 6 = .ok (.lload 6, 2) := by decide +kernel
theorem dX3_gcd_8 : decode cX3_gcd 8 = .ok (.lconst 0, 1) := by decide +kernel
theorem dX3_gcd_9 : decode cX3_gcd 9 = .ok (.lcmp, 1) := by decide +kernel
theorem dX3_gcd_10 : decode cX3_gcd 10 = .ok (.ifCond .eq 21, 3) := by decide +kernel
theorem dX3_gcd_13 : decode cX3_gcd 13 = .ok (.lload 4, 2) := by decide +kernel
theorem dX3_gcd_15 : decode cX3_gcd 15 = .ok (.lload 6, 2) := by decide +kernel
theorem dX3_gcd_17 : decode cX3_gcd 17 = .ok (.lrem, 1) := by decide +kernel
theorem dX3_gcd_18 : decode cX3_gcd 18 = .ok (.lstore 8, 2) := by decide +kernel
theorem dX3_gcd_20 : decode cX3_gcd 20 = .ok (.lload 6, 2) := by decide +kernel
theorem dX3_gcd_22 : decode cX3_gcd 22 = .ok (.lstore 4, 2) := by decide +kernel
theorem dX3_gcd_24 : decode cX3_gcd 24 = .ok (.lload 8, 2) := by decide +kernel
theorem dX3_gcd_26 : decode cX3_gcd 26 = .ok (.lstore 6, 2) := by decide +kernel
theorem dX3_gcd_28 : decode cX3_gcd 28 = .ok (.goto (-22), 3) := by decide +kernel
theorem dX3_gcd_31 : decode cX3_gcd 31 = .ok (.lload 4, 2) := by decide +kernel
theorem dX3_gcd_33 : decode cX3_gcd 33 = .ok (.lreturn, 1) := by decide +kernel
theorem dX3_partOf_0 : decode cX3_partOf 0 = .ok (.lload_n 0, 1) := by decide +kernel
theorem dX3_partOf_1 : decode cX3_partOf 1 = .ok (.lconst 0, 1) := by decide +kernel
theorem dX3_partOf_2 : decode cX3_partOf 2 = .ok (.lcmp, 1) := by decide +kernel
theorem dX3_partOf_3 : decode cX3_partOf 3 = .ok (.ifCond .ne 7, 3) := by decide +kernel
theorem dX3_partOf_6 : decode cX3_partOf 6 = .ok (.iload 4, 2) := by decide +kernel
theorem dX3_partOf_8 : decode cX3_partOf 8 = .ok (.i2l, 1) := by decide +kernel
theorem dX3_partOf_9 : decode cX3_partOf 9 = .ok (.lreturn, 1) := by decide +kernel
theorem dX3_partOf_10 : decode cX3_partOf 10 = .ok (.iload 4, 2) := by decide +kernel
theorem dX3_partOf_12 : decode cX3_partOf 12 = .ok (.ifCond .ne 7, 3) := by decide +kernel
theorem dX3_partOf_15 : decode cX3_partOf 15 = .ok (.lload_n 0, 1) := by decide +kernel
theorem dX3_partOf_16 : decode cX3_partOf 16 = .ok (.goto 4, 3) := by decide +kernel
theorem dX3_partOf_19 : decode cX3_partOf 19 = .ok (.lload_n 2, 1) := by decide +kernel
theorem dX3_partOf_20 : decode cX3_partOf 20 = .ok (.lload_n 0, 1) := by decide +kernel
theorem dX3_partOf_21 : decode cX3_partOf 21 = .ok (.lload_n 2, 1) := by decide +kernel
theorem dX3_partOf_22 : decode cX3_partOf 22 = .ok (.invokestatic 169, 3) := by decide +kernel
theorem dX3_partOf_25 : decode cX3_partOf 25 = .ok (.ldiv, 1) := by decide +kernel
theorem dX3_partOf_26 : decode cX3_partOf 26 = .ok (.lreturn, 1) := by decide +kernel
theorem dX3_sneeze_0 : decode cX3_sneeze 0 = .ok (.aload_n 0, 1) := by decide +kernel
theorem dX3_sneeze_1 : decode cX3_sneeze 1 = .ok (.iload_n 1, 1) := by decide +kernel
theorem dX3_sneeze_2 : decode cX3_sneeze 2 = .ok (.invokevirtual 100, 3) := by decide +kernel
theorem dX3_sneeze_5 : decode cX3_sneeze 5 = .ok (.ifCond .ne 9, 3) := by decide +kernel
theorem dX3_sneeze_8 : decode cX3_sneeze 8 = .ok (.aload_n 0, 1) := by decide +kernel
theorem dX3_sneeze_9 : decode cX3_sneeze 9 = .ok (.iconst (-1), 1) := by decide +kernel
theorem dX3_sneeze_10 : decode cX3_sneeze 10 = .ok (.invokevirtual 173, 3) := by decide +kernel
theorem dX3_sneeze_13 : decode cX3_sneeze 13 = .ok (.lreturn, 1) := by decide +kernel
theorem dX3_sneeze_14 : decode cX3_sneeze 14 = .ok (.iload_n 2, 1) := by decide +kernel
theorem dX3_sneeze_15 : decode cX3_sneeze 15 = .ok (.ifCond .lt 13, 3) := by decide +kernel
theorem dX3_sneeze_18 : decode cX3_sneeze 18 = .ok (.iload 4, 2) := by decide +kernel
theorem dX3_sneeze_20 : decode cX3_sneeze 20 = .ok (.ifCond .lt 8, 3) := by decide +kernel
theorem dX3_sneeze_23 : decode cX3_sneeze 23 = .ok (.iload_n 3, 1) := by decide +kernel
theorem dX3_sneeze_24 : decode cX3_sneeze 24 = .ok (.iconst 2, 1) := by decide +kernel
theorem dX3_sneeze_25 : decode cX3_sneeze 25 = .ok (.if_icmp .ge 10, 3) := by decide +kernel
theorem dX3_sneeze_28 : decode cX3_sneeze 28 = .ok (.aload_n 0, 1) := by decide +kernel
theorem dX3_sneeze_29 : decode cX3_sneeze 29 = .ok (.bipush (-4), 2) := by decide +kernel
theorem dX3_sneeze_31 : decode cX3_sneeze 31 = .ok (.invokevirtual 173, 3) := by decide +kernel
theorem dX3_sneeze_34 : decode cX3_sneeze 34 = .ok (.lreturn, 1) := by decide +kernel
theorem dX3_sneeze_35 : decode cX3_sneeze 35 = .ok (.iload_n 2, 1) := by decide +kernel
theorem dX3_sneeze_36 : decode cX3_sneeze 36 = .ok (.bipush 7, 2) := by decide +kernel
theorem dX3_sneeze_38 : decode cX3_sneeze 38 = .ok (.if_icmp .gt 16, 3) := by decide +kernel
theorem dX3_sneeze_41 : decode cX3_sneeze 41 = .ok (.iload_n 3, 1) := by decide +kernel
theorem dX3_sneeze_42 : decode cX3_sneeze 42 = .ok (.bipush 20, 2) := by decide +kernel
theorem dX3_sneeze_44 : decode cX3_sneeze 44 = .ok (.if_icmp .gt 10, 3) := by decide +kernel
theorem dX3_sneeze_47 : decode cX3_sneeze 47 = .ok (.iload 4, 2) := by decide +kernel
theorem dX3_sneeze_49 : decode cX3_sneeze 49 = .ok (.bipush 99, 2) := by decide +kernel
theorem dX3_sneeze_51 : decode cX3_sneeze 51 = .ok (.if_icmp .le 10, 3) := by decide +kernel
theorem dX3_sneeze_54 : decode cX3_sneeze 54 = .ok (.aload_n 0, 1) := by decide +kernel
theorem dX3_sneeze_55 : decode cX3_sneeze 55 = .ok (.bipush (-6), 2) := by decide +kernel
theorem dX3_sneeze_57 : decode cX3_sneeze 57 = .ok (.invokevirtual 173, 3) := by decide +kernel
theorem dX3_sneeze_60 : decode cX3_sneeze 60 = .ok (.lreturn, 1) := by decide +kernel
theorem dX3_sneeze_61 : decode cX3_sneeze 61 = .ok (.iload 5, 2) := by decide +kernel
theorem dX3_sneeze_63 : decode cX3_sneeze 63 = .ok (.iconst 0, 1) := by decide +kernel
theorem dX3_sneeze_64 : decode cX3_sneeze 64 = .ok (.iconst 1, 1) := by decide +kernel
theorem dX3_sneeze_65 : decode cX3_sneeze 65 = .ok (.invokestatic 40, 3) := by decide +kernel
theorem dX3_sneeze_68 : decode cX3_sneeze 68 = .ok (.ifCond .ne 10, 3) := by decide +kernel
theorem dX3_sneeze_71 : decode cX3_sneeze 71 = .ok (.aload_n 0, 1) := by decide +kernel
theorem dX3_sneeze_72 : decode cX3_sneeze 72 = .ok (.bipush (-2), 2) := by decide +kernel
theorem dX3_sneeze_74 : decode cX3_sneeze 74 = .ok (.invokevirtual 173, 3) := by decide +kernel
theorem dX3_sneeze_77 : decode cX3_sneeze 77 = .ok (.lreturn, 1) := by decide +kernel
theorem dX3_sneeze_78 : decode cX3_sneeze 78 = .ok (.lconst 0, 1) := by decide +kernel
theorem dX3_sneeze_79 : decode cX3_sneeze 79 = .ok (.lstore 6, 2) := by decide +kernel
theorem dX3_sneeze_81 : decode cX3_sneeze 81 = .ok (.lconst 1, 1) := by decide +kernel
theorem dX3_sneeze_82 : decode cX3_sneeze 82 = .ok (.lstore 8, 2) := by decide +kernel
theorem dX3_sneeze_84 : decode cX3_sneeze 84 = .ok (.iconst 0, 1) := by decide +kernel
theorem dX3_sneeze_85 : decode cX3_sneeze 85 = .ok (.istore 10, 2) := by decide +kernel
theorem dX3_sneeze_87 : decode cX3_sneeze 87 = .ok (.iload 10, 2) := by decide +kernel
theorem dX3_sneeze_89 : decode cX3_sneeze 89 = .ok (.iload_n 2, 1) := by decide +kernel
theorem dX3_sneeze_90 : decode cX3_sneeze 90 = .ok (.if_icmp .ge 16, 3) := by decide +kernel
theorem dX3_sneeze_93 : decode cX3_sneeze 93 = .ok (.lload 8, 2) := by decide +kernel
theorem dX3_sneeze_95 : decode cX3_sneeze 95 = .ok (.iload_n 3, 1) := by decide +kernel
theorem dX3_sneeze_96 : decode cX3_sneeze 96 = .ok (.i2l, 1) := by decide +kernel
theorem dX3_sneeze_97 : decode cX3_sneeze 97 = .ok (.lmul, 1) := by decide +kernel
theorem dX3_sneeze_98 : decode cX3_sneeze 98 = .ok (.lstore 8, 2) := by decide +kernel
theorem dX3_sneeze_100 : decode cX3_sneeze 100 = .ok (.iinc 10 1, 3) := by decide +kernel
theorem dX3_sneeze_103 : decode cX3_sneeze 103 = .ok (.goto (-16), 3) := by decide +kernel
theorem dX3_sneeze_106 : decode cX3_sneeze 106 = .ok (.iconst 0, 1) := by decide +kernel
theorem dX3_sneeze_107 : decode cX3_sneeze 107 = .ok (.istore 10, 2) := by decide +kernel
theorem dX3_sneeze_109 : decode cX3_sneeze 109 = .ok (.iload 10, 2) := by decide +kernel
theorem dX3_sneeze_111 : decode cX3_sneeze 111 = .ok (.iconst 1, 1) := by decide +kernel
theorem dX3_sneeze_112 : decode cX3_sneeze 112 = .ok (.iload_n 2, 1) := by decide +kernel
theorem dX3_sneeze_113 : decode cX3_sneeze 113 = .ok (.ishl, 1) := by decide +kernel
theorem dX3_sneeze_114 : decode cX3_sneeze 114 = .ok (.if_icmp .ge 111, 3) := by decide +kernel
theorem dX3_sneeze_117 : decode cX3_sneeze 117 = .ok (.lconst 1, 1) := by decide +kernel
theorem dX3_sneeze_118 : decode cX3_sneeze 118 = .ok (.lstore 11, 2) := by decide +kernel
theorem dX3_sneeze_120 : decode cX3_sneeze 120 = .ok (.aload_n 0, 1) := by decide +kernel
theorem dX3_sneeze_121 : decode cX3_sneeze 121 = .ok (.getfield 9, 3) := by decide +kernel
theorem dX3_sneeze_124 : decode cX3_sneeze 124 = .ok (.aload_n 0, 1) := by decide +kernel
theorem dX3_sneeze_125 : decode cX3_sneeze 125 = .ok (.getfield 13, 3) := by decide +kernel
theorem dX3_sneeze_128 : decode cX3_sneeze 128 = .ok (.invokestatic 110, 3) := by decide +kernel
theorem dX3_sneeze_131 : decode cX3_sneeze 131 = .ok (.iconst 0, 1) := by decide +kernel
theorem dX3_sneeze_132 : decode cX3_sneeze 132 = .ok (.istore 13, 2) := by decide +kernel
theorem dX3_sneeze_134 : decode cX3_sneeze 134 = .ok (.iload 13, 2) := by decide +kernel
theorem dX3_sneeze_136 : decode cX3_sneeze 136 = .ok (.iload_n 2, 1) := by decide +kernel
theorem dX3_sneeze_137 : decode cX3_sneeze 137 = .ok (.if_icmp .ge 56, 3) := by decide +kernel
theorem dX3_sneeze_140 : decode cX3_sneeze 140 = .ok (.lload 11, 2) := by decide +kernel
theorem dX3_sneeze_142 : decode cX3_sneeze 142 = .ok (.iload 10, 2) := by decide +kernel
theorem dX3_sneeze_144 : decode cX3_sneeze 144 = .ok (.iload 13, 2) := by decide +kernel
theorem dX3_sneeze_146 : decode cX3_sneeze 146 = .ok (.invokestatic 48, 3) := by decide +kernel
theorem dX3_sneeze_149 : decode cX3_sneeze 149 = .ok (.ifCond .eq 7, 3) := by decide +kernel
theorem dX3_sneeze_152 : decode cX3_sneeze 152 = .ok (.lconst 1, 1) := by decide +kernel
theorem dX3_sneeze_153 : decode cX3_sneeze 153 = .ok (.goto 7, 3) := by decide +kernel
theorem dX3_sneeze_156 : decode cX3_sneeze 156 = .ok (.iload_n 3, 1) := by decide +kernel
theorem dX3_sneeze_157 : decode cX3_sneeze 157 = .ok (.iconst 1, 1) := by decide +kernel
theorem dX3_sneeze_158 : decode cX3_sneeze 158 = .ok (.isub, 1) := by decide +kernel
theorem dX3_sneeze_159 : decode cX3_sneeze 159 = .ok (.i2l, 1) := by decide +kernel
theorem dX3_sneeze_160 : decode cX3_sneeze 160 = .ok (.lmul, 1) := by decide +kernel
theorem dX3_sneeze_161 : decode cX3_sneeze 161 = .ok (.lstore 11, 2) := by decide +kernel
theorem dX3_sneeze_163 : decode cX3_sneeze 163 = .ok (.aload_n 0, 1) := by decide +kernel
theorem dX3_sneeze_164 : decode cX3_sneeze 164 = .ok (.getfield 13, 3) := by decide +kernel
theorem dX3_sneeze_167 : decode cX3_sneeze 167 = .ok (.iload 10, 2) := by decide +kernel
theorem dX3_sneeze_169 : decode cX3_sneeze 169 = .ok (.iload 13, 2) := by decide +kernel
theorem dX3_sneeze_171 : decode cX3_sneeze 171 = .ok (.invokestatic 48, 3) := by decide +kernel
theorem dX3_sneeze_174 : decode cX3_sneeze 174 = .ok (.ifCond .eq 9, 3) := by decide +kernel
theorem dX3_sneeze_177 : decode cX3_sneeze 177 = .ok (.iconst 1, 1) := by decide +kernel
theorem dX3_sneeze_178 : decode cX3_sneeze 178 = .ok (.iload_n 1, 1) := by decide +kernel
theorem dX3_sneeze_179 : decode cX3_sneeze 179 = .ok (.ishl, 1) := by decide +kernel
theorem dX3_sneeze_180 : decode cX3_sneeze 180 = .ok (.goto 4, 3) := by decide +kernel
theorem dX3_sneeze_183 : decode cX3_sneeze 183 = .ok (.iconst 0, 1) := by decide +kernel
theorem dX3_sneeze_184 : decode cX3_sneeze 184 = .ok (.invokestatic 73, 3) := by decide +kernel
theorem dX3_sneeze_187 : decode cX3_sneeze 187 = .ok (.iinc 13 1, 3) := by decide +kernel
theorem dX3_sneeze_190 : decode cX3_sneeze 190 = .ok (.goto (-56), 3) := by decide +kernel
theorem dX3_sneeze_193 : decode cX3_sneeze 193 = .ok (.lload 6, 2) := by decide +kernel
theorem dX3_sneeze_195 : decode cX3_sneeze 195 = .ok (.aload_n 0, 1) := by decide +kernel
theorem dX3_sneeze_196 : decode cX3_sneeze 196 = .ok (.getfield 13, 3) := by decide +kernel
theorem dX3_sneeze_199 : decode cX3_sneeze 199 = .ok (.iload_n 1, 1) := by decide +kernel
theorem dX3_sneeze_200 : decode cX3_sneeze 200 = .ok (.iconst 3, 1) := by decide +kernel
theorem dX3_sneeze_201 : decode cX3_sneeze 201 = .ok (.invokestatic 52, 3) := by decide +kernel
theorem dX3_sneeze_204 : decode cX3_sneeze 204 = .ok (.iaload, 1) := by decide +kernel
theorem dX3_sneeze_205 : decode cX3_sneeze 205 = .ok (.iload 4, 2) := by decide +kernel
theorem dX3_sneeze_207 : decode cX3_sneeze 207 = .ok (.if_icmp .lt 8, 3) := by decide +kernel
theorem dX3_sneeze_210 : decode cX3_sneeze 210 = .ok (.lload 11, 2) := by decide +kernel
theorem dX3_sneeze_212 : decode cX3_sneeze 212 = .ok (.goto 4, 3) := by decide +kernel
theorem dX3_sneeze_215 : decode cX3_sneeze 215 = .ok (.lconst 0, 1) := by decide +kernel
theorem dX3_sneeze_216 : decode cX3_sneeze 216 = .ok (.ladd, 1) := by decide +kernel
theorem dX3_sneeze_217 : decode cX3_sneeze 217 = .ok (.lstore 6, 2) := by decide +kernel
theorem dX3_sneeze_219 : decode cX3_sneeze 219 = .ok (.iinc 10 1, 3) := by decide +kernel
theorem dX3_sneeze_222 : decode cX3_sneeze 222 = .ok (.goto (-113), 3) := by decide +kernel
theorem dX3_sneeze_225 : decode cX3_sneeze 225 = .ok (.lload 6, 2) := by decide +kernel
theorem dX3_sneeze_227 : decode cX3_sneeze 227 = .ok (.lload 8, 2) := by decide +kernel
theorem dX3_sneeze_229 : decode cX3_sneeze 229 = .ok (.iload 5, 2) := by decide +kernel
theorem dX3_sneeze_231 : decode cX3_sneeze 231 = .ok (.invokestatic 177, 3) := by decide +kernel
theorem dX3_sneeze_234 : decode cX3_sneeze 234 = .ok (.lreturn, 1) := by decide +kernel
theorem dX3_mean_0 : decode cX3_mean 0 = .ok (.iload_n 1, 1) := by decide +kernel
theorem dX3_mean_1 : decode cX3_mean 1 = .ok (.iconst 0, 1) := by decide +kernel
theorem dX3_mean_2 : decode cX3_mean 2 = .ok (.iconst 1, 1) := by decide +kernel
theorem dX3_mean_3 : decode cX3_mean 3 = .ok (.invokestatic 40, 3) := by decide +kernel
theorem dX3_mean_6 : decode cX3_mean 6 = .ok (.ifCond .eq 25, 3) := by decide +kernel
theorem dX3_mean_9 : decode cX3_mean 9 = .ok (.aload_n 0, 1) := by decide +kernel
theorem dX3_mean_10 : decode cX3_mean 10 = .ok (.getfield 9, 3) := by decide +kernel
theorem dX3_mean_13 : decode cX3_mean 13 = .ok (.invokestatic 141, 3) := by decide +kernel
theorem dX3_mean_16 : decode cX3_mean 16 = .ok (.i2l, 1) := by decide +kernel
theorem dX3_mean_17 : decode cX3_mean 17 = .ok (.aload_n 0, 1) := by decide +kernel
theorem dX3_mean_18 : decode cX3_mean 18 = .ok (.getfield 9, 3) := by decide +kernel
theorem dX3_mean_21 : decode cX3_mean 21 = .ok (.iconst 0, 1) := by decide +kernel
theorem dX3_mean_22 : decode cX3_mean 22 = .ok (.iaload, 1) := by decide +kernel
theorem dX3_mean_23 : decode cX3_mean 23 = .ok (.i2l, 1) := by decide +kernel
theorem dX3_mean_24 : decode cX3_mean 24 = .ok (.iload_n 1, 1) := by decide +kernel
theorem dX3_mean_25 : decode cX3_mean 25 = .ok (.invokestatic 177, 3) := by decide +kernel
theorem dX3_mean_28 : decode cX3_mean 28 = .ok (.goto 9, 3) := by decide +kernel
theorem dX3_mean_31 : decode cX3_mean 31 = .ok (.aload_n 0, 1) := by decide +kernel
theorem dX3_mean_32 : decode cX3_mean 32 = .ok (.bipush (-2), 2) := by decide +kernel
theorem dX3_mean_34 : decode cX3_mean 34 = .ok (.invokevirtual 173, 3) := by decide +kernel
theorem dX3_mean_37 : decode cX3_mean 37 = .ok (.lreturn, 1) := by decide +kernel
theorem dX3_whatIs_0 : decode cX3_whatIs 0 = .ok (.aload_n 0, 1) := by decide +kernel
theorem dX3_whatIs_1 : decode cX3_whatIs 1 = .ok (.iload_n 1, 1) := by decide +kernel
theorem dX3_whatIs_2 : decode cX3_whatIs 2 = .ok (.invokevirtual 100, 3) := by decide +kernel
theorem dX3_whatIs_5 : decode cX3_whatIs 5 = .ok (.ifCond .ne 9, 3) := by decide +kernel
theorem dX3_whatIs_8 : decode cX3_whatIs 8 = .ok (.aload_n 0, 1) := by decide +kernel
theorem dX3_whatIs_9 : decode cX3_whatIs 9 = .ok (.iconst (-1), 1) := by decide +kernel
theorem dX3_whatIs_10 : decode cX3_whatIs 10 = .ok (.invokevirtual 36, 3) := by decide +kernel
theorem dX3_whatIs_13 : decode cX3_whatIs 13 = .ok (.ireturn, 1) := by decide +kernel
theorem dX3_whatIs_14 : decode cX3_whatIs 14 = .ok (.iload_n 2, 1) := by decide +kernel
theorem dX3_whatIs_15 : decode cX3_whatIs 15 = .ok (.iconst 0, 1) := by decide +kernel
theorem dX3_whatIs_16 : decode cX3_whatIs 16 = .ok (.iconst 1, 1) := by decide +kernel
theorem dX3_whatIs_17 : decode cX3_whatIs 17 = .ok (.invokestatic 40, 3) := by decide +kernel
theorem dX3_whatIs_20 : decode cX3_whatIs 20 = .ok (.ifCond .ne 10, 3) := by decide +kernel
theorem dX3_whatIs_23 : decode cX3_whatIs 23 = .ok (.aload_n 0, 1) := by decide +kernel
theorem dX3_whatIs_24 : decode cX3_whatIs 24 = .ok (.bipush (-2), 2) := by decide +kernel
theorem dX3_whatIs_26 : decode cX3_whatIs 26 = .ok (.invokevirtual 36, 3) := by decide +kernel
theorem dX3_whatIs_29 : decode cX3_whatIs 29 = .ok (.ireturn, 1) := by decide +kernel
theorem dX3_whatIs_30 : decode cX3_whatIs 30 = .ok (.iconst 0, 1) := by decide +kernel
theorem dX3_whatIs_31 : decode cX3_whatIs 31 = .ok (.istore_n 3, 1) := by decide +kernel
theorem dX3_whatIs_32 : decode cX3_whatIs 32 = .ok (.iconst 0, 1) := by decide +kernel
theorem dX3_whatIs_33 : decode cX3_whatIs 33 = .ok (.istore 4, 2) := by decide +kernel
theorem dX3_whatIs_35 : decode cX3_whatIs 35 = .ok (.iload 4, 2) := by decide +kernel
theorem dX3_whatIs_37 : decode cX3_whatIs 37 = .ok (.iload_n 2, 1) := by decide +kernel
theorem dX3_whatIs_38 : decode cX3_whatIs 38 = .ok (.ifCond .ne 8, 3) := by decide +kernel
theorem dX3_whatIs_41 : decode cX3_whatIs 41 = .ok (.bipush 6, 2) := by decide +kernel
theorem dX3_whatIs_43 : decode cX3_whatIs 43 = .ok (.goto 5, 3) := by decide +kernel
theorem dX3_whatIs_46 : decode cX3_whatIs 46 = .ok (.bipush 10, 2) := by decide +kernel
theorem dX3_whatIs_48 : decode cX3_whatIs 48 = .ok (.if_icmp .ge 107, 3) := by decide +kernel
theorem dX3_whatIs_51 : decode cX3_whatIs 51 = .ok (.iconst 1, 1) := by decide +kernel
theorem dX3_whatIs_52 : decode cX3_whatIs 52 = .ok (.istore 5, 2) := by decide +kernel
theorem dX3_whatIs_54 : decode cX3_whatIs 54 = .ok (.aload_n 0, 1) := by decide +kernel
theorem dX3_whatIs_55 : decode cX3_whatIs 55 = .ok (.getfield 9, 3) := by decide +kernel
theorem dX3_whatIs_58 : decode cX3_whatIs 58 = .ok (.aload_n 0, 1) := by decide +kernel
theorem dX3_whatIs_59 : decode cX3_whatIs 59 = .ok (.getfield 13, 3) := by decide +kernel
theorem dX3_whatIs_62 : decode cX3_whatIs 62 = .ok (.invokestatic 110, 3) := by decide +kernel
theorem dX3_whatIs_65 : decode cX3_whatIs 65 = .ok (.aload_n 0, 1) := by decide +kernel
theorem dX3_whatIs_66 : decode cX3_whatIs 66 = .ok (.getfield 13, 3) := by decide +kernel
theorem dX3_whatIs_69 : decode cX3_whatIs 69 = .ok (.iload_n 1, 1) := by decide +kernel
theorem dX3_whatIs_70 : decode cX3_whatIs 70 = .ok (.iload_n 2, 1) := by decide +kernel
theorem dX3_whatIs_71 : decode cX3_whatIs 71 = .ok (.invokestatic 52, 3) := by decide +kernel
theorem dX3_whatIs_74 : decode cX3_whatIs 74 = .ok (.iload 4, 2) := by decide +kernel
theorem dX3_whatIs_76 : decode cX3_whatIs 76 = .ok (.iastore, 1) := by decide +kernel
theorem dX3_whatIs_77 : decode cX3_whatIs 77 = .ok (.iconst 0, 1) := by decide +kernel
theorem dX3_whatIs_78 : decode cX3_whatIs 78 = .ok (.istore 6, 2) := by decide +kernel
theorem dX3_whatIs_80 : decode cX3_whatIs 80 = .ok (.iload 6, 2) := by decide +kernel
theorem dX3_whatIs_82 : decode cX3_whatIs 82 = .ok (.aload_n 0, 1) := by decide +kernel
theorem dX3_whatIs_83 : decode cX3_whatIs 83 = .ok (.getfield 181, 3) := by decide +kernel
theorem dX3_whatIs_86 : decode cX3_whatIs 86 = .ok (.if_icmp .ge 47, 3) := by decide +kernel
theorem dX3_whatIs_89 : decode cX3_whatIs 89 = .ok (.iload 5, 2) := by decide +kernel
theorem dX3_whatIs_91 : decode cX3_whatIs 91 = .ok (.aload_n 0, 1) := by decide +kernel
theorem dX3_whatIs_92 : decode cX3_whatIs 92 = .ok (.getfield 13, 3) := by decide +kernel
theorem dX3_whatIs_95 : decode cX3_whatIs 95 = .ok (.iload_n 1, 1) := by decide +kernel
theorem dX3_whatIs_96 : decode cX3_whatIs 96 = .ok (.iconst 3, 1) := by decide +kernel
theorem dX3_whatIs_97 : decode cX3_whatIs 97 = .ok (.invokestatic 52, 3) := by decide +kernel
theorem dX3_whatIs_100 : decode cX3_whatIs 100 = .ok (.iaload, 1) := by decide +kernel
theorem dX3_whatIs_101 : decode cX3_whatIs 101 = .ok (.aload_n 0, 1) := by decide +kernel
theorem dX3_whatIs_102 : decode cX3_whatIs 102 = .ok (.getfield 25, 3) := by decide +kernel
theorem dX3_whatIs_105 : decode cX3_whatIs 105 = .ok (.iload 6, 2) := by decide +kernel
theorem dX3_whatIs_107 : decode cX3_whatIs 107 = .ok (.iaload, 1) := by decide +kernel
theorem dX3_whatIs_108 : decode cX3_whatIs 108 = .ok (.if_icmp .ne 7, 3) := by decide +kernel
theorem dX3_whatIs_111 : decode cX3_whatIs 111 = .ok (.iconst 1, 1) := by decide +kernel
theorem dX3_whatIs_112 : decode cX3_whatIs 112 = .ok (.goto 4, 3) := by decide +kernel
theorem dX3_whatIs_115 : decode cX3_whatIs 115 = .ok (.iconst 0, 1) := by decide +kernel
theorem dX3_whatIs_116 : decode cX3_whatIs 116 = .ok (.iand, 1) := by decide +kernel
theorem dX3_whatIs_117 : decode cX3_whatIs 117 = .ok (.istore 5, 2) := by decide +kernel
theorem dX3_whatIs_119 : decode cX3_whatIs 119 = .ok (.aload_n 0, 1) := by decide +kernel
theorem dX3_whatIs_120 : decode cX3_whatIs 120 = .ok (.getfield 13, 3) := by decide +kernel
theorem dX3_whatIs_123 : decode cX3_whatIs 123 = .ok (.iconst 0, 1) := by decide +kernel
theorem dX3_whatIs_124 : decode cX3_whatIs 124 = .ok (.invokestatic 73, 3) := by decide +kernel
theorem dX3_whatIs_127 : decode cX3_whatIs 127 = .ok (.iinc 6 1, 3) := by decide +kernel
theorem dX3_whatIs_130 : decode cX3_whatIs 130 = .ok (.goto (-50), 3) := by decide +kernel
theorem dX3_whatIs_133 : decode cX3_whatIs 133 = .ok (.iload_n 3, 1) := by decide +kernel
theorem dX3_whatIs_134 : decode cX3_whatIs 134 = .ok (.iload 5, 2) := by decide +kernel
theorem dX3_whatIs_136 : decode cX3_whatIs 136 = .ok (.ifCond .eq 10, 3) := by decide +kernel
theorem dX3_whatIs_139 : decode cX3_whatIs 139 = .ok (.iconst 1, 1) := by decide +kernel
theorem dX3_whatIs_140 : decode cX3_whatIs 140 = .ok (.iload 4, 2) := by decide +kernel
theorem dX3_whatIs_142 : decode cX3_whatIs 142 = .ok (.ishl, 1) := by decide +kernel
theorem dX3_whatIs_143 : decode cX3_whatIs 143 = .ok (.goto 4, 3) := by decide +kernel
theorem dX3_whatIs_146 : decode cX3_whatIs 146 = .ok (.iconst 0, 1) := by decide +kernel
theorem dX3_whatIs_147 : decode cX3_whatIs 147 = .ok (.ior, 1) := by decide +kernel
theorem dX3_whatIs_148 : decode cX3_whatIs 148 = .ok (.istore_n 3, 1) := by decide +kernel
theorem dX3_whatIs_149 : decode cX3_whatIs 149 = .ok (.iinc 4 1, 3) := by decide +kernel
theorem dX3_whatIs_152 : decode cX3_whatIs 152 = .ok (.goto (-117), 3) := by decide +kernel
theorem dX3_whatIs_155 : decode cX3_whatIs 155 = .ok (.iload_n 3, 1) := by decide +kernel
theorem dX3_whatIs_156 : decode cX3_whatIs 156 = .ok (.ireturn, 1) := by decide +kernel
theorem dX3_row_0 : decode cX3_row 0 = .ok (.iload_n 1, 1) := by decide +kernel
theorem dX3_row_1 : decode cX3_row 1 = .ok (.iconst 0, 1) := by decide +kernel
theorem dX3_row_2 : decode cX3_row 2 = .ok (.bipush 99, 2) := by decide +kernel
theorem dX3_row_4 : decode cX3_row 4 = .ok (.invokestatic 126, 3) := by decide +kernel
theorem dX3_row_7 : decode cX3_row 7 = .ok (.istore_n 2, 1) := by decide +kernel
theorem dX3_row_8 : decode cX3_row 8 = .ok (.iload_n 2, 1) := by decide +kernel
theorem dX3_row_9 : decode cX3_row 9 = .ok (.ifCond .ne 15, 3) := by decide +kernel
theorem dX3_row_12 : decode cX3_row 12 = .ok (.aload_n 0, 1) := by decide +kernel
theorem dX3_row_13 : decode cX3_row 13 = .ok (.getfield 181, 3) := by decide +kernel
theorem dX3_row_16 : decode cX3_row 16 = .ok (.bipush 16, 2) := by decide +kernel
theorem dX3_row_18 : decode cX3_row 18 = .ok (.if_icmp .ne 6, 3) := by decide +kernel
theorem dX3_row_21 : decode cX3_row 21 = .ok (.bipush (-6), 2) := by decide +kernel
theorem dX3_row_23 : decode cX3_row 23 = .ok (.istore_n 2, 1) := by decide +kernel
theorem dX3_row_24 : decode cX3_row 24 = .ok (.iload_n 2, 1) := by decide +kernel
theorem dX3_row_25 : decode cX3_row 25 = .ok (.ifCond .eq 9, 3) := by decide +kernel
theorem dX3_row_28 : decode cX3_row 28 = .ok (.aload_n 0, 1) := by decide +kernel
theorem dX3_row_29 : decode cX3_row 29 = .ok (.iload_n 2, 1) := by decide +kernel
theorem dX3_row_30 : decode cX3_row 30 = .ok (.invokevirtual 36, 3) := by decide +kernel
theorem dX3_row_33 : decode cX3_row 33 = .ok (.ireturn, 1) := by decide +kernel
theorem dX3_row_34 : decode cX3_row 34 = .ok (.aload_n 0, 1) := by decide +kernel
theorem dX3_row_35 : decode cX3_row 35 = .ok (.getfield 25, 3) := by decide +kernel
theorem dX3_row_38 : decode cX3_row 38 = .ok (.aload_n 0, 1) := by decide +kernel
theorem dX3_row_39 : decode cX3_row 39 = .ok (.getfield 181, 3) := by decide +kernel
theorem dX3_row_42 : decode cX3_row 42 = .ok (.iload_n 1, 1) := by decide +kernel
theorem dX3_row_43 : decode cX3_row 43 = .ok (.iastore, 1) := by decide +kernel
theorem dX3_row_44 : decode cX3_row 44 = .ok (.aload_n 0, 1) := by decide +kernel
theorem dX3_row_45 : decode cX3_row 45 = .ok (.dup, 1) := by decide +kernel
theorem dX3_row_46 : decode cX3_row 46 = .ok (.getfield 181, 3) := by decide +kernel
theorem dX3_row_49 : decode cX3_row 49 = .ok (.iconst 1, 1) := by decide +kernel
theorem dX3_row_50 : decode cX3_row 50 = .ok (.iadd, 1) := by decide +kernel
theorem dX3_row_51 : decode cX3_row 51 = .ok (.putfield 181, 3) := by decide +kernel
theorem dX3_row_54 : decode cX3_row 54 = .ok (.aload_n 0, 1) := by decide +kernel
theorem dX3_row_55 : decode cX3_row 55 = .ok (.getfield 181, 3) := by decide +kernel
theorem dX3_row_58 : decode cX3_row 58 = .ok (.ireturn, 1) := by decide +kernel
theorem dX3_judge_0 : decode cX3_judge 0 = .ok (.aload_n 0, 1) := by decide +kernel
theorem dX3_judge_1 : decode cX3_judge 1 = .ok (.getfield 181, 3) := by decide +kernel
theorem dX3_judge_4 : decode cX3_judge 4 = .ok (.istore_n 1, 1) := by decide +kernel
theorem dX3_judge_5 : decode cX3_judge 5 = .ok (.aload_n 0, 1) := by decide +kernel
theorem dX3_judge_6 : decode cX3_judge 6 = .ok (.iconst 0, 1) := by decide +kernel
theorem dX3_judge_7 : decode cX3_judge 7 = .ok (.putfield 181, 3) := by decide +kernel
theorem dX3_judge_10 : decode cX3_judge 10 = .ok (.iconst 0, 1) := by decide +kernel
theorem dX3_judge_11 : decode cX3_judge 11 = .ok (.istore_n 2, 1) := by decide +kernel
theorem dX3_judge_12 : decode cX3_judge 12 = .ok (.iload_n 2, 1) := by decide +kernel
theorem dX3_judge_13 : decode cX3_judge 13 = .ok (.iload_n 1, 1) := by decide +kernel
theorem dX3_judge_14 : decode cX3_judge 14 = .ok (.if_icmp .ge 38, 3) := by decide +kernel
theorem dX3_judge_17 : decode cX3_judge 17 = .ok (.aload_n 0, 1) := by decide +kernel
theorem dX3_judge_18 : decode cX3_judge 18 = .ok (.iload_n 2, 1) := by decide +kernel
theorem dX3_judge_19 : decode cX3_judge 19 = .ok (.invokevirtual 100, 3) := by decide +kernel
theorem dX3_judge_22 : decode cX3_judge 22 = .ok (.ifCond .eq 22, 3) := by decide +kernel
theorem dX3_judge_25 : decode cX3_judge 25 = .ok (.aload_n 0, 1) := by decide +kernel
theorem dX3_judge_26 : decode cX3_judge 26 = .ok (.getfield 9, 3) := by decide +kernel
theorem dX3_judge_29 : decode cX3_judge 29 = .ok (.iload_n 2, 1) := by decide +kernel
theorem dX3_judge_30 : decode cX3_judge 30 = .ok (.iconst 2, 1) := by decide +kernel
theorem dX3_judge_31 : decode cX3_judge 31 = .ok (.invokestatic 52, 3) := by decide +kernel
theorem dX3_judge_34 : decode cX3_judge 34 = .ok (.iaload, 1) := by decide +kernel
theorem dX3_judge_35 : decode cX3_judge 35 = .ok (.aload_n 0, 1) := by decide +kernel
theorem dX3_judge_36 : decode cX3_judge 36 = .ok (.getfield 25, 3) := by decide +kernel
theorem dX3_judge_39 : decode cX3_judge 39 = .ok (.iload_n 2, 1) := by decide +kernel
theorem dX3_judge_40 : decode cX3_judge 40 = .ok (.iaload, 1) := by decide +kernel
theorem dX3_judge_41 : decode cX3_judge 41 = .ok (.if_icmp .eq 5, 3) := by decide +kernel
theorem dX3_judge_44 : decode cX3_judge 44 = .ok (.iload_n 2, 1) := by decide +kernel
theorem dX3_judge_45 : decode cX3_judge 45 = .ok (.ireturn, 1) := by decide +kernel
theorem dX3_judge_46 : decode cX3_judge 46 = .ok (.iinc 2 1, 3) := by decide +kernel
theorem dX3_judge_49 : decode cX3_judge 49 = .ok (.goto (-37), 3) := by decide +kernel
theorem dX3_judge_52 : decode cX3_judge 52 = .ok (.bipush (-9), 2) := by decide +kernel
theorem dX3_judge_54 : decode cX3_judge 54 = .ok (.ireturn, 1) := by decide +kernel
theorem dX3_clear_0 : decode cX3_clear 0 = .ok (.aload_n 0, 1) := by decide +kernel
theorem dX3_clear_1 : decode cX3_clear 1 = .ok (.getfield 181, 3) := by decide +kernel
theorem dX3_clear_4 : decode cX3_clear 4 = .ok (.istore_n 1, 1) := by decide +kernel
theorem dX3_clear_5 : decode cX3_clear 5 = .ok (.aload_n 0, 1) := by decide +kernel
theorem dX3_clear_6 : decode cX3_clear 6 = .ok (.iconst 0, 1) := by decide +kernel
theorem dX3_clear_7 : decode cX3_clear 7 = .ok (.putfield 181, 3) := by decide +kernel
theorem dX3_clear_10 : decode cX3_clear 10 = .ok (.iload_n 1, 1) := by decide +kernel
theorem dX3_clear_11 : decode cX3_clear 11 = .ok (.ireturn, 1) := by decide +kernel
theorem dX3_drawn_0 : decode cX3_drawn 0 = .ok (.aload_n 0, 1) := by decide +kernel
theorem dX3_drawn_1 : decode cX3_drawn 1 = .ok (.aload_n 0, 1) := by decide +kernel
theorem dX3_drawn_2 : decode cX3_drawn 2 = .ok (.getfield 184, 3) := by decide +kernel
theorem dX3_drawn_5 : decode cX3_drawn 5 = .ok (.ldc 187, 2) := by decide +kernel
theorem dX3_drawn_7 : decode cX3_drawn 7 = .ok (.imul, 1) := by decide +kernel
theorem dX3_drawn_8 : decode cX3_drawn 8 = .ok (.ldc 188, 2) := by decide +kernel
theorem dX3_drawn_10 : decode cX3_drawn 10 = .ok (.iadd, 1) := by decide +kernel
theorem dX3_drawn_11 : decode cX3_drawn 11 = .ok (.putfield 184, 3) := by decide +kernel
theorem dX3_drawn_14 : decode cX3_drawn 14 = .ok (.aload_n 0, 1) := by decide +kernel
theorem dX3_drawn_15 : decode cX3_drawn 15 = .ok (.getfield 184, 3) := by decide +kernel
theorem dX3_drawn_18 : decode cX3_drawn 18 = .ok (.ldc 189, 2) := by decide +kernel
theorem dX3_drawn_20 : decode cX3_drawn 20 = .ok (.iand, 1) := by decide +kernel
theorem dX3_drawn_21 : decode cX3_drawn 21 = .ok (.sipush 256, 3) := by decide +kernel
theorem dX3_drawn_24 : decode cX3_drawn 24 = .ok (.idiv, 1) := by decide +kernel
theorem dX3_drawn_25 : decode cX3_drawn 25 = .ok (.iload_n 1, 1) := by decide +kernel
theorem dX3_drawn_26 : decode cX3_drawn 26 = .ok (.irem, 1) := by decide +kernel
theorem dX3_drawn_27 : decode cX3_drawn 27 = .ok (.ireturn, 1) := by decide +kernel
theorem dX3_lots_0 : decode cX3_lots 0 = .ok (.iload_n 1, 1) := by decide +kernel
theorem dX3_lots_1 : decode cX3_lots 1 = .ok (.iconst 1, 1) := by decide +kernel
theorem dX3_lots_2 : decode cX3_lots 2 = .ok (.if_icmp .ge 10, 3) := by decide +kernel
theorem dX3_lots_5 : decode cX3_lots 5 = .ok (.aload_n 0, 1) := by decide +kernel
theorem dX3_lots_6 : decode cX3_lots 6 = .ok (.bipush (-4), 2) := by decide +kernel
theorem dX3_lots_8 : decode cX3_lots 8 = .ok (.invokevirtual 36, 3) := by decide +kernel
theorem dX3_lots_11 : decode cX3_lots 11 = .ok (.ireturn, 1) := by decide +kernel
theorem dX3_lots_12 : decode cX3_lots 12 = .ok (.iload_n 1, 1) := by decide +kernel
theorem dX3_lots_13 : decode cX3_lots 13 = .ok (.bipush 20, 2) := by decide +kernel
theorem dX3_lots_15 : decode cX3_lots 15 = .ok (.if_icmp .le 10, 3) := by decide +kernel
theorem dX3_lots_18 : decode cX3_lots 18 = .ok (.aload_n 0, 1) := by decide +kernel
theorem dX3_lots_19 : decode cX3_lots 19 = .ok (.bipush (-6), 2) := by decide +kernel
theorem dX3_lots_21 : decode cX3_lots 21 = .ok (.invokevirtual 36, 3) := by decide +kernel
theorem dX3_lots_24 : decode cX3_lots 24 = .ok (.ireturn, 1) := by decide +kernel
theorem dX3_lots_25 : decode cX3_lots 25 = .ok (.iload_n 3, 1) := by decide +kernel
theorem dX3_lots_26 : decode cX3_lots 26 = .ok (.iconst 0, 1) := by decide +kernel
theorem dX3_lots_27 : decode cX3_lots 27 = .ok (.iconst 1, 1) := by decide +kernel
theorem dX3_lots_28 : decode cX3_lots 28 = .ok (.invokestatic 40, 3) := by decide +kernel
theorem dX3_lots_31 : decode cX3_lots 31 = .ok (.ifCond .ne 10, 3) := by decide +kernel
theorem dX3_lots_34 : decode cX3_lots 34 = .ok (.aload_n 0, 1) := by decide +kernel
theorem dX3_lots_35 : decode cX3_lots 35 = .ok (.bipush (-2), 2) := by decide +kernel
theorem dX3_lots_37 : decode cX3_lots 37 = .ok (.invokevirtual 36, 3) := by decide +kernel
theorem dX3_lots_40 : decode cX3_lots 40 = .ok (.ireturn, 1) := by decide +kernel
theorem dX3_lots_41 : decode cX3_lots 41 = .ok (.aload_n 0, 1) := by decide +kernel
theorem dX3_lots_42 : decode cX3_lots 42 = .ok (.iload_n 2, 1) := by decide +kernel
theorem dX3_lots_43 : decode cX3_lots 43 = .ok (.putfield 184, 3) := by decide +kernel
theorem dX3_lots_46 : decode cX3_lots 46 = .ok (.iconst 0, 1) := by decide +kernel
theorem dX3_lots_47 : decode cX3_lots 47 = .ok (.istore 4, 2) := by decide +kernel
theorem dX3_lots_49 : decode cX3_lots 49 = .ok (.iconst 0, 1) := by decide +kernel
theorem dX3_lots_50 : decode cX3_lots 50 = .ok (.istore 5, 2) := by decide +kernel
theorem dX3_lots_52 : decode cX3_lots 52 = .ok (.iload 5, 2) := by decide +kernel
theorem dX3_lots_54 : decode cX3_lots 54 = .ok (.iload_n 1, 1) := by decide +kernel
theorem dX3_lots_55 : decode cX3_lots 55 = .ok (.if_icmp .ge 85, 3) := by decide +kernel
theorem dX3_lots_58 : decode cX3_lots 58 = .ok (.aload_n 0, 1) := by decide +kernel
theorem dX3_lots_59 : decode cX3_lots 59 = .ok (.getfield 9, 3) := by decide +kernel
theorem dX3_lots_62 : decode cX3_lots 62 = .ok (.aload_n 0, 1) := by decide +kernel
theorem dX3_lots_63 : decode cX3_lots 63 = .ok (.getfield 13, 3) := by decide +kernel
theorem dX3_lots_66 : decode cX3_lots 66 = .ok (.invokestatic 110, 3) := by decide +kernel
theorem dX3_lots_69 : decode cX3_lots 69 = .ok (.iconst 0, 1) := by decide +kernel
theorem dX3_lots_70 : decode cX3_lots 70 = .ok (.istore 6, 2) := by decide +kernel
theorem dX3_lots_72 : decode cX3_lots 72 = .ok (.iload 6, 2) := by decide +kernel
theorem dX3_lots_74 : decode cX3_lots 74 = .ok (.iconst 4, 1) := by decide +kernel
theorem dX3_lots_75 : decode cX3_lots 75 = .ok (.if_icmp .ge 30, 3) := by decide +kernel
theorem dX3_lots_78 : decode cX3_lots 78 = .ok (.aload_n 0, 1) := by decide +kernel
theorem dX3_lots_79 : decode cX3_lots 79 = .ok (.getfield 13, 3) := by decide +kernel
theorem dX3_lots_82 : decode cX3_lots 82 = .ok (.iconst 3, 1) := by decide +kernel
theorem dX3_lots_83 : decode cX3_lots 83 = .ok (.aload_n 0, 1) := by decide +kernel
theorem dX3_lots_84 : decode cX3_lots 84 = .ok (.bipush 31, 2) := by decide +kernel
theorem dX3_lots_86 : decode cX3_lots 86 = .ok (.invokevirtual 190, 3) := by decide +kernel
theorem dX3_lots_89 : decode cX3_lots 89 = .ok (.iastore, 1) := by decide +kernel
theorem dX3_lots_90 : decode cX3_lots 90 = .ok (.aload_n 0, 1) := by decide +kernel
theorem dX3_lots_91 : decode cX3_lots 91 = .ok (.getfield 13, 3) := by decide +kernel
theorem dX3_lots_94 : decode cX3_lots 94 = .ok (.bipush 12, 2) := by decide +kernel
theorem dX3_lots_96 : decode cX3_lots 96 = .ok (.invokestatic 104, 3) := by decide +kernel
theorem dX3_lots_99 : decode cX3_lots 99 = .ok (.iinc 6 1, 3) := by decide +kernel
theorem dX3_lots_102 : decode cX3_lots 102 = .ok (.goto (-30), 3) := by decide +kernel
theorem dX3_lots_105 : decode cX3_lots 105 = .ok (.iload 4, 2) := by decide +kernel
theorem dX3_lots_107 : decode cX3_lots 107 = .ok (.iload_n 3, 1) := by decide +kernel
theorem dX3_lots_108 : decode cX3_lots 108 = .ok (.ifCond .ne 13, 3) := by decide +kernel
theorem dX3_lots_111 : decode cX3_lots 111 = .ok (.aload_n 0, 1) := by decide +kernel
theorem dX3_lots_112 : decode cX3_lots 112 = .ok (.getfield 13, 3) := by decide +kernel
theorem dX3_lots_115 : decode cX3_lots 115 = .ok (.invokestatic 141, 3) := by decide +kernel
theorem dX3_lots_118 : decode cX3_lots 118 = .ok (.goto 13, 3) := by decide +kernel
theorem dX3_lots_121 : decode cX3_lots 121 = .ok (.aload_n 0, 1) := by decide +kernel
theorem dX3_lots_122 : decode cX3_lots 122 = .ok (.getfield 13, 3) := by decide +kernel
theorem dX3_lots_125 : decode cX3_lots 125 = .ok (.invokestatic 152, 3) := by decide +kernel
theorem dX3_lots_128 : decode cX3_lots 128 = .ok (.invokestatic 120, 3) := by decide +kernel
theorem dX3_lots_131 : decode cX3_lots 131 = .ok (.iadd, 1) := by decide +kernel
theorem dX3_lots_132 : decode cX3_lots 132 = .ok (.istore 4, 2) := by decide +kernel
theorem dX3_lots_134 : decode cX3_lots 134 = .ok (.iinc 5 1, 3) := by decide +kernel
theorem dX3_lots_137 : decode cX3_lots 137 = .ok (.goto (-85), 3) := by decide +kernel
theorem dX3_lots_140 : decode cX3_lots 140 = .ok (.iload 4, 2) := by decide +kernel
theorem dX3_lots_142 : decode cX3_lots 142 = .ok (.ireturn, 1) := by decide +kernel
theorem dX3_image_0 : decode cX3_image 0 = .ok (.aload_n 0, 1) := by decide +kernel
theorem dX3_image_1 : decode cX3_image 1 = .ok (.getfield 9, 3) := by decide +kernel
theorem dX3_image_4 : decode cX3_image 4 = .ok (.aload_n 0, 1) := by decide +kernel
theorem dX3_image_5 : decode cX3_image 5 = .ok (.getfield 16, 3) := by decide +kernel
theorem dX3_image_8 : decode cX3_image 8 = .ok (.invokestatic 110, 3) := by decide +kernel
theorem dX3_image_11 : decode cX3_image 11 = .ok (.aload_n 0, 1) := by decide +kernel
theorem dX3_image_12 : decode cX3_image 12 = .ok (.iconst 1, 1) := by decide +kernel
theorem dX3_image_13 : decode cX3_image 13 = .ok (.putfield 193, 3) := by decide +kernel
theorem dX3_image_16 : decode cX3_image 16 = .ok (.aload_n 0, 1) := by decide +kernel
theorem dX3_image_17 : decode cX3_image 17 = .ok (.getfield 9, 3) := by decide +kernel
theorem dX3_image_20 : decode cX3_image 20 = .ok (.iconst 1, 1) := by decide +kernel
theorem dX3_image_21 : decode cX3_image 21 = .ok (.iaload, 1) := by decide +kernel
theorem dX3_image_22 : decode cX3_image 22 = .ok (.ireturn, 1) := by decide +kernel
theorem dX3_on_0 : decode cX3_on 0 = .ok (.aload_n 0, 1) := by decide +kernel
theorem dX3_on_1 : decode cX3_on 1 = .ok (.getfield 193, 3) := by decide +kernel
theorem dX3_on_4 : decode cX3_on 4 = .ok (.ifCond .ne 10, 3) := by decide +kernel
theorem dX3_on_7 : decode cX3_on 7 = .ok (.aload_n 0, 1) := by decide +kernel
theorem dX3_on_8 : decode cX3_on 8 = .ok (.bipush (-3), 2) := by decide +kernel
theorem dX3_on_10 : decode cX3_on 10 = .ok (.invokevirtual 36, 3) := by decide +kernel
theorem dX3_on_13 : decode cX3_on 13 = .ok (.ireturn, 1) := by decide +kernel
theorem dX3_on_14 : decode cX3_on 14 = .ok (.aload_n 0, 1) := by decide +kernel
theorem dX3_on_15 : decode cX3_on 15 = .ok (.getfield 16, 3) := by decide +kernel
theorem dX3_on_18 : decode cX3_on 18 = .ok (.aload_n 0, 1) := by decide +kernel
theorem dX3_on_19 : decode cX3_on 19 = .ok (.getfield 9, 3) := by decide +kernel
theorem dX3_on_22 : decode cX3_on 22 = .ok (.invokestatic 110, 3) := by decide +kernel
theorem dX3_on_25 : decode cX3_on 25 = .ok (.aload_n 0, 1) := by decide +kernel
theorem dX3_on_26 : decode cX3_on 26 = .ok (.getfield 9, 3) := by decide +kernel
theorem dX3_on_29 : decode cX3_on 29 = .ok (.iconst 1, 1) := by decide +kernel
theorem dX3_on_30 : decode cX3_on 30 = .ok (.iaload, 1) := by decide +kernel
theorem dX3_on_31 : decode cX3_on 31 = .ok (.ireturn, 1) := by decide +kernel
theorem dX3_count_0 : decode cX3_count 0 = .ok (.iload_n 1, 1) := by decide +kernel
theorem dX3_count_1 : decode cX3_count 1 = .ok (.bipush 11, 2) := by decide +kernel
theorem dX3_count_3 : decode cX3_count 3 = .ok (.bipush 16, 2) := by decide +kernel
theorem dX3_count_5 : decode cX3_count 5 = .ok (.invokestatic 40, 3) := by decide +kernel
theorem dX3_count_8 : decode cX3_count 8 = .ok (.ifCond .eq 13, 3) := by decide +kernel
theorem dX3_count_11 : decode cX3_count 11 = .ok (.aload_n 0, 1) := by decide +kernel
theorem dX3_count_12 : decode cX3_count 12 = .ok (.getfield 28, 3) := by decide +kernel
theorem dX3_count_15 : decode cX3_count 15 = .ok (.iload_n 1, 1) := by decide +kernel
theorem dX3_count_16 : decode cX3_count 16 = .ok (.bipush 10, 2) := by decide +kernel
theorem dX3_count_18 : decode cX3_count 18 = .ok (.isub, 1) := by decide +kernel
theorem dX3_count_19 : decode cX3_count 19 = .ok (.iaload, 1) := by decide +kernel
theorem dX3_count_20 : decode cX3_count 20 = .ok (.ireturn, 1) := by decide +kernel
theorem dX3_count_21 : decode cX3_count 21 = .ok (.iload_n 1, 1) := by decide +kernel
theorem dX3_count_22 : decode cX3_count 22 = .ok (.tableswitch 80 0 7 #[46, 46, 46, 46, 53, 62, 70, 75], 46) := by decide +kernel
theorem dX3_count_68 : decode cX3_count 68 = .ok (.aload_n 0, 1) := by decide +kernel
theorem dX3_count_69 : decode cX3_count 69 = .ok (.getfield 9, 3) := by decide +kernel
theorem dX3_count_72 : decode cX3_count 72 = .ok (.iload_n 1, 1) := by decide +kernel
theorem dX3_count_73 : decode cX3_count 73 = .ok (.iaload, 1) := by decide +kernel
theorem dX3_count_74 : decode cX3_count 74 = .ok (.ireturn, 1) := by decide +kernel
theorem dX3_count_75 : decode cX3_count 75 = .ok (.aload_n 0, 1) := by decide +kernel
theorem dX3_count_76 : decode cX3_count 76 = .ok (.getfield 9, 3) := by decide +kernel
theorem dX3_count_79 : decode cX3_count 79 = .ok (.iconst 4, 1) := by decide +kernel
theorem dX3_count_80 : decode cX3_count 80 = .ok (.invokestatic 117, 3) := by decide +kernel
theorem dX3_count_83 : decode cX3_count 83 = .ok (.ireturn, 1) := by decide +kernel
theorem dX3_count_84 : decode cX3_count 84 = .ok (.aload_n 0, 1) := by decide +kernel
theorem dX3_count_85 : decode cX3_count 85 = .ok (.getfield 9, 3) := by decide +kernel
theorem dX3_count_88 : decode cX3_count 88 = .ok (.invokestatic 141, 3) := by decide +kernel
theorem dX3_count_91 : decode cX3_count 91 = .ok (.ireturn, 1) := by decide +kernel
theorem dX3_count_92 : decode cX3_count 92 = .ok (.aload_n 0, 1) := by decide +kernel
theorem dX3_count_93 : decode cX3_count 93 = .ok (.getfield 181, 3) := by decide +kernel
theorem dX3_count_96 : decode cX3_count 96 = .ok (.ireturn, 1) := by decide +kernel
theorem dX3_count_97 : decode cX3_count 97 = .ok (.aload_n 0, 1) := by decide +kernel
theorem dX3_count_98 : decode cX3_count 98 = .ok (.getfield 76, 3) := by decide +kernel
theorem dX3_count_101 : decode cX3_count 101 = .ok (.ireturn, 1) := by decide +kernel
theorem dX3_count_102 : decode cX3_count 102 = .ok (.bipush (-9), 2) := by decide +kernel
theorem dX3_count_104 : decode cX3_count 104 = .ok (.ireturn, 1) := by decide +kernel
theorem dJ11_isValidCodePoint_9a6ad_0 : decode cJ11_isValidCodePoint_9a6ad 0 = .ok (.iload_n 0, 1) := by decide +kernel
theorem dJ11_isValidCodePoint_9a6ad_1 : decode cJ11_isValidCodePoint_9a6ad 1 = .ok (.bipush 16, 2) := by decide +kernel
theorem dJ11_isValidCodePoint_9a6ad_3 : decode cJ11_isValidCodePoint_9a6ad 3 = .ok (.iushr, 1) := by decide +kernel
theorem dJ11_isValidCodePoint_9a6ad_4 : decode cJ11_isValidCodePoint_9a6ad 4 = .ok (.istore_n 1, 1) := by decide +kernel
theorem dJ11_isValidCodePoint_9a6ad_5 : decode cJ11_isValidCodePoint_9a6ad 5 = .ok (.iload_n 1, 1) := by decide +kernel
theorem dJ11_isValidCodePoint_9a6ad_6 : decode cJ11_isValidCodePoint_9a6ad 6 = .ok (.bipush 17, 2) := by decide +kernel
theorem dJ11_isValidCodePoint_9a6ad_8 : decode cJ11_isValidCodePoint_9a6ad 8 = .ok (.if_icmp .ge 7, 3) := by decide +kernel
theorem dJ11_isValidCodePoint_9a6ad_11 : decode cJ11_isValidCodePoint_9a6ad 11 = .ok (.iconst 1, 1) := by decide +kernel
theorem dJ11_isValidCodePoint_9a6ad_12 : decode cJ11_isValidCodePoint_9a6ad 12 = .ok (.goto 4, 3) := by decide +kernel
theorem dJ11_isValidCodePoint_9a6ad_15 : decode cJ11_isValidCodePoint_9a6ad 15 = .ok (.iconst 0, 1) := by decide +kernel
theorem dJ11_isValidCodePoint_9a6ad_16 : decode cJ11_isValidCodePoint_9a6ad 16 = .ok (.ireturn, 1) := by decide +kernel
theorem dJ11_highSurrogate_5068e_0 : decode cJ11_highSurrogate_5068e 0 = .ok (.iload_n 0, 1) := by decide +kernel
theorem dJ11_highSurrogate_5068e_1 : decode cJ11_highSurrogate_5068e 1 = .ok (.bipush 10, 2) := by decide +kernel
theorem dJ11_highSurrogate_5068e_3 : decode cJ11_highSurrogate_5068e 3 = .ok (.iushr, 1) := by decide +kernel
theorem dJ11_highSurrogate_5068e_4 : decode cJ11_highSurrogate_5068e 4 = .ok (.ldc 110, 2) := by decide +kernel
theorem dJ11_highSurrogate_5068e_6 : decode cJ11_highSurrogate_5068e 6 = .ok (.iadd, 1) := by decide +kernel
theorem dJ11_highSurrogate_5068e_7 : decode cJ11_highSurrogate_5068e 7 = .ok (.i2c, 1) := by decide +kernel
theorem dJ11_highSurrogate_5068e_8 : decode cJ11_highSurrogate_5068e 8 = .ok (.ireturn, 1) := by decide +kernel
theorem dJ11_lowSurrogate_5068e_0 : decode cJ11_lowSurrogate_5068e 0 = .ok (.iload_n 0, 1) := by decide +kernel
theorem dJ11_lowSurrogate_5068e_1 : decode cJ11_lowSurrogate_5068e 1 = .ok (.sipush 1023, 3) := by decide +kernel
theorem dJ11_lowSurrogate_5068e_4 : decode cJ11_lowSurrogate_5068e 4 = .ok (.iand, 1) := by decide +kernel
theorem dJ11_lowSurrogate_5068e_5 : decode cJ11_lowSurrogate_5068e 5 = .ok (.ldc 76, 2) := by decide +kernel
theorem dJ11_lowSurrogate_5068e_7 : decode cJ11_lowSurrogate_5068e 7 = .ok (.iadd, 1) := by decide +kernel
theorem dJ11_lowSurrogate_5068e_8 : decode cJ11_lowSurrogate_5068e 8 = .ok (.i2c, 1) := by decide +kernel
theorem dJ11_lowSurrogate_5068e_9 : decode cJ11_lowSurrogate_5068e 9 = .ok (.ireturn, 1) := by decide +kernel
theorem dJ6_bitCount_0f7a4_0 : decode cJ6_bitCount_0f7a4 0 = .ok (.iload_n 0, 1) := by decide +kernel
theorem dJ6_bitCount_0f7a4_1 : decode cJ6_bitCount_0f7a4 1 = .ok (.iload_n 0, 1) := by decide +kernel
theorem dJ6_bitCount_0f7a4_2 : decode cJ6_bitCount_0f7a4 2 = .ok (.iconst 1, 1) := by decide +kernel
theorem dJ6_bitCount_0f7a4_3 : decode cJ6_bitCount_0f7a4 3 = .ok (.iushr, 1) := by decide +kernel
theorem dJ6_bitCount_0f7a4_4 : decode cJ6_bitCount_0f7a4 4 = .ok (.ldc_w 265, 3) := by decide +kernel
theorem dJ6_bitCount_0f7a4_7 : decode cJ6_bitCount_0f7a4 7 = .ok (.iand, 1) := by decide +kernel
theorem dJ6_bitCount_0f7a4_8 : decode cJ6_bitCount_0f7a4 8 = .ok (.isub, 1) := by decide +kernel
theorem dJ6_bitCount_0f7a4_9 : decode cJ6_bitCount_0f7a4 9 = .ok (.istore_n 0, 1) := by decide +kernel
theorem dJ6_bitCount_0f7a4_10 : decode cJ6_bitCount_0f7a4 10 = .ok (.iload_n 0, 1) := by decide +kernel
theorem dJ6_bitCount_0f7a4_11 : decode cJ6_bitCount_0f7a4 11 = .ok (.ldc_w 266, 3) := by decide +kernel
theorem dJ6_bitCount_0f7a4_14 : decode cJ6_bitCount_0f7a4 14 = .ok (.iand, 1) := by decide +kernel
theorem dJ6_bitCount_0f7a4_15 : decode cJ6_bitCount_0f7a4 15 = .ok (.iload_n 0, 1) := by decide +kernel
theorem dJ6_bitCount_0f7a4_16 : decode cJ6_bitCount_0f7a4 16 = .ok (.iconst 2, 1) := by decide +kernel
theorem dJ6_bitCount_0f7a4_17 : decode cJ6_bitCount_0f7a4 17 = .ok (.iushr, 1) := by decide +kernel
theorem dJ6_bitCount_0f7a4_18 : decode cJ6_bitCount_0f7a4 18 = .ok (.ldc_w 266, 3) := by decide +kernel
theorem dJ6_bitCount_0f7a4_21 : decode cJ6_bitCount_0f7a4 21 = .ok (.iand, 1) := by decide +kernel
theorem dJ6_bitCount_0f7a4_22 : decode cJ6_bitCount_0f7a4 22 = .ok (.iadd, 1) := by decide +kernel
theorem dJ6_bitCount_0f7a4_23 : decode cJ6_bitCount_0f7a4 23 = .ok (.istore_n 0, 1) := by decide +kernel
theorem dJ6_bitCount_0f7a4_24 : decode cJ6_bitCount_0f7a4 24 = .ok (.iload_n 0, 1) := by decide +kernel
theorem dJ6_bitCount_0f7a4_25 : decode cJ6_bitCount_0f7a4 25 = .ok (.iload_n 0, 1) := by decide +kernel
theorem dJ6_bitCount_0f7a4_26 : decode cJ6_bitCount_0f7a4 26 = .ok (.iconst 4, 1) := by decide +kernel
theorem dJ6_bitCount_0f7a4_27 : decode cJ6_bitCount_0f7a4 27 = .ok (.iushr, 1) := by decide +kernel
theorem dJ6_bitCount_0f7a4_28 : decode cJ6_bitCount_0f7a4 28 = .ok (.iadd, 1) := by decide +kernel
theorem dJ6_bitCount_0f7a4_29 : decode cJ6_bitCount_0f7a4 29 = .ok (.ldc_w 267, 3) := by decide +kernel
theorem dJ6_bitCount_0f7a4_32 : decode cJ6_bitCount_0f7a4 32 = .ok (.iand, 1) := by decide +kernel
theorem dJ6_bitCount_0f7a4_33 : decode cJ6_bitCount_0f7a4 33 = .ok (.istore_n 0, 1) := by decide +kernel
theorem dJ6_bitCount_0f7a4_34 : decode cJ6_bitCount_0f7a4 34 = .ok (.iload_n 0, 1) := by decide +kernel
theorem dJ6_bitCount_0f7a4_35 : decode cJ6_bitCount_0f7a4 35 = .ok (.iload_n 0, 1) := by decide +kernel
theorem dJ6_bitCount_0f7a4_36 : decode cJ6_bitCount_0f7a4 36 = .ok (.bipush 8, 2) := by decide +kernel
theorem dJ6_bitCount_0f7a4_38 : decode cJ6_bitCount_0f7a4 38 = .ok (.iushr, 1) := by decide +kernel
theorem dJ6_bitCount_0f7a4_39 : decode cJ6_bitCount_0f7a4 39 = .ok (.iadd, 1) := by decide +kernel
theorem dJ6_bitCount_0f7a4_40 : decode cJ6_bitCount_0f7a4 40 = .ok (.istore_n 0, 1) := by decide +kernel
theorem dJ6_bitCount_0f7a4_41 : decode cJ6_bitCount_0f7a4 41 = .ok (.iload_n 0, 1) := by decide +kernel
theorem dJ6_bitCount_0f7a4_42 : decode cJ6_bitCount_0f7a4 42 = .ok (.iload_n 0, 1) := by decide +kernel
theorem dJ6_bitCount_0f7a4_43 : decode cJ6_bitCount_0f7a4 43 = .ok (.bipush 16, 2) := by decide +kernel
theorem dJ6_bitCount_0f7a4_45 : decode cJ6_bitCount_0f7a4 45 = .ok (.iushr, 1) := by decide +kernel
theorem dJ6_bitCount_0f7a4_46 : decode cJ6_bitCount_0f7a4 46 = .ok (.iadd, 1) := by decide +kernel
theorem dJ6_bitCount_0f7a4_47 : decode cJ6_bitCount_0f7a4 47 = .ok (.istore_n 0, 1) := by decide +kernel
theorem dJ6_bitCount_0f7a4_48 : decode cJ6_bitCount_0f7a4 48 = .ok (.iload_n 0, 1) := by decide +kernel
theorem dJ6_bitCount_0f7a4_49 : decode cJ6_bitCount_0f7a4 49 = .ok (.bipush 63, 2) := by decide +kernel
theorem dJ6_bitCount_0f7a4_51 : decode cJ6_bitCount_0f7a4 51 = .ok (.iand, 1) := by decide +kernel
theorem dJ6_bitCount_0f7a4_52 : decode cJ6_bitCount_0f7a4 52 = .ok (.ireturn, 1) := by decide +kernel
theorem dJ9_max_7cf53_0 : decode cJ9_max_7cf53 0 = .ok (.iload_n 0, 1) := by decide +kernel
theorem dJ9_max_7cf53_1 : decode cJ9_max_7cf53 1 = .ok (.iload_n 1, 1) := by decide +kernel
theorem dJ9_max_7cf53_2 : decode cJ9_max_7cf53 2 = .ok (.if_icmp .lt 7, 3) := by decide +kernel
theorem dJ9_max_7cf53_5 : decode cJ9_max_7cf53 5 = .ok (.iload_n 0, 1) := by decide +kernel
theorem dJ9_max_7cf53_6 : decode cJ9_max_7cf53 6 = .ok (.goto 4, 3) := by decide +kernel
theorem dJ9_max_7cf53_9 : decode cJ9_max_7cf53 9 = .ok (.iload_n 1, 1) := by decide +kernel
theorem dJ9_max_7cf53_10 : decode cJ9_max_7cf53 10 = .ok (.ireturn, 1) := by decide +kernel
theorem dJ9_min_7cf53_0 : decode cJ9_min_7cf53 0 = .ok (.iload_n 0, 1) := by decide +kernel
theorem dJ9_min_7cf53_1 : decode cJ9_min_7cf53 1 = .ok (.iload_n 1, 1) := by decide +kernel
theorem dJ9_min_7cf53_2 : decode cJ9_min_7cf53 2 = .ok (.if_icmp .gt 7, 3) := by decide +kernel
theorem dJ9_min_7cf53_5 : decode cJ9_min_7cf53 5 = .ok (.iload_n 0, 1) := by decide +kernel
theorem dJ9_min_7cf53_6 : decode cJ9_min_7cf53 6 = .ok (.goto 4, 3) := by decide +kernel
theorem dJ9_min_7cf53_9 : decode cJ9_min_7cf53 9 = .ok (.iload_n 1, 1) := by decide +kernel
theorem dJ9_min_7cf53_10 : decode cJ9_min_7cf53 10 = .ok (.ireturn, 1) := by decide +kernel
theorem dJ0_length_8abf5_0 : decode cJ0_length_8abf5 0 = .ok (.aload_n 0, 1) := by decide +kernel
theorem dJ0_length_8abf5_1 : decode cJ0_length_8abf5 1 = .ok (.getfield 9, 3) := by decide +kernel
theorem dJ0_length_8abf5_4 : decode cJ0_length_8abf5 4 = .ok (.arraylength, 1) := by decide +kernel
theorem dJ0_length_8abf5_5 : decode cJ0_length_8abf5 5 = .ok (.aload_n 0, 1) := by decide +kernel
theorem dJ0_length_8abf5_6 : decode cJ0_length_8abf5 6 = .ok (.invokevirtual 335, 3) := by decide +kernel
theorem dJ0_length_8abf5_9 : decode cJ0_length_8abf5 9 = .ok (.ishr, 1) := by decide +kernel
theorem dJ0_length_8abf5_10 : decode cJ0_length_8abf5 10 = .ok (.ireturn, 1) := by decide +kernel
theorem dJ0_isEmpty_aae02_0 : decode cJ0_isEmpty_aae02 0 = .ok (.aload_n 0, 1) := by decide +kernel
theorem dJ0_isEmpty_aae02_1 : decode cJ0_isEmpty_aae02 1 = .ok (.getfield 9, 3) := by decide +kernel
theorem dJ0_isEmpty_aae02_4 : decode cJ0_isEmpty_aae02 4 = .ok (.arraylength, 1) := by decide +kernel
theorem dJ0_isEmpty_aae02_5 : decode cJ0_isEmpty_aae02 5 = .ok (.ifCond .ne 7, 3) := by decide +kernel
theorem dJ0_isEmpty_aae02_8 : decode cJ0_isEmpty_aae02 8 = .ok (.iconst 1, 1) := by decide +kernel
theorem dJ0_isEmpty_aae02_9 : decode cJ0_isEmpty_aae02 9 = .ok (.goto 4, 3) := by decide +kernel
theorem dJ0_isEmpty_aae02_12 : decode cJ0_isEmpty_aae02 12 = .ok (.iconst 0, 1) := by decide +kernel
theorem dJ0_isEmpty_aae02_13 : decode cJ0_isEmpty_aae02 13 = .ok (.ireturn, 1) := by decide +kernel
theorem dJ0_charAt_5068e_0 : decode cJ0_charAt_5068e 0 = .ok (.aload_n 0, 1) := by decide +kernel
theorem dJ0_charAt_5068e_1 : decode cJ0_charAt_5068e 1 = .ok (.invokevirtual 492, 3) := by decide +kernel
theorem dJ0_charAt_5068e_4 : decode cJ0_charAt_5068e 4 = .ok (.ifCond .eq 12, 3) := by decide +kernel
theorem dJ0_charAt_5068e_7 : decode cJ0_charAt_5068e 7 = .ok (.aload_n 0, 1) := by decide +kernel
theorem dJ0_charAt_5068e_8 : decode cJ0_charAt_5068e 8 = .ok (.getfield 9, 3) := by decide +kernel
theorem dJ0_charAt_5068e_11 : decode cJ0_charAt_5068e 11 = .ok (.iload_n 1, 1) := by decide +kernel
theorem dJ0_charAt_5068e_12 : decode cJ0_charAt_5068e 12 = .ok (.invokestatic 495, 3) := by decide +kernel
theorem dJ0_charAt_5068e_15 : decode cJ0_charAt_5068e 15 = .ok (.ireturn, 1) := by decide +kernel
theorem dJ0_charAt_5068e_16 : decode cJ0_charAt_5068e 16 = .ok (.aload_n 0, 1) := by decide +kernel
theorem dJ0_charAt_5068e_17 : decode cJ0_charAt_5068e 17 = .ok (.getfield 9, 3) := by decide +kernel
theorem dJ0_charAt_5068e_20 : decode cJ0_charAt_5068e 20 = .ok (.iload_n 1, 1) := by decide +kernel
theorem dJ0_charAt_5068e_21 : decode cJ0_charAt_5068e 21 = .ok (.invokestatic 498, 3) := by decide +kernel
theorem dJ0_charAt_5068e_24 : decode cJ0_charAt_5068e 24 = .ok (.ireturn, 1) := by decide +kernel
theorem dJ0_indexOf_0f7a4_0 : decode cJ0_indexOf_0f7a4 0 = .ok (.aload_n 0, 1) := by decide +kernel
theorem dJ0_indexOf_0f7a4_1 : decode cJ0_indexOf_0f7a4 1 = .ok (.iload_n 1, 1) := by decide +kernel
theorem dJ0_indexOf_0f7a4_2 : decode cJ0_indexOf_0f7a4 2 = .ok (.iconst 0, 1) := by decide +kernel
theorem dJ0_indexOf_0f7a4_3 : decode cJ0_indexOf_0f7a4 3 = .ok (.invokevirtual 633, 3) := by decide +kernel
theorem dJ0_indexOf_0f7a4_6 : decode cJ0_indexOf_0f7a4 6 = .ok (.ireturn, 1) := by decide +kernel
theorem dJ0_indexOf_7cf53_0 : decode cJ0_indexOf_7cf53 0 = .ok (.aload_n 0, 1) := by decide +kernel
theorem dJ0_indexOf_7cf53_1 : decode cJ0_indexOf_7cf53 1 = .ok (.invokevirtual 492, 3) := by decide +kernel
theorem dJ0_indexOf_7cf53_4 : decode cJ0_indexOf_7cf53 4 = .ok (.ifCond .eq 19, 3) := by decide +kernel
theorem dJ0_indexOf_7cf53_7 : decode cJ0_indexOf_7cf53 7 = .ok (.aload_n 0, 1) := by decide +kernel
theorem dJ0_indexOf_7cf53_8 : decode cJ0_indexOf_7cf53 8 = .ok (.getfield 9, 3) := by decide +kernel
theorem dJ0_indexOf_7cf53_11 : decode cJ0_indexOf_7cf53 11 = .ok (.iload_n 1, 1) := by decide +kernel
theorem dJ0_indexOf_7cf53_12 : decode cJ0_indexOf_7cf53 12 = .ok (.iload_n 2, 1) := by decide +kernel
theorem dJ0_indexOf_7cf53_13 : decode cJ0_indexOf_7cf53 13 = .ok (.aload_n 0, 1) := by decide +kernel
theorem dJ0_indexOf_7cf53_14 : decode cJ0_indexOf_7cf53 14 = .ok (.invokevirtual 505, 3) := by decide +kernel
theorem dJ0_indexOf_7cf53_17 : decode cJ0_indexOf_7cf53 17 = .ok (.invokestatic 637, 3) := by decide +kernel
theorem dJ0_indexOf_7cf53_20 : decode cJ0_indexOf_7cf53 20 = .ok (.goto 16, 3) := by decide +kernel
theorem dJ0_indexOf_7cf53_23 : decode cJ0_indexOf_7cf53 23 = .ok (.aload_n 0, 1) := by decide +kernel
theorem dJ0_indexOf_7cf53_24 : decode cJ0_indexOf_7cf53 24 = .ok (.getfield 9, 3) := by decide +kernel
theorem dJ0_indexOf_7cf53_27 : decode cJ0_indexOf_7cf53 27 = .ok (.iload_n 1, 1) := by decide +kernel
theorem dJ0_indexOf_7cf53_28 : decode cJ0_indexOf_7cf53 28 = .ok (.iload_n 2, 1) := by decide +kernel
theorem dJ0_indexOf_7cf53_29 : decode cJ0_indexOf_7cf53 29 = .ok (.aload_n 0, 1) := by decide +kernel
theorem dJ0_indexOf_7cf53_30 : decode cJ0_indexOf_7cf53 30 = .ok (.invokevirtual 505, 3) := by decide +kernel
theorem dJ0_indexOf_7cf53_33 : decode cJ0_indexOf_7cf53 33 = .ok (.invokestatic 640, 3) := by decide +kernel
theorem dJ0_indexOf_7cf53_36 : decode cJ0_indexOf_7cf53 36 = .ok (.ireturn, 1) := by decide +kernel
theorem dJ0_coder_7d493_0 : decode cJ0_coder_7d493 0 = .ok (.getstatic 38, 3) := by decide +kernel
theorem dJ0_coder_7d493_3 : decode cJ0_coder_7d493 3 = .ok (.ifCond .eq 10, 3) := by decide +kernel
theorem dJ0_coder_7d493_6 : decode cJ0_coder_7d493 6 = .ok (.aload_n 0, 1) := by decide +kernel
theorem dJ0_coder_7d493_7 : decode cJ0_coder_7d493 7 = .ok (.getfield 15, 3) := by decide +kernel
theorem dJ0_coder_7d493_10 : decode cJ0_coder_7d493 10 = .ok (.goto 4, 3) := by decide +kernel
theorem dJ0_coder_7d493_13 : decode cJ0_coder_7d493 13 = .ok (.iconst 1, 1) := by decide +kernel
theorem dJ0_coder_7d493_14 : decode cJ0_coder_7d493 14 = .ok (.ireturn, 1) := by decide +kernel
theorem dJ0_isLatin1_aae02_0 : decode cJ0_isLatin1_aae02 0 = .ok (.getstatic 38, 3) := by decide +kernel
theorem dJ0_isLatin1_aae02_3 : decode cJ0_isLatin1_aae02 3 = .ok (.ifCond .eq 14, 3) := by decide +kernel
theorem dJ0_isLatin1_aae02_6 : decode cJ0_isLatin1_aae02 6 = .ok (.aload_n 0, 1) := by decide +kernel
theorem dJ0_isLatin1_aae02_7 : decode cJ0_isLatin1_aae02 7 = .ok (.getfield 15, 3) := by decide +kernel
theorem dJ0_isLatin1_aae02_10 : decode cJ0_isLatin1_aae02 10 = .ok (.ifCond .ne 7, 3) := by decide +kernel
theorem dJ0_isLatin1_aae02_13 : decode cJ0_isLatin1_aae02 13 = .ok (.iconst 1, 1) := by decide +kernel
theorem dJ0_isLatin1_aae02_14 : decode cJ0_isLatin1_aae02 14 = .ok (.goto 4, 3) := by decide +kernel
theorem dJ0_isLatin1_aae02_17 : decode cJ0_isLatin1_aae02 17 = .ok (.iconst 0, 1) := by decide +kernel
theorem dJ0_isLatin1_aae02_18 : decode cJ0_isLatin1_aae02 18 = .ok (.ireturn, 1) := by decide +kernel
theorem dJ0_checkIndex_df160_0 : decode cJ0_checkIndex_df160 0 = .ok (.iload_n 0, 1) := by decide +kernel
theorem dJ0_checkIndex_df160_1 : decode cJ0_checkIndex_df160 1 = .ok (.iload_n 1, 1) := by decide +kernel
theorem dJ0_checkIndex_df160_2 : decode cJ0_checkIndex_df160 2 = .ok (.getstatic 1053, 3) := by decide +kernel
theorem dJ0_checkIndex_df160_5 : decode cJ0_checkIndex_df160 5 = .ok (.invokestatic 1059, 3) := by decide +kernel
theorem dJ0_checkIndex_df160_8 : decode cJ0_checkIndex_df160 8 = .ok (.pop, 1) := by decide +kernel
theorem dJ0_checkIndex_df160_9 : decode cJ0_checkIndex_df160 9 = .ok (.return_, 1) := by decide +kernel
theorem dJ0_checkBoundsBeginEnd_23922_0 : decode cJ0_checkBoundsBeginEnd_23922 0 = .ok (.iload_n 0, 1) := by decide +kernel
theorem dJ0_checkBoundsBeginEnd_23922_1 : decode cJ0_checkBoundsBeginEnd_23922 1 = .ok (.iload_n 1, 1) := by decide +kernel
theorem dJ0_checkBoundsBeginEnd_23922_2 : decode cJ0_checkBoundsBeginEnd_23922 2 = .ok (.iload_n 2, 1) := by decide +kernel
theorem dJ0_checkBoundsBeginEnd_23922_3 : decode cJ0_checkBoundsBeginEnd_23922 3 = .ok (.getstatic 1053, 3) := by decide +kernel
theorem dJ0_checkBoundsBeginEnd_23922_6 : decode cJ0_checkBoundsBeginEnd_23922 6 = .ok (.invokestatic 1062, 3) := by decide +kernel
theorem dJ0_checkBoundsBeginEnd_23922_9 : decode cJ0_checkBoundsBeginEnd_23922 9 = .ok (.pop, 1) := by decide +kernel
theorem dJ0_checkBoundsBeginEnd_23922_10 : decode cJ0_checkBoundsBeginEnd_23922 10 = .ok (.return_, 1) := by decide +kernel
theorem dJ1_charAt_3b067_0 : decode cJ1_charAt_3b067 0 = .ok (.iload_n 1, 1) := by decide +kernel
theorem dJ1_charAt_3b067_1 : decode cJ1_charAt_3b067 1 = .ok (.aload_n 0, 1) := by decide +kernel
theorem dJ1_charAt_3b067_2 : decode cJ1_charAt_3b067 2 = .ok (.arraylength, 1) := by decide +kernel
theorem dJ1_charAt_3b067_3 : decode cJ1_charAt_3b067 3 = .ok (.invokestatic 9, 3) := by decide +kernel
theorem dJ1_charAt_3b067_6 : decode cJ1_charAt_3b067 6 = .ok (.aload_n 0, 1) := by decide +kernel
theorem dJ1_charAt_3b067_7 : decode cJ1_charAt_3b067 7 = .ok (.iload_n 1, 1) := by decide +kernel
theorem dJ1_charAt_3b067_8 : decode cJ1_charAt_3b067 8 = .ok (.baload, 1) := by decide +kernel
theorem dJ1_charAt_3b067_9 : decode cJ1_charAt_3b067 9 = .ok (.sipush 255, 3) := by decide +kernel
theorem dJ1_charAt_3b067_12 : decode cJ1_charAt_3b067 12 = .ok (.iand, 1) := by decide +kernel
theorem dJ1_charAt_3b067_13 : decode cJ1_charAt_3b067 13 = .ok (.i2c, 1) := by decide +kernel
theorem dJ1_charAt_3b067_14 : decode cJ1_charAt_3b067 14 = .ok (.ireturn, 1) := by decide +kernel
theorem dJ1_canEncode_9a6ad_0 : decode cJ1_canEncode_9a6ad 0 = .ok (.iload_n 0, 1) := by decide +kernel
theorem dJ1_canEncode_9a6ad_1 : decode cJ1_canEncode_9a6ad 1 = .ok (.ifCond .lt 14, 3) := by decide +kernel
theorem dJ1_canEncode_9a6ad_4 : decode cJ1_canEncode_9a6ad 4 = .ok (.iload_n 0, 1) := by decide +kernel
theorem dJ1_canEncode_9a6ad_5 : decode cJ1_canEncode_9a6ad 5 = .ok (.sipush 255, 3) := by decide +kernel
theorem dJ1_canEncode_9a6ad_8 : decode cJ1_canEncode_9a6ad 8 = .ok (.if_icmp .gt 7, 3) := by decide +kernel
theorem dJ1_canEncode_9a6ad_11 : decode cJ1_canEncode_9a6ad 11 = .ok (.iconst 1, 1) := by decide +kernel
theorem dJ1_canEncode_9a6ad_12 : decode cJ1_canEncode_9a6ad 12 = .ok (.goto 4, 3) := by decide +kernel
theorem dJ1_canEncode_9a6ad_15 : decode cJ1_canEncode_9a6ad 15 = .ok (.iconst 0, 1) := by decide +kernel
theorem dJ1_canEncode_9a6ad_16 : decode cJ1_canEncode_9a6ad 16 = .ok (.ireturn, 1) := by decide +kernel
theorem dJ1_indexOf_4cfef_0 : decode cJ1_indexOf_4cfef 0 = .ok (.iload_n 1, 1) := by decide +kernel
theorem dJ1_indexOf_4cfef_1 : decode cJ1_indexOf_4cfef 1 = .ok (.invokestatic 88, 3) := by decide +kernel
theorem dJ1_indexOf_4cfef_4 : decode cJ1_indexOf_4cfef 4 = .ok (.ifCond .ne 5, 3) := by decide +kernel
theorem dJ1_indexOf_4cfef_7 : decode cJ1_indexOf_4cfef 7 = .ok (.iconst (-1), 1) := by decide +kernel
theorem dJ1_indexOf_4cfef_8 : decode cJ1_indexOf_4cfef 8 = .ok (.ireturn, 1) := by decide +kernel
theorem dJ1_indexOf_4cfef_9 : decode cJ1_indexOf_4cfef 9 = .ok (.iload_n 2, 1) := by decide +kernel
theorem dJ1_indexOf_4cfef_10 : decode cJ1_indexOf_4cfef 10 = .ok (.iconst 0, 1) := by decide +kernel
theorem dJ1_indexOf_4cfef_11 : decode cJ1_indexOf_4cfef 11 = .ok (.invokestatic 92, 3) := by decide +kernel
theorem dJ1_indexOf_4cfef_14 : decode cJ1_indexOf_4cfef 14 = .ok (.istore_n 2, 1) := by decide +kernel
theorem dJ1_indexOf_4cfef_15 : decode cJ1_indexOf_4cfef 15 = .ok (.iload_n 3, 1) := by decide +kernel
theorem dJ1_indexOf_4cfef_16 : decode cJ1_indexOf_4cfef 16 = .ok (.aload_n 0, 1) := by decide +kernel
theorem dJ1_indexOf_4cfef_17 : decode cJ1_indexOf_4cfef 17 = .ok (.arraylength, 1) := by decide +kernel
theorem dJ1_indexOf_4cfef_18 : decode cJ1_indexOf_4cfef 18 = .ok (.invokestatic 38, 3) := by decide +kernel
theorem dJ1_indexOf_4cfef_21 : decode cJ1_indexOf_4cfef 21 = .ok (.istore_n 3, 1) := by decide +kernel
theorem dJ1_indexOf_4cfef_22 : decode cJ1_indexOf_4cfef 22 = .ok (.iload_n 2, 1) := by decide +kernel
theorem dJ1_indexOf_4cfef_23 : decode cJ1_indexOf_4cfef 23 = .ok (.iload_n 3, 1) := by decide +kernel
theorem dJ1_indexOf_4cfef_24 : decode cJ1_indexOf_4cfef 24 = .ok (.if_icmp .lt 5, 3) := by decide +kernel
theorem dJ1_indexOf_4cfef_27 : decode cJ1_indexOf_4cfef 27 = .ok (.iconst (-1), 1) := by decide +kernel
theorem dJ1_indexOf_4cfef_28 : decode cJ1_indexOf_4cfef 28 = .ok (.ireturn, 1) := by decide +kernel
theorem dJ1_indexOf_4cfef_29 : decode cJ1_indexOf_4cfef 29 = .ok (.aload_n 0, 1) := by decide +kernel
theorem dJ1_indexOf_4cfef_30 : decode cJ1_indexOf_4cfef 30 = .ok (.iload_n 1, 1) := by decide +kernel
theorem dJ1_indexOf_4cfef_31 : decode cJ1_indexOf_4cfef 31 = .ok (.iload_n 2, 1) := by decide +kernel
theorem dJ1_indexOf_4cfef_32 : decode cJ1_indexOf_4cfef 32 = .ok (.iload_n 3, 1) := by decide +kernel
theorem dJ1_indexOf_4cfef_33 : decode cJ1_indexOf_4cfef 33 = .ok (.invokestatic 95, 3) := by decide +kernel
theorem dJ1_indexOf_4cfef_36 : decode cJ1_indexOf_4cfef 36 = .ok (.ireturn, 1) := by decide +kernel
theorem dJ1_indexOfChar_4cfef_0 : decode cJ1_indexOfChar_4cfef 0 = .ok (.iload_n 1, 1) := by decide +kernel
theorem dJ1_indexOfChar_4cfef_1 : decode cJ1_indexOfChar_4cfef 1 = .ok (.i2b, 1) := by decide +kernel
theorem dJ1_indexOfChar_4cfef_2 : decode cJ1_indexOfChar_4cfef 2 = .ok (.istore 4, 2) := by decide +kernel
theorem dJ1_indexOfChar_4cfef_4 : decode cJ1_indexOfChar_4cfef 4 = .ok (.iload_n 2, 1) := by decide +kernel
theorem dJ1_indexOfChar_4cfef_5 : decode cJ1_indexOfChar_4cfef 5 = .ok (.istore 5, 2) := by decide +kernel
theorem dJ1_indexOfChar_4cfef_7 : decode cJ1_indexOfChar_4cfef 7 = .ok (.iload 5, 2) := by decide +kernel
theorem dJ1_indexOfChar_4cfef_9 : decode cJ1_indexOfChar_4cfef 9 = .ok (.iload_n 3, 1) := by decide +kernel
theorem dJ1_indexOfChar_4cfef_10 : decode cJ1_indexOfChar_4cfef 10 = .ok (.if_icmp .ge 21, 3) := by decide +kernel
theorem dJ1_indexOfChar_4cfef_13 : decode cJ1_indexOfChar_4cfef 13 = .ok (.aload_n 0, 1) := by decide +kernel
theorem dJ1_indexOfChar_4cfef_14 : decode cJ1_indexOfChar_4cfef 14 = .ok (.iload 5, 2) := by decide +kernel
theorem dJ1_indexOfChar_4cfef_16 : decode cJ1_indexOfChar_4cfef 16 = .ok (.baload, 1) := by decide +kernel
theorem dJ1_indexOfChar_4cfef_17 : decode cJ1_indexOfChar_4cfef 17 = .ok (.iload 4, 2) := by decide +kernel
theorem dJ1_indexOfChar_4cfef_19 : decode cJ1_indexOfChar_4cfef 19 = .ok (.if_icmp .ne 6, 3) := by decide +kernel
theorem dJ1_indexOfChar_4cfef_22 : decode cJ1_indexOfChar_4cfef 22 = .ok (.iload 5, 2) := by decide +kernel
theorem dJ1_indexOfChar_4cfef_24 : decode cJ1_indexOfChar_4cfef 24 = .ok (.ireturn, 1) := by decide +kernel
theorem dJ1_indexOfChar_4cfef_25 : decode cJ1_indexOfChar_4cfef 25 = .ok (.iinc 5 1, 3) := by decide +kernel
theorem dJ1_indexOfChar_4cfef_28 : decode cJ1_indexOfChar_4cfef 28 = .ok (.goto (-21), 3) := by decide +kernel
theorem dJ1_indexOfChar_4cfef_31 : decode cJ1_indexOfChar_4cfef 31 = .ok (.iconst (-1), 1) := by decide +kernel
theorem dJ1_indexOfChar_4cfef_32 : decode cJ1_indexOfChar_4cfef 32 = .ok (.ireturn, 1) := by decide +kernel
theorem dJ2_getChar_3b067_0 : decode cJ2_getChar_3b067 0 = .ok (.getstatic 44, 3) := by decide +kernel
theorem dJ2_getChar_3b067_3 : decode cJ2_getChar_3b067 3 = .ok (.ifCond .ne 25, 3) := by decide +kernel
theorem dJ2_getChar_3b067_6 : decode cJ2_getChar_3b067 6 = .ok (.iload_n 1, 1) := by decide +kernel
theorem dJ2_getChar_3b067_7 : decode cJ2_getChar_3b067 7 = .ok (.ifCond .lt 11, 3) := by decide +kernel
theorem dJ2_getChar_3b067_10 : decode cJ2_getChar_3b067 10 = .ok (.iload_n 1, 1) := by decide +kernel
theorem dJ2_getChar_3b067_11 : decode cJ2_getChar_3b067 11 = .ok (.aload_n 0, 1) := by decide +kernel
theorem dJ2_getChar_3b067_12 : decode cJ2_getChar_3b067 12 = .ok (.invokestatic 48, 3) := by decide +kernel
theorem dJ2_getChar_3b067_15 : decode cJ2_getChar_3b067 15 = .ok (.if_icmp .lt 13, 3) := by decide +kernel
theorem dJ2_getChar_3b067_18 : decode cJ2_getChar_3b067 18 = .ok (.new 52, 3) := by decide +kernel
theorem dJ2_getChar_3b067_21 : decode cJ2_getChar_3b067 21 = .ok (.dup, 1) := by decide +kernel
theorem dJ2_getChar_3b067_22 : decode cJ2_getChar_3b067 22 = .ok (.ldc 54, 2) := by decide +kernel
theorem dJ2_getChar_3b067_24 : decode cJ2_getChar_3b067 24 = .ok (.invokespecial 56, 3) := by decide +kernel
theorem dJ2_getChar_3b067_27 : decode cJ2_getChar_3b067 27 = .ok (.athrow, 1) := by decide +kernel
theorem dJ2_getChar_3b067_28 : decode cJ2_getChar_3b067 28 = .ok (.iload_n 1, 1) := by decide +kernel
theorem dJ2_getChar_3b067_29 : decode cJ2_getChar_3b067 29 = .ok (.iconst 1, 1) := by decide +kernel
theorem dJ2_getChar_3b067_30 : decode cJ2_getChar_3b067 30 = .ok (.ishl, 1) := by decide +kernel
theorem dJ2_getChar_3b067_31 : decode cJ2_getChar_3b067 31 = .ok (.istore_n 1, 1) := by decide +kernel
theorem dJ2_getChar_3b067_32 : decode cJ2_getChar_3b067 32 = .ok (.aload_n 0, 1) := by decide +kernel
theorem dJ2_getChar_3b067_33 : decode cJ2_getChar_3b067 33 = .ok (.iload_n 1, 1) := by decide +kernel
theorem dJ2_getChar_3b067_34 : decode cJ2_getChar_3b067 34 = .ok (.iinc 1 1, 3) := by decide +kernel
theorem dJ2_getChar_3b067_37 : decode cJ2_getChar_3b067 37 = .ok (.baload, 1) := by decide +kernel
theorem dJ2_getChar_3b067_38 : decode cJ2_getChar_3b067 38 = .ok (.sipush 255, 3) := by decide +kernel
theorem dJ2_getChar_3b067_41 : decode cJ2_getChar_3b067 41 = .ok (.iand, 1) := by decide +kernel
theorem dJ2_getChar_3b067_42 : decode cJ2_getChar_3b067 42 = .ok (.getstatic 59, 3) := by decide +kernel
theorem dJ2_getChar_3b067_45 : decode cJ2_getChar_3b067 45 = .ok (.ishl, 1) := by decide +kernel
theorem dJ2_getChar_3b067_46 : decode cJ2_getChar_3b067 46 = .ok (.aload_n 0, 1) := by decide +kernel
theorem dJ2_getChar_3b067_47 : decode cJ2_getChar_3b067 47 = .ok (.iload_n 1, 1) := by decide +kernel
theorem dJ2_getChar_3b067_48 : decode cJ2_getChar_3b067 48 = .ok (.baload, 1) := by decide +kernel
theorem dJ2_getChar_3b067_49 : decode cJ2_getChar_3b067 49 = .ok (.sipush 255, 3) := by decide +kernel
theorem dJ2_getChar_3b067_52 : decode cJ2_getChar_3b067 52 = .ok (.iand, 1) := by decide +kernel
theorem dJ2_getChar_3b067_53 : decode cJ2_getChar_3b067 53 = .ok (.getstatic 63, 3) := by decide +kernel
theorem dJ2_getChar_3b067_56 : decode cJ2_getChar_3b067 56 = .ok (.ishl, 1) := by decide +kernel
theorem dJ2_getChar_3b067_57 : decode cJ2_getChar_3b067 57 = .ok (.ior, 1) := by decide +kernel
theorem dJ2_getChar_3b067_58 : decode cJ2_getChar_3b067 58 = .ok (.i2c, 1) := by decide +kernel
theorem dJ2_getChar_3b067_59 : decode cJ2_getChar_3b067 59 = .ok (.ireturn, 1) := by decide +kernel
theorem dJ2_length_9d52b_0 : decode cJ2_length_9d52b 0 = .ok (.aload_n 0, 1) := by decide +kernel
theorem dJ2_length_9d52b_1 : decode cJ2_length_9d52b 1 = .ok (.arraylength, 1) := by decide +kernel
theorem dJ2_length_9d52b_2 : decode cJ2_length_9d52b 2 = .ok (.iconst 1, 1) := by decide +kernel
theorem dJ2_length_9d52b_3 : decode cJ2_length_9d52b 3 = .ok (.ishr, 1) := by decide +kernel
theorem dJ2_length_9d52b_4 : decode cJ2_length_9d52b 4 = .ok (.ireturn, 1) := by decide +kernel
theorem dJ2_indexOf_4cfef_0 : decode cJ2_indexOf_4cfef 0 = .ok (.iload_n 2, 1) := by decide +kernel
theorem dJ2_indexOf_4cfef_1 : decode cJ2_indexOf_4cfef 1 = .ok (.iconst 0, 1) := by decide +kernel
theorem dJ2_indexOf_4cfef_2 : decode cJ2_indexOf_4cfef 2 = .ok (.invokestatic 224, 3) := by decide +kernel
theorem dJ2_indexOf_4cfef_5 : decode cJ2_indexOf_4cfef 5 = .ok (.istore_n 2, 1) := by decide +kernel
theorem dJ2_indexOf_4cfef_6 : decode cJ2_indexOf_4cfef 6 = .ok (.iload_n 3, 1) := by decide +kernel
theorem dJ2_indexOf_4cfef_7 : decode cJ2_indexOf_4cfef 7 = .ok (.aload_n 0, 1) := by decide +kernel
theorem dJ2_indexOf_4cfef_8 : decode cJ2_indexOf_4cfef 8 = .ok (.arraylength, 1) := by decide +kernel
theorem dJ2_indexOf_4cfef_9 : decode cJ2_indexOf_4cfef 9 = .ok (.iconst 1, 1) := by decide +kernel
theorem dJ2_indexOf_4cfef_10 : decode cJ2_indexOf_4cfef 10 = .ok (.ishr, 1) := by decide +kernel
theorem dJ2_indexOf_4cfef_11 : decode cJ2_indexOf_4cfef 11 = .ok (.invokestatic 183, 3) := by decide +kernel
theorem dJ2_indexOf_4cfef_14 : decode cJ2_indexOf_4cfef 14 = .ok (.istore_n 3, 1) := by decide +kernel
theorem dJ2_indexOf_4cfef_15 : decode cJ2_indexOf_4cfef 15 = .ok (.iload_n 2, 1) := by decide +kernel
theorem dJ2_indexOf_4cfef_16 : decode cJ2_indexOf_4cfef 16 = .ok (.iload_n 3, 1) := by decide +kernel
theorem dJ2_indexOf_4cfef_17 : decode cJ2_indexOf_4cfef 17 = .ok (.if_icmp .lt 5, 3) := by decide +kernel
theorem dJ2_indexOf_4cfef_20 : decode cJ2_indexOf_4cfef 20 = .ok (.iconst (-1), 1) := by decide +kernel
theorem dJ2_indexOf_4cfef_21 : decode cJ2_indexOf_4cfef 21 = .ok (.ireturn, 1) := by decide +kernel
theorem dJ2_indexOf_4cfef_22 : decode cJ2_indexOf_4cfef 22 = .ok (.iload_n 1, 1) := by decide +kernel
theorem dJ2_indexOf_4cfef_23 : decode cJ2_indexOf_4cfef 23 = .ok (.ldc 227, 2) := by decide +kernel
theorem dJ2_indexOf_4cfef_25 : decode cJ2_indexOf_4cfef 25 = .ok (.if_icmp .ge 11, 3) := by decide +kernel
theorem dJ2_indexOf_4cfef_28 : decode cJ2_indexOf_4cfef 28 = .ok (.aload_n 0, 1) := by decide +kernel
theorem dJ2_indexOf_4cfef_29 : decode cJ2_indexOf_4cfef 29 = .ok (.iload_n 1, 1) := by decide +kernel
theorem dJ2_indexOf_4cfef_30 : decode cJ2_indexOf_4cfef 30 = .ok (.iload_n 2, 1) := by decide +kernel
theorem dJ2_indexOf_4cfef_31 : decode cJ2_indexOf_4cfef 31 = .ok (.iload_n 3, 1) := by decide +kernel
theorem dJ2_indexOf_4cfef_32 : decode cJ2_indexOf_4cfef 32 = .ok (.invokestatic 228, 3) := by decide +kernel
theorem dJ2_indexOf_4cfef_35 : decode cJ2_indexOf_4cfef 35 = .ok (.ireturn, 1) := by decide +kernel
theorem dJ2_indexOf_4cfef_36 : decode cJ2_indexOf_4cfef 36 = .ok (.aload_n 0, 1) := by decide +kernel
theorem dJ2_indexOf_4cfef_37 : decode cJ2_indexOf_4cfef 37 = .ok (.iload_n 1, 1) := by decide +kernel
theorem dJ2_indexOf_4cfef_38 : decode cJ2_indexOf_4cfef 38 = .ok (.iload_n 2, 1) := by decide +kernel
theorem dJ2_indexOf_4cfef_39 : decode cJ2_indexOf_4cfef 39 = .ok (.iload_n 3, 1) := by decide +kernel
theorem dJ2_indexOf_4cfef_40 : decode cJ2_indexOf_4cfef 40 = .ok (.invokestatic 232, 3) := by decide +kernel
theorem dJ2_indexOf_4cfef_43 : decode cJ2_indexOf_4cfef 43 = .ok (.ireturn, 1) := by decide +kernel
theorem dJ2_indexOfChar_4cfef_0 : decode cJ2_indexOfChar_4cfef 0 = .ok (.iload_n 2, 1) := by decide +kernel
theorem dJ2_indexOfChar_4cfef_1 : decode cJ2_indexOfChar_4cfef 1 = .ok (.iload_n 3, 1) := by decide +kernel
theorem dJ2_indexOfChar_4cfef_2 : decode cJ2_indexOfChar_4cfef 2 = .ok (.aload_n 0, 1) := by decide +kernel
theorem dJ2_indexOfChar_4cfef_3 : decode cJ2_indexOfChar_4cfef 3 = .ok (.invokestatic 96, 3) := by decide +kernel
theorem dJ2_indexOfChar_4cfef_6 : decode cJ2_indexOfChar_4cfef 6 = .ok (.aload_n 0, 1) := by decide +kernel
theorem dJ2_indexOfChar_4cfef_7 : decode cJ2_indexOfChar_4cfef 7 = .ok (.iload_n 1, 1) := by decide +kernel
theorem dJ2_indexOfChar_4cfef_8 : decode cJ2_indexOfChar_4cfef 8 = .ok (.iload_n 2, 1) := by decide +kernel
theorem dJ2_indexOfChar_4cfef_9 : decode cJ2_indexOfChar_4cfef 9 = .ok (.iload_n 3, 1) := by decide +kernel
theorem dJ2_indexOfChar_4cfef_10 : decode cJ2_indexOfChar_4cfef 10 = .ok (.invokestatic 244, 3) := by decide +kernel
theorem dJ2_indexOfChar_4cfef_13 : decode cJ2_indexOfChar_4cfef 13 = .ok (.ireturn, 1) := by decide +kernel
theorem dJ2_indexOfCharUnsafe_4cfef_0 : decode cJ2_indexOfCharUnsafe_4cfef 0 = .ok (.iload_n 2, 1) := by decide +kernel
theorem dJ2_indexOfCharUnsafe_4cfef_1 : decode cJ2_indexOfCharUnsafe_4cfef 1 = .ok (.istore 4, 2) := by decide +kernel
theorem dJ2_indexOfCharUnsafe_4cfef_3 : decode cJ2_indexOfCharUnsafe_4cfef 3 = .ok (.iload 4, 2) := by decide +kernel
theorem dJ2_indexOfCharUnsafe_4cfef_5 : decode cJ2_indexOfCharUnsafe_4cfef 5 = .ok (.iload_n 3, 1) := by decide +kernel
theorem dJ2_indexOfCharUnsafe_4cfef_6 : decode cJ2_indexOfCharUnsafe_4cfef 6 = .ok (.if_icmp .ge 22, 3) := by decide +kernel
theorem dJ2_indexOfCharUnsafe_4cfef_9 : decode cJ2_indexOfCharUnsafe_4cfef 9 = .ok (.aload_n 0, 1) := by decide +kernel
theorem dJ2_indexOfCharUnsafe_4cfef_10 : decode cJ2_indexOfCharUnsafe_4cfef 10 = .ok (.iload 4, 2) := by decide +kernel
theorem dJ2_indexOfCharUnsafe_4cfef_12 : decode cJ2_indexOfCharUnsafe_4cfef 12 = .ok (.invokestatic 71, 3) := by decide +kernel
theorem dJ2_indexOfCharUnsafe_4cfef_15 : decode cJ2_indexOfCharUnsafe_4cfef 15 = .ok (.iload_n 1, 1) := by decide +kernel
theorem dJ2_indexOfCharUnsafe_4cfef_16 : decode cJ2_indexOfCharUnsafe_4cfef 16 = .ok (.if_icmp .ne 6, 3) := by decide +kernel
theorem dJ2_indexOfCharUnsafe_4cfef_19 : decode cJ2_indexOfCharUnsafe_4cfef 19 = .ok (.iload 4, 2) := by decide +kernel
theorem dJ2_indexOfCharUnsafe_4cfef_21 : decode cJ2_indexOfCharUnsafe_4cfef 21 = .ok (.ireturn, 1) := by decide +kernel
theorem dJ2_indexOfCharUnsafe_4cfef_22 : decode cJ2_indexOfCharUnsafe_4cfef 22 = .ok (.iinc 4 1, 3) := by decide +kernel
theorem dJ2_indexOfCharUnsafe_4cfef_25 : decode cJ2_indexOfCharUnsafe_4cfef 25 = .ok (.goto (-22), 3) := by decide +kernel
theorem dJ2_indexOfCharUnsafe_4cfef_28 : decode cJ2_indexOfCharUnsafe_4cfef 28 = .ok (.iconst (-1), 1) := by decide +kernel
theorem dJ2_indexOfCharUnsafe_4cfef_29 : decode cJ2_indexOfCharUnsafe_4cfef 29 = .ok (.ireturn, 1) := by decide +kernel
theorem dJ2_indexOfSupplementary_4cfef_0 : decode cJ2_indexOfSupplementary_4cfef 0 = .ok (.iload_n 1, 1) := by decide +kernel
theorem dJ2_indexOfSupplementary_4cfef_1 : decode cJ2_indexOfSupplementary_4cfef 1 = .ok (.invokestatic 164, 3) := by decide +kernel
theorem dJ2_indexOfSupplementary_4cfef_4 : decode cJ2_indexOfSupplementary_4cfef 4 = .ok (.ifCond .eq 65, 3) := by decide +kernel
theorem dJ2_indexOfSupplementary_4cfef_7 : decode cJ2_indexOfSupplementary_4cfef 7 = .ok (.iload_n 1, 1) := by decide +kernel
theorem dJ2_indexOfSupplementary_4cfef_8 : decode cJ2_indexOfSupplementary_4cfef 8 = .ok (.invokestatic 157, 3) := by decide +kernel
theorem dJ2_indexOfSupplementary_4cfef_11 : decode cJ2_indexOfSupplementary_4cfef 11 = .ok (.istore 4, 2) := by decide +kernel
theorem dJ2_indexOfSupplementary_4cfef_13 : decode cJ2_indexOfSupplementary_4cfef 13 = .ok (.iload_n 1, 1) := by decide +kernel
theorem dJ2_indexOfSupplementary_4cfef_14 : decode cJ2_indexOfSupplementary_4cfef 14 = .ok (.invokestatic 161, 3) := by decide +kernel
theorem dJ2_indexOfSupplementary_4cfef_17 : decode cJ2_indexOfSupplementary_4cfef 17 = .ok (.istore 5, 2) := by decide +kernel
theorem dJ2_indexOfSupplementary_4cfef_19 : decode cJ2_indexOfSupplementary_4cfef 19 = .ok (.iload_n 2, 1) := by decide +kernel
theorem dJ2_indexOfSupplementary_4cfef_20 : decode cJ2_indexOfSupplementary_4cfef 20 = .ok (.iload_n 3, 1) := by decide +kernel
theorem dJ2_indexOfSupplementary_4cfef_21 : decode cJ2_indexOfSupplementary_4cfef 21 = .ok (.aload_n 0, 1) := by decide +kernel
theorem dJ2_indexOfSupplementary_4cfef_22 : decode cJ2_indexOfSupplementary_4cfef 22 = .ok (.invokestatic 96, 3) := by decide +kernel
theorem dJ2_indexOfSupplementary_4cfef_25 : decode cJ2_indexOfSupplementary_4cfef 25 = .ok (.iload_n 2, 1) := by decide +kernel
theorem dJ2_indexOfSupplementary_4cfef_26 : decode cJ2_indexOfSupplementary_4cfef 26 = .ok (.istore 6, 2) := by decide +kernel
theorem dJ2_indexOfSupplementary_4cfef_28 : decode cJ2_indexOfSupplementary_4cfef 28 = .ok (.iload 6, 2) := by decide +kernel
theorem dJ2_indexOfSupplementary_4cfef_30 : decode cJ2_indexOfSupplementary_4cfef 30 = .ok (.iload_n 3, 1) := by decide +kernel
theorem dJ2_indexOfSupplementary_4cfef_31 : decode cJ2_indexOfSupplementary_4cfef 31 = .ok (.iconst 1, 1) := by decide +kernel
theorem dJ2_indexOfSupplementary_4cfef_32 : decode cJ2_indexOfSupplementary_4cfef 32 = .ok (.isub, 1) := by decide +kernel
theorem dJ2_indexOfSupplementary_4cfef_33 : decode cJ2_indexOfSupplementary_4cfef 33 = .ok (.if_icmp .ge 36, 3) := by decide +kernel
theorem dJ2_indexOfSupplementary_4cfef_36 : decode cJ2_indexOfSupplementary_4cfef 36 = .ok (.aload_n 0, 1) := by decide +kernel
theorem dJ2_indexOfSupplementary_4cfef_37 : decode cJ2_indexOfSupplementary_4cfef 37 = .ok (.iload 6, 2) := by decide +kernel
theorem dJ2_indexOfSupplementary_4cfef_39 : decode cJ2_indexOfSupplementary_4cfef 39 = .ok (.invokestatic 71, 3) := by decide +kernel
theorem dJ2_indexOfSupplementary_4cfef_42 : decode cJ2_indexOfSupplementary_4cfef 42 = .ok (.iload 4, 2) := by decide +kernel
theorem dJ2_indexOfSupplementary_4cfef_44 : decode cJ2_indexOfSupplementary_4cfef 44 = .ok (.if_icmp .ne 19, 3) := by decide +kernel
theorem dJ2_indexOfSupplementary_4cfef_47 : decode cJ2_indexOfSupplementary_4cfef 47 = .ok (.aload_n 0, 1) := by decide +kernel
theorem dJ2_indexOfSupplementary_4cfef_48 : decode cJ2_indexOfSupplementary_4cfef 48 = .ok (.iload 6, 2) := by decide +kernel
theorem dJ2_indexOfSupplementary_4cfef_50 : decode cJ2_indexOfSupplementary_4cfef 50 = .ok (.iconst 1, 1) := by decide +kernel
theorem dJ2_indexOfSupplementary_4cfef_51 : decode cJ2_indexOfSupplementary_4cfef 51 = .ok (.iadd, 1) := by decide +kernel
theorem dJ2_indexOfSupplementary_4cfef_52 : decode cJ2_indexOfSupplementary_4cfef 52 = .ok (.invokestatic 71, 3) := by decide +kernel
theorem dJ2_indexOfSupplementary_4cfef_55 : decode cJ2_indexOfSupplementary_4cfef 55 = .ok (.iload 5, 2) := by decide +kernel
theorem dJ2_indexOfSupplementary_4cfef_57 : decode cJ2_indexOfSupplementary_4cfef 57 = .ok (.if_icmp .ne 6, 3) := by decide +kernel
theorem dJ2_indexOfSupplementary_4cfef_60 : decode cJ2_indexOfSupplementary_4cfef 60 = .ok (.iload 6, 2) := by decide +kernel
theorem dJ2_indexOfSupplementary_4cfef_62 : decode cJ2_indexOfSupplementary_4cfef 62 = .ok (.ireturn, 1) := by decide +kernel
theorem dJ2_indexOfSupplementary_4cfef_63 : decode cJ2_indexOfSupplementary_4cfef 63 = .ok (.iinc 6 1, 3) := by decide +kernel
theorem dJ2_indexOfSupplementary_4cfef_66 : decode cJ2_indexOfSupplementary_4cfef 66 = .ok (.goto (-38), 3) := by decide +kernel
theorem dJ2_indexOfSupplementary_4cfef_69 : decode cJ2_indexOfSupplementary_4cfef 69 = .ok (.iconst (-1), 1) := by decide +kernel
theorem dJ2_indexOfSupplementary_4cfef_70 : decode cJ2_indexOfSupplementary_4cfef 70 = .ok (.ireturn, 1) := by decide +kernel
theorem dJ2_charAt_3b067_0 : decode cJ2_charAt_3b067 0 = .ok (.iload_n 1, 1) := by decide +kernel
theorem dJ2_charAt_3b067_1 : decode cJ2_charAt_3b067 1 = .ok (.aload_n 0, 1) := by decide +kernel
theorem dJ2_charAt_3b067_2 : decode cJ2_charAt_3b067 2 = .ok (.invokestatic 67, 3) := by decide +kernel
theorem dJ2_charAt_3b067_5 : decode cJ2_charAt_3b067 5 = .ok (.aload_n 0, 1) := by decide +kernel
theorem dJ2_charAt_3b067_6 : decode cJ2_charAt_3b067 6 = .ok (.iload_n 1, 1) := by decide +kernel
theorem dJ2_charAt_3b067_7 : decode cJ2_charAt_3b067 7 = .ok (.invokestatic 71, 3) := by decide +kernel
theorem dJ2_charAt_3b067_10 : decode cJ2_charAt_3b067 10 = .ok (.ireturn, 1) := by decide +kernel
theorem dJ2_checkIndex_2214a_0 : decode cJ2_checkIndex_2214a 0 = .ok (.iload_n 0, 1) := by decide +kernel
theorem dJ2_checkIndex_2214a_1 : decode cJ2_checkIndex_2214a 1 = .ok (.aload_n 1, 1) := by decide +kernel
theorem dJ2_checkIndex_2214a_2 : decode cJ2_checkIndex_2214a 2 = .ok (.invokestatic 48, 3) := by decide +kernel
theorem dJ2_checkIndex_2214a_5 : decode cJ2_checkIndex_2214a 5 = .ok (.invokestatic 414, 3) := by decide +kernel
theorem dJ2_checkIndex_2214a_8 : decode cJ2_checkIndex_2214a 8 = .ok (.return_, 1) := by decide +kernel
theorem dJ2_checkBoundsBeginEnd_d044e_0 : decode cJ2_checkBoundsBeginEnd_d044e 0 = .ok (.iload_n 0, 1) := by decide +kernel
theorem dJ2_checkBoundsBeginEnd_d044e_1 : decode cJ2_checkBoundsBeginEnd_d044e 1 = .ok (.iload_n 1, 1) := by decide +kernel
theorem dJ2_checkBoundsBeginEnd_d044e_2 : decode cJ2_checkBoundsBeginEnd_d044e 2 = .ok (.aload_n 2, 1) := by decide +kernel
theorem dJ2_checkBoundsBeginEnd_d044e_3 : decode cJ2_checkBoundsBeginEnd_d044e 3 = .ok (.invokestatic 48, 3) := by decide +kernel
theorem dJ2_checkBoundsBeginEnd_d044e_6 : decode cJ2_checkBoundsBeginEnd_d044e 6 = .ok (.invokestatic 241, 3) := by decide +kernel
theorem dJ2_checkBoundsBeginEnd_d044e_9 : decode cJ2_checkBoundsBeginEnd_d044e 9 = .ok (.return_, 1) := by decide +kernel
theorem dJ3_checkIndex_8e157_0 : decode cJ3_checkIndex_8e157 0 = .ok (.iload_n 0, 1) := by decide +kernel
theorem dJ3_checkIndex_8e157_1 : decode cJ3_checkIndex_8e157 1 = .ok (.ifCond .lt 8, 3) := by decide +kernel
theorem dJ3_checkIndex_8e157_4 : decode cJ3_checkIndex_8e157 4 = .ok (.iload_n 0, 1) := by decide +kernel
theorem dJ3_checkIndex_8e157_5 : decode cJ3_checkIndex_8e157 5 = .ok (.iload_n 1, 1) := by decide +kernel
theorem dJ3_checkIndex_8e157_6 : decode cJ3_checkIndex_8e157 6 = .ok (.if_icmp .lt 10, 3) := by decide +kernel
theorem dJ3_checkIndex_8e157_9 : decode cJ3_checkIndex_8e157 9 = .ok (.aload_n 2, 1) := by decide +kernel
theorem dJ3_checkIndex_8e157_10 : decode cJ3_checkIndex_8e157 10 = .ok (.iload_n 0, 1) := by decide +kernel
theorem dJ3_checkIndex_8e157_11 : decode cJ3_checkIndex_8e157 11 = .ok (.iload_n 1, 1) := by decide +kernel
theorem dJ3_checkIndex_8e157_12 : decode cJ3_checkIndex_8e157 12 = .ok (.invokestatic 95, 3) := by decide +kernel
theorem dJ3_checkIndex_8e157_15 : decode cJ3_checkIndex_8e157 15 = .ok (.athrow, 1) := by decide +kernel
theorem dJ3_checkIndex_8e157_16 : decode cJ3_checkIndex_8e157 16 = .ok (.iload_n 0, 1) := by decide +kernel
theorem dJ3_checkIndex_8e157_17 : decode cJ3_checkIndex_8e157 17 = .ok (.ireturn, 1) := by decide +kernel
theorem dJ3_checkFromToIndex_8c36e_0 : decode cJ3_checkFromToIndex_8c36e 0 = .ok (.iload_n 0, 1) := by decide +kernel
theorem dJ3_checkFromToIndex_8c36e_1 : decode cJ3_checkFromToIndex_8c36e 1 = .ok (.ifCond .lt 13, 3) := by decide +kernel
theorem dJ3_checkFromToIndex_8c36e_4 : decode cJ3_checkFromToIndex_8c36e 4 = .ok (.iload_n 0, 1) := by decide +kernel
theorem dJ3_checkFromToIndex_8c36e_5 : decode cJ3_checkFromToIndex_8c36e 5 = .ok (.iload_n 1, 1) := by decide +kernel
theorem dJ3_checkFromToIndex_8c36e_6 : decode cJ3_checkFromToIndex_8c36e 6 = .ok (.if_icmp .gt 8, 3) := by decide +kernel
theorem dJ3_checkFromToIndex_8c36e_9 : decode cJ3_checkFromToIndex_8c36e 9 = .ok (.iload_n 1, 1) := by decide +kernel
theorem dJ3_checkFromToIndex_8c36e_10 : decode cJ3_checkFromToIndex_8c36e 10 = .ok (.iload_n 2, 1) := by decide +kernel
theorem dJ3_checkFromToIndex_8c36e_11 : decode cJ3_checkFromToIndex_8c36e 11 = .ok (.if_icmp .le 11, 3) := by decide +kernel
theorem dJ3_checkFromToIndex_8c36e_14 : decode cJ3_checkFromToIndex_8c36e 14 = .ok (.aload_n 3, 1) := by decide +kernel
theorem dJ3_checkFromToIndex_8c36e_15 : decode cJ3_checkFromToIndex_8c36e 15 = .ok (.iload_n 0, 1) := by decide +kernel
theorem dJ3_checkFromToIndex_8c36e_16 : decode cJ3_checkFromToIndex_8c36e 16 = .ok (.iload_n 1, 1) := by decide +kernel
theorem dJ3_checkFromToIndex_8c36e_17 : decode cJ3_checkFromToIndex_8c36e 17 = .ok (.iload_n 2, 1) := by decide +kernel
theorem dJ3_checkFromToIndex_8c36e_18 : decode cJ3_checkFromToIndex_8c36e 18 = .ok (.invokestatic 99, 3) := by decide +kernel
theorem dJ3_checkFromToIndex_8c36e_21 : decode cJ3_checkFromToIndex_8c36e 21 = .ok (.athrow, 1) := by decide +kernel
theorem dJ3_checkFromToIndex_8c36e_22 : decode cJ3_checkFromToIndex_8c36e 22 = .ok (.iload_n 0, 1) := by decide +kernel
theorem dJ3_checkFromToIndex_8c36e_23 : decode cJ3_checkFromToIndex_8c36e 23 = .ok (.ireturn, 1) := by decide +kernel
theorem dL_law_0 : decode cL_law 0 = .ok (.new 7, 3) := by decide +kernel
theorem dL_law_3 : decode cL_law 3 = .ok (.dup, 1) := by decide +kernel
theorem dL_law_4 : decode cL_law 4 = .ok (.invokespecial 9, 3) := by decide +kernel
theorem dL_law_7 : decode cL_law 7 = .ok (.astore_n 1, 1) := by decide +kernel
theorem dL_law_8 : decode cL_law 8 = .ok (.new 10, 3) := by decide +kernel
theorem dL_law_11 : decode cL_law 11 = .ok (.dup, 1) := by decide +kernel
theorem dL_law_12 : decode cL_law 12 = .ok (.invokespecial 12, 3) := by decide +kernel
theorem dL_law_15 : decode cL_law 15 = .ok (.astore_n 2, 1) := by decide +kernel
theorem dL_law_16 : decode cL_law 16 = .ok (.iconst 0, 1) := by decide +kernel
theorem dL_law_17 : decode cL_law 17 = .ok (.istore_n 3, 1) := by decide +kernel
theorem dL_law_18 : decode cL_law 18 = .ok (.iload_n 3, 1) := by decide +kernel
theorem dL_law_19 : decode cL_law 19 = .ok (.aload_n 0, 1) := by decide +kernel
theorem dL_law_20 : decode cL_law 20 = .ok (.arraylength, 1) := by decide +kernel
theorem dL_law_21 : decode cL_law 21 = .ok (.bipush 6, 2) := by decide +kernel
theorem dL_law_23 : decode cL_law 23 = .ok (.isub, 1) := by decide +kernel
theorem dL_law_24 : decode cL_law 24 = .ok (.if_icmp .gt 1205, 3) := by decide +kernel
theorem dL_law_27 : decode cL_law 27 = .ok (.aload_n 0, 1) := by decide +kernel
theorem dL_law_28 : decode cL_law 28 = .ok (.iload_n 3, 1) := by decide +kernel
theorem dL_law_29 : decode cL_law 29 = .ok (.iaload, 1) := by decide +kernel
theorem dL_law_30 : decode cL_law 30 = .ok (.bipush 63, 2) := by decide +kernel
theorem dL_law_32 : decode cL_law 32 = .ok (.iand, 1) := by decide +kernel
theorem dL_law_33 : decode cL_law 33 = .ok (.tableswitch 1190 0 38 #[171, 194, 207, 240, 263, 296, 329, 362, 385, 408, 451, 474, 507, 540, 563, 576, 599, 632, 665, 688, 711, 734, 767, 780, 803, 826, 839, 862, 885, 928, 992, 1016, 1049, 1072, 1085, 1098, 1141, 1154, 1167], 171) := by decide +kernel
theorem dL_law_204 : decode cL_law 204 = .ok (.aload_n 1, 1) := by decide +kernel
theorem dL_law_205 : decode cL_law 205 = .ok (.aload_n 0, 1) := by decide +kernel
theorem dL_law_206 : decode cL_law 206 = .ok (.iload_n 3, 1) := by decide +kernel
theorem dL_law_207 : decode cL_law 207 = .ok (.iconst 1, 1) := by decide +kernel
theorem dL_law_208 : decode cL_law 208 = .ok (.iadd, 1) := by decide +kernel
theorem dL_law_209 : decode cL_law 209 = .ok (.iaload, 1) := by decide +kernel
theorem dL_law_210 : decode cL_law 210 = .ok (.invokevirtual 13, 3) := by decide +kernel
theorem dL_law_213 : decode cL_law 213 = .ok (.aload_n 2, 1) := by decide +kernel
theorem dL_law_214 : decode cL_law 214 = .ok (.aload_n 0, 1) := by decide +kernel
theorem dL_law_215 : decode cL_law 215 = .ok (.iload_n 3, 1) := by decide +kernel
theorem dL_law_216 : decode cL_law 216 = .ok (.iconst 1, 1) := by decide +kernel
theorem dL_law_217 : decode cL_law 217 = .ok (.iadd, 1) := by decide +kernel
theorem dL_law_218 : decode cL_law 218 = .ok (.iaload, 1) := by decide +kernel
theorem dL_law_219 : decode cL_law 219 = .ok (.invokevirtual 17, 3) := by decide +kernel
theorem dL_law_222 : decode cL_law 222 = .ok (.if_icmp .eq 1001, 3) := by decide +kernel
theorem dL_law_225 : decode cL_law 225 = .ok (.iconst 0, 1) := by decide +kernel
theorem dL_law_226 : decode cL_law 226 = .ok (.ireturn, 1) := by decide +kernel
theorem dL_law_227 : decode cL_law 227 = .ok (.aload_n 1, 1) := by decide +kernel
theorem dL_law_228 : decode cL_law 228 = .ok (.invokevirtual 18, 3) := by decide +kernel
theorem dL_law_231 : decode cL_law 231 = .ok (.aload_n 2, 1) := by decide +kernel
theorem dL_law_232 : decode cL_law 232 = .ok (.invokevirtual 22, 3) := by decide +kernel
theorem dL_law_235 : decode cL_law 235 = .ok (.if_icmp .eq 988, 3) := by decide +kernel
theorem dL_law_238 : decode cL_law 238 = .ok (.iconst 0, 1) := by decide +kernel
theorem dL_law_239 : decode cL_law 239 = .ok (.ireturn, 1) := by decide +kernel
theorem dL_law_240 : decode cL_law 240 = .ok (.aload_n 1, 1) := by decide +kernel
theorem dL_law_241 : decode cL_law 241 = .ok (.aload_n 0, 1) := by decide +kernel
theorem dL_law_242 : decode cL_law 242 = .ok (.iload_n 3, 1) := by decide +kernel
theorem dL_law_243 : decode cL_law 243 = .ok (.iconst 1, 1) := by decide +kernel
theorem dL_law_244 : decode cL_law 244 = .ok (.iadd, 1) := by decide +kernel
theorem dL_law_245 : decode cL_law 245 = .ok (.iaload, 1) := by decide +kernel
theorem dL_law_246 : decode cL_law 246 = .ok (.aload_n 0, 1) := by decide +kernel
theorem dL_law_247 : decode cL_law 247 = .ok (.iload_n 3, 1) := by decide +kernel
theorem dL_law_248 : decode cL_law 248 = .ok (.iconst 2, 1) := by decide +kernel
theorem dL_law_249 : decode cL_law 249 = .ok (.iadd, 1) := by decide +kernel
theorem dL_law_250 : decode cL_law 250 = .ok (.iaload, 1) := by decide +kernel
theorem dL_law_251 : decode cL_law 251 = .ok (.invokevirtual 23, 3) := by decide +kernel
theorem dL_law_254 : decode cL_law 254 = .ok (.aload_n 2, 1) := by decide +kernel
theorem dL_law_255 : decode cL_law 255 = .ok (.aload_n 0, 1) := by decide +kernel
theorem dL_law_256 : decode cL_law 256 = .ok (.iload_n 3, 1) := by decide +kernel
theorem dL_law_257 : decode cL_law 257 = .ok (.iconst 1, 1) := by decide +kernel
theorem dL_law_258 : decode cL_law 258 = .ok (.iadd, 1) := by decide +kernel
theorem dL_law_259 : decode cL_law 259 = .ok (.iaload, 1) := by decide +kernel
theorem dL_law_260 : decode cL_law 260 = .ok (.aload_n 0, 1) := by decide +kernel
theorem dL_law_261 : decode cL_law 261 = .ok (.iload_n 3, 1) := by decide +kernel
theorem dL_law_262 : decode cL_law 262 = .ok (.iconst 2, 1) := by decide +kernel
theorem dL_law_263 : decode cL_law 263 = .ok (.iadd, 1) := by decide +kernel
theorem dL_law_264 : decode cL_law 264 = .ok (.iaload, 1) := by decide +kernel
theorem dL_law_265 : decode cL_law 265 = .ok (.invokevirtual 27, 3) := by decide +kernel
theorem dL_law_268 : decode cL_law 268 = .ok (.if_icmp .eq 955, 3) := by decide +kernel
theorem dL_law_271 : decode cL_law 271 = .ok (.iconst 0, 1) := by decide +kernel
theorem dL_law_272 : decode cL_law 272 = .ok (.ireturn, 1) := by decide +kernel
theorem dL_law_273 : decode cL_law 273 = .ok (.aload_n 1, 1) := by decide +kernel
theorem dL_law_274 : decode cL_law 274 = .ok (.aload_n 0, 1) := by decide +kernel
theorem dL_law_275 : decode cL_law 275 = .ok (.iload_n 3, 1) := by decide +kernel
theorem dL_law_276 : decode cL_law 276 = .ok (.iconst 1, 1) := by decide +kernel
theorem dL_law_277 : decode cL_law 277 = .ok (.iadd, 1) := by decide +kernel
theorem dL_law_278 : decode cL_law 278 = .ok (.iaload, 1) := by decide +kernel
theorem dL_law_279 : decode cL_law 279 = .ok (.invokevirtual 28, 3) := by decide +kernel
theorem dL_law_282 : decode cL_law 282 = .ok (.aload_n 2, 1) := by decide +kernel
theorem dL_law_283 : decode cL_law 283 = .ok (.aload_n 0, 1) := by decide +kernel
theorem dL_law_284 : decode cL_law 284 = .ok (.iload_n 3, 1) := by decide +kernel
theorem dL_law_285 : decode cL_law 285 = .ok (.iconst 1, 1) := by decide +kernel
theorem dL_law_286 : decode cL_law 286 = .ok (.iadd, 1) := by decide +kernel
theorem dL_law_287 : decode cL_law 287 = .ok (.iaload, 1) := by decide +kernel
theorem dL_law_288 : decode cL_law 288 = .ok (.invokevirtual 31, 3) := by decide +kernel
theorem dL_law_291 : decode cL_law 291 = .ok (.if_icmp .eq 932, 3) := by decide +kernel
theorem dL_law_294 : decode cL_law 294 = .ok (.iconst 0, 1) := by decide +kernel
theorem dL_law_295 : decode cL_law 295 = .ok (.ireturn, 1) := by decide +kernel
theorem dL_law_296 : decode cL_law 296 = .ok (.aload_n 1, 1) := by decide +kernel
theorem dL_law_297 : decode cL_law 297 = .ok (.aload_n 0, 1) := by decide +kernel
theorem dL_law_298 : decode cL_law 298 = .ok (.iload_n 3, 1) := by decide +kernel
theorem dL_law_299 : decode cL_law 299 = .ok (.iconst 1, 1) := by decide +kernel
theorem dL_law_300 : decode cL_law 300 = .ok (.iadd, 1) := by decide +kernel
theorem dL_law_301 : decode cL_law 301 = .ok (.iaload, 1) := by decide +kernel
theorem dL_law_302 : decode cL_law 302 = .ok (.aload_n 0, 1) := by decide +kernel
theorem dL_law_303 : decode cL_law 303 = .ok (.iload_n 3, 1) := by decide +kernel
theorem dL_law_304 : decode cL_law 304 = .ok (.iconst 2, 1) := by decide +kernel
theorem dL_law_305 : decode cL_law 305 = .ok (.iadd, 1) := by decide +kernel
theorem dL_law_306 : decode cL_law 306 = .ok (.iaload, 1) := by decide +kernel
theorem dL_law_307 : decode cL_law 307 = .ok (.invokevirtual 32, 3) := by decide +kernel
theorem dL_law_310 : decode cL_law 310 = .ok (.aload_n 2, 1) := by decide +kernel
theorem dL_law_311 : decode cL_law 311 = .ok (.aload_n 0, 1) := by decide +kernel
theorem dL_law_312 : decode cL_law 312 = .ok (.iload_n 3, 1) := by decide +kernel
theorem dL_law_313 : decode cL_law 313 = .ok (.iconst 1, 1) := by decide +kernel
theorem dL_law_314 : decode cL_law 314 = .ok (.iadd, 1) := by decide +kernel
theorem dL_law_315 : decode cL_law 315 = .ok (.iaload, 1) := by decide +kernel
theorem dL_law_316 : decode cL_law 316 = .ok (.aload_n 0, 1) := by decide +kernel
theorem dL_law_317 : decode cL_law 317 = .ok (.iload_n 3, 1) := by decide +kernel
theorem dL_law_318 : decode cL_law 318 = .ok (.iconst 2, 1) := by decide +kernel
theorem dL_law_319 : decode cL_law 319 = .ok (.iadd, 1) := by decide +kernel
theorem dL_law_320 : decode cL_law 320 = .ok (.iaload, 1) := by decide +kernel
theorem dL_law_321 : decode cL_law 321 = .ok (.invokevirtual 35, 3) := by decide +kernel
theorem dL_law_324 : decode cL_law 324 = .ok (.if_icmp .eq 899, 3) := by decide +kernel
theorem dL_law_327 : decode cL_law 327 = .ok (.iconst 0, 1) := by decide +kernel
theorem dL_law_328 : decode cL_law 328 = .ok (.ireturn, 1) := by decide +kernel
theorem dL_law_329 : decode cL_law 329 = .ok (.aload_n 1, 1) := by decide +kernel
theorem dL_law_330 : decode cL_law 330 = .ok (.aload_n 0, 1) := by decide +kernel
theorem dL_law_331 : decode cL_law 331 = .ok (.iload_n 3, 1) := by decide +kernel
theorem dL_law_332 : decode cL_law 332 = .ok (.iconst 1, 1) := by decide +kernel
theorem dL_law_333 : decode cL_law 333 = .ok (.iadd, 1) := by decide +kernel
theorem dL_law_334 : decode cL_law 334 = .ok (.iaload, 1) := by decide +kernel
theorem dL_law_335 : decode cL_law 335 = .ok (.aload_n 0, 1) := by decide +kernel
theorem dL_law_336 : decode cL_law 336 = .ok (.iload_n 3, 1) := by decide +kernel
theorem dL_law_337 : decode cL_law 337 = .ok (.iconst 2, 1) := by decide +kernel
theorem dL_law_338 : decode cL_law 338 = .ok (.iadd, 1) := by decide +kernel
theorem dL_law_339 : decode cL_law 339 = .ok (.iaload, 1) := by decide +kernel
theorem dL_law_340 : decode cL_law 340 = .ok (.invokevirtual 36, 3) := by decide +kernel
theorem dL_law_343 : decode cL_law 343 = .ok (.aload_n 2, 1) := by decide +kernel
theorem dL_law_344 : decode cL_law 344 = .ok (.aload_n 0, 1) := by decide +kernel
theorem dL_law_345 : decode cL_law 345 = .ok (.iload_n 3, 1) := by decide +kernel
theorem dL_law_346 : decode cL_law 346 = .ok (.iconst 1, 1) := by decide +kernel
theorem dL_law_347 : decode cL_law 347 = .ok (.iadd, 1) := by decide +kernel
theorem dL_law_348 : decode cL_law 348 = .ok (.iaload, 1) := by decide +kernel
theorem dL_law_349 : decode cL_law 349 = .ok (.aload_n 0, 1) := by decide +kernel
theorem dL_law_350 : decode cL_law 350 = .ok (.iload_n 3, 1) := by decide +kernel
theorem dL_law_351 : decode cL_law 351 = .ok (.iconst 2, 1) := by decide +kernel
theorem dL_law_352 : decode cL_law 352 = .ok (.iadd, 1) := by decide +kernel
theorem dL_law_353 : decode cL_law 353 = .ok (.iaload, 1) := by decide +kernel
theorem dL_law_354 : decode cL_law 354 = .ok (.invokevirtual 39, 3) := by decide +kernel
theorem dL_law_357 : decode cL_law 357 = .ok (.if_icmp .eq 866, 3) := by decide +kernel
theorem dL_law_360 : decode cL_law 360 = .ok (.iconst 0, 1) := by decide +kernel
theorem dL_law_361 : decode cL_law 361 = .ok (.ireturn, 1) := by decide +kernel
theorem dL_law_362 : decode cL_law 362 = .ok (.aload_n 1, 1) := by decide +kernel
theorem dL_law_363 : decode cL_law 363 = .ok (.aload_n 0, 1) := by decide +kernel
theorem dL_law_364 : decode cL_law 364 = .ok (.iload_n 3, 1) := by decide +kernel
theorem dL_law_365 : decode cL_law 365 = .ok (.iconst 1, 1) := by decide +kernel
theorem dL_law_366 : decode cL_law 366 = .ok (.iadd, 1) := by decide +kernel
theorem dL_law_367 : decode cL_law 367 = .ok (.iaload, 1) := by decide +kernel
theorem dL_law_368 : decode cL_law 368 = .ok (.aload_n 0, 1) := by decide +kernel
theorem dL_law_369 : decode cL_law 369 = .ok (.iload_n 3, 1) := by decide +kernel
theorem dL_law_370 : decode cL_law 370 = .ok (.iconst 2, 1) := by decide +kernel
theorem dL_law_371 : decode cL_law 371 = .ok (.iadd, 1) := by decide +kernel
theorem dL_law_372 : decode cL_law 372 = .ok (.iaload, 1) := by decide +kernel
theorem dL_law_373 : decode cL_law 373 = .ok (.invokevirtual 40, 3) := by decide +kernel
theorem dL_law_376 : decode cL_law 376 = .ok (.aload_n 2, 1) := by decide +kernel
theorem dL_law_377 : decode cL_law 377 = .ok (.aload_n 0, 1) := by decide +kernel
theorem dL_law_378 : decode cL_law 378 = .ok (.iload_n 3, 1) := by decide +kernel
theorem dL_law_379 : decode cL_law 379 = .ok (.iconst 1, 1) := by decide +kernel
theorem dL_law_380 : decode cL_law 380 = .ok (.iadd, 1) := by decide +kernel
theorem dL_law_381 : decode cL_law 381 = .ok (.iaload, 1) := by decide +kernel
theorem dL_law_382 : decode cL_law 382 = .ok (.aload_n 0, 1) := by decide +kernel
theorem dL_law_383 : decode cL_law 383 = .ok (.iload_n 3, 1) := by decide +kernel
theorem dL_law_384 : decode cL_law 384 = .ok (.iconst 2, 1) := by decide +kernel
theorem dL_law_385 : decode cL_law 385 = .ok (.iadd, 1) := by decide +kernel
theorem dL_law_386 : decode cL_law 386 = .ok (.iaload, 1) := by decide +kernel
theorem dL_law_387 : decode cL_law 387 = .ok (.invokevirtual 43, 3) := by decide +kernel
theorem dL_law_390 : decode cL_law 390 = .ok (.if_icmp .eq 833, 3) := by decide +kernel
theorem dL_law_393 : decode cL_law 393 = .ok (.iconst 0, 1) := by decide +kernel
theorem dL_law_394 : decode cL_law 394 = .ok (.ireturn, 1) := by decide +kernel
theorem dL_law_395 : decode cL_law 395 = .ok (.aload_n 1, 1) := by decide +kernel
theorem dL_law_396 : decode cL_law 396 = .ok (.aload_n 0, 1) := by decide +kernel
theorem dL_law_397 : decode cL_law 397 = .ok (.iload_n 3, 1) := by decide +kernel
theorem dL_law_398 : decode cL_law 398 = .ok (.iconst 1, 1) := by decide +kernel
theorem dL_law_399 : decode cL_law 399 = .ok (.iadd, 1) := by decide +kernel
theorem dL_law_400 : decode cL_law 400 = .ok (.iaload, 1) := by decide +kernel
theorem dL_law_401 : decode cL_law 401 = .ok (.invokevirtual 44, 3) := by decide +kernel
theorem dL_law_404 : decode cL_law 404 = .ok (.aload_n 2, 1) := by decide +kernel
theorem dL_law_405 : decode cL_law 405 = .ok (.aload_n 0, 1) := by decide +kernel
theorem dL_law_406 : decode cL_law 406 = .ok (.iload_n 3, 1) := by decide +kernel
theorem dL_law_407 : decode cL_law 407 = .ok (.iconst 1, 1) := by decide +kernel
theorem dL_law_408 : decode cL_law 408 = .ok (.iadd, 1) := by decide +kernel
theorem dL_law_409 : decode cL_law 409 = .ok (.iaload, 1) := by decide +kernel
theorem dL_law_410 : decode cL_law 410 = .ok (.invokevirtual 47, 3) := by decide +kernel
theorem dL_law_413 : decode cL_law 413 = .ok (.if_icmp .eq 810, 3) := by decide +kernel
theorem dL_law_416 : decode cL_law 416 = .ok (.iconst 0, 1) := by decide +kernel
theorem dL_law_417 : decode cL_law 417 = .ok (.ireturn, 1) := by decide +kernel
theorem dL_law_418 : decode cL_law 418 = .ok (.aload_n 1, 1) := by decide +kernel
theorem dL_law_419 : decode cL_law 419 = .ok (.aload_n 0, 1) := by decide +kernel
theorem dL_law_420 : decode cL_law 420 = .ok (.iload_n 3, 1) := by decide +kernel
theorem dL_law_421 : decode cL_law 421 = .ok (.iconst 1, 1) := by decide +kernel
theorem dL_law_422 : decode cL_law 422 = .ok (.iadd, 1) := by decide +kernel
theorem dL_law_423 : decode cL_law 423 = .ok (.iaload, 1) := by decide +kernel
theorem dL_law_424 : decode cL_law 424 = .ok (.invokevirtual 48, 3) := by decide +kernel
theorem dL_law_427 : decode cL_law 427 = .ok (.aload_n 2, 1) := by decide +kernel
theorem dL_law_428 : decode cL_law 428 = .ok (.aload_n 0, 1) := by decide +kernel
theorem dL_law_429 : decode cL_law 429 = .ok (.iload_n 3, 1) := by decide +kernel
theorem dL_law_430 : decode cL_law 430 = .ok (.iconst 1, 1) := by decide +kernel
theorem dL_law_431 : decode cL_law 431 = .ok (.iadd, 1) := by decide +kernel
theorem dL_law_432 : decode cL_law 432 = .ok (.iaload, 1) := by decide +kernel
theorem dL_law_433 : decode cL_law 433 = .ok (.invokevirtual 51, 3) := by decide +kernel
theorem dL_law_436 : decode cL_law 436 = .ok (.if_icmp .eq 787, 3) := by decide +kernel
theorem dL_law_439 : decode cL_law 439 = .ok (.iconst 0, 1) := by decide +kernel
theorem dL_law_440 : decode cL_law 440 = .ok (.ireturn, 1) := by decide +kernel
theorem dL_law_441 : decode cL_law 441 = .ok (.aload_n 1, 1) := by decide +kernel
theorem dL_law_442 : decode cL_law 442 = .ok (.aload_n 0, 1) := by decide +kernel
theorem dL_law_443 : decode cL_law 443 = .ok (.iload_n 3, 1) := by decide +kernel
theorem dL_law_444 : decode cL_law 444 = .ok (.iconst 1, 1) := by decide +kernel
theorem dL_law_445 : decode cL_law 445 = .ok (.iadd, 1) := by decide +kernel
theorem dL_law_446 : decode cL_law 446 = .ok (.iaload, 1) := by decide +kernel
theorem dL_law_447 : decode cL_law 447 = .ok (.aload_n 0, 1) := by decide +kernel
theorem dL_law_448 : decode cL_law 448 = .ok (.iload_n 3, 1) := by decide +kernel
theorem dL_law_449 : decode cL_law 449 = .ok (.iconst 2, 1) := by decide +kernel
theorem dL_law_450 : decode cL_law 450 = .ok (.iadd, 1) := by decide +kernel
theorem dL_law_451 : decode cL_law 451 = .ok (.iaload, 1) := by decide +kernel
theorem dL_law_452 : decode cL_law 452 = .ok (.aload_n 0, 1) := by decide +kernel
theorem dL_law_453 : decode cL_law 453 = .ok (.iload_n 3, 1) := by decide +kernel
theorem dL_law_454 : decode cL_law 454 = .ok (.iconst 3, 1) := by decide +kernel
theorem dL_law_455 : decode cL_law 455 = .ok (.iadd, 1) := by decide +kernel
theorem dL_law_456 : decode cL_law 456 = .ok (.iaload, 1) := by decide +kernel
theorem dL_law_457 : decode cL_law 457 = .ok (.invokevirtual 52, 3) := by decide +kernel
theorem dL_law_460 : decode cL_law 460 = .ok (.aload_n 2, 1) := by decide +kernel
theorem dL_law_461 : decode cL_law 461 = .ok (.aload_n 0, 1) := by decide +kernel
theorem dL_law_462 : decode cL_law 462 = .ok (.iload_n 3, 1) := by decide +kernel
theorem dL_law_463 : decode cL_law 463 = .ok (.iconst 1, 1) := by decide +kernel
theorem dL_law_464 : decode cL_law 464 = .ok (.iadd, 1) := by decide +kernel
theorem dL_law_465 : decode cL_law 465 = .ok (.iaload, 1) := by decide +kernel
theorem dL_law_466 : decode cL_law 466 = .ok (.aload_n 0, 1) := by decide +kernel
theorem dL_law_467 : decode cL_law 467 = .ok (.iload_n 3, 1) := by decide +kernel
theorem dL_law_468 : decode cL_law 468 = .ok (.iconst 2, 1) := by decide +kernel
theorem dL_law_469 : decode cL_law 469 = .ok (.iadd, 1) := by decide +kernel
theorem dL_law_470 : decode cL_law 470 = .ok (.iaload, 1) := by decide +kernel
theorem dL_law_471 : decode cL_law 471 = .ok (.aload_n 0, 1) := by decide +kernel
theorem dL_law_472 : decode cL_law 472 = .ok (.iload_n 3, 1) := by decide +kernel
theorem dL_law_473 : decode cL_law 473 = .ok (.iconst 3, 1) := by decide +kernel
theorem dL_law_474 : decode cL_law 474 = .ok (.iadd, 1) := by decide +kernel
theorem dL_law_475 : decode cL_law 475 = .ok (.iaload, 1) := by decide +kernel
theorem dL_law_476 : decode cL_law 476 = .ok (.invokevirtual 56, 3) := by decide +kernel
theorem dL_law_479 : decode cL_law 479 = .ok (.if_icmp .eq 744, 3) := by decide +kernel
theorem dL_law_482 : decode cL_law 482 = .ok (.iconst 0, 1) := by decide +kernel
theorem dL_law_483 : decode cL_law 483 = .ok (.ireturn, 1) := by decide +kernel
theorem dL_law_484 : decode cL_law 484 = .ok (.aload_n 1, 1) := by decide +kernel
theorem dL_law_485 : decode cL_law 485 = .ok (.aload_n 0, 1) := by decide +kernel
theorem dL_law_486 : decode cL_law 486 = .ok (.iload_n 3, 1) := by decide +kernel
theorem dL_law_487 : decode cL_law 487 = .ok (.iconst 1, 1) := by decide +kernel
theorem dL_law_488 : decode cL_law 488 = .ok (.iadd, 1) := by decide +kernel
theorem dL_law_489 : decode cL_law 489 = .ok (.iaload, 1) := by decide +kernel
theorem dL_law_490 : decode cL_law 490 = .ok (.invokevirtual 57, 3) := by decide +kernel
theorem dL_law_493 : decode cL_law 493 = .ok (.aload_n 2, 1) := by decide +kernel
theorem dL_law_494 : decode cL_law 494 = .ok (.aload_n 0, 1) := by decide +kernel
theorem dL_law_495 : decode cL_law 495 = .ok (.iload_n 3, 1) := by decide +kernel
theorem dL_law_496 : decode cL_law 496 = .ok (.iconst 1, 1) := by decide +kernel
theorem dL_law_497 : decode cL_law 497 = .ok (.iadd, 1) := by decide +kernel
theorem dL_law_498 : decode cL_law 498 = .ok (.iaload, 1) := by decide +kernel
theorem dL_law_499 : decode cL_law 499 = .ok (.invokevirtual 60, 3) := by decide +kernel
theorem dL_law_502 : decode cL_law 502 = .ok (.if_icmp .eq 721, 3) := by decide +kernel
theorem dL_law_505 : decode cL_law 505 = .ok (.iconst 0, 1) := by decide +kernel
theorem dL_law_506 : decode cL_law 506 = .ok (.ireturn, 1) := by decide +kernel
theorem dL_law_507 : decode cL_law 507 = .ok (.aload_n 1, 1) := by decide +kernel
theorem dL_law_508 : decode cL_law 508 = .ok (.aload_n 0, 1) := by decide +kernel
theorem dL_law_509 : decode cL_law 509 = .ok (.iload_n 3, 1) := by decide +kernel
theorem dL_law_510 : decode cL_law 510 = .ok (.iconst 1, 1) := by decide +kernel
theorem dL_law_511 : decode cL_law 511 = .ok (.iadd, 1) := by decide +kernel
theorem dL_law_512 : decode cL_law 512 = .ok (.iaload, 1) := by decide +kernel
theorem dL_law_513 : decode cL_law 513 = .ok (.aload_n 0, 1) := by decide +kernel
theorem dL_law_514 : decode cL_law 514 = .ok (.iload_n 3, 1) := by decide +kernel
theorem dL_law_515 : decode cL_law 515 = .ok (.iconst 2, 1) := by decide +kernel
theorem dL_law_516 : decode cL_law 516 = .ok (.iadd, 1) := by decide +kernel
theorem dL_law_517 : decode cL_law 517 = .ok (.iaload, 1) := by decide +kernel
theorem dL_law_518 : decode cL_law 518 = .ok (.invokevirtual 61, 3) := by decide +kernel
theorem dL_law_521 : decode cL_law 521 = .ok (.aload_n 2, 1) := by decide +kernel
theorem dL_law_522 : decode cL_law 522 = .ok (.aload_n 0, 1) := by decide +kernel
theorem dL_law_523 : decode cL_law 523 = .ok (.iload_n 3, 1) := by decide +kernel
theorem dL_law_524 : decode cL_law 524 = .ok (.iconst 1, 1) := by decide +kernel
theorem dL_law_525 : decode cL_law 525 = .ok (.iadd, 1) := by decide +kernel
theorem dL_law_526 : decode cL_law 526 = .ok (.iaload, 1) := by decide +kernel
theorem dL_law_527 : decode cL_law 527 = .ok (.aload_n 0, 1) := by decide +kernel
theorem dL_law_528 : decode cL_law 528 = .ok (.iload_n 3, 1) := by decide +kernel
theorem dL_law_529 : decode cL_law 529 = .ok (.iconst 2, 1) := by decide +kernel
theorem dL_law_530 : decode cL_law 530 = .ok (.iadd, 1) := by decide +kernel
theorem dL_law_531 : decode cL_law 531 = .ok (.iaload, 1) := by decide +kernel
theorem dL_law_532 : decode cL_law 532 = .ok (.invokevirtual 64, 3) := by decide +kernel
theorem dL_law_535 : decode cL_law 535 = .ok (.if_icmp .eq 688, 3) := by decide +kernel
theorem dL_law_538 : decode cL_law 538 = .ok (.iconst 0, 1) := by decide +kernel
theorem dL_law_539 : decode cL_law 539 = .ok (.ireturn, 1) := by decide +kernel
theorem dL_law_540 : decode cL_law 540 = .ok (.aload_n 1, 1) := by decide +kernel
theorem dL_law_541 : decode cL_law 541 = .ok (.aload_n 0, 1) := by decide +kernel
theorem dL_law_542 : decode cL_law 542 = .ok (.iload_n 3, 1) := by decide +kernel
theorem dL_law_543 : decode cL_law 543 = .ok (.iconst 1, 1) := by decide +kernel
theorem dL_law_544 : decode cL_law 544 = .ok (.iadd, 1) := by decide +kernel
theorem dL_law_545 : decode cL_law 545 = .ok (.iaload, 1) := by decide +kernel
theorem dL_law_546 : decode cL_law 546 = .ok (.aload_n 0, 1) := by decide +kernel
theorem dL_law_547 : decode cL_law 547 = .ok (.iload_n 3, 1) := by decide +kernel
theorem dL_law_548 : decode cL_law 548 = .ok (.iconst 2, 1) := by decide +kernel
theorem dL_law_549 : decode cL_law 549 = .ok (.iadd, 1) := by decide +kernel
theorem dL_law_550 : decode cL_law 550 = .ok (.iaload, 1) := by decide +kernel
theorem dL_law_551 : decode cL_law 551 = .ok (.invokevirtual 65, 3) := by decide +kernel
theorem dL_law_554 : decode cL_law 554 = .ok (.aload_n 2, 1) := by decide +kernel
theorem dL_law_555 : decode cL_law 555 = .ok (.aload_n 0, 1) := by decide +kernel
theorem dL_law_556 : decode cL_law 556 = .ok (.iload_n 3, 1) := by decide +kernel
theorem dL_law_557 : decode cL_law 557 = .ok (.iconst 1, 1) := by decide +kernel
theorem dL_law_558 : decode cL_law 558 = .ok (.iadd, 1) := by decide +kernel
theorem dL_law_559 : decode cL_law 559 = .ok (.iaload, 1) := by decide +kernel
theorem dL_law_560 : decode cL_law 560 = .ok (.aload_n 0, 1) := by decide +kernel
theorem dL_law_561 : decode cL_law 561 = .ok (.iload_n 3, 1) := by decide +kernel
theorem dL_law_562 : decode cL_law 562 = .ok (.iconst 2, 1) := by decide +kernel
theorem dL_law_563 : decode cL_law 563 = .ok (.iadd, 1) := by decide +kernel
theorem dL_law_564 : decode cL_law 564 = .ok (.iaload, 1) := by decide +kernel
theorem dL_law_565 : decode cL_law 565 = .ok (.invokevirtual 68, 3) := by decide +kernel
theorem dL_law_568 : decode cL_law 568 = .ok (.if_icmp .eq 655, 3) := by decide +kernel
theorem dL_law_571 : decode cL_law 571 = .ok (.iconst 0, 1) := by decide +kernel
theorem dL_law_572 : decode cL_law 572 = .ok (.ireturn, 1) := by decide +kernel
theorem dL_law_573 : decode cL_law 573 = .ok (.aload_n 1, 1) := by decide +kernel
theorem dL_law_574 : decode cL_law 574 = .ok (.aload_n 0, 1) := by decide +kernel
theorem dL_law_575 : decode cL_law 575 = .ok (.iload_n 3, 1) := by decide +kernel
theorem dL_law_576 : decode cL_law 576 = .ok (.iconst 1, 1) := by decide +kernel
theorem dL_law_577 : decode cL_law 577 = .ok (.iadd, 1) := by decide +kernel
theorem dL_law_578 : decode cL_law 578 = .ok (.iaload, 1) := by decide +kernel
theorem dL_law_579 : decode cL_law 579 = .ok (.invokevirtual 69, 3) := by decide +kernel
theorem dL_law_582 : decode cL_law 582 = .ok (.aload_n 2, 1) := by decide +kernel
theorem dL_law_583 : decode cL_law 583 = .ok (.aload_n 0, 1) := by decide +kernel
theorem dL_law_584 : decode cL_law 584 = .ok (.iload_n 3, 1) := by decide +kernel
theorem dL_law_585 : decode cL_law 585 = .ok (.iconst 1, 1) := by decide +kernel
theorem dL_law_586 : decode cL_law 586 = .ok (.iadd, 1) := by decide +kernel
theorem dL_law_587 : decode cL_law 587 = .ok (.iaload, 1) := by decide +kernel
theorem dL_law_588 : decode cL_law 588 = .ok (.invokevirtual 72, 3) := by decide +kernel
theorem dL_law_591 : decode cL_law 591 = .ok (.if_icmp .eq 632, 3) := by decide +kernel
theorem dL_law_594 : decode cL_law 594 = .ok (.iconst 0, 1) := by decide +kernel
theorem dL_law_595 : decode cL_law 595 = .ok (.ireturn, 1) := by decide +kernel
theorem dL_law_596 : decode cL_law 596 = .ok (.aload_n 1, 1) := by decide +kernel
theorem dL_law_597 : decode cL_law 597 = .ok (.invokevirtual 73, 3) := by decide +kernel
theorem dL_law_600 : decode cL_law 600 = .ok (.aload_n 2, 1) := by decide +kernel
theorem dL_law_601 : decode cL_law 601 = .ok (.invokevirtual 76, 3) := by decide +kernel
theorem dL_law_604 : decode cL_law 604 = .ok (.if_icmp .eq 619, 3) := by decide +kernel
theorem dL_law_607 : decode cL_law 607 = .ok (.iconst 0, 1) := by decide +kernel
theorem dL_law_608 : decode cL_law 608 = .ok (.ireturn, 1) := by decide +kernel
theorem dL_law_609 : decode cL_law 609 = .ok (.aload_n 1, 1) := by decide +kernel
theorem dL_law_610 : decode cL_law 610 = .ok (.aload_n 0, 1) := by decide +kernel
theorem dL_law_611 : decode cL_law 611 = .ok (.iload_n 3, 1) := by decide +kernel
theorem dL_law_612 : decode cL_law 612 = .ok (.iconst 1, 1) := by decide +kernel
theorem dL_law_613 : decode cL_law 613 = .ok (.iadd, 1) := by decide +kernel
theorem dL_law_614 : decode cL_law 614 = .ok (.iaload, 1) := by decide +kernel
theorem dL_law_615 : decode cL_law 615 = .ok (.invokevirtual 77, 3) := by decide +kernel
theorem dL_law_618 : decode cL_law 618 = .ok (.aload_n 2, 1) := by decide +kernel
theorem dL_law_619 : decode cL_law 619 = .ok (.aload_n 0, 1) := by decide +kernel
theorem dL_law_620 : decode cL_law 620 = .ok (.iload_n 3, 1) := by decide +kernel
theorem dL_law_621 : decode cL_law 621 = .ok (.iconst 1, 1) := by decide +kernel
theorem dL_law_622 : decode cL_law 622 = .ok (.iadd, 1) := by decide +kernel
theorem dL_law_623 : decode cL_law 623 = .ok (.iaload, 1) := by decide +kernel
theorem dL_law_624 : decode cL_law 624 = .ok (.invokevirtual 80, 3) := by decide +kernel
theorem dL_law_627 : decode cL_law 627 = .ok (.if_icmp .eq 596, 3) := by decide +kernel
theorem dL_law_630 : decode cL_law 630 = .ok (.iconst 0, 1) := by decide +kernel
theorem dL_law_631 : decode cL_law 631 = .ok (.ireturn, 1) := by decide +kernel
theorem dL_law_632 : decode cL_law 632 = .ok (.aload_n 1, 1) := by decide +kernel
theorem dL_law_633 : decode cL_law 633 = .ok (.aload_n 0, 1) := by decide +kernel
theorem dL_law_634 : decode cL_law 634 = .ok (.iload_n 3, 1) := by decide +kernel
theorem dL_law_635 : decode cL_law 635 = .ok (.iconst 1, 1) := by decide +kernel
theorem dL_law_636 : decode cL_law 636 = .ok (.iadd, 1) := by decide +kernel
theorem dL_law_637 : decode cL_law 637 = .ok (.iaload, 1) := by decide +kernel
theorem dL_law_638 : decode cL_law 638 = .ok (.aload_n 0, 1) := by decide +kernel
theorem dL_law_639 : decode cL_law 639 = .ok (.iload_n 3, 1) := by decide +kernel
theorem dL_law_640 : decode cL_law 640 = .ok (.iconst 2, 1) := by decide +kernel
theorem dL_law_641 : decode cL_law 641 = .ok (.iadd, 1) := by decide +kernel
theorem dL_law_642 : decode cL_law 642 = .ok (.iaload, 1) := by decide +kernel
theorem dL_law_643 : decode cL_law 643 = .ok (.invokevirtual 81, 3) := by decide +kernel
theorem dL_law_646 : decode cL_law 646 = .ok (.aload_n 2, 1) := by decide +kernel
theorem dL_law_647 : decode cL_law 647 = .ok (.aload_n 0, 1) := by decide +kernel
theorem dL_law_648 : decode cL_law 648 = .ok (.iload_n 3, 1) := by decide +kernel
theorem dL_law_649 : decode cL_law 649 = .ok (.iconst 1, 1) := by decide +kernel
theorem dL_law_650 : decode cL_law 650 = .ok (.iadd, 1) := by decide +kernel
theorem dL_law_651 : decode cL_law 651 = .ok (.iaload, 1) := by decide +kernel
theorem dL_law_652 : decode cL_law 652 = .ok (.aload_n 0, 1) := by decide +kernel
theorem dL_law_653 : decode cL_law 653 = .ok (.iload_n 3, 1) := by decide +kernel
theorem dL_law_654 : decode cL_law 654 = .ok (.iconst 2, 1) := by decide +kernel
theorem dL_law_655 : decode cL_law 655 = .ok (.iadd, 1) := by decide +kernel
theorem dL_law_656 : decode cL_law 656 = .ok (.iaload, 1) := by decide +kernel
theorem dL_law_657 : decode cL_law 657 = .ok (.invokevirtual 84, 3) := by decide +kernel
theorem dL_law_660 : decode cL_law 660 = .ok (.if_icmp .eq 563, 3) := by decide +kernel
theorem dL_law_663 : decode cL_law 663 = .ok (.iconst 0, 1) := by decide +kernel
theorem dL_law_664 : decode cL_law 664 = .ok (.ireturn, 1) := by decide +kernel
theorem dL_law_665 : decode cL_law 665 = .ok (.aload_n 1, 1) := by decide +kernel
theorem dL_law_666 : decode cL_law 666 = .ok (.aload_n 0, 1) := by decide +kernel
theorem dL_law_667 : decode cL_law 667 = .ok (.iload_n 3, 1) := by decide +kernel
theorem dL_law_668 : decode cL_law 668 = .ok (.iconst 1, 1) := by decide +kernel
theorem dL_law_669 : decode cL_law 669 = .ok (.iadd, 1) := by decide +kernel
theorem dL_law_670 : decode cL_law 670 = .ok (.iaload, 1) := by decide +kernel
theorem dL_law_671 : decode cL_law 671 = .ok (.aload_n 0, 1) := by decide +kernel
theorem dL_law_672 : decode cL_law 672 = .ok (.iload_n 3, 1) := by decide +kernel
theorem dL_law_673 : decode cL_law 673 = .ok (.iconst 2, 1) := by decide +kernel
theorem dL_law_674 : decode cL_law 674 = .ok (.iadd, 1) := by decide +kernel
theorem dL_law_675 : decode cL_law 675 = .ok (.iaload, 1) := by decide +kernel
theorem dL_law_676 : decode cL_law 676 = .ok (.invokevirtual 85, 3) := by decide +kernel
theorem dL_law_679 : decode cL_law 679 = .ok (.aload_n 2, 1) := by decide +kernel
theorem dL_law_680 : decode cL_law 680 = .ok (.aload_n 0, 1) := by decide +kernel
theorem dL_law_681 : decode cL_law 681 = .ok (.iload_n 3, 1) := by decide +kernel
theorem dL_law_682 : decode cL_law 682 = .ok (.iconst 1, 1) := by decide +kernel
theorem dL_law_683 : decode cL_law 683 = .ok (.iadd, 1) := by decide +kernel
theorem dL_law_684 : decode cL_law 684 = .ok (.iaload, 1) := by decide +kernel
theorem dL_law_685 : decode cL_law 685 = .ok (.aload_n 0, 1) := by decide +kernel
theorem dL_law_686 : decode cL_law 686 = .ok (.iload_n 3, 1) := by decide +kernel
theorem dL_law_687 : decode cL_law 687 = .ok (.iconst 2, 1) := by decide +kernel
theorem dL_law_688 : decode cL_law 688 = .ok (.iadd, 1) := by decide +kernel
theorem dL_law_689 : decode cL_law 689 = .ok (.iaload, 1) := by decide +kernel
theorem dL_law_690 : decode cL_law 690 = .ok (.invokevirtual 88, 3) := by decide +kernel
theorem dL_law_693 : decode cL_law 693 = .ok (.if_icmp .eq 530, 3) := by decide +kernel
theorem dL_law_696 : decode cL_law 696 = .ok (.iconst 0, 1) := by decide +kernel
theorem dL_law_697 : decode cL_law 697 = .ok (.ireturn, 1) := by decide +kernel
theorem dL_law_698 : decode cL_law 698 = .ok (.aload_n 1, 1) := by decide +kernel
theorem dL_law_699 : decode cL_law 699 = .ok (.aload_n 0, 1) := by decide +kernel
theorem dL_law_700 : decode cL_law 700 = .ok (.iload_n 3, 1) := by decide +kernel
theorem dL_law_701 : decode cL_law 701 = .ok (.iconst 1, 1) := by decide +kernel
theorem dL_law_702 : decode cL_law 702 = .ok (.iadd, 1) := by decide +kernel
theorem dL_law_703 : decode cL_law 703 = .ok (.iaload, 1) := by decide +kernel
theorem dL_law_704 : decode cL_law 704 = .ok (.invokevirtual 89, 3) := by decide +kernel
theorem dL_law_707 : decode cL_law 707 = .ok (.aload_n 2, 1) := by decide +kernel
theorem dL_law_708 : decode cL_law 708 = .ok (.aload_n 0, 1) := by decide +kernel
theorem dL_law_709 : decode cL_law 709 = .ok (.iload_n 3, 1) := by decide +kernel
theorem dL_law_710 : decode cL_law 710 = .ok (.iconst 1, 1) := by decide +kernel
theorem dL_law_711 : decode cL_law 711 = .ok (.iadd, 1) := by decide +kernel
theorem dL_law_712 : decode cL_law 712 = .ok (.iaload, 1) := by decide +kernel
theorem dL_law_713 : decode cL_law 713 = .ok (.invokevirtual 92, 3) := by decide +kernel
theorem dL_law_716 : decode cL_law 716 = .ok (.if_icmp .eq 507, 3) := by decide +kernel
theorem dL_law_719 : decode cL_law 719 = .ok (.iconst 0, 1) := by decide +kernel
theorem dL_law_720 : decode cL_law 720 = .ok (.ireturn, 1) := by decide +kernel
theorem dL_law_721 : decode cL_law 721 = .ok (.aload_n 1, 1) := by decide +kernel
theorem dL_law_722 : decode cL_law 722 = .ok (.aload_n 0, 1) := by decide +kernel
theorem dL_law_723 : decode cL_law 723 = .ok (.iload_n 3, 1) := by decide +kernel
theorem dL_law_724 : decode cL_law 724 = .ok (.iconst 1, 1) := by decide +kernel
theorem dL_law_725 : decode cL_law 725 = .ok (.iadd, 1) := by decide +kernel
theorem dL_law_726 : decode cL_law 726 = .ok (.iaload, 1) := by decide +kernel
theorem dL_law_727 : decode cL_law 727 = .ok (.invokevirtual 93, 3) := by decide +kernel
theorem dL_law_730 : decode cL_law 730 = .ok (.aload_n 2, 1) := by decide +kernel
theorem dL_law_731 : decode cL_law 731 = .ok (.aload_n 0, 1) := by decide +kernel
theorem dL_law_732 : decode cL_law 732 = .ok (.iload_n 3, 1) := by decide +kernel
theorem dL_law_733 : decode cL_law 733 = .ok (.iconst 1, 1) := by decide +kernel
theorem dL_law_734 : decode cL_law 734 = .ok (.iadd, 1) := by decide +kernel
theorem dL_law_735 : decode cL_law 735 = .ok (.iaload, 1) := by decide +kernel
theorem dL_law_736 : decode cL_law 736 = .ok (.invokevirtual 96, 3) := by decide +kernel
theorem dL_law_739 : decode cL_law 739 = .ok (.if_icmp .eq 484, 3) := by decide +kernel
theorem dL_law_742 : decode cL_law 742 = .ok (.iconst 0, 1) := by decide +kernel
theorem dL_law_743 : decode cL_law 743 = .ok (.ireturn, 1) := by decide +kernel
theorem dL_law_744 : decode cL_law 744 = .ok (.aload_n 1, 1) := by decide +kernel
theorem dL_law_745 : decode cL_law 745 = .ok (.aload_n 0, 1) := by decide +kernel
theorem dL_law_746 : decode cL_law 746 = .ok (.iload_n 3, 1) := by decide +kernel
theorem dL_law_747 : decode cL_law 747 = .ok (.iconst 1, 1) := by decide +kernel
theorem dL_law_748 : decode cL_law 748 = .ok (.iadd, 1) := by decide +kernel
theorem dL_law_749 : decode cL_law 749 = .ok (.iaload, 1) := by decide +kernel
theorem dL_law_750 : decode cL_law 750 = .ok (.invokevirtual 97, 3) := by decide +kernel
theorem dL_law_753 : decode cL_law 753 = .ok (.aload_n 2, 1) := by decide +kernel
theorem dL_law_754 : decode cL_law 754 = .ok (.aload_n 0, 1) := by decide +kernel
theorem dL_law_755 : decode cL_law 755 = .ok (.iload_n 3, 1) := by decide +kernel
theorem dL_law_756 : decode cL_law 756 = .ok (.iconst 1, 1) := by decide +kernel
theorem dL_law_757 : decode cL_law 757 = .ok (.iadd, 1) := by decide +kernel
theorem dL_law_758 : decode cL_law 758 = .ok (.iaload, 1) := by decide +kernel
theorem dL_law_759 : decode cL_law 759 = .ok (.invokevirtual 100, 3) := by decide +kernel
theorem dL_law_762 : decode cL_law 762 = .ok (.if_icmp .eq 461, 3) := by decide +kernel
theorem dL_law_765 : decode cL_law 765 = .ok (.iconst 0, 1) := by decide +kernel
theorem dL_law_766 : decode cL_law 766 = .ok (.ireturn, 1) := by decide +kernel
theorem dL_law_767 : decode cL_law 767 = .ok (.aload_n 1, 1) := by decide +kernel
theorem dL_law_768 : decode cL_law 768 = .ok (.aload_n 0, 1) := by decide +kernel
theorem dL_law_769 : decode cL_law 769 = .ok (.iload_n 3, 1) := by decide +kernel
theorem dL_law_770 : decode cL_law 770 = .ok (.iconst 1, 1) := by decide +kernel
theorem dL_law_771 : decode cL_law 771 = .ok (.iadd, 1) := by decide +kernel
theorem dL_law_772 : decode cL_law 772 = .ok (.iaload, 1) := by decide +kernel
theorem dL_law_773 : decode cL_law 773 = .ok (.aload_n 0, 1) := by decide +kernel
theorem dL_law_774 : decode cL_law 774 = .ok (.iload_n 3, 1) := by decide +kernel
theorem dL_law_775 : decode cL_law 775 = .ok (.iconst 2, 1) := by decide +kernel
theorem dL_law_776 : decode cL_law 776 = .ok (.iadd, 1) := by decide +kernel
theorem dL_law_777 : decode cL_law 777 = .ok (.iaload, 1) := by decide +kernel
theorem dL_law_778 : decode cL_law 778 = .ok (.invokevirtual 101, 3) := by decide +kernel
theorem dL_law_781 : decode cL_law 781 = .ok (.aload_n 2, 1) := by decide +kernel
theorem dL_law_782 : decode cL_law 782 = .ok (.aload_n 0, 1) := by decide +kernel
theorem dL_law_783 : decode cL_law 783 = .ok (.iload_n 3, 1) := by decide +kernel
theorem dL_law_784 : decode cL_law 784 = .ok (.iconst 1, 1) := by decide +kernel
theorem dL_law_785 : decode cL_law 785 = .ok (.iadd, 1) := by decide +kernel
theorem dL_law_786 : decode cL_law 786 = .ok (.iaload, 1) := by decide +kernel
theorem dL_law_787 : decode cL_law 787 = .ok (.aload_n 0, 1) := by decide +kernel
theorem dL_law_788 : decode cL_law 788 = .ok (.iload_n 3, 1) := by decide +kernel
theorem dL_law_789 : decode cL_law 789 = .ok (.iconst 2, 1) := by decide +kernel
theorem dL_law_790 : decode cL_law 790 = .ok (.iadd, 1) := by decide +kernel
theorem dL_law_791 : decode cL_law 791 = .ok (.iaload, 1) := by decide +kernel
theorem dL_law_792 : decode cL_law 792 = .ok (.invokevirtual 104, 3) := by decide +kernel
theorem dL_law_795 : decode cL_law 795 = .ok (.if_icmp .eq 428, 3) := by decide +kernel
theorem dL_law_798 : decode cL_law 798 = .ok (.iconst 0, 1) := by decide +kernel
theorem dL_law_799 : decode cL_law 799 = .ok (.ireturn, 1) := by decide +kernel
theorem dL_law_800 : decode cL_law 800 = .ok (.aload_n 1, 1) := by decide +kernel
theorem dL_law_801 : decode cL_law 801 = .ok (.invokevirtual 105, 3) := by decide +kernel
theorem dL_law_804 : decode cL_law 804 = .ok (.aload_n 2, 1) := by decide +kernel
theorem dL_law_805 : decode cL_law 805 = .ok (.invokevirtual 108, 3) := by decide +kernel
theorem dL_law_808 : decode cL_law 808 = .ok (.if_icmp .eq 415, 3) := by decide +kernel
theorem dL_law_811 : decode cL_law 811 = .ok (.iconst 0, 1) := by decide +kernel
theorem dL_law_812 : decode cL_law 812 = .ok (.ireturn, 1) := by decide +kernel
theorem dL_law_813 : decode cL_law 813 = .ok (.aload_n 1, 1) := by decide +kernel
theorem dL_law_814 : decode cL_law 814 = .ok (.aload_n 0, 1) := by decide +kernel
theorem dL_law_815 : decode cL_law 815 = .ok (.iload_n 3, 1) := by decide +kernel
theorem dL_law_816 : decode cL_law 816 = .ok (.iconst 1, 1) := by decide +kernel
theorem dL_law_817 : decode cL_law 817 = .ok (.iadd, 1) := by decide +kernel
theorem dL_law_818 : decode cL_law 818 = .ok (.iaload, 1) := by decide +kernel
theorem dL_law_819 : decode cL_law 819 = .ok (.invokevirtual 109, 3) := by decide +kernel
theorem dL_law_822 : decode cL_law 822 = .ok (.aload_n 2, 1) := by decide +kernel
theorem dL_law_823 : decode cL_law 823 = .ok (.aload_n 0, 1) := by decide +kernel
theorem dL_law_824 : decode cL_law 824 = .ok (.iload_n 3, 1) := by decide +kernel
theorem dL_law_825 : decode cL_law 825 = .ok (.iconst 1, 1) := by decide +kernel
theorem dL_law_826 : decode cL_law 826 = .ok (.iadd, 1) := by decide +kernel
theorem dL_law_827 : decode cL_law 827 = .ok (.iaload, 1) := by decide +kernel
theorem dL_law_828 : decode cL_law 828 = .ok (.invokevirtual 112, 3) := by decide +kernel
theorem dL_law_831 : decode cL_law 831 = .ok (.if_icmp .eq 392, 3) := by decide +kernel
theorem dL_law_834 : decode cL_law 834 = .ok (.iconst 0, 1) := by decide +kernel
theorem dL_law_835 : decode cL_law 835 = .ok (.ireturn, 1) := by decide +kernel
theorem dL_law_836 : decode cL_law 836 = .ok (.aload_n 1, 1) := by decide +kernel
theorem dL_law_837 : decode cL_law 837 = .ok (.aload_n 0, 1) := by decide +kernel
theorem dL_law_838 : decode cL_law 838 = .ok (.iload_n 3, 1) := by decide +kernel
theorem dL_law_839 : decode cL_law 839 = .ok (.iconst 1, 1) := by decide +kernel
theorem dL_law_840 : decode cL_law 840 = .ok (.iadd, 1) := by decide +kernel
theorem dL_law_841 : decode cL_law 841 = .ok (.iaload, 1) := by decide +kernel
theorem dL_law_842 : decode cL_law 842 = .ok (.invokevirtual 113, 3) := by decide +kernel
theorem dL_law_845 : decode cL_law 845 = .ok (.aload_n 2, 1) := by decide +kernel
theorem dL_law_846 : decode cL_law 846 = .ok (.aload_n 0, 1) := by decide +kernel
theorem dL_law_847 : decode cL_law 847 = .ok (.iload_n 3, 1) := by decide +kernel
theorem dL_law_848 : decode cL_law 848 = .ok (.iconst 1, 1) := by decide +kernel
theorem dL_law_849 : decode cL_law 849 = .ok (.iadd, 1) := by decide +kernel
theorem dL_law_850 : decode cL_law 850 = .ok (.iaload, 1) := by decide +kernel
theorem dL_law_851 : decode cL_law 851 = .ok (.invokevirtual 116, 3) := by decide +kernel
theorem dL_law_854 : decode cL_law 854 = .ok (.if_icmp .eq 369, 3) := by decide +kernel
theorem dL_law_857 : decode cL_law 857 = .ok (.iconst 0, 1) := by decide +kernel
theorem dL_law_858 : decode cL_law 858 = .ok (.ireturn, 1) := by decide +kernel
theorem dL_law_859 : decode cL_law 859 = .ok (.aload_n 1, 1) := by decide +kernel
theorem dL_law_860 : decode cL_law 860 = .ok (.invokevirtual 117, 3) := by decide +kernel
theorem dL_law_863 : decode cL_law 863 = .ok (.aload_n 2, 1) := by decide +kernel
theorem dL_law_864 : decode cL_law 864 = .ok (.invokevirtual 120, 3) := by decide +kernel
theorem dL_law_867 : decode cL_law 867 = .ok (.if_icmp .eq 356, 3) := by decide +kernel
theorem dL_law_870 : decode cL_law 870 = .ok (.iconst 0, 1) := by decide +kernel
theorem dL_law_871 : decode cL_law 871 = .ok (.ireturn, 1) := by decide +kernel
theorem dL_law_872 : decode cL_law 872 = .ok (.aload_n 1, 1) := by decide +kernel
theorem dL_law_873 : decode cL_law 873 = .ok (.aload_n 0, 1) := by decide +kernel
theorem dL_law_874 : decode cL_law 874 = .ok (.iload_n 3, 1) := by decide +kernel
theorem dL_law_875 : decode cL_law 875 = .ok (.iconst 1, 1) := by decide +kernel
theorem dL_law_876 : decode cL_law 876 = .ok (.iadd, 1) := by decide +kernel
theorem dL_law_877 : decode cL_law 877 = .ok (.iaload, 1) := by decide +kernel
theorem dL_law_878 : decode cL_law 878 = .ok (.invokevirtual 121, 3) := by decide +kernel
theorem dL_law_881 : decode cL_law 881 = .ok (.aload_n 2, 1) := by decide +kernel
theorem dL_law_882 : decode cL_law 882 = .ok (.aload_n 0, 1) := by decide +kernel
theorem dL_law_883 : decode cL_law 883 = .ok (.iload_n 3, 1) := by decide +kernel
theorem dL_law_884 : decode cL_law 884 = .ok (.iconst 1, 1) := by decide +kernel
theorem dL_law_885 : decode cL_law 885 = .ok (.iadd, 1) := by decide +kernel
theorem dL_law_886 : decode cL_law 886 = .ok (.iaload, 1) := by decide +kernel
theorem dL_law_887 : decode cL_law 887 = .ok (.invokevirtual 124, 3) := by decide +kernel
theorem dL_law_890 : decode cL_law 890 = .ok (.if_icmp .eq 333, 3) := by decide +kernel
theorem dL_law_893 : decode cL_law 893 = .ok (.iconst 0, 1) := by decide +kernel
theorem dL_law_894 : decode cL_law 894 = .ok (.ireturn, 1) := by decide +kernel
theorem dL_law_895 : decode cL_law 895 = .ok (.aload_n 1, 1) := by decide +kernel
theorem dL_law_896 : decode cL_law 896 = .ok (.aload_n 0, 1) := by decide +kernel
theorem dL_law_897 : decode cL_law 897 = .ok (.iload_n 3, 1) := by decide +kernel
theorem dL_law_898 : decode cL_law 898 = .ok (.iconst 1, 1) := by decide +kernel
theorem dL_law_899 : decode cL_law 899 = .ok (.iadd, 1) := by decide +kernel
theorem dL_law_900 : decode cL_law 900 = .ok (.iaload, 1) := by decide +kernel
theorem dL_law_901 : decode cL_law 901 = .ok (.invokevirtual 125, 3) := by decide +kernel
theorem dL_law_904 : decode cL_law 904 = .ok (.aload_n 2, 1) := by decide +kernel
theorem dL_law_905 : decode cL_law 905 = .ok (.aload_n 0, 1) := by decide +kernel
theorem dL_law_906 : decode cL_law 906 = .ok (.iload_n 3, 1) := by decide +kernel
theorem dL_law_907 : decode cL_law 907 = .ok (.iconst 1, 1) := by decide +kernel
theorem dL_law_908 : decode cL_law 908 = .ok (.iadd, 1) := by decide +kernel
theorem dL_law_909 : decode cL_law 909 = .ok (.iaload, 1) := by decide +kernel
theorem dL_law_910 : decode cL_law 910 = .ok (.invokevirtual 128, 3) := by decide +kernel
theorem dL_law_913 : decode cL_law 913 = .ok (.if_icmp .eq 310, 3) := by decide +kernel
theorem dL_law_916 : decode cL_law 916 = .ok (.iconst 0, 1) := by decide +kernel
theorem dL_law_917 : decode cL_law 917 = .ok (.ireturn, 1) := by decide +kernel
theorem dL_law_918 : decode cL_law 918 = .ok (.aload_n 1, 1) := by decide +kernel
theorem dL_law_919 : decode cL_law 919 = .ok (.aload_n 0, 1) := by decide +kernel
theorem dL_law_920 : decode cL_law 920 = .ok (.iload_n 3, 1) := by decide +kernel
theorem dL_law_921 : decode cL_law 921 = .ok (.iconst 1, 1) := by decide +kernel
theorem dL_law_922 : decode cL_law 922 = .ok (.iadd, 1) := by decide +kernel
theorem dL_law_923 : decode cL_law 923 = .ok (.iaload, 1) := by decide +kernel
theorem dL_law_924 : decode cL_law 924 = .ok (.aload_n 0, 1) := by decide +kernel
theorem dL_law_925 : decode cL_law 925 = .ok (.iload_n 3, 1) := by decide +kernel
theorem dL_law_926 : decode cL_law 926 = .ok (.iconst 2, 1) := by decide +kernel
theorem dL_law_927 : decode cL_law 927 = .ok (.iadd, 1) := by decide +kernel
theorem dL_law_928 : decode cL_law 928 = .ok (.iaload, 1) := by decide +kernel
theorem dL_law_929 : decode cL_law 929 = .ok (.aload_n 0, 1) := by decide +kernel
theorem dL_law_930 : decode cL_law 930 = .ok (.iload_n 3, 1) := by decide +kernel
theorem dL_law_931 : decode cL_law 931 = .ok (.iconst 3, 1) := by decide +kernel
theorem dL_law_932 : decode cL_law 932 = .ok (.iadd, 1) := by decide +kernel
theorem dL_law_933 : decode cL_law 933 = .ok (.iaload, 1) := by decide +kernel
theorem dL_law_934 : decode cL_law 934 = .ok (.invokevirtual 129, 3) := by decide +kernel
theorem dL_law_937 : decode cL_law 937 = .ok (.aload_n 2, 1) := by decide +kernel
theorem dL_law_938 : decode cL_law 938 = .ok (.aload_n 0, 1) := by decide +kernel
theorem dL_law_939 : decode cL_law 939 = .ok (.iload_n 3, 1) := by decide +kernel
theorem dL_law_940 : decode cL_law 940 = .ok (.iconst 1, 1) := by decide +kernel
theorem dL_law_941 : decode cL_law 941 = .ok (.iadd, 1) := by decide +kernel
theorem dL_law_942 : decode cL_law 942 = .ok (.iaload, 1) := by decide +kernel
theorem dL_law_943 : decode cL_law 943 = .ok (.aload_n 0, 1) := by decide +kernel
theorem dL_law_944 : decode cL_law 944 = .ok (.iload_n 3, 1) := by decide +kernel
theorem dL_law_945 : decode cL_law 945 = .ok (.iconst 2, 1) := by decide +kernel
theorem dL_law_946 : decode cL_law 946 = .ok (.iadd, 1) := by decide +kernel
theorem dL_law_947 : decode cL_law 947 = .ok (.iaload, 1) := by decide +kernel
theorem dL_law_948 : decode cL_law 948 = .ok (.aload_n 0, 1) := by decide +kernel
theorem dL_law_949 : decode cL_law 949 = .ok (.iload_n 3, 1) := by decide +kernel
theorem dL_law_950 : decode cL_law 950 = .ok (.iconst 3, 1) := by decide +kernel
theorem dL_law_951 : decode cL_law 951 = .ok (.iadd, 1) := by decide +kernel
theorem dL_law_952 : decode cL_law 952 = .ok (.iaload, 1) := by decide +kernel
theorem dL_law_953 : decode cL_law 953 = .ok (.invokevirtual 132, 3) := by decide +kernel
theorem dL_law_956 : decode cL_law 956 = .ok (.if_icmp .eq 267, 3) := by decide +kernel
theorem dL_law_959 : decode cL_law 959 = .ok (.iconst 0, 1) := by decide +kernel
theorem dL_law_960 : decode cL_law 960 = .ok (.ireturn, 1) := by decide +kernel
theorem dL_law_961 : decode cL_law 961 = .ok (.aload_n 1, 1) := by decide +kernel
theorem dL_law_962 : decode cL_law 962 = .ok (.aload_n 0, 1) := by decide +kernel
theorem dL_law_963 : decode cL_law 963 = .ok (.iload_n 3, 1) := by decide +kernel
theorem dL_law_964 : decode cL_law 964 = .ok (.iconst 1, 1) := by decide +kernel
theorem dL_law_965 : decode cL_law 965 = .ok (.iadd, 1) := by decide +kernel
theorem dL_law_966 : decode cL_law 966 = .ok (.iaload, 1) := by decide +kernel
theorem dL_law_967 : decode cL_law 967 = .ok (.aload_n 0, 1) := by decide +kernel
theorem dL_law_968 : decode cL_law 968 = .ok (.iload_n 3, 1) := by decide +kernel
theorem dL_law_969 : decode cL_law 969 = .ok (.iconst 2, 1) := by decide +kernel
theorem dL_law_970 : decode cL_law 970 = .ok (.iadd, 1) := by decide +kernel
theorem dL_law_971 : decode cL_law 971 = .ok (.iaload, 1) := by decide +kernel
theorem dL_law_972 : decode cL_law 972 = .ok (.aload_n 0, 1) := by decide +kernel
theorem dL_law_973 : decode cL_law 973 = .ok (.iload_n 3, 1) := by decide +kernel
theorem dL_law_974 : decode cL_law 974 = .ok (.iconst 3, 1) := by decide +kernel
theorem dL_law_975 : decode cL_law 975 = .ok (.iadd, 1) := by decide +kernel
theorem dL_law_976 : decode cL_law 976 = .ok (.iaload, 1) := by decide +kernel
theorem dL_law_977 : decode cL_law 977 = .ok (.aload_n 0, 1) := by decide +kernel
theorem dL_law_978 : decode cL_law 978 = .ok (.iload_n 3, 1) := by decide +kernel
theorem dL_law_979 : decode cL_law 979 = .ok (.iconst 4, 1) := by decide +kernel
theorem dL_law_980 : decode cL_law 980 = .ok (.iadd, 1) := by decide +kernel
theorem dL_law_981 : decode cL_law 981 = .ok (.iaload, 1) := by decide +kernel
theorem dL_law_982 : decode cL_law 982 = .ok (.aload_n 0, 1) := by decide +kernel
theorem dL_law_983 : decode cL_law 983 = .ok (.iload_n 3, 1) := by decide +kernel
theorem dL_law_984 : decode cL_law 984 = .ok (.iconst 5, 1) := by decide +kernel
theorem dL_law_985 : decode cL_law 985 = .ok (.iadd, 1) := by decide +kernel
theorem dL_law_986 : decode cL_law 986 = .ok (.iaload, 1) := by decide +kernel
theorem dL_law_987 : decode cL_law 987 = .ok (.invokevirtual 133, 3) := by decide +kernel
theorem dL_law_990 : decode cL_law 990 = .ok (.aload_n 2, 1) := by decide +kernel
theorem dL_law_991 : decode cL_law 991 = .ok (.aload_n 0, 1) := by decide +kernel
theorem dL_law_992 : decode cL_law 992 = .ok (.iload_n 3, 1) := by decide +kernel
theorem dL_law_993 : decode cL_law 993 = .ok (.iconst 1, 1) := by decide +kernel
theorem dL_law_994 : decode cL_law 994 = .ok (.iadd, 1) := by decide +kernel
theorem dL_law_995 : decode cL_law 995 = .ok (.iaload, 1) := by decide +kernel
theorem dL_law_996 : decode cL_law 996 = .ok (.aload_n 0, 1) := by decide +kernel
theorem dL_law_997 : decode cL_law 997 = .ok (.iload_n 3, 1) := by decide +kernel
theorem dL_law_998 : decode cL_law 998 = .ok (.iconst 2, 1) := by decide +kernel
theorem dL_law_999 : decode cL_law 999 = .ok (.iadd, 1) := by decide +kernel
theorem dL_law_1000 : decode cL_law 1000 = .ok (.iaload, 1) := by decide +kernel
theorem dL_law_1001 : decode cL_law 1001 = .ok (.aload_n 0, 1) := by decide +kernel
theorem dL_law_1002 : decode cL_law 1002 = .ok (.iload_n 3, 1) := by decide +kernel
theorem dL_law_1003 : decode cL_law 1003 = .ok (.iconst 3, 1) := by decide +kernel
theorem dL_law_1004 : decode cL_law 1004 = .ok (.iadd, 1) := by decide +kernel
theorem dL_law_1005 : decode cL_law 1005 = .ok (.iaload, 1) := by decide +kernel
theorem dL_law_1006 : decode cL_law 1006 = .ok (.aload_n 0, 1) := by decide +kernel
theorem dL_law_1007 : decode cL_law 1007 = .ok (.iload_n 3, 1) := by decide +kernel
theorem dL_law_1008 : decode cL_law 1008 = .ok (.iconst 4, 1) := by decide +kernel
theorem dL_law_1009 : decode cL_law 1009 = .ok (.iadd, 1) := by decide +kernel
theorem dL_law_1010 : decode cL_law 1010 = .ok (.iaload, 1) := by decide +kernel
theorem dL_law_1011 : decode cL_law 1011 = .ok (.aload_n 0, 1) := by decide +kernel
theorem dL_law_1012 : decode cL_law 1012 = .ok (.iload_n 3, 1) := by decide +kernel
theorem dL_law_1013 : decode cL_law 1013 = .ok (.iconst 5, 1) := by decide +kernel
theorem dL_law_1014 : decode cL_law 1014 = .ok (.iadd, 1) := by decide +kernel
theorem dL_law_1015 : decode cL_law 1015 = .ok (.iaload, 1) := by decide +kernel
theorem dL_law_1016 : decode cL_law 1016 = .ok (.invokevirtual 137, 3) := by decide +kernel
theorem dL_law_1019 : decode cL_law 1019 = .ok (.lcmp, 1) := by decide +kernel
theorem dL_law_1020 : decode cL_law 1020 = .ok (.ifCond .eq 203, 3) := by decide +kernel
theorem dL_law_1023 : decode cL_law 1023 = .ok (.iconst 0, 1) := by decide +kernel
theorem dL_law_1024 : decode cL_law 1024 = .ok (.ireturn, 1) := by decide +kernel
theorem dL_law_1025 : decode cL_law 1025 = .ok (.aload_n 1, 1) := by decide +kernel
theorem dL_law_1026 : decode cL_law 1026 = .ok (.aload_n 0, 1) := by decide +kernel
theorem dL_law_1027 : decode cL_law 1027 = .ok (.iload_n 3, 1) := by decide +kernel
theorem dL_law_1028 : decode cL_law 1028 = .ok (.iconst 1, 1) := by decide +kernel
theorem dL_law_1029 : decode cL_law 1029 = .ok (.iadd, 1) := by decide +kernel
theorem dL_law_1030 : decode cL_law 1030 = .ok (.iaload, 1) := by decide +kernel
theorem dL_law_1031 : decode cL_law 1031 = .ok (.invokevirtual 138, 3) := by decide +kernel
theorem dL_law_1034 : decode cL_law 1034 = .ok (.aload_n 2, 1) := by decide +kernel
theorem dL_law_1035 : decode cL_law 1035 = .ok (.aload_n 0, 1) := by decide +kernel
theorem dL_law_1036 : decode cL_law 1036 = .ok (.iload_n 3, 1) := by decide +kernel
theorem dL_law_1037 : decode cL_law 1037 = .ok (.iconst 1, 1) := by decide +kernel
theorem dL_law_1038 : decode cL_law 1038 = .ok (.iadd, 1) := by decide +kernel
theorem dL_law_1039 : decode cL_law 1039 = .ok (.iaload, 1) := by decide +kernel
theorem dL_law_1040 : decode cL_law 1040 = .ok (.invokevirtual 142, 3) := by decide +kernel
theorem dL_law_1043 : decode cL_law 1043 = .ok (.lcmp, 1) := by decide +kernel
theorem dL_law_1044 : decode cL_law 1044 = .ok (.ifCond .eq 179, 3) := by decide +kernel
theorem dL_law_1047 : decode cL_law 1047 = .ok (.iconst 0, 1) := by decide +kernel
theorem dL_law_1048 : decode cL_law 1048 = .ok (.ireturn, 1) := by decide +kernel
theorem dL_law_1049 : decode cL_law 1049 = .ok (.aload_n 1, 1) := by decide +kernel
theorem dL_law_1050 : decode cL_law 1050 = .ok (.aload_n 0, 1) := by decide +kernel
theorem dL_law_1051 : decode cL_law 1051 = .ok (.iload_n 3, 1) := by decide +kernel
theorem dL_law_1052 : decode cL_law 1052 = .ok (.iconst 1, 1) := by decide +kernel
theorem dL_law_1053 : decode cL_law 1053 = .ok (.iadd, 1) := by decide +kernel
theorem dL_law_1054 : decode cL_law 1054 = .ok (.iaload, 1) := by decide +kernel
theorem dL_law_1055 : decode cL_law 1055 = .ok (.aload_n 0, 1) := by decide +kernel
theorem dL_law_1056 : decode cL_law 1056 = .ok (.iload_n 3, 1) := by decide +kernel
theorem dL_law_1057 : decode cL_law 1057 = .ok (.iconst 2, 1) := by decide +kernel
theorem dL_law_1058 : decode cL_law 1058 = .ok (.iadd, 1) := by decide +kernel
theorem dL_law_1059 : decode cL_law 1059 = .ok (.iaload, 1) := by decide +kernel
theorem dL_law_1060 : decode cL_law 1060 = .ok (.invokevirtual 143, 3) := by decide +kernel
theorem dL_law_1063 : decode cL_law 1063 = .ok (.aload_n 2, 1) := by decide +kernel
theorem dL_law_1064 : decode cL_law 1064 = .ok (.aload_n 0, 1) := by decide +kernel
theorem dL_law_1065 : decode cL_law 1065 = .ok (.iload_n 3, 1) := by decide +kernel
theorem dL_law_1066 : decode cL_law 1066 = .ok (.iconst 1, 1) := by decide +kernel
theorem dL_law_1067 : decode cL_law 1067 = .ok (.iadd, 1) := by decide +kernel
theorem dL_law_1068 : decode cL_law 1068 = .ok (.iaload, 1) := by decide +kernel
theorem dL_law_1069 : decode cL_law 1069 = .ok (.aload_n 0, 1) := by decide +kernel
theorem dL_law_1070 : decode cL_law 1070 = .ok (.iload_n 3, 1) := by decide +kernel
theorem dL_law_1071 : decode cL_law 1071 = .ok (.iconst 2, 1) := by decide +kernel
theorem dL_law_1072 : decode cL_law 1072 = .ok (.iadd, 1) := by decide +kernel
theorem dL_law_1073 : decode cL_law 1073 = .ok (.iaload, 1) := by decide +kernel
theorem dL_law_1074 : decode cL_law 1074 = .ok (.invokevirtual 146, 3) := by decide +kernel
theorem dL_law_1077 : decode cL_law 1077 = .ok (.if_icmp .eq 146, 3) := by decide +kernel
theorem dL_law_1080 : decode cL_law 1080 = .ok (.iconst 0, 1) := by decide +kernel
theorem dL_law_1081 : decode cL_law 1081 = .ok (.ireturn, 1) := by decide +kernel
theorem dL_law_1082 : decode cL_law 1082 = .ok (.aload_n 1, 1) := by decide +kernel
theorem dL_law_1083 : decode cL_law 1083 = .ok (.aload_n 0, 1) := by decide +kernel
theorem dL_law_1084 : decode cL_law 1084 = .ok (.iload_n 3, 1) := by decide +kernel
theorem dL_law_1085 : decode cL_law 1085 = .ok (.iconst 1, 1) := by decide +kernel
theorem dL_law_1086 : decode cL_law 1086 = .ok (.iadd, 1) := by decide +kernel
theorem dL_law_1087 : decode cL_law 1087 = .ok (.iaload, 1) := by decide +kernel
theorem dL_law_1088 : decode cL_law 1088 = .ok (.invokevirtual 147, 3) := by decide +kernel
theorem dL_law_1091 : decode cL_law 1091 = .ok (.aload_n 2, 1) := by decide +kernel
theorem dL_law_1092 : decode cL_law 1092 = .ok (.aload_n 0, 1) := by decide +kernel
theorem dL_law_1093 : decode cL_law 1093 = .ok (.iload_n 3, 1) := by decide +kernel
theorem dL_law_1094 : decode cL_law 1094 = .ok (.iconst 1, 1) := by decide +kernel
theorem dL_law_1095 : decode cL_law 1095 = .ok (.iadd, 1) := by decide +kernel
theorem dL_law_1096 : decode cL_law 1096 = .ok (.iaload, 1) := by decide +kernel
theorem dL_law_1097 : decode cL_law 1097 = .ok (.invokevirtual 150, 3) := by decide +kernel
theorem dL_law_1100 : decode cL_law 1100 = .ok (.if_icmp .eq 123, 3) := by decide +kernel
theorem dL_law_1103 : decode cL_law 1103 = .ok (.iconst 0, 1) := by decide +kernel
theorem dL_law_1104 : decode cL_law 1104 = .ok (.ireturn, 1) := by decide +kernel
theorem dL_law_1105 : decode cL_law 1105 = .ok (.aload_n 1, 1) := by decide +kernel
theorem dL_law_1106 : decode cL_law 1106 = .ok (.invokevirtual 151, 3) := by decide +kernel
theorem dL_law_1109 : decode cL_law 1109 = .ok (.aload_n 2, 1) := by decide +kernel
theorem dL_law_1110 : decode cL_law 1110 = .ok (.invokevirtual 154, 3) := by decide +kernel
theorem dL_law_1113 : decode cL_law 1113 = .ok (.if_icmp .eq 110, 3) := by decide +kernel
theorem dL_law_1116 : decode cL_law 1116 = .ok (.iconst 0, 1) := by decide +kernel
theorem dL_law_1117 : decode cL_law 1117 = .ok (.ireturn, 1) := by decide +kernel
theorem dL_law_1118 : decode cL_law 1118 = .ok (.aload_n 1, 1) := by decide +kernel
theorem dL_law_1119 : decode cL_law 1119 = .ok (.invokevirtual 155, 3) := by decide +kernel
theorem dL_law_1122 : decode cL_law 1122 = .ok (.aload_n 2, 1) := by decide +kernel
theorem dL_law_1123 : decode cL_law 1123 = .ok (.invokevirtual 158, 3) := by decide +kernel
theorem dL_law_1126 : decode cL_law 1126 = .ok (.if_icmp .eq 97, 3) := by decide +kernel
theorem dL_law_1129 : decode cL_law 1129 = .ok (.iconst 0, 1) := by decide +kernel
theorem dL_law_1130 : decode cL_law 1130 = .ok (.ireturn, 1) := by decide +kernel
theorem dL_law_1131 : decode cL_law 1131 = .ok (.aload_n 1, 1) := by decide +kernel
theorem dL_law_1132 : decode cL_law 1132 = .ok (.aload_n 0, 1) := by decide +kernel
theorem dL_law_1133 : decode cL_law 1133 = .ok (.iload_n 3, 1) := by decide +kernel
theorem dL_law_1134 : decode cL_law 1134 = .ok (.iconst 1, 1) := by decide +kernel
theorem dL_law_1135 : decode cL_law 1135 = .ok (.iadd, 1) := by decide +kernel
theorem dL_law_1136 : decode cL_law 1136 = .ok (.iaload, 1) := by decide +kernel
theorem dL_law_1137 : decode cL_law 1137 = .ok (.aload_n 0, 1) := by decide +kernel
theorem dL_law_1138 : decode cL_law 1138 = .ok (.iload_n 3, 1) := by decide +kernel
theorem dL_law_1139 : decode cL_law 1139 = .ok (.iconst 2, 1) := by decide +kernel
theorem dL_law_1140 : decode cL_law 1140 = .ok (.iadd, 1) := by decide +kernel
theorem dL_law_1141 : decode cL_law 1141 = .ok (.iaload, 1) := by decide +kernel
theorem dL_law_1142 : decode cL_law 1142 = .ok (.aload_n 0, 1) := by decide +kernel
theorem dL_law_1143 : decode cL_law 1143 = .ok (.iload_n 3, 1) := by decide +kernel
theorem dL_law_1144 : decode cL_law 1144 = .ok (.iconst 3, 1) := by decide +kernel
theorem dL_law_1145 : decode cL_law 1145 = .ok (.iadd, 1) := by decide +kernel
theorem dL_law_1146 : decode cL_law 1146 = .ok (.iaload, 1) := by decide +kernel
theorem dL_law_1147 : decode cL_law 1147 = .ok (.invokevirtual 159, 3) := by decide +kernel
theorem dL_law_1150 : decode cL_law 1150 = .ok (.aload_n 2, 1) := by decide +kernel
theorem dL_law_1151 : decode cL_law 1151 = .ok (.aload_n 0, 1) := by decide +kernel
theorem dL_law_1152 : decode cL_law 1152 = .ok (.iload_n 3, 1) := by decide +kernel
theorem dL_law_1153 : decode cL_law 1153 = .ok (.iconst 1, 1) := by decide +kernel
theorem dL_law_1154 : decode cL_law 1154 = .ok (.iadd, 1) := by decide +kernel
theorem dL_law_1155 : decode cL_law 1155 = .ok (.iaload, 1) := by decide +kernel
theorem dL_law_1156 : decode cL_law 1156 = .ok (.aload_n 0, 1) := by decide +kernel
theorem dL_law_1157 : decode cL_law 1157 = .ok (.iload_n 3, 1) := by decide +kernel
theorem dL_law_1158 : decode cL_law 1158 = .ok (.iconst 2, 1) := by decide +kernel
theorem dL_law_1159 : decode cL_law 1159 = .ok (.iadd, 1) := by decide +kernel
theorem dL_law_1160 : decode cL_law 1160 = .ok (.iaload, 1) := by decide +kernel
theorem dL_law_1161 : decode cL_law 1161 = .ok (.aload_n 0, 1) := by decide +kernel
theorem dL_law_1162 : decode cL_law 1162 = .ok (.iload_n 3, 1) := by decide +kernel
theorem dL_law_1163 : decode cL_law 1163 = .ok (.iconst 3, 1) := by decide +kernel
theorem dL_law_1164 : decode cL_law 1164 = .ok (.iadd, 1) := by decide +kernel
theorem dL_law_1165 : decode cL_law 1165 = .ok (.iaload, 1) := by decide +kernel
theorem dL_law_1166 : decode cL_law 1166 = .ok (.invokevirtual 162, 3) := by decide +kernel
theorem dL_law_1169 : decode cL_law 1169 = .ok (.if_icmp .eq 54, 3) := by decide +kernel
theorem dL_law_1172 : decode cL_law 1172 = .ok (.iconst 0, 1) := by decide +kernel
theorem dL_law_1173 : decode cL_law 1173 = .ok (.ireturn, 1) := by decide +kernel
theorem dL_law_1174 : decode cL_law 1174 = .ok (.aload_n 1, 1) := by decide +kernel
theorem dL_law_1175 : decode cL_law 1175 = .ok (.invokevirtual 163, 3) := by decide +kernel
theorem dL_law_1178 : decode cL_law 1178 = .ok (.aload_n 2, 1) := by decide +kernel
theorem dL_law_1179 : decode cL_law 1179 = .ok (.invokevirtual 166, 3) := by decide +kernel
theorem dL_law_1182 : decode cL_law 1182 = .ok (.if_icmp .eq 41, 3) := by decide +kernel
theorem dL_law_1185 : decode cL_law 1185 = .ok (.iconst 0, 1) := by decide +kernel
theorem dL_law_1186 : decode cL_law 1186 = .ok (.ireturn, 1) := by decide +kernel
theorem dL_law_1187 : decode cL_law 1187 = .ok (.aload_n 1, 1) := by decide +kernel
theorem dL_law_1188 : decode cL_law 1188 = .ok (.invokevirtual 167, 3) := by decide +kernel
theorem dL_law_1191 : decode cL_law 1191 = .ok (.aload_n 2, 1) := by decide +kernel
theorem dL_law_1192 : decode cL_law 1192 = .ok (.invokevirtual 170, 3) := by decide +kernel
theorem dL_law_1195 : decode cL_law 1195 = .ok (.if_icmp .eq 28, 3) := by decide +kernel
theorem dL_law_1198 : decode cL_law 1198 = .ok (.iconst 0, 1) := by decide +kernel
theorem dL_law_1199 : decode cL_law 1199 = .ok (.ireturn, 1) := by decide +kernel
theorem dL_law_1200 : decode cL_law 1200 = .ok (.aload_n 1, 1) := by decide +kernel
theorem dL_law_1201 : decode cL_law 1201 = .ok (.aload_n 0, 1) := by decide +kernel
theorem dL_law_1202 : decode cL_law 1202 = .ok (.iload_n 3, 1) := by decide +kernel
theorem dL_law_1203 : decode cL_law 1203 = .ok (.iconst 1, 1) := by decide +kernel
theorem dL_law_1204 : decode cL_law 1204 = .ok (.iadd, 1) := by decide +kernel
theorem dL_law_1205 : decode cL_law 1205 = .ok (.iaload, 1) := by decide +kernel
theorem dL_law_1206 : decode cL_law 1206 = .ok (.invokevirtual 171, 3) := by decide +kernel
theorem dL_law_1209 : decode cL_law 1209 = .ok (.aload_n 2, 1) := by decide +kernel
theorem dL_law_1210 : decode cL_law 1210 = .ok (.aload_n 0, 1) := by decide +kernel
theorem dL_law_1211 : decode cL_law 1211 = .ok (.iload_n 3, 1) := by decide +kernel
theorem dL_law_1212 : decode cL_law 1212 = .ok (.iconst 1, 1) := by decide +kernel
theorem dL_law_1213 : decode cL_law 1213 = .ok (.iadd, 1) := by decide +kernel
theorem dL_law_1214 : decode cL_law 1214 = .ok (.iaload, 1) := by decide +kernel
theorem dL_law_1215 : decode cL_law 1215 = .ok (.invokevirtual 174, 3) := by decide +kernel
theorem dL_law_1218 : decode cL_law 1218 = .ok (.if_icmp .eq 5, 3) := by decide +kernel
theorem dL_law_1221 : decode cL_law 1221 = .ok (.iconst 0, 1) := by decide +kernel
theorem dL_law_1222 : decode cL_law 1222 = .ok (.ireturn, 1) := by decide +kernel
theorem dL_law_1223 : decode cL_law 1223 = .ok (.iinc 3 6, 3) := by decide +kernel
theorem dL_law_1226 : decode cL_law 1226 = .ok (.goto (-1208), 3) := by decide +kernel
theorem dL_law_1229 : decode cL_law 1229 = .ok (.iconst 1, 1) := by decide +kernel
theorem dL_law_1230 : decode cL_law 1230 = .ok (.ireturn, 1) := by decide +kernel
