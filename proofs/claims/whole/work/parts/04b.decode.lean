theorem dX3_restingCouples_8 : decode cX3_restingCouples 8 = .ok (.iload_n 1, 1) := by decide +kernel
theorem dX3_restingCouples_9 : decode cX3_restingCouples 9 = .ok (.iload_n 3, 1) := by decide +kernel
theorem dX3_restingCouples_10 : decode cX3_restingCouples 10 = .ok (.invokevirtual 109, 3) := by decide +kernel
theorem dX3_restingCouples_13 : decode cX3_restingCouples 13 = .ok (.istore 5, 2) := by decide +kernel
theorem dX3_restingCouples_15 : decode cX3_restingCouples 15 = .ok (.aload_n 0, 1) := by decide +kernel
theorem dX3_restingCouples_16 : decode cX3_restingCouples 16 = .ok (.getfield 19, 3) := by decide +kernel
theorem dX3_restingCouples_19 : decode cX3_restingCouples 19 = .ok (.aload_n 0, 1) := by decide +kernel
theorem dX3_restingCouples_20 : decode cX3_restingCouples 20 = .ok (.getfield 23, 3) := by decide +kernel
theorem dX3_restingCouples_23 : decode cX3_restingCouples 23 = .ok (.iload_n 2, 1) := by decide +kernel
theorem dX3_restingCouples_24 : decode cX3_restingCouples 24 = .ok (.iload_n 3, 1) := by decide +kernel
theorem dX3_restingCouples_25 : decode cX3_restingCouples 25 = .ok (.invokevirtual 109, 3) := by decide +kernel
theorem dX3_restingCouples_28 : decode cX3_restingCouples 28 = .ok (.istore 6, 2) := by decide +kernel
theorem dX3_restingCouples_30 : decode cX3_restingCouples 30 = .ok (.aload_n 0, 1) := by decide +kernel
theorem dX3_restingCouples_31 : decode cX3_restingCouples 31 = .ok (.getfield 15, 3) := by decide +kernel
theorem dX3_restingCouples_34 : decode cX3_restingCouples 34 = .ok (.getfield 113, 3) := by decide +kernel
theorem dX3_restingCouples_37 : decode cX3_restingCouples 37 = .ok (.iload_n 1, 1) := by decide +kernel
theorem dX3_restingCouples_38 : decode cX3_restingCouples 38 = .ok (.iaload, 1) := by decide +kernel
theorem dX3_restingCouples_39 : decode cX3_restingCouples 39 = .ok (.istore 7, 2) := by decide +kernel
theorem dX3_restingCouples_41 : decode cX3_restingCouples 41 = .ok (.aload_n 0, 1) := by decide +kernel
theorem dX3_restingCouples_42 : decode cX3_restingCouples 42 = .ok (.getfield 15, 3) := by decide +kernel
theorem dX3_restingCouples_45 : decode cX3_restingCouples 45 = .ok (.getfield 113, 3) := by decide +kernel
theorem dX3_restingCouples_48 : decode cX3_restingCouples 48 = .ok (.iload_n 2, 1) := by decide +kernel
theorem dX3_restingCouples_49 : decode cX3_restingCouples 49 = .ok (.iaload, 1) := by decide +kernel
theorem dX3_restingCouples_50 : decode cX3_restingCouples 50 = .ok (.istore 8, 2) := by decide +kernel
theorem dX3_restingCouples_52 : decode cX3_restingCouples 52 = .ok (.iconst 0, 1) := by decide +kernel
theorem dX3_restingCouples_53 : decode cX3_restingCouples 53 = .ok (.istore 9, 2) := by decide +kernel
theorem dX3_restingCouples_55 : decode cX3_restingCouples 55 = .ok (.iconst 0, 1) := by decide +kernel
theorem dX3_restingCouples_56 : decode cX3_restingCouples 56 = .ok (.istore 10, 2) := by decide +kernel
theorem dX3_restingCouples_58 : decode cX3_restingCouples 58 = .ok (.iload 10, 2) := by decide +kernel
theorem dX3_restingCouples_60 : decode cX3_restingCouples 60 = .ok (.iconst 1, 1) := by decide +kernel
theorem dX3_restingCouples_61 : decode cX3_restingCouples 61 = .ok (.if_icmp .gt 95, 3) := by decide +kernel
theorem dX3_restingCouples_64 : decode cX3_restingCouples 64 = .ok (.iconst 0, 1) := by decide +kernel
theorem dX3_restingCouples_65 : decode cX3_restingCouples 65 = .ok (.istore 11, 2) := by decide +kernel
theorem dX3_restingCouples_67 : decode cX3_restingCouples 67 = .ok (.iload 11, 2) := by decide +kernel
theorem dX3_restingCouples_69 : decode cX3_restingCouples 69 = .ok (.iconst 1, 1) := by decide +kernel
theorem dX3_restingCouples_70 : decode cX3_restingCouples 70 = .ok (.if_icmp .gt 80, 3) := by decide +kernel
theorem dX3_restingCouples_73 : decode cX3_restingCouples 73 = .ok (.iload 10, 2) := by decide +kernel
theorem dX3_restingCouples_75 : decode cX3_restingCouples 75 = .ok (.iload 11, 2) := by decide +kernel
theorem dX3_restingCouples_77 : decode cX3_restingCouples 77 = .ok (.iload 5, 2) := by decide +kernel
theorem dX3_restingCouples_79 : decode cX3_restingCouples 79 = .ok (.iload 7, 2) := by decide +kernel
theorem dX3_restingCouples_81 : decode cX3_restingCouples 81 = .ok (.invokestatic 116, 3) := by decide +kernel
theorem dX3_restingCouples_84 : decode cX3_restingCouples 84 = .ok (.iconst 1, 1) := by decide +kernel
theorem dX3_restingCouples_85 : decode cX3_restingCouples 85 = .ok (.iload 10, 2) := by decide +kernel
theorem dX3_restingCouples_87 : decode cX3_restingCouples 87 = .ok (.isub, 1) := by decide +kernel
theorem dX3_restingCouples_88 : decode cX3_restingCouples 88 = .ok (.iload 11, 2) := by decide +kernel
theorem dX3_restingCouples_90 : decode cX3_restingCouples 90 = .ok (.iload 5, 2) := by decide +kernel
theorem dX3_restingCouples_92 : decode cX3_restingCouples 92 = .ok (.iload 7, 2) := by decide +kernel
theorem dX3_restingCouples_94 : decode cX3_restingCouples 94 = .ok (.invokestatic 116, 3) := by decide +kernel
theorem dX3_restingCouples_97 : decode cX3_restingCouples 97 = .ok (.if_icmp .lt 47, 3) := by decide +kernel
theorem dX3_restingCouples_100 : decode cX3_restingCouples 100 = .ok (.iload 11, 2) := by decide +kernel
theorem dX3_restingCouples_102 : decode cX3_restingCouples 102 = .ok (.iload 10, 2) := by decide +kernel
theorem dX3_restingCouples_104 : decode cX3_restingCouples 104 = .ok (.iload 6, 2) := by decide +kernel
theorem dX3_restingCouples_106 : decode cX3_restingCouples 106 = .ok (.iload 8, 2) := by decide +kernel
theorem dX3_restingCouples_108 : decode cX3_restingCouples 108 = .ok (.invokestatic 116, 3) := by decide +kernel
theorem dX3_restingCouples_111 : decode cX3_restingCouples 111 = .ok (.iconst 1, 1) := by decide +kernel
theorem dX3_restingCouples_112 : decode cX3_restingCouples 112 = .ok (.iload 11, 2) := by decide +kernel
theorem dX3_restingCouples_114 : decode cX3_restingCouples 114 = .ok (.isub, 1) := by decide +kernel
theorem dX3_restingCouples_115 : decode cX3_restingCouples 115 = .ok (.iload 10, 2) := by decide +kernel
theorem dX3_restingCouples_117 : decode cX3_restingCouples 117 = .ok (.iload 6, 2) := by decide +kernel
theorem dX3_restingCouples_119 : decode cX3_restingCouples 119 = .ok (.iload 8, 2) := by decide +kernel
theorem dX3_restingCouples_121 : decode cX3_restingCouples 121 = .ok (.invokestatic 116, 3) := by decide +kernel
theorem dX3_restingCouples_124 : decode cX3_restingCouples 124 = .ok (.if_icmp .lt 20, 3) := by decide +kernel
theorem dX3_restingCouples_127 : decode cX3_restingCouples 127 = .ok (.iload 4, 2) := by decide +kernel
theorem dX3_restingCouples_129 : decode cX3_restingCouples 129 = .ok (.ifCond .eq 12, 3) := by decide +kernel
theorem dX3_restingCouples_132 : decode cX3_restingCouples 132 = .ok (.bipush 10, 2) := by decide +kernel
theorem dX3_restingCouples_134 : decode cX3_restingCouples 134 = .ok (.iload 10, 2) := by decide +kernel
theorem dX3_restingCouples_136 : decode cX3_restingCouples 136 = .ok (.imul, 1) := by decide +kernel
theorem dX3_restingCouples_137 : decode cX3_restingCouples 137 = .ok (.iload 11, 2) := by decide +kernel
theorem dX3_restingCouples_139 : decode cX3_restingCouples 139 = .ok (.iadd, 1) := by decide +kernel
theorem dX3_restingCouples_140 : decode cX3_restingCouples 140 = .ok (.ireturn, 1) := by decide +kernel
theorem dX3_restingCouples_141 : decode cX3_restingCouples 141 = .ok (.iinc 9 1, 3) := by decide +kernel
theorem dX3_restingCouples_144 : decode cX3_restingCouples 144 = .ok (.iinc 11 1, 3) := by decide +kernel
theorem dX3_restingCouples_147 : decode cX3_restingCouples 147 = .ok (.goto (-80), 3) := by decide +kernel
theorem dX3_restingCouples_150 : decode cX3_restingCouples 150 = .ok (.iinc 10 1, 3) := by decide +kernel
theorem dX3_restingCouples_153 : decode cX3_restingCouples 153 = .ok (.goto (-95), 3) := by decide +kernel
theorem dX3_restingCouples_156 : decode cX3_restingCouples 156 = .ok (.iload 4, 2) := by decide +kernel
theorem dX3_restingCouples_158 : decode cX3_restingCouples 158 = .ok (.ifCond .eq 7, 3) := by decide +kernel
theorem dX3_restingCouples_161 : decode cX3_restingCouples 161 = .ok (.iconst (-1), 1) := by decide +kernel
theorem dX3_restingCouples_162 : decode cX3_restingCouples 162 = .ok (.goto 5, 3) := by decide +kernel
theorem dX3_restingCouples_165 : decode cX3_restingCouples 165 = .ok (.iload 9, 2) := by decide +kernel
theorem dX3_restingCouples_167 : decode cX3_restingCouples 167 = .ok (.ireturn, 1) := by decide +kernel
theorem dX3_gain_0 : decode cX3_gain 0 = .ok (.iload_n 0, 1) := by decide +kernel
theorem dX3_gain_1 : decode cX3_gain 1 = .ok (.iconst 1, 1) := by decide +kernel
theorem dX3_gain_2 : decode cX3_gain 2 = .ok (.if_icmp .ne 5, 3) := by decide +kernel
theorem dX3_gain_5 : decode cX3_gain 5 = .ok (.iconst 0, 1) := by decide +kernel
theorem dX3_gain_6 : decode cX3_gain 6 = .ok (.ireturn, 1) := by decide +kernel
theorem dX3_gain_7 : decode cX3_gain 7 = .ok (.iload_n 2, 1) := by decide +kernel
theorem dX3_gain_8 : decode cX3_gain 8 = .ok (.ifCond .ne 5, 3) := by decide +kernel
theorem dX3_gain_11 : decode cX3_gain 11 = .ok (.iconst (-1), 1) := by decide +kernel
theorem dX3_gain_12 : decode cX3_gain 12 = .ok (.ireturn, 1) := by decide +kernel
theorem dX3_gain_13 : decode cX3_gain 13 = .ok (.iload_n 1, 1) := by decide +kernel
theorem dX3_gain_14 : decode cX3_gain 14 = .ok (.iconst 1, 1) := by decide +kernel
theorem dX3_gain_15 : decode cX3_gain 15 = .ok (.if_icmp .ne 9, 3) := by decide +kernel
theorem dX3_gain_18 : decode cX3_gain 18 = .ok (.iconst 2, 1) := by decide +kernel
theorem dX3_gain_19 : decode cX3_gain 19 = .ok (.iload_n 3, 1) := by decide +kernel
theorem dX3_gain_20 : decode cX3_gain 20 = .ok (.imul, 1) := by decide +kernel
theorem dX3_gain_21 : decode cX3_gain 21 = .ok (.goto 4, 3) := by decide +kernel
theorem dX3_gain_24 : decode cX3_gain 24 = .ok (.iload_n 3, 1) := by decide +kernel
theorem dX3_gain_25 : decode cX3_gain 25 = .ok (.ireturn, 1) := by decide +kernel
theorem dX4_init_0 : decode cX4_init 0 = .ok (.aload_n 0, 1) := by decide +kernel
theorem dX4_init_1 : decode cX4_init 1 = .ok (.invokespecial 3, 3) := by decide +kernel
theorem dX4_init_4 : decode cX4_init 4 = .ok (.aload_n 0, 1) := by decide +kernel
theorem dX4_init_5 : decode cX4_init 5 = .ok (.new 9, 3) := by decide +kernel
theorem dX4_init_8 : decode cX4_init 8 = .ok (.dup, 1) := by decide +kernel
theorem dX4_init_9 : decode cX4_init 9 = .ok (.invokespecial 11, 3) := by decide +kernel
theorem dX4_init_12 : decode cX4_init 12 = .ok (.putfield 12, 3) := by decide +kernel
theorem dX4_init_15 : decode cX4_init 15 = .ok (.aload_n 0, 1) := by decide +kernel
theorem dX4_init_16 : decode cX4_init 16 = .ok (.bipush 25, 2) := by decide +kernel
theorem dX4_init_18 : decode cX4_init 18 = .ok (.newarray .int, 2) := by decide +kernel
theorem dX4_init_20 : decode cX4_init 20 = .ok (.putfield 18, 3) := by decide +kernel
theorem dX4_init_23 : decode cX4_init 23 = .ok (.aload_n 0, 1) := by decide +kernel
theorem dX4_init_24 : decode cX4_init 24 = .ok (.aload_n 1, 1) := by decide +kernel
theorem dX4_init_25 : decode cX4_init 25 = .ok (.putfield 22, 3) := by decide +kernel
theorem dX4_init_28 : decode cX4_init 28 = .ok (.aload_n 0, 1) := by decide +kernel
theorem dX4_init_29 : decode cX4_init 29 = .ok (.aload_n 2, 1) := by decide +kernel
theorem dX4_init_30 : decode cX4_init 30 = .ok (.putfield 26, 3) := by decide +kernel
theorem dX4_init_33 : decode cX4_init 33 = .ok (.aload_n 0, 1) := by decide +kernel
theorem dX4_init_34 : decode cX4_init 34 = .ok (.aload_n 3, 1) := by decide +kernel
theorem dX4_init_35 : decode cX4_init 35 = .ok (.putfield 30, 3) := by decide +kernel
theorem dX4_init_38 : decode cX4_init 38 = .ok (.return_, 1) := by decide +kernel
theorem dX4_townAfter_0 : decode cX4_townAfter 0 = .ok (.aload_n 0, 1) := by decide +kernel
theorem dX4_townAfter_1 : decode cX4_townAfter 1 = .ok (.getfield 12, 3) := by decide +kernel
theorem dX4_townAfter_4 : decode cX4_townAfter 4 = .ok (.aload_n 0, 1) := by decide +kernel
theorem dX4_townAfter_5 : decode cX4_townAfter 5 = .ok (.getfield 30, 3) := by decide +kernel
theorem dX4_townAfter_8 : decode cX4_townAfter 8 = .ok (.invokevirtual 33, 3) := by decide +kernel
theorem dX4_townAfter_11 : decode cX4_townAfter 11 = .ok (.iconst 0, 1) := by decide +kernel
theorem dX4_townAfter_12 : decode cX4_townAfter 12 = .ok (.istore_n 3, 1) := by decide +kernel
theorem dX4_townAfter_13 : decode cX4_townAfter 13 = .ok (.iload_n 3, 1) := by decide +kernel
theorem dX4_townAfter_14 : decode cX4_townAfter 14 = .ok (.iload_n 1, 1) := by decide +kernel
theorem dX4_townAfter_15 : decode cX4_townAfter 15 = .ok (.if_icmp .ge 22, 3) := by decide +kernel
theorem dX4_townAfter_18 : decode cX4_townAfter 18 = .ok (.aload_n 0, 1) := by decide +kernel
theorem dX4_townAfter_19 : decode cX4_townAfter 19 = .ok (.getfield 26, 3) := by decide +kernel
theorem dX4_townAfter_22 : decode cX4_townAfter 22 = .ok (.aload_n 0, 1) := by decide +kernel
theorem dX4_townAfter_23 : decode cX4_townAfter 23 = .ok (.getfield 12, 3) := by decide +kernel
theorem dX4_townAfter_26 : decode cX4_townAfter 26 = .ok (.iload_n 2, 1) := by decide +kernel
theorem dX4_townAfter_27 : decode cX4_townAfter 27 = .ok (.invokevirtual 37, 3) := by decide +kernel
theorem dX4_townAfter_30 : decode cX4_townAfter 30 = .ok (.pop, 1) := by decide +kernel
theorem dX4_townAfter_31 : decode cX4_townAfter 31 = .ok (.iinc 3 1, 3) := by decide +kernel
theorem dX4_townAfter_34 : decode cX4_townAfter 34 = .ok (.goto (-21), 3) := by decide +kernel
theorem dX4_townAfter_37 : decode cX4_townAfter 37 = .ok (.aload_n 0, 1) := by decide +kernel
theorem dX4_townAfter_38 : decode cX4_townAfter 38 = .ok (.getfield 12, 3) := by decide +kernel
theorem dX4_townAfter_41 : decode cX4_townAfter 41 = .ok (.areturn, 1) := by decide +kernel
theorem dX4_townForeseen_0 : decode cX4_townForeseen 0 = .ok (.aload_n 0, 1) := by decide +kernel
theorem dX4_townForeseen_1 : decode cX4_townForeseen 1 = .ok (.getfield 12, 3) := by decide +kernel
theorem dX4_townForeseen_4 : decode cX4_townForeseen 4 = .ok (.areturn, 1) := by decide +kernel
theorem dX4_saidInHour_0 : decode cX4_saidInHour 0 = .ok (.aload_n 0, 1) := by decide +kernel
theorem dX4_saidInHour_1 : decode cX4_saidInHour 1 = .ok (.getfield 12, 3) := by decide +kernel
theorem dX4_saidInHour_4 : decode cX4_saidInHour 4 = .ok (.aload_n 0, 1) := by decide +kernel
theorem dX4_saidInHour_5 : decode cX4_saidInHour 5 = .ok (.getfield 30, 3) := by decide +kernel
theorem dX4_saidInHour_8 : decode cX4_saidInHour 8 = .ok (.invokevirtual 33, 3) := by decide +kernel
theorem dX4_saidInHour_11 : decode cX4_saidInHour 11 = .ok (.iconst (-1), 1) := by decide +kernel
theorem dX4_saidInHour_12 : decode cX4_saidInHour 12 = .ok (.istore_n 2, 1) := by decide +kernel
theorem dX4_saidInHour_13 : decode cX4_saidInHour 13 = .ok (.iconst 0, 1) := by decide +kernel
theorem dX4_saidInHour_14 : decode cX4_saidInHour 14 = .ok (.istore_n 3, 1) := by decide +kernel
theorem dX4_saidInHour_15 : decode cX4_saidInHour 15 = .ok (.iload_n 3, 1) := by decide +kernel
theorem dX4_saidInHour_16 : decode cX4_saidInHour 16 = .ok (.iload_n 1, 1) := by decide +kernel
theorem dX4_saidInHour_17 : decode cX4_saidInHour 17 = .ok (.if_icmp .ge 21, 3) := by decide +kernel
theorem dX4_saidInHour_20 : decode cX4_saidInHour 20 = .ok (.aload_n 0, 1) := by decide +kernel
theorem dX4_saidInHour_21 : decode cX4_saidInHour 21 = .ok (.getfield 26, 3) := by decide +kernel
theorem dX4_saidInHour_24 : decode cX4_saidInHour 24 = .ok (.aload_n 0, 1) := by decide +kernel
theorem dX4_saidInHour_25 : decode cX4_saidInHour 25 = .ok (.getfield 12, 3) := by decide +kernel
theorem dX4_saidInHour_28 : decode cX4_saidInHour 28 = .ok (.invokevirtual 43, 3) := by decide +kernel
theorem dX4_saidInHour_31 : decode cX4_saidInHour 31 = .ok (.istore_n 2, 1) := by decide +kernel
theorem dX4_saidInHour_32 : decode cX4_saidInHour 32 = .ok (.iinc 3 1, 3) := by decide +kernel
theorem dX4_saidInHour_35 : decode cX4_saidInHour 35 = .ok (.goto (-20), 3) := by decide +kernel
theorem dX4_saidInHour_38 : decode cX4_saidInHour 38 = .ok (.iload_n 2, 1) := by decide +kernel
theorem dX4_saidInHour_39 : decode cX4_saidInHour 39 = .ok (.ireturn, 1) := by decide +kernel
theorem dX4_hourOfPassing_0 : decode cX4_hourOfPassing 0 = .ok (.aload_n 0, 1) := by decide +kernel
theorem dX4_hourOfPassing_1 : decode cX4_hourOfPassing 1 = .ok (.getfield 12, 3) := by decide +kernel
theorem dX4_hourOfPassing_4 : decode cX4_hourOfPassing 4 = .ok (.aload_n 0, 1) := by decide +kernel
theorem dX4_hourOfPassing_5 : decode cX4_hourOfPassing 5 = .ok (.getfield 30, 3) := by decide +kernel
theorem dX4_hourOfPassing_8 : decode cX4_hourOfPassing 8 = .ok (.invokevirtual 33, 3) := by decide +kernel
theorem dX4_hourOfPassing_11 : decode cX4_hourOfPassing 11 = .ok (.iconst 1, 1) := by decide +kernel
theorem dX4_hourOfPassing_12 : decode cX4_hourOfPassing 12 = .ok (.istore_n 3, 1) := by decide +kernel
theorem dX4_hourOfPassing_13 : decode cX4_hourOfPassing 13 = .ok (.iload_n 3, 1) := by decide +kernel
theorem dX4_hourOfPassing_14 : decode cX4_hourOfPassing 14 = .ok (.iload_n 2, 1) := by decide +kernel
theorem dX4_hourOfPassing_15 : decode cX4_hourOfPassing 15 = .ok (.if_icmp .gt 35, 3) := by decide +kernel
theorem dX4_hourOfPassing_18 : decode cX4_hourOfPassing 18 = .ok (.aload_n 0, 1) := by decide +kernel
theorem dX4_hourOfPassing_19 : decode cX4_hourOfPassing 19 = .ok (.getfield 26, 3) := by decide +kernel
theorem dX4_hourOfPassing_22 : decode cX4_hourOfPassing 22 = .ok (.aload_n 0, 1) := by decide +kernel
theorem dX4_hourOfPassing_23 : decode cX4_hourOfPassing 23 = .ok (.getfield 12, 3) := by decide +kernel
theorem dX4_hourOfPassing_26 : decode cX4_hourOfPassing 26 = .ok (.iconst (-1), 1) := by decide +kernel
theorem dX4_hourOfPassing_27 : decode cX4_hourOfPassing 27 = .ok (.invokevirtual 37, 3) := by decide +kernel
theorem dX4_hourOfPassing_30 : decode cX4_hourOfPassing 30 = .ok (.pop, 1) := by decide +kernel
theorem dX4_hourOfPassing_31 : decode cX4_hourOfPassing 31 = .ok (.aload_n 0, 1) := by decide +kernel
theorem dX4_hourOfPassing_32 : decode cX4_hourOfPassing 32 = .ok (.getfield 12, 3) := by decide +kernel
theorem dX4_hourOfPassing_35 : decode cX4_hourOfPassing 35 = .ok (.iload_n 1, 1) := by decide +kernel
theorem dX4_hourOfPassing_36 : decode cX4_hourOfPassing 36 = .ok (.invokevirtual 47, 3) := by decide +kernel
theorem dX4_hourOfPassing_39 : decode cX4_hourOfPassing 39 = .ok (.ifCond .eq 5, 3) := by decide +kernel
theorem dX4_hourOfPassing_42 : decode cX4_hourOfPassing 42 = .ok (.iload_n 3, 1) := by decide +kernel
theorem dX4_hourOfPassing_43 : decode cX4_hourOfPassing 43 = .ok (.ireturn, 1) := by decide +kernel
theorem dX4_hourOfPassing_44 : decode cX4_hourOfPassing 44 = .ok (.iinc 3 1, 3) := by decide +kernel
theorem dX4_hourOfPassing_47 : decode cX4_hourOfPassing 47 = .ok (.goto (-34), 3) := by decide +kernel
theorem dX4_hourOfPassing_50 : decode cX4_hourOfPassing 50 = .ok (.iconst (-1), 1) := by decide +kernel
theorem dX4_hourOfPassing_51 : decode cX4_hourOfPassing 51 = .ok (.ireturn, 1) := by decide +kernel
theorem dX4_soonestPassing_0 : decode cX4_soonestPassing 0 = .ok (.aload_n 0, 1) := by decide +kernel
theorem dX4_soonestPassing_1 : decode cX4_soonestPassing 1 = .ok (.getfield 12, 3) := by decide +kernel
theorem dX4_soonestPassing_4 : decode cX4_soonestPassing 4 = .ok (.aload_n 0, 1) := by decide +kernel
theorem dX4_soonestPassing_5 : decode cX4_soonestPassing 5 = .ok (.getfield 30, 3) := by decide +kernel
theorem dX4_soonestPassing_8 : decode cX4_soonestPassing 8 = .ok (.invokevirtual 33, 3) := by decide +kernel
theorem dX4_soonestPassing_11 : decode cX4_soonestPassing 11 = .ok (.iconst 1, 1) := by decide +kernel
theorem dX4_soonestPassing_12 : decode cX4_soonestPassing 12 = .ok (.istore_n 3, 1) := by decide +kernel
theorem dX4_soonestPassing_13 : decode cX4_soonestPassing 13 = .ok (.iload_n 3, 1) := by decide +kernel
theorem dX4_soonestPassing_14 : decode cX4_soonestPassing 14 = .ok (.iload_n 2, 1) := by decide +kernel
theorem dX4_soonestPassing_15 : decode cX4_soonestPassing 15 = .ok (.if_icmp .gt 55, 3) := by decide +kernel
theorem dX4_soonestPassing_18 : decode cX4_soonestPassing 18 = .ok (.aload_n 0, 1) := by decide +kernel
theorem dX4_soonestPassing_19 : decode cX4_soonestPassing 19 = .ok (.getfield 12, 3) := by decide +kernel
theorem dX4_soonestPassing_22 : decode cX4_soonestPassing 22 = .ok (.getfield 51, 3) := by decide +kernel
theorem dX4_soonestPassing_25 : decode cX4_soonestPassing 25 = .ok (.iload_n 1, 1) := by decide +kernel
theorem dX4_soonestPassing_26 : decode cX4_soonestPassing 26 = .ok (.aload_n 0, 1) := by decide +kernel
theorem dX4_soonestPassing_27 : decode cX4_soonestPassing 27 = .ok (.getfield 26, 3) := by decide +kernel
theorem dX4_soonestPassing_30 : decode cX4_soonestPassing 30 = .ok (.aload_n 0, 1) := by decide +kernel
theorem dX4_soonestPassing_31 : decode cX4_soonestPassing 31 = .ok (.getfield 12, 3) := by decide +kernel
theorem dX4_soonestPassing_34 : decode cX4_soonestPassing 34 = .ok (.invokevirtual 54, 3) := by decide +kernel
theorem dX4_soonestPassing_37 : decode cX4_soonestPassing 37 = .ok (.iastore, 1) := by decide +kernel
theorem dX4_soonestPassing_38 : decode cX4_soonestPassing 38 = .ok (.aload_n 0, 1) := by decide +kernel
theorem dX4_soonestPassing_39 : decode cX4_soonestPassing 39 = .ok (.getfield 26, 3) := by decide +kernel
theorem dX4_soonestPassing_42 : decode cX4_soonestPassing 42 = .ok (.aload_n 0, 1) := by decide +kernel
theorem dX4_soonestPassing_43 : decode cX4_soonestPassing 43 = .ok (.getfield 12, 3) := by decide +kernel
theorem dX4_soonestPassing_46 : decode cX4_soonestPassing 46 = .ok (.iconst (-1), 1) := by decide +kernel
theorem dX4_soonestPassing_47 : decode cX4_soonestPassing 47 = .ok (.invokevirtual 37, 3) := by decide +kernel
theorem dX4_soonestPassing_50 : decode cX4_soonestPassing 50 = .ok (.pop, 1) := by decide +kernel
theorem dX4_soonestPassing_51 : decode cX4_soonestPassing 51 = .ok (.aload_n 0, 1) := by decide +kernel
theorem dX4_soonestPassing_52 : decode cX4_soonestPassing 52 = .ok (.getfield 12, 3) := by decide +kernel
theorem dX4_soonestPassing_55 : decode cX4_soonestPassing 55 = .ok (.iload_n 1, 1) := by decide +kernel
theorem dX4_soonestPassing_56 : decode cX4_soonestPassing 56 = .ok (.invokevirtual 47, 3) := by decide +kernel
theorem dX4_soonestPassing_59 : decode cX4_soonestPassing 59 = .ok (.ifCond .eq 5, 3) := by decide +kernel
theorem dX4_soonestPassing_62 : decode cX4_soonestPassing 62 = .ok (.iload_n 3, 1) := by decide +kernel
theorem dX4_soonestPassing_63 : decode cX4_soonestPassing 63 = .ok (.ireturn, 1) := by decide +kernel
theorem dX4_soonestPassing_64 : decode cX4_soonestPassing 64 = .ok (.iinc 3 1, 3) := by decide +kernel
theorem dX4_soonestPassing_67 : decode cX4_soonestPassing 67 = .ok (.goto (-54), 3) := by decide +kernel
theorem dX4_soonestPassing_70 : decode cX4_soonestPassing 70 = .ok (.iconst (-1), 1) := by decide +kernel
theorem dX4_soonestPassing_71 : decode cX4_soonestPassing 71 = .ok (.ireturn, 1) := by decide +kernel
theorem dX4_firstSilentHour_0 : decode cX4_firstSilentHour 0 = .ok (.aload_n 0, 1) := by decide +kernel
theorem dX4_firstSilentHour_1 : decode cX4_firstSilentHour 1 = .ok (.getfield 12, 3) := by decide +kernel
theorem dX4_firstSilentHour_4 : decode cX4_firstSilentHour 4 = .ok (.aload_n 0, 1) := by decide +kernel
theorem dX4_firstSilentHour_5 : decode cX4_firstSilentHour 5 = .ok (.getfield 30, 3) := by decide +kernel
theorem dX4_firstSilentHour_8 : decode cX4_firstSilentHour 8 = .ok (.invokevirtual 33, 3) := by decide +kernel
theorem dX4_firstSilentHour_11 : decode cX4_firstSilentHour 11 = .ok (.iconst 1, 1) := by decide +kernel
theorem dX4_firstSilentHour_12 : decode cX4_firstSilentHour 12 = .ok (.istore_n 1, 1) := by decide +kernel
theorem dX4_firstSilentHour_13 : decode cX4_firstSilentHour 13 = .ok (.iload_n 1, 1) := by decide +kernel
theorem dX4_firstSilentHour_14 : decode cX4_firstSilentHour 14 = .ok (.bipush 96, 2) := by decide +kernel
theorem dX4_firstSilentHour_16 : decode cX4_firstSilentHour 16 = .ok (.if_icmp .gt 26, 3) := by decide +kernel
theorem dX4_firstSilentHour_19 : decode cX4_firstSilentHour 19 = .ok (.aload_n 0, 1) := by decide +kernel
theorem dX4_firstSilentHour_20 : decode cX4_firstSilentHour 20 = .ok (.getfield 26, 3) := by decide +kernel
theorem dX4_firstSilentHour_23 : decode cX4_firstSilentHour 23 = .ok (.aload_n 0, 1) := by decide +kernel
theorem dX4_firstSilentHour_24 : decode cX4_firstSilentHour 24 = .ok (.getfield 12, 3) := by decide +kernel
theorem dX4_firstSilentHour_27 : decode cX4_firstSilentHour 27 = .ok (.invokevirtual 43, 3) := by decide +kernel
theorem dX4_firstSilentHour_30 : decode cX4_firstSilentHour 30 = .ok (.iconst (-1), 1) := by decide +kernel
theorem dX4_firstSilentHour_31 : decode cX4_firstSilentHour 31 = .ok (.if_icmp .ne 5, 3) := by decide +kernel
theorem dX4_firstSilentHour_34 : decode cX4_firstSilentHour 34 = .ok (.iload_n 1, 1) := by decide +kernel
theorem dX4_firstSilentHour_35 : decode cX4_firstSilentHour 35 = .ok (.ireturn, 1) := by decide +kernel
theorem dX4_firstSilentHour_36 : decode cX4_firstSilentHour 36 = .ok (.iinc 1 1, 3) := by decide +kernel
theorem dX4_firstSilentHour_39 : decode cX4_firstSilentHour 39 = .ok (.goto (-26), 3) := by decide +kernel
theorem dX4_firstSilentHour_42 : decode cX4_firstSilentHour 42 = .ok (.iconst (-1), 1) := by decide +kernel
theorem dX4_firstSilentHour_43 : decode cX4_firstSilentHour 43 = .ok (.ireturn, 1) := by decide +kernel
theorem dX4_firstHoarseHour_0 : decode cX4_firstHoarseHour 0 = .ok (.aload_n 0, 1) := by decide +kernel
theorem dX4_firstHoarseHour_1 : decode cX4_firstHoarseHour 1 = .ok (.getfield 12, 3) := by decide +kernel
theorem dX4_firstHoarseHour_4 : decode cX4_firstHoarseHour 4 = .ok (.aload_n 0, 1) := by decide +kernel
theorem dX4_firstHoarseHour_5 : decode cX4_firstHoarseHour 5 = .ok (.getfield 30, 3) := by decide +kernel
theorem dX4_firstHoarseHour_8 : decode cX4_firstHoarseHour 8 = .ok (.invokevirtual 33, 3) := by decide +kernel
theorem dX4_firstHoarseHour_11 : decode cX4_firstHoarseHour 11 = .ok (.iconst 1, 1) := by decide +kernel
theorem dX4_firstHoarseHour_12 : decode cX4_firstHoarseHour 12 = .ok (.istore_n 1, 1) := by decide +kernel
theorem dX4_firstHoarseHour_13 : decode cX4_firstHoarseHour 13 = .ok (.iload_n 1, 1) := by decide +kernel
theorem dX4_firstHoarseHour_14 : decode cX4_firstHoarseHour 14 = .ok (.bipush 96, 2) := by decide +kernel
theorem dX4_firstHoarseHour_16 : decode cX4_firstHoarseHour 16 = .ok (.if_icmp .gt 46, 3) := by decide +kernel
theorem dX4_firstHoarseHour_19 : decode cX4_firstHoarseHour 19 = .ok (.aload_n 0, 1) := by decide +kernel
theorem dX4_firstHoarseHour_20 : decode cX4_firstHoarseHour 20 = .ok (.getfield 12, 3) := by decide +kernel
theorem dX4_firstHoarseHour_23 : decode cX4_firstHoarseHour 23 = .ok (.getfield 57, 3) := by decide +kernel
theorem dX4_firstHoarseHour_26 : decode cX4_firstHoarseHour 26 = .ok (.ifCond .ne 7, 3) := by decide +kernel
theorem dX4_firstHoarseHour_29 : decode cX4_firstHoarseHour 29 = .ok (.iconst 1, 1) := by decide +kernel
theorem dX4_firstHoarseHour_30 : decode cX4_firstHoarseHour 30 = .ok (.goto 4, 3) := by decide +kernel
theorem dX4_firstHoarseHour_33 : decode cX4_firstHoarseHour 33 = .ok (.iconst 0, 1) := by decide +kernel
theorem dX4_firstHoarseHour_34 : decode cX4_firstHoarseHour 34 = .ok (.istore_n 2, 1) := by decide +kernel
theorem dX4_firstHoarseHour_35 : decode cX4_firstHoarseHour 35 = .ok (.aload_n 0, 1) := by decide +kernel
theorem dX4_firstHoarseHour_36 : decode cX4_firstHoarseHour 36 = .ok (.getfield 26, 3) := by decide +kernel
theorem dX4_firstHoarseHour_39 : decode cX4_firstHoarseHour 39 = .ok (.aload_n 0, 1) := by decide +kernel
theorem dX4_firstHoarseHour_40 : decode cX4_firstHoarseHour 40 = .ok (.getfield 12, 3) := by decide +kernel
theorem dX4_firstHoarseHour_43 : decode cX4_firstHoarseHour 43 = .ok (.invokevirtual 43, 3) := by decide +kernel
theorem dX4_firstHoarseHour_46 : decode cX4_firstHoarseHour 46 = .ok (.iconst (-1), 1) := by decide +kernel
theorem dX4_firstHoarseHour_47 : decode cX4_firstHoarseHour 47 = .ok (.if_icmp .eq 9, 3) := by decide +kernel
theorem dX4_firstHoarseHour_50 : decode cX4_firstHoarseHour 50 = .ok (.iload_n 2, 1) := by decide +kernel
theorem dX4_firstHoarseHour_51 : decode cX4_firstHoarseHour 51 = .ok (.ifCond .eq 5, 3) := by decide +kernel
theorem dX4_firstHoarseHour_54 : decode cX4_firstHoarseHour 54 = .ok (.iload_n 1, 1) := by decide +kernel
theorem dX4_firstHoarseHour_55 : decode cX4_firstHoarseHour 55 = .ok (.ireturn, 1) := by decide +kernel
theorem dX4_firstHoarseHour_56 : decode cX4_firstHoarseHour 56 = .ok (.iinc 1 1, 3) := by decide +kernel
theorem dX4_firstHoarseHour_59 : decode cX4_firstHoarseHour 59 = .ok (.goto (-46), 3) := by decide +kernel
theorem dX4_firstHoarseHour_62 : decode cX4_firstHoarseHour 62 = .ok (.iconst (-1), 1) := by decide +kernel
theorem dX4_firstHoarseHour_63 : decode cX4_firstHoarseHour 63 = .ok (.ireturn, 1) := by decide +kernel
theorem dX4_timesSaid_0 : decode cX4_timesSaid 0 = .ok (.aload_n 0, 1) := by decide +kernel
theorem dX4_timesSaid_1 : decode cX4_timesSaid 1 = .ok (.getfield 12, 3) := by decide +kernel
theorem dX4_timesSaid_4 : decode cX4_timesSaid 4 = .ok (.aload_n 0, 1) := by decide +kernel
theorem dX4_timesSaid_5 : decode cX4_timesSaid 5 = .ok (.getfield 30, 3) := by decide +kernel
theorem dX4_timesSaid_8 : decode cX4_timesSaid 8 = .ok (.invokevirtual 33, 3) := by decide +kernel
theorem dX4_timesSaid_11 : decode cX4_timesSaid 11 = .ok (.iconst 0, 1) := by decide +kernel
theorem dX4_timesSaid_12 : decode cX4_timesSaid 12 = .ok (.istore_n 3, 1) := by decide +kernel
theorem dX4_timesSaid_13 : decode cX4_timesSaid 13 = .ok (.iconst 0, 1) := by decide +kernel
theorem dX4_timesSaid_14 : decode cX4_timesSaid 14 = .ok (.istore 4, 2) := by decide +kernel
theorem dX4_timesSaid_16 : decode cX4_timesSaid 16 = .ok (.iload 4, 2) := by decide +kernel
theorem dX4_timesSaid_18 : decode cX4_timesSaid 18 = .ok (.iload_n 2, 1) := by decide +kernel
theorem dX4_timesSaid_19 : decode cX4_timesSaid 19 = .ok (.if_icmp .ge 27, 3) := by decide +kernel
theorem dX4_timesSaid_22 : decode cX4_timesSaid 22 = .ok (.aload_n 0, 1) := by decide +kernel
theorem dX4_timesSaid_23 : decode cX4_timesSaid 23 = .ok (.getfield 26, 3) := by decide +kernel
theorem dX4_timesSaid_26 : decode cX4_timesSaid 26 = .ok (.aload_n 0, 1) := by decide +kernel
theorem dX4_timesSaid_27 : decode cX4_timesSaid 27 = .ok (.getfield 12, 3) := by decide +kernel
theorem dX4_timesSaid_30 : decode cX4_timesSaid 30 = .ok (.invokevirtual 43, 3) := by decide +kernel
theorem dX4_timesSaid_33 : decode cX4_timesSaid 33 = .ok (.iload_n 1, 1) := by decide +kernel
theorem dX4_timesSaid_34 : decode cX4_timesSaid 34 = .ok (.if_icmp .ne 6, 3) := by decide +kernel
theorem dX4_timesSaid_37 : decode cX4_timesSaid 37 = .ok (.iinc 3 1, 3) := by decide +kernel
theorem dX4_timesSaid_40 : decode cX4_timesSaid 40 = .ok (.iinc 4 1, 3) := by decide +kernel
theorem dX4_timesSaid_43 : decode cX4_timesSaid 43 = .ok (.goto (-27), 3) := by decide +kernel
theorem dX4_timesSaid_46 : decode cX4_timesSaid 46 = .ok (.iload_n 3, 1) := by decide +kernel
theorem dX4_timesSaid_47 : decode cX4_timesSaid 47 = .ok (.ireturn, 1) := by decide +kernel
theorem dX4_longestHush_0 : decode cX4_longestHush 0 = .ok (.aload_n 0, 1) := by decide +kernel
theorem dX4_longestHush_1 : decode cX4_longestHush 1 = .ok (.getfield 12, 3) := by decide +kernel
theorem dX4_longestHush_4 : decode cX4_longestHush 4 = .ok (.aload_n 0, 1) := by decide +kernel
theorem dX4_longestHush_5 : decode cX4_longestHush 5 = .ok (.getfield 30, 3) := by decide +kernel
theorem dX4_longestHush_8 : decode cX4_longestHush 8 = .ok (.invokevirtual 33, 3) := by decide +kernel
theorem dX4_longestHush_11 : decode cX4_longestHush 11 = .ok (.iconst 0, 1) := by decide +kernel
theorem dX4_longestHush_12 : decode cX4_longestHush 12 = .ok (.istore_n 3, 1) := by decide +kernel
theorem dX4_longestHush_13 : decode cX4_longestHush 13 = .ok (.iconst (-1), 1) := by decide +kernel
theorem dX4_longestHush_14 : decode cX4_longestHush 14 = .ok (.istore 4, 2) := by decide +kernel
theorem dX4_longestHush_16 : decode cX4_longestHush 16 = .ok (.iconst 0, 1) := by decide +kernel
theorem dX4_longestHush_17 : decode cX4_longestHush 17 = .ok (.istore 5, 2) := by decide +kernel
theorem dX4_longestHush_19 : decode cX4_longestHush 19 = .ok (.iconst 1, 1) := by decide +kernel
theorem dX4_longestHush_20 : decode cX4_longestHush 20 = .ok (.istore 6, 2) := by decide +kernel
theorem dX4_longestHush_22 : decode cX4_longestHush 22 = .ok (.iload 6, 2) := by decide +kernel
theorem dX4_longestHush_24 : decode cX4_longestHush 24 = .ok (.iload_n 1, 1) := by decide +kernel
theorem dX4_longestHush_25 : decode cX4_longestHush 25 = .ok (.if_icmp .gt 52, 3) := by decide +kernel
theorem dX4_longestHush_28 : decode cX4_longestHush 28 = .ok (.aload_n 0, 1) := by decide +kernel
theorem dX4_longestHush_29 : decode cX4_longestHush 29 = .ok (.getfield 26, 3) := by decide +kernel
theorem dX4_longestHush_32 : decode cX4_longestHush 32 = .ok (.aload_n 0, 1) := by decide +kernel
theorem dX4_longestHush_33 : decode cX4_longestHush 33 = .ok (.getfield 12, 3) := by decide +kernel
theorem dX4_longestHush_36 : decode cX4_longestHush 36 = .ok (.invokevirtual 43, 3) := by decide +kernel
theorem dX4_longestHush_39 : decode cX4_longestHush 39 = .ok (.iconst (-1), 1) := by decide +kernel
theorem dX4_longestHush_40 : decode cX4_longestHush 40 = .ok (.if_icmp .ne 10, 3) := by decide +kernel
theorem dX4_longestHush_43 : decode cX4_longestHush 43 = .ok (.iload 5, 2) := by decide +kernel
theorem dX4_longestHush_45 : decode cX4_longestHush 45 = .ok (.iconst 1, 1) := by decide +kernel
theorem dX4_longestHush_46 : decode cX4_longestHush 46 = .ok (.iadd, 1) := by decide +kernel
theorem dX4_longestHush_47 : decode cX4_longestHush 47 = .ok (.goto 4, 3) := by decide +kernel
theorem dX4_longestHush_50 : decode cX4_longestHush 50 = .ok (.iconst 0, 1) := by decide +kernel
theorem dX4_longestHush_51 : decode cX4_longestHush 51 = .ok (.istore 5, 2) := by decide +kernel
theorem dX4_longestHush_53 : decode cX4_longestHush 53 = .ok (.iload 5, 2) := by decide +kernel
theorem dX4_longestHush_55 : decode cX4_longestHush 55 = .ok (.iload_n 3, 1) := by decide +kernel
theorem dX4_longestHush_56 : decode cX4_longestHush 56 = .ok (.if_icmp .le 15, 3) := by decide +kernel
theorem dX4_longestHush_59 : decode cX4_longestHush 59 = .ok (.iload 5, 2) := by decide +kernel
theorem dX4_longestHush_61 : decode cX4_longestHush 61 = .ok (.istore_n 3, 1) := by decide +kernel
theorem dX4_longestHush_62 : decode cX4_longestHush 62 = .ok (.iload 6, 2) := by decide +kernel
theorem dX4_longestHush_64 : decode cX4_longestHush 64 = .ok (.iload 5, 2) := by decide +kernel
theorem dX4_longestHush_66 : decode cX4_longestHush 66 = .ok (.isub, 1) := by decide +kernel
theorem dX4_longestHush_67 : decode cX4_longestHush 67 = .ok (.iconst 1, 1) := by decide +kernel
theorem dX4_longestHush_68 : decode cX4_longestHush 68 = .ok (.iadd, 1) := by decide +kernel
theorem dX4_longestHush_69 : decode cX4_longestHush 69 = .ok (.istore 4, 2) := by decide +kernel
theorem dX4_longestHush_71 : decode cX4_longestHush 71 = .ok (.iinc 6 1, 3) := by decide +kernel
theorem dX4_longestHush_74 : decode cX4_longestHush 74 = .ok (.goto (-52), 3) := by decide +kernel
theorem dX4_longestHush_77 : decode cX4_longestHush 77 = .ok (.iload_n 2, 1) := by decide +kernel
theorem dX4_longestHush_78 : decode cX4_longestHush 78 = .ok (.ifCond .eq 8, 3) := by decide +kernel
theorem dX4_longestHush_81 : decode cX4_longestHush 81 = .ok (.iload 4, 2) := by decide +kernel
theorem dX4_longestHush_83 : decode cX4_longestHush 83 = .ok (.goto 4, 3) := by decide +kernel
theorem dX4_longestHush_86 : decode cX4_longestHush 86 = .ok (.iload_n 3, 1) := by decide +kernel
theorem dX4_longestHush_87 : decode cX4_longestHush 87 = .ok (.ireturn, 1) := by decide +kernel
theorem dX4_mostSaid_0 : decode cX4_mostSaid 0 = .ok (.aload_n 0, 1) := by decide +kernel
theorem dX4_mostSaid_1 : decode cX4_mostSaid 1 = .ok (.iload_n 1, 1) := by decide +kernel
theorem dX4_mostSaid_2 : decode cX4_mostSaid 2 = .ok (.invokevirtual 61, 3) := by decide +kernel
theorem dX4_mostSaid_5 : decode cX4_mostSaid 5 = .ok (.iconst 0, 1) := by decide +kernel
theorem dX4_mostSaid_6 : decode cX4_mostSaid 6 = .ok (.istore_n 2, 1) := by decide +kernel
theorem dX4_mostSaid_7 : decode cX4_mostSaid 7 = .ok (.iconst (-1), 1) := by decide +kernel
theorem dX4_mostSaid_8 : decode cX4_mostSaid 8 = .ok (.istore_n 3, 1) := by decide +kernel
theorem dX4_mostSaid_9 : decode cX4_mostSaid 9 = .ok (.iconst 0, 1) := by decide +kernel
theorem dX4_mostSaid_10 : decode cX4_mostSaid 10 = .ok (.istore 4, 2) := by decide +kernel
theorem dX4_mostSaid_12 : decode cX4_mostSaid 12 = .ok (.iload 4, 2) := by decide +kernel
theorem dX4_mostSaid_14 : decode cX4_mostSaid 14 = .ok (.aload_n 0, 1) := by decide +kernel
theorem dX4_mostSaid_15 : decode cX4_mostSaid 15 = .ok (.getfield 18, 3) := by decide +kernel
theorem dX4_mostSaid_18 : decode cX4_mostSaid 18 = .ok (.arraylength, 1) := by decide +kernel
theorem dX4_mostSaid_19 : decode cX4_mostSaid 19 = .ok (.if_icmp .ge 31, 3) := by decide +kernel
theorem dX4_mostSaid_22 : decode cX4_mostSaid 22 = .ok (.aload_n 0, 1) := by decide +kernel
theorem dX4_mostSaid_23 : decode cX4_mostSaid 23 = .ok (.getfield 18, 3) := by decide +kernel
theorem dX4_mostSaid_26 : decode cX4_mostSaid 26 = .ok (.iload 4, 2) := by decide +kernel
theorem dX4_mostSaid_28 : decode cX4_mostSaid 28 = .ok (.iaload, 1) := by decide +kernel
theorem dX4_mostSaid_29 : decode cX4_mostSaid 29 = .ok (.iload_n 2, 1) := by decide +kernel
theorem dX4_mostSaid_30 : decode cX4_mostSaid 30 = .ok (.if_icmp .le 14, 3) := by decide +kernel
theorem dX4_mostSaid_33 : decode cX4_mostSaid 33 = .ok (.aload_n 0, 1) := by decide +kernel
theorem dX4_mostSaid_34 : decode cX4_mostSaid 34 = .ok (.getfield 18, 3) := by decide +kernel
theorem dX4_mostSaid_37 : decode cX4_mostSaid 37 = .ok (.iload 4, 2) := by decide +kernel
theorem dX4_mostSaid_39 : decode cX4_mostSaid 39 = .ok (.iaload, 1) := by decide +kernel
theorem dX4_mostSaid_40 : decode cX4_mostSaid 40 = .ok (.istore_n 2, 1) := by decide +kernel
theorem dX4_mostSaid_41 : decode cX4_mostSaid 41 = .ok (.iload 4, 2) := by decide +kernel
theorem dX4_mostSaid_43 : decode cX4_mostSaid 43 = .ok (.istore_n 3, 1) := by decide +kernel
theorem dX4_mostSaid_44 : decode cX4_mostSaid 44 = .ok (.iinc 4 1, 3) := by decide +kernel
theorem dX4_mostSaid_47 : decode cX4_mostSaid 47 = .ok (.goto (-35), 3) := by decide +kernel
theorem dX4_mostSaid_50 : decode cX4_mostSaid 50 = .ok (.iload_n 3, 1) := by decide +kernel
theorem dX4_mostSaid_51 : decode cX4_mostSaid 51 = .ok (.ireturn, 1) := by decide +kernel
theorem dX4_countSaid_0 : decode cX4_countSaid 0 = .ok (.aload_n 0, 1) := by decide +kernel
theorem dX4_countSaid_1 : decode cX4_countSaid 1 = .ok (.getfield 12, 3) := by decide +kernel
theorem dX4_countSaid_4 : decode cX4_countSaid 4 = .ok (.aload_n 0, 1) := by decide +kernel
theorem dX4_countSaid_5 : decode cX4_countSaid 5 = .ok (.getfield 30, 3) := by decide +kernel
theorem dX4_countSaid_8 : decode cX4_countSaid 8 = .ok (.invokevirtual 33, 3) := by decide +kernel
theorem dX4_countSaid_11 : decode cX4_countSaid 11 = .ok (.aload_n 0, 1) := by decide +kernel
theorem dX4_countSaid_12 : decode cX4_countSaid 12 = .ok (.getfield 18, 3) := by decide +kernel
theorem dX4_countSaid_15 : decode cX4_countSaid 15 = .ok (.iconst 0, 1) := by decide +kernel
theorem dX4_countSaid_16 : decode cX4_countSaid 16 = .ok (.invokestatic 65, 3) := by decide +kernel
theorem dX4_countSaid_19 : decode cX4_countSaid 19 = .ok (.iconst 0, 1) := by decide +kernel
theorem dX4_countSaid_20 : decode cX4_countSaid 20 = .ok (.istore_n 2, 1) := by decide +kernel
theorem dX4_countSaid_21 : decode cX4_countSaid 21 = .ok (.iload_n 2, 1) := by decide +kernel
theorem dX4_countSaid_22 : decode cX4_countSaid 22 = .ok (.iload_n 1, 1) := by decide +kernel
theorem dX4_countSaid_23 : decode cX4_countSaid 23 = .ok (.if_icmp .ge 44, 3) := by decide +kernel
theorem dX4_countSaid_26 : decode cX4_countSaid 26 = .ok (.aload_n 0, 1) := by decide +kernel
theorem dX4_countSaid_27 : decode cX4_countSaid 27 = .ok (.getfield 26, 3) := by decide +kernel
theorem dX4_countSaid_30 : decode cX4_countSaid 30 = .ok (.aload_n 0, 1) := by decide +kernel
theorem dX4_countSaid_31 : decode cX4_countSaid 31 = .ok (.getfield 12, 3) := by decide +kernel
theorem dX4_countSaid_34 : decode cX4_countSaid 34 = .ok (.invokevirtual 43, 3) := by decide +kernel
theorem dX4_countSaid_37 : decode cX4_countSaid 37 = .ok (.istore_n 3, 1) := by decide +kernel
theorem dX4_countSaid_38 : decode cX4_countSaid 38 = .ok (.iload_n 3, 1) := by decide +kernel
theorem dX4_countSaid_39 : decode cX4_countSaid 39 = .ok (.ifCond .lt 22, 3) := by decide +kernel
theorem dX4_countSaid_42 : decode cX4_countSaid 42 = .ok (.iload_n 3, 1) := by decide +kernel
theorem dX4_countSaid_43 : decode cX4_countSaid 43 = .ok (.aload_n 0, 1) := by decide +kernel
theorem dX4_countSaid_44 : decode cX4_countSaid 44 = .ok (.getfield 18, 3) := by decide +kernel
theorem dX4_countSaid_47 : decode cX4_countSaid 47 = .ok (.arraylength, 1) := by decide +kernel
theorem dX4_countSaid_48 : decode cX4_countSaid 48 = .ok (.if_icmp .ge 13, 3) := by decide +kernel
theorem dX4_countSaid_51 : decode cX4_countSaid 51 = .ok (.aload_n 0, 1) := by decide +kernel
theorem dX4_countSaid_52 : decode cX4_countSaid 52 = .ok (.getfield 18, 3) := by decide +kernel
theorem dX4_countSaid_55 : decode cX4_countSaid 55 = .ok (.iload_n 3, 1) := by decide +kernel
theorem dX4_countSaid_56 : decode cX4_countSaid 56 = .ok (.dup2, 1) := by decide +kernel
theorem dX4_countSaid_57 : decode cX4_countSaid 57 = .ok (.iaload, 1) := by decide +kernel
theorem dX4_countSaid_58 : decode cX4_countSaid 58 = .ok (.iconst 1, 1) := by decide +kernel
theorem dX4_countSaid_59 : decode cX4_countSaid 59 = .ok (.iadd, 1) := by decide +kernel
theorem dX4_countSaid_60 : decode cX4_countSaid 60 = .ok (.iastore, 1) := by decide +kernel
theorem dX4_countSaid_61 : decode cX4_countSaid 61 = .ok (.iinc 2 1, 3) := by decide +kernel
theorem dX4_countSaid_64 : decode cX4_countSaid 64 = .ok (.goto (-43), 3) := by decide +kernel
theorem dX4_countSaid_67 : decode cX4_countSaid 67 = .ok (.return_, 1) := by decide +kernel
theorem dX4_motionsCalled_0 : decode cX4_motionsCalled 0 = .ok (.aload_n 0, 1) := by decide +kernel
theorem dX4_motionsCalled_1 : decode cX4_motionsCalled 1 = .ok (.iload_n 1, 1) := by decide +kernel
theorem dX4_motionsCalled_2 : decode cX4_motionsCalled 2 = .ok (.invokevirtual 61, 3) := by decide +kernel
theorem dX4_motionsCalled_5 : decode cX4_motionsCalled 5 = .ok (.iconst 0, 1) := by decide +kernel
theorem dX4_motionsCalled_6 : decode cX4_motionsCalled 6 = .ok (.istore_n 2, 1) := by decide +kernel
theorem dX4_motionsCalled_7 : decode cX4_motionsCalled 7 = .ok (.iconst 0, 1) := by decide +kernel
theorem dX4_motionsCalled_8 : decode cX4_motionsCalled 8 = .ok (.istore_n 3, 1) := by decide +kernel
theorem dX4_motionsCalled_9 : decode cX4_motionsCalled 9 = .ok (.iload_n 3, 1) := by decide +kernel
theorem dX4_motionsCalled_10 : decode cX4_motionsCalled 10 = .ok (.aload_n 0, 1) := by decide +kernel
theorem dX4_motionsCalled_11 : decode cX4_motionsCalled 11 = .ok (.getfield 22, 3) := by decide +kernel
theorem dX4_motionsCalled_14 : decode cX4_motionsCalled 14 = .ok (.getfield 71, 3) := by decide +kernel
theorem dX4_motionsCalled_17 : decode cX4_motionsCalled 17 = .ok (.if_icmp .ge 51, 3) := by decide +kernel
theorem dX4_motionsCalled_20 : decode cX4_motionsCalled 20 = .ok (.aload_n 0, 1) := by decide +kernel
theorem dX4_motionsCalled_21 : decode cX4_motionsCalled 21 = .ok (.getfield 30, 3) := by decide +kernel
theorem dX4_motionsCalled_24 : decode cX4_motionsCalled 24 = .ok (.getfield 51, 3) := by decide +kernel
theorem dX4_motionsCalled_27 : decode cX4_motionsCalled 27 = .ok (.iload_n 3, 1) := by decide +kernel
theorem dX4_motionsCalled_28 : decode cX4_motionsCalled 28 = .ok (.iaload, 1) := by decide +kernel
theorem dX4_motionsCalled_29 : decode cX4_motionsCalled 29 = .ok (.istore 4, 2) := by decide +kernel
theorem dX4_motionsCalled_31 : decode cX4_motionsCalled 31 = .ok (.iload 4, 2) := by decide +kernel
theorem dX4_motionsCalled_33 : decode cX4_motionsCalled 33 = .ok (.ifCond .lt 29, 3) := by decide +kernel
theorem dX4_motionsCalled_36 : decode cX4_motionsCalled 36 = .ok (.iload 4, 2) := by decide +kernel
theorem dX4_motionsCalled_38 : decode cX4_motionsCalled 38 = .ok (.aload_n 0, 1) := by decide +kernel
theorem dX4_motionsCalled_39 : decode cX4_motionsCalled 39 = .ok (.getfield 18, 3) := by decide +kernel
theorem dX4_motionsCalled_42 : decode cX4_motionsCalled 42 = .ok (.arraylength, 1) := by decide +kernel
theorem dX4_motionsCalled_43 : decode cX4_motionsCalled 43 = .ok (.if_icmp .ge 19, 3) := by decide +kernel
theorem dX4_motionsCalled_46 : decode cX4_motionsCalled 46 = .ok (.aload_n 0, 1) := by decide +kernel
theorem dX4_motionsCalled_47 : decode cX4_motionsCalled 47 = .ok (.getfield 18, 3) := by decide +kernel
theorem dX4_motionsCalled_50 : decode cX4_motionsCalled 50 = .ok (.iload 4, 2) := by decide +kernel
theorem dX4_motionsCalled_52 : decode cX4_motionsCalled 52 = .ok (.iaload, 1) := by decide +kernel
theorem dX4_motionsCalled_53 : decode cX4_motionsCalled 53 = .ok (.ifCond .le 9, 3) := by decide +kernel
theorem dX4_motionsCalled_56 : decode cX4_motionsCalled 56 = .ok (.iload_n 2, 1) := by decide +kernel
theorem dX4_motionsCalled_57 : decode cX4_motionsCalled 57 = .ok (.iconst 1, 1) := by decide +kernel
theorem dX4_motionsCalled_58 : decode cX4_motionsCalled 58 = .ok (.iload_n 3, 1) := by decide +kernel
theorem dX4_motionsCalled_59 : decode cX4_motionsCalled 59 = .ok (.ishl, 1) := by decide +kernel
theorem dX4_motionsCalled_60 : decode cX4_motionsCalled 60 = .ok (.ior, 1) := by decide +kernel
theorem dX4_motionsCalled_61 : decode cX4_motionsCalled 61 = .ok (.istore_n 2, 1) := by decide +kernel
theorem dX4_motionsCalled_62 : decode cX4_motionsCalled 62 = .ok (.iinc 3 1, 3) := by decide +kernel
theorem dX4_motionsCalled_65 : decode cX4_motionsCalled 65 = .ok (.goto (-56), 3) := by decide +kernel
theorem dX4_motionsCalled_68 : decode cX4_motionsCalled 68 = .ok (.iload_n 2, 1) := by decide +kernel
theorem dX4_motionsCalled_69 : decode cX4_motionsCalled 69 = .ok (.ireturn, 1) := by decide +kernel
theorem dX4_silentHoursBySeed_0 : decode cX4_silentHoursBySeed 0 = .ok (.aload_n 0, 1) := by decide +kernel
theorem dX4_silentHoursBySeed_1 : decode cX4_silentHoursBySeed 1 = .ok (.iload_n 1, 1) := by decide +kernel
theorem dX4_silentHoursBySeed_2 : decode cX4_silentHoursBySeed 2 = .ok (.putfield 76, 3) := by decide +kernel
theorem dX4_silentHoursBySeed_5 : decode cX4_silentHoursBySeed 5 = .ok (.aload_n 0, 1) := by decide +kernel
theorem dX4_silentHoursBySeed_6 : decode cX4_silentHoursBySeed 6 = .ok (.getfield 12, 3) := by decide +kernel
theorem dX4_silentHoursBySeed_9 : decode cX4_silentHoursBySeed 9 = .ok (.aload_n 0, 1) := by decide +kernel
theorem dX4_silentHoursBySeed_10 : decode cX4_silentHoursBySeed 10 = .ok (.getfield 30, 3) := by decide +kernel
theorem dX4_silentHoursBySeed_13 : decode cX4_silentHoursBySeed 13 = .ok (.invokevirtual 33, 3) := by decide +kernel
theorem dX4_silentHoursBySeed_16 : decode cX4_silentHoursBySeed 16 = .ok (.iconst 0, 1) := by decide +kernel
theorem dX4_silentHoursBySeed_17 : decode cX4_silentHoursBySeed 17 = .ok (.istore_n 3, 1) := by decide +kernel
theorem dX4_silentHoursBySeed_18 : decode cX4_silentHoursBySeed 18 = .ok (.iconst 0, 1) := by decide +kernel
theorem dX4_silentHoursBySeed_19 : decode cX4_silentHoursBySeed 19 = .ok (.istore 4, 2) := by decide +kernel
theorem dX4_silentHoursBySeed_21 : decode cX4_silentHoursBySeed 21 = .ok (.iload 4, 2) := by decide +kernel
theorem dX4_silentHoursBySeed_23 : decode cX4_silentHoursBySeed 23 = .ok (.iload_n 2, 1) := by decide +kernel
theorem dX4_silentHoursBySeed_24 : decode cX4_silentHoursBySeed 24 = .ok (.if_icmp .ge 32, 3) := by decide +kernel
theorem dX4_silentHoursBySeed_27 : decode cX4_silentHoursBySeed 27 = .ok (.aload_n 0, 1) := by decide +kernel
theorem dX4_silentHoursBySeed_28 : decode cX4_silentHoursBySeed 28 = .ok (.invokevirtual 79, 3) := by decide +kernel
theorem dX4_silentHoursBySeed_31 : decode cX4_silentHoursBySeed 31 = .ok (.aload_n 0, 1) := by decide +kernel
theorem dX4_silentHoursBySeed_32 : decode cX4_silentHoursBySeed 32 = .ok (.getfield 26, 3) := by decide +kernel
theorem dX4_silentHoursBySeed_35 : decode cX4_silentHoursBySeed 35 = .ok (.aload_n 0, 1) := by decide +kernel
theorem dX4_silentHoursBySeed_36 : decode cX4_silentHoursBySeed 36 = .ok (.getfield 12, 3) := by decide +kernel
theorem dX4_silentHoursBySeed_39 : decode cX4_silentHoursBySeed 39 = .ok (.iconst (-1), 1) := by decide +kernel
theorem dX4_silentHoursBySeed_40 : decode cX4_silentHoursBySeed 40 = .ok (.invokevirtual 37, 3) := by decide +kernel
theorem dX4_silentHoursBySeed_43 : decode cX4_silentHoursBySeed 43 = .ok (.iconst (-1), 1) := by decide +kernel
theorem dX4_silentHoursBySeed_44 : decode cX4_silentHoursBySeed 44 = .ok (.if_icmp .ne 6, 3) := by decide +kernel
theorem dX4_silentHoursBySeed_47 : decode cX4_silentHoursBySeed 47 = .ok (.iinc 3 1, 3) := by decide +kernel
theorem dX4_silentHoursBySeed_50 : decode cX4_silentHoursBySeed 50 = .ok (.iinc 4 1, 3) := by decide +kernel
theorem dX4_silentHoursBySeed_53 : decode cX4_silentHoursBySeed 53 = .ok (.goto (-32), 3) := by decide +kernel
theorem dX4_silentHoursBySeed_56 : decode cX4_silentHoursBySeed 56 = .ok (.iload_n 3, 1) := by decide +kernel
theorem dX4_silentHoursBySeed_57 : decode cX4_silentHoursBySeed 57 = .ok (.ireturn, 1) := by decide +kernel
theorem dX4_meetChance_0 : decode cX4_meetChance 0 = .ok (.aload_n 0, 1) := by decide +kernel
theorem dX4_meetChance_1 : decode cX4_meetChance 1 = .ok (.invokevirtual 82, 3) := by decide +kernel
theorem dX4_meetChance_4 : decode cX4_meetChance 4 = .ok (.bipush 12, 2) := by decide +kernel
theorem dX4_meetChance_6 : decode cX4_meetChance 6 = .ok (.irem, 1) := by decide +kernel
theorem dX4_meetChance_7 : decode cX4_meetChance 7 = .ok (.tableswitch 80 0 2 #[25, 37, 62], 25) := by decide +kernel
theorem dX4_meetChance_32 : decode cX4_meetChance 32 = .ok (.aload_n 0, 1) := by decide +kernel
theorem dX4_meetChance_33 : decode cX4_meetChance 33 = .ok (.getfield 12, 3) := by decide +kernel
theorem dX4_meetChance_36 : decode cX4_meetChance 36 = .ok (.bipush 24, 2) := by decide +kernel
theorem dX4_meetChance_38 : decode cX4_meetChance 38 = .ok (.putfield 86, 3) := by decide +kernel
theorem dX4_meetChance_41 : decode cX4_meetChance 41 = .ok (.goto 46, 3) := by decide +kernel
theorem dX4_meetChance_44 : decode cX4_meetChance 44 = .ok (.aload_n 0, 1) := by decide +kernel
theorem dX4_meetChance_45 : decode cX4_meetChance 45 = .ok (.getfield 12, 3) := by decide +kernel
theorem dX4_meetChance_48 : decode cX4_meetChance 48 = .ok (.bipush 99, 2) := by decide +kernel
theorem dX4_meetChance_50 : decode cX4_meetChance 50 = .ok (.aload_n 0, 1) := by decide +kernel
theorem dX4_meetChance_51 : decode cX4_meetChance 51 = .ok (.getfield 12, 3) := by decide +kernel
theorem dX4_meetChance_54 : decode cX4_meetChance 54 = .ok (.getfield 57, 3) := by decide +kernel
theorem dX4_meetChance_57 : decode cX4_meetChance 57 = .ok (.bipush 9, 2) := by decide +kernel
theorem dX4_meetChance_59 : decode cX4_meetChance 59 = .ok (.iadd, 1) := by decide +kernel
theorem dX4_meetChance_60 : decode cX4_meetChance 60 = .ok (.invokestatic 89, 3) := by decide +kernel
theorem dX4_meetChance_63 : decode cX4_meetChance 63 = .ok (.putfield 57, 3) := by decide +kernel
theorem dX4_meetChance_66 : decode cX4_meetChance 66 = .ok (.goto 21, 3) := by decide +kernel
theorem dX4_meetChance_69 : decode cX4_meetChance 69 = .ok (.aload_n 0, 1) := by decide +kernel
theorem dX4_meetChance_70 : decode cX4_meetChance 70 = .ok (.getfield 12, 3) := by decide +kernel
theorem dX4_meetChance_73 : decode cX4_meetChance 73 = .ok (.aload_n 0, 1) := by decide +kernel
theorem dX4_meetChance_74 : decode cX4_meetChance 74 = .ok (.invokevirtual 82, 3) := by decide +kernel
theorem dX4_meetChance_77 : decode cX4_meetChance 77 = .ok (.iconst 5, 1) := by decide +kernel
theorem dX4_meetChance_78 : decode cX4_meetChance 78 = .ok (.irem, 1) := by decide +kernel
theorem dX4_meetChance_79 : decode cX4_meetChance 79 = .ok (.iconst 1, 1) := by decide +kernel
theorem dX4_meetChance_80 : decode cX4_meetChance 80 = .ok (.iadd, 1) := by decide +kernel
theorem dX4_meetChance_81 : decode cX4_meetChance 81 = .ok (.putfield 95, 3) := by decide +kernel
theorem dX4_meetChance_84 : decode cX4_meetChance 84 = .ok (.goto 3, 3) := by decide +kernel
theorem dX4_meetChance_87 : decode cX4_meetChance 87 = .ok (.return_, 1) := by decide +kernel
theorem dX4_drawnBits_0 : decode cX4_drawnBits 0 = .ok (.aload_n 0, 1) := by decide +kernel
theorem dX4_drawnBits_1 : decode cX4_drawnBits 1 = .ok (.aload_n 0, 1) := by decide +kernel
theorem dX4_drawnBits_2 : decode cX4_drawnBits 2 = .ok (.getfield 76, 3) := by decide +kernel
theorem dX4_drawnBits_5 : decode cX4_drawnBits 5 = .ok (.ldc 98, 2) := by decide +kernel
theorem dX4_drawnBits_7 : decode cX4_drawnBits 7 = .ok (.imul, 1) := by decide +kernel
theorem dX4_drawnBits_8 : decode cX4_drawnBits 8 = .ok (.sipush 12345, 3) := by decide +kernel
theorem dX4_drawnBits_11 : decode cX4_drawnBits 11 = .ok (.iadd, 1) := by decide +kernel
theorem dX4_drawnBits_12 : decode cX4_drawnBits 12 = .ok (.putfield 76, 3) := by decide +kernel
theorem dX4_drawnBits_15 : decode cX4_drawnBits 15 = .ok (.aload_n 0, 1) := by decide +kernel
theorem dX4_drawnBits_16 : decode cX4_drawnBits 16 = .ok (.getfield 76, 3) := by decide +kernel
theorem dX4_drawnBits_19 : decode cX4_drawnBits 19 = .ok (.bipush 16, 2) := by decide +kernel
theorem dX4_drawnBits_21 : decode cX4_drawnBits 21 = .ok (.ishr, 1) := by decide +kernel
theorem dX4_drawnBits_22 : decode cX4_drawnBits 22 = .ok (.sipush 32767, 3) := by decide +kernel
theorem dX4_drawnBits_25 : decode cX4_drawnBits 25 = .ok (.iand, 1) := by decide +kernel
theorem dX4_drawnBits_26 : decode cX4_drawnBits 26 = .ok (.ireturn, 1) := by decide +kernel
theorem dX5_init_0 : decode cX5_init 0 = .ok (.aload_n 0, 1) := by decide +kernel
theorem dX5_init_1 : decode cX5_init 1 = .ok (.invokespecial 3, 3) := by decide +kernel
theorem dX5_init_4 : decode cX5_init 4 = .ok (.aload_n 0, 1) := by decide +kernel
theorem dX5_init_5 : decode cX5_init 5 = .ok (.bipush 80, 2) := by decide +kernel
theorem dX5_init_7 : decode cX5_init 7 = .ok (.newarray .int, 2) := by decide +kernel
theorem dX5_init_9 : decode cX5_init 9 = .ok (.putfield 9, 3) := by decide +kernel
theorem dX5_init_12 : decode cX5_init 12 = .ok (.aload_n 0, 1) := by decide +kernel
theorem dX5_init_13 : decode cX5_init 13 = .ok (.aload_n 1, 1) := by decide +kernel
theorem dX5_init_14 : decode cX5_init 14 = .ok (.putfield 15, 3) := by decide +kernel
theorem dX5_init_17 : decode cX5_init 17 = .ok (.aload_n 0, 1) := by decide +kernel
theorem dX5_init_18 : decode cX5_init 18 = .ok (.aload_n 2, 1) := by decide +kernel
theorem dX5_init_19 : decode cX5_init 19 = .ok (.putfield 19, 3) := by decide +kernel
theorem dX5_init_22 : decode cX5_init 22 = .ok (.return_, 1) := by decide +kernel
theorem dX5_readText_0 : decode cX5_readText 0 = .ok (.aload_n 0, 1) := by decide +kernel
theorem dX5_readText_1 : decode cX5_readText 1 = .ok (.iload_n 1, 1) := by decide +kernel
theorem dX5_readText_2 : decode cX5_readText 2 = .ok (.aload_n 0, 1) := by decide +kernel
theorem dX5_readText_3 : decode cX5_readText 3 = .ok (.getfield 15, 3) := by decide +kernel
theorem dX5_readText_6 : decode cX5_readText 6 = .ok (.arraylength, 1) := by decide +kernel
theorem dX5_readText_7 : decode cX5_readText 7 = .ok (.invokestatic 23, 3) := by decide +kernel
theorem dX5_readText_10 : decode cX5_readText 10 = .ok (.putfield 29, 3) := by decide +kernel
theorem dX5_readText_13 : decode cX5_readText 13 = .ok (.aload_n 0, 1) := by decide +kernel
theorem dX5_readText_14 : decode cX5_readText 14 = .ok (.iconst 0, 1) := by decide +kernel
theorem dX5_readText_15 : decode cX5_readText 15 = .ok (.putfield 33, 3) := by decide +kernel
theorem dX5_readText_18 : decode cX5_readText 18 = .ok (.aload_n 0, 1) := by decide +kernel
theorem dX5_readText_19 : decode cX5_readText 19 = .ok (.iconst 0, 1) := by decide +kernel
theorem dX5_readText_20 : decode cX5_readText 20 = .ok (.putfield 36, 3) := by decide +kernel
theorem dX5_readText_23 : decode cX5_readText 23 = .ok (.aload_n 0, 1) := by decide +kernel
theorem dX5_readText_24 : decode cX5_readText 24 = .ok (.iconst 0, 1) := by decide +kernel
theorem dX5_readText_25 : decode cX5_readText 25 = .ok (.putfield 39, 3) := by decide +kernel
theorem dX5_readText_28 : decode cX5_readText 28 = .ok (.aload_n 0, 1) := by decide +kernel
theorem dX5_readText_29 : decode cX5_readText 29 = .ok (.getfield 19, 3) := by decide +kernel
theorem dX5_readText_32 : decode cX5_readText 32 = .ok (.invokevirtual 43, 3) := by decide +kernel
theorem dX5_readText_35 : decode cX5_readText 35 = .ok (.aload_n 0, 1) := by decide +kernel
theorem dX5_readText_36 : decode cX5_readText 36 = .ok (.invokevirtual 48, 3) := by decide +kernel
theorem dX5_readText_39 : decode cX5_readText 39 = .ok (.iconst 0, 1) := by decide +kernel
theorem dX5_readText_40 : decode cX5_readText 40 = .ok (.istore_n 2, 1) := by decide +kernel
theorem dX5_readText_41 : decode cX5_readText 41 = .ok (.iload_n 2, 1) := by decide +kernel
theorem dX5_readText_42 : decode cX5_readText 42 = .ok (.sipush 700, 3) := by decide +kernel
theorem dX5_readText_45 : decode cX5_readText 45 = .ok (.if_icmp .gt 27, 3) := by decide +kernel
theorem dX5_readText_48 : decode cX5_readText 48 = .ok (.aload_n 0, 1) := by decide +kernel
theorem dX5_readText_49 : decode cX5_readText 49 = .ok (.getfield 36, 3) := by decide +kernel
theorem dX5_readText_52 : decode cX5_readText 52 = .ok (.ifCond .ne 20, 3) := by decide +kernel
theorem dX5_readText_55 : decode cX5_readText 55 = .ok (.aload_n 0, 1) := by decide +kernel
theorem dX5_readText_56 : decode cX5_readText 56 = .ok (.getfield 51, 3) := by decide +kernel
theorem dX5_readText_59 : decode cX5_readText 59 = .ok (.ifCond .eq 13, 3) := by decide +kernel
theorem dX5_readText_62 : decode cX5_readText 62 = .ok (.aload_n 0, 1) := by decide +kernel
theorem dX5_readText_63 : decode cX5_readText 63 = .ok (.invokevirtual 54, 3) := by decide +kernel
theorem dX5_readText_66 : decode cX5_readText 66 = .ok (.iinc 2 1, 3) := by decide +kernel
theorem dX5_readText_69 : decode cX5_readText 69 = .ok (.goto (-28), 3) := by decide +kernel
theorem dX5_readText_72 : decode cX5_readText 72 = .ok (.aload_n 0, 1) := by decide +kernel
theorem dX5_readText_73 : decode cX5_readText 73 = .ok (.getfield 36, 3) := by decide +kernel
theorem dX5_readText_76 : decode cX5_readText 76 = .ok (.ireturn, 1) := by decide +kernel
theorem dX5_latestPlace_0 : decode cX5_latestPlace 0 = .ok (.aload_n 0, 1) := by decide +kernel
theorem dX5_latestPlace_1 : decode cX5_latestPlace 1 = .ok (.getfield 57, 3) := by decide +kernel
theorem dX5_latestPlace_4 : decode cX5_latestPlace 4 = .ok (.ireturn, 1) := by decide +kernel
theorem dX5_readLine_0 : decode cX5_readLine 0 = .ok (.aload_n 0, 1) := by decide +kernel
theorem dX5_readLine_1 : decode cX5_readLine 1 = .ok (.getfield 51, 3) := by decide +kernel
theorem dX5_readLine_4 : decode cX5_readLine 4 = .ok (.tableswitch 98 13 19 #[44, 51, 58, 66, 74, 82, 90], 44) := by decide +kernel
theorem dX5_readLine_48 : decode cX5_readLine 48 = .ok (.aload_n 0, 1) := by decide +kernel
theorem dX5_readLine_49 : decode cX5_readLine 49 = .ok (.invokevirtual 60, 3) := by decide +kernel
theorem dX5_readLine_52 : decode cX5_readLine 52 = .ok (.goto 55, 3) := by decide +kernel
theorem dX5_readLine_55 : decode cX5_readLine 55 = .ok (.aload_n 0, 1) := by decide +kernel
theorem dX5_readLine_56 : decode cX5_readLine 56 = .ok (.invokevirtual 63, 3) := by decide +kernel
theorem dX5_readLine_59 : decode cX5_readLine 59 = .ok (.goto 48, 3) := by decide +kernel
theorem dX5_readLine_62 : decode cX5_readLine 62 = .ok (.aload_n 0, 1) := by decide +kernel
theorem dX5_readLine_63 : decode cX5_readLine 63 = .ok (.iconst 0, 1) := by decide +kernel
theorem dX5_readLine_64 : decode cX5_readLine 64 = .ok (.invokevirtual 66, 3) := by decide +kernel
theorem dX5_readLine_67 : decode cX5_readLine 67 = .ok (.goto 40, 3) := by decide +kernel
theorem dX5_readLine_70 : decode cX5_readLine 70 = .ok (.aload_n 0, 1) := by decide +kernel
theorem dX5_readLine_71 : decode cX5_readLine 71 = .ok (.iconst 1, 1) := by decide +kernel
theorem dX5_readLine_72 : decode cX5_readLine 72 = .ok (.invokevirtual 66, 3) := by decide +kernel
theorem dX5_readLine_75 : decode cX5_readLine 75 = .ok (.goto 32, 3) := by decide +kernel
theorem dX5_readLine_78 : decode cX5_readLine 78 = .ok (.aload_n 0, 1) := by decide +kernel
theorem dX5_readLine_79 : decode cX5_readLine 79 = .ok (.iconst 2, 1) := by decide +kernel
theorem dX5_readLine_80 : decode cX5_readLine 80 = .ok (.invokevirtual 66, 3) := by decide +kernel
theorem dX5_readLine_83 : decode cX5_readLine 83 = .ok (.goto 24, 3) := by decide +kernel
theorem dX5_readLine_86 : decode cX5_readLine 86 = .ok (.aload_n 0, 1) := by decide +kernel
theorem dX5_readLine_87 : decode cX5_readLine 87 = .ok (.iconst 0, 1) := by decide +kernel
theorem dX5_readLine_88 : decode cX5_readLine 88 = .ok (.invokevirtual 70, 3) := by decide +kernel
theorem dX5_readLine_91 : decode cX5_readLine 91 = .ok (.goto 16, 3) := by decide +kernel
theorem dX5_readLine_94 : decode cX5_readLine 94 = .ok (.aload_n 0, 1) := by decide +kernel
theorem dX5_readLine_95 : decode cX5_readLine 95 = .ok (.iconst 1, 1) := by decide +kernel
theorem dX5_readLine_96 : decode cX5_readLine 96 = .ok (.invokevirtual 70, 3) := by decide +kernel
theorem dX5_readLine_99 : decode cX5_readLine 99 = .ok (.goto 8, 3) := by decide +kernel
theorem dX5_readLine_102 : decode cX5_readLine 102 = .ok (.aload_n 0, 1) := by decide +kernel
theorem dX5_readLine_103 : decode cX5_readLine 103 = .ok (.iconst 1, 1) := by decide +kernel
theorem dX5_readLine_104 : decode cX5_readLine 104 = .ok (.putfield 36, 3) := by decide +kernel
theorem dX5_readLine_107 : decode cX5_readLine 107 = .ok (.aload_n 0, 1) := by decide +kernel
theorem dX5_readLine_108 : decode cX5_readLine 108 = .ok (.getfield 36, 3) := by decide +kernel
theorem dX5_readLine_111 : decode cX5_readLine 111 = .ok (.ifCond .ne 16, 3) := by decide +kernel
theorem dX5_readLine_114 : decode cX5_readLine 114 = .ok (.aload_n 0, 1) := by decide +kernel
theorem dX5_readLine_115 : decode cX5_readLine 115 = .ok (.getfield 51, 3) := by decide +kernel
theorem dX5_readLine_118 : decode cX5_readLine 118 = .ok (.iconst 3, 1) := by decide +kernel
theorem dX5_readLine_119 : decode cX5_readLine 119 = .ok (.if_icmp .eq 8, 3) := by decide +kernel
theorem dX5_readLine_122 : decode cX5_readLine 122 = .ok (.aload_n 0, 1) := by decide +kernel
theorem dX5_readLine_123 : decode cX5_readLine 123 = .ok (.iconst 1, 1) := by decide +kernel
theorem dX5_readLine_124 : decode cX5_readLine 124 = .ok (.putfield 36, 3) := by decide +kernel
theorem dX5_readLine_127 : decode cX5_readLine 127 = .ok (.aload_n 0, 1) := by decide +kernel
theorem dX5_readLine_128 : decode cX5_readLine 128 = .ok (.getfield 36, 3) := by decide +kernel
theorem dX5_readLine_131 : decode cX5_readLine 131 = .ok (.ifCond .ne 7, 3) := by decide +kernel
theorem dX5_readLine_134 : decode cX5_readLine 134 = .ok (.aload_n 0, 1) := by decide +kernel
theorem dX5_readLine_135 : decode cX5_readLine 135 = .ok (.invokevirtual 48, 3) := by decide +kernel
theorem dX5_readLine_138 : decode cX5_readLine 138 = .ok (.return_, 1) := by decide +kernel
theorem dX5_readClock_0 : decode cX5_readClock 0 = .ok (.aload_n 0, 1) := by decide +kernel
theorem dX5_readClock_1 : decode cX5_readClock 1 = .ok (.getfield 39, 3) := by decide +kernel
theorem dX5_readClock_4 : decode cX5_readClock 4 = .ok (.ifCond .eq 9, 3) := by decide +kernel
theorem dX5_readClock_7 : decode cX5_readClock 7 = .ok (.aload_n 0, 1) := by decide +kernel
theorem dX5_readClock_8 : decode cX5_readClock 8 = .ok (.iconst 5, 1) := by decide +kernel
theorem dX5_readClock_9 : decode cX5_readClock 9 = .ok (.putfield 36, 3) := by decide +kernel
theorem dX5_readClock_12 : decode cX5_readClock 12 = .ok (.return_, 1) := by decide +kernel
theorem dX5_readClock_13 : decode cX5_readClock 13 = .ok (.aload_n 0, 1) := by decide +kernel
theorem dX5_readClock_14 : decode cX5_readClock 14 = .ok (.iconst 1, 1) := by decide +kernel
theorem dX5_readClock_15 : decode cX5_readClock 15 = .ok (.putfield 39, 3) := by decide +kernel
theorem dX5_readClock_18 : decode cX5_readClock 18 = .ok (.aload_n 0, 1) := by decide +kernel
theorem dX5_readClock_19 : decode cX5_readClock 19 = .ok (.invokevirtual 48, 3) := by decide +kernel
theorem dX5_readClock_22 : decode cX5_readClock 22 = .ok (.aload_n 0, 1) := by decide +kernel
theorem dX5_readClock_23 : decode cX5_readClock 23 = .ok (.getfield 19, 3) := by decide +kernel
theorem dX5_readClock_26 : decode cX5_readClock 26 = .ok (.aload_n 0, 1) := by decide +kernel
theorem dX5_readClock_27 : decode cX5_readClock 27 = .ok (.iconst 0, 1) := by decide +kernel
theorem dX5_readClock_28 : decode cX5_readClock 28 = .ok (.bipush 99, 2) := by decide +kernel
theorem dX5_readClock_30 : decode cX5_readClock 30 = .ok (.invokevirtual 73, 3) := by decide +kernel
theorem dX5_readClock_33 : decode cX5_readClock 33 = .ok (.putfield 76, 3) := by decide +kernel
theorem dX5_readClock_36 : decode cX5_readClock 36 = .ok (.aload_n 0, 1) := by decide +kernel
theorem dX5_readClock_37 : decode cX5_readClock 37 = .ok (.getfield 19, 3) := by decide +kernel
theorem dX5_readClock_40 : decode cX5_readClock 40 = .ok (.aload_n 0, 1) := by decide +kernel
theorem dX5_readClock_41 : decode cX5_readClock 41 = .ok (.iconst 0, 1) := by decide +kernel
theorem dX5_readClock_42 : decode cX5_readClock 42 = .ok (.bipush 99, 2) := by decide +kernel
theorem dX5_readClock_44 : decode cX5_readClock 44 = .ok (.invokevirtual 73, 3) := by decide +kernel
theorem dX5_readClock_47 : decode cX5_readClock 47 = .ok (.putfield 79, 3) := by decide +kernel
theorem dX5_readClock_50 : decode cX5_readClock 50 = .ok (.aload_n 0, 1) := by decide +kernel
theorem dX5_readClock_51 : decode cX5_readClock 51 = .ok (.getfield 19, 3) := by decide +kernel
theorem dX5_readClock_54 : decode cX5_readClock 54 = .ok (.aload_n 0, 1) := by decide +kernel
theorem dX5_readClock_55 : decode cX5_readClock 55 = .ok (.iconst 0, 1) := by decide +kernel
theorem dX5_readClock_56 : decode cX5_readClock 56 = .ok (.sipush 999, 3) := by decide +kernel
theorem dX5_readClock_59 : decode cX5_readClock 59 = .ok (.invokevirtual 73, 3) := by decide +kernel
theorem dX5_readClock_62 : decode cX5_readClock 62 = .ok (.putfield 82, 3) := by decide +kernel
theorem dX5_readClock_65 : decode cX5_readClock 65 = .ok (.return_, 1) := by decide +kernel
theorem dX5_readAlderman_0 : decode cX5_readAlderman 0 = .ok (.aload_n 0, 1) := by decide +kernel
theorem dX5_readAlderman_1 : decode cX5_readAlderman 1 = .ok (.getfield 19, 3) := by decide +kernel
theorem dX5_readAlderman_4 : decode cX5_readAlderman 4 = .ok (.getfield 85, 3) := by decide +kernel
theorem dX5_readAlderman_7 : decode cX5_readAlderman 7 = .ok (.istore_n 1, 1) := by decide +kernel
theorem dX5_readAlderman_8 : decode cX5_readAlderman 8 = .ok (.iload_n 1, 1) := by decide +kernel
theorem dX5_readAlderman_9 : decode cX5_readAlderman 9 = .ok (.bipush 7, 2) := by decide +kernel
theorem dX5_readAlderman_11 : decode cX5_readAlderman 11 = .ok (.if_icmp .lt 9, 3) := by decide +kernel
theorem dX5_readAlderman_14 : decode cX5_readAlderman 14 = .ok (.aload_n 0, 1) := by decide +kernel
theorem dX5_readAlderman_15 : decode cX5_readAlderman 15 = .ok (.iconst 2, 1) := by decide +kernel
theorem dX5_readAlderman_16 : decode cX5_readAlderman 16 = .ok (.putfield 36, 3) := by decide +kernel
theorem dX5_readAlderman_19 : decode cX5_readAlderman 19 = .ok (.return_, 1) := by decide +kernel
theorem dX5_readAlderman_20 : decode cX5_readAlderman 20 = .ok (.aload_n 0, 1) := by decide +kernel
theorem dX5_readAlderman_21 : decode cX5_readAlderman 21 = .ok (.invokevirtual 48, 3) := by decide +kernel
theorem dX5_readAlderman_24 : decode cX5_readAlderman 24 = .ok (.aload_n 0, 1) := by decide +kernel
theorem dX5_readAlderman_25 : decode cX5_readAlderman 25 = .ok (.getfield 19, 3) := by decide +kernel
theorem dX5_readAlderman_28 : decode cX5_readAlderman 28 = .ok (.getfield 88, 3) := by decide +kernel
theorem dX5_readAlderman_31 : decode cX5_readAlderman 31 = .ok (.iload_n 1, 1) := by decide +kernel
theorem dX5_readAlderman_32 : decode cX5_readAlderman 32 = .ok (.aload_n 0, 1) := by decide +kernel
theorem dX5_readAlderman_33 : decode cX5_readAlderman 33 = .ok (.bipush (-9), 2) := by decide +kernel
theorem dX5_readAlderman_35 : decode cX5_readAlderman 35 = .ok (.bipush 9, 2) := by decide +kernel
theorem dX5_readAlderman_37 : decode cX5_readAlderman 37 = .ok (.invokevirtual 73, 3) := by decide +kernel
theorem dX5_readAlderman_40 : decode cX5_readAlderman 40 = .ok (.iastore, 1) := by decide +kernel
theorem dX5_readAlderman_41 : decode cX5_readAlderman 41 = .ok (.aload_n 0, 1) := by decide +kernel
theorem dX5_readAlderman_42 : decode cX5_readAlderman 42 = .ok (.getfield 19, 3) := by decide +kernel
theorem dX5_readAlderman_45 : decode cX5_readAlderman 45 = .ok (.getfield 91, 3) := by decide +kernel
theorem dX5_readAlderman_48 : decode cX5_readAlderman 48 = .ok (.iload_n 1, 1) := by decide +kernel
theorem dX5_readAlderman_49 : decode cX5_readAlderman 49 = .ok (.aload_n 0, 1) := by decide +kernel
theorem dX5_readAlderman_50 : decode cX5_readAlderman 50 = .ok (.iconst 0, 1) := by decide +kernel
theorem dX5_readAlderman_51 : decode cX5_readAlderman 51 = .ok (.bipush 9, 2) := by decide +kernel
theorem dX5_readAlderman_53 : decode cX5_readAlderman 53 = .ok (.invokevirtual 73, 3) := by decide +kernel
theorem dX5_readAlderman_56 : decode cX5_readAlderman 56 = .ok (.iastore, 1) := by decide +kernel
theorem dX5_readAlderman_57 : decode cX5_readAlderman 57 = .ok (.aload_n 0, 1) := by decide +kernel
theorem dX5_readAlderman_58 : decode cX5_readAlderman 58 = .ok (.getfield 19, 3) := by decide +kernel
theorem dX5_readAlderman_61 : decode cX5_readAlderman 61 = .ok (.dup, 1) := by decide +kernel
theorem dX5_readAlderman_62 : decode cX5_readAlderman 62 = .ok (.getfield 85, 3) := by decide +kernel
theorem dX5_readAlderman_65 : decode cX5_readAlderman 65 = .ok (.iconst 1, 1) := by decide +kernel
theorem dX5_readAlderman_66 : decode cX5_readAlderman 66 = .ok (.iadd, 1) := by decide +kernel
theorem dX5_readAlderman_67 : decode cX5_readAlderman 67 = .ok (.putfield 85, 3) := by decide +kernel
theorem dX5_readAlderman_70 : decode cX5_readAlderman 70 = .ok (.return_, 1) := by decide +kernel
theorem dX5_readMotion_0 : decode cX5_readMotion 0 = .ok (.aload_n 0, 1) := by decide +kernel
theorem dX5_readMotion_1 : decode cX5_readMotion 1 = .ok (.getfield 19, 3) := by decide +kernel
theorem dX5_readMotion_4 : decode cX5_readMotion 4 = .ok (.getfield 94, 3) := by decide +kernel
theorem dX5_readMotion_7 : decode cX5_readMotion 7 = .ok (.istore_n 2, 1) := by decide +kernel
theorem dX5_readMotion_8 : decode cX5_readMotion 8 = .ok (.iload_n 2, 1) := by decide +kernel
theorem dX5_readMotion_9 : decode cX5_readMotion 9 = .ok (.bipush 10, 2) := by decide +kernel
theorem dX5_readMotion_11 : decode cX5_readMotion 11 = .ok (.if_icmp .lt 9, 3) := by decide +kernel
theorem dX5_readMotion_14 : decode cX5_readMotion 14 = .ok (.aload_n 0, 1) := by decide +kernel
theorem dX5_readMotion_15 : decode cX5_readMotion 15 = .ok (.iconst 2, 1) := by decide +kernel
theorem dX5_readMotion_16 : decode cX5_readMotion 16 = .ok (.putfield 36, 3) := by decide +kernel
theorem dX5_readMotion_19 : decode cX5_readMotion 19 = .ok (.return_, 1) := by decide +kernel
theorem dX5_readMotion_20 : decode cX5_readMotion 20 = .ok (.aload_n 0, 1) := by decide +kernel
theorem dX5_readMotion_21 : decode cX5_readMotion 21 = .ok (.invokevirtual 48, 3) := by decide +kernel
theorem dX5_readMotion_24 : decode cX5_readMotion 24 = .ok (.aload_n 0, 1) := by decide +kernel
theorem dX5_readMotion_25 : decode cX5_readMotion 25 = .ok (.getfield 19, 3) := by decide +kernel
theorem dX5_readMotion_28 : decode cX5_readMotion 28 = .ok (.getfield 97, 3) := by decide +kernel
theorem dX5_readMotion_31 : decode cX5_readMotion 31 = .ok (.iload_n 2, 1) := by decide +kernel
theorem dX5_readMotion_32 : decode cX5_readMotion 32 = .ok (.iload_n 1, 1) := by decide +kernel
theorem dX5_readMotion_33 : decode cX5_readMotion 33 = .ok (.iastore, 1) := by decide +kernel
theorem dX5_readMotion_34 : decode cX5_readMotion 34 = .ok (.aload_n 0, 1) := by decide +kernel
theorem dX5_readMotion_35 : decode cX5_readMotion 35 = .ok (.getfield 19, 3) := by decide +kernel
theorem dX5_readMotion_38 : decode cX5_readMotion 38 = .ok (.getfield 100, 3) := by decide +kernel
theorem dX5_readMotion_41 : decode cX5_readMotion 41 = .ok (.iload_n 2, 1) := by decide +kernel
theorem dX5_readMotion_42 : decode cX5_readMotion 42 = .ok (.aload_n 0, 1) := by decide +kernel
theorem dX5_readMotion_43 : decode cX5_readMotion 43 = .ok (.iconst 0, 1) := by decide +kernel
theorem dX5_readMotion_44 : decode cX5_readMotion 44 = .ok (.bipush 24, 2) := by decide +kernel
theorem dX5_readMotion_46 : decode cX5_readMotion 46 = .ok (.invokevirtual 73, 3) := by decide +kernel
theorem dX5_readMotion_49 : decode cX5_readMotion 49 = .ok (.iastore, 1) := by decide +kernel
theorem dX5_readMotion_50 : decode cX5_readMotion 50 = .ok (.aload_n 0, 1) := by decide +kernel
theorem dX5_readMotion_51 : decode cX5_readMotion 51 = .ok (.getfield 19, 3) := by decide +kernel
theorem dX5_readMotion_54 : decode cX5_readMotion 54 = .ok (.getfield 103, 3) := by decide +kernel
theorem dX5_readMotion_57 : decode cX5_readMotion 57 = .ok (.iload_n 2, 1) := by decide +kernel
theorem dX5_readMotion_58 : decode cX5_readMotion 58 = .ok (.aload_n 0, 1) := by decide +kernel
theorem dX5_readMotion_59 : decode cX5_readMotion 59 = .ok (.iconst 0, 1) := by decide +kernel
theorem dX5_readMotion_60 : decode cX5_readMotion 60 = .ok (.bipush 99, 2) := by decide +kernel
theorem dX5_readMotion_62 : decode cX5_readMotion 62 = .ok (.invokevirtual 73, 3) := by decide +kernel
theorem dX5_readMotion_65 : decode cX5_readMotion 65 = .ok (.iastore, 1) := by decide +kernel
theorem dX5_readMotion_66 : decode cX5_readMotion 66 = .ok (.aload_n 0, 1) := by decide +kernel
theorem dX5_readMotion_67 : decode cX5_readMotion 67 = .ok (.getfield 19, 3) := by decide +kernel
theorem dX5_readMotion_70 : decode cX5_readMotion 70 = .ok (.getfield 106, 3) := by decide +kernel
theorem dX5_readMotion_73 : decode cX5_readMotion 73 = .ok (.iload_n 2, 1) := by decide +kernel
theorem dX5_readMotion_74 : decode cX5_readMotion 74 = .ok (.aload_n 0, 1) := by decide +kernel
theorem dX5_readMotion_75 : decode cX5_readMotion 75 = .ok (.bipush (-9), 2) := by decide +kernel
theorem dX5_readMotion_77 : decode cX5_readMotion 77 = .ok (.bipush 9, 2) := by decide +kernel
theorem dX5_readMotion_79 : decode cX5_readMotion 79 = .ok (.invokevirtual 73, 3) := by decide +kernel
theorem dX5_readMotion_82 : decode cX5_readMotion 82 = .ok (.iastore, 1) := by decide +kernel
theorem dX5_readMotion_83 : decode cX5_readMotion 83 = .ok (.aload_n 0, 1) := by decide +kernel
theorem dX5_readMotion_84 : decode cX5_readMotion 84 = .ok (.getfield 19, 3) := by decide +kernel
theorem dX5_readMotion_87 : decode cX5_readMotion 87 = .ok (.getfield 109, 3) := by decide +kernel
theorem dX5_readMotion_90 : decode cX5_readMotion 90 = .ok (.iload_n 2, 1) := by decide +kernel
theorem dX5_readMotion_91 : decode cX5_readMotion 91 = .ok (.iconst (-1), 1) := by decide +kernel
theorem dX5_readMotion_92 : decode cX5_readMotion 92 = .ok (.iastore, 1) := by decide +kernel
theorem dX5_readMotion_93 : decode cX5_readMotion 93 = .ok (.aload_n 0, 1) := by decide +kernel
theorem dX5_readMotion_94 : decode cX5_readMotion 94 = .ok (.getfield 36, 3) := by decide +kernel
theorem dX5_readMotion_97 : decode cX5_readMotion 97 = .ok (.ifCond .ne 61, 3) := by decide +kernel
theorem dX5_readMotion_100 : decode cX5_readMotion 100 = .ok (.aload_n 0, 1) := by decide +kernel
theorem dX5_readMotion_101 : decode cX5_readMotion 101 = .ok (.getfield 51, 3) := by decide +kernel
theorem dX5_readMotion_104 : decode cX5_readMotion 104 = .ok (.bipush 20, 2) := by decide +kernel
theorem dX5_readMotion_106 : decode cX5_readMotion 106 = .ok (.if_icmp .ne 52, 3) := by decide +kernel
theorem dX5_readMotion_109 : decode cX5_readMotion 109 = .ok (.aload_n 0, 1) := by decide +kernel
theorem dX5_readMotion_110 : decode cX5_readMotion 110 = .ok (.invokevirtual 48, 3) := by decide +kernel
theorem dX5_readMotion_113 : decode cX5_readMotion 113 = .ok (.aload_n 0, 1) := by decide +kernel
theorem dX5_readMotion_114 : decode cX5_readMotion 114 = .ok (.getfield 51, 3) := by decide +kernel
theorem dX5_readMotion_117 : decode cX5_readMotion 117 = .ok (.iconst 2, 1) := by decide +kernel
theorem dX5_readMotion_118 : decode cX5_readMotion 118 = .ok (.if_icmp .ne 24, 3) := by decide +kernel
theorem dX5_readMotion_121 : decode cX5_readMotion 121 = .ok (.aload_n 0, 1) := by decide +kernel
theorem dX5_readMotion_122 : decode cX5_readMotion 122 = .ok (.getfield 112, 3) := by decide +kernel
theorem dX5_readMotion_125 : decode cX5_readMotion 125 = .ok (.iconst 4, 1) := by decide +kernel
theorem dX5_readMotion_126 : decode cX5_readMotion 126 = .ok (.if_icmp .gt 16, 3) := by decide +kernel
theorem dX5_readMotion_129 : decode cX5_readMotion 129 = .ok (.aload_n 0, 1) := by decide +kernel
theorem dX5_readMotion_130 : decode cX5_readMotion 130 = .ok (.getfield 115, 3) := by decide +kernel
theorem dX5_readMotion_133 : decode cX5_readMotion 133 = .ok (.iload_n 2, 1) := by decide +kernel
theorem dX5_readMotion_134 : decode cX5_readMotion 134 = .ok (.if_icmp .lt 8, 3) := by decide +kernel
theorem dX5_readMotion_137 : decode cX5_readMotion 137 = .ok (.aload_n 0, 1) := by decide +kernel
theorem dX5_readMotion_138 : decode cX5_readMotion 138 = .ok (.iconst 3, 1) := by decide +kernel
theorem dX5_readMotion_139 : decode cX5_readMotion 139 = .ok (.putfield 36, 3) := by decide +kernel
theorem dX5_readMotion_142 : decode cX5_readMotion 142 = .ok (.aload_n 0, 1) := by decide +kernel
theorem dX5_readMotion_143 : decode cX5_readMotion 143 = .ok (.getfield 19, 3) := by decide +kernel
theorem dX5_readMotion_146 : decode cX5_readMotion 146 = .ok (.getfield 109, 3) := by decide +kernel
theorem dX5_readMotion_149 : decode cX5_readMotion 149 = .ok (.iload_n 2, 1) := by decide +kernel
theorem dX5_readMotion_150 : decode cX5_readMotion 150 = .ok (.aload_n 0, 1) := by decide +kernel
theorem dX5_readMotion_151 : decode cX5_readMotion 151 = .ok (.iconst 0, 1) := by decide +kernel
theorem dX5_readMotion_152 : decode cX5_readMotion 152 = .ok (.bipush 9, 2) := by decide +kernel
theorem dX5_readMotion_154 : decode cX5_readMotion 154 = .ok (.invokevirtual 73, 3) := by decide +kernel
theorem dX5_readMotion_157 : decode cX5_readMotion 157 = .ok (.iastore, 1) := by decide +kernel
theorem dX5_readMotion_158 : decode cX5_readMotion 158 = .ok (.aload_n 0, 1) := by decide +kernel
theorem dX5_readMotion_159 : decode cX5_readMotion 159 = .ok (.getfield 19, 3) := by decide +kernel
theorem dX5_readMotion_162 : decode cX5_readMotion 162 = .ok (.dup, 1) := by decide +kernel
theorem dX5_readMotion_163 : decode cX5_readMotion 163 = .ok (.getfield 94, 3) := by decide +kernel
theorem dX5_readMotion_166 : decode cX5_readMotion 166 = .ok (.iconst 1, 1) := by decide +kernel
theorem dX5_readMotion_167 : decode cX5_readMotion 167 = .ok (.iadd, 1) := by decide +kernel
theorem dX5_readMotion_168 : decode cX5_readMotion 168 = .ok (.putfield 94, 3) := by decide +kernel
theorem dX5_readMotion_171 : decode cX5_readMotion 171 = .ok (.return_, 1) := by decide +kernel
theorem dX5_readNumber_0 : decode cX5_readNumber 0 = .ok (.aload_n 0, 1) := by decide +kernel
theorem dX5_readNumber_1 : decode cX5_readNumber 1 = .ok (.getfield 36, 3) := by decide +kernel
theorem dX5_readNumber_4 : decode cX5_readNumber 4 = .ok (.ifCond .ne 20, 3) := by decide +kernel
theorem dX5_readNumber_7 : decode cX5_readNumber 7 = .ok (.iload_n 1, 1) := by decide +kernel
theorem dX5_readNumber_8 : decode cX5_readNumber 8 = .ok (.ifCond .ge 16, 3) := by decide +kernel
theorem dX5_readNumber_11 : decode cX5_readNumber 11 = .ok (.aload_n 0, 1) := by decide +kernel
theorem dX5_readNumber_12 : decode cX5_readNumber 12 = .ok (.getfield 51, 3) := by decide +kernel
theorem dX5_readNumber_15 : decode cX5_readNumber 15 = .ok (.bipush 7, 2) := by decide +kernel
theorem dX5_readNumber_17 : decode cX5_readNumber 17 = .ok (.if_icmp .ne 7, 3) := by decide +kernel
theorem dX5_readNumber_20 : decode cX5_readNumber 20 = .ok (.iconst 1, 1) := by decide +kernel
theorem dX5_readNumber_21 : decode cX5_readNumber 21 = .ok (.goto 4, 3) := by decide +kernel
theorem dX5_readNumber_24 : decode cX5_readNumber 24 = .ok (.iconst 0, 1) := by decide +kernel
theorem dX5_readNumber_25 : decode cX5_readNumber 25 = .ok (.istore_n 3, 1) := by decide +kernel
theorem dX5_readNumber_26 : decode cX5_readNumber 26 = .ok (.iload_n 3, 1) := by decide +kernel
theorem dX5_readNumber_27 : decode cX5_readNumber 27 = .ok (.ifCond .eq 7, 3) := by decide +kernel
theorem dX5_readNumber_30 : decode cX5_readNumber 30 = .ok (.aload_n 0, 1) := by decide +kernel
theorem dX5_readNumber_31 : decode cX5_readNumber 31 = .ok (.invokevirtual 48, 3) := by decide +kernel
theorem dX5_readNumber_34 : decode cX5_readNumber 34 = .ok (.aload_n 0, 1) := by decide +kernel
theorem dX5_readNumber_35 : decode cX5_readNumber 35 = .ok (.getfield 36, 3) := by decide +kernel
theorem dX5_readNumber_38 : decode cX5_readNumber 38 = .ok (.ifCond .ne 16, 3) := by decide +kernel
theorem dX5_readNumber_41 : decode cX5_readNumber 41 = .ok (.aload_n 0, 1) := by decide +kernel
theorem dX5_readNumber_42 : decode cX5_readNumber 42 = .ok (.getfield 51, 3) := by decide +kernel
theorem dX5_readNumber_45 : decode cX5_readNumber 45 = .ok (.iconst 2, 1) := by decide +kernel
theorem dX5_readNumber_46 : decode cX5_readNumber 46 = .ok (.if_icmp .eq 8, 3) := by decide +kernel
theorem dX5_readNumber_49 : decode cX5_readNumber 49 = .ok (.aload_n 0, 1) := by decide +kernel
theorem dX5_readNumber_50 : decode cX5_readNumber 50 = .ok (.iconst 1, 1) := by decide +kernel
theorem dX5_readNumber_51 : decode cX5_readNumber 51 = .ok (.putfield 36, 3) := by decide +kernel
theorem dX5_readNumber_54 : decode cX5_readNumber 54 = .ok (.aload_n 0, 1) := by decide +kernel
theorem dX5_readNumber_55 : decode cX5_readNumber 55 = .ok (.getfield 36, 3) := by decide +kernel
theorem dX5_readNumber_58 : decode cX5_readNumber 58 = .ok (.ifCond .ne 24, 3) := by decide +kernel
theorem dX5_readNumber_61 : decode cX5_readNumber 61 = .ok (.aload_n 0, 1) := by decide +kernel
theorem dX5_readNumber_62 : decode cX5_readNumber 62 = .ok (.getfield 112, 3) := by decide +kernel
theorem dX5_readNumber_65 : decode cX5_readNumber 65 = .ok (.iconst 4, 1) := by decide +kernel
theorem dX5_readNumber_66 : decode cX5_readNumber 66 = .ok (.if_icmp .gt 11, 3) := by decide +kernel
theorem dX5_readNumber_69 : decode cX5_readNumber 69 = .ok (.aload_n 0, 1) := by decide +kernel
theorem dX5_readNumber_70 : decode cX5_readNumber 70 = .ok (.getfield 115, 3) := by decide +kernel
theorem dX5_readNumber_73 : decode cX5_readNumber 73 = .ok (.iload_n 2, 1) := by decide +kernel
theorem dX5_readNumber_74 : decode cX5_readNumber 74 = .ok (.if_icmp .le 8, 3) := by decide +kernel
theorem dX5_readNumber_77 : decode cX5_readNumber 77 = .ok (.aload_n 0, 1) := by decide +kernel
theorem dX5_readNumber_78 : decode cX5_readNumber 78 = .ok (.iconst 2, 1) := by decide +kernel
theorem dX5_readNumber_79 : decode cX5_readNumber 79 = .ok (.putfield 36, 3) := by decide +kernel
theorem dX5_readNumber_82 : decode cX5_readNumber 82 = .ok (.aload_n 0, 1) := by decide +kernel
theorem dX5_readNumber_83 : decode cX5_readNumber 83 = .ok (.getfield 36, 3) := by decide +kernel
theorem dX5_readNumber_86 : decode cX5_readNumber 86 = .ok (.ifCond .eq 5, 3) := by decide +kernel
theorem dX5_readNumber_89 : decode cX5_readNumber 89 = .ok (.iconst 0, 1) := by decide +kernel
theorem dX5_readNumber_90 : decode cX5_readNumber 90 = .ok (.ireturn, 1) := by decide +kernel
theorem dX5_readNumber_91 : decode cX5_readNumber 91 = .ok (.iload_n 3, 1) := by decide +kernel
theorem dX5_readNumber_92 : decode cX5_readNumber 92 = .ok (.ifCond .eq 11, 3) := by decide +kernel
theorem dX5_readNumber_95 : decode cX5_readNumber 95 = .ok (.aload_n 0, 1) := by decide +kernel
theorem dX5_readNumber_96 : decode cX5_readNumber 96 = .ok (.getfield 115, 3) := by decide +kernel
theorem dX5_readNumber_99 : decode cX5_readNumber 99 = .ok (.ineg, 1) := by decide +kernel
theorem dX5_readNumber_100 : decode cX5_readNumber 100 = .ok (.goto 7, 3) := by decide +kernel
theorem dX5_readNumber_103 : decode cX5_readNumber 103 = .ok (.aload_n 0, 1) := by decide +kernel
theorem dX5_readNumber_104 : decode cX5_readNumber 104 = .ok (.getfield 115, 3) := by decide +kernel
theorem dX5_readNumber_107 : decode cX5_readNumber 107 = .ok (.istore 4, 2) := by decide +kernel
theorem dX5_readNumber_109 : decode cX5_readNumber 109 = .ok (.aload_n 0, 1) := by decide +kernel
theorem dX5_readNumber_110 : decode cX5_readNumber 110 = .ok (.invokevirtual 48, 3) := by decide +kernel
theorem dX5_readNumber_113 : decode cX5_readNumber 113 = .ok (.iload 4, 2) := by decide +kernel
theorem dX5_readNumber_115 : decode cX5_readNumber 115 = .ok (.ireturn, 1) := by decide +kernel
theorem dX5_readRule_0 : decode cX5_readRule 0 = .ok (.aload_n 0, 1) := by decide +kernel
theorem dX5_readRule_1 : decode cX5_readRule 1 = .ok (.getfield 19, 3) := by decide +kernel
theorem dX5_readRule_4 : decode cX5_readRule 4 = .ok (.iload_n 1, 1) := by decide +kernel
theorem dX5_readRule_5 : decode cX5_readRule 5 = .ok (.invokevirtual 118, 3) := by decide +kernel
theorem dX5_readRule_8 : decode cX5_readRule 8 = .ok (.ifCond .eq 9, 3) := by decide +kernel
theorem dX5_readRule_11 : decode cX5_readRule 11 = .ok (.aload_n 0, 1) := by decide +kernel
theorem dX5_readRule_12 : decode cX5_readRule 12 = .ok (.iconst 5, 1) := by decide +kernel
theorem dX5_readRule_13 : decode cX5_readRule 13 = .ok (.putfield 36, 3) := by decide +kernel
theorem dX5_readRule_16 : decode cX5_readRule 16 = .ok (.return_, 1) := by decide +kernel
theorem dX5_readRule_17 : decode cX5_readRule 17 = .ok (.aload_n 0, 1) := by decide +kernel
theorem dX5_readRule_18 : decode cX5_readRule 18 = .ok (.invokevirtual 48, 3) := by decide +kernel
theorem dX5_readRule_21 : decode cX5_readRule 21 = .ok (.aload_n 0, 1) := by decide +kernel
theorem dX5_readRule_22 : decode cX5_readRule 22 = .ok (.iconst 0, 1) := by decide +kernel
theorem dX5_readRule_23 : decode cX5_readRule 23 = .ok (.putfield 122, 3) := by decide +kernel
theorem dX5_readRule_26 : decode cX5_readRule 26 = .ok (.aload_n 0, 1) := by decide +kernel
theorem dX5_readRule_27 : decode cX5_readRule 27 = .ok (.iconst 0, 1) := by decide +kernel
theorem dX5_readRule_28 : decode cX5_readRule 28 = .ok (.putfield 125, 3) := by decide +kernel
theorem dX5_readRule_31 : decode cX5_readRule 31 = .ok (.aload_n 0, 1) := by decide +kernel
theorem dX5_readRule_32 : decode cX5_readRule 32 = .ok (.iconst 0, 1) := by decide +kernel
theorem dX5_readRule_33 : decode cX5_readRule 33 = .ok (.putfield 128, 3) := by decide +kernel
theorem dX5_readRule_36 : decode cX5_readRule 36 = .ok (.aload_n 0, 1) := by decide +kernel
theorem dX5_readRule_37 : decode cX5_readRule 37 = .ok (.iconst 1, 1) := by decide +kernel
theorem dX5_readRule_38 : decode cX5_readRule 38 = .ok (.putfield 131, 3) := by decide +kernel
theorem dX5_readRule_41 : decode cX5_readRule 41 = .ok (.aload_n 0, 1) := by decide +kernel
theorem dX5_readRule_42 : decode cX5_readRule 42 = .ok (.iconst 1, 1) := by decide +kernel
theorem dX5_readRule_43 : decode cX5_readRule 43 = .ok (.putfield 134, 3) := by decide +kernel
theorem dX5_readRule_46 : decode cX5_readRule 46 = .ok (.aload_n 0, 1) := by decide +kernel
theorem dX5_readRule_47 : decode cX5_readRule 47 = .ok (.getfield 19, 3) := by decide +kernel
theorem dX5_readRule_50 : decode cX5_readRule 50 = .ok (.getfield 137, 3) := by decide +kernel
theorem dX5_readRule_53 : decode cX5_readRule 53 = .ok (.iload_n 1, 1) := by decide +kernel
theorem dX5_readRule_54 : decode cX5_readRule 54 = .ok (.aload_n 0, 1) := by decide +kernel
theorem dX5_readRule_55 : decode cX5_readRule 55 = .ok (.getfield 19, 3) := by decide +kernel
theorem dX5_readRule_58 : decode cX5_readRule 58 = .ok (.getfield 140, 3) := by decide +kernel
theorem dX5_readRule_61 : decode cX5_readRule 61 = .ok (.iastore, 1) := by decide +kernel
theorem dX5_readRule_62 : decode cX5_readRule 62 = .ok (.iconst 0, 1) := by decide +kernel
theorem dX5_readRule_63 : decode cX5_readRule 63 = .ok (.istore_n 2, 1) := by decide +kernel
theorem dX5_readRule_64 : decode cX5_readRule 64 = .ok (.iload_n 2, 1) := by decide +kernel
theorem dX5_readRule_65 : decode cX5_readRule 65 = .ok (.sipush 700, 3) := by decide +kernel
theorem dX5_readRule_68 : decode cX5_readRule 68 = .ok (.if_icmp .gt 53, 3) := by decide +kernel
theorem dX5_readRule_71 : decode cX5_readRule 71 = .ok (.aload_n 0, 1) := by decide +kernel
theorem dX5_readRule_72 : decode cX5_readRule 72 = .ok (.getfield 36, 3) := by decide +kernel
theorem dX5_readRule_75 : decode cX5_readRule 75 = .ok (.ifCond .ne 46, 3) := by decide +kernel
theorem dX5_readRule_78 : decode cX5_readRule 78 = .ok (.aload_n 0, 1) := by decide +kernel
theorem dX5_readRule_79 : decode cX5_readRule 79 = .ok (.invokevirtual 143, 3) := by decide +kernel
theorem dX5_readRule_82 : decode cX5_readRule 82 = .ok (.ifCond .ne 39, 3) := by decide +kernel
theorem dX5_readRule_85 : decode cX5_readRule 85 = .ok (.aload_n 0, 1) := by decide +kernel
theorem dX5_readRule_86 : decode cX5_readRule 86 = .ok (.getfield 131, 3) := by decide +kernel
theorem dX5_readRule_89 : decode cX5_readRule 89 = .ok (.ifCond .eq 11, 3) := by decide +kernel
theorem dX5_readRule_92 : decode cX5_readRule 92 = .ok (.aload_n 0, 1) := by decide +kernel
theorem dX5_readRule_93 : decode cX5_readRule 93 = .ok (.iload_n 1, 1) := by decide +kernel
theorem dX5_readRule_94 : decode cX5_readRule 94 = .ok (.invokevirtual 147, 3) := by decide +kernel
theorem dX5_readRule_97 : decode cX5_readRule 97 = .ok (.goto 7, 3) := by decide +kernel
theorem dX5_readRule_100 : decode cX5_readRule 100 = .ok (.aload_n 0, 1) := by decide +kernel
theorem dX5_readRule_101 : decode cX5_readRule 101 = .ok (.invokevirtual 150, 3) := by decide +kernel
theorem dX5_readRule_104 : decode cX5_readRule 104 = .ok (.aload_n 0, 1) := by decide +kernel
theorem dX5_readRule_105 : decode cX5_readRule 105 = .ok (.getfield 36, 3) := by decide +kernel
theorem dX5_readRule_108 : decode cX5_readRule 108 = .ok (.ifCond .ne 7, 3) := by decide +kernel
theorem dX5_readRule_111 : decode cX5_readRule 111 = .ok (.aload_n 0, 1) := by decide +kernel
theorem dX5_readRule_112 : decode cX5_readRule 112 = .ok (.invokevirtual 48, 3) := by decide +kernel
theorem dX5_readRule_115 : decode cX5_readRule 115 = .ok (.iinc 2 1, 3) := by decide +kernel
theorem dX5_readRule_118 : decode cX5_readRule 118 = .ok (.goto (-54), 3) := by decide +kernel
theorem dX5_readRule_121 : decode cX5_readRule 121 = .ok (.aload_n 0, 1) := by decide +kernel
theorem dX5_readRule_122 : decode cX5_readRule 122 = .ok (.iconst 1, 1) := by decide +kernel
theorem dX5_readRule_123 : decode cX5_readRule 123 = .ok (.invokevirtual 153, 3) := by decide +kernel
theorem dX5_readRule_126 : decode cX5_readRule 126 = .ok (.aload_n 0, 1) := by decide +kernel
theorem dX5_readRule_127 : decode cX5_readRule 127 = .ok (.getfield 19, 3) := by decide +kernel
theorem dX5_readRule_130 : decode cX5_readRule 130 = .ok (.getfield 156, 3) := by decide +kernel
theorem dX5_readRule_133 : decode cX5_readRule 133 = .ok (.iload_n 1, 1) := by decide +kernel
theorem dX5_readRule_134 : decode cX5_readRule 134 = .ok (.aload_n 0, 1) := by decide +kernel
theorem dX5_readRule_135 : decode cX5_readRule 135 = .ok (.getfield 19, 3) := by decide +kernel
theorem dX5_readRule_138 : decode cX5_readRule 138 = .ok (.getfield 140, 3) := by decide +kernel
theorem dX5_readRule_141 : decode cX5_readRule 141 = .ok (.iastore, 1) := by decide +kernel
theorem dX5_readRule_142 : decode cX5_readRule 142 = .ok (.return_, 1) := by decide +kernel
theorem dX5_ruleEnds_0 : decode cX5_ruleEnds 0 = .ok (.aload_n 0, 1) := by decide +kernel
theorem dX5_ruleEnds_1 : decode cX5_ruleEnds 1 = .ok (.getfield 51, 3) := by decide +kernel
theorem dX5_ruleEnds_4 : decode cX5_ruleEnds 4 = .ok (.iconst 3, 1) := by decide +kernel
theorem dX5_ruleEnds_5 : decode cX5_ruleEnds 5 = .ok (.if_icmp .ne 21, 3) := by decide +kernel
theorem dX5_ruleEnds_8 : decode cX5_ruleEnds 8 = .ok (.aload_n 0, 1) := by decide +kernel
theorem dX5_ruleEnds_9 : decode cX5_ruleEnds 9 = .ok (.getfield 131, 3) := by decide +kernel
theorem dX5_ruleEnds_12 : decode cX5_ruleEnds 12 = .ok (.ifCond .ne 14, 3) := by decide +kernel
theorem dX5_ruleEnds_15 : decode cX5_ruleEnds 15 = .ok (.aload_n 0, 1) := by decide +kernel
theorem dX5_ruleEnds_16 : decode cX5_ruleEnds 16 = .ok (.getfield 125, 3) := by decide +kernel
theorem dX5_ruleEnds_19 : decode cX5_ruleEnds 19 = .ok (.ifCond .ne 7, 3) := by decide +kernel
theorem dX5_ruleEnds_22 : decode cX5_ruleEnds 22 = .ok (.iconst 1, 1) := by decide +kernel
theorem dX5_ruleEnds_23 : decode cX5_ruleEnds 23 = .ok (.goto 4, 3) := by decide +kernel
theorem dX5_ruleEnds_26 : decode cX5_ruleEnds 26 = .ok (.iconst 0, 1) := by decide +kernel
theorem dX5_ruleEnds_27 : decode cX5_ruleEnds 27 = .ok (.ireturn, 1) := by decide +kernel
theorem dX5_readPart_0 : decode cX5_readPart 0 = .ok (.aload_n 0, 1) := by decide +kernel
theorem dX5_readPart_1 : decode cX5_readPart 1 = .ok (.getfield 51, 3) := by decide +kernel
theorem dX5_readPart_4 : decode cX5_readPart 4 = .ok (.bipush 12, 2) := by decide +kernel
theorem dX5_readPart_6 : decode cX5_readPart 6 = .ok (.if_icmp .lt 7, 3) := by decide +kernel
theorem dX5_readPart_9 : decode cX5_readPart 9 = .ok (.iconst 1, 1) := by decide +kernel
theorem dX5_readPart_10 : decode cX5_readPart 10 = .ok (.goto 4, 3) := by decide +kernel
theorem dX5_readPart_13 : decode cX5_readPart 13 = .ok (.iconst 0, 1) := by decide +kernel
theorem dX5_readPart_14 : decode cX5_readPart 14 = .ok (.istore_n 2, 1) := by decide +kernel
theorem dX5_readPart_15 : decode cX5_readPart 15 = .ok (.aload_n 0, 1) := by decide +kernel
theorem dX5_readPart_16 : decode cX5_readPart 16 = .ok (.getfield 51, 3) := by decide +kernel
theorem dX5_readPart_19 : decode cX5_readPart 19 = .ok (.iconst 2, 1) := by decide +kernel
theorem dX5_readPart_20 : decode cX5_readPart 20 = .ok (.if_icmp .eq 23, 3) := by decide +kernel
theorem dX5_readPart_23 : decode cX5_readPart 23 = .ok (.aload_n 0, 1) := by decide +kernel
theorem dX5_readPart_24 : decode cX5_readPart 24 = .ok (.getfield 51, 3) := by decide +kernel
theorem dX5_readPart_27 : decode cX5_readPart 27 = .ok (.iconst 4, 1) := by decide +kernel
theorem dX5_readPart_28 : decode cX5_readPart 28 = .ok (.if_icmp .eq 15, 3) := by decide +kernel
theorem dX5_readPart_31 : decode cX5_readPart 31 = .ok (.iload_n 2, 1) := by decide +kernel
theorem dX5_readPart_32 : decode cX5_readPart 32 = .ok (.ifCond .ne 11, 3) := by decide +kernel
theorem dX5_readPart_35 : decode cX5_readPart 35 = .ok (.aload_n 0, 1) := by decide +kernel
theorem dX5_readPart_36 : decode cX5_readPart 36 = .ok (.iconst 1, 1) := by decide +kernel
theorem dX5_readPart_37 : decode cX5_readPart 37 = .ok (.putfield 36, 3) := by decide +kernel
theorem dX5_readPart_40 : decode cX5_readPart 40 = .ok (.goto 124, 3) := by decide +kernel
theorem dX5_readPart_43 : decode cX5_readPart 43 = .ok (.aload_n 0, 1) := by decide +kernel
theorem dX5_readPart_44 : decode cX5_readPart 44 = .ok (.getfield 125, 3) := by decide +kernel
theorem dX5_readPart_47 : decode cX5_readPart 47 = .ok (.bipush 6, 2) := by decide +kernel
theorem dX5_readPart_49 : decode cX5_readPart 49 = .ok (.if_icmp .ge 19, 3) := by decide +kernel
theorem dX5_readPart_52 : decode cX5_readPart 52 = .ok (.aload_n 0, 1) := by decide +kernel
theorem dX5_readPart_53 : decode cX5_readPart 53 = .ok (.getfield 51, 3) := by decide +kernel
theorem dX5_readPart_56 : decode cX5_readPart 56 = .ok (.iconst 2, 1) := by decide +kernel
theorem dX5_readPart_57 : decode cX5_readPart 57 = .ok (.if_icmp .ne 19, 3) := by decide +kernel
theorem dX5_readPart_60 : decode cX5_readPart 60 = .ok (.aload_n 0, 1) := by decide +kernel
theorem dX5_readPart_61 : decode cX5_readPart 61 = .ok (.getfield 112, 3) := by decide +kernel
theorem dX5_readPart_64 : decode cX5_readPart 64 = .ok (.iconst 4, 1) := by decide +kernel
theorem dX5_readPart_65 : decode cX5_readPart 65 = .ok (.if_icmp .le 11, 3) := by decide +kernel
theorem dX5_readPart_68 : decode cX5_readPart 68 = .ok (.aload_n 0, 1) := by decide +kernel
theorem dX5_readPart_69 : decode cX5_readPart 69 = .ok (.iconst 2, 1) := by decide +kernel
theorem dX5_readPart_70 : decode cX5_readPart 70 = .ok (.putfield 36, 3) := by decide +kernel
theorem dX5_readPart_73 : decode cX5_readPart 73 = .ok (.goto 91, 3) := by decide +kernel
theorem dX5_readPart_76 : decode cX5_readPart 76 = .ok (.aload_n 0, 1) := by decide +kernel
theorem dX5_readPart_77 : decode cX5_readPart 77 = .ok (.getfield 51, 3) := by decide +kernel
theorem dX5_readPart_80 : decode cX5_readPart 80 = .ok (.iconst 2, 1) := by decide +kernel
theorem dX5_readPart_81 : decode cX5_readPart 81 = .ok (.if_icmp .ne 19, 3) := by decide +kernel
theorem dX5_readPart_84 : decode cX5_readPart 84 = .ok (.aload_n 0, 1) := by decide +kernel
theorem dX5_readPart_85 : decode cX5_readPart 85 = .ok (.aload_n 0, 1) := by decide +kernel
theorem dX5_readPart_86 : decode cX5_readPart 86 = .ok (.getfield 115, 3) := by decide +kernel
theorem dX5_readPart_89 : decode cX5_readPart 89 = .ok (.invokevirtual 159, 3) := by decide +kernel
theorem dX5_readPart_92 : decode cX5_readPart 92 = .ok (.aload_n 0, 1) := by decide +kernel
theorem dX5_readPart_93 : decode cX5_readPart 93 = .ok (.iconst 0, 1) := by decide +kernel
theorem dX5_readPart_94 : decode cX5_readPart 94 = .ok (.putfield 131, 3) := by decide +kernel
theorem dX5_readPart_97 : decode cX5_readPart 97 = .ok (.goto 67, 3) := by decide +kernel
theorem dX5_readPart_100 : decode cX5_readPart 100 = .ok (.aload_n 0, 1) := by decide +kernel
theorem dX5_readPart_101 : decode cX5_readPart 101 = .ok (.getfield 51, 3) := by decide +kernel
theorem dX5_readPart_104 : decode cX5_readPart 104 = .ok (.iconst 4, 1) := by decide +kernel
theorem dX5_readPart_105 : decode cX5_readPart 105 = .ok (.if_icmp .ne 31, 3) := by decide +kernel
theorem dX5_readPart_108 : decode cX5_readPart 108 = .ok (.aload_n 0, 1) := by decide +kernel
theorem dX5_readPart_109 : decode cX5_readPart 109 = .ok (.iconst 0, 1) := by decide +kernel
theorem dX5_readPart_110 : decode cX5_readPart 110 = .ok (.invokevirtual 162, 3) := by decide +kernel
theorem dX5_readPart_113 : decode cX5_readPart 113 = .ok (.aload_n 0, 1) := by decide +kernel
theorem dX5_readPart_114 : decode cX5_readPart 114 = .ok (.dup, 1) := by decide +kernel
theorem dX5_readPart_115 : decode cX5_readPart 115 = .ok (.getfield 125, 3) := by decide +kernel
theorem dX5_readPart_118 : decode cX5_readPart 118 = .ok (.iconst 1, 1) := by decide +kernel
theorem dX5_readPart_119 : decode cX5_readPart 119 = .ok (.iadd, 1) := by decide +kernel
theorem dX5_readPart_120 : decode cX5_readPart 120 = .ok (.putfield 125, 3) := by decide +kernel
theorem dX5_readPart_123 : decode cX5_readPart 123 = .ok (.aload_n 0, 1) := by decide +kernel
theorem dX5_readPart_124 : decode cX5_readPart 124 = .ok (.iconst 0, 1) := by decide +kernel
theorem dX5_readPart_125 : decode cX5_readPart 125 = .ok (.putfield 128, 3) := by decide +kernel
theorem dX5_readPart_128 : decode cX5_readPart 128 = .ok (.aload_n 0, 1) := by decide +kernel
theorem dX5_readPart_129 : decode cX5_readPart 129 = .ok (.iconst 1, 1) := by decide +kernel
theorem dX5_readPart_130 : decode cX5_readPart 130 = .ok (.putfield 134, 3) := by decide +kernel
theorem dX5_readPart_133 : decode cX5_readPart 133 = .ok (.goto 31, 3) := by decide +kernel
theorem dX5_readPart_136 : decode cX5_readPart 136 = .ok (.aload_n 0, 1) := by decide +kernel
theorem dX5_readPart_137 : decode cX5_readPart 137 = .ok (.getfield 51, 3) := by decide +kernel
theorem dX5_readPart_140 : decode cX5_readPart 140 = .ok (.bipush 23, 2) := by decide +kernel
theorem dX5_readPart_142 : decode cX5_readPart 142 = .ok (.if_icmp .ne 17, 3) := by decide +kernel
theorem dX5_readPart_145 : decode cX5_readPart 145 = .ok (.aload_n 0, 1) := by decide +kernel
theorem dX5_readPart_146 : decode cX5_readPart 146 = .ok (.getfield 134, 3) := by decide +kernel
theorem dX5_readPart_149 : decode cX5_readPart 149 = .ok (.ifCond .eq 10, 3) := by decide +kernel
theorem dX5_readPart_152 : decode cX5_readPart 152 = .ok (.aload_n 0, 1) := by decide +kernel
theorem dX5_readPart_153 : decode cX5_readPart 153 = .ok (.invokevirtual 165, 3) := by decide +kernel
theorem dX5_readPart_156 : decode cX5_readPart 156 = .ok (.goto 8, 3) := by decide +kernel
theorem dX5_readPart_159 : decode cX5_readPart 159 = .ok (.aload_n 0, 1) := by decide +kernel
theorem dX5_readPart_160 : decode cX5_readPart 160 = .ok (.iload_n 1, 1) := by decide +kernel
theorem dX5_readPart_161 : decode cX5_readPart 161 = .ok (.invokevirtual 168, 3) := by decide +kernel
theorem dX5_readPart_164 : decode cX5_readPart 164 = .ok (.return_, 1) := by decide +kernel
theorem dX5_readNot_0 : decode cX5_readNot 0 = .ok (.aload_n 0, 1) := by decide +kernel
theorem dX5_readNot_1 : decode cX5_readNot 1 = .ok (.getfield 128, 3) := by decide +kernel
theorem dX5_readNot_4 : decode cX5_readNot 4 = .ok (.bipush 6, 2) := by decide +kernel
theorem dX5_readNot_6 : decode cX5_readNot 6 = .ok (.if_icmp .lt 9, 3) := by decide +kernel
theorem dX5_readNot_9 : decode cX5_readNot 9 = .ok (.aload_n 0, 1) := by decide +kernel
theorem dX5_readNot_10 : decode cX5_readNot 10 = .ok (.iconst 2, 1) := by decide +kernel
theorem dX5_readNot_11 : decode cX5_readNot 11 = .ok (.putfield 36, 3) := by decide +kernel
theorem dX5_readNot_14 : decode cX5_readNot 14 = .ok (.return_, 1) := by decide +kernel
theorem dX5_readNot_15 : decode cX5_readNot 15 = .ok (.aload_n 0, 1) := by decide +kernel
theorem dX5_readNot_16 : decode cX5_readNot 16 = .ok (.dup, 1) := by decide +kernel
theorem dX5_readNot_17 : decode cX5_readNot 17 = .ok (.getfield 128, 3) := by decide +kernel
theorem dX5_readNot_20 : decode cX5_readNot 20 = .ok (.iconst 1, 1) := by decide +kernel
theorem dX5_readNot_21 : decode cX5_readNot 21 = .ok (.iadd, 1) := by decide +kernel
theorem dX5_readNot_22 : decode cX5_readNot 22 = .ok (.putfield 128, 3) := by decide +kernel
theorem dX5_readNot_25 : decode cX5_readNot 25 = .ok (.aload_n 0, 1) := by decide +kernel
theorem dX5_readNot_26 : decode cX5_readNot 26 = .ok (.bipush (-7), 2) := by decide +kernel
theorem dX5_readNot_28 : decode cX5_readNot 28 = .ok (.invokevirtual 162, 3) := by decide +kernel
theorem dX5_readNot_31 : decode cX5_readNot 31 = .ok (.return_, 1) := by decide +kernel
theorem dX5_readValue_0 : decode cX5_readValue 0 = .ok (.iload_n 1, 1) := by decide +kernel
theorem dX5_readValue_1 : decode cX5_readValue 1 = .ok (.ifCond .ne 8, 3) := by decide +kernel
theorem dX5_readValue_4 : decode cX5_readValue 4 = .ok (.bipush 24, 2) := by decide +kernel
theorem dX5_readValue_6 : decode cX5_readValue 6 = .ok (.goto 5, 3) := by decide +kernel
theorem dX5_readValue_9 : decode cX5_readValue 9 = .ok (.bipush 28, 2) := by decide +kernel
theorem dX5_readValue_11 : decode cX5_readValue 11 = .ok (.istore_n 2, 1) := by decide +kernel
theorem dX5_readValue_12 : decode cX5_readValue 12 = .ok (.iload_n 1, 1) := by decide +kernel
theorem dX5_readValue_13 : decode cX5_readValue 13 = .ok (.ifCond .ne 8, 3) := by decide +kernel
theorem dX5_readValue_16 : decode cX5_readValue 16 = .ok (.bipush 28, 2) := by decide +kernel
theorem dX5_readValue_18 : decode cX5_readValue 18 = .ok (.goto 5, 3) := by decide +kernel
theorem dX5_readValue_21 : decode cX5_readValue 21 = .ok (.bipush 34, 2) := by decide +kernel
theorem dX5_readValue_23 : decode cX5_readValue 23 = .ok (.istore_n 3, 1) := by decide +kernel
theorem dX5_readValue_24 : decode cX5_readValue 24 = .ok (.aload_n 0, 1) := by decide +kernel
theorem dX5_readValue_25 : decode cX5_readValue 25 = .ok (.getfield 51, 3) := by decide +kernel
theorem dX5_readValue_28 : decode cX5_readValue 28 = .ok (.iload_n 2, 1) := by decide +kernel
theorem dX5_readValue_29 : decode cX5_readValue 29 = .ok (.if_icmp .lt 11, 3) := by decide +kernel
theorem dX5_readValue_32 : decode cX5_readValue 32 = .ok (.aload_n 0, 1) := by decide +kernel
theorem dX5_readValue_33 : decode cX5_readValue 33 = .ok (.getfield 51, 3) := by decide +kernel
theorem dX5_readValue_36 : decode cX5_readValue 36 = .ok (.iload_n 3, 1) := by decide +kernel
theorem dX5_readValue_37 : decode cX5_readValue 37 = .ok (.if_icmp .lt 9, 3) := by decide +kernel
theorem dX5_readValue_40 : decode cX5_readValue 40 = .ok (.aload_n 0, 1) := by decide +kernel
theorem dX5_readValue_41 : decode cX5_readValue 41 = .ok (.iconst 3, 1) := by decide +kernel
theorem dX5_readValue_42 : decode cX5_readValue 42 = .ok (.putfield 36, 3) := by decide +kernel
theorem dX5_readValue_45 : decode cX5_readValue 45 = .ok (.return_, 1) := by decide +kernel
theorem dX5_readValue_46 : decode cX5_readValue 46 = .ok (.aload_n 0, 1) := by decide +kernel
theorem dX5_readValue_47 : decode cX5_readValue 47 = .ok (.iload_n 2, 1) := by decide +kernel
theorem dX5_readValue_48 : decode cX5_readValue 48 = .ok (.aload_n 0, 1) := by decide +kernel
theorem dX5_readValue_49 : decode cX5_readValue 49 = .ok (.getfield 51, 3) := by decide +kernel
theorem dX5_readValue_52 : decode cX5_readValue 52 = .ok (.isub, 1) := by decide +kernel
theorem dX5_readValue_53 : decode cX5_readValue 53 = .ok (.iconst 1, 1) := by decide +kernel
theorem dX5_readValue_54 : decode cX5_readValue 54 = .ok (.isub, 1) := by decide +kernel
theorem dX5_readValue_55 : decode cX5_readValue 55 = .ok (.invokevirtual 159, 3) := by decide +kernel
theorem dX5_readValue_58 : decode cX5_readValue 58 = .ok (.aload_n 0, 1) := by decide +kernel
theorem dX5_readValue_59 : decode cX5_readValue 59 = .ok (.iconst 0, 1) := by decide +kernel
theorem dX5_readValue_60 : decode cX5_readValue 60 = .ok (.putfield 131, 3) := by decide +kernel
theorem dX5_readValue_63 : decode cX5_readValue 63 = .ok (.return_, 1) := by decide +kernel
theorem dX5_readBehindPart_0 : decode cX5_readBehindPart 0 = .ok (.aload_n 0, 1) := by decide +kernel
theorem dX5_readBehindPart_1 : decode cX5_readBehindPart 1 = .ok (.getfield 51, 3) := by decide +kernel
theorem dX5_readBehindPart_4 : decode cX5_readBehindPart 4 = .ok (.invokestatic 171, 3) := by decide +kernel
theorem dX5_readBehindPart_7 : decode cX5_readBehindPart 7 = .ok (.istore_n 1, 1) := by decide +kernel
theorem dX5_readBehindPart_8 : decode cX5_readBehindPart 8 = .ok (.iload_n 1, 1) := by decide +kernel
theorem dX5_readBehindPart_9 : decode cX5_readBehindPart 9 = .ok (.ifCond .ne 24, 3) := by decide +kernel
theorem dX5_readBehindPart_12 : decode cX5_readBehindPart 12 = .ok (.aload_n 0, 1) := by decide +kernel
theorem dX5_readBehindPart_13 : decode cX5_readBehindPart 13 = .ok (.getfield 51, 3) := by decide +kernel
theorem dX5_readBehindPart_16 : decode cX5_readBehindPart 16 = .ok (.iconst 5, 1) := by decide +kernel
theorem dX5_readBehindPart_17 : decode cX5_readBehindPart 17 = .ok (.if_icmp .ne 10, 3) := by decide +kernel
theorem dX5_readBehindPart_20 : decode cX5_readBehindPart 20 = .ok (.aload_n 0, 1) := by decide +kernel
theorem dX5_readBehindPart_21 : decode cX5_readBehindPart 21 = .ok (.getfield 125, 3) := by decide +kernel
theorem dX5_readBehindPart_24 : decode cX5_readBehindPart 24 = .ok (.ifCond .ne 9, 3) := by decide +kernel
theorem dX5_readBehindPart_27 : decode cX5_readBehindPart 27 = .ok (.aload_n 0, 1) := by decide +kernel
theorem dX5_readBehindPart_28 : decode cX5_readBehindPart 28 = .ok (.iconst 1, 1) := by decide +kernel
theorem dX5_readBehindPart_29 : decode cX5_readBehindPart 29 = .ok (.putfield 36, 3) := by decide +kernel
theorem dX5_readBehindPart_32 : decode cX5_readBehindPart 32 = .ok (.return_, 1) := by decide +kernel
theorem dX5_readBehindPart_33 : decode cX5_readBehindPart 33 = .ok (.iload_n 1, 1) := by decide +kernel
theorem dX5_readBehindPart_34 : decode cX5_readBehindPart 34 = .ok (.ifCond .ne 29, 3) := by decide +kernel
theorem dX5_readBehindPart_37 : decode cX5_readBehindPart 37 = .ok (.aload_n 0, 1) := by decide +kernel
theorem dX5_readBehindPart_38 : decode cX5_readBehindPart 38 = .ok (.iconst 1, 1) := by decide +kernel
theorem dX5_readBehindPart_39 : decode cX5_readBehindPart 39 = .ok (.invokevirtual 153, 3) := by decide +kernel
theorem dX5_readBehindPart_42 : decode cX5_readBehindPart 42 = .ok (.aload_n 0, 1) := by decide +kernel
theorem dX5_readBehindPart_43 : decode cX5_readBehindPart 43 = .ok (.dup, 1) := by decide +kernel
theorem dX5_readBehindPart_44 : decode cX5_readBehindPart 44 = .ok (.getfield 122, 3) := by decide +kernel
theorem dX5_readBehindPart_47 : decode cX5_readBehindPart 47 = .ok (.iconst 1, 1) := by decide +kernel
theorem dX5_readBehindPart_48 : decode cX5_readBehindPart 48 = .ok (.isub, 1) := by decide +kernel
theorem dX5_readBehindPart_49 : decode cX5_readBehindPart 49 = .ok (.putfield 122, 3) := by decide +kernel
theorem dX5_readBehindPart_52 : decode cX5_readBehindPart 52 = .ok (.aload_n 0, 1) := by decide +kernel
theorem dX5_readBehindPart_53 : decode cX5_readBehindPart 53 = .ok (.dup, 1) := by decide +kernel
theorem dX5_readBehindPart_54 : decode cX5_readBehindPart 54 = .ok (.getfield 125, 3) := by decide +kernel
theorem dX5_readBehindPart_57 : decode cX5_readBehindPart 57 = .ok (.iconst 1, 1) := by decide +kernel
theorem dX5_readBehindPart_58 : decode cX5_readBehindPart 58 = .ok (.isub, 1) := by decide +kernel
theorem dX5_readBehindPart_59 : decode cX5_readBehindPart 59 = .ok (.putfield 125, 3) := by decide +kernel
theorem dX5_readBehindPart_62 : decode cX5_readBehindPart 62 = .ok (.return_, 1) := by decide +kernel
theorem dX5_readBehindPart_63 : decode cX5_readBehindPart 63 = .ok (.iload_n 1, 1) := by decide +kernel
theorem dX5_readBehindPart_64 : decode cX5_readBehindPart 64 = .ok (.bipush (-10), 2) := by decide +kernel
theorem dX5_readBehindPart_66 : decode cX5_readBehindPart 66 = .ok (.if_icmp .eq 9, 3) := by decide +kernel
theorem dX5_readBehindPart_69 : decode cX5_readBehindPart 69 = .ok (.iload_n 1, 1) := by decide +kernel
theorem dX5_readBehindPart_70 : decode cX5_readBehindPart 70 = .ok (.bipush (-11), 2) := by decide +kernel
theorem dX5_readBehindPart_72 : decode cX5_readBehindPart 72 = .ok (.if_icmp .ne 7, 3) := by decide +kernel
theorem dX5_readBehindPart_75 : decode cX5_readBehindPart 75 = .ok (.iconst 1, 1) := by decide +kernel
theorem dX5_readBehindPart_76 : decode cX5_readBehindPart 76 = .ok (.goto 4, 3) := by decide +kernel
theorem dX5_readBehindPart_79 : decode cX5_readBehindPart 79 = .ok (.iconst 0, 1) := by decide +kernel
theorem dX5_readBehindPart_80 : decode cX5_readBehindPart 80 = .ok (.istore_n 2, 1) := by decide +kernel
theorem dX5_readBehindPart_81 : decode cX5_readBehindPart 81 = .ok (.aload_n 0, 1) := by decide +kernel
theorem dX5_readBehindPart_82 : decode cX5_readBehindPart 82 = .ok (.iload_n 2, 1) := by decide +kernel
theorem dX5_readBehindPart_83 : decode cX5_readBehindPart 83 = .ok (.ifCond .eq 12, 3) := by decide +kernel
theorem dX5_readBehindPart_86 : decode cX5_readBehindPart 86 = .ok (.iload_n 1, 1) := by decide +kernel
theorem dX5_readBehindPart_87 : decode cX5_readBehindPart 87 = .ok (.invokestatic 175, 3) := by decide +kernel
theorem dX5_readBehindPart_90 : decode cX5_readBehindPart 90 = .ok (.iconst 1, 1) := by decide +kernel
theorem dX5_readBehindPart_91 : decode cX5_readBehindPart 91 = .ok (.iadd, 1) := by decide +kernel
theorem dX5_readBehindPart_92 : decode cX5_readBehindPart 92 = .ok (.goto 7, 3) := by decide +kernel
theorem dX5_readBehindPart_95 : decode cX5_readBehindPart 95 = .ok (.iload_n 1, 1) := by decide +kernel
theorem dX5_readBehindPart_96 : decode cX5_readBehindPart 96 = .ok (.invokestatic 175, 3) := by decide +kernel
theorem dX5_readBehindPart_99 : decode cX5_readBehindPart 99 = .ok (.invokevirtual 153, 3) := by decide +kernel
theorem dX5_readBehindPart_102 : decode cX5_readBehindPart 102 = .ok (.iload_n 2, 1) := by decide +kernel
theorem dX5_readBehindPart_103 : decode cX5_readBehindPart 103 = .ok (.ifCond .eq 37, 3) := by decide +kernel
theorem dX5_readBehindPart_106 : decode cX5_readBehindPart 106 = .ok (.aload_n 0, 1) := by decide +kernel
theorem dX5_readBehindPart_107 : decode cX5_readBehindPart 107 = .ok (.getfield 122, 3) := by decide +kernel
theorem dX5_readBehindPart_110 : decode cX5_readBehindPart 110 = .ok (.ifCond .le 30, 3) := by decide +kernel
theorem dX5_readBehindPart_113 : decode cX5_readBehindPart 113 = .ok (.aload_n 0, 1) := by decide +kernel
theorem dX5_readBehindPart_114 : decode cX5_readBehindPart 114 = .ok (.getfield 9, 3) := by decide +kernel
theorem dX5_readBehindPart_117 : decode cX5_readBehindPart 117 = .ok (.aload_n 0, 1) := by decide +kernel
theorem dX5_readBehindPart_118 : decode cX5_readBehindPart 118 = .ok (.getfield 122, 3) := by decide +kernel
theorem dX5_readBehindPart_121 : decode cX5_readBehindPart 121 = .ok (.iconst 1, 1) := by decide +kernel
theorem dX5_readBehindPart_122 : decode cX5_readBehindPart 122 = .ok (.isub, 1) := by decide +kernel
theorem dX5_readBehindPart_123 : decode cX5_readBehindPart 123 = .ok (.iaload, 1) := by decide +kernel
theorem dX5_readBehindPart_124 : decode cX5_readBehindPart 124 = .ok (.invokestatic 175, 3) := by decide +kernel
theorem dX5_readBehindPart_127 : decode cX5_readBehindPart 127 = .ok (.iload_n 1, 1) := by decide +kernel
theorem dX5_readBehindPart_128 : decode cX5_readBehindPart 128 = .ok (.invokestatic 175, 3) := by decide +kernel
theorem dX5_readBehindPart_131 : decode cX5_readBehindPart 131 = .ok (.if_icmp .ne 9, 3) := by decide +kernel
theorem dX5_readBehindPart_134 : decode cX5_readBehindPart 134 = .ok (.aload_n 0, 1) := by decide +kernel
theorem dX5_readBehindPart_135 : decode cX5_readBehindPart 135 = .ok (.iconst 1, 1) := by decide +kernel
theorem dX5_readBehindPart_136 : decode cX5_readBehindPart 136 = .ok (.putfield 36, 3) := by decide +kernel
theorem dX5_readBehindPart_139 : decode cX5_readBehindPart 139 = .ok (.return_, 1) := by decide +kernel
theorem dX5_readBehindPart_140 : decode cX5_readBehindPart 140 = .ok (.aload_n 0, 1) := by decide +kernel
theorem dX5_readBehindPart_141 : decode cX5_readBehindPart 141 = .ok (.iload_n 1, 1) := by decide +kernel
theorem dX5_readBehindPart_142 : decode cX5_readBehindPart 142 = .ok (.invokevirtual 162, 3) := by decide +kernel
theorem dX5_readBehindPart_145 : decode cX5_readBehindPart 145 = .ok (.aload_n 0, 1) := by decide +kernel
theorem dX5_readBehindPart_146 : decode cX5_readBehindPart 146 = .ok (.iconst 1, 1) := by decide +kernel
theorem dX5_readBehindPart_147 : decode cX5_readBehindPart 147 = .ok (.putfield 131, 3) := by decide +kernel
theorem dX5_readBehindPart_150 : decode cX5_readBehindPart 150 = .ok (.aload_n 0, 1) := by decide +kernel
theorem dX5_readBehindPart_151 : decode cX5_readBehindPart 151 = .ok (.iload_n 1, 1) := by decide +kernel
theorem dX5_readBehindPart_152 : decode cX5_readBehindPart 152 = .ok (.bipush (-8), 2) := by decide +kernel
theorem dX5_readBehindPart_154 : decode cX5_readBehindPart 154 = .ok (.if_icmp .eq 9, 3) := by decide +kernel
theorem dX5_readBehindPart_157 : decode cX5_readBehindPart 157 = .ok (.iload_n 1, 1) := by decide +kernel
theorem dX5_readBehindPart_158 : decode cX5_readBehindPart 158 = .ok (.bipush (-9), 2) := by decide +kernel
theorem dX5_readBehindPart_160 : decode cX5_readBehindPart 160 = .ok (.if_icmp .ne 7, 3) := by decide +kernel
theorem dX5_readBehindPart_163 : decode cX5_readBehindPart 163 = .ok (.iconst 1, 1) := by decide +kernel
theorem dX5_readBehindPart_164 : decode cX5_readBehindPart 164 = .ok (.goto 4, 3) := by decide +kernel
theorem dX5_readBehindPart_167 : decode cX5_readBehindPart 167 = .ok (.iconst 0, 1) := by decide +kernel
theorem dX5_readBehindPart_168 : decode cX5_readBehindPart 168 = .ok (.putfield 134, 3) := by decide +kernel
theorem dX5_readBehindPart_171 : decode cX5_readBehindPart 171 = .ok (.aload_n 0, 1) := by decide +kernel
theorem dX5_readBehindPart_172 : decode cX5_readBehindPart 172 = .ok (.iconst 0, 1) := by decide +kernel
theorem dX5_readBehindPart_173 : decode cX5_readBehindPart 173 = .ok (.putfield 128, 3) := by decide +kernel
theorem dX5_readBehindPart_176 : decode cX5_readBehindPart 176 = .ok (.return_, 1) := by decide +kernel
theorem dX5_doWaiting_0 : decode cX5_doWaiting 0 = .ok (.aload_n 0, 1) := by decide +kernel
theorem dX5_doWaiting_1 : decode cX5_doWaiting 1 = .ok (.getfield 122, 3) := by decide +kernel
theorem dX5_doWaiting_4 : decode cX5_doWaiting 4 = .ok (.istore_n 2, 1) := by decide +kernel
theorem dX5_doWaiting_5 : decode cX5_doWaiting 5 = .ok (.iload_n 2, 1) := by decide +kernel
theorem dX5_doWaiting_6 : decode cX5_doWaiting 6 = .ok (.ifCond .le 52, 3) := by decide +kernel
theorem dX5_doWaiting_9 : decode cX5_doWaiting 9 = .ok (.iload_n 2, 1) := by decide +kernel
theorem dX5_doWaiting_10 : decode cX5_doWaiting 10 = .ok (.aload_n 0, 1) := by decide +kernel
theorem dX5_doWaiting_11 : decode cX5_doWaiting 11 = .ok (.getfield 9, 3) := by decide +kernel
theorem dX5_doWaiting_14 : decode cX5_doWaiting 14 = .ok (.arraylength, 1) := by decide +kernel
theorem dX5_doWaiting_15 : decode cX5_doWaiting 15 = .ok (.if_icmp .gt 43, 3) := by decide +kernel
theorem dX5_doWaiting_18 : decode cX5_doWaiting 18 = .ok (.aload_n 0, 1) := by decide +kernel
theorem dX5_doWaiting_19 : decode cX5_doWaiting 19 = .ok (.getfield 9, 3) := by decide +kernel
theorem dX5_doWaiting_22 : decode cX5_doWaiting 22 = .ok (.iload_n 2, 1) := by decide +kernel
theorem dX5_doWaiting_23 : decode cX5_doWaiting 23 = .ok (.iconst 1, 1) := by decide +kernel
theorem dX5_doWaiting_24 : decode cX5_doWaiting 24 = .ok (.isub, 1) := by decide +kernel
theorem dX5_doWaiting_25 : decode cX5_doWaiting 25 = .ok (.iaload, 1) := by decide +kernel
theorem dX5_doWaiting_26 : decode cX5_doWaiting 26 = .ok (.invokestatic 175, 3) := by decide +kernel
theorem dX5_doWaiting_29 : decode cX5_doWaiting 29 = .ok (.iload_n 1, 1) := by decide +kernel
theorem dX5_doWaiting_30 : decode cX5_doWaiting 30 = .ok (.if_icmp .lt 28, 3) := by decide +kernel
theorem dX5_doWaiting_33 : decode cX5_doWaiting 33 = .ok (.aload_n 0, 1) := by decide +kernel
theorem dX5_doWaiting_34 : decode cX5_doWaiting 34 = .ok (.aload_n 0, 1) := by decide +kernel
theorem dX5_doWaiting_35 : decode cX5_doWaiting 35 = .ok (.getfield 9, 3) := by decide +kernel
theorem dX5_doWaiting_38 : decode cX5_doWaiting 38 = .ok (.iload_n 2, 1) := by decide +kernel
theorem dX5_doWaiting_39 : decode cX5_doWaiting 39 = .ok (.iconst 1, 1) := by decide +kernel
theorem dX5_doWaiting_40 : decode cX5_doWaiting 40 = .ok (.isub, 1) := by decide +kernel
theorem dX5_doWaiting_41 : decode cX5_doWaiting 41 = .ok (.iaload, 1) := by decide +kernel
theorem dX5_doWaiting_42 : decode cX5_doWaiting 42 = .ok (.invokevirtual 159, 3) := by decide +kernel
theorem dX5_doWaiting_45 : decode cX5_doWaiting 45 = .ok (.aload_n 0, 1) := by decide +kernel
theorem dX5_doWaiting_46 : decode cX5_doWaiting 46 = .ok (.iload_n 2, 1) := by decide +kernel
theorem dX5_doWaiting_47 : decode cX5_doWaiting 47 = .ok (.iconst 1, 1) := by decide +kernel
theorem dX5_doWaiting_48 : decode cX5_doWaiting 48 = .ok (.isub, 1) := by decide +kernel
theorem dX5_doWaiting_49 : decode cX5_doWaiting 49 = .ok (.putfield 122, 3) := by decide +kernel
theorem dX5_doWaiting_52 : decode cX5_doWaiting 52 = .ok (.iinc 2 (-1), 3) := by decide +kernel
theorem dX5_doWaiting_55 : decode cX5_doWaiting 55 = .ok (.goto (-50), 3) := by decide +kernel
theorem dX5_doWaiting_58 : decode cX5_doWaiting 58 = .ok (.return_, 1) := by decide +kernel
theorem dX5_putWaiting_0 : decode cX5_putWaiting 0 = .ok (.aload_n 0, 1) := by decide +kernel
theorem dX5_putWaiting_1 : decode cX5_putWaiting 1 = .ok (.getfield 122, 3) := by decide +kernel
theorem dX5_putWaiting_4 : decode cX5_putWaiting 4 = .ok (.ifCond .lt 35, 3) := by decide +kernel
theorem dX5_putWaiting_7 : decode cX5_putWaiting 7 = .ok (.aload_n 0, 1) := by decide +kernel
theorem dX5_putWaiting_8 : decode cX5_putWaiting 8 = .ok (.getfield 122, 3) := by decide +kernel
theorem dX5_putWaiting_11 : decode cX5_putWaiting 11 = .ok (.aload_n 0, 1) := by decide +kernel
theorem dX5_putWaiting_12 : decode cX5_putWaiting 12 = .ok (.getfield 9, 3) := by decide +kernel
theorem dX5_putWaiting_15 : decode cX5_putWaiting 15 = .ok (.arraylength, 1) := by decide +kernel
theorem dX5_putWaiting_16 : decode cX5_putWaiting 16 = .ok (.if_icmp .ge 23, 3) := by decide +kernel
theorem dX5_putWaiting_19 : decode cX5_putWaiting 19 = .ok (.aload_n 0, 1) := by decide +kernel
theorem dX5_putWaiting_20 : decode cX5_putWaiting 20 = .ok (.getfield 9, 3) := by decide +kernel
theorem dX5_putWaiting_23 : decode cX5_putWaiting 23 = .ok (.aload_n 0, 1) := by decide +kernel
theorem dX5_putWaiting_24 : decode cX5_putWaiting 24 = .ok (.getfield 122, 3) := by decide +kernel
theorem dX5_putWaiting_27 : decode cX5_putWaiting 27 = .ok (.iload_n 1, 1) := by decide +kernel
theorem dX5_putWaiting_28 : decode cX5_putWaiting 28 = .ok (.iastore, 1) := by decide +kernel
theorem dX5_putWaiting_29 : decode cX5_putWaiting 29 = .ok (.aload_n 0, 1) := by decide +kernel
theorem dX5_putWaiting_30 : decode cX5_putWaiting 30 = .ok (.dup, 1) := by decide +kernel
theorem dX5_putWaiting_31 : decode cX5_putWaiting 31 = .ok (.getfield 122, 3) := by decide +kernel
theorem dX5_putWaiting_34 : decode cX5_putWaiting 34 = .ok (.iconst 1, 1) := by decide +kernel
theorem dX5_putWaiting_35 : decode cX5_putWaiting 35 = .ok (.iadd, 1) := by decide +kernel
theorem dX5_putWaiting_36 : decode cX5_putWaiting 36 = .ok (.putfield 122, 3) := by decide +kernel
theorem dX5_putWaiting_39 : decode cX5_putWaiting 39 = .ok (.return_, 1) := by decide +kernel
theorem dX5_putCode_0 : decode cX5_putCode 0 = .ok (.aload_n 0, 1) := by decide +kernel
theorem dX5_putCode_1 : decode cX5_putCode 1 = .ok (.getfield 19, 3) := by decide +kernel
theorem dX5_putCode_4 : decode cX5_putCode 4 = .ok (.getfield 140, 3) := by decide +kernel
theorem dX5_putCode_7 : decode cX5_putCode 7 = .ok (.istore_n 2, 1) := by decide +kernel
theorem dX5_putCode_8 : decode cX5_putCode 8 = .ok (.iload_n 2, 1) := by decide +kernel
theorem dX5_putCode_9 : decode cX5_putCode 9 = .ok (.ifCond .lt 35, 3) := by decide +kernel
theorem dX5_putCode_12 : decode cX5_putCode 12 = .ok (.iload_n 2, 1) := by decide +kernel
theorem dX5_putCode_13 : decode cX5_putCode 13 = .ok (.aload_n 0, 1) := by decide +kernel
theorem dX5_putCode_14 : decode cX5_putCode 14 = .ok (.getfield 19, 3) := by decide +kernel
theorem dX5_putCode_17 : decode cX5_putCode 17 = .ok (.getfield 178, 3) := by decide +kernel
theorem dX5_putCode_20 : decode cX5_putCode 20 = .ok (.arraylength, 1) := by decide +kernel
theorem dX5_putCode_21 : decode cX5_putCode 21 = .ok (.if_icmp .ge 23, 3) := by decide +kernel
theorem dX5_putCode_24 : decode cX5_putCode 24 = .ok (.aload_n 0, 1) := by decide +kernel
theorem dX5_putCode_25 : decode cX5_putCode 25 = .ok (.getfield 19, 3) := by decide +kernel
theorem dX5_putCode_28 : decode cX5_putCode 28 = .ok (.getfield 178, 3) := by decide +kernel
theorem dX5_putCode_31 : decode cX5_putCode 31 = .ok (.iload_n 2, 1) := by decide +kernel
theorem dX5_putCode_32 : decode cX5_putCode 32 = .ok (.iload_n 1, 1) := by decide +kernel
theorem dX5_putCode_33 : decode cX5_putCode 33 = .ok (.iastore, 1) := by decide +kernel
theorem dX5_putCode_34 : decode cX5_putCode 34 = .ok (.aload_n 0, 1) := by decide +kernel
theorem dX5_putCode_35 : decode cX5_putCode 35 = .ok (.getfield 19, 3) := by decide +kernel
theorem dX5_putCode_38 : decode cX5_putCode 38 = .ok (.iload_n 2, 1) := by decide +kernel
theorem dX5_putCode_39 : decode cX5_putCode 39 = .ok (.iconst 1, 1) := by decide +kernel
theorem dX5_putCode_40 : decode cX5_putCode 40 = .ok (.iadd, 1) := by decide +kernel
theorem dX5_putCode_41 : decode cX5_putCode 41 = .ok (.putfield 140, 3) := by decide +kernel
theorem dX5_putCode_44 : decode cX5_putCode 44 = .ok (.return_, 1) := by decide +kernel
theorem dX5_operatorOf_0 : decode cX5_operatorOf 0 = .ok (.iload_n 0, 1) := by decide +kernel
theorem dX5_operatorOf_1 : decode cX5_operatorOf 1 = .ok (.tableswitch 107 6 22 #[95, 98, 101, 104, 89, 92, 107, 107, 107, 107, 107, 107, 107, 107, 107, 83, 86], 83) := by decide +kernel
theorem dX5_operatorOf_84 : decode cX5_operatorOf 84 = .ok (.bipush (-8), 2) := by decide +kernel
theorem dX5_operatorOf_86 : decode cX5_operatorOf 86 = .ok (.ireturn, 1) := by decide +kernel
theorem dX5_operatorOf_87 : decode cX5_operatorOf 87 = .ok (.bipush (-9), 2) := by decide +kernel
theorem dX5_operatorOf_89 : decode cX5_operatorOf 89 = .ok (.ireturn, 1) := by decide +kernel
theorem dX5_operatorOf_90 : decode cX5_operatorOf 90 = .ok (.bipush (-10), 2) := by decide +kernel
theorem dX5_operatorOf_92 : decode cX5_operatorOf 92 = .ok (.ireturn, 1) := by decide +kernel
theorem dX5_operatorOf_93 : decode cX5_operatorOf 93 = .ok (.bipush (-11), 2) := by decide +kernel
theorem dX5_operatorOf_95 : decode cX5_operatorOf 95 = .ok (.ireturn, 1) := by decide +kernel
theorem dX5_operatorOf_96 : decode cX5_operatorOf 96 = .ok (.bipush (-12), 2) := by decide +kernel
theorem dX5_operatorOf_98 : decode cX5_operatorOf 98 = .ok (.ireturn, 1) := by decide +kernel
theorem dX5_operatorOf_99 : decode cX5_operatorOf 99 = .ok (.bipush (-13), 2) := by decide +kernel
theorem dX5_operatorOf_101 : decode cX5_operatorOf 101 = .ok (.ireturn, 1) := by decide +kernel
theorem dX5_operatorOf_102 : decode cX5_operatorOf 102 = .ok (.bipush (-14), 2) := by decide +kernel
theorem dX5_operatorOf_104 : decode cX5_operatorOf 104 = .ok (.ireturn, 1) := by decide +kernel
theorem dX5_operatorOf_105 : decode cX5_operatorOf 105 = .ok (.bipush (-15), 2) := by decide +kernel
theorem dX5_operatorOf_107 : decode cX5_operatorOf 107 = .ok (.ireturn, 1) := by decide +kernel
theorem dX5_operatorOf_108 : decode cX5_operatorOf 108 = .ok (.iconst 0, 1) := by decide +kernel
theorem dX5_operatorOf_109 : decode cX5_operatorOf 109 = .ok (.ireturn, 1) := by decide +kernel
theorem dX5_strengthOf_0 : decode cX5_strengthOf 0 = .ok (.iload_n 0, 1) := by decide +kernel
theorem dX5_strengthOf_1 : decode cX5_strengthOf 1 = .ok (.tableswitch 71 (-15) (-7) #[68, 65, 63, 61, 59, 57, 53, 51, 55], 51) := by decide +kernel
theorem dX5_strengthOf_52 : decode cX5_strengthOf 52 = .ok (.iconst 1, 1) := by decide +kernel
theorem dX5_strengthOf_53 : decode cX5_strengthOf 53 = .ok (.ireturn, 1) := by decide +kernel
theorem dX5_strengthOf_54 : decode cX5_strengthOf 54 = .ok (.iconst 2, 1) := by decide +kernel
theorem dX5_strengthOf_55 : decode cX5_strengthOf 55 = .ok (.ireturn, 1) := by decide +kernel
theorem dX5_strengthOf_56 : decode cX5_strengthOf 56 = .ok (.iconst 3, 1) := by decide +kernel
theorem dX5_strengthOf_57 : decode cX5_strengthOf 57 = .ok (.ireturn, 1) := by decide +kernel
theorem dX5_strengthOf_58 : decode cX5_strengthOf 58 = .ok (.iconst 4, 1) := by decide +kernel
theorem dX5_strengthOf_59 : decode cX5_strengthOf 59 = .ok (.ireturn, 1) := by decide +kernel
theorem dX5_strengthOf_60 : decode cX5_strengthOf 60 = .ok (.iconst 4, 1) := by decide +kernel
theorem dX5_strengthOf_61 : decode cX5_strengthOf 61 = .ok (.ireturn, 1) := by decide +kernel
theorem dX5_strengthOf_62 : decode cX5_strengthOf 62 = .ok (.iconst 5, 1) := by decide +kernel
theorem dX5_strengthOf_63 : decode cX5_strengthOf 63 = .ok (.ireturn, 1) := by decide +kernel
theorem dX5_strengthOf_64 : decode cX5_strengthOf 64 = .ok (.iconst 5, 1) := by decide +kernel
theorem dX5_strengthOf_65 : decode cX5_strengthOf 65 = .ok (.ireturn, 1) := by decide +kernel
theorem dX5_strengthOf_66 : decode cX5_strengthOf 66 = .ok (.bipush 6, 2) := by decide +kernel
theorem dX5_strengthOf_68 : decode cX5_strengthOf 68 = .ok (.ireturn, 1) := by decide +kernel
theorem dX5_strengthOf_69 : decode cX5_strengthOf 69 = .ok (.bipush 6, 2) := by decide +kernel
theorem dX5_strengthOf_71 : decode cX5_strengthOf 71 = .ok (.ireturn, 1) := by decide +kernel
theorem dX5_strengthOf_72 : decode cX5_strengthOf 72 = .ok (.iconst 0, 1) := by decide +kernel
theorem dX5_strengthOf_73 : decode cX5_strengthOf 73 = .ok (.ireturn, 1) := by decide +kernel
theorem dX5_nextToken_0 : decode cX5_nextToken 0 = .ok (.aload_n 0, 1) := by decide +kernel
theorem dX5_nextToken_1 : decode cX5_nextToken 1 = .ok (.getfield 33, 3) := by decide +kernel
theorem dX5_nextToken_4 : decode cX5_nextToken 4 = .ok (.aload_n 0, 1) := by decide +kernel
theorem dX5_nextToken_5 : decode cX5_nextToken 5 = .ok (.getfield 29, 3) := by decide +kernel
theorem dX5_nextToken_8 : decode cX5_nextToken 8 = .ok (.if_icmp .ge 44, 3) := by decide +kernel
theorem dX5_nextToken_11 : decode cX5_nextToken 11 = .ok (.aload_n 0, 1) := by decide +kernel
theorem dX5_nextToken_12 : decode cX5_nextToken 12 = .ok (.getfield 15, 3) := by decide +kernel
theorem dX5_nextToken_15 : decode cX5_nextToken 15 = .ok (.aload_n 0, 1) := by decide +kernel
theorem dX5_nextToken_16 : decode cX5_nextToken 16 = .ok (.getfield 33, 3) := by decide +kernel
theorem dX5_nextToken_19 : decode cX5_nextToken 19 = .ok (.baload, 1) := by decide +kernel
theorem dX5_nextToken_20 : decode cX5_nextToken 20 = .ok (.bipush 32, 2) := by decide +kernel
theorem dX5_nextToken_22 : decode cX5_nextToken 22 = .ok (.if_icmp .eq 17, 3) := by decide +kernel
theorem dX5_nextToken_25 : decode cX5_nextToken 25 = .ok (.aload_n 0, 1) := by decide +kernel
theorem dX5_nextToken_26 : decode cX5_nextToken 26 = .ok (.getfield 15, 3) := by decide +kernel
theorem dX5_nextToken_29 : decode cX5_nextToken 29 = .ok (.aload_n 0, 1) := by decide +kernel
theorem dX5_nextToken_30 : decode cX5_nextToken 30 = .ok (.getfield 33, 3) := by decide +kernel
theorem dX5_nextToken_33 : decode cX5_nextToken 33 = .ok (.baload, 1) := by decide +kernel
theorem dX5_nextToken_34 : decode cX5_nextToken 34 = .ok (.bipush 10, 2) := by decide +kernel
theorem dX5_nextToken_36 : decode cX5_nextToken 36 = .ok (.if_icmp .ne 16, 3) := by decide +kernel
theorem dX5_nextToken_39 : decode cX5_nextToken 39 = .ok (.aload_n 0, 1) := by decide +kernel
theorem dX5_nextToken_40 : decode cX5_nextToken 40 = .ok (.dup, 1) := by decide +kernel
theorem dX5_nextToken_41 : decode cX5_nextToken 41 = .ok (.getfield 33, 3) := by decide +kernel
theorem dX5_nextToken_44 : decode cX5_nextToken 44 = .ok (.iconst 1, 1) := by decide +kernel
theorem dX5_nextToken_45 : decode cX5_nextToken 45 = .ok (.iadd, 1) := by decide +kernel
theorem dX5_nextToken_46 : decode cX5_nextToken 46 = .ok (.putfield 33, 3) := by decide +kernel
theorem dX5_nextToken_49 : decode cX5_nextToken 49 = .ok (.goto (-49), 3) := by decide +kernel
theorem dX5_nextToken_52 : decode cX5_nextToken 52 = .ok (.aload_n 0, 1) := by decide +kernel
theorem dX5_nextToken_53 : decode cX5_nextToken 53 = .ok (.aload_n 0, 1) := by decide +kernel
theorem dX5_nextToken_54 : decode cX5_nextToken 54 = .ok (.getfield 33, 3) := by decide +kernel
theorem dX5_nextToken_57 : decode cX5_nextToken 57 = .ok (.putfield 57, 3) := by decide +kernel
theorem dX5_nextToken_60 : decode cX5_nextToken 60 = .ok (.aload_n 0, 1) := by decide +kernel
theorem dX5_nextToken_61 : decode cX5_nextToken 61 = .ok (.getfield 33, 3) := by decide +kernel
theorem dX5_nextToken_64 : decode cX5_nextToken 64 = .ok (.aload_n 0, 1) := by decide +kernel
theorem dX5_nextToken_65 : decode cX5_nextToken 65 = .ok (.getfield 29, 3) := by decide +kernel
theorem dX5_nextToken_68 : decode cX5_nextToken 68 = .ok (.if_icmp .lt 9, 3) := by decide +kernel
theorem dX5_nextToken_71 : decode cX5_nextToken 71 = .ok (.aload_n 0, 1) := by decide +kernel
theorem dX5_nextToken_72 : decode cX5_nextToken 72 = .ok (.iconst 0, 1) := by decide +kernel
theorem dX5_nextToken_73 : decode cX5_nextToken 73 = .ok (.putfield 51, 3) := by decide +kernel
theorem dX5_nextToken_76 : decode cX5_nextToken 76 = .ok (.return_, 1) := by decide +kernel
theorem dX5_nextToken_77 : decode cX5_nextToken 77 = .ok (.aload_n 0, 1) := by decide +kernel
theorem dX5_nextToken_78 : decode cX5_nextToken 78 = .ok (.getfield 15, 3) := by decide +kernel
theorem dX5_nextToken_81 : decode cX5_nextToken 81 = .ok (.aload_n 0, 1) := by decide +kernel
theorem dX5_nextToken_82 : decode cX5_nextToken 82 = .ok (.getfield 33, 3) := by decide +kernel
theorem dX5_nextToken_85 : decode cX5_nextToken 85 = .ok (.baload, 1) := by decide +kernel
theorem dX5_nextToken_86 : decode cX5_nextToken 86 = .ok (.istore_n 1, 1) := by decide +kernel
theorem dX5_nextToken_87 : decode cX5_nextToken 87 = .ok (.iload_n 1, 1) := by decide +kernel
theorem dX5_nextToken_88 : decode cX5_nextToken 88 = .ok (.bipush 97, 2) := by decide +kernel
theorem dX5_nextToken_90 : decode cX5_nextToken 90 = .ok (.if_icmp .lt 16, 3) := by decide +kernel
theorem dX5_nextToken_93 : decode cX5_nextToken 93 = .ok (.iload_n 1, 1) := by decide +kernel
theorem dX5_nextToken_94 : decode cX5_nextToken 94 = .ok (.bipush 122, 2) := by decide +kernel
theorem dX5_nextToken_96 : decode cX5_nextToken 96 = .ok (.if_icmp .gt 10, 3) := by decide +kernel
theorem dX5_nextToken_99 : decode cX5_nextToken 99 = .ok (.aload_n 0, 1) := by decide +kernel
theorem dX5_nextToken_100 : decode cX5_nextToken 100 = .ok (.invokevirtual 181, 3) := by decide +kernel
theorem dX5_nextToken_103 : decode cX5_nextToken 103 = .ok (.goto 63, 3) := by decide +kernel
theorem dX5_nextToken_106 : decode cX5_nextToken 106 = .ok (.iload_n 1, 1) := by decide +kernel
theorem dX5_nextToken_107 : decode cX5_nextToken 107 = .ok (.bipush 48, 2) := by decide +kernel
theorem dX5_nextToken_109 : decode cX5_nextToken 109 = .ok (.if_icmp .lt 16, 3) := by decide +kernel
theorem dX5_nextToken_112 : decode cX5_nextToken 112 = .ok (.iload_n 1, 1) := by decide +kernel
theorem dX5_nextToken_113 : decode cX5_nextToken 113 = .ok (.bipush 57, 2) := by decide +kernel
theorem dX5_nextToken_115 : decode cX5_nextToken 115 = .ok (.if_icmp .gt 10, 3) := by decide +kernel
theorem dX5_nextToken_118 : decode cX5_nextToken 118 = .ok (.aload_n 0, 1) := by decide +kernel
theorem dX5_nextToken_119 : decode cX5_nextToken 119 = .ok (.invokevirtual 184, 3) := by decide +kernel
theorem dX5_nextToken_122 : decode cX5_nextToken 122 = .ok (.goto 44, 3) := by decide +kernel
theorem dX5_nextToken_125 : decode cX5_nextToken 125 = .ok (.iload_n 1, 1) := by decide +kernel
theorem dX5_nextToken_126 : decode cX5_nextToken 126 = .ok (.ifCond .ge 7, 3) := by decide +kernel
theorem dX5_nextToken_129 : decode cX5_nextToken 129 = .ok (.iconst (-1), 1) := by decide +kernel
theorem dX5_nextToken_130 : decode cX5_nextToken 130 = .ok (.goto 10, 3) := by decide +kernel
theorem dX5_nextToken_133 : decode cX5_nextToken 133 = .ok (.ldc 187, 2) := by decide +kernel
theorem dX5_nextToken_135 : decode cX5_nextToken 135 = .ok (.iload_n 1, 1) := by decide +kernel
theorem dX5_nextToken_136 : decode cX5_nextToken 136 = .ok (.i2c, 1) := by decide +kernel
theorem dX5_nextToken_137 : decode cX5_nextToken 137 = .ok (.invokevirtual 189, 3) := by decide +kernel
theorem dX5_nextToken_140 : decode cX5_nextToken 140 = .ok (.istore_n 2, 1) := by decide +kernel
theorem dX5_nextToken_141 : decode cX5_nextToken 141 = .ok (.aload_n 0, 1) := by decide +kernel
theorem dX5_nextToken_142 : decode cX5_nextToken 142 = .ok (.iload_n 2, 1) := by decide +kernel
theorem dX5_nextToken_143 : decode cX5_nextToken 143 = .ok (.ifCond .ge 7, 3) := by decide +kernel
theorem dX5_nextToken_146 : decode cX5_nextToken 146 = .ok (.iconst 1, 1) := by decide +kernel
theorem dX5_nextToken_147 : decode cX5_nextToken 147 = .ok (.goto 6, 3) := by decide +kernel
theorem dX5_nextToken_150 : decode cX5_nextToken 150 = .ok (.iconst 3, 1) := by decide +kernel
theorem dX5_nextToken_151 : decode cX5_nextToken 151 = .ok (.iload_n 2, 1) := by decide +kernel
