theorem dX9_readExpression_86 : decode cX9_readExpression 86 = .ok (.aload_n 0, 1) := by decide +kernel
theorem dX9_readExpression_87 : decode cX9_readExpression 87 = .ok (.bipush (-27), 2) := by decide +kernel
theorem dX9_readExpression_89 : decode cX9_readExpression 89 = .ok (.invokevirtual 239, 3) := by decide +kernel
theorem dX9_readExpression_92 : decode cX9_readExpression 92 = .ok (.goto (-25), 3) := by decide +kernel
theorem dX9_readExpression_95 : decode cX9_readExpression 95 = .ok (.return_, 1) := by decide +kernel
theorem dX9_another_0 : decode cX9_another 0 = .ok (.aload_n 0, 1) := by decide +kernel
theorem dX9_another_1 : decode cX9_another 1 = .ok (.getfield 50, 3) := by decide +kernel
theorem dX9_another_4 : decode cX9_another 4 = .ok (.bipush 7, 2) := by decide +kernel
theorem dX9_another_6 : decode cX9_another 6 = .ok (.iload_n 1, 1) := by decide +kernel
theorem dX9_another_7 : decode cX9_another 7 = .ok (.iadd, 1) := by decide +kernel
theorem dX9_another_8 : decode cX9_another 8 = .ok (.iaload, 1) := by decide +kernel
theorem dX9_another_9 : decode cX9_another 9 = .ok (.iload_n 2, 1) := by decide +kernel
theorem dX9_another_10 : decode cX9_another 10 = .ok (.if_icmp .ne 8, 3) := by decide +kernel
theorem dX9_another_13 : decode cX9_another 13 = .ok (.aload_n 0, 1) := by decide +kernel
theorem dX9_another_14 : decode cX9_another 14 = .ok (.iconst 2, 1) := by decide +kernel
theorem dX9_another_15 : decode cX9_another 15 = .ok (.invokevirtual 222, 3) := by decide +kernel
theorem dX9_another_18 : decode cX9_another 18 = .ok (.aload_n 0, 1) := by decide +kernel
theorem dX9_another_19 : decode cX9_another 19 = .ok (.getfield 201, 3) := by decide +kernel
theorem dX9_another_22 : decode cX9_another 22 = .ok (.ifCond .eq 5, 3) := by decide +kernel
theorem dX9_another_25 : decode cX9_another 25 = .ok (.iconst 0, 1) := by decide +kernel
theorem dX9_another_26 : decode cX9_another 26 = .ok (.ireturn, 1) := by decide +kernel
theorem dX9_another_27 : decode cX9_another 27 = .ok (.aload_n 0, 1) := by decide +kernel
theorem dX9_another_28 : decode cX9_another 28 = .ok (.invokevirtual 226, 3) := by decide +kernel
theorem dX9_another_31 : decode cX9_another 31 = .ok (.iconst 1, 1) := by decide +kernel
theorem dX9_another_32 : decode cX9_another 32 = .ok (.ireturn, 1) := by decide +kernel
theorem dX9_sayAlderman_0 : decode cX9_sayAlderman 0 = .ok (.aload_n 0, 1) := by decide +kernel
theorem dX9_sayAlderman_1 : decode cX9_sayAlderman 1 = .ok (.iconst 3, 1) := by decide +kernel
theorem dX9_sayAlderman_2 : decode cX9_sayAlderman 2 = .ok (.bipush 7, 2) := by decide +kernel
theorem dX9_sayAlderman_4 : decode cX9_sayAlderman 4 = .ok (.invokevirtual 273, 3) := by decide +kernel
theorem dX9_sayAlderman_7 : decode cX9_sayAlderman 7 = .ok (.ifCond .ne 4, 3) := by decide +kernel
theorem dX9_sayAlderman_10 : decode cX9_sayAlderman 10 = .ok (.return_, 1) := by decide +kernel
theorem dX9_sayAlderman_11 : decode cX9_sayAlderman 11 = .ok (.bipush 7, 2) := by decide +kernel
theorem dX9_sayAlderman_13 : decode cX9_sayAlderman 13 = .ok (.aload_n 0, 1) := by decide +kernel
theorem dX9_sayAlderman_14 : decode cX9_sayAlderman 14 = .ok (.getfield 50, 3) := by decide +kernel
theorem dX9_sayAlderman_17 : decode cX9_sayAlderman 17 = .ok (.bipush 10, 2) := by decide +kernel
theorem dX9_sayAlderman_19 : decode cX9_sayAlderman 19 = .ok (.iaload, 1) := by decide +kernel
theorem dX9_sayAlderman_20 : decode cX9_sayAlderman 20 = .ok (.iadd, 1) := by decide +kernel
theorem dX9_sayAlderman_21 : decode cX9_sayAlderman 21 = .ok (.istore_n 1, 1) := by decide +kernel
theorem dX9_sayAlderman_22 : decode cX9_sayAlderman 22 = .ok (.aload_n 0, 1) := by decide +kernel
theorem dX9_sayAlderman_23 : decode cX9_sayAlderman 23 = .ok (.getfield 54, 3) := by decide +kernel
theorem dX9_sayAlderman_26 : decode cX9_sayAlderman 26 = .ok (.iload_n 1, 1) := by decide +kernel
theorem dX9_sayAlderman_27 : decode cX9_sayAlderman 27 = .ok (.aload_n 0, 1) := by decide +kernel
theorem dX9_sayAlderman_28 : decode cX9_sayAlderman 28 = .ok (.bipush 9, 2) := by decide +kernel
theorem dX9_sayAlderman_30 : decode cX9_sayAlderman 30 = .ok (.invokevirtual 277, 3) := by decide +kernel
theorem dX9_sayAlderman_33 : decode cX9_sayAlderman 33 = .ok (.iastore, 1) := by decide +kernel
theorem dX9_sayAlderman_34 : decode cX9_sayAlderman 34 = .ok (.aload_n 0, 1) := by decide +kernel
theorem dX9_sayAlderman_35 : decode cX9_sayAlderman 35 = .ok (.getfield 57, 3) := by decide +kernel
theorem dX9_sayAlderman_38 : decode cX9_sayAlderman 38 = .ok (.iload_n 1, 1) := by decide +kernel
theorem dX9_sayAlderman_39 : decode cX9_sayAlderman 39 = .ok (.aload_n 0, 1) := by decide +kernel
theorem dX9_sayAlderman_40 : decode cX9_sayAlderman 40 = .ok (.iconst 0, 1) := by decide +kernel
theorem dX9_sayAlderman_41 : decode cX9_sayAlderman 41 = .ok (.bipush 9, 2) := by decide +kernel
theorem dX9_sayAlderman_43 : decode cX9_sayAlderman 43 = .ok (.invokevirtual 232, 3) := by decide +kernel
theorem dX9_sayAlderman_46 : decode cX9_sayAlderman 46 = .ok (.iastore, 1) := by decide +kernel
theorem dX9_sayAlderman_47 : decode cX9_sayAlderman 47 = .ok (.aload_n 0, 1) := by decide +kernel
theorem dX9_sayAlderman_48 : decode cX9_sayAlderman 48 = .ok (.getfield 50, 3) := by decide +kernel
theorem dX9_sayAlderman_51 : decode cX9_sayAlderman 51 = .ok (.bipush 10, 2) := by decide +kernel
theorem dX9_sayAlderman_53 : decode cX9_sayAlderman 53 = .ok (.dup2, 1) := by decide +kernel
theorem dX9_sayAlderman_54 : decode cX9_sayAlderman 54 = .ok (.iaload, 1) := by decide +kernel
theorem dX9_sayAlderman_55 : decode cX9_sayAlderman 55 = .ok (.iconst 1, 1) := by decide +kernel
theorem dX9_sayAlderman_56 : decode cX9_sayAlderman 56 = .ok (.iadd, 1) := by decide +kernel
theorem dX9_sayAlderman_57 : decode cX9_sayAlderman 57 = .ok (.iastore, 1) := by decide +kernel
theorem dX9_sayAlderman_58 : decode cX9_sayAlderman 58 = .ok (.return_, 1) := by decide +kernel
theorem dX9_sayMotion_0 : decode cX9_sayMotion 0 = .ok (.aload_n 0, 1) := by decide +kernel
theorem dX9_sayMotion_1 : decode cX9_sayMotion 1 = .ok (.iconst 4, 1) := by decide +kernel
theorem dX9_sayMotion_2 : decode cX9_sayMotion 2 = .ok (.bipush 10, 2) := by decide +kernel
theorem dX9_sayMotion_4 : decode cX9_sayMotion 4 = .ok (.invokevirtual 273, 3) := by decide +kernel
theorem dX9_sayMotion_7 : decode cX9_sayMotion 7 = .ok (.ifCond .ne 4, 3) := by decide +kernel
theorem dX9_sayMotion_10 : decode cX9_sayMotion 10 = .ok (.return_, 1) := by decide +kernel
theorem dX9_sayMotion_11 : decode cX9_sayMotion 11 = .ok (.bipush 10, 2) := by decide +kernel
theorem dX9_sayMotion_13 : decode cX9_sayMotion 13 = .ok (.aload_n 0, 1) := by decide +kernel
theorem dX9_sayMotion_14 : decode cX9_sayMotion 14 = .ok (.getfield 50, 3) := by decide +kernel
theorem dX9_sayMotion_17 : decode cX9_sayMotion 17 = .ok (.bipush 11, 2) := by decide +kernel
theorem dX9_sayMotion_19 : decode cX9_sayMotion 19 = .ok (.iaload, 1) := by decide +kernel
theorem dX9_sayMotion_20 : decode cX9_sayMotion 20 = .ok (.iadd, 1) := by decide +kernel
theorem dX9_sayMotion_21 : decode cX9_sayMotion 21 = .ok (.istore_n 2, 1) := by decide +kernel
theorem dX9_sayMotion_22 : decode cX9_sayMotion 22 = .ok (.aload_n 0, 1) := by decide +kernel
theorem dX9_sayMotion_23 : decode cX9_sayMotion 23 = .ok (.getfield 60, 3) := by decide +kernel
theorem dX9_sayMotion_26 : decode cX9_sayMotion 26 = .ok (.iload_n 2, 1) := by decide +kernel
theorem dX9_sayMotion_27 : decode cX9_sayMotion 27 = .ok (.iload_n 1, 1) := by decide +kernel
theorem dX9_sayMotion_28 : decode cX9_sayMotion 28 = .ok (.iastore, 1) := by decide +kernel
theorem dX9_sayMotion_29 : decode cX9_sayMotion 29 = .ok (.aload_n 0, 1) := by decide +kernel
theorem dX9_sayMotion_30 : decode cX9_sayMotion 30 = .ok (.getfield 62, 3) := by decide +kernel
theorem dX9_sayMotion_33 : decode cX9_sayMotion 33 = .ok (.iload_n 2, 1) := by decide +kernel
theorem dX9_sayMotion_34 : decode cX9_sayMotion 34 = .ok (.aload_n 0, 1) := by decide +kernel
theorem dX9_sayMotion_35 : decode cX9_sayMotion 35 = .ok (.iconst 0, 1) := by decide +kernel
theorem dX9_sayMotion_36 : decode cX9_sayMotion 36 = .ok (.bipush 24, 2) := by decide +kernel
theorem dX9_sayMotion_38 : decode cX9_sayMotion 38 = .ok (.invokevirtual 232, 3) := by decide +kernel
theorem dX9_sayMotion_41 : decode cX9_sayMotion 41 = .ok (.iastore, 1) := by decide +kernel
theorem dX9_sayMotion_42 : decode cX9_sayMotion 42 = .ok (.aload_n 0, 1) := by decide +kernel
theorem dX9_sayMotion_43 : decode cX9_sayMotion 43 = .ok (.getfield 65, 3) := by decide +kernel
theorem dX9_sayMotion_46 : decode cX9_sayMotion 46 = .ok (.iload_n 2, 1) := by decide +kernel
theorem dX9_sayMotion_47 : decode cX9_sayMotion 47 = .ok (.aload_n 0, 1) := by decide +kernel
theorem dX9_sayMotion_48 : decode cX9_sayMotion 48 = .ok (.iconst 0, 1) := by decide +kernel
theorem dX9_sayMotion_49 : decode cX9_sayMotion 49 = .ok (.bipush 99, 2) := by decide +kernel
theorem dX9_sayMotion_51 : decode cX9_sayMotion 51 = .ok (.invokevirtual 232, 3) := by decide +kernel
theorem dX9_sayMotion_54 : decode cX9_sayMotion 54 = .ok (.iastore, 1) := by decide +kernel
theorem dX9_sayMotion_55 : decode cX9_sayMotion 55 = .ok (.aload_n 0, 1) := by decide +kernel
theorem dX9_sayMotion_56 : decode cX9_sayMotion 56 = .ok (.getfield 67, 3) := by decide +kernel
theorem dX9_sayMotion_59 : decode cX9_sayMotion 59 = .ok (.iload_n 2, 1) := by decide +kernel
theorem dX9_sayMotion_60 : decode cX9_sayMotion 60 = .ok (.aload_n 0, 1) := by decide +kernel
theorem dX9_sayMotion_61 : decode cX9_sayMotion 61 = .ok (.bipush 9, 2) := by decide +kernel
theorem dX9_sayMotion_63 : decode cX9_sayMotion 63 = .ok (.invokevirtual 277, 3) := by decide +kernel
theorem dX9_sayMotion_66 : decode cX9_sayMotion 66 = .ok (.iastore, 1) := by decide +kernel
theorem dX9_sayMotion_67 : decode cX9_sayMotion 67 = .ok (.aload_n 0, 1) := by decide +kernel
theorem dX9_sayMotion_68 : decode cX9_sayMotion 68 = .ok (.getfield 70, 3) := by decide +kernel
theorem dX9_sayMotion_71 : decode cX9_sayMotion 71 = .ok (.iload_n 2, 1) := by decide +kernel
theorem dX9_sayMotion_72 : decode cX9_sayMotion 72 = .ok (.iconst (-1), 1) := by decide +kernel
theorem dX9_sayMotion_73 : decode cX9_sayMotion 73 = .ok (.iastore, 1) := by decide +kernel
theorem dX9_sayMotion_74 : decode cX9_sayMotion 74 = .ok (.aload_n 0, 1) := by decide +kernel
theorem dX9_sayMotion_75 : decode cX9_sayMotion 75 = .ok (.ldc_w 280, 3) := by decide +kernel
theorem dX9_sayMotion_78 : decode cX9_sayMotion 78 = .ok (.invokevirtual 215, 3) := by decide +kernel
theorem dX9_sayMotion_81 : decode cX9_sayMotion 81 = .ok (.ifCond .eq 57, 3) := by decide +kernel
theorem dX9_sayMotion_84 : decode cX9_sayMotion 84 = .ok (.aload_n 0, 1) := by decide +kernel
theorem dX9_sayMotion_85 : decode cX9_sayMotion 85 = .ok (.invokevirtual 226, 3) := by decide +kernel
theorem dX9_sayMotion_88 : decode cX9_sayMotion 88 = .ok (.aload_n 0, 1) := by decide +kernel
theorem dX9_sayMotion_89 : decode cX9_sayMotion 89 = .ok (.iconst 0, 1) := by decide +kernel
theorem dX9_sayMotion_90 : decode cX9_sayMotion 90 = .ok (.sipush 9999, 3) := by decide +kernel
theorem dX9_sayMotion_93 : decode cX9_sayMotion 93 = .ok (.invokevirtual 229, 3) := by decide +kernel
theorem dX9_sayMotion_96 : decode cX9_sayMotion 96 = .ok (.istore_n 3, 1) := by decide +kernel
theorem dX9_sayMotion_97 : decode cX9_sayMotion 97 = .ok (.aload_n 0, 1) := by decide +kernel
theorem dX9_sayMotion_98 : decode cX9_sayMotion 98 = .ok (.getfield 201, 3) := by decide +kernel
theorem dX9_sayMotion_101 : decode cX9_sayMotion 101 = .ok (.ifCond .ne 19, 3) := by decide +kernel
theorem dX9_sayMotion_104 : decode cX9_sayMotion 104 = .ok (.iload_n 3, 1) := by decide +kernel
theorem dX9_sayMotion_105 : decode cX9_sayMotion 105 = .ok (.aload_n 0, 1) := by decide +kernel
theorem dX9_sayMotion_106 : decode cX9_sayMotion 106 = .ok (.getfield 50, 3) := by decide +kernel
theorem dX9_sayMotion_109 : decode cX9_sayMotion 109 = .ok (.bipush 11, 2) := by decide +kernel
theorem dX9_sayMotion_111 : decode cX9_sayMotion 111 = .ok (.iaload, 1) := by decide +kernel
theorem dX9_sayMotion_112 : decode cX9_sayMotion 112 = .ok (.if_icmp .lt 8, 3) := by decide +kernel
theorem dX9_sayMotion_115 : decode cX9_sayMotion 115 = .ok (.aload_n 0, 1) := by decide +kernel
theorem dX9_sayMotion_116 : decode cX9_sayMotion 116 = .ok (.iconst 3, 1) := by decide +kernel
theorem dX9_sayMotion_117 : decode cX9_sayMotion 117 = .ok (.invokevirtual 222, 3) := by decide +kernel
theorem dX9_sayMotion_120 : decode cX9_sayMotion 120 = .ok (.aload_n 0, 1) := by decide +kernel
theorem dX9_sayMotion_121 : decode cX9_sayMotion 121 = .ok (.getfield 201, 3) := by decide +kernel
theorem dX9_sayMotion_124 : decode cX9_sayMotion 124 = .ok (.ifCond .ne 7, 3) := by decide +kernel
theorem dX9_sayMotion_127 : decode cX9_sayMotion 127 = .ok (.aload_n 0, 1) := by decide +kernel
theorem dX9_sayMotion_128 : decode cX9_sayMotion 128 = .ok (.invokevirtual 226, 3) := by decide +kernel
theorem dX9_sayMotion_131 : decode cX9_sayMotion 131 = .ok (.aload_n 0, 1) := by decide +kernel
theorem dX9_sayMotion_132 : decode cX9_sayMotion 132 = .ok (.getfield 70, 3) := by decide +kernel
theorem dX9_sayMotion_135 : decode cX9_sayMotion 135 = .ok (.iload_n 2, 1) := by decide +kernel
theorem dX9_sayMotion_136 : decode cX9_sayMotion 136 = .ok (.iload_n 3, 1) := by decide +kernel
theorem dX9_sayMotion_137 : decode cX9_sayMotion 137 = .ok (.iastore, 1) := by decide +kernel
theorem dX9_sayMotion_138 : decode cX9_sayMotion 138 = .ok (.aload_n 0, 1) := by decide +kernel
theorem dX9_sayMotion_139 : decode cX9_sayMotion 139 = .ok (.getfield 50, 3) := by decide +kernel
theorem dX9_sayMotion_142 : decode cX9_sayMotion 142 = .ok (.bipush 11, 2) := by decide +kernel
theorem dX9_sayMotion_144 : decode cX9_sayMotion 144 = .ok (.dup2, 1) := by decide +kernel
theorem dX9_sayMotion_145 : decode cX9_sayMotion 145 = .ok (.iaload, 1) := by decide +kernel
theorem dX9_sayMotion_146 : decode cX9_sayMotion 146 = .ok (.iconst 1, 1) := by decide +kernel
theorem dX9_sayMotion_147 : decode cX9_sayMotion 147 = .ok (.iadd, 1) := by decide +kernel
theorem dX9_sayMotion_148 : decode cX9_sayMotion 148 = .ok (.iastore, 1) := by decide +kernel
theorem dX9_sayMotion_149 : decode cX9_sayMotion 149 = .ok (.return_, 1) := by decide +kernel
theorem dX9_sayRule_0 : decode cX9_sayRule 0 = .ok (.aload_n 0, 1) := by decide +kernel
theorem dX9_sayRule_1 : decode cX9_sayRule 1 = .ok (.iload_n 1, 1) := by decide +kernel
theorem dX9_sayRule_2 : decode cX9_sayRule 2 = .ok (.putfield 235, 3) := by decide +kernel
theorem dX9_sayRule_5 : decode cX9_sayRule 5 = .ok (.aload_n 0, 1) := by decide +kernel
theorem dX9_sayRule_6 : decode cX9_sayRule 6 = .ok (.iload_n 1, 1) := by decide +kernel
theorem dX9_sayRule_7 : decode cX9_sayRule 7 = .ok (.ifCond .eq 10, 3) := by decide +kernel
theorem dX9_sayRule_10 : decode cX9_sayRule 10 = .ok (.aload_n 0, 1) := by decide +kernel
theorem dX9_sayRule_11 : decode cX9_sayRule 11 = .ok (.getfield 44, 3) := by decide +kernel
theorem dX9_sayRule_14 : decode cX9_sayRule 14 = .ok (.goto 7, 3) := by decide +kernel
theorem dX9_sayRule_17 : decode cX9_sayRule 17 = .ok (.aload_n 0, 1) := by decide +kernel
theorem dX9_sayRule_18 : decode cX9_sayRule 18 = .ok (.getfield 29, 3) := by decide +kernel
theorem dX9_sayRule_21 : decode cX9_sayRule 21 = .ok (.putfield 47, 3) := by decide +kernel
theorem dX9_sayRule_24 : decode cX9_sayRule 24 = .ok (.aload_n 0, 1) := by decide +kernel
theorem dX9_sayRule_25 : decode cX9_sayRule 25 = .ok (.iconst 0, 1) := by decide +kernel
theorem dX9_sayRule_26 : decode cX9_sayRule 26 = .ok (.invokevirtual 249, 3) := by decide +kernel
theorem dX9_sayRule_29 : decode cX9_sayRule 29 = .ok (.return_, 1) := by decide +kernel
theorem dX9_readLine_0 : decode cX9_readLine 0 = .ok (.aload_n 0, 1) := by decide +kernel
theorem dX9_readLine_1 : decode cX9_readLine 1 = .ok (.aload_n 0, 1) := by decide +kernel
theorem dX9_readLine_2 : decode cX9_readLine 2 = .ok (.getfield 17, 3) := by decide +kernel
theorem dX9_readLine_5 : decode cX9_readLine 5 = .ok (.invokevirtual 242, 3) := by decide +kernel
theorem dX9_readLine_8 : decode cX9_readLine 8 = .ok (.istore_n 2, 1) := by decide +kernel
theorem dX9_readLine_9 : decode cX9_readLine 9 = .ok (.aload_n 0, 1) := by decide +kernel
theorem dX9_readLine_10 : decode cX9_readLine 10 = .ok (.ldc_w 281, 3) := by decide +kernel
theorem dX9_readLine_13 : decode cX9_readLine 13 = .ok (.invokevirtual 215, 3) := by decide +kernel
theorem dX9_readLine_16 : decode cX9_readLine 16 = .ok (.ifCond .eq 7, 3) := by decide +kernel
theorem dX9_readLine_19 : decode cX9_readLine 19 = .ok (.iconst 1, 1) := by decide +kernel
theorem dX9_readLine_20 : decode cX9_readLine 20 = .ok (.goto 32, 3) := by decide +kernel
theorem dX9_readLine_23 : decode cX9_readLine 23 = .ok (.aload_n 0, 1) := by decide +kernel
theorem dX9_readLine_24 : decode cX9_readLine 24 = .ok (.ldc_w 283, 3) := by decide +kernel
theorem dX9_readLine_27 : decode cX9_readLine 27 = .ok (.invokevirtual 215, 3) := by decide +kernel
theorem dX9_readLine_30 : decode cX9_readLine 30 = .ok (.ifCond .eq 7, 3) := by decide +kernel
theorem dX9_readLine_33 : decode cX9_readLine 33 = .ok (.iconst 2, 1) := by decide +kernel
theorem dX9_readLine_34 : decode cX9_readLine 34 = .ok (.goto 18, 3) := by decide +kernel
theorem dX9_readLine_37 : decode cX9_readLine 37 = .ok (.aload_n 0, 1) := by decide +kernel
theorem dX9_readLine_38 : decode cX9_readLine 38 = .ok (.ldc_w 285, 3) := by decide +kernel
theorem dX9_readLine_41 : decode cX9_readLine 41 = .ok (.invokevirtual 215, 3) := by decide +kernel
theorem dX9_readLine_44 : decode cX9_readLine 44 = .ok (.ifCond .eq 7, 3) := by decide +kernel
theorem dX9_readLine_47 : decode cX9_readLine 47 = .ok (.iconst 4, 1) := by decide +kernel
theorem dX9_readLine_48 : decode cX9_readLine 48 = .ok (.goto 4, 3) := by decide +kernel
theorem dX9_readLine_51 : decode cX9_readLine 51 = .ok (.iconst 0, 1) := by decide +kernel
theorem dX9_readLine_52 : decode cX9_readLine 52 = .ok (.istore_n 3, 1) := by decide +kernel
theorem dX9_readLine_53 : decode cX9_readLine 53 = .ok (.iload_n 3, 1) := by decide +kernel
theorem dX9_readLine_54 : decode cX9_readLine 54 = .ok (.iload_n 1, 1) := by decide +kernel
theorem dX9_readLine_55 : decode cX9_readLine 55 = .ok (.iand, 1) := by decide +kernel
theorem dX9_readLine_56 : decode cX9_readLine 56 = .ok (.ifCond .eq 8, 3) := by decide +kernel
theorem dX9_readLine_59 : decode cX9_readLine 59 = .ok (.aload_n 0, 1) := by decide +kernel
theorem dX9_readLine_60 : decode cX9_readLine 60 = .ok (.iconst 5, 1) := by decide +kernel
theorem dX9_readLine_61 : decode cX9_readLine 61 = .ok (.invokevirtual 222, 3) := by decide +kernel
theorem dX9_readLine_64 : decode cX9_readLine 64 = .ok (.iload_n 3, 1) := by decide +kernel
theorem dX9_readLine_65 : decode cX9_readLine 65 = .ok (.ifCond .le 82, 3) := by decide +kernel
theorem dX9_readLine_68 : decode cX9_readLine 68 = .ok (.aload_n 0, 1) := by decide +kernel
theorem dX9_readLine_69 : decode cX9_readLine 69 = .ok (.getfield 201, 3) := by decide +kernel
theorem dX9_readLine_72 : decode cX9_readLine 72 = .ok (.ifCond .ne 7, 3) := by decide +kernel
theorem dX9_readLine_75 : decode cX9_readLine 75 = .ok (.aload_n 0, 1) := by decide +kernel
theorem dX9_readLine_76 : decode cX9_readLine 76 = .ok (.invokevirtual 226, 3) := by decide +kernel
theorem dX9_readLine_79 : decode cX9_readLine 79 = .ok (.iload_n 3, 1) := by decide +kernel
theorem dX9_readLine_80 : decode cX9_readLine 80 = .ok (.iconst 1, 1) := by decide +kernel
theorem dX9_readLine_81 : decode cX9_readLine 81 = .ok (.if_icmp .ne 49, 3) := by decide +kernel
theorem dX9_readLine_84 : decode cX9_readLine 84 = .ok (.aload_n 0, 1) := by decide +kernel
theorem dX9_readLine_85 : decode cX9_readLine 85 = .ok (.getfield 50, 3) := by decide +kernel
theorem dX9_readLine_88 : decode cX9_readLine 88 = .ok (.bipush 7, 2) := by decide +kernel
theorem dX9_readLine_90 : decode cX9_readLine 90 = .ok (.aload_n 0, 1) := by decide +kernel
theorem dX9_readLine_91 : decode cX9_readLine 91 = .ok (.iconst 0, 1) := by decide +kernel
theorem dX9_readLine_92 : decode cX9_readLine 92 = .ok (.bipush 99, 2) := by decide +kernel
theorem dX9_readLine_94 : decode cX9_readLine 94 = .ok (.invokevirtual 232, 3) := by decide +kernel
theorem dX9_readLine_97 : decode cX9_readLine 97 = .ok (.iastore, 1) := by decide +kernel
theorem dX9_readLine_98 : decode cX9_readLine 98 = .ok (.aload_n 0, 1) := by decide +kernel
theorem dX9_readLine_99 : decode cX9_readLine 99 = .ok (.getfield 50, 3) := by decide +kernel
theorem dX9_readLine_102 : decode cX9_readLine 102 = .ok (.bipush 8, 2) := by decide +kernel
theorem dX9_readLine_104 : decode cX9_readLine 104 = .ok (.aload_n 0, 1) := by decide +kernel
theorem dX9_readLine_105 : decode cX9_readLine 105 = .ok (.iconst 0, 1) := by decide +kernel
theorem dX9_readLine_106 : decode cX9_readLine 106 = .ok (.bipush 99, 2) := by decide +kernel
theorem dX9_readLine_108 : decode cX9_readLine 108 = .ok (.invokevirtual 232, 3) := by decide +kernel
theorem dX9_readLine_111 : decode cX9_readLine 111 = .ok (.iastore, 1) := by decide +kernel
theorem dX9_readLine_112 : decode cX9_readLine 112 = .ok (.aload_n 0, 1) := by decide +kernel
theorem dX9_readLine_113 : decode cX9_readLine 113 = .ok (.getfield 50, 3) := by decide +kernel
theorem dX9_readLine_116 : decode cX9_readLine 116 = .ok (.bipush 9, 2) := by decide +kernel
theorem dX9_readLine_118 : decode cX9_readLine 118 = .ok (.aload_n 0, 1) := by decide +kernel
theorem dX9_readLine_119 : decode cX9_readLine 119 = .ok (.iconst 0, 1) := by decide +kernel
theorem dX9_readLine_120 : decode cX9_readLine 120 = .ok (.sipush 999, 3) := by decide +kernel
theorem dX9_readLine_123 : decode cX9_readLine 123 = .ok (.invokevirtual 232, 3) := by decide +kernel
theorem dX9_readLine_126 : decode cX9_readLine 126 = .ok (.iastore, 1) := by decide +kernel
theorem dX9_readLine_127 : decode cX9_readLine 127 = .ok (.goto 55, 3) := by decide +kernel
theorem dX9_readLine_130 : decode cX9_readLine 130 = .ok (.aload_n 0, 1) := by decide +kernel
theorem dX9_readLine_131 : decode cX9_readLine 131 = .ok (.iload_n 3, 1) := by decide +kernel
theorem dX9_readLine_132 : decode cX9_readLine 132 = .ok (.iconst 4, 1) := by decide +kernel
theorem dX9_readLine_133 : decode cX9_readLine 133 = .ok (.if_icmp .ne 7, 3) := by decide +kernel
theorem dX9_readLine_136 : decode cX9_readLine 136 = .ok (.iconst 1, 1) := by decide +kernel
theorem dX9_readLine_137 : decode cX9_readLine 137 = .ok (.goto 4, 3) := by decide +kernel
theorem dX9_readLine_140 : decode cX9_readLine 140 = .ok (.iconst 0, 1) := by decide +kernel
theorem dX9_readLine_141 : decode cX9_readLine 141 = .ok (.invokevirtual 287, 3) := by decide +kernel
theorem dX9_readLine_144 : decode cX9_readLine 144 = .ok (.goto 38, 3) := by decide +kernel
theorem dX9_readLine_147 : decode cX9_readLine 147 = .ok (.iload_n 2, 1) := by decide +kernel
theorem dX9_readLine_148 : decode cX9_readLine 148 = .ok (.iconst (-1), 1) := by decide +kernel
theorem dX9_readLine_149 : decode cX9_readLine 149 = .ok (.if_icmp .eq 11, 3) := by decide +kernel
theorem dX9_readLine_152 : decode cX9_readLine 152 = .ok (.aload_n 0, 1) := by decide +kernel
theorem dX9_readLine_153 : decode cX9_readLine 153 = .ok (.iload_n 2, 1) := by decide +kernel
theorem dX9_readLine_154 : decode cX9_readLine 154 = .ok (.invokevirtual 291, 3) := by decide +kernel
theorem dX9_readLine_157 : decode cX9_readLine 157 = .ok (.goto 25, 3) := by decide +kernel
theorem dX9_readLine_160 : decode cX9_readLine 160 = .ok (.aload_n 0, 1) := by decide +kernel
theorem dX9_readLine_161 : decode cX9_readLine 161 = .ok (.ldc_w 294, 3) := by decide +kernel
theorem dX9_readLine_164 : decode cX9_readLine 164 = .ok (.invokevirtual 215, 3) := by decide +kernel
theorem dX9_readLine_167 : decode cX9_readLine 167 = .ok (.ifCond .eq 10, 3) := by decide +kernel
theorem dX9_readLine_170 : decode cX9_readLine 170 = .ok (.aload_n 0, 1) := by decide +kernel
theorem dX9_readLine_171 : decode cX9_readLine 171 = .ok (.invokevirtual 296, 3) := by decide +kernel
theorem dX9_readLine_174 : decode cX9_readLine 174 = .ok (.goto 8, 3) := by decide +kernel
theorem dX9_readLine_177 : decode cX9_readLine 177 = .ok (.aload_n 0, 1) := by decide +kernel
theorem dX9_readLine_178 : decode cX9_readLine 178 = .ok (.iconst 1, 1) := by decide +kernel
theorem dX9_readLine_179 : decode cX9_readLine 179 = .ok (.invokevirtual 222, 3) := by decide +kernel
theorem dX9_readLine_182 : decode cX9_readLine 182 = .ok (.aload_n 0, 1) := by decide +kernel
theorem dX9_readLine_183 : decode cX9_readLine 183 = .ok (.bipush 59, 2) := by decide +kernel
theorem dX9_readLine_185 : decode cX9_readLine 185 = .ok (.invokevirtual 246, 3) := by decide +kernel
theorem dX9_readLine_188 : decode cX9_readLine 188 = .ok (.iload_n 1, 1) := by decide +kernel
theorem dX9_readLine_189 : decode cX9_readLine 189 = .ok (.iload_n 3, 1) := by decide +kernel
theorem dX9_readLine_190 : decode cX9_readLine 190 = .ok (.ior, 1) := by decide +kernel
theorem dX9_readLine_191 : decode cX9_readLine 191 = .ok (.ireturn, 1) := by decide +kernel
theorem dX9_borough_0 : decode cX9_borough 0 = .ok (.aload_n 0, 1) := by decide +kernel
theorem dX9_borough_1 : decode cX9_borough 1 = .ok (.iconst 0, 1) := by decide +kernel
theorem dX9_borough_2 : decode cX9_borough 2 = .ok (.putfield 152, 3) := by decide +kernel
theorem dX9_borough_5 : decode cX9_borough 5 = .ok (.iload_n 1, 1) := by decide +kernel
theorem dX9_borough_6 : decode cX9_borough 6 = .ok (.ifCond .lt 11, 3) := by decide +kernel
theorem dX9_borough_9 : decode cX9_borough 9 = .ok (.iload_n 1, 1) := by decide +kernel
theorem dX9_borough_10 : decode cX9_borough 10 = .ok (.aload_n 0, 1) := by decide +kernel
theorem dX9_borough_11 : decode cX9_borough 11 = .ok (.getfield 159, 3) := by decide +kernel
theorem dX9_borough_14 : decode cX9_borough 14 = .ok (.if_icmp .le 9, 3) := by decide +kernel
theorem dX9_borough_17 : decode cX9_borough 17 = .ok (.aload_n 0, 1) := by decide +kernel
theorem dX9_borough_18 : decode cX9_borough 18 = .ok (.iconst 1, 1) := by decide +kernel
theorem dX9_borough_19 : decode cX9_borough 19 = .ok (.invokevirtual 299, 3) := by decide +kernel
theorem dX9_borough_22 : decode cX9_borough 22 = .ok (.ireturn, 1) := by decide +kernel
theorem dX9_borough_23 : decode cX9_borough 23 = .ok (.aload_n 0, 1) := by decide +kernel
theorem dX9_borough_24 : decode cX9_borough 24 = .ok (.iconst 0, 1) := by decide +kernel
theorem dX9_borough_25 : decode cX9_borough 25 = .ok (.putfield 159, 3) := by decide +kernel
theorem dX9_borough_28 : decode cX9_borough 28 = .ok (.aload_n 0, 1) := by decide +kernel
theorem dX9_borough_29 : decode cX9_borough 29 = .ok (.iload_n 1, 1) := by decide +kernel
theorem dX9_borough_30 : decode cX9_borough 30 = .ok (.putfield 162, 3) := by decide +kernel
theorem dX9_borough_33 : decode cX9_borough 33 = .ok (.aload_n 0, 1) := by decide +kernel
theorem dX9_borough_34 : decode cX9_borough 34 = .ok (.iconst 0, 1) := by decide +kernel
theorem dX9_borough_35 : decode cX9_borough 35 = .ok (.putfield 165, 3) := by decide +kernel
theorem dX9_borough_38 : decode cX9_borough 38 = .ok (.aload_n 0, 1) := by decide +kernel
theorem dX9_borough_39 : decode cX9_borough 39 = .ok (.iconst 0, 1) := by decide +kernel
theorem dX9_borough_40 : decode cX9_borough 40 = .ok (.putfield 201, 3) := by decide +kernel
theorem dX9_borough_43 : decode cX9_borough 43 = .ok (.aload_n 0, 1) := by decide +kernel
theorem dX9_borough_44 : decode cX9_borough 44 = .ok (.iconst (-1), 1) := by decide +kernel
theorem dX9_borough_45 : decode cX9_borough 45 = .ok (.putfield 85, 3) := by decide +kernel
theorem dX9_borough_48 : decode cX9_borough 48 = .ok (.iconst 0, 1) := by decide +kernel
theorem dX9_borough_49 : decode cX9_borough 49 = .ok (.istore_n 2, 1) := by decide +kernel
theorem dX9_borough_50 : decode cX9_borough 50 = .ok (.iload_n 2, 1) := by decide +kernel
theorem dX9_borough_51 : decode cX9_borough 51 = .ok (.bipush 7, 2) := by decide +kernel
theorem dX9_borough_53 : decode cX9_borough 53 = .ok (.if_icmp .ge 48, 3) := by decide +kernel
theorem dX9_borough_56 : decode cX9_borough 56 = .ok (.aload_n 0, 1) := by decide +kernel
theorem dX9_borough_57 : decode cX9_borough 57 = .ok (.getfield 50, 3) := by decide +kernel
theorem dX9_borough_60 : decode cX9_borough 60 = .ok (.bipush 7, 2) := by decide +kernel
theorem dX9_borough_62 : decode cX9_borough 62 = .ok (.iload_n 2, 1) := by decide +kernel
theorem dX9_borough_63 : decode cX9_borough 63 = .ok (.iadd, 1) := by decide +kernel
theorem dX9_borough_64 : decode cX9_borough 64 = .ok (.iload_n 2, 1) := by decide +kernel
theorem dX9_borough_65 : decode cX9_borough 65 = .ok (.ifCond .ne 8, 3) := by decide +kernel
theorem dX9_borough_68 : decode cX9_borough 68 = .ok (.bipush 20, 2) := by decide +kernel
theorem dX9_borough_70 : decode cX9_borough 70 = .ok (.goto 24, 3) := by decide +kernel
theorem dX9_borough_73 : decode cX9_borough 73 = .ok (.iload_n 2, 1) := by decide +kernel
theorem dX9_borough_74 : decode cX9_borough 74 = .ok (.iconst 1, 1) := by decide +kernel
theorem dX9_borough_75 : decode cX9_borough 75 = .ok (.if_icmp .ne 8, 3) := by decide +kernel
theorem dX9_borough_78 : decode cX9_borough 78 = .ok (.bipush 24, 2) := by decide +kernel
theorem dX9_borough_80 : decode cX9_borough 80 = .ok (.goto 14, 3) := by decide +kernel
theorem dX9_borough_83 : decode cX9_borough 83 = .ok (.iload_n 2, 1) := by decide +kernel
theorem dX9_borough_84 : decode cX9_borough 84 = .ok (.iconst 2, 1) := by decide +kernel
theorem dX9_borough_85 : decode cX9_borough 85 = .ok (.if_icmp .ne 8, 3) := by decide +kernel
theorem dX9_borough_88 : decode cX9_borough 88 = .ok (.bipush 100, 2) := by decide +kernel
theorem dX9_borough_90 : decode cX9_borough 90 = .ok (.goto 4, 3) := by decide +kernel
theorem dX9_borough_93 : decode cX9_borough 93 = .ok (.iconst 0, 1) := by decide +kernel
theorem dX9_borough_94 : decode cX9_borough 94 = .ok (.iastore, 1) := by decide +kernel
theorem dX9_borough_95 : decode cX9_borough 95 = .ok (.iinc 2 1, 3) := by decide +kernel
theorem dX9_borough_98 : decode cX9_borough 98 = .ok (.goto (-48), 3) := by decide +kernel
theorem dX9_borough_101 : decode cX9_borough 101 = .ok (.aload_n 0, 1) := by decide +kernel
theorem dX9_borough_102 : decode cX9_borough 102 = .ok (.invokevirtual 226, 3) := by decide +kernel
theorem dX9_borough_105 : decode cX9_borough 105 = .ok (.iconst 0, 1) := by decide +kernel
theorem dX9_borough_106 : decode cX9_borough 106 = .ok (.istore_n 2, 1) := by decide +kernel
theorem dX9_borough_107 : decode cX9_borough 107 = .ok (.aload_n 0, 1) := by decide +kernel
theorem dX9_borough_108 : decode cX9_borough 108 = .ok (.getfield 201, 3) := by decide +kernel
theorem dX9_borough_111 : decode cX9_borough 111 = .ok (.ifCond .ne 19, 3) := by decide +kernel
theorem dX9_borough_114 : decode cX9_borough 114 = .ok (.aload_n 0, 1) := by decide +kernel
theorem dX9_borough_115 : decode cX9_borough 115 = .ok (.getfield 175, 3) := by decide +kernel
theorem dX9_borough_118 : decode cX9_borough 118 = .ok (.ifCond .eq 12, 3) := by decide +kernel
theorem dX9_borough_121 : decode cX9_borough 121 = .ok (.aload_n 0, 1) := by decide +kernel
theorem dX9_borough_122 : decode cX9_borough 122 = .ok (.iload_n 2, 1) := by decide +kernel
theorem dX9_borough_123 : decode cX9_borough 123 = .ok (.invokevirtual 302, 3) := by decide +kernel
theorem dX9_borough_126 : decode cX9_borough 126 = .ok (.istore_n 2, 1) := by decide +kernel
theorem dX9_borough_127 : decode cX9_borough 127 = .ok (.goto (-20), 3) := by decide +kernel
theorem dX9_borough_130 : decode cX9_borough 130 = .ok (.aload_n 0, 1) := by decide +kernel
theorem dX9_borough_131 : decode cX9_borough 131 = .ok (.getfield 201, 3) := by decide +kernel
theorem dX9_borough_134 : decode cX9_borough 134 = .ok (.ifCond .eq 26, 3) := by decide +kernel
theorem dX9_borough_137 : decode cX9_borough 137 = .ok (.aload_n 0, 1) := by decide +kernel
theorem dX9_borough_138 : decode cX9_borough 138 = .ok (.aload_n 0, 1) := by decide +kernel
theorem dX9_borough_139 : decode cX9_borough 139 = .ok (.getfield 204, 3) := by decide +kernel
theorem dX9_borough_142 : decode cX9_borough 142 = .ok (.putfield 85, 3) := by decide +kernel
theorem dX9_borough_145 : decode cX9_borough 145 = .ok (.aload_n 0, 1) := by decide +kernel
theorem dX9_borough_146 : decode cX9_borough 146 = .ok (.getfield 79, 3) := by decide +kernel
theorem dX9_borough_149 : decode cX9_borough 149 = .ok (.iconst 0, 1) := by decide +kernel
theorem dX9_borough_150 : decode cX9_borough 150 = .ok (.dup2, 1) := by decide +kernel
theorem dX9_borough_151 : decode cX9_borough 151 = .ok (.iaload, 1) := by decide +kernel
theorem dX9_borough_152 : decode cX9_borough 152 = .ok (.iconst 1, 1) := by decide +kernel
theorem dX9_borough_153 : decode cX9_borough 153 = .ok (.iadd, 1) := by decide +kernel
theorem dX9_borough_154 : decode cX9_borough 154 = .ok (.iastore, 1) := by decide +kernel
theorem dX9_borough_155 : decode cX9_borough 155 = .ok (.aload_n 0, 1) := by decide +kernel
theorem dX9_borough_156 : decode cX9_borough 156 = .ok (.getfield 201, 3) := by decide +kernel
theorem dX9_borough_159 : decode cX9_borough 159 = .ok (.ireturn, 1) := by decide +kernel
theorem dX9_borough_160 : decode cX9_borough 160 = .ok (.aload_n 0, 1) := by decide +kernel
theorem dX9_borough_161 : decode cX9_borough 161 = .ok (.invokevirtual 305, 3) := by decide +kernel
theorem dX9_borough_164 : decode cX9_borough 164 = .ok (.iconst 0, 1) := by decide +kernel
theorem dX9_borough_165 : decode cX9_borough 165 = .ok (.ireturn, 1) := by decide +kernel
theorem dX9_takeHalf_0 : decode cX9_takeHalf 0 = .ok (.iconst 0, 1) := by decide +kernel
theorem dX9_takeHalf_1 : decode cX9_takeHalf 1 = .ok (.istore_n 1, 1) := by decide +kernel
theorem dX9_takeHalf_2 : decode cX9_takeHalf 2 = .ok (.iload_n 1, 1) := by decide +kernel
theorem dX9_takeHalf_3 : decode cX9_takeHalf 3 = .ok (.aload_n 0, 1) := by decide +kernel
theorem dX9_takeHalf_4 : decode cX9_takeHalf 4 = .ok (.arraylength, 1) := by decide +kernel
theorem dX9_takeHalf_5 : decode cX9_takeHalf 5 = .ok (.iconst 2, 1) := by decide +kernel
theorem dX9_takeHalf_6 : decode cX9_takeHalf 6 = .ok (.idiv, 1) := by decide +kernel
theorem dX9_takeHalf_7 : decode cX9_takeHalf 7 = .ok (.if_icmp .ge 20, 3) := by decide +kernel
theorem dX9_takeHalf_10 : decode cX9_takeHalf 10 = .ok (.aload_n 0, 1) := by decide +kernel
theorem dX9_takeHalf_11 : decode cX9_takeHalf 11 = .ok (.iload_n 1, 1) := by decide +kernel
theorem dX9_takeHalf_12 : decode cX9_takeHalf 12 = .ok (.aload_n 0, 1) := by decide +kernel
theorem dX9_takeHalf_13 : decode cX9_takeHalf 13 = .ok (.aload_n 0, 1) := by decide +kernel
theorem dX9_takeHalf_14 : decode cX9_takeHalf 14 = .ok (.arraylength, 1) := by decide +kernel
theorem dX9_takeHalf_15 : decode cX9_takeHalf 15 = .ok (.iconst 2, 1) := by decide +kernel
theorem dX9_takeHalf_16 : decode cX9_takeHalf 16 = .ok (.idiv, 1) := by decide +kernel
theorem dX9_takeHalf_17 : decode cX9_takeHalf 17 = .ok (.iload_n 1, 1) := by decide +kernel
theorem dX9_takeHalf_18 : decode cX9_takeHalf 18 = .ok (.iadd, 1) := by decide +kernel
theorem dX9_takeHalf_19 : decode cX9_takeHalf 19 = .ok (.iaload, 1) := by decide +kernel
theorem dX9_takeHalf_20 : decode cX9_takeHalf 20 = .ok (.iastore, 1) := by decide +kernel
theorem dX9_takeHalf_21 : decode cX9_takeHalf 21 = .ok (.iinc 1 1, 3) := by decide +kernel
theorem dX9_takeHalf_24 : decode cX9_takeHalf 24 = .ok (.goto (-22), 3) := by decide +kernel
theorem dX9_takeHalf_27 : decode cX9_takeHalf 27 = .ok (.return_, 1) := by decide +kernel
theorem dX9_takeOver_0 : decode cX9_takeOver 0 = .ok (.aload_n 0, 1) := by decide +kernel
theorem dX9_takeOver_1 : decode cX9_takeOver 1 = .ok (.getfield 50, 3) := by decide +kernel
theorem dX9_takeOver_4 : decode cX9_takeOver 4 = .ok (.invokestatic 308, 3) := by decide +kernel
theorem dX9_takeOver_7 : decode cX9_takeOver 7 = .ok (.aload_n 0, 1) := by decide +kernel
theorem dX9_takeOver_8 : decode cX9_takeOver 8 = .ok (.getfield 54, 3) := by decide +kernel
theorem dX9_takeOver_11 : decode cX9_takeOver 11 = .ok (.invokestatic 308, 3) := by decide +kernel
theorem dX9_takeOver_14 : decode cX9_takeOver 14 = .ok (.aload_n 0, 1) := by decide +kernel
theorem dX9_takeOver_15 : decode cX9_takeOver 15 = .ok (.getfield 57, 3) := by decide +kernel
theorem dX9_takeOver_18 : decode cX9_takeOver 18 = .ok (.invokestatic 308, 3) := by decide +kernel
theorem dX9_takeOver_21 : decode cX9_takeOver 21 = .ok (.aload_n 0, 1) := by decide +kernel
theorem dX9_takeOver_22 : decode cX9_takeOver 22 = .ok (.getfield 60, 3) := by decide +kernel
theorem dX9_takeOver_25 : decode cX9_takeOver 25 = .ok (.invokestatic 308, 3) := by decide +kernel
theorem dX9_takeOver_28 : decode cX9_takeOver 28 = .ok (.aload_n 0, 1) := by decide +kernel
theorem dX9_takeOver_29 : decode cX9_takeOver 29 = .ok (.getfield 62, 3) := by decide +kernel
theorem dX9_takeOver_32 : decode cX9_takeOver 32 = .ok (.invokestatic 308, 3) := by decide +kernel
theorem dX9_takeOver_35 : decode cX9_takeOver 35 = .ok (.aload_n 0, 1) := by decide +kernel
theorem dX9_takeOver_36 : decode cX9_takeOver 36 = .ok (.getfield 65, 3) := by decide +kernel
theorem dX9_takeOver_39 : decode cX9_takeOver 39 = .ok (.invokestatic 308, 3) := by decide +kernel
theorem dX9_takeOver_42 : decode cX9_takeOver 42 = .ok (.aload_n 0, 1) := by decide +kernel
theorem dX9_takeOver_43 : decode cX9_takeOver 43 = .ok (.getfield 67, 3) := by decide +kernel
theorem dX9_takeOver_46 : decode cX9_takeOver 46 = .ok (.invokestatic 308, 3) := by decide +kernel
theorem dX9_takeOver_49 : decode cX9_takeOver 49 = .ok (.aload_n 0, 1) := by decide +kernel
theorem dX9_takeOver_50 : decode cX9_takeOver 50 = .ok (.getfield 70, 3) := by decide +kernel
theorem dX9_takeOver_53 : decode cX9_takeOver 53 = .ok (.invokestatic 308, 3) := by decide +kernel
theorem dX9_takeOver_56 : decode cX9_takeOver 56 = .ok (.aload_n 0, 1) := by decide +kernel
theorem dX9_takeOver_57 : decode cX9_takeOver 57 = .ok (.getfield 73, 3) := by decide +kernel
theorem dX9_takeOver_60 : decode cX9_takeOver 60 = .ok (.invokestatic 308, 3) := by decide +kernel
theorem dX9_takeOver_63 : decode cX9_takeOver 63 = .ok (.aload_n 0, 1) := by decide +kernel
theorem dX9_takeOver_64 : decode cX9_takeOver 64 = .ok (.getfield 76, 3) := by decide +kernel
theorem dX9_takeOver_67 : decode cX9_takeOver 67 = .ok (.invokestatic 308, 3) := by decide +kernel
theorem dX9_takeOver_70 : decode cX9_takeOver 70 = .ok (.aload_n 0, 1) := by decide +kernel
theorem dX9_takeOver_71 : decode cX9_takeOver 71 = .ok (.iconst 0, 1) := by decide +kernel
theorem dX9_takeOver_72 : decode cX9_takeOver 72 = .ok (.putfield 312, 3) := by decide +kernel
theorem dX9_takeOver_75 : decode cX9_takeOver 75 = .ok (.aload_n 0, 1) := by decide +kernel
theorem dX9_takeOver_76 : decode cX9_takeOver 76 = .ok (.aload_n 0, 1) := by decide +kernel
theorem dX9_takeOver_77 : decode cX9_takeOver 77 = .ok (.getfield 50, 3) := by decide +kernel
theorem dX9_takeOver_80 : decode cX9_takeOver 80 = .ok (.iconst 0, 1) := by decide +kernel
theorem dX9_takeOver_81 : decode cX9_takeOver 81 = .ok (.iaload, 1) := by decide +kernel
theorem dX9_takeOver_82 : decode cX9_takeOver 82 = .ok (.putfield 145, 3) := by decide +kernel
theorem dX9_takeOver_85 : decode cX9_takeOver 85 = .ok (.aload_n 0, 1) := by decide +kernel
theorem dX9_takeOver_86 : decode cX9_takeOver 86 = .ok (.aload_n 0, 1) := by decide +kernel
theorem dX9_takeOver_87 : decode cX9_takeOver 87 = .ok (.getfield 50, 3) := by decide +kernel
theorem dX9_takeOver_90 : decode cX9_takeOver 90 = .ok (.iconst 1, 1) := by decide +kernel
theorem dX9_takeOver_91 : decode cX9_takeOver 91 = .ok (.iaload, 1) := by decide +kernel
theorem dX9_takeOver_92 : decode cX9_takeOver 92 = .ok (.putfield 147, 3) := by decide +kernel
theorem dX9_takeOver_95 : decode cX9_takeOver 95 = .ok (.aload_n 0, 1) := by decide +kernel
theorem dX9_takeOver_96 : decode cX9_takeOver 96 = .ok (.aload_n 0, 1) := by decide +kernel
theorem dX9_takeOver_97 : decode cX9_takeOver 97 = .ok (.getfield 50, 3) := by decide +kernel
theorem dX9_takeOver_100 : decode cX9_takeOver 100 = .ok (.iconst 2, 1) := by decide +kernel
theorem dX9_takeOver_101 : decode cX9_takeOver 101 = .ok (.iaload, 1) := by decide +kernel
theorem dX9_takeOver_102 : decode cX9_takeOver 102 = .ok (.putfield 149, 3) := by decide +kernel
theorem dX9_takeOver_105 : decode cX9_takeOver 105 = .ok (.aload_n 0, 1) := by decide +kernel
theorem dX9_takeOver_106 : decode cX9_takeOver 106 = .ok (.iconst 0, 1) := by decide +kernel
theorem dX9_takeOver_107 : decode cX9_takeOver 107 = .ok (.putfield 314, 3) := by decide +kernel
theorem dX9_takeOver_110 : decode cX9_takeOver 110 = .ok (.aload_n 0, 1) := by decide +kernel
theorem dX9_takeOver_111 : decode cX9_takeOver 111 = .ok (.iconst 0, 1) := by decide +kernel
theorem dX9_takeOver_112 : decode cX9_takeOver 112 = .ok (.putfield 317, 3) := by decide +kernel
theorem dX9_takeOver_115 : decode cX9_takeOver 115 = .ok (.aload_n 0, 1) := by decide +kernel
theorem dX9_takeOver_116 : decode cX9_takeOver 116 = .ok (.iconst 0, 1) := by decide +kernel
theorem dX9_takeOver_117 : decode cX9_takeOver 117 = .ok (.putfield 319, 3) := by decide +kernel
theorem dX9_takeOver_120 : decode cX9_takeOver 120 = .ok (.iconst 0, 1) := by decide +kernel
theorem dX9_takeOver_121 : decode cX9_takeOver 121 = .ok (.istore_n 1, 1) := by decide +kernel
theorem dX9_takeOver_122 : decode cX9_takeOver 122 = .ok (.iload_n 1, 1) := by decide +kernel
theorem dX9_takeOver_123 : decode cX9_takeOver 123 = .ok (.bipush 7, 2) := by decide +kernel
theorem dX9_takeOver_125 : decode cX9_takeOver 125 = .ok (.if_icmp .ge 35, 3) := by decide +kernel
theorem dX9_takeOver_128 : decode cX9_takeOver 128 = .ok (.aload_n 0, 1) := by decide +kernel
theorem dX9_takeOver_129 : decode cX9_takeOver 129 = .ok (.getfield 89, 3) := by decide +kernel
theorem dX9_takeOver_132 : decode cX9_takeOver 132 = .ok (.iload_n 1, 1) := by decide +kernel
theorem dX9_takeOver_133 : decode cX9_takeOver 133 = .ok (.iload_n 1, 1) := by decide +kernel
theorem dX9_takeOver_134 : decode cX9_takeOver 134 = .ok (.aload_n 0, 1) := by decide +kernel
theorem dX9_takeOver_135 : decode cX9_takeOver 135 = .ok (.getfield 50, 3) := by decide +kernel
theorem dX9_takeOver_138 : decode cX9_takeOver 138 = .ok (.iconst 3, 1) := by decide +kernel
theorem dX9_takeOver_139 : decode cX9_takeOver 139 = .ok (.iaload, 1) := by decide +kernel
theorem dX9_takeOver_140 : decode cX9_takeOver 140 = .ok (.if_icmp .ge 12, 3) := by decide +kernel
theorem dX9_takeOver_143 : decode cX9_takeOver 143 = .ok (.aload_n 0, 1) := by decide +kernel
theorem dX9_takeOver_144 : decode cX9_takeOver 144 = .ok (.getfield 54, 3) := by decide +kernel
theorem dX9_takeOver_147 : decode cX9_takeOver 147 = .ok (.iload_n 1, 1) := by decide +kernel
theorem dX9_takeOver_148 : decode cX9_takeOver 148 = .ok (.iaload, 1) := by decide +kernel
theorem dX9_takeOver_149 : decode cX9_takeOver 149 = .ok (.goto 4, 3) := by decide +kernel
theorem dX9_takeOver_152 : decode cX9_takeOver 152 = .ok (.iconst 0, 1) := by decide +kernel
theorem dX9_takeOver_153 : decode cX9_takeOver 153 = .ok (.iastore, 1) := by decide +kernel
theorem dX9_takeOver_154 : decode cX9_takeOver 154 = .ok (.iinc 1 1, 3) := by decide +kernel
theorem dX9_takeOver_157 : decode cX9_takeOver 157 = .ok (.goto (-35), 3) := by decide +kernel
theorem dX9_takeOver_160 : decode cX9_takeOver 160 = .ok (.iconst 0, 1) := by decide +kernel
theorem dX9_takeOver_161 : decode cX9_takeOver 161 = .ok (.istore_n 1, 1) := by decide +kernel
theorem dX9_takeOver_162 : decode cX9_takeOver 162 = .ok (.iload_n 1, 1) := by decide +kernel
theorem dX9_takeOver_163 : decode cX9_takeOver 163 = .ok (.bipush 10, 2) := by decide +kernel
theorem dX9_takeOver_165 : decode cX9_takeOver 165 = .ok (.if_icmp .ge 35, 3) := by decide +kernel
theorem dX9_takeOver_168 : decode cX9_takeOver 168 = .ok (.aload_n 0, 1) := by decide +kernel
theorem dX9_takeOver_169 : decode cX9_takeOver 169 = .ok (.getfield 91, 3) := by decide +kernel
theorem dX9_takeOver_172 : decode cX9_takeOver 172 = .ok (.iload_n 1, 1) := by decide +kernel
theorem dX9_takeOver_173 : decode cX9_takeOver 173 = .ok (.iload_n 1, 1) := by decide +kernel
theorem dX9_takeOver_174 : decode cX9_takeOver 174 = .ok (.aload_n 0, 1) := by decide +kernel
theorem dX9_takeOver_175 : decode cX9_takeOver 175 = .ok (.getfield 50, 3) := by decide +kernel
theorem dX9_takeOver_178 : decode cX9_takeOver 178 = .ok (.iconst 4, 1) := by decide +kernel
theorem dX9_takeOver_179 : decode cX9_takeOver 179 = .ok (.iaload, 1) := by decide +kernel
theorem dX9_takeOver_180 : decode cX9_takeOver 180 = .ok (.if_icmp .ge 12, 3) := by decide +kernel
theorem dX9_takeOver_183 : decode cX9_takeOver 183 = .ok (.aload_n 0, 1) := by decide +kernel
theorem dX9_takeOver_184 : decode cX9_takeOver 184 = .ok (.getfield 62, 3) := by decide +kernel
theorem dX9_takeOver_187 : decode cX9_takeOver 187 = .ok (.iload_n 1, 1) := by decide +kernel
theorem dX9_takeOver_188 : decode cX9_takeOver 188 = .ok (.iaload, 1) := by decide +kernel
theorem dX9_takeOver_189 : decode cX9_takeOver 189 = .ok (.goto 4, 3) := by decide +kernel
theorem dX9_takeOver_192 : decode cX9_takeOver 192 = .ok (.iconst 0, 1) := by decide +kernel
theorem dX9_takeOver_193 : decode cX9_takeOver 193 = .ok (.iastore, 1) := by decide +kernel
theorem dX9_takeOver_194 : decode cX9_takeOver 194 = .ok (.iinc 1 1, 3) := by decide +kernel
theorem dX9_takeOver_197 : decode cX9_takeOver 197 = .ok (.goto (-35), 3) := by decide +kernel
theorem dX9_takeOver_200 : decode cX9_takeOver 200 = .ok (.aload_n 0, 1) := by decide +kernel
theorem dX9_takeOver_201 : decode cX9_takeOver 201 = .ok (.iconst 0, 1) := by decide +kernel
theorem dX9_takeOver_202 : decode cX9_takeOver 202 = .ok (.putfield 321, 3) := by decide +kernel
theorem dX9_takeOver_205 : decode cX9_takeOver 205 = .ok (.aload_n 0, 1) := by decide +kernel
theorem dX9_takeOver_206 : decode cX9_takeOver 206 = .ok (.iconst 0, 1) := by decide +kernel
theorem dX9_takeOver_207 : decode cX9_takeOver 207 = .ok (.putfield 324, 3) := by decide +kernel
theorem dX9_takeOver_210 : decode cX9_takeOver 210 = .ok (.aload_n 0, 1) := by decide +kernel
theorem dX9_takeOver_211 : decode cX9_takeOver 211 = .ok (.iconst 0, 1) := by decide +kernel
theorem dX9_takeOver_212 : decode cX9_takeOver 212 = .ok (.putfield 327, 3) := by decide +kernel
theorem dX9_takeOver_215 : decode cX9_takeOver 215 = .ok (.return_, 1) := by decide +kernel
theorem dX9_fault_0 : decode cX9_fault 0 = .ok (.aload_n 0, 1) := by decide +kernel
theorem dX9_fault_1 : decode cX9_fault 1 = .ok (.iconst 0, 1) := by decide +kernel
theorem dX9_fault_2 : decode cX9_fault 2 = .ok (.putfield 152, 3) := by decide +kernel
theorem dX9_fault_5 : decode cX9_fault 5 = .ok (.aload_n 0, 1) := by decide +kernel
theorem dX9_fault_6 : decode cX9_fault 6 = .ok (.getfield 85, 3) := by decide +kernel
theorem dX9_fault_9 : decode cX9_fault 9 = .ok (.ireturn, 1) := by decide +kernel
theorem dX9_pack_0 : decode cX9_pack 0 = .ok (.aload_n 1, 1) := by decide +kernel
theorem dX9_pack_1 : decode cX9_pack 1 = .ok (.iload_n 2, 1) := by decide +kernel
theorem dX9_pack_2 : decode cX9_pack 2 = .ok (.aload_n 0, 1) := by decide +kernel
theorem dX9_pack_3 : decode cX9_pack 3 = .ok (.getfield 312, 3) := by decide +kernel
theorem dX9_pack_6 : decode cX9_pack 6 = .ok (.iastore, 1) := by decide +kernel
theorem dX9_pack_7 : decode cX9_pack 7 = .ok (.aload_n 1, 1) := by decide +kernel
theorem dX9_pack_8 : decode cX9_pack 8 = .ok (.iload_n 2, 1) := by decide +kernel
theorem dX9_pack_9 : decode cX9_pack 9 = .ok (.iconst 1, 1) := by decide +kernel
theorem dX9_pack_10 : decode cX9_pack 10 = .ok (.iadd, 1) := by decide +kernel
theorem dX9_pack_11 : decode cX9_pack 11 = .ok (.aload_n 0, 1) := by decide +kernel
theorem dX9_pack_12 : decode cX9_pack 12 = .ok (.getfield 145, 3) := by decide +kernel
theorem dX9_pack_15 : decode cX9_pack 15 = .ok (.iastore, 1) := by decide +kernel
theorem dX9_pack_16 : decode cX9_pack 16 = .ok (.aload_n 1, 1) := by decide +kernel
theorem dX9_pack_17 : decode cX9_pack 17 = .ok (.iload_n 2, 1) := by decide +kernel
theorem dX9_pack_18 : decode cX9_pack 18 = .ok (.iconst 2, 1) := by decide +kernel
theorem dX9_pack_19 : decode cX9_pack 19 = .ok (.iadd, 1) := by decide +kernel
theorem dX9_pack_20 : decode cX9_pack 20 = .ok (.aload_n 0, 1) := by decide +kernel
theorem dX9_pack_21 : decode cX9_pack 21 = .ok (.getfield 147, 3) := by decide +kernel
theorem dX9_pack_24 : decode cX9_pack 24 = .ok (.iastore, 1) := by decide +kernel
theorem dX9_pack_25 : decode cX9_pack 25 = .ok (.aload_n 1, 1) := by decide +kernel
theorem dX9_pack_26 : decode cX9_pack 26 = .ok (.iload_n 2, 1) := by decide +kernel
theorem dX9_pack_27 : decode cX9_pack 27 = .ok (.iconst 3, 1) := by decide +kernel
theorem dX9_pack_28 : decode cX9_pack 28 = .ok (.iadd, 1) := by decide +kernel
theorem dX9_pack_29 : decode cX9_pack 29 = .ok (.aload_n 0, 1) := by decide +kernel
theorem dX9_pack_30 : decode cX9_pack 30 = .ok (.getfield 314, 3) := by decide +kernel
theorem dX9_pack_33 : decode cX9_pack 33 = .ok (.iastore, 1) := by decide +kernel
theorem dX9_pack_34 : decode cX9_pack 34 = .ok (.aload_n 1, 1) := by decide +kernel
theorem dX9_pack_35 : decode cX9_pack 35 = .ok (.iload_n 2, 1) := by decide +kernel
theorem dX9_pack_36 : decode cX9_pack 36 = .ok (.iconst 4, 1) := by decide +kernel
theorem dX9_pack_37 : decode cX9_pack 37 = .ok (.iadd, 1) := by decide +kernel
theorem dX9_pack_38 : decode cX9_pack 38 = .ok (.aload_n 0, 1) := by decide +kernel
theorem dX9_pack_39 : decode cX9_pack 39 = .ok (.getfield 149, 3) := by decide +kernel
theorem dX9_pack_42 : decode cX9_pack 42 = .ok (.iastore, 1) := by decide +kernel
theorem dX9_pack_43 : decode cX9_pack 43 = .ok (.aload_n 1, 1) := by decide +kernel
theorem dX9_pack_44 : decode cX9_pack 44 = .ok (.iload_n 2, 1) := by decide +kernel
theorem dX9_pack_45 : decode cX9_pack 45 = .ok (.iconst 5, 1) := by decide +kernel
theorem dX9_pack_46 : decode cX9_pack 46 = .ok (.iadd, 1) := by decide +kernel
theorem dX9_pack_47 : decode cX9_pack 47 = .ok (.aload_n 0, 1) := by decide +kernel
theorem dX9_pack_48 : decode cX9_pack 48 = .ok (.getfield 317, 3) := by decide +kernel
theorem dX9_pack_51 : decode cX9_pack 51 = .ok (.iastore, 1) := by decide +kernel
theorem dX9_pack_52 : decode cX9_pack 52 = .ok (.aload_n 1, 1) := by decide +kernel
theorem dX9_pack_53 : decode cX9_pack 53 = .ok (.iload_n 2, 1) := by decide +kernel
theorem dX9_pack_54 : decode cX9_pack 54 = .ok (.bipush 6, 2) := by decide +kernel
theorem dX9_pack_56 : decode cX9_pack 56 = .ok (.iadd, 1) := by decide +kernel
theorem dX9_pack_57 : decode cX9_pack 57 = .ok (.aload_n 0, 1) := by decide +kernel
theorem dX9_pack_58 : decode cX9_pack 58 = .ok (.getfield 319, 3) := by decide +kernel
theorem dX9_pack_61 : decode cX9_pack 61 = .ok (.iastore, 1) := by decide +kernel
theorem dX9_pack_62 : decode cX9_pack 62 = .ok (.iconst 0, 1) := by decide +kernel
theorem dX9_pack_63 : decode cX9_pack 63 = .ok (.istore_n 3, 1) := by decide +kernel
theorem dX9_pack_64 : decode cX9_pack 64 = .ok (.iload_n 3, 1) := by decide +kernel
theorem dX9_pack_65 : decode cX9_pack 65 = .ok (.bipush 7, 2) := by decide +kernel
theorem dX9_pack_67 : decode cX9_pack 67 = .ok (.if_icmp .ge 23, 3) := by decide +kernel
theorem dX9_pack_70 : decode cX9_pack 70 = .ok (.aload_n 1, 1) := by decide +kernel
theorem dX9_pack_71 : decode cX9_pack 71 = .ok (.iload_n 2, 1) := by decide +kernel
theorem dX9_pack_72 : decode cX9_pack 72 = .ok (.bipush 7, 2) := by decide +kernel
theorem dX9_pack_74 : decode cX9_pack 74 = .ok (.iadd, 1) := by decide +kernel
theorem dX9_pack_75 : decode cX9_pack 75 = .ok (.iload_n 3, 1) := by decide +kernel
theorem dX9_pack_76 : decode cX9_pack 76 = .ok (.iadd, 1) := by decide +kernel
theorem dX9_pack_77 : decode cX9_pack 77 = .ok (.aload_n 0, 1) := by decide +kernel
theorem dX9_pack_78 : decode cX9_pack 78 = .ok (.getfield 89, 3) := by decide +kernel
theorem dX9_pack_81 : decode cX9_pack 81 = .ok (.iload_n 3, 1) := by decide +kernel
theorem dX9_pack_82 : decode cX9_pack 82 = .ok (.iaload, 1) := by decide +kernel
theorem dX9_pack_83 : decode cX9_pack 83 = .ok (.iastore, 1) := by decide +kernel
theorem dX9_pack_84 : decode cX9_pack 84 = .ok (.iinc 3 1, 3) := by decide +kernel
theorem dX9_pack_87 : decode cX9_pack 87 = .ok (.goto (-23), 3) := by decide +kernel
theorem dX9_pack_90 : decode cX9_pack 90 = .ok (.iconst 0, 1) := by decide +kernel
theorem dX9_pack_91 : decode cX9_pack 91 = .ok (.istore_n 3, 1) := by decide +kernel
theorem dX9_pack_92 : decode cX9_pack 92 = .ok (.iload_n 3, 1) := by decide +kernel
theorem dX9_pack_93 : decode cX9_pack 93 = .ok (.bipush 10, 2) := by decide +kernel
theorem dX9_pack_95 : decode cX9_pack 95 = .ok (.if_icmp .ge 26, 3) := by decide +kernel
theorem dX9_pack_98 : decode cX9_pack 98 = .ok (.aload_n 1, 1) := by decide +kernel
theorem dX9_pack_99 : decode cX9_pack 99 = .ok (.iload_n 2, 1) := by decide +kernel
theorem dX9_pack_100 : decode cX9_pack 100 = .ok (.bipush 7, 2) := by decide +kernel
theorem dX9_pack_102 : decode cX9_pack 102 = .ok (.iadd, 1) := by decide +kernel
theorem dX9_pack_103 : decode cX9_pack 103 = .ok (.bipush 7, 2) := by decide +kernel
theorem dX9_pack_105 : decode cX9_pack 105 = .ok (.iadd, 1) := by decide +kernel
theorem dX9_pack_106 : decode cX9_pack 106 = .ok (.iload_n 3, 1) := by decide +kernel
theorem dX9_pack_107 : decode cX9_pack 107 = .ok (.iadd, 1) := by decide +kernel
theorem dX9_pack_108 : decode cX9_pack 108 = .ok (.aload_n 0, 1) := by decide +kernel
theorem dX9_pack_109 : decode cX9_pack 109 = .ok (.getfield 91, 3) := by decide +kernel
theorem dX9_pack_112 : decode cX9_pack 112 = .ok (.iload_n 3, 1) := by decide +kernel
theorem dX9_pack_113 : decode cX9_pack 113 = .ok (.iaload, 1) := by decide +kernel
theorem dX9_pack_114 : decode cX9_pack 114 = .ok (.iastore, 1) := by decide +kernel
theorem dX9_pack_115 : decode cX9_pack 115 = .ok (.iinc 3 1, 3) := by decide +kernel
theorem dX9_pack_118 : decode cX9_pack 118 = .ok (.goto (-26), 3) := by decide +kernel
theorem dX9_pack_121 : decode cX9_pack 121 = .ok (.return_, 1) := by decide +kernel
theorem dX9_unpack_0 : decode cX9_unpack 0 = .ok (.aload_n 0, 1) := by decide +kernel
theorem dX9_unpack_1 : decode cX9_unpack 1 = .ok (.aload_n 1, 1) := by decide +kernel
theorem dX9_unpack_2 : decode cX9_unpack 2 = .ok (.iload_n 2, 1) := by decide +kernel
theorem dX9_unpack_3 : decode cX9_unpack 3 = .ok (.iaload, 1) := by decide +kernel
theorem dX9_unpack_4 : decode cX9_unpack 4 = .ok (.putfield 312, 3) := by decide +kernel
theorem dX9_unpack_7 : decode cX9_unpack 7 = .ok (.aload_n 0, 1) := by decide +kernel
theorem dX9_unpack_8 : decode cX9_unpack 8 = .ok (.aload_n 1, 1) := by decide +kernel
theorem dX9_unpack_9 : decode cX9_unpack 9 = .ok (.iload_n 2, 1) := by decide +kernel
theorem dX9_unpack_10 : decode cX9_unpack 10 = .ok (.iconst 1, 1) := by decide +kernel
theorem dX9_unpack_11 : decode cX9_unpack 11 = .ok (.iadd, 1) := by decide +kernel
theorem dX9_unpack_12 : decode cX9_unpack 12 = .ok (.iaload, 1) := by decide +kernel
theorem dX9_unpack_13 : decode cX9_unpack 13 = .ok (.putfield 145, 3) := by decide +kernel
theorem dX9_unpack_16 : decode cX9_unpack 16 = .ok (.aload_n 0, 1) := by decide +kernel
theorem dX9_unpack_17 : decode cX9_unpack 17 = .ok (.aload_n 1, 1) := by decide +kernel
theorem dX9_unpack_18 : decode cX9_unpack 18 = .ok (.iload_n 2, 1) := by decide +kernel
theorem dX9_unpack_19 : decode cX9_unpack 19 = .ok (.iconst 2, 1) := by decide +kernel
theorem dX9_unpack_20 : decode cX9_unpack 20 = .ok (.iadd, 1) := by decide +kernel
theorem dX9_unpack_21 : decode cX9_unpack 21 = .ok (.iaload, 1) := by decide +kernel
theorem dX9_unpack_22 : decode cX9_unpack 22 = .ok (.putfield 147, 3) := by decide +kernel
theorem dX9_unpack_25 : decode cX9_unpack 25 = .ok (.aload_n 0, 1) := by decide +kernel
theorem dX9_unpack_26 : decode cX9_unpack 26 = .ok (.aload_n 1, 1) := by decide +kernel
theorem dX9_unpack_27 : decode cX9_unpack 27 = .ok (.iload_n 2, 1) := by decide +kernel
theorem dX9_unpack_28 : decode cX9_unpack 28 = .ok (.iconst 3, 1) := by decide +kernel
theorem dX9_unpack_29 : decode cX9_unpack 29 = .ok (.iadd, 1) := by decide +kernel
theorem dX9_unpack_30 : decode cX9_unpack 30 = .ok (.iaload, 1) := by decide +kernel
theorem dX9_unpack_31 : decode cX9_unpack 31 = .ok (.putfield 314, 3) := by decide +kernel
theorem dX9_unpack_34 : decode cX9_unpack 34 = .ok (.aload_n 0, 1) := by decide +kernel
theorem dX9_unpack_35 : decode cX9_unpack 35 = .ok (.aload_n 1, 1) := by decide +kernel
theorem dX9_unpack_36 : decode cX9_unpack 36 = .ok (.iload_n 2, 1) := by decide +kernel
theorem dX9_unpack_37 : decode cX9_unpack 37 = .ok (.iconst 4, 1) := by decide +kernel
theorem dX9_unpack_38 : decode cX9_unpack 38 = .ok (.iadd, 1) := by decide +kernel
theorem dX9_unpack_39 : decode cX9_unpack 39 = .ok (.iaload, 1) := by decide +kernel
theorem dX9_unpack_40 : decode cX9_unpack 40 = .ok (.putfield 149, 3) := by decide +kernel
theorem dX9_unpack_43 : decode cX9_unpack 43 = .ok (.aload_n 0, 1) := by decide +kernel
theorem dX9_unpack_44 : decode cX9_unpack 44 = .ok (.aload_n 1, 1) := by decide +kernel
theorem dX9_unpack_45 : decode cX9_unpack 45 = .ok (.iload_n 2, 1) := by decide +kernel
theorem dX9_unpack_46 : decode cX9_unpack 46 = .ok (.iconst 5, 1) := by decide +kernel
theorem dX9_unpack_47 : decode cX9_unpack 47 = .ok (.iadd, 1) := by decide +kernel
theorem dX9_unpack_48 : decode cX9_unpack 48 = .ok (.iaload, 1) := by decide +kernel
theorem dX9_unpack_49 : decode cX9_unpack 49 = .ok (.putfield 317, 3) := by decide +kernel
theorem dX9_unpack_52 : decode cX9_unpack 52 = .ok (.aload_n 0, 1) := by decide +kernel
theorem dX9_unpack_53 : decode cX9_unpack 53 = .ok (.aload_n 1, 1) := by decide +kernel
theorem dX9_unpack_54 : decode cX9_unpack 54 = .ok (.iload_n 2, 1) := by decide +kernel
theorem dX9_unpack_55 : decode cX9_unpack 55 = .ok (.bipush 6, 2) := by decide +kernel
theorem dX9_unpack_57 : decode cX9_unpack 57 = .ok (.iadd, 1) := by decide +kernel
theorem dX9_unpack_58 : decode cX9_unpack 58 = .ok (.iaload, 1) := by decide +kernel
theorem dX9_unpack_59 : decode cX9_unpack 59 = .ok (.putfield 319, 3) := by decide +kernel
theorem dX9_unpack_62 : decode cX9_unpack 62 = .ok (.iconst 0, 1) := by decide +kernel
theorem dX9_unpack_63 : decode cX9_unpack 63 = .ok (.istore_n 3, 1) := by decide +kernel
theorem dX9_unpack_64 : decode cX9_unpack 64 = .ok (.iload_n 3, 1) := by decide +kernel
theorem dX9_unpack_65 : decode cX9_unpack 65 = .ok (.bipush 7, 2) := by decide +kernel
theorem dX9_unpack_67 : decode cX9_unpack 67 = .ok (.if_icmp .ge 23, 3) := by decide +kernel
theorem dX9_unpack_70 : decode cX9_unpack 70 = .ok (.aload_n 0, 1) := by decide +kernel
theorem dX9_unpack_71 : decode cX9_unpack 71 = .ok (.getfield 89, 3) := by decide +kernel
theorem dX9_unpack_74 : decode cX9_unpack 74 = .ok (.iload_n 3, 1) := by decide +kernel
theorem dX9_unpack_75 : decode cX9_unpack 75 = .ok (.aload_n 1, 1) := by decide +kernel
theorem dX9_unpack_76 : decode cX9_unpack 76 = .ok (.iload_n 2, 1) := by decide +kernel
theorem dX9_unpack_77 : decode cX9_unpack 77 = .ok (.bipush 7, 2) := by decide +kernel
theorem dX9_unpack_79 : decode cX9_unpack 79 = .ok (.iadd, 1) := by decide +kernel
theorem dX9_unpack_80 : decode cX9_unpack 80 = .ok (.iload_n 3, 1) := by decide +kernel
theorem dX9_unpack_81 : decode cX9_unpack 81 = .ok (.iadd, 1) := by decide +kernel
theorem dX9_unpack_82 : decode cX9_unpack 82 = .ok (.iaload, 1) := by decide +kernel
theorem dX9_unpack_83 : decode cX9_unpack 83 = .ok (.iastore, 1) := by decide +kernel
theorem dX9_unpack_84 : decode cX9_unpack 84 = .ok (.iinc 3 1, 3) := by decide +kernel
theorem dX9_unpack_87 : decode cX9_unpack 87 = .ok (.goto (-23), 3) := by decide +kernel
theorem dX9_unpack_90 : decode cX9_unpack 90 = .ok (.iconst 0, 1) := by decide +kernel
theorem dX9_unpack_91 : decode cX9_unpack 91 = .ok (.istore_n 3, 1) := by decide +kernel
theorem dX9_unpack_92 : decode cX9_unpack 92 = .ok (.iload_n 3, 1) := by decide +kernel
theorem dX9_unpack_93 : decode cX9_unpack 93 = .ok (.bipush 10, 2) := by decide +kernel
theorem dX9_unpack_95 : decode cX9_unpack 95 = .ok (.if_icmp .ge 26, 3) := by decide +kernel
theorem dX9_unpack_98 : decode cX9_unpack 98 = .ok (.aload_n 0, 1) := by decide +kernel
theorem dX9_unpack_99 : decode cX9_unpack 99 = .ok (.getfield 91, 3) := by decide +kernel
theorem dX9_unpack_102 : decode cX9_unpack 102 = .ok (.iload_n 3, 1) := by decide +kernel
theorem dX9_unpack_103 : decode cX9_unpack 103 = .ok (.aload_n 1, 1) := by decide +kernel
theorem dX9_unpack_104 : decode cX9_unpack 104 = .ok (.iload_n 2, 1) := by decide +kernel
theorem dX9_unpack_105 : decode cX9_unpack 105 = .ok (.bipush 7, 2) := by decide +kernel
theorem dX9_unpack_107 : decode cX9_unpack 107 = .ok (.iadd, 1) := by decide +kernel
theorem dX9_unpack_108 : decode cX9_unpack 108 = .ok (.bipush 7, 2) := by decide +kernel
theorem dX9_unpack_110 : decode cX9_unpack 110 = .ok (.iadd, 1) := by decide +kernel
theorem dX9_unpack_111 : decode cX9_unpack 111 = .ok (.iload_n 3, 1) := by decide +kernel
theorem dX9_unpack_112 : decode cX9_unpack 112 = .ok (.iadd, 1) := by decide +kernel
theorem dX9_unpack_113 : decode cX9_unpack 113 = .ok (.iaload, 1) := by decide +kernel
theorem dX9_unpack_114 : decode cX9_unpack 114 = .ok (.iastore, 1) := by decide +kernel
theorem dX9_unpack_115 : decode cX9_unpack 115 = .ok (.iinc 3 1, 3) := by decide +kernel
theorem dX9_unpack_118 : decode cX9_unpack 118 = .ok (.goto (-26), 3) := by decide +kernel
theorem dX9_unpack_121 : decode cX9_unpack 121 = .ok (.return_, 1) := by decide +kernel
theorem dX9_reckon_0 : decode cX9_reckon 0 = .ok (.iload_n 0, 1) := by decide +kernel
theorem dX9_reckon_1 : decode cX9_reckon 1 = .ok (.tableswitch 103 (-26) (-20) #[89, 78, 67, 55, 51, 47, 43], 43) := by decide +kernel
theorem dX9_reckon_44 : decode cX9_reckon 44 = .ok (.iload_n 1, 1) := by decide +kernel
theorem dX9_reckon_45 : decode cX9_reckon 45 = .ok (.iload_n 2, 1) := by decide +kernel
theorem dX9_reckon_46 : decode cX9_reckon 46 = .ok (.iadd, 1) := by decide +kernel
theorem dX9_reckon_47 : decode cX9_reckon 47 = .ok (.ireturn, 1) := by decide +kernel
theorem dX9_reckon_48 : decode cX9_reckon 48 = .ok (.iload_n 1, 1) := by decide +kernel
theorem dX9_reckon_49 : decode cX9_reckon 49 = .ok (.iload_n 2, 1) := by decide +kernel
theorem dX9_reckon_50 : decode cX9_reckon 50 = .ok (.isub, 1) := by decide +kernel
theorem dX9_reckon_51 : decode cX9_reckon 51 = .ok (.ireturn, 1) := by decide +kernel
theorem dX9_reckon_52 : decode cX9_reckon 52 = .ok (.iload_n 1, 1) := by decide +kernel
theorem dX9_reckon_53 : decode cX9_reckon 53 = .ok (.iload_n 2, 1) := by decide +kernel
theorem dX9_reckon_54 : decode cX9_reckon 54 = .ok (.imul, 1) := by decide +kernel
theorem dX9_reckon_55 : decode cX9_reckon 55 = .ok (.ireturn, 1) := by decide +kernel
theorem dX9_reckon_56 : decode cX9_reckon 56 = .ok (.iload_n 2, 1) := by decide +kernel
theorem dX9_reckon_57 : decode cX9_reckon 57 = .ok (.ifCond .ne 7, 3) := by decide +kernel
theorem dX9_reckon_60 : decode cX9_reckon 60 = .ok (.iconst 0, 1) := by decide +kernel
theorem dX9_reckon_61 : decode cX9_reckon 61 = .ok (.goto 6, 3) := by decide +kernel
theorem dX9_reckon_64 : decode cX9_reckon 64 = .ok (.iload_n 1, 1) := by decide +kernel
theorem dX9_reckon_65 : decode cX9_reckon 65 = .ok (.iload_n 2, 1) := by decide +kernel
theorem dX9_reckon_66 : decode cX9_reckon 66 = .ok (.idiv, 1) := by decide +kernel
theorem dX9_reckon_67 : decode cX9_reckon 67 = .ok (.ireturn, 1) := by decide +kernel
theorem dX9_reckon_68 : decode cX9_reckon 68 = .ok (.iload_n 1, 1) := by decide +kernel
theorem dX9_reckon_69 : decode cX9_reckon 69 = .ok (.iload_n 2, 1) := by decide +kernel
theorem dX9_reckon_70 : decode cX9_reckon 70 = .ok (.if_icmp .ge 7, 3) := by decide +kernel
theorem dX9_reckon_73 : decode cX9_reckon 73 = .ok (.iconst 1, 1) := by decide +kernel
theorem dX9_reckon_74 : decode cX9_reckon 74 = .ok (.goto 4, 3) := by decide +kernel
theorem dX9_reckon_77 : decode cX9_reckon 77 = .ok (.iconst 0, 1) := by decide +kernel
theorem dX9_reckon_78 : decode cX9_reckon 78 = .ok (.ireturn, 1) := by decide +kernel
theorem dX9_reckon_79 : decode cX9_reckon 79 = .ok (.iload_n 1, 1) := by decide +kernel
theorem dX9_reckon_80 : decode cX9_reckon 80 = .ok (.iload_n 2, 1) := by decide +kernel
theorem dX9_reckon_81 : decode cX9_reckon 81 = .ok (.if_icmp .ne 7, 3) := by decide +kernel
theorem dX9_reckon_84 : decode cX9_reckon 84 = .ok (.iconst 1, 1) := by decide +kernel
theorem dX9_reckon_85 : decode cX9_reckon 85 = .ok (.goto 4, 3) := by decide +kernel
theorem dX9_reckon_88 : decode cX9_reckon 88 = .ok (.iconst 0, 1) := by decide +kernel
theorem dX9_reckon_89 : decode cX9_reckon 89 = .ok (.ireturn, 1) := by decide +kernel
theorem dX9_reckon_90 : decode cX9_reckon 90 = .ok (.iload_n 1, 1) := by decide +kernel
theorem dX9_reckon_91 : decode cX9_reckon 91 = .ok (.ifCond .eq 11, 3) := by decide +kernel
theorem dX9_reckon_94 : decode cX9_reckon 94 = .ok (.iload_n 2, 1) := by decide +kernel
theorem dX9_reckon_95 : decode cX9_reckon 95 = .ok (.ifCond .eq 7, 3) := by decide +kernel
theorem dX9_reckon_98 : decode cX9_reckon 98 = .ok (.iconst 1, 1) := by decide +kernel
theorem dX9_reckon_99 : decode cX9_reckon 99 = .ok (.goto 4, 3) := by decide +kernel
theorem dX9_reckon_102 : decode cX9_reckon 102 = .ok (.iconst 0, 1) := by decide +kernel
theorem dX9_reckon_103 : decode cX9_reckon 103 = .ok (.ireturn, 1) := by decide +kernel
theorem dX9_reckon_104 : decode cX9_reckon 104 = .ok (.iload_n 1, 1) := by decide +kernel
theorem dX9_reckon_105 : decode cX9_reckon 105 = .ok (.ifCond .ne 7, 3) := by decide +kernel
theorem dX9_reckon_108 : decode cX9_reckon 108 = .ok (.iload_n 2, 1) := by decide +kernel
theorem dX9_reckon_109 : decode cX9_reckon 109 = .ok (.ifCond .eq 7, 3) := by decide +kernel
theorem dX9_reckon_112 : decode cX9_reckon 112 = .ok (.iconst 1, 1) := by decide +kernel
theorem dX9_reckon_113 : decode cX9_reckon 113 = .ok (.goto 4, 3) := by decide +kernel
theorem dX9_reckon_116 : decode cX9_reckon 116 = .ok (.iconst 0, 1) := by decide +kernel
theorem dX9_reckon_117 : decode cX9_reckon 117 = .ok (.ireturn, 1) := by decide +kernel
theorem dX9_valueNow_0 : decode cX9_valueNow 0 = .ok (.iconst 0, 1) := by decide +kernel
theorem dX9_valueNow_1 : decode cX9_valueNow 1 = .ok (.istore_n 3, 1) := by decide +kernel
theorem dX9_valueNow_2 : decode cX9_valueNow 2 = .ok (.iconst 0, 1) := by decide +kernel
theorem dX9_valueNow_3 : decode cX9_valueNow 3 = .ok (.istore 4, 2) := by decide +kernel
theorem dX9_valueNow_5 : decode cX9_valueNow 5 = .ok (.iload 4, 2) := by decide +kernel
theorem dX9_valueNow_7 : decode cX9_valueNow 7 = .ok (.iload_n 2, 1) := by decide +kernel
theorem dX9_valueNow_8 : decode cX9_valueNow 8 = .ok (.if_icmp .ge 117, 3) := by decide +kernel
theorem dX9_valueNow_11 : decode cX9_valueNow 11 = .ok (.aload_n 1, 1) := by decide +kernel
theorem dX9_valueNow_12 : decode cX9_valueNow 12 = .ok (.iload 4, 2) := by decide +kernel
theorem dX9_valueNow_14 : decode cX9_valueNow 14 = .ok (.iaload, 1) := by decide +kernel
theorem dX9_valueNow_15 : decode cX9_valueNow 15 = .ok (.istore 5, 2) := by decide +kernel
theorem dX9_valueNow_17 : decode cX9_valueNow 17 = .ok (.iload 5, 2) := by decide +kernel
theorem dX9_valueNow_19 : decode cX9_valueNow 19 = .ok (.bipush (-20), 2) := by decide +kernel
theorem dX9_valueNow_21 : decode cX9_valueNow 21 = .ok (.if_icmp .le 34, 3) := by decide +kernel
theorem dX9_valueNow_24 : decode cX9_valueNow 24 = .ok (.aload_n 0, 1) := by decide +kernel
theorem dX9_valueNow_25 : decode cX9_valueNow 25 = .ok (.getfield 100, 3) := by decide +kernel
theorem dX9_valueNow_28 : decode cX9_valueNow 28 = .ok (.iload_n 3, 1) := by decide +kernel
theorem dX9_valueNow_29 : decode cX9_valueNow 29 = .ok (.iload 5, 2) := by decide +kernel
theorem dX9_valueNow_31 : decode cX9_valueNow 31 = .ok (.ifCond .lt 8, 3) := by decide +kernel
theorem dX9_valueNow_34 : decode cX9_valueNow 34 = .ok (.iload 5, 2) := by decide +kernel
theorem dX9_valueNow_36 : decode cX9_valueNow 36 = .ok (.goto 12, 3) := by decide +kernel
theorem dX9_valueNow_39 : decode cX9_valueNow 39 = .ok (.aload_n 0, 1) := by decide +kernel
theorem dX9_valueNow_40 : decode cX9_valueNow 40 = .ok (.getfield 97, 3) := by decide +kernel
theorem dX9_valueNow_43 : decode cX9_valueNow 43 = .ok (.iconst (-1), 1) := by decide +kernel
theorem dX9_valueNow_44 : decode cX9_valueNow 44 = .ok (.iload 5, 2) := by decide +kernel
theorem dX9_valueNow_46 : decode cX9_valueNow 46 = .ok (.isub, 1) := by decide +kernel
theorem dX9_valueNow_47 : decode cX9_valueNow 47 = .ok (.iaload, 1) := by decide +kernel
theorem dX9_valueNow_48 : decode cX9_valueNow 48 = .ok (.iastore, 1) := by decide +kernel
theorem dX9_valueNow_49 : decode cX9_valueNow 49 = .ok (.iinc 3 1, 3) := by decide +kernel
theorem dX9_valueNow_52 : decode cX9_valueNow 52 = .ok (.goto 67, 3) := by decide +kernel
theorem dX9_valueNow_55 : decode cX9_valueNow 55 = .ok (.iload 5, 2) := by decide +kernel
theorem dX9_valueNow_57 : decode cX9_valueNow 57 = .ok (.bipush (-28), 2) := by decide +kernel
theorem dX9_valueNow_59 : decode cX9_valueNow 59 = .ok (.if_icmp .ne 30, 3) := by decide +kernel
theorem dX9_valueNow_62 : decode cX9_valueNow 62 = .ok (.aload_n 0, 1) := by decide +kernel
theorem dX9_valueNow_63 : decode cX9_valueNow 63 = .ok (.getfield 100, 3) := by decide +kernel
theorem dX9_valueNow_66 : decode cX9_valueNow 66 = .ok (.iload_n 3, 1) := by decide +kernel
theorem dX9_valueNow_67 : decode cX9_valueNow 67 = .ok (.iconst 1, 1) := by decide +kernel
theorem dX9_valueNow_68 : decode cX9_valueNow 68 = .ok (.isub, 1) := by decide +kernel
theorem dX9_valueNow_69 : decode cX9_valueNow 69 = .ok (.aload_n 0, 1) := by decide +kernel
theorem dX9_valueNow_70 : decode cX9_valueNow 70 = .ok (.getfield 100, 3) := by decide +kernel
theorem dX9_valueNow_73 : decode cX9_valueNow 73 = .ok (.iload_n 3, 1) := by decide +kernel
theorem dX9_valueNow_74 : decode cX9_valueNow 74 = .ok (.iconst 1, 1) := by decide +kernel
theorem dX9_valueNow_75 : decode cX9_valueNow 75 = .ok (.isub, 1) := by decide +kernel
theorem dX9_valueNow_76 : decode cX9_valueNow 76 = .ok (.iaload, 1) := by decide +kernel
theorem dX9_valueNow_77 : decode cX9_valueNow 77 = .ok (.ifCond .eq 7, 3) := by decide +kernel
theorem dX9_valueNow_80 : decode cX9_valueNow 80 = .ok (.iconst 0, 1) := by decide +kernel
theorem dX9_valueNow_81 : decode cX9_valueNow 81 = .ok (.goto 4, 3) := by decide +kernel
theorem dX9_valueNow_84 : decode cX9_valueNow 84 = .ok (.iconst 1, 1) := by decide +kernel
theorem dX9_valueNow_85 : decode cX9_valueNow 85 = .ok (.iastore, 1) := by decide +kernel
theorem dX9_valueNow_86 : decode cX9_valueNow 86 = .ok (.goto 33, 3) := by decide +kernel
theorem dX9_valueNow_89 : decode cX9_valueNow 89 = .ok (.iinc 3 (-1), 3) := by decide +kernel
theorem dX9_valueNow_92 : decode cX9_valueNow 92 = .ok (.aload_n 0, 1) := by decide +kernel
theorem dX9_valueNow_93 : decode cX9_valueNow 93 = .ok (.getfield 100, 3) := by decide +kernel
theorem dX9_valueNow_96 : decode cX9_valueNow 96 = .ok (.iload_n 3, 1) := by decide +kernel
theorem dX9_valueNow_97 : decode cX9_valueNow 97 = .ok (.iconst 1, 1) := by decide +kernel
theorem dX9_valueNow_98 : decode cX9_valueNow 98 = .ok (.isub, 1) := by decide +kernel
theorem dX9_valueNow_99 : decode cX9_valueNow 99 = .ok (.iload 5, 2) := by decide +kernel
theorem dX9_valueNow_101 : decode cX9_valueNow 101 = .ok (.aload_n 0, 1) := by decide +kernel
theorem dX9_valueNow_102 : decode cX9_valueNow 102 = .ok (.getfield 100, 3) := by decide +kernel
theorem dX9_valueNow_105 : decode cX9_valueNow 105 = .ok (.iload_n 3, 1) := by decide +kernel
theorem dX9_valueNow_106 : decode cX9_valueNow 106 = .ok (.iconst 1, 1) := by decide +kernel
theorem dX9_valueNow_107 : decode cX9_valueNow 107 = .ok (.isub, 1) := by decide +kernel
theorem dX9_valueNow_108 : decode cX9_valueNow 108 = .ok (.iaload, 1) := by decide +kernel
theorem dX9_valueNow_109 : decode cX9_valueNow 109 = .ok (.aload_n 0, 1) := by decide +kernel
theorem dX9_valueNow_110 : decode cX9_valueNow 110 = .ok (.getfield 100, 3) := by decide +kernel
theorem dX9_valueNow_113 : decode cX9_valueNow 113 = .ok (.iload_n 3, 1) := by decide +kernel
theorem dX9_valueNow_114 : decode cX9_valueNow 114 = .ok (.iaload, 1) := by decide +kernel
theorem dX9_valueNow_115 : decode cX9_valueNow 115 = .ok (.invokestatic 330, 3) := by decide +kernel
theorem dX9_valueNow_118 : decode cX9_valueNow 118 = .ok (.iastore, 1) := by decide +kernel
theorem dX9_valueNow_119 : decode cX9_valueNow 119 = .ok (.iinc 4 1, 3) := by decide +kernel
theorem dX9_valueNow_122 : decode cX9_valueNow 122 = .ok (.goto (-117), 3) := by decide +kernel
theorem dX9_valueNow_125 : decode cX9_valueNow 125 = .ok (.aload_n 0, 1) := by decide +kernel
theorem dX9_valueNow_126 : decode cX9_valueNow 126 = .ok (.getfield 100, 3) := by decide +kernel
theorem dX9_valueNow_129 : decode cX9_valueNow 129 = .ok (.iconst 0, 1) := by decide +kernel
theorem dX9_valueNow_130 : decode cX9_valueNow 130 = .ok (.iaload, 1) := by decide +kernel
theorem dX9_valueNow_131 : decode cX9_valueNow 131 = .ok (.ireturn, 1) := by decide +kernel
theorem dX9_saidNow_0 : decode cX9_saidNow 0 = .ok (.aload_n 0, 1) := by decide +kernel
theorem dX9_saidNow_1 : decode cX9_saidNow 1 = .ok (.getfield 147, 3) := by decide +kernel
theorem dX9_saidNow_4 : decode cX9_saidNow 4 = .ok (.ifCond .eq 10, 3) := by decide +kernel
theorem dX9_saidNow_7 : decode cX9_saidNow 7 = .ok (.aload_n 0, 1) := by decide +kernel
theorem dX9_saidNow_8 : decode cX9_saidNow 8 = .ok (.getfield 314, 3) := by decide +kernel
theorem dX9_saidNow_11 : decode cX9_saidNow 11 = .ok (.ifCond .le 5, 3) := by decide +kernel
theorem dX9_saidNow_14 : decode cX9_saidNow 14 = .ok (.iconst (-1), 1) := by decide +kernel
theorem dX9_saidNow_15 : decode cX9_saidNow 15 = .ok (.ireturn, 1) := by decide +kernel
theorem dX9_saidNow_16 : decode cX9_saidNow 16 = .ok (.aload_n 0, 1) := by decide +kernel
theorem dX9_saidNow_17 : decode cX9_saidNow 17 = .ok (.getfield 312, 3) := by decide +kernel
theorem dX9_saidNow_20 : decode cX9_saidNow 20 = .ok (.bipush 12, 2) := by decide +kernel
theorem dX9_saidNow_22 : decode cX9_saidNow 22 = .ok (.irem, 1) := by decide +kernel
theorem dX9_saidNow_23 : decode cX9_saidNow 23 = .ok (.ifCond .ne 8, 3) := by decide +kernel
theorem dX9_saidNow_26 : decode cX9_saidNow 26 = .ok (.bipush 12, 2) := by decide +kernel
theorem dX9_saidNow_28 : decode cX9_saidNow 28 = .ok (.goto 10, 3) := by decide +kernel
theorem dX9_saidNow_31 : decode cX9_saidNow 31 = .ok (.aload_n 0, 1) := by decide +kernel
theorem dX9_saidNow_32 : decode cX9_saidNow 32 = .ok (.getfield 312, 3) := by decide +kernel
theorem dX9_saidNow_35 : decode cX9_saidNow 35 = .ok (.bipush 12, 2) := by decide +kernel
theorem dX9_saidNow_37 : decode cX9_saidNow 37 = .ok (.irem, 1) := by decide +kernel
theorem dX9_saidNow_38 : decode cX9_saidNow 38 = .ok (.istore_n 1, 1) := by decide +kernel
theorem dX9_saidNow_39 : decode cX9_saidNow 39 = .ok (.iload_n 1, 1) := by decide +kernel
theorem dX9_saidNow_40 : decode cX9_saidNow 40 = .ok (.istore_n 2, 1) := by decide +kernel
theorem dX9_saidNow_41 : decode cX9_saidNow 41 = .ok (.aload_n 0, 1) := by decide +kernel
theorem dX9_saidNow_42 : decode cX9_saidNow 42 = .ok (.getfield 50, 3) := by decide +kernel
theorem dX9_saidNow_45 : decode cX9_saidNow 45 = .ok (.iconst 5, 1) := by decide +kernel
theorem dX9_saidNow_46 : decode cX9_saidNow 46 = .ok (.iaload, 1) := by decide +kernel
theorem dX9_saidNow_47 : decode cX9_saidNow 47 = .ok (.ifCond .le 58, 3) := by decide +kernel
theorem dX9_saidNow_50 : decode cX9_saidNow 50 = .ok (.aload_n 0, 1) := by decide +kernel
theorem dX9_saidNow_51 : decode cX9_saidNow 51 = .ok (.getfield 97, 3) := by decide +kernel
theorem dX9_saidNow_54 : decode cX9_saidNow 54 = .ok (.iconst 0, 1) := by decide +kernel
theorem dX9_saidNow_55 : decode cX9_saidNow 55 = .ok (.iload_n 1, 1) := by decide +kernel
theorem dX9_saidNow_56 : decode cX9_saidNow 56 = .ok (.iastore, 1) := by decide +kernel
theorem dX9_saidNow_57 : decode cX9_saidNow 57 = .ok (.aload_n 0, 1) := by decide +kernel
theorem dX9_saidNow_58 : decode cX9_saidNow 58 = .ok (.getfield 97, 3) := by decide +kernel
theorem dX9_saidNow_61 : decode cX9_saidNow 61 = .ok (.iconst 1, 1) := by decide +kernel
theorem dX9_saidNow_62 : decode cX9_saidNow 62 = .ok (.aload_n 0, 1) := by decide +kernel
theorem dX9_saidNow_63 : decode cX9_saidNow 63 = .ok (.getfield 145, 3) := by decide +kernel
theorem dX9_saidNow_66 : decode cX9_saidNow 66 = .ok (.iastore, 1) := by decide +kernel
theorem dX9_saidNow_67 : decode cX9_saidNow 67 = .ok (.aload_n 0, 1) := by decide +kernel
theorem dX9_saidNow_68 : decode cX9_saidNow 68 = .ok (.getfield 97, 3) := by decide +kernel
theorem dX9_saidNow_71 : decode cX9_saidNow 71 = .ok (.iconst 2, 1) := by decide +kernel
theorem dX9_saidNow_72 : decode cX9_saidNow 72 = .ok (.aload_n 0, 1) := by decide +kernel
theorem dX9_saidNow_73 : decode cX9_saidNow 73 = .ok (.getfield 147, 3) := by decide +kernel
theorem dX9_saidNow_76 : decode cX9_saidNow 76 = .ok (.iastore, 1) := by decide +kernel
theorem dX9_saidNow_77 : decode cX9_saidNow 77 = .ok (.aload_n 0, 1) := by decide +kernel
theorem dX9_saidNow_78 : decode cX9_saidNow 78 = .ok (.getfield 97, 3) := by decide +kernel
theorem dX9_saidNow_81 : decode cX9_saidNow 81 = .ok (.iconst 3, 1) := by decide +kernel
theorem dX9_saidNow_82 : decode cX9_saidNow 82 = .ok (.aload_n 0, 1) := by decide +kernel
theorem dX9_saidNow_83 : decode cX9_saidNow 83 = .ok (.getfield 312, 3) := by decide +kernel
theorem dX9_saidNow_86 : decode cX9_saidNow 86 = .ok (.bipush 24, 2) := by decide +kernel
theorem dX9_saidNow_88 : decode cX9_saidNow 88 = .ok (.idiv, 1) := by decide +kernel
theorem dX9_saidNow_89 : decode cX9_saidNow 89 = .ok (.iastore, 1) := by decide +kernel
theorem dX9_saidNow_90 : decode cX9_saidNow 90 = .ok (.aload_n 0, 1) := by decide +kernel
theorem dX9_saidNow_91 : decode cX9_saidNow 91 = .ok (.aload_n 0, 1) := by decide +kernel
theorem dX9_saidNow_92 : decode cX9_saidNow 92 = .ok (.getfield 73, 3) := by decide +kernel
theorem dX9_saidNow_95 : decode cX9_saidNow 95 = .ok (.aload_n 0, 1) := by decide +kernel
theorem dX9_saidNow_96 : decode cX9_saidNow 96 = .ok (.getfield 50, 3) := by decide +kernel
theorem dX9_saidNow_99 : decode cX9_saidNow 99 = .ok (.iconst 5, 1) := by decide +kernel
theorem dX9_saidNow_100 : decode cX9_saidNow 100 = .ok (.iaload, 1) := by decide +kernel
theorem dX9_saidNow_101 : decode cX9_saidNow 101 = .ok (.invokevirtual 334, 3) := by decide +kernel
theorem dX9_saidNow_104 : decode cX9_saidNow 104 = .ok (.istore_n 2, 1) := by decide +kernel
theorem dX9_saidNow_105 : decode cX9_saidNow 105 = .ok (.iconst 0, 1) := by decide +kernel
theorem dX9_saidNow_106 : decode cX9_saidNow 106 = .ok (.bipush 24, 2) := by decide +kernel
theorem dX9_saidNow_108 : decode cX9_saidNow 108 = .ok (.iload_n 2, 1) := by decide +kernel
theorem dX9_saidNow_109 : decode cX9_saidNow 109 = .ok (.invokestatic 189, 3) := by decide +kernel
theorem dX9_saidNow_112 : decode cX9_saidNow 112 = .ok (.invokestatic 338, 3) := by decide +kernel
theorem dX9_saidNow_115 : decode cX9_saidNow 115 = .ok (.istore_n 2, 1) := by decide +kernel
theorem dX9_saidNow_116 : decode cX9_saidNow 116 = .ok (.aload_n 0, 1) := by decide +kernel
theorem dX9_saidNow_117 : decode cX9_saidNow 117 = .ok (.getfield 145, 3) := by decide +kernel
theorem dX9_saidNow_120 : decode cX9_saidNow 120 = .ok (.ifCond .ne 9, 3) := by decide +kernel
theorem dX9_saidNow_123 : decode cX9_saidNow 123 = .ok (.iload_n 2, 1) := by decide +kernel
theorem dX9_saidNow_124 : decode cX9_saidNow 124 = .ok (.iconst 2, 1) := by decide +kernel
theorem dX9_saidNow_125 : decode cX9_saidNow 125 = .ok (.idiv, 1) := by decide +kernel
theorem dX9_saidNow_126 : decode cX9_saidNow 126 = .ok (.goto 4, 3) := by decide +kernel
theorem dX9_saidNow_129 : decode cX9_saidNow 129 = .ok (.iload_n 2, 1) := by decide +kernel
theorem dX9_saidNow_130 : decode cX9_saidNow 130 = .ok (.ireturn, 1) := by decide +kernel
theorem dX9_isFor_0 : decode cX9_isFor 0 = .ok (.aload_n 0, 1) := by decide +kernel
theorem dX9_isFor_1 : decode cX9_isFor 1 = .ok (.getfield 50, 3) := by decide +kernel
theorem dX9_isFor_4 : decode cX9_isFor 4 = .ok (.bipush 6, 2) := by decide +kernel
theorem dX9_isFor_6 : decode cX9_isFor 6 = .ok (.iaload, 1) := by decide +kernel
theorem dX9_isFor_7 : decode cX9_isFor 7 = .ok (.ifCond .ne 20, 3) := by decide +kernel
theorem dX9_isFor_10 : decode cX9_isFor 10 = .ok (.iload_n 2, 1) := by decide +kernel
theorem dX9_isFor_11 : decode cX9_isFor 11 = .ok (.aload_n 0, 1) := by decide +kernel
theorem dX9_isFor_12 : decode cX9_isFor 12 = .ok (.getfield 67, 3) := by decide +kernel
theorem dX9_isFor_15 : decode cX9_isFor 15 = .ok (.iload_n 3, 1) := by decide +kernel
theorem dX9_isFor_16 : decode cX9_isFor 16 = .ok (.iaload, 1) := by decide +kernel
theorem dX9_isFor_17 : decode cX9_isFor 17 = .ok (.iadd, 1) := by decide +kernel
theorem dX9_isFor_18 : decode cX9_isFor 18 = .ok (.ifCond .le 7, 3) := by decide +kernel
theorem dX9_isFor_21 : decode cX9_isFor 21 = .ok (.iconst 1, 1) := by decide +kernel
theorem dX9_isFor_22 : decode cX9_isFor 22 = .ok (.goto 4, 3) := by decide +kernel
theorem dX9_isFor_25 : decode cX9_isFor 25 = .ok (.iconst 0, 1) := by decide +kernel
theorem dX9_isFor_26 : decode cX9_isFor 26 = .ok (.ireturn, 1) := by decide +kernel
theorem dX9_isFor_27 : decode cX9_isFor 27 = .ok (.aload_n 0, 1) := by decide +kernel
theorem dX9_isFor_28 : decode cX9_isFor 28 = .ok (.getfield 97, 3) := by decide +kernel
theorem dX9_isFor_31 : decode cX9_isFor 31 = .ok (.iconst 0, 1) := by decide +kernel
theorem dX9_isFor_32 : decode cX9_isFor 32 = .ok (.iconst 0, 1) := by decide +kernel
theorem dX9_isFor_33 : decode cX9_isFor 33 = .ok (.iload 4, 2) := by decide +kernel
theorem dX9_isFor_35 : decode cX9_isFor 35 = .ok (.aload_n 0, 1) := by decide +kernel
theorem dX9_isFor_36 : decode cX9_isFor 36 = .ok (.getfield 57, 3) := by decide +kernel
theorem dX9_isFor_39 : decode cX9_isFor 39 = .ok (.iload_n 1, 1) := by decide +kernel
theorem dX9_isFor_40 : decode cX9_isFor 40 = .ok (.iaload, 1) := by decide +kernel
theorem dX9_isFor_41 : decode cX9_isFor 41 = .ok (.isub, 1) := by decide +kernel
theorem dX9_isFor_42 : decode cX9_isFor 42 = .ok (.invokestatic 338, 3) := by decide +kernel
theorem dX9_isFor_45 : decode cX9_isFor 45 = .ok (.iastore, 1) := by decide +kernel
theorem dX9_isFor_46 : decode cX9_isFor 46 = .ok (.aload_n 0, 1) := by decide +kernel
theorem dX9_isFor_47 : decode cX9_isFor 47 = .ok (.getfield 97, 3) := by decide +kernel
theorem dX9_isFor_50 : decode cX9_isFor 50 = .ok (.iconst 1, 1) := by decide +kernel
theorem dX9_isFor_51 : decode cX9_isFor 51 = .ok (.iload_n 2, 1) := by decide +kernel
theorem dX9_isFor_52 : decode cX9_isFor 52 = .ok (.iastore, 1) := by decide +kernel
theorem dX9_isFor_53 : decode cX9_isFor 53 = .ok (.aload_n 0, 1) := by decide +kernel
theorem dX9_isFor_54 : decode cX9_isFor 54 = .ok (.getfield 97, 3) := by decide +kernel
theorem dX9_isFor_57 : decode cX9_isFor 57 = .ok (.iconst 2, 1) := by decide +kernel
theorem dX9_isFor_58 : decode cX9_isFor 58 = .ok (.aload_n 0, 1) := by decide +kernel
theorem dX9_isFor_59 : decode cX9_isFor 59 = .ok (.getfield 65, 3) := by decide +kernel
theorem dX9_isFor_62 : decode cX9_isFor 62 = .ok (.iload_n 3, 1) := by decide +kernel
theorem dX9_isFor_63 : decode cX9_isFor 63 = .ok (.iaload, 1) := by decide +kernel
theorem dX9_isFor_64 : decode cX9_isFor 64 = .ok (.iastore, 1) := by decide +kernel
theorem dX9_isFor_65 : decode cX9_isFor 65 = .ok (.aload_n 0, 1) := by decide +kernel
theorem dX9_isFor_66 : decode cX9_isFor 66 = .ok (.getfield 97, 3) := by decide +kernel
theorem dX9_isFor_69 : decode cX9_isFor 69 = .ok (.iconst 3, 1) := by decide +kernel
theorem dX9_isFor_70 : decode cX9_isFor 70 = .ok (.aload_n 0, 1) := by decide +kernel
theorem dX9_isFor_71 : decode cX9_isFor 71 = .ok (.getfield 67, 3) := by decide +kernel
theorem dX9_isFor_74 : decode cX9_isFor 74 = .ok (.iload_n 3, 1) := by decide +kernel
theorem dX9_isFor_75 : decode cX9_isFor 75 = .ok (.iaload, 1) := by decide +kernel
theorem dX9_isFor_76 : decode cX9_isFor 76 = .ok (.iastore, 1) := by decide +kernel
theorem dX9_isFor_77 : decode cX9_isFor 77 = .ok (.aload_n 0, 1) := by decide +kernel
theorem dX9_isFor_78 : decode cX9_isFor 78 = .ok (.getfield 97, 3) := by decide +kernel
theorem dX9_isFor_81 : decode cX9_isFor 81 = .ok (.iconst 4, 1) := by decide +kernel
theorem dX9_isFor_82 : decode cX9_isFor 82 = .ok (.aload_n 0, 1) := by decide +kernel
theorem dX9_isFor_83 : decode cX9_isFor 83 = .ok (.getfield 60, 3) := by decide +kernel
theorem dX9_isFor_86 : decode cX9_isFor 86 = .ok (.iload_n 3, 1) := by decide +kernel
theorem dX9_isFor_87 : decode cX9_isFor 87 = .ok (.iaload, 1) := by decide +kernel
theorem dX9_isFor_88 : decode cX9_isFor 88 = .ok (.iastore, 1) := by decide +kernel
theorem dX9_isFor_89 : decode cX9_isFor 89 = .ok (.aload_n 0, 1) := by decide +kernel
theorem dX9_isFor_90 : decode cX9_isFor 90 = .ok (.getfield 97, 3) := by decide +kernel
theorem dX9_isFor_93 : decode cX9_isFor 93 = .ok (.iconst 5, 1) := by decide +kernel
theorem dX9_isFor_94 : decode cX9_isFor 94 = .ok (.aload_n 0, 1) := by decide +kernel
theorem dX9_isFor_95 : decode cX9_isFor 95 = .ok (.getfield 319, 3) := by decide +kernel
theorem dX9_isFor_98 : decode cX9_isFor 98 = .ok (.invokestatic 341, 3) := by decide +kernel
theorem dX9_isFor_101 : decode cX9_isFor 101 = .ok (.iastore, 1) := by decide +kernel
theorem dX9_isFor_102 : decode cX9_isFor 102 = .ok (.aload_n 0, 1) := by decide +kernel
theorem dX9_isFor_103 : decode cX9_isFor 103 = .ok (.aload_n 0, 1) := by decide +kernel
theorem dX9_isFor_104 : decode cX9_isFor 104 = .ok (.getfield 76, 3) := by decide +kernel
theorem dX9_isFor_107 : decode cX9_isFor 107 = .ok (.aload_n 0, 1) := by decide +kernel
theorem dX9_isFor_108 : decode cX9_isFor 108 = .ok (.getfield 50, 3) := by decide +kernel
theorem dX9_isFor_111 : decode cX9_isFor 111 = .ok (.bipush 6, 2) := by decide +kernel
theorem dX9_isFor_113 : decode cX9_isFor 113 = .ok (.iaload, 1) := by decide +kernel
theorem dX9_isFor_114 : decode cX9_isFor 114 = .ok (.invokevirtual 334, 3) := by decide +kernel
theorem dX9_isFor_117 : decode cX9_isFor 117 = .ok (.ifCond .le 7, 3) := by decide +kernel
theorem dX9_isFor_120 : decode cX9_isFor 120 = .ok (.iconst 1, 1) := by decide +kernel
theorem dX9_isFor_121 : decode cX9_isFor 121 = .ok (.goto 4, 3) := by decide +kernel
theorem dX9_isFor_124 : decode cX9_isFor 124 = .ok (.iconst 0, 1) := by decide +kernel
theorem dX9_isFor_125 : decode cX9_isFor 125 = .ok (.ireturn, 1) := by decide +kernel
theorem dX9_thoseFor_0 : decode cX9_thoseFor 0 = .ok (.iconst 0, 1) := by decide +kernel
theorem dX9_thoseFor_1 : decode cX9_thoseFor 1 = .ok (.istore_n 3, 1) := by decide +kernel
theorem dX9_thoseFor_2 : decode cX9_thoseFor 2 = .ok (.iconst 0, 1) := by decide +kernel
theorem dX9_thoseFor_3 : decode cX9_thoseFor 3 = .ok (.istore 4, 2) := by decide +kernel
theorem dX9_thoseFor_5 : decode cX9_thoseFor 5 = .ok (.iload 4, 2) := by decide +kernel
theorem dX9_thoseFor_7 : decode cX9_thoseFor 7 = .ok (.aload_n 0, 1) := by decide +kernel
theorem dX9_thoseFor_8 : decode cX9_thoseFor 8 = .ok (.getfield 50, 3) := by decide +kernel
theorem dX9_thoseFor_11 : decode cX9_thoseFor 11 = .ok (.iconst 3, 1) := by decide +kernel
theorem dX9_thoseFor_12 : decode cX9_thoseFor 12 = .ok (.iaload, 1) := by decide +kernel
theorem dX9_thoseFor_13 : decode cX9_thoseFor 13 = .ok (.if_icmp .ge 38, 3) := by decide +kernel
theorem dX9_thoseFor_16 : decode cX9_thoseFor 16 = .ok (.iload_n 3, 1) := by decide +kernel
theorem dX9_thoseFor_17 : decode cX9_thoseFor 17 = .ok (.aload_n 0, 1) := by decide +kernel
theorem dX9_thoseFor_18 : decode cX9_thoseFor 18 = .ok (.iload 4, 2) := by decide +kernel
theorem dX9_thoseFor_20 : decode cX9_thoseFor 20 = .ok (.aload_n 0, 1) := by decide +kernel
theorem dX9_thoseFor_21 : decode cX9_thoseFor 21 = .ok (.getfield 89, 3) := by decide +kernel
theorem dX9_thoseFor_24 : decode cX9_thoseFor 24 = .ok (.iload 4, 2) := by decide +kernel
theorem dX9_thoseFor_26 : decode cX9_thoseFor 26 = .ok (.iaload, 1) := by decide +kernel
theorem dX9_thoseFor_27 : decode cX9_thoseFor 27 = .ok (.iload_n 1, 1) := by decide +kernel
theorem dX9_thoseFor_28 : decode cX9_thoseFor 28 = .ok (.iload_n 2, 1) := by decide +kernel
theorem dX9_thoseFor_29 : decode cX9_thoseFor 29 = .ok (.invokevirtual 344, 3) := by decide +kernel
theorem dX9_thoseFor_32 : decode cX9_thoseFor 32 = .ok (.ifCond .eq 10, 3) := by decide +kernel
theorem dX9_thoseFor_35 : decode cX9_thoseFor 35 = .ok (.iconst 1, 1) := by decide +kernel
theorem dX9_thoseFor_36 : decode cX9_thoseFor 36 = .ok (.iload 4, 2) := by decide +kernel
theorem dX9_thoseFor_38 : decode cX9_thoseFor 38 = .ok (.ishl, 1) := by decide +kernel
theorem dX9_thoseFor_39 : decode cX9_thoseFor 39 = .ok (.goto 4, 3) := by decide +kernel
theorem dX9_thoseFor_42 : decode cX9_thoseFor 42 = .ok (.iconst 0, 1) := by decide +kernel
theorem dX9_thoseFor_43 : decode cX9_thoseFor 43 = .ok (.ior, 1) := by decide +kernel
theorem dX9_thoseFor_44 : decode cX9_thoseFor 44 = .ok (.istore_n 3, 1) := by decide +kernel
theorem dX9_thoseFor_45 : decode cX9_thoseFor 45 = .ok (.iinc 4 1, 3) := by decide +kernel
theorem dX9_thoseFor_48 : decode cX9_thoseFor 48 = .ok (.goto (-43), 3) := by decide +kernel
theorem dX9_thoseFor_51 : decode cX9_thoseFor 51 = .ok (.iload_n 3, 1) := by decide +kernel
theorem dX9_thoseFor_52 : decode cX9_thoseFor 52 = .ok (.ireturn, 1) := by decide +kernel
theorem dX9_isMore_0 : decode cX9_isMore 0 = .ok (.iload_n 1, 1) := by decide +kernel
theorem dX9_isMore_1 : decode cX9_isMore 1 = .ok (.aload_n 0, 1) := by decide +kernel
theorem dX9_isMore_2 : decode cX9_isMore 2 = .ok (.getfield 50, 3) := by decide +kernel
theorem dX9_isMore_5 : decode cX9_isMore 5 = .ok (.iconst 3, 1) := by decide +kernel
theorem dX9_isMore_6 : decode cX9_isMore 6 = .ok (.iaload, 1) := by decide +kernel
theorem dX9_isMore_7 : decode cX9_isMore 7 = .ok (.iload_n 1, 1) := by decide +kernel
theorem dX9_isMore_8 : decode cX9_isMore 8 = .ok (.isub, 1) := by decide +kernel
theorem dX9_isMore_9 : decode cX9_isMore 9 = .ok (.if_icmp .le 7, 3) := by decide +kernel
theorem dX9_isMore_12 : decode cX9_isMore 12 = .ok (.iconst 1, 1) := by decide +kernel
theorem dX9_isMore_13 : decode cX9_isMore 13 = .ok (.goto 4, 3) := by decide +kernel
theorem dX9_isMore_16 : decode cX9_isMore 16 = .ok (.iconst 0, 1) := by decide +kernel
theorem dX9_isMore_17 : decode cX9_isMore 17 = .ok (.ireturn, 1) := by decide +kernel
theorem dX9_wouldPass_0 : decode cX9_wouldPass 0 = .ok (.aload_n 0, 1) := by decide +kernel
theorem dX9_wouldPass_1 : decode cX9_wouldPass 1 = .ok (.aload_n 0, 1) := by decide +kernel
theorem dX9_wouldPass_2 : decode cX9_wouldPass 2 = .ok (.iload_n 1, 1) := by decide +kernel
theorem dX9_wouldPass_3 : decode cX9_wouldPass 3 = .ok (.iload_n 2, 1) := by decide +kernel
theorem dX9_wouldPass_4 : decode cX9_wouldPass 4 = .ok (.invokevirtual 348, 3) := by decide +kernel
theorem dX9_wouldPass_7 : decode cX9_wouldPass 7 = .ok (.invokestatic 341, 3) := by decide +kernel
theorem dX9_wouldPass_10 : decode cX9_wouldPass 10 = .ok (.invokevirtual 351, 3) := by decide +kernel
theorem dX9_wouldPass_13 : decode cX9_wouldPass 13 = .ok (.ifCond .eq 30, 3) := by decide +kernel
theorem dX9_wouldPass_16 : decode cX9_wouldPass 16 = .ok (.aload_n 0, 1) := by decide +kernel
theorem dX9_wouldPass_17 : decode cX9_wouldPass 17 = .ok (.getfield 60, 3) := by decide +kernel
theorem dX9_wouldPass_20 : decode cX9_wouldPass 20 = .ok (.iload_n 1, 1) := by decide +kernel
theorem dX9_wouldPass_21 : decode cX9_wouldPass 21 = .ok (.iaload, 1) := by decide +kernel
theorem dX9_wouldPass_22 : decode cX9_wouldPass 22 = .ok (.iconst 2, 1) := by decide +kernel
theorem dX9_wouldPass_23 : decode cX9_wouldPass 23 = .ok (.if_icmp .eq 16, 3) := by decide +kernel
theorem dX9_wouldPass_26 : decode cX9_wouldPass 26 = .ok (.aload_n 0, 1) := by decide +kernel
theorem dX9_wouldPass_27 : decode cX9_wouldPass 27 = .ok (.getfield 65, 3) := by decide +kernel
theorem dX9_wouldPass_30 : decode cX9_wouldPass 30 = .ok (.iload_n 1, 1) := by decide +kernel
theorem dX9_wouldPass_31 : decode cX9_wouldPass 31 = .ok (.iaload, 1) := by decide +kernel
theorem dX9_wouldPass_32 : decode cX9_wouldPass 32 = .ok (.aload_n 0, 1) := by decide +kernel
theorem dX9_wouldPass_33 : decode cX9_wouldPass 33 = .ok (.getfield 149, 3) := by decide +kernel
theorem dX9_wouldPass_36 : decode cX9_wouldPass 36 = .ok (.if_icmp .gt 7, 3) := by decide +kernel
theorem dX9_wouldPass_39 : decode cX9_wouldPass 39 = .ok (.iconst 1, 1) := by decide +kernel
theorem dX9_wouldPass_40 : decode cX9_wouldPass 40 = .ok (.goto 4, 3) := by decide +kernel
theorem dX9_wouldPass_43 : decode cX9_wouldPass 43 = .ok (.iconst 0, 1) := by decide +kernel
theorem dX9_wouldPass_44 : decode cX9_wouldPass 44 = .ok (.ireturn, 1) := by decide +kernel
theorem dX9_joyOf_0 : decode cX9_joyOf 0 = .ok (.aload_n 0, 1) := by decide +kernel
theorem dX9_joyOf_1 : decode cX9_joyOf 1 = .ok (.getfield 60, 3) := by decide +kernel
theorem dX9_joyOf_4 : decode cX9_joyOf 4 = .ok (.iload_n 1, 1) := by decide +kernel
theorem dX9_joyOf_5 : decode cX9_joyOf 5 = .ok (.iaload, 1) := by decide +kernel
theorem dX9_joyOf_6 : decode cX9_joyOf 6 = .ok (.iconst 1, 1) := by decide +kernel
theorem dX9_joyOf_7 : decode cX9_joyOf 7 = .ok (.if_icmp .ne 14, 3) := by decide +kernel
theorem dX9_joyOf_10 : decode cX9_joyOf 10 = .ok (.iconst 2, 1) := by decide +kernel
theorem dX9_joyOf_11 : decode cX9_joyOf 11 = .ok (.aload_n 0, 1) := by decide +kernel
theorem dX9_joyOf_12 : decode cX9_joyOf 12 = .ok (.getfield 67, 3) := by decide +kernel
theorem dX9_joyOf_15 : decode cX9_joyOf 15 = .ok (.iload_n 1, 1) := by decide +kernel
theorem dX9_joyOf_16 : decode cX9_joyOf 16 = .ok (.iaload, 1) := by decide +kernel
theorem dX9_joyOf_17 : decode cX9_joyOf 17 = .ok (.imul, 1) := by decide +kernel
theorem dX9_joyOf_18 : decode cX9_joyOf 18 = .ok (.goto 9, 3) := by decide +kernel
theorem dX9_joyOf_21 : decode cX9_joyOf 21 = .ok (.aload_n 0, 1) := by decide +kernel
theorem dX9_joyOf_22 : decode cX9_joyOf 22 = .ok (.getfield 67, 3) := by decide +kernel
theorem dX9_joyOf_25 : decode cX9_joyOf 25 = .ok (.iload_n 1, 1) := by decide +kernel
theorem dX9_joyOf_26 : decode cX9_joyOf 26 = .ok (.iaload, 1) := by decide +kernel
theorem dX9_joyOf_27 : decode cX9_joyOf 27 = .ok (.ireturn, 1) := by decide +kernel
theorem dX9_isOpen_0 : decode cX9_isOpen 0 = .ok (.aload_n 0, 1) := by decide +kernel
theorem dX9_isOpen_1 : decode cX9_isOpen 1 = .ok (.getfield 319, 3) := by decide +kernel
theorem dX9_isOpen_4 : decode cX9_isOpen 4 = .ok (.iload_n 1, 1) := by decide +kernel
theorem dX9_isOpen_5 : decode cX9_isOpen 5 = .ok (.invokestatic 354, 3) := by decide +kernel
theorem dX9_isOpen_8 : decode cX9_isOpen 8 = .ok (.ifCond .ne 33, 3) := by decide +kernel
theorem dX9_isOpen_11 : decode cX9_isOpen 11 = .ok (.aload_n 0, 1) := by decide +kernel
theorem dX9_isOpen_12 : decode cX9_isOpen 12 = .ok (.getfield 70, 3) := by decide +kernel
theorem dX9_isOpen_15 : decode cX9_isOpen 15 = .ok (.iload_n 1, 1) := by decide +kernel
theorem dX9_isOpen_16 : decode cX9_isOpen 16 = .ok (.iaload, 1) := by decide +kernel
theorem dX9_isOpen_17 : decode cX9_isOpen 17 = .ok (.iconst (-1), 1) := by decide +kernel
theorem dX9_isOpen_18 : decode cX9_isOpen 18 = .ok (.if_icmp .eq 19, 3) := by decide +kernel
theorem dX9_isOpen_21 : decode cX9_isOpen 21 = .ok (.aload_n 0, 1) := by decide +kernel
theorem dX9_isOpen_22 : decode cX9_isOpen 22 = .ok (.getfield 319, 3) := by decide +kernel
theorem dX9_isOpen_25 : decode cX9_isOpen 25 = .ok (.aload_n 0, 1) := by decide +kernel
theorem dX9_isOpen_26 : decode cX9_isOpen 26 = .ok (.getfield 70, 3) := by decide +kernel
theorem dX9_isOpen_29 : decode cX9_isOpen 29 = .ok (.iload_n 1, 1) := by decide +kernel
theorem dX9_isOpen_30 : decode cX9_isOpen 30 = .ok (.iaload, 1) := by decide +kernel
theorem dX9_isOpen_31 : decode cX9_isOpen 31 = .ok (.invokestatic 354, 3) := by decide +kernel
theorem dX9_isOpen_34 : decode cX9_isOpen 34 = .ok (.ifCond .eq 7, 3) := by decide +kernel
theorem dX9_isOpen_37 : decode cX9_isOpen 37 = .ok (.iconst 1, 1) := by decide +kernel
theorem dX9_isOpen_38 : decode cX9_isOpen 38 = .ok (.goto 4, 3) := by decide +kernel
theorem dX9_isOpen_41 : decode cX9_isOpen 41 = .ok (.iconst 0, 1) := by decide +kernel
theorem dX9_isOpen_42 : decode cX9_isOpen 42 = .ok (.ireturn, 1) := by decide +kernel
theorem dX9_anHour_0 : decode cX9_anHour 0 = .ok (.aload_n 0, 1) := by decide +kernel
theorem dX9_anHour_1 : decode cX9_anHour 1 = .ok (.aload_n 0, 1) := by decide +kernel
theorem dX9_anHour_2 : decode cX9_anHour 2 = .ok (.invokevirtual 357, 3) := by decide +kernel
theorem dX9_anHour_5 : decode cX9_anHour 5 = .ok (.putfield 360, 3) := by decide +kernel
theorem dX9_anHour_8 : decode cX9_anHour 8 = .ok (.aload_n 0, 1) := by decide +kernel
theorem dX9_anHour_9 : decode cX9_anHour 9 = .ok (.aload_n 0, 1) := by decide +kernel
theorem dX9_anHour_10 : decode cX9_anHour 10 = .ok (.getfield 360, 3) := by decide +kernel
theorem dX9_anHour_13 : decode cX9_anHour 13 = .ok (.iconst (-1), 1) := by decide +kernel
theorem dX9_anHour_14 : decode cX9_anHour 14 = .ok (.if_icmp .eq 14, 3) := by decide +kernel
theorem dX9_anHour_17 : decode cX9_anHour 17 = .ok (.aload_n 0, 1) := by decide +kernel
theorem dX9_anHour_18 : decode cX9_anHour 18 = .ok (.getfield 145, 3) := by decide +kernel
theorem dX9_anHour_21 : decode cX9_anHour 21 = .ok (.ifCond .ne 7, 3) := by decide +kernel
theorem dX9_anHour_24 : decode cX9_anHour 24 = .ok (.iconst 1, 1) := by decide +kernel
theorem dX9_anHour_25 : decode cX9_anHour 25 = .ok (.goto 4, 3) := by decide +kernel
theorem dX9_anHour_28 : decode cX9_anHour 28 = .ok (.iconst 0, 1) := by decide +kernel
theorem dX9_anHour_29 : decode cX9_anHour 29 = .ok (.putfield 363, 3) := by decide +kernel
theorem dX9_anHour_32 : decode cX9_anHour 32 = .ok (.aload_n 0, 1) := by decide +kernel
theorem dX9_anHour_33 : decode cX9_anHour 33 = .ok (.getfield 360, 3) := by decide +kernel
theorem dX9_anHour_36 : decode cX9_anHour 36 = .ok (.iconst (-1), 1) := by decide +kernel
theorem dX9_anHour_37 : decode cX9_anHour 37 = .ok (.if_icmp .eq 17, 3) := by decide +kernel
theorem dX9_anHour_40 : decode cX9_anHour 40 = .ok (.aload_n 0, 1) := by decide +kernel
theorem dX9_anHour_41 : decode cX9_anHour 41 = .ok (.iconst 0, 1) := by decide +kernel
theorem dX9_anHour_42 : decode cX9_anHour 42 = .ok (.aload_n 0, 1) := by decide +kernel
theorem dX9_anHour_43 : decode cX9_anHour 43 = .ok (.getfield 145, 3) := by decide +kernel
theorem dX9_anHour_46 : decode cX9_anHour 46 = .ok (.iconst 1, 1) := by decide +kernel
theorem dX9_anHour_47 : decode cX9_anHour 47 = .ok (.isub, 1) := by decide +kernel
theorem dX9_anHour_48 : decode cX9_anHour 48 = .ok (.invokestatic 338, 3) := by decide +kernel
theorem dX9_anHour_51 : decode cX9_anHour 51 = .ok (.putfield 145, 3) := by decide +kernel
theorem dX9_anHour_54 : decode cX9_anHour 54 = .ok (.iconst 0, 1) := by decide +kernel
theorem dX9_anHour_55 : decode cX9_anHour 55 = .ok (.istore_n 1, 1) := by decide +kernel
theorem dX9_anHour_56 : decode cX9_anHour 56 = .ok (.iload_n 1, 1) := by decide +kernel
theorem dX9_anHour_57 : decode cX9_anHour 57 = .ok (.aload_n 0, 1) := by decide +kernel
theorem dX9_anHour_58 : decode cX9_anHour 58 = .ok (.getfield 50, 3) := by decide +kernel
theorem dX9_anHour_61 : decode cX9_anHour 61 = .ok (.iconst 4, 1) := by decide +kernel
theorem dX9_anHour_62 : decode cX9_anHour 62 = .ok (.iaload, 1) := by decide +kernel
theorem dX9_anHour_63 : decode cX9_anHour 63 = .ok (.if_icmp .ge 132, 3) := by decide +kernel
theorem dX9_anHour_66 : decode cX9_anHour 66 = .ok (.aload_n 0, 1) := by decide +kernel
theorem dX9_anHour_67 : decode cX9_anHour 67 = .ok (.getfield 360, 3) := by decide +kernel
theorem dX9_anHour_70 : decode cX9_anHour 70 = .ok (.iconst (-1), 1) := by decide +kernel
theorem dX9_anHour_71 : decode cX9_anHour 71 = .ok (.if_icmp .eq 124, 3) := by decide +kernel
theorem dX9_anHour_74 : decode cX9_anHour 74 = .ok (.iload_n 1, 1) := by decide +kernel
theorem dX9_anHour_75 : decode cX9_anHour 75 = .ok (.aload_n 0, 1) := by decide +kernel
theorem dX9_anHour_76 : decode cX9_anHour 76 = .ok (.getfield 103, 3) := by decide +kernel
theorem dX9_anHour_79 : decode cX9_anHour 79 = .ok (.if_icmp .eq 110, 3) := by decide +kernel
theorem dX9_anHour_82 : decode cX9_anHour 82 = .ok (.aload_n 0, 1) := by decide +kernel
theorem dX9_anHour_83 : decode cX9_anHour 83 = .ok (.getfield 91, 3) := by decide +kernel
theorem dX9_anHour_86 : decode cX9_anHour 86 = .ok (.iload_n 1, 1) := by decide +kernel
theorem dX9_anHour_87 : decode cX9_anHour 87 = .ok (.iaload, 1) := by decide +kernel
theorem dX9_anHour_88 : decode cX9_anHour 88 = .ok (.aload_n 0, 1) := by decide +kernel
theorem dX9_anHour_89 : decode cX9_anHour 89 = .ok (.getfield 360, 3) := by decide +kernel
theorem dX9_anHour_92 : decode cX9_anHour 92 = .ok (.if_icmp .ne 97, 3) := by decide +kernel
theorem dX9_anHour_95 : decode cX9_anHour 95 = .ok (.aload_n 0, 1) := by decide +kernel
theorem dX9_anHour_96 : decode cX9_anHour 96 = .ok (.iload_n 1, 1) := by decide +kernel
theorem dX9_anHour_97 : decode cX9_anHour 97 = .ok (.invokevirtual 366, 3) := by decide +kernel
theorem dX9_anHour_100 : decode cX9_anHour 100 = .ok (.ifCond .eq 89, 3) := by decide +kernel
theorem dX9_anHour_103 : decode cX9_anHour 103 = .ok (.aload_n 0, 1) := by decide +kernel
theorem dX9_anHour_104 : decode cX9_anHour 104 = .ok (.iload_n 1, 1) := by decide +kernel
theorem dX9_anHour_105 : decode cX9_anHour 105 = .ok (.aload_n 0, 1) := by decide +kernel
theorem dX9_anHour_106 : decode cX9_anHour 106 = .ok (.getfield 360, 3) := by decide +kernel
theorem dX9_anHour_109 : decode cX9_anHour 109 = .ok (.invokevirtual 369, 3) := by decide +kernel
theorem dX9_anHour_112 : decode cX9_anHour 112 = .ok (.ifCond .ne 6, 3) := by decide +kernel
theorem dX9_anHour_115 : decode cX9_anHour 115 = .ok (.goto 74, 3) := by decide +kernel
theorem dX9_anHour_118 : decode cX9_anHour 118 = .ok (.aload_n 0, 1) := by decide +kernel
theorem dX9_anHour_119 : decode cX9_anHour 119 = .ok (.dup, 1) := by decide +kernel
theorem dX9_anHour_120 : decode cX9_anHour 120 = .ok (.getfield 319, 3) := by decide +kernel
theorem dX9_anHour_123 : decode cX9_anHour 123 = .ok (.iconst 1, 1) := by decide +kernel
theorem dX9_anHour_124 : decode cX9_anHour 124 = .ok (.iload_n 1, 1) := by decide +kernel
theorem dX9_anHour_125 : decode cX9_anHour 125 = .ok (.ishl, 1) := by decide +kernel
theorem dX9_anHour_126 : decode cX9_anHour 126 = .ok (.ior, 1) := by decide +kernel
theorem dX9_anHour_127 : decode cX9_anHour 127 = .ok (.putfield 319, 3) := by decide +kernel
theorem dX9_anHour_130 : decode cX9_anHour 130 = .ok (.aload_n 0, 1) := by decide +kernel
theorem dX9_anHour_131 : decode cX9_anHour 131 = .ok (.aload_n 0, 1) := by decide +kernel
theorem dX9_anHour_132 : decode cX9_anHour 132 = .ok (.getfield 60, 3) := by decide +kernel
theorem dX9_anHour_135 : decode cX9_anHour 135 = .ok (.iload_n 1, 1) := by decide +kernel
theorem dX9_anHour_136 : decode cX9_anHour 136 = .ok (.iaload, 1) := by decide +kernel
theorem dX9_anHour_137 : decode cX9_anHour 137 = .ok (.iconst 2, 1) := by decide +kernel
theorem dX9_anHour_138 : decode cX9_anHour 138 = .ok (.if_icmp .ne 23, 3) := by decide +kernel
theorem dX9_anHour_141 : decode cX9_anHour 141 = .ok (.sipush 9999, 3) := by decide +kernel
theorem dX9_anHour_144 : decode cX9_anHour 144 = .ok (.aload_n 0, 1) := by decide +kernel
theorem dX9_anHour_145 : decode cX9_anHour 145 = .ok (.getfield 149, 3) := by decide +kernel
theorem dX9_anHour_148 : decode cX9_anHour 148 = .ok (.aload_n 0, 1) := by decide +kernel
theorem dX9_anHour_149 : decode cX9_anHour 149 = .ok (.getfield 65, 3) := by decide +kernel
theorem dX9_anHour_152 : decode cX9_anHour 152 = .ok (.iload_n 1, 1) := by decide +kernel
theorem dX9_anHour_153 : decode cX9_anHour 153 = .ok (.iaload, 1) := by decide +kernel
theorem dX9_anHour_154 : decode cX9_anHour 154 = .ok (.iadd, 1) := by decide +kernel
theorem dX9_anHour_155 : decode cX9_anHour 155 = .ok (.invokestatic 189, 3) := by decide +kernel
theorem dX9_anHour_158 : decode cX9_anHour 158 = .ok (.goto 14, 3) := by decide +kernel
theorem dX9_anHour_161 : decode cX9_anHour 161 = .ok (.aload_n 0, 1) := by decide +kernel
theorem dX9_anHour_162 : decode cX9_anHour 162 = .ok (.getfield 149, 3) := by decide +kernel
theorem dX9_anHour_165 : decode cX9_anHour 165 = .ok (.aload_n 0, 1) := by decide +kernel
theorem dX9_anHour_166 : decode cX9_anHour 166 = .ok (.getfield 65, 3) := by decide +kernel
theorem dX9_anHour_169 : decode cX9_anHour 169 = .ok (.iload_n 1, 1) := by decide +kernel
theorem dX9_anHour_170 : decode cX9_anHour 170 = .ok (.iaload, 1) := by decide +kernel
theorem dX9_anHour_171 : decode cX9_anHour 171 = .ok (.isub, 1) := by decide +kernel
theorem dX9_anHour_172 : decode cX9_anHour 172 = .ok (.putfield 149, 3) := by decide +kernel
theorem dX9_anHour_175 : decode cX9_anHour 175 = .ok (.aload_n 0, 1) := by decide +kernel
theorem dX9_anHour_176 : decode cX9_anHour 176 = .ok (.dup, 1) := by decide +kernel
theorem dX9_anHour_177 : decode cX9_anHour 177 = .ok (.getfield 317, 3) := by decide +kernel
theorem dX9_anHour_180 : decode cX9_anHour 180 = .ok (.aload_n 0, 1) := by decide +kernel
theorem dX9_anHour_181 : decode cX9_anHour 181 = .ok (.iload_n 1, 1) := by decide +kernel
theorem dX9_anHour_182 : decode cX9_anHour 182 = .ok (.invokevirtual 372, 3) := by decide +kernel
theorem dX9_anHour_185 : decode cX9_anHour 185 = .ok (.iadd, 1) := by decide +kernel
theorem dX9_anHour_186 : decode cX9_anHour 186 = .ok (.putfield 317, 3) := by decide +kernel
theorem dX9_anHour_189 : decode cX9_anHour 189 = .ok (.iinc 1 1, 3) := by decide +kernel
theorem dX9_anHour_192 : decode cX9_anHour 192 = .ok (.goto (-136), 3) := by decide +kernel
theorem dX9_anHour_195 : decode cX9_anHour 195 = .ok (.aload_n 0, 1) := by decide +kernel
theorem dX9_anHour_196 : decode cX9_anHour 196 = .ok (.iconst 0, 1) := by decide +kernel
theorem dX9_anHour_197 : decode cX9_anHour 197 = .ok (.aload_n 0, 1) := by decide +kernel
theorem dX9_anHour_198 : decode cX9_anHour 198 = .ok (.getfield 147, 3) := by decide +kernel
theorem dX9_anHour_201 : decode cX9_anHour 201 = .ok (.iconst 1, 1) := by decide +kernel
theorem dX9_anHour_202 : decode cX9_anHour 202 = .ok (.isub, 1) := by decide +kernel
theorem dX9_anHour_203 : decode cX9_anHour 203 = .ok (.invokestatic 338, 3) := by decide +kernel
theorem dX9_anHour_206 : decode cX9_anHour 206 = .ok (.putfield 147, 3) := by decide +kernel
theorem dX9_anHour_209 : decode cX9_anHour 209 = .ok (.aload_n 0, 1) := by decide +kernel
theorem dX9_anHour_210 : decode cX9_anHour 210 = .ok (.iconst 0, 1) := by decide +kernel
theorem dX9_anHour_211 : decode cX9_anHour 211 = .ok (.aload_n 0, 1) := by decide +kernel
theorem dX9_anHour_212 : decode cX9_anHour 212 = .ok (.getfield 314, 3) := by decide +kernel
theorem dX9_anHour_215 : decode cX9_anHour 215 = .ok (.iconst 1, 1) := by decide +kernel
theorem dX9_anHour_216 : decode cX9_anHour 216 = .ok (.isub, 1) := by decide +kernel
theorem dX9_anHour_217 : decode cX9_anHour 217 = .ok (.invokestatic 338, 3) := by decide +kernel
theorem dX9_anHour_220 : decode cX9_anHour 220 = .ok (.putfield 314, 3) := by decide +kernel
theorem dX9_anHour_223 : decode cX9_anHour 223 = .ok (.aload_n 0, 1) := by decide +kernel
theorem dX9_anHour_224 : decode cX9_anHour 224 = .ok (.dup, 1) := by decide +kernel
theorem dX9_anHour_225 : decode cX9_anHour 225 = .ok (.getfield 312, 3) := by decide +kernel
theorem dX9_anHour_228 : decode cX9_anHour 228 = .ok (.iconst 1, 1) := by decide +kernel
theorem dX9_anHour_229 : decode cX9_anHour 229 = .ok (.iadd, 1) := by decide +kernel
theorem dX9_anHour_230 : decode cX9_anHour 230 = .ok (.putfield 312, 3) := by decide +kernel
theorem dX9_anHour_233 : decode cX9_anHour 233 = .ok (.return_, 1) := by decide +kernel
theorem dX9_goOn_0 : decode cX9_goOn 0 = .ok (.iconst 0, 1) := by decide +kernel
theorem dX9_goOn_1 : decode cX9_goOn 1 = .ok (.istore_n 2, 1) := by decide +kernel
theorem dX9_goOn_2 : decode cX9_goOn 2 = .ok (.iload_n 2, 1) := by decide +kernel
theorem dX9_goOn_3 : decode cX9_goOn 3 = .ok (.iload_n 1, 1) := by decide +kernel
theorem dX9_goOn_4 : decode cX9_goOn 4 = .ok (.if_icmp .ge 13, 3) := by decide +kernel
theorem dX9_goOn_7 : decode cX9_goOn 7 = .ok (.aload_n 0, 1) := by decide +kernel
theorem dX9_goOn_8 : decode cX9_goOn 8 = .ok (.invokevirtual 375, 3) := by decide +kernel
theorem dX9_goOn_11 : decode cX9_goOn 11 = .ok (.iinc 2 1, 3) := by decide +kernel
theorem dX9_goOn_14 : decode cX9_goOn 14 = .ok (.goto (-12), 3) := by decide +kernel
theorem dX9_goOn_17 : decode cX9_goOn 17 = .ok (.return_, 1) := by decide +kernel
theorem dX9_blocked_0 : decode cX9_blocked 0 = .ok (.iconst 0, 1) := by decide +kernel
theorem dX9_blocked_1 : decode cX9_blocked 1 = .ok (.istore_n 1, 1) := by decide +kernel
theorem dX9_blocked_2 : decode cX9_blocked 2 = .ok (.iconst 0, 1) := by decide +kernel
theorem dX9_blocked_3 : decode cX9_blocked 3 = .ok (.istore_n 2, 1) := by decide +kernel
theorem dX9_blocked_4 : decode cX9_blocked 4 = .ok (.iload_n 2, 1) := by decide +kernel
theorem dX9_blocked_5 : decode cX9_blocked 5 = .ok (.aload_n 0, 1) := by decide +kernel
theorem dX9_blocked_6 : decode cX9_blocked 6 = .ok (.getfield 50, 3) := by decide +kernel
theorem dX9_blocked_9 : decode cX9_blocked 9 = .ok (.iconst 4, 1) := by decide +kernel
theorem dX9_blocked_10 : decode cX9_blocked 10 = .ok (.iaload, 1) := by decide +kernel
theorem dX9_blocked_11 : decode cX9_blocked 11 = .ok (.if_icmp .ge 38, 3) := by decide +kernel
theorem dX9_blocked_14 : decode cX9_blocked 14 = .ok (.iload_n 1, 1) := by decide +kernel
theorem dX9_blocked_15 : decode cX9_blocked 15 = .ok (.aload_n 0, 1) := by decide +kernel
theorem dX9_blocked_16 : decode cX9_blocked 16 = .ok (.getfield 319, 3) := by decide +kernel
theorem dX9_blocked_19 : decode cX9_blocked 19 = .ok (.iload_n 2, 1) := by decide +kernel
theorem dX9_blocked_20 : decode cX9_blocked 20 = .ok (.invokestatic 354, 3) := by decide +kernel
theorem dX9_blocked_23 : decode cX9_blocked 23 = .ok (.ifCond .ne 17, 3) := by decide +kernel
theorem dX9_blocked_26 : decode cX9_blocked 26 = .ok (.aload_n 0, 1) := by decide +kernel
theorem dX9_blocked_27 : decode cX9_blocked 27 = .ok (.iload_n 2, 1) := by decide +kernel
theorem dX9_blocked_28 : decode cX9_blocked 28 = .ok (.invokevirtual 366, 3) := by decide +kernel
theorem dX9_blocked_31 : decode cX9_blocked 31 = .ok (.ifCond .ne 9, 3) := by decide +kernel
theorem dX9_blocked_34 : decode cX9_blocked 34 = .ok (.iconst 1, 1) := by decide +kernel
theorem dX9_blocked_35 : decode cX9_blocked 35 = .ok (.iload_n 2, 1) := by decide +kernel
theorem dX9_blocked_36 : decode cX9_blocked 36 = .ok (.ishl, 1) := by decide +kernel
theorem dX9_blocked_37 : decode cX9_blocked 37 = .ok (.goto 4, 3) := by decide +kernel
theorem dX9_blocked_40 : decode cX9_blocked 40 = .ok (.iconst 0, 1) := by decide +kernel
theorem dX9_blocked_41 : decode cX9_blocked 41 = .ok (.ior, 1) := by decide +kernel
theorem dX9_blocked_42 : decode cX9_blocked 42 = .ok (.istore_n 1, 1) := by decide +kernel
theorem dX9_blocked_43 : decode cX9_blocked 43 = .ok (.iinc 2 1, 3) := by decide +kernel
theorem dX9_blocked_46 : decode cX9_blocked 46 = .ok (.goto (-42), 3) := by decide +kernel
theorem dX9_blocked_49 : decode cX9_blocked 49 = .ok (.iload_n 1, 1) := by decide +kernel
theorem dX9_blocked_50 : decode cX9_blocked 50 = .ok (.ireturn, 1) := by decide +kernel
theorem dX9_count_0 : decode cX9_count 0 = .ok (.aload_n 0, 1) := by decide +kernel
theorem dX9_count_1 : decode cX9_count 1 = .ok (.iconst 0, 1) := by decide +kernel
theorem dX9_count_2 : decode cX9_count 2 = .ok (.putfield 152, 3) := by decide +kernel
theorem dX9_count_5 : decode cX9_count 5 = .ok (.iload_n 1, 1) := by decide +kernel
theorem dX9_count_6 : decode cX9_count 6 = .ok (.tableswitch 152 0 15 #[78, 78, 87, 92, 97, 102, 107, 112, 117, 122, 127, 132, 137, 142, 142, 142], 78) := by decide +kernel
theorem dX9_count_84 : decode cX9_count 84 = .ok (.aload_n 0, 1) := by decide +kernel
theorem dX9_count_85 : decode cX9_count 85 = .ok (.getfield 50, 3) := by decide +kernel
theorem dX9_count_88 : decode cX9_count 88 = .ok (.iconst 3, 1) := by decide +kernel
theorem dX9_count_89 : decode cX9_count 89 = .ok (.iload_n 1, 1) := by decide +kernel
theorem dX9_count_90 : decode cX9_count 90 = .ok (.iadd, 1) := by decide +kernel
theorem dX9_count_91 : decode cX9_count 91 = .ok (.iaload, 1) := by decide +kernel
theorem dX9_count_92 : decode cX9_count 92 = .ok (.ireturn, 1) := by decide +kernel
theorem dX9_count_93 : decode cX9_count 93 = .ok (.aload_n 0, 1) := by decide +kernel
theorem dX9_count_94 : decode cX9_count 94 = .ok (.getfield 312, 3) := by decide +kernel
theorem dX9_count_97 : decode cX9_count 97 = .ok (.ireturn, 1) := by decide +kernel
theorem dX9_count_98 : decode cX9_count 98 = .ok (.aload_n 0, 1) := by decide +kernel
theorem dX9_count_99 : decode cX9_count 99 = .ok (.getfield 145, 3) := by decide +kernel
theorem dX9_count_102 : decode cX9_count 102 = .ok (.ireturn, 1) := by decide +kernel
theorem dX9_count_103 : decode cX9_count 103 = .ok (.aload_n 0, 1) := by decide +kernel
theorem dX9_count_104 : decode cX9_count 104 = .ok (.getfield 147, 3) := by decide +kernel
theorem dX9_count_107 : decode cX9_count 107 = .ok (.ireturn, 1) := by decide +kernel
theorem dX9_count_108 : decode cX9_count 108 = .ok (.aload_n 0, 1) := by decide +kernel
theorem dX9_count_109 : decode cX9_count 109 = .ok (.getfield 314, 3) := by decide +kernel
theorem dX9_count_112 : decode cX9_count 112 = .ok (.ireturn, 1) := by decide +kernel
theorem dX9_count_113 : decode cX9_count 113 = .ok (.aload_n 0, 1) := by decide +kernel
theorem dX9_count_114 : decode cX9_count 114 = .ok (.getfield 149, 3) := by decide +kernel
theorem dX9_count_117 : decode cX9_count 117 = .ok (.ireturn, 1) := by decide +kernel
theorem dX9_count_118 : decode cX9_count 118 = .ok (.aload_n 0, 1) := by decide +kernel
theorem dX9_count_119 : decode cX9_count 119 = .ok (.getfield 317, 3) := by decide +kernel
theorem dX9_count_122 : decode cX9_count 122 = .ok (.ireturn, 1) := by decide +kernel
theorem dX9_count_123 : decode cX9_count 123 = .ok (.aload_n 0, 1) := by decide +kernel
theorem dX9_count_124 : decode cX9_count 124 = .ok (.getfield 319, 3) := by decide +kernel
theorem dX9_count_127 : decode cX9_count 127 = .ok (.ireturn, 1) := by decide +kernel
theorem dX9_count_128 : decode cX9_count 128 = .ok (.aload_n 0, 1) := by decide +kernel
theorem dX9_count_129 : decode cX9_count 129 = .ok (.invokevirtual 378, 3) := by decide +kernel
theorem dX9_count_132 : decode cX9_count 132 = .ok (.ireturn, 1) := by decide +kernel
theorem dX9_count_133 : decode cX9_count 133 = .ok (.aload_n 0, 1) := by decide +kernel
theorem dX9_count_134 : decode cX9_count 134 = .ok (.getfield 321, 3) := by decide +kernel
theorem dX9_count_137 : decode cX9_count 137 = .ok (.ireturn, 1) := by decide +kernel
theorem dX9_count_138 : decode cX9_count 138 = .ok (.aload_n 0, 1) := by decide +kernel
theorem dX9_count_139 : decode cX9_count 139 = .ok (.getfield 324, 3) := by decide +kernel
theorem dX9_count_142 : decode cX9_count 142 = .ok (.ireturn, 1) := by decide +kernel
theorem dX9_count_143 : decode cX9_count 143 = .ok (.aload_n 0, 1) := by decide +kernel
theorem dX9_count_144 : decode cX9_count 144 = .ok (.getfield 159, 3) := by decide +kernel
theorem dX9_count_147 : decode cX9_count 147 = .ok (.ireturn, 1) := by decide +kernel
theorem dX9_count_148 : decode cX9_count 148 = .ok (.aload_n 0, 1) := by decide +kernel
theorem dX9_count_149 : decode cX9_count 149 = .ok (.getfield 79, 3) := by decide +kernel
theorem dX9_count_152 : decode cX9_count 152 = .ok (.iload_n 1, 1) := by decide +kernel
theorem dX9_count_153 : decode cX9_count 153 = .ok (.bipush 13, 2) := by decide +kernel
theorem dX9_count_155 : decode cX9_count 155 = .ok (.isub, 1) := by decide +kernel
theorem dX9_count_156 : decode cX9_count 156 = .ok (.iaload, 1) := by decide +kernel
theorem dX9_count_157 : decode cX9_count 157 = .ok (.ireturn, 1) := by decide +kernel
theorem dX9_count_158 : decode cX9_count 158 = .ok (.aload_n 0, 1) := by decide +kernel
theorem dX9_count_159 : decode cX9_count 159 = .ok (.iconst 1, 1) := by decide +kernel
theorem dX9_count_160 : decode cX9_count 160 = .ok (.invokevirtual 299, 3) := by decide +kernel
theorem dX9_count_163 : decode cX9_count 163 = .ok (.ireturn, 1) := by decide +kernel
theorem dX9_swayed_0 : decode cX9_swayed 0 = .ok (.iconst 0, 1) := by decide +kernel
theorem dX9_swayed_1 : decode cX9_swayed 1 = .ok (.istore_n 2, 1) := by decide +kernel
theorem dX9_swayed_2 : decode cX9_swayed 2 = .ok (.iconst 0, 1) := by decide +kernel
theorem dX9_swayed_3 : decode cX9_swayed 3 = .ok (.istore_n 3, 1) := by decide +kernel
theorem dX9_swayed_4 : decode cX9_swayed 4 = .ok (.iload_n 3, 1) := by decide +kernel
theorem dX9_swayed_5 : decode cX9_swayed 5 = .ok (.aload_n 0, 1) := by decide +kernel
theorem dX9_swayed_6 : decode cX9_swayed 6 = .ok (.getfield 50, 3) := by decide +kernel
theorem dX9_swayed_9 : decode cX9_swayed 9 = .ok (.iconst 4, 1) := by decide +kernel
theorem dX9_swayed_10 : decode cX9_swayed 10 = .ok (.iaload, 1) := by decide +kernel
theorem dX9_swayed_11 : decode cX9_swayed 11 = .ok (.if_icmp .ge 71, 3) := by decide +kernel
theorem dX9_swayed_14 : decode cX9_swayed 14 = .ok (.aload_n 0, 1) := by decide +kernel
theorem dX9_swayed_15 : decode cX9_swayed 15 = .ok (.getfield 319, 3) := by decide +kernel
theorem dX9_swayed_18 : decode cX9_swayed 18 = .ok (.iload_n 3, 1) := by decide +kernel
theorem dX9_swayed_19 : decode cX9_swayed 19 = .ok (.invokestatic 354, 3) := by decide +kernel
theorem dX9_swayed_22 : decode cX9_swayed 22 = .ok (.ifCond .eq 6, 3) := by decide +kernel
theorem dX9_swayed_25 : decode cX9_swayed 25 = .ok (.goto 51, 3) := by decide +kernel
theorem dX9_swayed_28 : decode cX9_swayed 28 = .ok (.aload_n 0, 1) := by decide +kernel
theorem dX9_swayed_29 : decode cX9_swayed 29 = .ok (.iload_n 3, 1) := by decide +kernel
theorem dX9_swayed_30 : decode cX9_swayed 30 = .ok (.aload_n 0, 1) := by decide +kernel
theorem dX9_swayed_31 : decode cX9_swayed 31 = .ok (.getfield 91, 3) := by decide +kernel
theorem dX9_swayed_34 : decode cX9_swayed 34 = .ok (.iload_n 3, 1) := by decide +kernel
theorem dX9_swayed_35 : decode cX9_swayed 35 = .ok (.iaload, 1) := by decide +kernel
theorem dX9_swayed_36 : decode cX9_swayed 36 = .ok (.invokevirtual 348, 3) := by decide +kernel
theorem dX9_swayed_39 : decode cX9_swayed 39 = .ok (.istore 4, 2) := by decide +kernel
theorem dX9_swayed_41 : decode cX9_swayed 41 = .ok (.iload_n 2, 1) := by decide +kernel
theorem dX9_swayed_42 : decode cX9_swayed 42 = .ok (.aload_n 0, 1) := by decide +kernel
theorem dX9_swayed_43 : decode cX9_swayed 43 = .ok (.iload 4, 2) := by decide +kernel
theorem dX9_swayed_45 : decode cX9_swayed 45 = .ok (.invokestatic 341, 3) := by decide +kernel
theorem dX9_swayed_48 : decode cX9_swayed 48 = .ok (.invokevirtual 351, 3) := by decide +kernel
theorem dX9_swayed_51 : decode cX9_swayed 51 = .ok (.aload_n 0, 1) := by decide +kernel
theorem dX9_swayed_52 : decode cX9_swayed 52 = .ok (.iload 4, 2) := by decide +kernel
theorem dX9_swayed_54 : decode cX9_swayed 54 = .ok (.iconst 1, 1) := by decide +kernel
theorem dX9_swayed_55 : decode cX9_swayed 55 = .ok (.iload_n 1, 1) := by decide +kernel
theorem dX9_swayed_56 : decode cX9_swayed 56 = .ok (.ishl, 1) := by decide +kernel
theorem dX9_swayed_57 : decode cX9_swayed 57 = .ok (.ixor, 1) := by decide +kernel
theorem dX9_swayed_58 : decode cX9_swayed 58 = .ok (.invokestatic 341, 3) := by decide +kernel
theorem dX9_swayed_61 : decode cX9_swayed 61 = .ok (.invokevirtual 351, 3) := by decide +kernel
theorem dX9_swayed_64 : decode cX9_swayed 64 = .ok (.if_icmp .eq 9, 3) := by decide +kernel
theorem dX9_swayed_67 : decode cX9_swayed 67 = .ok (.iconst 1, 1) := by decide +kernel
theorem dX9_swayed_68 : decode cX9_swayed 68 = .ok (.iload_n 3, 1) := by decide +kernel
theorem dX9_swayed_69 : decode cX9_swayed 69 = .ok (.ishl, 1) := by decide +kernel
theorem dX9_swayed_70 : decode cX9_swayed 70 = .ok (.goto 4, 3) := by decide +kernel
theorem dX9_swayed_73 : decode cX9_swayed 73 = .ok (.iconst 0, 1) := by decide +kernel
theorem dX9_swayed_74 : decode cX9_swayed 74 = .ok (.ior, 1) := by decide +kernel
theorem dX9_swayed_75 : decode cX9_swayed 75 = .ok (.istore_n 2, 1) := by decide +kernel
theorem dX9_swayed_76 : decode cX9_swayed 76 = .ok (.iinc 3 1, 3) := by decide +kernel
theorem dX9_swayed_79 : decode cX9_swayed 79 = .ok (.goto (-75), 3) := by decide +kernel
theorem dX9_swayed_82 : decode cX9_swayed 82 = .ok (.iload_n 2, 1) := by decide +kernel
theorem dX9_swayed_83 : decode cX9_swayed 83 = .ok (.ireturn, 1) := by decide +kernel
theorem dX9_alderman_0 : decode cX9_alderman 0 = .ok (.aload_n 0, 1) := by decide +kernel
theorem dX9_alderman_1 : decode cX9_alderman 1 = .ok (.iconst 0, 1) := by decide +kernel
theorem dX9_alderman_2 : decode cX9_alderman 2 = .ok (.putfield 152, 3) := by decide +kernel
theorem dX9_alderman_5 : decode cX9_alderman 5 = .ok (.aload_n 0, 1) := by decide +kernel
theorem dX9_alderman_6 : decode cX9_alderman 6 = .ok (.iload_n 1, 1) := by decide +kernel
theorem dX9_alderman_7 : decode cX9_alderman 7 = .ok (.invokevirtual 381, 3) := by decide +kernel
theorem dX9_alderman_10 : decode cX9_alderman 10 = .ok (.ifCond .eq 15, 3) := by decide +kernel
theorem dX9_alderman_13 : decode cX9_alderman 13 = .ok (.iload_n 2, 1) := by decide +kernel
theorem dX9_alderman_14 : decode cX9_alderman 14 = .ok (.i2l, 1) := by decide +kernel
theorem dX9_alderman_15 : decode cX9_alderman 15 = .ok (.lconst 0, 1) := by decide +kernel
theorem dX9_alderman_16 : decode cX9_alderman 16 = .ok (.ldc2_w 384, 3) := by decide +kernel
theorem dX9_alderman_19 : decode cX9_alderman 19 = .ok (.invokestatic 155, 3) := by decide +kernel
theorem dX9_alderman_22 : decode cX9_alderman 22 = .ok (.ifCond .ne 9, 3) := by decide +kernel
theorem dX9_alderman_25 : decode cX9_alderman 25 = .ok (.aload_n 0, 1) := by decide +kernel
theorem dX9_alderman_26 : decode cX9_alderman 26 = .ok (.iconst 1, 1) := by decide +kernel
theorem dX9_alderman_27 : decode cX9_alderman 27 = .ok (.invokevirtual 299, 3) := by decide +kernel
theorem dX9_alderman_30 : decode cX9_alderman 30 = .ok (.ireturn, 1) := by decide +kernel
theorem dX9_alderman_31 : decode cX9_alderman 31 = .ok (.iload_n 2, 1) := by decide +kernel
theorem dX9_alderman_32 : decode cX9_alderman 32 = .ok (.ifCond .ne 12, 3) := by decide +kernel
theorem dX9_alderman_35 : decode cX9_alderman 35 = .ok (.aload_n 0, 1) := by decide +kernel
theorem dX9_alderman_36 : decode cX9_alderman 36 = .ok (.getfield 89, 3) := by decide +kernel
theorem dX9_alderman_39 : decode cX9_alderman 39 = .ok (.iload_n 1, 1) := by decide +kernel
theorem dX9_alderman_40 : decode cX9_alderman 40 = .ok (.iaload, 1) := by decide +kernel
theorem dX9_alderman_41 : decode cX9_alderman 41 = .ok (.goto 22, 3) := by decide +kernel
theorem dX9_alderman_44 : decode cX9_alderman 44 = .ok (.iload_n 2, 1) := by decide +kernel
theorem dX9_alderman_45 : decode cX9_alderman 45 = .ok (.iconst 1, 1) := by decide +kernel
theorem dX9_alderman_46 : decode cX9_alderman 46 = .ok (.if_icmp .ne 12, 3) := by decide +kernel
theorem dX9_alderman_49 : decode cX9_alderman 49 = .ok (.aload_n 0, 1) := by decide +kernel
theorem dX9_alderman_50 : decode cX9_alderman 50 = .ok (.getfield 57, 3) := by decide +kernel
theorem dX9_alderman_53 : decode cX9_alderman 53 = .ok (.iload_n 1, 1) := by decide +kernel
theorem dX9_alderman_54 : decode cX9_alderman 54 = .ok (.iaload, 1) := by decide +kernel
theorem dX9_alderman_55 : decode cX9_alderman 55 = .ok (.goto 8, 3) := by decide +kernel
theorem dX9_alderman_58 : decode cX9_alderman 58 = .ok (.aload_n 0, 1) := by decide +kernel
theorem dX9_alderman_59 : decode cX9_alderman 59 = .ok (.iload_n 1, 1) := by decide +kernel
theorem dX9_alderman_60 : decode cX9_alderman 60 = .ok (.invokevirtual 386, 3) := by decide +kernel
theorem dX9_alderman_63 : decode cX9_alderman 63 = .ok (.ireturn, 1) := by decide +kernel
theorem dX9_chain_0 : decode cX9_chain 0 = .ok (.iconst 0, 1) := by decide +kernel
theorem dX9_chain_1 : decode cX9_chain 1 = .ok (.istore_n 2, 1) := by decide +kernel
theorem dX9_chain_2 : decode cX9_chain 2 = .ok (.aload_n 0, 1) := by decide +kernel
theorem dX9_chain_3 : decode cX9_chain 3 = .ok (.getfield 70, 3) := by decide +kernel
theorem dX9_chain_6 : decode cX9_chain 6 = .ok (.iload_n 1, 1) := by decide +kernel
theorem dX9_chain_7 : decode cX9_chain 7 = .ok (.iaload, 1) := by decide +kernel
theorem dX9_chain_8 : decode cX9_chain 8 = .ok (.istore_n 3, 1) := by decide +kernel
theorem dX9_chain_9 : decode cX9_chain 9 = .ok (.iload_n 3, 1) := by decide +kernel
theorem dX9_chain_10 : decode cX9_chain 10 = .ok (.iconst (-1), 1) := by decide +kernel
theorem dX9_chain_11 : decode cX9_chain 11 = .ok (.if_icmp .eq 16, 3) := by decide +kernel
theorem dX9_chain_14 : decode cX9_chain 14 = .ok (.iinc 2 1, 3) := by decide +kernel
theorem dX9_chain_17 : decode cX9_chain 17 = .ok (.aload_n 0, 1) := by decide +kernel
theorem dX9_chain_18 : decode cX9_chain 18 = .ok (.getfield 70, 3) := by decide +kernel
theorem dX9_chain_21 : decode cX9_chain 21 = .ok (.iload_n 3, 1) := by decide +kernel
theorem dX9_chain_22 : decode cX9_chain 22 = .ok (.iaload, 1) := by decide +kernel
theorem dX9_chain_23 : decode cX9_chain 23 = .ok (.istore_n 3, 1) := by decide +kernel
theorem dX9_chain_24 : decode cX9_chain 24 = .ok (.goto (-15), 3) := by decide +kernel
theorem dX9_chain_27 : decode cX9_chain 27 = .ok (.iload_n 2, 1) := by decide +kernel
theorem dX9_chain_28 : decode cX9_chain 28 = .ok (.ireturn, 1) := by decide +kernel
theorem dX9_motion_0 : decode cX9_motion 0 = .ok (.aload_n 0, 1) := by decide +kernel
theorem dX9_motion_1 : decode cX9_motion 1 = .ok (.iconst 0, 1) := by decide +kernel
theorem dX9_motion_2 : decode cX9_motion 2 = .ok (.putfield 152, 3) := by decide +kernel
theorem dX9_motion_5 : decode cX9_motion 5 = .ok (.aload_n 0, 1) := by decide +kernel
theorem dX9_motion_6 : decode cX9_motion 6 = .ok (.iload_n 1, 1) := by decide +kernel
