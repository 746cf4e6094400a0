theorem dX9_valueNow_118 : decode cX9_valueNow 118 = .ok (.iastore, 1) := by decide +kernel
theorem dX9_valueNow_119 : decode cX9_valueNow 119 = .ok (.iinc 4 1, 3) := by decide +kernel
theorem dX9_valueNow_122 : decode cX9_valueNow 122 = .ok (.goto (-117), 3) := by decide +kernel
theorem dX9_valueNow_125 : decode cX9_valueNow 125 = .ok (.aload_n 0, 1) := by decide +kernel
theorem dX9_valueNow_126 : decode cX9_valueNow 126 = .ok (.getfield 100, 3) := by decide +kernel
theorem dX9_valueNow_129 : decode cX9_valueNow 129 = .ok (.iconst 0, 1) := by decide +kernel
theorem dX9_valueNow_130 : decode cX9_valueNow 130 = .ok (.iaload, 1) := by decide +kernel
theorem dX9_valueNow_131 : decode cX9_valueNow 131 = .ok (.ireturn, 1) := by decide +kernel
set_option maxRecDepth 20000 in
theorem ggX9_saidNow_X9_valueNow : GoodIn wsX9_saidNow wsX9_valueNow := goodIn_r _ [19, 20, 5, 21, 22, 18, 23, 24, 25, 26, 27, 28, 29, 30, 31, 32, 33, 34, 35, 36, 37, 38, 39, 40, 41, 42, 43, 44, 45, 46, 47, 48, 49, 50, 51, 52, 53, 54, 55, 56, 57, 58, 59, 60, 61, 62, 63, 64, 65, 66, 67, 68, 69, 70, 71, 72, 73, 74, 75, 76, 77, 78, 79, 80, 81, 82, 83, 84, 85, 86] (by decide +kernel) (by decide +kernel)
set_option maxRecDepth 20000 in
theorem gX9_saidNow_X9_valueNow : GoodIn wsX9_saidNow (wsV RX9 334 RX9 yX9_valueNow wsX9_valueNow) := goodIn_app (goodIn_of _ (by decide +kernel)) ggX9_saidNow_X9_valueNow
theorem dX9_saidNow_0 : decode cX9_saidNow 0 = .ok (.aload_n 0, 1) := by decide +kernel
theorem dX9_saidNow_1 : decode cX9_saidNow 1 = .ok (.getfield 147, 3) := by decide +kernel
theorem dX9_saidNow_4 : decode cX9_saidNow 4 = .ok (.ifCond .eq 10, 3) := by decide +kernel
theorem dX9_saidNow_7 : decode cX9_saidNow 7 = .ok (.aload_n 0, 1) := by decide +kernel
theorem dX9_saidNow_8 : decode cX9_saidNow 8 = .ok (.getfield 314, 3) := by decide +kernel
theorem dX9_saidNow_11 : decode cX9_saidNow 11 = .ok (.ifCond .le 5, 3) := by decide +kernel
theorem dX9_saidNow_14 : decode cX9_saidNow 14 = .ok (.iconst (-1), 1) := by decide +kernel
theorem dX9_saidNow_15 : decode cX9_saidNow 15 = .ok (.ireturn, 1) := by decide +kernel
theorem dX9_saidNow_16 : decode cX9_saidNow 16 = .ok (.aload_n 0, 1) := by decide +kernel
theorem dX9_saidNow_17 : decode cX9_saidNow 17 = .ok (.getfield 312, 3) := by decide +kernel
theorem dX9_saidNow_20 : decode cX9_saidNow 20 = .ok (.bipush 12, 2) := by decide +kernel
theorem dX9_saidNow_22 : decode cX9_saidNow 22 = .ok (.irem, 1) := by decide +kernel
theorem dX9_saidNow_23 : decode cX9_saidNow 23 = .ok (.ifCond .ne 8, 3) := by decide +kernel
theorem dX9_saidNow_26 : decode cX9_saidNow 26 = .ok (.bipush 12, 2) := by decide +kernel
theorem dX9_saidNow_28 : decode cX9_saidNow 28 = .ok (.goto 10, 3) := by decide +kernel
theorem dX9_saidNow_31 : decode cX9_saidNow 31 = .ok (.aload_n 0, 1) := by decide +kernel
theorem dX9_saidNow_32 : decode cX9_saidNow 32 = .ok (.getfield 312, 3) := by decide +kernel
theorem dX9_saidNow_35 : decode cX9_saidNow 35 = .ok (.bipush 12, 2) := by decide +kernel
theorem dX9_saidNow_37 : decode cX9_saidNow 37 = .ok (.irem, 1) := by decide +kernel
theorem dX9_saidNow_38 : decode cX9_saidNow 38 = .ok (.istore_n 1, 1) := by decide +kernel
theorem dX9_saidNow_39 : decode cX9_saidNow 39 = .ok (.iload_n 1, 1) := by decide +kernel
theorem dX9_saidNow_40 : decode cX9_saidNow 40 = .ok (.istore_n 2, 1) := by decide +kernel
theorem dX9_saidNow_41 : decode cX9_saidNow 41 = .ok (.aload_n 0, 1) := by decide +kernel
theorem dX9_saidNow_42 : decode cX9_saidNow 42 = .ok (.getfield 50, 3) := by decide +kernel
theorem dX9_saidNow_45 : decode cX9_saidNow 45 = .ok (.iconst 5, 1) := by decide +kernel
theorem dX9_saidNow_46 : decode cX9_saidNow 46 = .ok (.iaload, 1) := by decide +kernel
theorem dX9_saidNow_47 : decode cX9_saidNow 47 = .ok (.ifCond .le 58, 3) := by decide +kernel
theorem dX9_saidNow_50 : decode cX9_saidNow 50 = .ok (.aload_n 0, 1) := by decide +kernel
theorem dX9_saidNow_51 : decode cX9_saidNow 51 = .ok (.getfield 97, 3) := by decide +kernel
theorem dX9_saidNow_54 : decode cX9_saidNow 54 = .ok (.iconst 0, 1) := by decide +kernel
theorem dX9_saidNow_55 : decode cX9_saidNow 55 = .ok (.iload_n 1, 1) := by decide +kernel
theorem dX9_saidNow_56 : decode cX9_saidNow 56 = .ok (.iastore, 1) := by decide +kernel
theorem dX9_saidNow_57 : decode cX9_saidNow 57 = .ok (.aload_n 0, 1) := by decide +kernel
theorem dX9_saidNow_58 : decode cX9_saidNow 58 = .ok (.getfield 97, 3) := by decide +kernel
theorem dX9_saidNow_61 : decode cX9_saidNow 61 = .ok (.iconst 1, 1) := by decide +kernel
theorem dX9_saidNow_62 : decode cX9_saidNow 62 = .ok (.aload_n 0, 1) := by decide +kernel
theorem dX9_saidNow_63 : decode cX9_saidNow 63 = .ok (.getfield 145, 3) := by decide +kernel
theorem dX9_saidNow_66 : decode cX9_saidNow 66 = .ok (.iastore, 1) := by decide +kernel
theorem dX9_saidNow_67 : decode cX9_saidNow 67 = .ok (.aload_n 0, 1) := by decide +kernel
theorem dX9_saidNow_68 : decode cX9_saidNow 68 = .ok (.getfield 97, 3) := by decide +kernel
theorem dX9_saidNow_71 : decode cX9_saidNow 71 = .ok (.iconst 2, 1) := by decide +kernel
theorem dX9_saidNow_72 : decode cX9_saidNow 72 = .ok (.aload_n 0, 1) := by decide +kernel
theorem dX9_saidNow_73 : decode cX9_saidNow 73 = .ok (.getfield 147, 3) := by decide +kernel
theorem dX9_saidNow_76 : decode cX9_saidNow 76 = .ok (.iastore, 1) := by decide +kernel
theorem dX9_saidNow_77 : decode cX9_saidNow 77 = .ok (.aload_n 0, 1) := by decide +kernel
theorem dX9_saidNow_78 : decode cX9_saidNow 78 = .ok (.getfield 97, 3) := by decide +kernel
theorem dX9_saidNow_81 : decode cX9_saidNow 81 = .ok (.iconst 3, 1) := by decide +kernel
theorem dX9_saidNow_82 : decode cX9_saidNow 82 = .ok (.aload_n 0, 1) := by decide +kernel
theorem dX9_saidNow_83 : decode cX9_saidNow 83 = .ok (.getfield 312, 3) := by decide +kernel
theorem dX9_saidNow_86 : decode cX9_saidNow 86 = .ok (.bipush 24, 2) := by decide +kernel
theorem dX9_saidNow_88 : decode cX9_saidNow 88 = .ok (.idiv, 1) := by decide +kernel
theorem dX9_saidNow_89 : decode cX9_saidNow 89 = .ok (.iastore, 1) := by decide +kernel
theorem dX9_saidNow_90 : decode cX9_saidNow 90 = .ok (.aload_n 0, 1) := by decide +kernel
theorem dX9_saidNow_91 : decode cX9_saidNow 91 = .ok (.aload_n 0, 1) := by decide +kernel
theorem dX9_saidNow_92 : decode cX9_saidNow 92 = .ok (.getfield 73, 3) := by decide +kernel
theorem dX9_saidNow_95 : decode cX9_saidNow 95 = .ok (.aload_n 0, 1) := by decide +kernel
theorem dX9_saidNow_96 : decode cX9_saidNow 96 = .ok (.getfield 50, 3) := by decide +kernel
theorem dX9_saidNow_99 : decode cX9_saidNow 99 = .ok (.iconst 5, 1) := by decide +kernel
theorem dX9_saidNow_100 : decode cX9_saidNow 100 = .ok (.iaload, 1) := by decide +kernel
theorem dX9_saidNow_101 : decode cX9_saidNow 101 = .ok (.invokevirtual 334, 3) := by decide +kernel
theorem dX9_saidNow_104 : decode cX9_saidNow 104 = .ok (.istore_n 2, 1) := by decide +kernel
theorem dX9_saidNow_105 : decode cX9_saidNow 105 = .ok (.iconst 0, 1) := by decide +kernel
theorem dX9_saidNow_106 : decode cX9_saidNow 106 = .ok (.bipush 24, 2) := by decide +kernel
theorem dX9_saidNow_108 : decode cX9_saidNow 108 = .ok (.iload_n 2, 1) := by decide +kernel
theorem dX9_saidNow_109 : decode cX9_saidNow 109 = .ok (.invokestatic 189, 3) := by decide +kernel
theorem dX9_saidNow_112 : decode cX9_saidNow 112 = .ok (.invokestatic 338, 3) := by decide +kernel
theorem dX9_saidNow_115 : decode cX9_saidNow 115 = .ok (.istore_n 2, 1) := by decide +kernel
theorem dX9_saidNow_116 : decode cX9_saidNow 116 = .ok (.aload_n 0, 1) := by decide +kernel
theorem dX9_saidNow_117 : decode cX9_saidNow 117 = .ok (.getfield 145, 3) := by decide +kernel
theorem dX9_saidNow_120 : decode cX9_saidNow 120 = .ok (.ifCond .ne 9, 3) := by decide +kernel
theorem dX9_saidNow_123 : decode cX9_saidNow 123 = .ok (.iload_n 2, 1) := by decide +kernel
theorem dX9_saidNow_124 : decode cX9_saidNow 124 = .ok (.iconst 2, 1) := by decide +kernel
theorem dX9_saidNow_125 : decode cX9_saidNow 125 = .ok (.idiv, 1) := by decide +kernel
theorem dX9_saidNow_126 : decode cX9_saidNow 126 = .ok (.goto 4, 3) := by decide +kernel
theorem dX9_saidNow_129 : decode cX9_saidNow 129 = .ok (.iload_n 2, 1) := by decide +kernel
theorem dX9_saidNow_130 : decode cX9_saidNow 130 = .ok (.ireturn, 1) := by decide +kernel
set_option maxRecDepth 20000 in
theorem ggX9_isFor_X9_bitsOf : GoodIn wsX9_isFor wsX9_bitsOf := goodIn_r _ [16] (by decide +kernel) (by decide +kernel)
set_option maxRecDepth 20000 in
theorem gX9_isFor_X9_bitsOf : GoodIn wsX9_isFor (va_wsS RX9 341 yX9_bitsOf wsX9_bitsOf) := goodIn_app (goodIn_of _ (by decide +kernel)) ggX9_isFor_X9_bitsOf
set_option maxRecDepth 20000 in
theorem ggX9_isFor_X9_valueNow : GoodIn wsX9_isFor wsX9_valueNow := goodIn_r _ [20, 21, 3, 22, 23, 15, 24, 25, 26, 27, 28, 29, 30, 31, 32, 33, 34, 35, 36, 37, 38, 39, 40, 41, 42, 43, 44, 45, 46, 47, 48, 49, 50, 51, 52, 53, 54, 55, 56, 57, 58, 59, 60, 61, 62, 63, 64, 65, 66, 67, 68, 69, 70, 71, 72, 73, 74, 75, 76, 77, 78, 79, 80, 81, 82, 83, 84, 85, 86, 87] (by decide +kernel) (by decide +kernel)
set_option maxRecDepth 20000 in
theorem gX9_isFor_X9_valueNow : GoodIn wsX9_isFor (wsV RX9 334 RX9 yX9_valueNow wsX9_valueNow) := goodIn_app (goodIn_of _ (by decide +kernel)) ggX9_isFor_X9_valueNow
theorem dX9_isFor_0 : decode cX9_isFor 0 = .ok (.aload_n 0, 1) := by decide +kernel
theorem dX9_isFor_1 : decode cX9_isFor 1 = .ok (.getfield 50, 3) := by decide +kernel
theorem dX9_isFor_4 : decode cX9_isFor 4 = .ok (.bipush 6, 2) := by decide +kernel
theorem dX9_isFor_6 : decode cX9_isFor 6 = .ok (.iaload, 1) := by decide +kernel
theorem dX9_isFor_7 : decode cX9_isFor 7 = .ok (.ifCond .ne 20, 3) := by decide +kernel
theorem dX9_isFor_10 : decode cX9_isFor 10 = .ok (.iload_n 2, 1) := by decide +kernel
theorem dX9_isFor_11 : decode cX9_isFor 11 = .ok (.aload_n 0, 1) := by decide +kernel
theorem dX9_isFor_12 : decode cX9_isFor 12 = .ok (.getfield 67, 3) := by decide +kernel
theorem dX9_isFor_15 : decode cX9_isFor 15 = .ok (.iload_n 3, 1) := by decide +kernel
theorem dX9_isFor_16 : decode cX9_isFor 16 = .ok (.iaload, 1) := by decide +kernel
theorem dX9_isFor_17 : decode cX9_isFor 17 = .ok (.iadd, 1) := by decide +kernel
theorem dX9_isFor_18 : decode cX9_isFor 18 = .ok (.ifCond .le 7, 3) := by decide +kernel
theorem dX9_isFor_21 : decode cX9_isFor 21 = .ok (.iconst 1, 1) := by decide +kernel
theorem dX9_isFor_22 : decode cX9_isFor 22 = .ok (.goto 4, 3) := by decide +kernel
theorem dX9_isFor_25 : decode cX9_isFor 25 = .ok (.iconst 0, 1) := by decide +kernel
theorem dX9_isFor_26 : decode cX9_isFor 26 = .ok (.ireturn, 1) := by decide +kernel
theorem dX9_isFor_27 : decode cX9_isFor 27 = .ok (.aload_n 0, 1) := by decide +kernel
theorem dX9_isFor_28 : decode cX9_isFor 28 = .ok (.getfield 97, 3) := by decide +kernel
theorem dX9_isFor_31 : decode cX9_isFor 31 = .ok (.iconst 0, 1) := by decide +kernel
theorem dX9_isFor_32 : decode cX9_isFor 32 = .ok (.iconst 0, 1) := by decide +kernel
theorem dX9_isFor_33 : decode cX9_isFor 33 = .ok (.iload 4, 2) := by decide +kernel
theorem dX9_isFor_35 : decode cX9_isFor 35 = .ok (.aload_n 0, 1) := by decide +kernel
theorem dX9_isFor_36 : decode cX9_isFor 36 = .ok (.getfield 57, 3) := by decide +kernel
theorem dX9_isFor_39 : decode cX9_isFor 39 = .ok (.iload_n 1, 1) := by decide +kernel
theorem dX9_isFor_40 : decode cX9_isFor 40 = .ok (.iaload, 1) := by decide +kernel
theorem dX9_isFor_41 : decode cX9_isFor 41 = .ok (.isub, 1) := by decide +kernel
theorem dX9_isFor_42 : decode cX9_isFor 42 = .ok (.invokestatic 338, 3) := by decide +kernel
theorem dX9_isFor_45 : decode cX9_isFor 45 = .ok (.iastore, 1) := by decide +kernel
theorem dX9_isFor_46 : decode cX9_isFor 46 = .ok (.aload_n 0, 1) := by decide +kernel
theorem dX9_isFor_47 : decode cX9_isFor 47 = .ok (.getfield 97, 3) := by decide +kernel
theorem dX9_isFor_50 : decode cX9_isFor 50 = .ok (.iconst 1, 1) := by decide +kernel
theorem dX9_isFor_51 : decode cX9_isFor 51 = .ok (.iload_n 2, 1) := by decide +kernel
theorem dX9_isFor_52 : decode cX9_isFor 52 = .ok (.iastore, 1) := by decide +kernel
theorem dX9_isFor_53 : decode cX9_isFor 53 = .ok (.aload_n 0, 1) := by decide +kernel
theorem dX9_isFor_54 : decode cX9_isFor 54 = .ok (.getfield 97, 3) := by decide +kernel
theorem dX9_isFor_57 : decode cX9_isFor 57 = .ok (.iconst 2, 1) := by decide +kernel
theorem dX9_isFor_58 : decode cX9_isFor 58 = .ok (.aload_n 0, 1) := by decide +kernel
theorem dX9_isFor_59 : decode cX9_isFor 59 = .ok (.getfield 65, 3) := by decide +kernel
theorem dX9_isFor_62 : decode cX9_isFor 62 = .ok (.iload_n 3, 1) := by decide +kernel
theorem dX9_isFor_63 : decode cX9_isFor 63 = .ok (.iaload, 1) := by decide +kernel
theorem dX9_isFor_64 : decode cX9_isFor 64 = .ok (.iastore, 1) := by decide +kernel
theorem dX9_isFor_65 : decode cX9_isFor 65 = .ok (.aload_n 0, 1) := by decide +kernel
theorem dX9_isFor_66 : decode cX9_isFor 66 = .ok (.getfield 97, 3) := by decide +kernel
theorem dX9_isFor_69 : decode cX9_isFor 69 = .ok (.iconst 3, 1) := by decide +kernel
theorem dX9_isFor_70 : decode cX9_isFor 70 = .ok (.aload_n 0, 1) := by decide +kernel
theorem dX9_isFor_71 : decode cX9_isFor 71 = .ok (.getfield 67, 3) := by decide +kernel
theorem dX9_isFor_74 : decode cX9_isFor 74 = .ok (.iload_n 3, 1) := by decide +kernel
theorem dX9_isFor_75 : decode cX9_isFor 75 = .ok (.iaload, 1) := by decide +kernel
theorem dX9_isFor_76 : decode cX9_isFor 76 = .ok (.iastore, 1) := by decide +kernel
theorem dX9_isFor_77 : decode cX9_isFor 77 = .ok (.aload_n 0, 1) := by decide +kernel
theorem dX9_isFor_78 : decode cX9_isFor 78 = .ok (.getfield 97, 3) := by decide +kernel
theorem dX9_isFor_81 : decode cX9_isFor 81 = .ok (.iconst 4, 1) := by decide +kernel
theorem dX9_isFor_82 : decode cX9_isFor 82 = .ok (.aload_n 0, 1) := by decide +kernel
theorem dX9_isFor_83 : decode cX9_isFor 83 = .ok (.getfield 60, 3) := by decide +kernel
theorem dX9_isFor_86 : decode cX9_isFor 86 = .ok (.iload_n 3, 1) := by decide +kernel
theorem dX9_isFor_87 : decode cX9_isFor 87 = .ok (.iaload, 1) := by decide +kernel
theorem dX9_isFor_88 : decode cX9_isFor 88 = .ok (.iastore, 1) := by decide +kernel
theorem dX9_isFor_89 : decode cX9_isFor 89 = .ok (.aload_n 0, 1) := by decide +kernel
theorem dX9_isFor_90 : decode cX9_isFor 90 = .ok (.getfield 97, 3) := by decide +kernel
theorem dX9_isFor_93 : decode cX9_isFor 93 = .ok (.iconst 5, 1) := by decide +kernel
theorem dX9_isFor_94 : decode cX9_isFor 94 = .ok (.aload_n 0, 1) := by decide +kernel
theorem dX9_isFor_95 : decode cX9_isFor 95 = .ok (.getfield 319, 3) := by decide +kernel
theorem dX9_isFor_98 : decode cX9_isFor 98 = .ok (.invokestatic 341, 3) := by decide +kernel
theorem dX9_isFor_101 : decode cX9_isFor 101 = .ok (.iastore, 1) := by decide +kernel
theorem dX9_isFor_102 : decode cX9_isFor 102 = .ok (.aload_n 0, 1) := by decide +kernel
theorem dX9_isFor_103 : decode cX9_isFor 103 = .ok (.aload_n 0, 1) := by decide +kernel
theorem dX9_isFor_104 : decode cX9_isFor 104 = .ok (.getfield 76, 3) := by decide +kernel
theorem dX9_isFor_107 : decode cX9_isFor 107 = .ok (.aload_n 0, 1) := by decide +kernel
theorem dX9_isFor_108 : decode cX9_isFor 108 = .ok (.getfield 50, 3) := by decide +kernel
theorem dX9_isFor_111 : decode cX9_isFor 111 = .ok (.bipush 6, 2) := by decide +kernel
theorem dX9_isFor_113 : decode cX9_isFor 113 = .ok (.iaload, 1) := by decide +kernel
theorem dX9_isFor_114 : decode cX9_isFor 114 = .ok (.invokevirtual 334, 3) := by decide +kernel
theorem dX9_isFor_117 : decode cX9_isFor 117 = .ok (.ifCond .le 7, 3) := by decide +kernel
theorem dX9_isFor_120 : decode cX9_isFor 120 = .ok (.iconst 1, 1) := by decide +kernel
theorem dX9_isFor_121 : decode cX9_isFor 121 = .ok (.goto 4, 3) := by decide +kernel
theorem dX9_isFor_124 : decode cX9_isFor 124 = .ok (.iconst 0, 1) := by decide +kernel
theorem dX9_isFor_125 : decode cX9_isFor 125 = .ok (.ireturn, 1) := by decide +kernel
set_option maxRecDepth 20000 in
theorem ggX9_thoseFor_X9_isFor : GoodIn wsX9_thoseFor wsX9_isFor := goodIn_r _ [7, 1, 8, 9, 10, 11, 12, 13, 14, 15, 16, 17, 18, 19, 20, 6, 21, 22, 23, 24, 25, 26, 27, 28, 29, 30, 31, 32, 33, 34, 35, 36, 37, 38, 39, 40, 41, 42, 43, 44, 45, 46, 47, 48, 49, 50, 51, 52, 53, 54, 55, 56, 57, 58, 59, 60, 61, 62, 63, 64, 65, 66, 67, 68, 69, 70, 71, 72, 73, 74, 75, 76, 77, 78, 79, 80, 81, 82, 83, 84, 85, 86, 87, 88, 89, 90, 91, 92] (by decide +kernel) (by decide +kernel)
set_option maxRecDepth 20000 in
theorem gX9_thoseFor_X9_isFor : GoodIn wsX9_thoseFor (wsV RX9 344 RX9 yX9_isFor wsX9_isFor) := goodIn_app (goodIn_of _ (by decide +kernel)) ggX9_thoseFor_X9_isFor
theorem dX9_thoseFor_0 : decode cX9_thoseFor 0 = .ok (.iconst 0, 1) := by decide +kernel
theorem dX9_thoseFor_1 : decode cX9_thoseFor 1 = .ok (.istore_n 3, 1) := by decide +kernel
theorem dX9_thoseFor_2 : decode cX9_thoseFor 2 = .ok (.iconst 0, 1) := by decide +kernel
theorem dX9_thoseFor_3 : decode cX9_thoseFor 3 = .ok (.istore 4, 2) := by decide +kernel
theorem dX9_thoseFor_5 : decode cX9_thoseFor 5 = .ok (.iload 4, 2) := by decide +kernel
theorem dX9_thoseFor_7 : decode cX9_thoseFor 7 = .ok (.aload_n 0, 1) := by decide +kernel
theorem dX9_thoseFor_8 : decode cX9_thoseFor 8 = .ok (.getfield 50, 3) := by decide +kernel
theorem dX9_thoseFor_11 : decode cX9_thoseFor 11 = .ok (.iconst 3, 1) := by decide +kernel
theorem dX9_thoseFor_12 : decode cX9_thoseFor 12 = .ok (.iaload, 1) := by decide +kernel
theorem dX9_thoseFor_13 : decode cX9_thoseFor 13 = .ok (.if_icmp .ge 38, 3) := by decide +kernel
theorem dX9_thoseFor_16 : decode cX9_thoseFor 16 = .ok (.iload_n 3, 1) := by decide +kernel
theorem dX9_thoseFor_17 : decode cX9_thoseFor 17 = .ok (.aload_n 0, 1) := by decide +kernel
theorem dX9_thoseFor_18 : decode cX9_thoseFor 18 = .ok (.iload 4, 2) := by decide +kernel
theorem dX9_thoseFor_20 : decode cX9_thoseFor 20 = .ok (.aload_n 0, 1) := by decide +kernel
theorem dX9_thoseFor_21 : decode cX9_thoseFor 21 = .ok (.getfield 89, 3) := by decide +kernel
theorem dX9_thoseFor_24 : decode cX9_thoseFor 24 = .ok (.iload 4, 2) := by decide +kernel
theorem dX9_thoseFor_26 : decode cX9_thoseFor 26 = .ok (.iaload, 1) := by decide +kernel
theorem dX9_thoseFor_27 : decode cX9_thoseFor 27 = .ok (.iload_n 1, 1) := by decide +kernel
theorem dX9_thoseFor_28 : decode cX9_thoseFor 28 = .ok (.iload_n 2, 1) := by decide +kernel
theorem dX9_thoseFor_29 : decode cX9_thoseFor 29 = .ok (.invokevirtual 344, 3) := by decide +kernel
theorem dX9_thoseFor_32 : decode cX9_thoseFor 32 = .ok (.ifCond .eq 10, 3) := by decide +kernel
theorem dX9_thoseFor_35 : decode cX9_thoseFor 35 = .ok (.iconst 1, 1) := by decide +kernel
theorem dX9_thoseFor_36 : decode cX9_thoseFor 36 = .ok (.iload 4, 2) := by decide +kernel
theorem dX9_thoseFor_38 : decode cX9_thoseFor 38 = .ok (.ishl, 1) := by decide +kernel
theorem dX9_thoseFor_39 : decode cX9_thoseFor 39 = .ok (.goto 4, 3) := by decide +kernel
theorem dX9_thoseFor_42 : decode cX9_thoseFor 42 = .ok (.iconst 0, 1) := by decide +kernel
theorem dX9_thoseFor_43 : decode cX9_thoseFor 43 = .ok (.ior, 1) := by decide +kernel
theorem dX9_thoseFor_44 : decode cX9_thoseFor 44 = .ok (.istore_n 3, 1) := by decide +kernel
theorem dX9_thoseFor_45 : decode cX9_thoseFor 45 = .ok (.iinc 4 1, 3) := by decide +kernel
theorem dX9_thoseFor_48 : decode cX9_thoseFor 48 = .ok (.goto (-43), 3) := by decide +kernel
theorem dX9_thoseFor_51 : decode cX9_thoseFor 51 = .ok (.iload_n 3, 1) := by decide +kernel
theorem dX9_thoseFor_52 : decode cX9_thoseFor 52 = .ok (.ireturn, 1) := by decide +kernel
theorem dX9_isMore_0 : decode cX9_isMore 0 = .ok (.iload_n 1, 1) := by decide +kernel
theorem dX9_isMore_1 : decode cX9_isMore 1 = .ok (.aload_n 0, 1) := by decide +kernel
theorem dX9_isMore_2 : decode cX9_isMore 2 = .ok (.getfield 50, 3) := by decide +kernel
theorem dX9_isMore_5 : decode cX9_isMore 5 = .ok (.iconst 3, 1) := by decide +kernel
theorem dX9_isMore_6 : decode cX9_isMore 6 = .ok (.iaload, 1) := by decide +kernel
theorem dX9_isMore_7 : decode cX9_isMore 7 = .ok (.iload_n 1, 1) := by decide +kernel
theorem dX9_isMore_8 : decode cX9_isMore 8 = .ok (.isub, 1) := by decide +kernel
theorem dX9_isMore_9 : decode cX9_isMore 9 = .ok (.if_icmp .le 7, 3) := by decide +kernel
theorem dX9_isMore_12 : decode cX9_isMore 12 = .ok (.iconst 1, 1) := by decide +kernel
theorem dX9_isMore_13 : decode cX9_isMore 13 = .ok (.goto 4, 3) := by decide +kernel
theorem dX9_isMore_16 : decode cX9_isMore 16 = .ok (.iconst 0, 1) := by decide +kernel
theorem dX9_isMore_17 : decode cX9_isMore 17 = .ok (.ireturn, 1) := by decide +kernel
set_option maxRecDepth 20000 in
theorem ggX9_wouldPass_X9_thoseFor : GoodIn wsX9_wouldPass wsX9_thoseFor := goodIn_r _ [8, 9, 10, 11, 12, 13, 7, 14, 15, 16, 17, 18, 19, 20, 21, 2, 1, 22, 23, 24, 25, 26, 27, 28, 29, 30, 31, 32, 33, 34, 39, 40, 41, 42, 43, 44, 45, 46, 47, 48, 49, 50, 51, 52, 53, 54, 55, 56, 57, 58, 59, 60, 61, 62, 63, 64, 65, 66, 67, 68, 69, 70, 71, 72, 73, 74, 75, 76, 77, 78, 79, 80, 81, 82, 83, 84, 85, 86, 87, 88, 89, 90, 91, 92, 93, 94, 95, 96, 97, 98, 99, 100, 101] (by decide +kernel) (by decide +kernel)
set_option maxRecDepth 20000 in
theorem gX9_wouldPass_X9_thoseFor : GoodIn wsX9_wouldPass (wsV RX9 348 RX9 yX9_thoseFor wsX9_thoseFor) := goodIn_app (goodIn_of _ (by decide +kernel)) ggX9_wouldPass_X9_thoseFor
set_option maxRecDepth 20000 in
theorem ggX9_wouldPass_X9_bitsOf : GoodIn wsX9_wouldPass wsX9_bitsOf := goodIn_r _ [26] (by decide +kernel) (by decide +kernel)
set_option maxRecDepth 20000 in
theorem gX9_wouldPass_X9_bitsOf : GoodIn wsX9_wouldPass (va_wsS RX9 341 yX9_bitsOf wsX9_bitsOf) := goodIn_app (goodIn_of _ (by decide +kernel)) ggX9_wouldPass_X9_bitsOf
set_option maxRecDepth 20000 in
theorem ggX9_wouldPass_X9_isMore : GoodIn wsX9_wouldPass wsX9_isMore := goodIn_r _ [38, 9, 39, 40, 41, 42, 43, 44, 45, 46, 47, 48, 49, 50, 51, 52, 53, 54, 55, 56, 57, 58, 59, 60, 61, 62, 63, 64, 65, 66, 67, 68, 69, 70, 71, 72, 73, 74, 75, 76, 77, 78, 79, 80, 81, 82, 83, 84, 85, 86, 87, 88, 89, 90, 91, 92, 93, 94, 95, 96, 97, 98, 99, 100, 101] (by decide +kernel) (by decide +kernel)
set_option maxRecDepth 20000 in
theorem gX9_wouldPass_X9_isMore : GoodIn wsX9_wouldPass (wsV RX9 351 RX9 yX9_isMore wsX9_isMore) := goodIn_app (goodIn_of _ (by decide +kernel)) ggX9_wouldPass_X9_isMore
theorem dX9_wouldPass_0 : decode cX9_wouldPass 0 = .ok (.aload_n 0, 1) := by decide +kernel
theorem dX9_wouldPass_1 : decode cX9_wouldPass 1 = .ok (.aload_n 0, 1) := by decide +kernel
theorem dX9_wouldPass_2 : decode cX9_wouldPass 2 = .ok (.iload_n 1, 1) := by decide +kernel
theorem dX9_wouldPass_3 : decode cX9_wouldPass 3 = .ok (.iload_n 2, 1) := by decide +kernel
theorem dX9_wouldPass_4 : decode cX9_wouldPass 4 = .ok (.invokevirtual 348, 3) := by decide +kernel
theorem dX9_wouldPass_7 : decode cX9_wouldPass 7 = .ok (.invokestatic 341, 3) := by decide +kernel
theorem dX9_wouldPass_10 : decode cX9_wouldPass 10 = .ok (.invokevirtual 351, 3) := by decide +kernel
theorem dX9_wouldPass_13 : decode cX9_wouldPass 13 = .ok (.ifCond .eq 30, 3) := by decide +kernel
theorem dX9_wouldPass_16 : decode cX9_wouldPass 16 = .ok (.aload_n 0, 1) := by decide +kernel
theorem dX9_wouldPass_17 : decode cX9_wouldPass 17 = .ok (.getfield 60, 3) := by decide +kernel
theorem dX9_wouldPass_20 : decode cX9_wouldPass 20 = .ok (.iload_n 1, 1) := by decide +kernel
theorem dX9_wouldPass_21 : decode cX9_wouldPass 21 = .ok (.iaload, 1) := by decide +kernel
theorem dX9_wouldPass_22 : decode cX9_wouldPass 22 = .ok (.iconst 2, 1) := by decide +kernel
theorem dX9_wouldPass_23 : decode cX9_wouldPass 23 = .ok (.if_icmp .eq 16, 3) := by decide +kernel
theorem dX9_wouldPass_26 : decode cX9_wouldPass 26 = .ok (.aload_n 0, 1) := by decide +kernel
theorem dX9_wouldPass_27 : decode cX9_wouldPass 27 = .ok (.getfield 65, 3) := by decide +kernel
theorem dX9_wouldPass_30 : decode cX9_wouldPass 30 = .ok (.iload_n 1, 1) := by decide +kernel
theorem dX9_wouldPass_31 : decode cX9_wouldPass 31 = .ok (.iaload, 1) := by decide +kernel
theorem dX9_wouldPass_32 : decode cX9_wouldPass 32 = .ok (.aload_n 0, 1) := by decide +kernel
theorem dX9_wouldPass_33 : decode cX9_wouldPass 33 = .ok (.getfield 149, 3) := by decide +kernel
theorem dX9_wouldPass_36 : decode cX9_wouldPass 36 = .ok (.if_icmp .gt 7, 3) := by decide +kernel
theorem dX9_wouldPass_39 : decode cX9_wouldPass 39 = .ok (.iconst 1, 1) := by decide +kernel
theorem dX9_wouldPass_40 : decode cX9_wouldPass 40 = .ok (.goto 4, 3) := by decide +kernel
theorem dX9_wouldPass_43 : decode cX9_wouldPass 43 = .ok (.iconst 0, 1) := by decide +kernel
theorem dX9_wouldPass_44 : decode cX9_wouldPass 44 = .ok (.ireturn, 1) := by decide +kernel
theorem dX9_joyOf_0 : decode cX9_joyOf 0 = .ok (.aload_n 0, 1) := by decide +kernel
theorem dX9_joyOf_1 : decode cX9_joyOf 1 = .ok (.getfield 60, 3) := by decide +kernel
theorem dX9_joyOf_4 : decode cX9_joyOf 4 = .ok (.iload_n 1, 1) := by decide +kernel
theorem dX9_joyOf_5 : decode cX9_joyOf 5 = .ok (.iaload, 1) := by decide +kernel
theorem dX9_joyOf_6 : decode cX9_joyOf 6 = .ok (.iconst 1, 1) := by decide +kernel
theorem dX9_joyOf_7 : decode cX9_joyOf 7 = .ok (.if_icmp .ne 14, 3) := by decide +kernel
theorem dX9_joyOf_10 : decode cX9_joyOf 10 = .ok (.iconst 2, 1) := by decide +kernel
theorem dX9_joyOf_11 : decode cX9_joyOf 11 = .ok (.aload_n 0, 1) := by decide +kernel
theorem dX9_joyOf_12 : decode cX9_joyOf 12 = .ok (.getfield 67, 3) := by decide +kernel
theorem dX9_joyOf_15 : decode cX9_joyOf 15 = .ok (.iload_n 1, 1) := by decide +kernel
theorem dX9_joyOf_16 : decode cX9_joyOf 16 = .ok (.iaload, 1) := by decide +kernel
theorem dX9_joyOf_17 : decode cX9_joyOf 17 = .ok (.imul, 1) := by decide +kernel
theorem dX9_joyOf_18 : decode cX9_joyOf 18 = .ok (.goto 9, 3) := by decide +kernel
theorem dX9_joyOf_21 : decode cX9_joyOf 21 = .ok (.aload_n 0, 1) := by decide +kernel
theorem dX9_joyOf_22 : decode cX9_joyOf 22 = .ok (.getfield 67, 3) := by decide +kernel
theorem dX9_joyOf_25 : decode cX9_joyOf 25 = .ok (.iload_n 1, 1) := by decide +kernel
theorem dX9_joyOf_26 : decode cX9_joyOf 26 = .ok (.iaload, 1) := by decide +kernel
theorem dX9_joyOf_27 : decode cX9_joyOf 27 = .ok (.ireturn, 1) := by decide +kernel
set_option maxRecDepth 20000 in
theorem ggX9_isOpen_X9_isOf : GoodIn wsX9_isOpen wsX9_isOf := goodIn_r _ [6] (by decide +kernel) (by decide +kernel)
set_option maxRecDepth 20000 in
theorem gX9_isOpen_X9_isOf : GoodIn wsX9_isOpen (va_wsS RX9 354 yX9_isOf wsX9_isOf) := goodIn_app (goodIn_of _ (by decide +kernel)) ggX9_isOpen_X9_isOf
theorem dX9_isOpen_0 : decode cX9_isOpen 0 = .ok (.aload_n 0, 1) := by decide +kernel
theorem dX9_isOpen_1 : decode cX9_isOpen 1 = .ok (.getfield 319, 3) := by decide +kernel
theorem dX9_isOpen_4 : decode cX9_isOpen 4 = .ok (.iload_n 1, 1) := by decide +kernel
theorem dX9_isOpen_5 : decode cX9_isOpen 5 = .ok (.invokestatic 354, 3) := by decide +kernel
theorem dX9_isOpen_8 : decode cX9_isOpen 8 = .ok (.ifCond .ne 33, 3) := by decide +kernel
theorem dX9_isOpen_11 : decode cX9_isOpen 11 = .ok (.aload_n 0, 1) := by decide +kernel
theorem dX9_isOpen_12 : decode cX9_isOpen 12 = .ok (.getfield 70, 3) := by decide +kernel
theorem dX9_isOpen_15 : decode cX9_isOpen 15 = .ok (.iload_n 1, 1) := by decide +kernel
theorem dX9_isOpen_16 : decode cX9_isOpen 16 = .ok (.iaload, 1) := by decide +kernel
theorem dX9_isOpen_17 : decode cX9_isOpen 17 = .ok (.iconst (-1), 1) := by decide +kernel
theorem dX9_isOpen_18 : decode cX9_isOpen 18 = .ok (.if_icmp .eq 19, 3) := by decide +kernel
theorem dX9_isOpen_21 : decode cX9_isOpen 21 = .ok (.aload_n 0, 1) := by decide +kernel
theorem dX9_isOpen_22 : decode cX9_isOpen 22 = .ok (.getfield 319, 3) := by decide +kernel
theorem dX9_isOpen_25 : decode cX9_isOpen 25 = .ok (.aload_n 0, 1) := by decide +kernel
theorem dX9_isOpen_26 : decode cX9_isOpen 26 = .ok (.getfield 70, 3) := by decide +kernel
theorem dX9_isOpen_29 : decode cX9_isOpen 29 = .ok (.iload_n 1, 1) := by decide +kernel
theorem dX9_isOpen_30 : decode cX9_isOpen 30 = .ok (.iaload, 1) := by decide +kernel
theorem dX9_isOpen_31 : decode cX9_isOpen 31 = .ok (.invokestatic 354, 3) := by decide +kernel
theorem dX9_isOpen_34 : decode cX9_isOpen 34 = .ok (.ifCond .eq 7, 3) := by decide +kernel
theorem dX9_isOpen_37 : decode cX9_isOpen 37 = .ok (.iconst 1, 1) := by decide +kernel
theorem dX9_isOpen_38 : decode cX9_isOpen 38 = .ok (.goto 4, 3) := by decide +kernel
theorem dX9_isOpen_41 : decode cX9_isOpen 41 = .ok (.iconst 0, 1) := by decide +kernel
theorem dX9_isOpen_42 : decode cX9_isOpen 42 = .ok (.ireturn, 1) := by decide +kernel
set_option maxRecDepth 20000 in
theorem ggX9_anHour_X9_saidNow : GoodIn wsX9_anHour wsX9_saidNow := goodIn_r _ [26, 19, 20, 21, 8, 27, 2, 28, 15, 16, 6, 17, 4, 5, 7, 29, 30, 31, 25, 32, 33, 34, 35, 36, 72, 73, 74, 75, 76, 77, 78, 79, 80, 81, 82, 83, 84, 85, 86, 87, 88, 89, 90, 91, 92, 93, 94, 95, 96, 97, 98, 99, 100, 101, 102, 103, 104, 105, 106, 107, 108, 109, 110, 111, 112, 113, 114, 115, 116, 117, 118, 119, 120, 121, 122, 123, 124, 125, 126, 127, 128, 129, 130, 131, 132, 133, 134] (by decide +kernel) (by decide +kernel)
set_option maxRecDepth 20000 in
theorem gX9_anHour_X9_saidNow : GoodIn wsX9_anHour (wsV RX9 357 RX9 yX9_saidNow wsX9_saidNow) := goodIn_app (goodIn_of _ (by decide +kernel)) ggX9_anHour_X9_saidNow
set_option maxRecDepth 20000 in
theorem ggX9_anHour_X9_isOpen : GoodIn wsX9_anHour wsX9_isOpen := goodIn_r _ [40, 11, 41, 42, 43, 25, 44, 72, 73, 74, 75, 76, 77, 78, 79, 80, 81, 82, 83, 84, 85, 86, 87, 88, 89, 90, 91, 92, 93, 94, 95, 96, 97, 98, 99, 100, 101, 102, 103, 104, 105, 106, 107, 108, 109, 110, 111, 112, 113, 114, 115, 116, 117, 118, 119, 120, 121, 122, 123, 124, 125, 126, 127, 128, 129, 130, 131, 132, 133, 134] (by decide +kernel) (by decide +kernel)
set_option maxRecDepth 20000 in
theorem gX9_anHour_X9_isOpen : GoodIn wsX9_anHour (wsV RX9 366 RX9 yX9_isOpen wsX9_isOpen) := goodIn_app (goodIn_of _ (by decide +kernel)) ggX9_anHour_X9_isOpen
set_option maxRecDepth 20000 in
theorem ggX9_anHour_X9_wouldPass : GoodIn wsX9_anHour wsX9_wouldPass := goodIn_r _ [48, 12, 14, 13, 49, 50, 51, 25, 52, 8, 53, 54, 55, 56, 57, 58, 27, 59, 4, 5, 6, 7, 11, 60, 61, 62, 63, 29, 30, 31, 32, 33, 34, 35, 36, 64, 65, 66, 67, 72, 73, 74, 75, 76, 77, 78, 79, 80, 81, 82, 83, 84, 85, 86, 87, 88, 89, 90, 91, 92, 93, 94, 95, 96, 97, 98, 99, 100, 101, 102, 103, 104, 105, 106, 107, 108, 109, 110, 111, 112, 113, 114, 115, 116, 117, 118, 119, 120, 121, 122, 123, 124, 125, 126, 127, 128, 129, 130, 131, 132, 133, 134] (by decide +kernel) (by decide +kernel)
set_option maxRecDepth 20000 in
theorem gX9_anHour_X9_wouldPass : GoodIn wsX9_anHour (wsV RX9 369 RX9 yX9_wouldPass wsX9_wouldPass) := goodIn_app (goodIn_of _ (by decide +kernel)) ggX9_anHour_X9_wouldPass
set_option maxRecDepth 20000 in
theorem ggX9_anHour_X9_joyOf : GoodIn wsX9_anHour wsX9_joyOf := goodIn_r _ [71, 12, 58, 72, 73, 74, 75, 76, 77, 78, 79, 80, 81, 82, 83, 84, 85, 86, 87, 88, 89, 90, 91, 92, 93, 94, 95, 96, 97, 98, 99, 100, 101, 102, 103, 104, 105, 106, 107, 108, 109, 110, 111, 112, 113, 114, 115, 116, 117, 118, 119, 120, 121, 122, 123, 124, 125, 126, 127, 128, 129, 130, 131, 132, 133, 134] (by decide +kernel) (by decide +kernel)
set_option maxRecDepth 20000 in
theorem gX9_anHour_X9_joyOf : GoodIn wsX9_anHour (wsV RX9 372 RX9 yX9_joyOf wsX9_joyOf) := goodIn_app (goodIn_of _ (by decide +kernel)) ggX9_anHour_X9_joyOf
theorem dX9_anHour_0 : decode cX9_anHour 0 = .ok (.aload_n 0, 1) := by decide +kernel
theorem dX9_anHour_1 : decode cX9_anHour 1 = .ok (.aload_n 0, 1) := by decide +kernel
theorem dX9_anHour_2 : decode cX9_anHour 2 = .ok (.invokevirtual 357, 3) := by decide +kernel
theorem dX9_anHour_5 : decode cX9_anHour 5 = .ok (.putfield 360, 3) := by decide +kernel
theorem dX9_anHour_8 : decode cX9_anHour 8 = .ok (.aload_n 0, 1) := by decide +kernel
theorem dX9_anHour_9 : decode cX9_anHour 9 = .ok (.aload_n 0, 1) := by decide +kernel
theorem dX9_anHour_10 : decode cX9_anHour 10 = .ok (.getfield 360, 3) := by decide +kernel
theorem dX9_anHour_13 : decode cX9_anHour 13 = .ok (.iconst (-1), 1) := by decide +kernel
theorem dX9_anHour_14 : decode cX9_anHour 14 = .ok (.if_icmp .eq 14, 3) := by decide +kernel
theorem dX9_anHour_17 : decode cX9_anHour 17 = .ok (.aload_n 0, 1) := by decide +kernel
theorem dX9_anHour_18 : decode cX9_anHour 18 = .ok (.getfield 145, 3) := by decide +kernel
theorem dX9_anHour_21 : decode cX9_anHour 21 = .ok (.ifCond .ne 7, 3) := by decide +kernel
theorem dX9_anHour_24 : decode cX9_anHour 24 = .ok (.iconst 1, 1) := by decide +kernel
theorem dX9_anHour_25 : decode cX9_anHour 25 = .ok (.goto 4, 3) := by decide +kernel
theorem dX9_anHour_28 : decode cX9_anHour 28 = .ok (.iconst 0, 1) := by decide +kernel
theorem dX9_anHour_29 : decode cX9_anHour 29 = .ok (.putfield 363, 3) := by decide +kernel
theorem dX9_anHour_32 : decode cX9_anHour 32 = .ok (.aload_n 0, 1) := by decide +kernel
theorem dX9_anHour_33 : decode cX9_anHour 33 = .ok (.getfield 360, 3) := by decide +kernel
theorem dX9_anHour_36 : decode cX9_anHour 36 = .ok (.iconst (-1), 1) := by decide +kernel
theorem dX9_anHour_37 : decode cX9_anHour 37 = .ok (.if_icmp .eq 17, 3) := by decide +kernel
theorem dX9_anHour_40 : decode cX9_anHour 40 = .ok (.aload_n 0, 1) := by decide +kernel
theorem dX9_anHour_41 : decode cX9_anHour 41 = .ok (.iconst 0, 1) := by decide +kernel
theorem dX9_anHour_42 : decode cX9_anHour 42 = .ok (.aload_n 0, 1) := by decide +kernel
theorem dX9_anHour_43 : decode cX9_anHour 43 = .ok (.getfield 145, 3) := by decide +kernel
theorem dX9_anHour_46 : decode cX9_anHour 46 = .ok (.iconst 1, 1) := by decide +kernel
theorem dX9_anHour_47 : decode cX9_anHour 47 = .ok (.isub, 1) := by decide +kernel
theorem dX9_anHour_48 : decode cX9_anHour 48 = .ok (.invokestatic 338, 3) := by decide +kernel
theorem dX9_anHour_51 : decode cX9_anHour 51 = .ok (.putfield 145, 3) := by decide +kernel
theorem dX9_anHour_54 : decode cX9_anHour 54 = .ok (.iconst 0, 1) := by decide +kernel
theorem dX9_anHour_55 : decode cX9_anHour 55 = .ok (.istore_n 1, 1) := by decide +kernel
theorem dX9_anHour_56 : decode cX9_anHour 56 = .ok (.iload_n 1, 1) := by decide +kernel
theorem dX9_anHour_57 : decode cX9_anHour 57 = .ok (.aload_n 0, 1) := by decide +kernel
theorem dX9_anHour_58 : decode cX9_anHour 58 = .ok (.getfield 50, 3) := by decide +kernel
theorem dX9_anHour_61 : decode cX9_anHour 61 = .ok (.iconst 4, 1) := by decide +kernel
theorem dX9_anHour_62 : decode cX9_anHour 62 = .ok (.iaload, 1) := by decide +kernel
theorem dX9_anHour_63 : decode cX9_anHour 63 = .ok (.if_icmp .ge 132, 3) := by decide +kernel
theorem dX9_anHour_66 : decode cX9_anHour 66 = .ok (.aload_n 0, 1) := by decide +kernel
theorem dX9_anHour_67 : decode cX9_anHour 67 = .ok (.getfield 360, 3) := by decide +kernel
theorem dX9_anHour_70 : decode cX9_anHour 70 = .ok (.iconst (-1), 1) := by decide +kernel
theorem dX9_anHour_71 : decode cX9_anHour 71 = .ok (.if_icmp .eq 124, 3) := by decide +kernel
theorem dX9_anHour_74 : decode cX9_anHour 74 = .ok (.iload_n 1, 1) := by decide +kernel
theorem dX9_anHour_75 : decode cX9_anHour 75 = .ok (.aload_n 0, 1) := by decide +kernel
theorem dX9_anHour_76 : decode cX9_anHour 76 = .ok (.getfield 103, 3) := by decide +kernel
theorem dX9_anHour_79 : decode cX9_anHour 79 = .ok (.if_icmp .eq 110, 3) := by decide +kernel
theorem dX9_anHour_82 : decode cX9_anHour 82 = .ok (.aload_n 0, 1) := by decide +kernel
theorem dX9_anHour_83 : decode cX9_anHour 83 = .ok (.getfield 91, 3) := by decide +kernel
theorem dX9_anHour_86 : decode cX9_anHour 86 = .ok (.iload_n 1, 1) := by decide +kernel
theorem dX9_anHour_87 : decode cX9_anHour 87 = .ok (.iaload, 1) := by decide +kernel
theorem dX9_anHour_88 : decode cX9_anHour 88 = .ok (.aload_n 0, 1) := by decide +kernel
theorem dX9_anHour_89 : decode cX9_anHour 89 = .ok (.getfield 360, 3) := by decide +kernel
theorem dX9_anHour_92 : decode cX9_anHour 92 = .ok (.if_icmp .ne 97, 3) := by decide +kernel
theorem dX9_anHour_95 : decode cX9_anHour 95 = .ok (.aload_n 0, 1) := by decide +kernel
theorem dX9_anHour_96 : decode cX9_anHour 96 = .ok (.iload_n 1, 1) := by decide +kernel
theorem dX9_anHour_97 : decode cX9_anHour 97 = .ok (.invokevirtual 366, 3) := by decide +kernel
theorem dX9_anHour_100 : decode cX9_anHour 100 = .ok (.ifCond .eq 89, 3) := by decide +kernel
theorem dX9_anHour_103 : decode cX9_anHour 103 = .ok (.aload_n 0, 1) := by decide +kernel
theorem dX9_anHour_104 : decode cX9_anHour 104 = .ok (.iload_n 1, 1) := by decide +kernel
theorem dX9_anHour_105 : decode cX9_anHour 105 = .ok (.aload_n 0, 1) := by decide +kernel
theorem dX9_anHour_106 : decode cX9_anHour 106 = .ok (.getfield 360, 3) := by decide +kernel
theorem dX9_anHour_109 : decode cX9_anHour 109 = .ok (.invokevirtual 369, 3) := by decide +kernel
theorem dX9_anHour_112 : decode cX9_anHour 112 = .ok (.ifCond .ne 6, 3) := by decide +kernel
theorem dX9_anHour_115 : decode cX9_anHour 115 = .ok (.goto 74, 3) := by decide +kernel
theorem dX9_anHour_118 : decode cX9_anHour 118 = .ok (.aload_n 0, 1) := by decide +kernel
theorem dX9_anHour_119 : decode cX9_anHour 119 = .ok (.dup, 1) := by decide +kernel
theorem dX9_anHour_120 : decode cX9_anHour 120 = .ok (.getfield 319, 3) := by decide +kernel
theorem dX9_anHour_123 : decode cX9_anHour 123 = .ok (.iconst 1, 1) := by decide +kernel
theorem dX9_anHour_124 : decode cX9_anHour 124 = .ok (.iload_n 1, 1) := by decide +kernel
theorem dX9_anHour_125 : decode cX9_anHour 125 = .ok (.ishl, 1) := by decide +kernel
theorem dX9_anHour_126 : decode cX9_anHour 126 = .ok (.ior, 1) := by decide +kernel
theorem dX9_anHour_127 : decode cX9_anHour 127 = .ok (.putfield 319, 3) := by decide +kernel
theorem dX9_anHour_130 : decode cX9_anHour 130 = .ok (.aload_n 0, 1) := by decide +kernel
theorem dX9_anHour_131 : decode cX9_anHour 131 = .ok (.aload_n 0, 1) := by decide +kernel
theorem dX9_anHour_132 : decode cX9_anHour 132 = .ok (.getfield 60, 3) := by decide +kernel
theorem dX9_anHour_135 : decode cX9_anHour 135 = .ok (.iload_n 1, 1) := by decide +kernel
theorem dX9_anHour_136 : decode cX9_anHour 136 = .ok (.iaload, 1) := by decide +kernel
theorem dX9_anHour_137 : decode cX9_anHour 137 = .ok (.iconst 2, 1) := by decide +kernel
theorem dX9_anHour_138 : decode cX9_anHour 138 = .ok (.if_icmp .ne 23, 3) := by decide +kernel
theorem dX9_anHour_141 : decode cX9_anHour 141 = .ok (.sipush 9999, 3) := by decide +kernel
theorem dX9_anHour_144 : decode cX9_anHour 144 = .ok (.aload_n 0, 1) := by decide +kernel
theorem dX9_anHour_145 : decode cX9_anHour 145 = .ok (.getfield 149, 3) := by decide +kernel
theorem dX9_anHour_148 : decode cX9_anHour 148 = .ok (.aload_n 0, 1) := by decide +kernel
theorem dX9_anHour_149 : decode cX9_anHour 149 = .ok (.getfield 65, 3) := by decide +kernel
theorem dX9_anHour_152 : decode cX9_anHour 152 = .ok (.iload_n 1, 1) := by decide +kernel
theorem dX9_anHour_153 : decode cX9_anHour 153 = .ok (.iaload, 1) := by decide +kernel
theorem dX9_anHour_154 : decode cX9_anHour 154 = .ok (.iadd, 1) := by decide +kernel
theorem dX9_anHour_155 : decode cX9_anHour 155 = .ok (.invokestatic 189, 3) := by decide +kernel
theorem dX9_anHour_158 : decode cX9_anHour 158 = .ok (.goto 14, 3) := by decide +kernel
theorem dX9_anHour_161 : decode cX9_anHour 161 = .ok (.aload_n 0, 1) := by decide +kernel
theorem dX9_anHour_162 : decode cX9_anHour 162 = .ok (.getfield 149, 3) := by decide +kernel
theorem dX9_anHour_165 : decode cX9_anHour 165 = .ok (.aload_n 0, 1) := by decide +kernel
theorem dX9_anHour_166 : decode cX9_anHour 166 = .ok (.getfield 65, 3) := by decide +kernel
theorem dX9_anHour_169 : decode cX9_anHour 169 = .ok (.iload_n 1, 1) := by decide +kernel
theorem dX9_anHour_170 : decode cX9_anHour 170 = .ok (.iaload, 1) := by decide +kernel
theorem dX9_anHour_171 : decode cX9_anHour 171 = .ok (.isub, 1) := by decide +kernel
theorem dX9_anHour_172 : decode cX9_anHour 172 = .ok (.putfield 149, 3) := by decide +kernel
theorem dX9_anHour_175 : decode cX9_anHour 175 = .ok (.aload_n 0, 1) := by decide +kernel
theorem dX9_anHour_176 : decode cX9_anHour 176 = .ok (.dup, 1) := by decide +kernel
theorem dX9_anHour_177 : decode cX9_anHour 177 = .ok (.getfield 317, 3) := by decide +kernel
theorem dX9_anHour_180 : decode cX9_anHour 180 = .ok (.aload_n 0, 1) := by decide +kernel
theorem dX9_anHour_181 : decode cX9_anHour 181 = .ok (.iload_n 1, 1) := by decide +kernel
theorem dX9_anHour_182 : decode cX9_anHour 182 = .ok (.invokevirtual 372, 3) := by decide +kernel
theorem dX9_anHour_185 : decode cX9_anHour 185 = .ok (.iadd, 1) := by decide +kernel
theorem dX9_anHour_186 : decode cX9_anHour 186 = .ok (.putfield 317, 3) := by decide +kernel
theorem dX9_anHour_189 : decode cX9_anHour 189 = .ok (.iinc 1 1, 3) := by decide +kernel
theorem dX9_anHour_192 : decode cX9_anHour 192 = .ok (.goto (-136), 3) := by decide +kernel
theorem dX9_anHour_195 : decode cX9_anHour 195 = .ok (.aload_n 0, 1) := by decide +kernel
theorem dX9_anHour_196 : decode cX9_anHour 196 = .ok (.iconst 0, 1) := by decide +kernel
theorem dX9_anHour_197 : decode cX9_anHour 197 = .ok (.aload_n 0, 1) := by decide +kernel
theorem dX9_anHour_198 : decode cX9_anHour 198 = .ok (.getfield 147, 3) := by decide +kernel
theorem dX9_anHour_201 : decode cX9_anHour 201 = .ok (.iconst 1, 1) := by decide +kernel
theorem dX9_anHour_202 : decode cX9_anHour 202 = .ok (.isub, 1) := by decide +kernel
theorem dX9_anHour_203 : decode cX9_anHour 203 = .ok (.invokestatic 338, 3) := by decide +kernel
theorem dX9_anHour_206 : decode cX9_anHour 206 = .ok (.putfield 147, 3) := by decide +kernel
theorem dX9_anHour_209 : decode cX9_anHour 209 = .ok (.aload_n 0, 1) := by decide +kernel
theorem dX9_anHour_210 : decode cX9_anHour 210 = .ok (.iconst 0, 1) := by decide +kernel
theorem dX9_anHour_211 : decode cX9_anHour 211 = .ok (.aload_n 0, 1) := by decide +kernel
theorem dX9_anHour_212 : decode cX9_anHour 212 = .ok (.getfield 314, 3) := by decide +kernel
theorem dX9_anHour_215 : decode cX9_anHour 215 = .ok (.iconst 1, 1) := by decide +kernel
theorem dX9_anHour_216 : decode cX9_anHour 216 = .ok (.isub, 1) := by decide +kernel
theorem dX9_anHour_217 : decode cX9_anHour 217 = .ok (.invokestatic 338, 3) := by decide +kernel
theorem dX9_anHour_220 : decode cX9_anHour 220 = .ok (.putfield 314, 3) := by decide +kernel
theorem dX9_anHour_223 : decode cX9_anHour 223 = .ok (.aload_n 0, 1) := by decide +kernel
theorem dX9_anHour_224 : decode cX9_anHour 224 = .ok (.dup, 1) := by decide +kernel
theorem dX9_anHour_225 : decode cX9_anHour 225 = .ok (.getfield 312, 3) := by decide +kernel
theorem dX9_anHour_228 : decode cX9_anHour 228 = .ok (.iconst 1, 1) := by decide +kernel
theorem dX9_anHour_229 : decode cX9_anHour 229 = .ok (.iadd, 1) := by decide +kernel
theorem dX9_anHour_230 : decode cX9_anHour 230 = .ok (.putfield 312, 3) := by decide +kernel
theorem dX9_anHour_233 : decode cX9_anHour 233 = .ok (.return_, 1) := by decide +kernel
set_option maxRecDepth 20000 in
theorem ggX9_goOn_X9_anHour : GoodIn wsX9_goOn wsX9_anHour := goodIn_r _ [5, 6, 7, 8, 9, 10, 11, 12, 13, 14, 15, 16, 17, 18, 19, 20, 21, 22, 23, 24, 25, 26, 27, 28, 29, 4, 30, 31, 32, 33, 34, 35, 36, 37, 38, 39, 40, 41, 42, 43, 44, 45, 46, 47, 48, 49, 50, 51, 52, 53, 54, 55, 56, 57, 58, 59, 60, 61, 62, 63, 64, 65, 66, 67, 68, 69, 70, 71, 72, 73, 74, 75, 76, 77, 78, 79, 80, 81, 82, 83, 84, 85, 86, 87, 88, 89, 90, 91, 92, 93, 94, 95, 96, 97, 98, 99, 100, 101, 102, 103, 104, 105, 106, 107, 108, 109, 110, 111, 112, 113, 114, 115, 116, 117, 118, 119, 120, 121, 122, 123, 124, 125, 126, 127, 128, 129, 130, 131, 132, 133, 134, 135, 136, 137, 138] (by decide +kernel) (by decide +kernel)
set_option maxRecDepth 20000 in
theorem gX9_goOn_X9_anHour : GoodIn wsX9_goOn (wsV RX9 375 RX9 yX9_anHour wsX9_anHour) := goodIn_app (goodIn_of _ (by decide +kernel)) ggX9_goOn_X9_anHour
theorem dX9_goOn_0 : decode cX9_goOn 0 = .ok (.iconst 0, 1) := by decide +kernel
theorem dX9_goOn_1 : decode cX9_goOn 1 = .ok (.istore_n 2, 1) := by decide +kernel
theorem dX9_goOn_2 : decode cX9_goOn 2 = .ok (.iload_n 2, 1) := by decide +kernel
theorem dX9_goOn_3 : decode cX9_goOn 3 = .ok (.iload_n 1, 1) := by decide +kernel
theorem dX9_goOn_4 : decode cX9_goOn 4 = .ok (.if_icmp .ge 13, 3) := by decide +kernel
theorem dX9_goOn_7 : decode cX9_goOn 7 = .ok (.aload_n 0, 1) := by decide +kernel
theorem dX9_goOn_8 : decode cX9_goOn 8 = .ok (.invokevirtual 375, 3) := by decide +kernel
theorem dX9_goOn_11 : decode cX9_goOn 11 = .ok (.iinc 2 1, 3) := by decide +kernel
theorem dX9_goOn_14 : decode cX9_goOn 14 = .ok (.goto (-12), 3) := by decide +kernel
theorem dX9_goOn_17 : decode cX9_goOn 17 = .ok (.return_, 1) := by decide +kernel
set_option maxRecDepth 20000 in
theorem ggX9_blocked_X9_isOf : GoodIn wsX9_blocked wsX9_isOf := goodIn_r _ [6] (by decide +kernel) (by decide +kernel)
set_option maxRecDepth 20000 in
theorem gX9_blocked_X9_isOf : GoodIn wsX9_blocked (va_wsS RX9 354 yX9_isOf wsX9_isOf) := goodIn_app (goodIn_of _ (by decide +kernel)) ggX9_blocked_X9_isOf
set_option maxRecDepth 20000 in
theorem ggX9_blocked_X9_isOpen : GoodIn wsX9_blocked wsX9_isOpen := goodIn_r _ [10, 2, 11, 3, 4, 5, 6, 12, 13, 14, 15, 16, 17, 18, 19, 20, 21, 22, 23, 24, 25, 26, 27, 28, 29, 30, 31, 32, 33, 34, 35, 36, 37, 38, 39, 40, 41, 42, 43, 44, 45, 46, 47, 48, 49, 50, 51, 52, 53, 54, 55, 56, 57, 58, 59, 60, 61, 62, 63, 64, 65, 66, 67, 68, 69, 70, 71, 72, 73, 74] (by decide +kernel) (by decide +kernel)
set_option maxRecDepth 20000 in
theorem gX9_blocked_X9_isOpen : GoodIn wsX9_blocked (wsV RX9 366 RX9 yX9_isOpen wsX9_isOpen) := goodIn_app (goodIn_of _ (by decide +kernel)) ggX9_blocked_X9_isOpen
theorem dX9_blocked_0 : decode cX9_blocked 0 = .ok (.iconst 0, 1) := by decide +kernel
theorem dX9_blocked_1 : decode cX9_blocked 1 = .ok (.istore_n 1, 1) := by decide +kernel
theorem dX9_blocked_2 : decode cX9_blocked 2 = .ok (.iconst 0, 1) := by decide +kernel
theorem dX9_blocked_3 : decode cX9_blocked 3 = .ok (.istore_n 2, 1) := by decide +kernel
theorem dX9_blocked_4 : decode cX9_blocked 4 = .ok (.iload_n 2, 1) := by decide +kernel
theorem dX9_blocked_5 : decode cX9_blocked 5 = .ok (.aload_n 0, 1) := by decide +kernel
theorem dX9_blocked_6 : decode cX9_blocked 6 = .ok (.getfield 50, 3) := by decide +kernel
theorem dX9_blocked_9 : decode cX9_blocked 9 = .ok (.iconst 4, 1) := by decide +kernel
theorem dX9_blocked_10 : decode cX9_blocked 10 = .ok (.iaload, 1) := by decide +kernel
theorem dX9_blocked_11 : decode cX9_blocked 11 = .ok (.if_icmp .ge 38, 3) := by decide +kernel
theorem dX9_blocked_14 : decode cX9_blocked 14 = .ok (.iload_n 1, 1) := by decide +kernel
theorem dX9_blocked_15 : decode cX9_blocked 15 = .ok (.aload_n 0, 1) := by decide +kernel
theorem dX9_blocked_16 : decode cX9_blocked 16 = .ok (.getfield 319, 3) := by decide +kernel
theorem dX9_blocked_19 : decode cX9_blocked 19 = .ok (.iload_n 2, 1) := by decide +kernel
theorem dX9_blocked_20 : decode cX9_blocked 20 = .ok (.invokestatic 354, 3) := by decide +kernel
theorem dX9_blocked_23 : decode cX9_blocked 23 = .ok (.ifCond .ne 17, 3) := by decide +kernel
theorem dX9_blocked_26 : decode cX9_blocked 26 = .ok (.aload_n 0, 1) := by decide +kernel
theorem dX9_blocked_27 : decode cX9_blocked 27 = .ok (.iload_n 2, 1) := by decide +kernel
theorem dX9_blocked_28 : decode cX9_blocked 28 = .ok (.invokevirtual 366, 3) := by decide +kernel
theorem dX9_blocked_31 : decode cX9_blocked 31 = .ok (.ifCond .ne 9, 3) := by decide +kernel
theorem dX9_blocked_34 : decode cX9_blocked 34 = .ok (.iconst 1, 1) := by decide +kernel
theorem dX9_blocked_35 : decode cX9_blocked 35 = .ok (.iload_n 2, 1) := by decide +kernel
theorem dX9_blocked_36 : decode cX9_blocked 36 = .ok (.ishl, 1) := by decide +kernel
theorem dX9_blocked_37 : decode cX9_blocked 37 = .ok (.goto 4, 3) := by decide +kernel
theorem dX9_blocked_40 : decode cX9_blocked 40 = .ok (.iconst 0, 1) := by decide +kernel
theorem dX9_blocked_41 : decode cX9_blocked 41 = .ok (.ior, 1) := by decide +kernel
theorem dX9_blocked_42 : decode cX9_blocked 42 = .ok (.istore_n 1, 1) := by decide +kernel
theorem dX9_blocked_43 : decode cX9_blocked 43 = .ok (.iinc 2 1, 3) := by decide +kernel
theorem dX9_blocked_46 : decode cX9_blocked 46 = .ok (.goto (-42), 3) := by decide +kernel
theorem dX9_blocked_49 : decode cX9_blocked 49 = .ok (.iload_n 1, 1) := by decide +kernel
theorem dX9_blocked_50 : decode cX9_blocked 50 = .ok (.ireturn, 1) := by decide +kernel
set_option maxRecDepth 20000 in
theorem ggX9_count_X9_blocked : GoodIn wsX9_count wsX9_blocked := goodIn_r _ [18, 2, 9, 19, 20, 17, 21, 22, 23, 24, 25, 26, 31, 32, 33, 34, 35, 36, 37, 38, 39, 40, 41, 42, 43, 44, 45, 46, 47, 48, 49, 50, 51, 52, 53, 54, 55, 56, 57, 58, 59, 60, 61, 62, 63, 64, 65, 66, 67, 68, 69, 70, 71, 72, 73, 74, 75, 76, 77, 78, 79, 80, 81, 82, 83, 84, 85, 86, 87, 88, 89, 90, 91, 92, 93] (by decide +kernel) (by decide +kernel)
set_option maxRecDepth 20000 in
theorem gX9_count_X9_blocked : GoodIn wsX9_count (wsV RX9 378 RX9 yX9_blocked wsX9_blocked) := goodIn_app (goodIn_of _ (by decide +kernel)) ggX9_count_X9_blocked
set_option maxRecDepth 20000 in
theorem ggX9_count_X9_fail : GoodIn wsX9_count wsX9_fail := goodIn_r _ [30, 1, 31, 32, 33, 34, 35, 36, 37, 38, 39, 40, 41, 42, 43, 44, 45, 46, 47, 48, 49, 50, 51, 52, 53, 54, 55, 56, 57, 58, 59, 60, 61, 62, 63, 64, 65, 66, 67, 68, 69, 70, 71, 72, 73, 74, 75, 76, 77, 78, 79, 80, 81, 82, 83, 84, 85, 86, 87, 88, 89, 90, 91, 92, 93] (by decide +kernel) (by decide +kernel)
set_option maxRecDepth 20000 in
theorem gX9_count_X9_fail : GoodIn wsX9_count (wsV RX9 299 RX9 yX9_fail wsX9_fail) := goodIn_app (goodIn_of _ (by decide +kernel)) ggX9_count_X9_fail
theorem dX9_count_0 : decode cX9_count 0 = .ok (.aload_n 0, 1) := by decide +kernel
theorem dX9_count_1 : decode cX9_count 1 = .ok (.iconst 0, 1) := by decide +kernel
theorem dX9_count_2 : decode cX9_count 2 = .ok (.putfield 152, 3) := by decide +kernel
theorem dX9_count_5 : decode cX9_count 5 = .ok (.iload_n 1, 1) := by decide +kernel
theorem dX9_count_6 : decode cX9_count 6 = .ok (.tableswitch 152 0 15 #[78, 78, 87, 92, 97, 102, 107, 112, 117, 122, 127, 132, 137, 142, 142, 142], 78) := by decide +kernel
theorem dX9_count_84 : decode cX9_count 84 = .ok (.aload_n 0, 1) := by decide +kernel
theorem dX9_count_85 : decode cX9_count 85 = .ok (.getfield 50, 3) := by decide +kernel
theorem dX9_count_88 : decode cX9_count 88 = .ok (.iconst 3, 1) := by decide +kernel
theorem dX9_count_89 : decode cX9_count 89 = .ok (.iload_n 1, 1) := by decide +kernel
theorem dX9_count_90 : decode cX9_count 90 = .ok (.iadd, 1) := by decide +kernel
theorem dX9_count_91 : decode cX9_count 91 = .ok (.iaload, 1) := by decide +kernel
theorem dX9_count_92 : decode cX9_count 92 = .ok (.ireturn, 1) := by decide +kernel
theorem dX9_count_93 : decode cX9_count 93 = .ok (.aload_n 0, 1) := by decide +kernel
theorem dX9_count_94 : decode cX9_count 94 = .ok (.getfield 312, 3) := by decide +kernel
theorem dX9_count_97 : decode cX9_count 97 = .ok (.ireturn, 1) := by decide +kernel
theorem dX9_count_98 : decode cX9_count 98 = .ok (.aload_n 0, 1) := by decide +kernel
theorem dX9_count_99 : decode cX9_count 99 = .ok (.getfield 145, 3) := by decide +kernel
theorem dX9_count_102 : decode cX9_count 102 = .ok (.ireturn, 1) := by decide +kernel
theorem dX9_count_103 : decode cX9_count 103 = .ok (.aload_n 0, 1) := by decide +kernel
theorem dX9_count_104 : decode cX9_count 104 = .ok (.getfield 147, 3) := by decide +kernel
theorem dX9_count_107 : decode cX9_count 107 = .ok (.ireturn, 1) := by decide +kernel
theorem dX9_count_108 : decode cX9_count 108 = .ok (.aload_n 0, 1) := by decide +kernel
theorem dX9_count_109 : decode cX9_count 109 = .ok (.getfield 314, 3) := by decide +kernel
theorem dX9_count_112 : decode cX9_count 112 = .ok (.ireturn, 1) := by decide +kernel
theorem dX9_count_113 : decode cX9_count 113 = .ok (.aload_n 0, 1) := by decide +kernel
theorem dX9_count_114 : decode cX9_count 114 = .ok (.getfield 149, 3) := by decide +kernel
theorem dX9_count_117 : decode cX9_count 117 = .ok (.ireturn, 1) := by decide +kernel
theorem dX9_count_118 : decode cX9_count 118 = .ok (.aload_n 0, 1) := by decide +kernel
theorem dX9_count_119 : decode cX9_count 119 = .ok (.getfield 317, 3) := by decide +kernel
theorem dX9_count_122 : decode cX9_count 122 = .ok (.ireturn, 1) := by decide +kernel
theorem dX9_count_123 : decode cX9_count 123 = .ok (.aload_n 0, 1) := by decide +kernel
theorem dX9_count_124 : decode cX9_count 124 = .ok (.getfield 319, 3) := by decide +kernel
theorem dX9_count_127 : decode cX9_count 127 = .ok (.ireturn, 1) := by decide +kernel
theorem dX9_count_128 : decode cX9_count 128 = .ok (.aload_n 0, 1) := by decide +kernel
theorem dX9_count_129 : decode cX9_count 129 = .ok (.invokevirtual 378, 3) := by decide +kernel
theorem dX9_count_132 : decode cX9_count 132 = .ok (.ireturn, 1) := by decide +kernel
theorem dX9_count_133 : decode cX9_count 133 = .ok (.aload_n 0, 1) := by decide +kernel
theorem dX9_count_134 : decode cX9_count 134 = .ok (.getfield 321, 3) := by decide +kernel
theorem dX9_count_137 : decode cX9_count 137 = .ok (.ireturn, 1) := by decide +kernel
theorem dX9_count_138 : decode cX9_count 138 = .ok (.aload_n 0, 1) := by decide +kernel
theorem dX9_count_139 : decode cX9_count 139 = .ok (.getfield 324, 3) := by decide +kernel
theorem dX9_count_142 : decode cX9_count 142 = .ok (.ireturn, 1) := by decide +kernel
theorem dX9_count_143 : decode cX9_count 143 = .ok (.aload_n 0, 1) := by decide +kernel
theorem dX9_count_144 : decode cX9_count 144 = .ok (.getfield 159, 3) := by decide +kernel
theorem dX9_count_147 : decode cX9_count 147 = .ok (.ireturn, 1) := by decide +kernel
theorem dX9_count_148 : decode cX9_count 148 = .ok (.aload_n 0, 1) := by decide +kernel
theorem dX9_count_149 : decode cX9_count 149 = .ok (.getfield 79, 3) := by decide +kernel
theorem dX9_count_152 : decode cX9_count 152 = .ok (.iload_n 1, 1) := by decide +kernel
theorem dX9_count_153 : decode cX9_count 153 = .ok (.bipush 13, 2) := by decide +kernel
theorem dX9_count_155 : decode cX9_count 155 = .ok (.isub, 1) := by decide +kernel
theorem dX9_count_156 : decode cX9_count 156 = .ok (.iaload, 1) := by decide +kernel
theorem dX9_count_157 : decode cX9_count 157 = .ok (.ireturn, 1) := by decide +kernel
theorem dX9_count_158 : decode cX9_count 158 = .ok (.aload_n 0, 1) := by decide +kernel
theorem dX9_count_159 : decode cX9_count 159 = .ok (.iconst 1, 1) := by decide +kernel
theorem dX9_count_160 : decode cX9_count 160 = .ok (.invokevirtual 299, 3) := by decide +kernel
theorem dX9_count_163 : decode cX9_count 163 = .ok (.ireturn, 1) := by decide +kernel
set_option maxRecDepth 20000 in
theorem ggX9_swayed_X9_isOf : GoodIn wsX9_swayed wsX9_isOf := goodIn_r _ [7] (by decide +kernel) (by decide +kernel)
set_option maxRecDepth 20000 in
theorem gX9_swayed_X9_isOf : GoodIn wsX9_swayed (va_wsS RX9 354 yX9_isOf wsX9_isOf) := goodIn_app (goodIn_of _ (by decide +kernel)) ggX9_swayed_X9_isOf
set_option maxRecDepth 20000 in
theorem ggX9_swayed_X9_thoseFor : GoodIn wsX9_swayed wsX9_thoseFor := goodIn_r _ [11, 1, 12, 13, 14, 15, 6, 16, 17, 18, 19, 20, 21, 22, 23, 24, 25, 2, 26, 27, 28, 29, 30, 31, 32, 33, 34, 35, 36, 37, 42, 43, 44, 45, 46, 47, 48, 49, 50, 51, 52, 53, 54, 55, 56, 57, 58, 59, 60, 61, 62, 63, 64, 65, 66, 67, 68, 69, 70, 71, 72, 73, 74, 75, 76, 77, 78, 79, 80, 81, 82, 83, 84, 85, 86, 87, 88, 89, 90, 91, 92, 93, 94, 95, 96, 97, 98, 99, 100, 101, 102, 103, 104] (by decide +kernel) (by decide +kernel)
set_option maxRecDepth 20000 in
theorem gX9_swayed_X9_thoseFor : GoodIn wsX9_swayed (wsV RX9 348 RX9 yX9_thoseFor wsX9_thoseFor) := goodIn_app (goodIn_of _ (by decide +kernel)) ggX9_swayed_X9_thoseFor
set_option maxRecDepth 20000 in
theorem ggX9_swayed_X9_bitsOf : GoodIn wsX9_swayed wsX9_bitsOf := goodIn_r _ [29] (by decide +kernel) (by decide +kernel)
set_option maxRecDepth 20000 in
theorem gX9_swayed_X9_bitsOf : GoodIn wsX9_swayed (va_wsS RX9 341 yX9_bitsOf wsX9_bitsOf) := goodIn_app (goodIn_of _ (by decide +kernel)) ggX9_swayed_X9_bitsOf
set_option maxRecDepth 20000 in
theorem ggX9_swayed_X9_isMore : GoodIn wsX9_swayed wsX9_isMore := goodIn_r _ [41, 1, 42, 43, 44, 45, 46, 47, 48, 49, 50, 51, 52, 53, 54, 55, 56, 57, 58, 59, 60, 61, 62, 63, 64, 65, 66, 67, 68, 69, 70, 71, 72, 73, 74, 75, 76, 77, 78, 79, 80, 81, 82, 83, 84, 85, 86, 87, 88, 89, 90, 91, 92, 93, 94, 95, 96, 97, 98, 99, 100, 101, 102, 103, 104] (by decide +kernel) (by decide +kernel)
set_option maxRecDepth 20000 in
theorem gX9_swayed_X9_isMore : GoodIn wsX9_swayed (wsV RX9 351 RX9 yX9_isMore wsX9_isMore) := goodIn_app (goodIn_of _ (by decide +kernel)) ggX9_swayed_X9_isMore
theorem dX9_swayed_0 : decode cX9_swayed 0 = .ok (.iconst 0, 1) := by decide +kernel
theorem dX9_swayed_1 : decode cX9_swayed 1 = .ok (.istore_n 2, 1) := by decide +kernel
theorem dX9_swayed_2 : decode cX9_swayed 2 = .ok (.iconst 0, 1) := by decide +kernel
theorem dX9_swayed_3 : decode cX9_swayed 3 = .ok (.istore_n 3, 1) := by decide +kernel
theorem dX9_swayed_4 : decode cX9_swayed 4 = .ok (.iload_n 3, 1) := by decide +kernel
theorem dX9_swayed_5 : decode cX9_swayed 5 = .ok (.aload_n 0, 1) := by decide +kernel
theorem dX9_swayed_6 : decode cX9_swayed 6 = .ok (.getfield 50, 3) := by decide +kernel
theorem dX9_swayed_9 : decode cX9_swayed 9 = .ok (.iconst 4, 1) := by decide +kernel
theorem dX9_swayed_10 : decode cX9_swayed 10 = .ok (.iaload, 1) := by decide +kernel
theorem dX9_swayed_11 : decode cX9_swayed 11 = .ok (.if_icmp .ge 71, 3) := by decide +kernel
theorem dX9_swayed_14 : decode cX9_swayed 14 = .ok (.aload_n 0, 1) := by decide +kernel
theorem dX9_swayed_15 : decode cX9_swayed 15 = .ok (.getfield 319, 3) := by decide +kernel
theorem dX9_swayed_18 : decode cX9_swayed 18 = .ok (.iload_n 3, 1) := by decide +kernel
theorem dX9_swayed_19 : decode cX9_swayed 19 = .ok (.invokestatic 354, 3) := by decide +kernel
theorem dX9_swayed_22 : decode cX9_swayed 22 = .ok (.ifCond .eq 6, 3) := by decide +kernel
theorem dX9_swayed_25 : decode cX9_swayed 25 = .ok (.goto 51, 3) := by decide +kernel
theorem dX9_swayed_28 : decode cX9_swayed 28 = .ok (.aload_n 0, 1) := by decide +kernel
theorem dX9_swayed_29 : decode cX9_swayed 29 = .ok (.iload_n 3, 1) := by decide +kernel
theorem dX9_swayed_30 : decode cX9_swayed 30 = .ok (.aload_n 0, 1) := by decide +kernel
theorem dX9_swayed_31 : decode cX9_swayed 31 = .ok (.getfield 91, 3) := by decide +kernel
theorem dX9_swayed_34 : decode cX9_swayed 34 = .ok (.iload_n 3, 1) := by decide +kernel
theorem dX9_swayed_35 : decode cX9_swayed 35 = .ok (.iaload, 1) := by decide +kernel
theorem dX9_swayed_36 : decode cX9_swayed 36 = .ok (.invokevirtual 348, 3) := by decide +kernel
theorem dX9_swayed_39 : decode cX9_swayed 39 = .ok (.istore 4, 2) := by decide +kernel
theorem dX9_swayed_41 : decode cX9_swayed 41 = .ok (.iload_n 2, 1) := by decide +kernel
theorem dX9_swayed_42 : decode cX9_swayed 42 = .ok (.aload_n 0, 1) := by decide +kernel
theorem dX9_swayed_43 : decode cX9_swayed 43 = .ok (.iload 4, 2) := by decide +kernel
theorem dX9_swayed_45 : decode cX9_swayed 45 = .ok (.invokestatic 341, 3) := by decide +kernel
theorem dX9_swayed_48 : decode cX9_swayed 48 = .ok (.invokevirtual 351, 3) := by decide +kernel
theorem dX9_swayed_51 : decode cX9_swayed 51 = .ok (.aload_n 0, 1) := by decide +kernel
theorem dX9_swayed_52 : decode cX9_swayed 52 = .ok (.iload 4, 2) := by decide +kernel
theorem dX9_swayed_54 : decode cX9_swayed 54 = .ok (.iconst 1, 1) := by decide +kernel
theorem dX9_swayed_55 : decode cX9_swayed 55 = .ok (.iload_n 1, 1) := by decide +kernel
theorem dX9_swayed_56 : decode cX9_swayed 56 = .ok (.ishl, 1) := by decide +kernel
theorem dX9_swayed_57 : decode cX9_swayed 57 = .ok (.ixor, 1) := by decide +kernel
theorem dX9_swayed_58 : decode cX9_swayed 58 = .ok (.invokestatic 341, 3) := by decide +kernel
theorem dX9_swayed_61 : decode cX9_swayed 61 = .ok (.invokevirtual 351, 3) := by decide +kernel
theorem dX9_swayed_64 : decode cX9_swayed 64 = .ok (.if_icmp .eq 9, 3) := by decide +kernel
theorem dX9_swayed_67 : decode cX9_swayed 67 = .ok (.iconst 1, 1) := by decide +kernel
theorem dX9_swayed_68 : decode cX9_swayed 68 = .ok (.iload_n 3, 1) := by decide +kernel
theorem dX9_swayed_69 : decode cX9_swayed 69 = .ok (.ishl, 1) := by decide +kernel
theorem dX9_swayed_70 : decode cX9_swayed 70 = .ok (.goto 4, 3) := by decide +kernel
theorem dX9_swayed_73 : decode cX9_swayed 73 = .ok (.iconst 0, 1) := by decide +kernel
theorem dX9_swayed_74 : decode cX9_swayed 74 = .ok (.ior, 1) := by decide +kernel
theorem dX9_swayed_75 : decode cX9_swayed 75 = .ok (.istore_n 2, 1) := by decide +kernel
theorem dX9_swayed_76 : decode cX9_swayed 76 = .ok (.iinc 3 1, 3) := by decide +kernel
theorem dX9_swayed_79 : decode cX9_swayed 79 = .ok (.goto (-75), 3) := by decide +kernel
theorem dX9_swayed_82 : decode cX9_swayed 82 = .ok (.iload_n 2, 1) := by decide +kernel
theorem dX9_swayed_83 : decode cX9_swayed 83 = .ok (.ireturn, 1) := by decide +kernel
set_option maxRecDepth 20000 in
theorem ggX9_alderman_X9_isAlderman : GoodIn wsX9_alderman wsX9_isAlderman := goodIn_r _ [9, 10, 11, 12, 8, 13, 59, 60, 61, 62, 63, 64, 65, 66, 67, 68, 69, 70, 71, 72, 73, 74, 75, 76, 77, 78, 79, 80, 81, 82, 83, 84, 85, 86, 87, 88, 89, 90, 91, 92, 93, 94, 95, 96, 97, 98, 99, 100, 101, 102, 103, 104, 105, 106, 107, 108, 109, 110, 111, 112, 113, 114, 115, 116, 117, 118, 119, 120, 121] (by decide +kernel) (by decide +kernel)
set_option maxRecDepth 20000 in
theorem gX9_alderman_X9_isAlderman : GoodIn wsX9_alderman (wsV RX9 381 RX9 yX9_isAlderman wsX9_isAlderman) := goodIn_app (goodIn_of _ (by decide +kernel)) ggX9_alderman_X9_isAlderman
set_option maxRecDepth 20000 in
theorem ggX9_alderman_X9_isIn : GoodIn wsX9_alderman wsX9_isIn := goodIn_r _ [13] (by decide +kernel) (by decide +kernel)
set_option maxRecDepth 20000 in
theorem gX9_alderman_X9_isIn : GoodIn wsX9_alderman (va_wsS RX9 155 yX9_isIn wsX9_isIn) := goodIn_app (goodIn_of _ (by decide +kernel)) ggX9_alderman_X9_isIn
set_option maxRecDepth 20000 in
theorem ggX9_alderman_X9_fail : GoodIn wsX9_alderman wsX9_fail := goodIn_r _ [17, 1, 59, 60, 61, 62, 63, 64, 65, 66, 67, 68, 69, 70, 71, 72, 73, 74, 75, 76, 77, 78, 79, 80, 81, 82, 83, 84, 85, 86, 87, 88, 89, 90, 91, 92, 93, 94, 95, 96, 97, 98, 99, 100, 101, 102, 103, 104, 105, 106, 107, 108, 109, 110, 111, 112, 113, 114, 115, 116, 117, 118, 119, 120, 121] (by decide +kernel) (by decide +kernel)
set_option maxRecDepth 20000 in
theorem gX9_alderman_X9_fail : GoodIn wsX9_alderman (wsV RX9 299 RX9 yX9_fail wsX9_fail) := goodIn_app (goodIn_of _ (by decide +kernel)) ggX9_alderman_X9_fail
set_option maxRecDepth 20000 in
theorem ggX9_alderman_X9_swayed : GoodIn wsX9_alderman wsX9_swayed := goodIn_r _ [21, 10, 22, 23, 24, 25, 8, 26, 27, 28, 29, 30, 3, 31, 32, 33, 34, 35, 36, 4, 37, 38, 39, 40, 41, 42, 43, 44, 45, 46, 47, 48, 49, 50, 51, 52, 53, 54, 55, 56, 57, 58, 59, 60, 61, 62, 63, 64, 65, 66, 67, 68, 69, 70, 71, 72, 73, 74, 75, 76, 77, 78, 79, 80, 81, 82, 83, 84, 85, 86, 87, 88, 89, 90, 91, 92, 93, 94, 95, 96, 97, 98, 99, 100, 101, 102, 103, 104, 105, 106, 107, 108, 109, 110, 111, 112, 113, 114, 115, 116, 117, 118, 119, 120, 121] (by decide +kernel) (by decide +kernel)
set_option maxRecDepth 20000 in
theorem gX9_alderman_X9_swayed : GoodIn wsX9_alderman (wsV RX9 386 RX9 yX9_swayed wsX9_swayed) := goodIn_app (goodIn_of _ (by decide +kernel)) ggX9_alderman_X9_swayed
theorem dX9_alderman_0 : decode cX9_alderman 0 = .ok (.aload_n 0, 1) := by decide +kernel
theorem dX9_alderman_1 : decode cX9_alderman 1 = .ok (.iconst 0, 1) := by decide +kernel
theorem dX9_alderman_2 : decode cX9_alderman 2 = .ok (.putfield 152, 3) := by decide +kernel
theorem dX9_alderman_5 : decode cX9_alderman 5 = .ok (.aload_n 0, 1) := by decide +kernel
theorem dX9_alderman_6 : decode cX9_alderman 6 = .ok (.iload_n 1, 1) := by decide +kernel
theorem dX9_alderman_7 : decode cX9_alderman 7 = .ok (.invokevirtual 381, 3) := by decide +kernel
theorem dX9_alderman_10 : decode cX9_alderman 10 = .ok (.ifCond .eq 15, 3) := by decide +kernel
theorem dX9_alderman_13 : decode cX9_alderman 13 = .ok (.iload_n 2, 1) := by decide +kernel
theorem dX9_alderman_14 : decode cX9_alderman 14 = .ok (.i2l, 1) := by decide +kernel
theorem dX9_alderman_15 : decode cX9_alderman 15 = .ok (.lconst 0, 1) := by decide +kernel
theorem dX9_alderman_16 : decode cX9_alderman 16 = .ok (.ldc2_w 384, 3) := by decide +kernel
theorem dX9_alderman_19 : decode cX9_alderman 19 = .ok (.invokestatic 155, 3) := by decide +kernel
theorem dX9_alderman_22 : decode cX9_alderman 22 = .ok (.ifCond .ne 9, 3) := by decide +kernel
theorem dX9_alderman_25 : decode cX9_alderman 25 = .ok (.aload_n 0, 1) := by decide +kernel
theorem dX9_alderman_26 : decode cX9_alderman 26 = .ok (.iconst 1, 1) := by decide +kernel
theorem dX9_alderman_27 : decode cX9_alderman 27 = .ok (.invokevirtual 299, 3) := by decide +kernel
theorem dX9_alderman_30 : decode cX9_alderman 30 = .ok (.ireturn, 1) := by decide +kernel
theorem dX9_alderman_31 : decode cX9_alderman 31 = .ok (.iload_n 2, 1) := by decide +kernel
theorem dX9_alderman_32 : decode cX9_alderman 32 = .ok (.ifCond .ne 12, 3) := by decide +kernel
theorem dX9_alderman_35 : decode cX9_alderman 35 = .ok (.aload_n 0, 1) := by decide +kernel
theorem dX9_alderman_36 : decode cX9_alderman 36 = .ok (.getfield 89, 3) := by decide +kernel
theorem dX9_alderman_39 : decode cX9_alderman 39 = .ok (.iload_n 1, 1) := by decide +kernel
theorem dX9_alderman_40 : decode cX9_alderman 40 = .ok (.iaload, 1) := by decide +kernel
theorem dX9_alderman_41 : decode cX9_alderman 41 = .ok (.goto 22, 3) := by decide +kernel
theorem dX9_alderman_44 : decode cX9_alderman 44 = .ok (.iload_n 2, 1) := by decide +kernel
theorem dX9_alderman_45 : decode cX9_alderman 45 = .ok (.iconst 1, 1) := by decide +kernel
theorem dX9_alderman_46 : decode cX9_alderman 46 = .ok (.if_icmp .ne 12, 3) := by decide +kernel
theorem dX9_alderman_49 : decode cX9_alderman 49 = .ok (.aload_n 0, 1) := by decide +kernel
theorem dX9_alderman_50 : decode cX9_alderman 50 = .ok (.getfield 57, 3) := by decide +kernel
theorem dX9_alderman_53 : decode cX9_alderman 53 = .ok (.iload_n 1, 1) := by decide +kernel
theorem dX9_alderman_54 : decode cX9_alderman 54 = .ok (.iaload, 1) := by decide +kernel
theorem dX9_alderman_55 : decode cX9_alderman 55 = .ok (.goto 8, 3) := by decide +kernel
theorem dX9_alderman_58 : decode cX9_alderman 58 = .ok (.aload_n 0, 1) := by decide +kernel
theorem dX9_alderman_59 : decode cX9_alderman 59 = .ok (.iload_n 1, 1) := by decide +kernel
theorem dX9_alderman_60 : decode cX9_alderman 60 = .ok (.invokevirtual 386, 3) := by decide +kernel
theorem dX9_alderman_63 : decode cX9_alderman 63 = .ok (.ireturn, 1) := by decide +kernel
theorem dX9_chain_0 : decode cX9_chain 0 = .ok (.iconst 0, 1) := by decide +kernel
theorem dX9_chain_1 : decode cX9_chain 1 = .ok (.istore_n 2, 1) := by decide +kernel
theorem dX9_chain_2 : decode cX9_chain 2 = .ok (.aload_n 0, 1) := by decide +kernel
theorem dX9_chain_3 : decode cX9_chain 3 = .ok (.getfield 70, 3) := by decide +kernel
theorem dX9_chain_6 : decode cX9_chain 6 = .ok (.iload_n 1, 1) := by decide +kernel
theorem dX9_chain_7 : decode cX9_chain 7 = .ok (.iaload, 1) := by decide +kernel
theorem dX9_chain_8 : decode cX9_chain 8 = .ok (.istore_n 3, 1) := by decide +kernel
theorem dX9_chain_9 : decode cX9_chain 9 = .ok (.iload_n 3, 1) := by decide +kernel
theorem dX9_chain_10 : decode cX9_chain 10 = .ok (.iconst (-1), 1) := by decide +kernel
theorem dX9_chain_11 : decode cX9_chain 11 = .ok (.if_icmp .eq 16, 3) := by decide +kernel
theorem dX9_chain_14 : decode cX9_chain 14 = .ok (.iinc 2 1, 3) := by decide +kernel
theorem dX9_chain_17 : decode cX9_chain 17 = .ok (.aload_n 0, 1) := by decide +kernel
theorem dX9_chain_18 : decode cX9_chain 18 = .ok (.getfield 70, 3) := by decide +kernel
theorem dX9_chain_21 : decode cX9_chain 21 = .ok (.iload_n 3, 1) := by decide +kernel
theorem dX9_chain_22 : decode cX9_chain 22 = .ok (.iaload, 1) := by decide +kernel
theorem dX9_chain_23 : decode cX9_chain 23 = .ok (.istore_n 3, 1) := by decide +kernel
theorem dX9_chain_24 : decode cX9_chain 24 = .ok (.goto (-15), 3) := by decide +kernel
theorem dX9_chain_27 : decode cX9_chain 27 = .ok (.iload_n 2, 1) := by decide +kernel
theorem dX9_chain_28 : decode cX9_chain 28 = .ok (.ireturn, 1) := by decide +kernel
set_option maxRecDepth 20000 in
theorem ggX9_motion_X9_isMotion : GoodIn wsX9_motion wsX9_isMotion := goodIn_r _ [12, 13, 14, 15, 11, 16, 25, 26, 27, 28, 29, 30, 31, 32, 33, 34, 35, 36, 37, 38, 39, 40, 41, 42, 43, 44, 45, 46, 47, 48, 49, 50, 51, 52, 53, 54, 55, 56, 57, 58, 59, 60, 61, 62, 63, 64, 65, 66, 67, 68, 69, 70, 71, 72, 73, 74, 75, 76, 77, 78, 79, 80, 81, 82, 83, 84, 85, 86, 87] (by decide +kernel) (by decide +kernel)
set_option maxRecDepth 20000 in
theorem gX9_motion_X9_isMotion : GoodIn wsX9_motion (wsV RX9 389 RX9 yX9_isMotion wsX9_isMotion) := goodIn_app (goodIn_of _ (by decide +kernel)) ggX9_motion_X9_isMotion
set_option maxRecDepth 20000 in
theorem ggX9_motion_X9_fail : GoodIn wsX9_motion wsX9_fail := goodIn_r _ [20, 1, 25, 26, 27, 28, 29, 30, 31, 32, 33, 34, 35, 36, 37, 38, 39, 40, 41, 42, 43, 44, 45, 46, 47, 48, 49, 50, 51, 52, 53, 54, 55, 56, 57, 58, 59, 60, 61, 62, 63, 64, 65, 66, 67, 68, 69, 70, 71, 72, 73, 74, 75, 76, 77, 78, 79, 80, 81, 82, 83, 84, 85, 86, 87] (by decide +kernel) (by decide +kernel)
set_option maxRecDepth 20000 in
theorem gX9_motion_X9_fail : GoodIn wsX9_motion (wsV RX9 299 RX9 yX9_fail wsX9_fail) := goodIn_app (goodIn_of _ (by decide +kernel)) ggX9_motion_X9_fail
set_option maxRecDepth 20000 in
theorem ggX9_motion_X9_chain : GoodIn wsX9_motion wsX9_chain := goodIn_r _ [24, 6, 25, 26, 27, 28, 29, 30, 31, 32, 33, 34, 35, 36, 37, 38, 39, 40, 41, 42, 43, 44, 45, 46, 47, 48, 49, 50, 51, 52, 53, 54, 55, 56, 57, 58, 59, 60, 61, 62, 63, 64, 65, 66, 67, 68, 69, 70, 71, 72, 73, 74, 75, 76, 77, 78, 79, 80, 81, 82, 83, 84, 85, 86, 87] (by decide +kernel) (by decide +kernel)
set_option maxRecDepth 20000 in
theorem gX9_motion_X9_chain : GoodIn wsX9_motion (wsV RX9 392 RX9 yX9_chain wsX9_chain) := goodIn_app (goodIn_of _ (by decide +kernel)) ggX9_motion_X9_chain
theorem dX9_motion_0 : decode cX9_motion 0 = .ok (.aload_n 0, 1) := by decide +kernel
theorem dX9_motion_1 : decode cX9_motion 1 = .ok (.iconst 0, 1) := by decide +kernel
theorem dX9_motion_2 : decode cX9_motion 2 = .ok (.putfield 152, 3) := by decide +kernel
theorem dX9_motion_5 : decode cX9_motion 5 = .ok (.aload_n 0, 1) := by decide +kernel
theorem dX9_motion_6 : decode cX9_motion 6 = .ok (.iload_n 1, 1) := by decide +kernel
theorem dX9_motion_7 : decode cX9_motion 7 = .ok (.invokevirtual 389, 3) := by decide +kernel
theorem dX9_motion_10 : decode cX9_motion 10 = .ok (.ifCond .ne 9, 3) := by decide +kernel
theorem dX9_motion_13 : decode cX9_motion 13 = .ok (.aload_n 0, 1) := by decide +kernel
theorem dX9_motion_14 : decode cX9_motion 14 = .ok (.iconst 1, 1) := by decide +kernel
theorem dX9_motion_15 : decode cX9_motion 15 = .ok (.invokevirtual 299, 3) := by decide +kernel
theorem dX9_motion_18 : decode cX9_motion 18 = .ok (.ireturn, 1) := by decide +kernel
theorem dX9_motion_19 : decode cX9_motion 19 = .ok (.iload_n 2, 1) := by decide +kernel
theorem dX9_motion_20 : decode cX9_motion 20 = .ok (.tableswitch 94 0 6 #[44, 51, 58, 65, 72, 79, 88], 44) := by decide +kernel
theorem dX9_motion_64 : decode cX9_motion 64 = .ok (.aload_n 0, 1) := by decide +kernel
theorem dX9_motion_65 : decode cX9_motion 65 = .ok (.getfield 60, 3) := by decide +kernel
theorem dX9_motion_68 : decode cX9_motion 68 = .ok (.iload_n 1, 1) := by decide +kernel
theorem dX9_motion_69 : decode cX9_motion 69 = .ok (.iaload, 1) := by decide +kernel
theorem dX9_motion_70 : decode cX9_motion 70 = .ok (.ireturn, 1) := by decide +kernel
theorem dX9_motion_71 : decode cX9_motion 71 = .ok (.aload_n 0, 1) := by decide +kernel
theorem dX9_motion_72 : decode cX9_motion 72 = .ok (.getfield 91, 3) := by decide +kernel
theorem dX9_motion_75 : decode cX9_motion 75 = .ok (.iload_n 1, 1) := by decide +kernel
theorem dX9_motion_76 : decode cX9_motion 76 = .ok (.iaload, 1) := by decide +kernel
theorem dX9_motion_77 : decode cX9_motion 77 = .ok (.ireturn, 1) := by decide +kernel
theorem dX9_motion_78 : decode cX9_motion 78 = .ok (.aload_n 0, 1) := by decide +kernel
theorem dX9_motion_79 : decode cX9_motion 79 = .ok (.getfield 65, 3) := by decide +kernel
theorem dX9_motion_82 : decode cX9_motion 82 = .ok (.iload_n 1, 1) := by decide +kernel
theorem dX9_motion_83 : decode cX9_motion 83 = .ok (.iaload, 1) := by decide +kernel
theorem dX9_motion_84 : decode cX9_motion 84 = .ok (.ireturn, 1) := by decide +kernel
theorem dX9_motion_85 : decode cX9_motion 85 = .ok (.aload_n 0, 1) := by decide +kernel
theorem dX9_motion_86 : decode cX9_motion 86 = .ok (.getfield 67, 3) := by decide +kernel
theorem dX9_motion_89 : decode cX9_motion 89 = .ok (.iload_n 1, 1) := by decide +kernel
theorem dX9_motion_90 : decode cX9_motion 90 = .ok (.iaload, 1) := by decide +kernel
theorem dX9_motion_91 : decode cX9_motion 91 = .ok (.ireturn, 1) := by decide +kernel
theorem dX9_motion_92 : decode cX9_motion 92 = .ok (.aload_n 0, 1) := by decide +kernel
theorem dX9_motion_93 : decode cX9_motion 93 = .ok (.getfield 70, 3) := by decide +kernel
theorem dX9_motion_96 : decode cX9_motion 96 = .ok (.iload_n 1, 1) := by decide +kernel
theorem dX9_motion_97 : decode cX9_motion 97 = .ok (.iaload, 1) := by decide +kernel
theorem dX9_motion_98 : decode cX9_motion 98 = .ok (.ireturn, 1) := by decide +kernel
theorem dX9_motion_99 : decode cX9_motion 99 = .ok (.aload_n 0, 1) := by decide +kernel
theorem dX9_motion_100 : decode cX9_motion 100 = .ok (.getfield 319, 3) := by decide +kernel
theorem dX9_motion_103 : decode cX9_motion 103 = .ok (.iload_n 1, 1) := by decide +kernel
theorem dX9_motion_104 : decode cX9_motion 104 = .ok (.ishr, 1) := by decide +kernel
theorem dX9_motion_105 : decode cX9_motion 105 = .ok (.iconst 1, 1) := by decide +kernel
theorem dX9_motion_106 : decode cX9_motion 106 = .ok (.iand, 1) := by decide +kernel
theorem dX9_motion_107 : decode cX9_motion 107 = .ok (.ireturn, 1) := by decide +kernel
theorem dX9_motion_108 : decode cX9_motion 108 = .ok (.aload_n 0, 1) := by decide +kernel
theorem dX9_motion_109 : decode cX9_motion 109 = .ok (.iload_n 1, 1) := by decide +kernel
theorem dX9_motion_110 : decode cX9_motion 110 = .ok (.invokevirtual 392, 3) := by decide +kernel
theorem dX9_motion_113 : decode cX9_motion 113 = .ok (.ireturn, 1) := by decide +kernel
theorem dX9_motion_114 : decode cX9_motion 114 = .ok (.aload_n 0, 1) := by decide +kernel
theorem dX9_motion_115 : decode cX9_motion 115 = .ok (.iconst 1, 1) := by decide +kernel
theorem dX9_motion_116 : decode cX9_motion 116 = .ok (.invokevirtual 299, 3) := by decide +kernel
theorem dX9_motion_119 : decode cX9_motion 119 = .ok (.ireturn, 1) := by decide +kernel
theorem dX9_refuse_0 : decode cX9_refuse 0 = .ok (.aload_n 0, 1) := by decide +kernel
theorem dX9_refuse_1 : decode cX9_refuse 1 = .ok (.getfield 79, 3) := by decide +kernel
theorem dX9_refuse_4 : decode cX9_refuse 4 = .ok (.iload_n 1, 1) := by decide +kernel
theorem dX9_refuse_5 : decode cX9_refuse 5 = .ok (.dup2, 1) := by decide +kernel
theorem dX9_refuse_6 : decode cX9_refuse 6 = .ok (.iaload, 1) := by decide +kernel
theorem dX9_refuse_7 : decode cX9_refuse 7 = .ok (.iconst 1, 1) := by decide +kernel
theorem dX9_refuse_8 : decode cX9_refuse 8 = .ok (.iadd, 1) := by decide +kernel
theorem dX9_refuse_9 : decode cX9_refuse 9 = .ok (.iastore, 1) := by decide +kernel
theorem dX9_refuse_10 : decode cX9_refuse 10 = .ok (.iconst (-1), 1) := by decide +kernel
theorem dX9_refuse_11 : decode cX9_refuse 11 = .ok (.ireturn, 1) := by decide +kernel
set_option maxRecDepth 20000 in
theorem ggX9_keep_X9_pack : GoodIn wsX9_keep wsX9_pack := goodIn_r _ [7, 8, 9, 10, 11, 12, 13, 14, 15, 16, 17, 18, 19, 20, 21, 22, 23, 24, 25, 26, 27, 28, 29, 30, 31, 32, 33, 34, 35, 36, 37, 38, 39, 40, 41, 42, 43, 44, 45, 46, 47, 48, 49, 50, 51, 52, 53, 54, 55, 56, 57, 58, 59, 60, 61, 62, 63, 64, 65, 66, 67, 68, 69, 70, 71, 72, 73, 74, 75, 76, 77, 78, 79] (by decide +kernel) (by decide +kernel)
set_option maxRecDepth 20000 in
theorem gX9_keep_X9_pack : GoodIn wsX9_keep (wsV RX9 395 RX9 yX9_pack wsX9_pack) := goodIn_app (goodIn_of _ (by decide +kernel)) ggX9_keep_X9_pack
theorem dX9_keep_0 : decode cX9_keep 0 = .ok (.aload_n 0, 1) := by decide +kernel
theorem dX9_keep_1 : decode cX9_keep 1 = .ok (.getfield 321, 3) := by decide +kernel
theorem dX9_keep_4 : decode cX9_keep 4 = .ok (.bipush 40, 2) := by decide +kernel
theorem dX9_keep_6 : decode cX9_keep 6 = .ok (.if_icmp .ne 46, 3) := by decide +kernel
theorem dX9_keep_9 : decode cX9_keep 9 = .ok (.bipush 24, 2) := by decide +kernel
theorem dX9_keep_11 : decode cX9_keep 11 = .ok (.istore_n 1, 1) := by decide +kernel
theorem dX9_keep_12 : decode cX9_keep 12 = .ok (.iload_n 1, 1) := by decide +kernel
theorem dX9_keep_13 : decode cX9_keep 13 = .ok (.aload_n 0, 1) := by decide +kernel
theorem dX9_keep_14 : decode cX9_keep 14 = .ok (.getfield 94, 3) := by decide +kernel
theorem dX9_keep_17 : decode cX9_keep 17 = .ok (.arraylength, 1) := by decide +kernel
theorem dX9_keep_18 : decode cX9_keep 18 = .ok (.if_icmp .ge 24, 3) := by decide +kernel
theorem dX9_keep_21 : decode cX9_keep 21 = .ok (.aload_n 0, 1) := by decide +kernel
theorem dX9_keep_22 : decode cX9_keep 22 = .ok (.getfield 94, 3) := by decide +kernel
theorem dX9_keep_25 : decode cX9_keep 25 = .ok (.iload_n 1, 1) := by decide +kernel
theorem dX9_keep_26 : decode cX9_keep 26 = .ok (.bipush 24, 2) := by decide +kernel
theorem dX9_keep_28 : decode cX9_keep 28 = .ok (.isub, 1) := by decide +kernel
theorem dX9_keep_29 : decode cX9_keep 29 = .ok (.aload_n 0, 1) := by decide +kernel
theorem dX9_keep_30 : decode cX9_keep 30 = .ok (.getfield 94, 3) := by decide +kernel
theorem dX9_keep_33 : decode cX9_keep 33 = .ok (.iload_n 1, 1) := by decide +kernel
theorem dX9_keep_34 : decode cX9_keep 34 = .ok (.iaload, 1) := by decide +kernel
theorem dX9_keep_35 : decode cX9_keep 35 = .ok (.iastore, 1) := by decide +kernel
theorem dX9_keep_36 : decode cX9_keep 36 = .ok (.iinc 1 1, 3) := by decide +kernel
theorem dX9_keep_39 : decode cX9_keep 39 = .ok (.goto (-27), 3) := by decide +kernel
theorem dX9_keep_42 : decode cX9_keep 42 = .ok (.aload_n 0, 1) := by decide +kernel
theorem dX9_keep_43 : decode cX9_keep 43 = .ok (.dup, 1) := by decide +kernel
theorem dX9_keep_44 : decode cX9_keep 44 = .ok (.getfield 321, 3) := by decide +kernel
theorem dX9_keep_47 : decode cX9_keep 47 = .ok (.iconst 1, 1) := by decide +kernel
theorem dX9_keep_48 : decode cX9_keep 48 = .ok (.isub, 1) := by decide +kernel
theorem dX9_keep_49 : decode cX9_keep 49 = .ok (.putfield 321, 3) := by decide +kernel
theorem dX9_keep_52 : decode cX9_keep 52 = .ok (.aload_n 0, 1) := by decide +kernel
theorem dX9_keep_53 : decode cX9_keep 53 = .ok (.aload_n 0, 1) := by decide +kernel
theorem dX9_keep_54 : decode cX9_keep 54 = .ok (.getfield 94, 3) := by decide +kernel
theorem dX9_keep_57 : decode cX9_keep 57 = .ok (.bipush 24, 2) := by decide +kernel
theorem dX9_keep_59 : decode cX9_keep 59 = .ok (.aload_n 0, 1) := by decide +kernel
theorem dX9_keep_60 : decode cX9_keep 60 = .ok (.getfield 321, 3) := by decide +kernel
theorem dX9_keep_63 : decode cX9_keep 63 = .ok (.imul, 1) := by decide +kernel
theorem dX9_keep_64 : decode cX9_keep 64 = .ok (.invokevirtual 395, 3) := by decide +kernel
theorem dX9_keep_67 : decode cX9_keep 67 = .ok (.aload_n 0, 1) := by decide +kernel
theorem dX9_keep_68 : decode cX9_keep 68 = .ok (.dup, 1) := by decide +kernel
theorem dX9_keep_69 : decode cX9_keep 69 = .ok (.getfield 321, 3) := by decide +kernel
theorem dX9_keep_72 : decode cX9_keep 72 = .ok (.iconst 1, 1) := by decide +kernel
theorem dX9_keep_73 : decode cX9_keep 73 = .ok (.iadd, 1) := by decide +kernel
theorem dX9_keep_74 : decode cX9_keep 74 = .ok (.putfield 321, 3) := by decide +kernel
theorem dX9_keep_77 : decode cX9_keep 77 = .ok (.return_, 1) := by decide +kernel
set_option maxRecDepth 20000 in
theorem ggX9_hours_X9_isIn : GoodIn wsX9_hours wsX9_isIn := goodIn_r _ [7] (by decide +kernel) (by decide +kernel)
set_option maxRecDepth 20000 in
theorem gX9_hours_X9_isIn : GoodIn wsX9_hours (va_wsS RX9 155 yX9_isIn wsX9_isIn) := goodIn_app (goodIn_of _ (by decide +kernel)) ggX9_hours_X9_isIn
set_option maxRecDepth 20000 in
theorem ggX9_hours_X9_refuse : GoodIn wsX9_hours wsX9_refuse := goodIn_r _ [11, 12, 100, 101, 102, 103, 104, 105, 106, 107, 108, 109, 110, 111, 112, 113, 114, 115, 116, 117, 118, 119, 120, 121, 122, 123, 124, 125, 126, 127, 128, 129, 130, 131, 132, 133, 134, 135, 136, 137, 138, 139, 140, 141, 142, 143, 144, 145, 146, 147, 148, 149, 150, 151, 152, 153, 154, 155, 156, 157, 158, 159, 160, 161, 162] (by decide +kernel) (by decide +kernel)
set_option maxRecDepth 20000 in
theorem gX9_hours_X9_refuse : GoodIn wsX9_hours (wsV RX9 401 RX9 yX9_refuse wsX9_refuse) := goodIn_app (goodIn_of _ (by decide +kernel)) ggX9_hours_X9_refuse
set_option maxRecDepth 20000 in
theorem ggX9_hours_X9_keep : GoodIn wsX9_hours wsX9_keep := goodIn_r _ [16, 17, 18, 19, 20, 21, 6, 22, 3, 23, 24, 25, 26, 27, 28, 29, 30, 100, 101, 102, 103, 104, 105, 106, 107, 108, 109, 110, 111, 112, 113, 114, 115, 116, 117, 118, 119, 120, 121, 122, 123, 124, 125, 126, 127, 128, 129, 130, 131, 132, 133, 134, 135, 136, 137, 138, 139, 140, 141, 142, 143, 144, 145, 146, 147, 148, 149, 150, 151, 152, 153, 154, 155, 156, 157, 158, 159, 160, 161, 162] (by decide +kernel) (by decide +kernel)
set_option maxRecDepth 20000 in
theorem gX9_hours_X9_keep : GoodIn wsX9_hours (wsV RX9 404 RX9 yX9_keep wsX9_keep) := goodIn_app (goodIn_of _ (by decide +kernel)) ggX9_hours_X9_keep
set_option maxRecDepth 20000 in
theorem ggX9_hours_X9_goOn : GoodIn wsX9_hours wsX9_goOn := goodIn_r _ [34, 35, 36, 37, 6, 38, 39, 23, 40, 41, 42, 43, 44, 45, 46, 30, 28, 47, 26, 48, 49, 50, 51, 27, 24, 25, 3, 52, 53, 54, 55, 56, 57, 58, 59, 60, 61, 62, 63, 64, 65, 66, 67, 68, 69, 70, 71, 72, 73, 74, 75, 76, 77, 78, 79, 80, 81, 29, 82, 83, 84, 85, 86, 87, 88, 89, 90, 91, 92, 93, 94, 95, 96, 97, 98, 99, 100, 101, 102, 103, 104, 105, 106, 107, 108, 109, 110, 111, 112, 113, 114, 115, 116, 117, 118, 119, 120, 121, 122, 123, 124, 125, 126, 127, 128, 129, 130, 131, 132, 133, 134, 135, 136, 137, 138, 139, 140, 141, 142, 143, 144, 145, 146, 147, 148, 149, 150, 151, 152, 153, 154, 155, 156, 157, 158, 159, 160, 161, 162] (by decide +kernel) (by decide +kernel)
set_option maxRecDepth 20000 in
theorem gX9_hours_X9_goOn : GoodIn wsX9_hours (wsV RX9 407 RX9 yX9_goOn wsX9_goOn) := goodIn_app (goodIn_of _ (by decide +kernel)) ggX9_hours_X9_goOn
theorem dX9_hours_0 : decode cX9_hours 0 = .ok (.aload_n 0, 1) := by decide +kernel
theorem dX9_hours_1 : decode cX9_hours 1 = .ok (.iconst 0, 1) := by decide +kernel
theorem dX9_hours_2 : decode cX9_hours 2 = .ok (.putfield 152, 3) := by decide +kernel
theorem dX9_hours_5 : decode cX9_hours 5 = .ok (.iload_n 1, 1) := by decide +kernel
theorem dX9_hours_6 : decode cX9_hours 6 = .ok (.i2l, 1) := by decide +kernel
theorem dX9_hours_7 : decode cX9_hours 7 = .ok (.lconst 1, 1) := by decide +kernel
theorem dX9_hours_8 : decode cX9_hours 8 = .ok (.ldc2_w 399, 3) := by decide +kernel
theorem dX9_hours_11 : decode cX9_hours 11 = .ok (.invokestatic 155, 3) := by decide +kernel
theorem dX9_hours_14 : decode cX9_hours 14 = .ok (.ifCond .eq 15, 3) := by decide +kernel
theorem dX9_hours_17 : decode cX9_hours 17 = .ok (.aload_n 0, 1) := by decide +kernel
theorem dX9_hours_18 : decode cX9_hours 18 = .ok (.getfield 312, 3) := by decide +kernel
theorem dX9_hours_21 : decode cX9_hours 21 = .ok (.iload_n 1, 1) := by decide +kernel
theorem dX9_hours_22 : decode cX9_hours 22 = .ok (.iadd, 1) := by decide +kernel
theorem dX9_hours_23 : decode cX9_hours 23 = .ok (.sipush 9999, 3) := by decide +kernel
theorem dX9_hours_26 : decode cX9_hours 26 = .ok (.if_icmp .le 9, 3) := by decide +kernel
theorem dX9_hours_29 : decode cX9_hours 29 = .ok (.aload_n 0, 1) := by decide +kernel
theorem dX9_hours_30 : decode cX9_hours 30 = .ok (.iconst 1, 1) := by decide +kernel
theorem dX9_hours_31 : decode cX9_hours 31 = .ok (.invokevirtual 401, 3) := by decide +kernel
theorem dX9_hours_34 : decode cX9_hours 34 = .ok (.ireturn, 1) := by decide +kernel
theorem dX9_hours_35 : decode cX9_hours 35 = .ok (.aload_n 0, 1) := by decide +kernel
theorem dX9_hours_36 : decode cX9_hours 36 = .ok (.invokevirtual 404, 3) := by decide +kernel
theorem dX9_hours_39 : decode cX9_hours 39 = .ok (.aload_n 0, 1) := by decide +kernel
theorem dX9_hours_40 : decode cX9_hours 40 = .ok (.iload_n 1, 1) := by decide +kernel
theorem dX9_hours_41 : decode cX9_hours 41 = .ok (.invokevirtual 407, 3) := by decide +kernel
theorem dX9_hours_44 : decode cX9_hours 44 = .ok (.aload_n 0, 1) := by decide +kernel
theorem dX9_hours_45 : decode cX9_hours 45 = .ok (.getfield 312, 3) := by decide +kernel
theorem dX9_hours_48 : decode cX9_hours 48 = .ok (.ireturn, 1) := by decide +kernel
set_option maxRecDepth 20000 in
theorem ggX9_wind_X9_isIn : GoodIn wsX9_wind wsX9_isIn := goodIn_r _ [11] (by decide +kernel) (by decide +kernel)
set_option maxRecDepth 20000 in
theorem gX9_wind_X9_isIn : GoodIn wsX9_wind (va_wsS RX9 155 yX9_isIn wsX9_isIn) := goodIn_app (goodIn_of _ (by decide +kernel)) ggX9_wind_X9_isIn
set_option maxRecDepth 20000 in
theorem ggX9_wind_X9_refuse : GoodIn wsX9_wind wsX9_refuse := goodIn_r _ [15, 16, 35, 36, 37, 38, 39, 40, 41, 42, 43, 44, 45, 46, 47, 48, 49, 50, 51, 52, 53, 54, 55, 56, 57, 58, 59, 60, 61, 62, 63, 64, 65, 66, 67, 68, 69, 70, 71, 72, 73, 74, 75, 76, 77, 78, 79, 80, 81, 82, 83, 84, 85, 86, 87, 88, 89, 90, 91, 92, 93, 94, 95, 96, 97] (by decide +kernel) (by decide +kernel)
set_option maxRecDepth 20000 in
theorem gX9_wind_X9_refuse : GoodIn wsX9_wind (wsV RX9 401 RX9 yX9_refuse wsX9_refuse) := goodIn_app (goodIn_of _ (by decide +kernel)) ggX9_wind_X9_refuse
set_option maxRecDepth 20000 in
theorem ggX9_wind_X9_keep : GoodIn wsX9_wind wsX9_keep := goodIn_r _ [20, 21, 22, 23, 24, 25, 10, 26, 27, 28, 3, 29, 30, 31, 32, 33, 34, 35, 36, 37, 38, 39, 40, 41, 42, 43, 44, 45, 46, 47, 48, 49, 50, 51, 52, 53, 54, 55, 56, 57, 58, 59, 60, 61, 62, 63, 64, 65, 66, 67, 68, 69, 70, 71, 72, 73, 74, 75, 76, 77, 78, 79, 80, 81, 82, 83, 84, 85, 86, 87, 88, 89, 90, 91, 92, 93, 94, 95, 96, 97] (by decide +kernel) (by decide +kernel)
set_option maxRecDepth 20000 in
theorem gX9_wind_X9_keep : GoodIn wsX9_wind (wsV RX9 404 RX9 yX9_keep wsX9_keep) := goodIn_app (goodIn_of _ (by decide +kernel)) ggX9_wind_X9_keep
theorem dX9_wind_0 : decode cX9_wind 0 = .ok (.aload_n 0, 1) := by decide +kernel
theorem dX9_wind_1 : decode cX9_wind 1 = .ok (.iconst 0, 1) := by decide +kernel
theorem dX9_wind_2 : decode cX9_wind 2 = .ok (.putfield 152, 3) := by decide +kernel
theorem dX9_wind_5 : decode cX9_wind 5 = .ok (.iload_n 1, 1) := by decide +kernel
theorem dX9_wind_6 : decode cX9_wind 6 = .ok (.i2l, 1) := by decide +kernel
theorem dX9_wind_7 : decode cX9_wind 7 = .ok (.lconst 1, 1) := by decide +kernel
theorem dX9_wind_8 : decode cX9_wind 8 = .ok (.ldc2_w 410, 3) := by decide +kernel
theorem dX9_wind_11 : decode cX9_wind 11 = .ok (.invokestatic 155, 3) := by decide +kernel
theorem dX9_wind_14 : decode cX9_wind 14 = .ok (.ifCond .ne 9, 3) := by decide +kernel
theorem dX9_wind_17 : decode cX9_wind 17 = .ok (.aload_n 0, 1) := by decide +kernel
theorem dX9_wind_18 : decode cX9_wind 18 = .ok (.iconst 1, 1) := by decide +kernel
theorem dX9_wind_19 : decode cX9_wind 19 = .ok (.invokevirtual 401, 3) := by decide +kernel
theorem dX9_wind_22 : decode cX9_wind 22 = .ok (.ireturn, 1) := by decide +kernel
theorem dX9_wind_23 : decode cX9_wind 23 = .ok (.aload_n 0, 1) := by decide +kernel
theorem dX9_wind_24 : decode cX9_wind 24 = .ok (.invokevirtual 404, 3) := by decide +kernel
theorem dX9_wind_27 : decode cX9_wind 27 = .ok (.aload_n 0, 1) := by decide +kernel
theorem dX9_wind_28 : decode cX9_wind 28 = .ok (.bipush 99, 2) := by decide +kernel
theorem dX9_wind_30 : decode cX9_wind 30 = .ok (.aload_n 0, 1) := by decide +kernel
theorem dX9_wind_31 : decode cX9_wind 31 = .ok (.getfield 147, 3) := by decide +kernel
theorem dX9_wind_34 : decode cX9_wind 34 = .ok (.iload_n 1, 1) := by decide +kernel
theorem dX9_wind_35 : decode cX9_wind 35 = .ok (.iadd, 1) := by decide +kernel
theorem dX9_wind_36 : decode cX9_wind 36 = .ok (.invokestatic 189, 3) := by decide +kernel
theorem dX9_wind_39 : decode cX9_wind 39 = .ok (.putfield 147, 3) := by decide +kernel
theorem dX9_wind_42 : decode cX9_wind 42 = .ok (.aload_n 0, 1) := by decide +kernel
theorem dX9_wind_43 : decode cX9_wind 43 = .ok (.getfield 147, 3) := by decide +kernel
theorem dX9_wind_46 : decode cX9_wind 46 = .ok (.ireturn, 1) := by decide +kernel
set_option maxRecDepth 20000 in
theorem ggX9_oil_X9_isIn : GoodIn wsX9_oil wsX9_isIn := goodIn_r _ [11] (by decide +kernel) (by decide +kernel)
set_option maxRecDepth 20000 in
theorem gX9_oil_X9_isIn : GoodIn wsX9_oil (va_wsS RX9 155 yX9_isIn wsX9_isIn) := goodIn_app (goodIn_of _ (by decide +kernel)) ggX9_oil_X9_isIn
set_option maxRecDepth 20000 in
theorem ggX9_oil_X9_refuse : GoodIn wsX9_oil wsX9_refuse := goodIn_r _ [15, 16, 35, 36, 37, 38, 39, 40, 41, 42, 43, 44, 45, 46, 47, 48, 49, 50, 51, 52, 53, 54, 55, 56, 57, 58, 59, 60, 61, 62, 63, 64, 65, 66, 67, 68, 69, 70, 71, 72, 73, 74, 75, 76, 77, 78, 79, 80, 81, 82, 83, 84, 85, 86, 87, 88, 89, 90, 91, 92, 93, 94, 95, 96, 97] (by decide +kernel) (by decide +kernel)
set_option maxRecDepth 20000 in
theorem gX9_oil_X9_refuse : GoodIn wsX9_oil (wsV RX9 401 RX9 yX9_refuse wsX9_refuse) := goodIn_app (goodIn_of _ (by decide +kernel)) ggX9_oil_X9_refuse
set_option maxRecDepth 20000 in
theorem ggX9_oil_X9_keep : GoodIn wsX9_oil wsX9_keep := goodIn_r _ [20, 21, 22, 23, 24, 25, 10, 26, 27, 3, 28, 29, 30, 31, 32, 33, 34, 35, 36, 37, 38, 39, 40, 41, 42, 43, 44, 45, 46, 47, 48, 49, 50, 51, 52, 53, 54, 55, 56, 57, 58, 59, 60, 61, 62, 63, 64, 65, 66, 67, 68, 69, 70, 71, 72, 73, 74, 75, 76, 77, 78, 79, 80, 81, 82, 83, 84, 85, 86, 87, 88, 89, 90, 91, 92, 93, 94, 95, 96, 97] (by decide +kernel) (by decide +kernel)
set_option maxRecDepth 20000 in
theorem gX9_oil_X9_keep : GoodIn wsX9_oil (wsV RX9 404 RX9 yX9_keep wsX9_keep) := goodIn_app (goodIn_of _ (by decide +kernel)) ggX9_oil_X9_keep
theorem dX9_oil_0 : decode cX9_oil 0 = .ok (.aload_n 0, 1) := by decide +kernel
theorem dX9_oil_1 : decode cX9_oil 1 = .ok (.iconst 0, 1) := by decide +kernel
theorem dX9_oil_2 : decode cX9_oil 2 = .ok (.putfield 152, 3) := by decide +kernel
theorem dX9_oil_5 : decode cX9_oil 5 = .ok (.iload_n 1, 1) := by decide +kernel
theorem dX9_oil_6 : decode cX9_oil 6 = .ok (.i2l, 1) := by decide +kernel
theorem dX9_oil_7 : decode cX9_oil 7 = .ok (.lconst 1, 1) := by decide +kernel
theorem dX9_oil_8 : decode cX9_oil 8 = .ok (.ldc2_w 410, 3) := by decide +kernel
theorem dX9_oil_11 : decode cX9_oil 11 = .ok (.invokestatic 155, 3) := by decide +kernel
theorem dX9_oil_14 : decode cX9_oil 14 = .ok (.ifCond .ne 9, 3) := by decide +kernel
theorem dX9_oil_17 : decode cX9_oil 17 = .ok (.aload_n 0, 1) := by decide +kernel
theorem dX9_oil_18 : decode cX9_oil 18 = .ok (.iconst 1, 1) := by decide +kernel
theorem dX9_oil_19 : decode cX9_oil 19 = .ok (.invokevirtual 401, 3) := by decide +kernel
theorem dX9_oil_22 : decode cX9_oil 22 = .ok (.ireturn, 1) := by decide +kernel
theorem dX9_oil_23 : decode cX9_oil 23 = .ok (.aload_n 0, 1) := by decide +kernel
theorem dX9_oil_24 : decode cX9_oil 24 = .ok (.invokevirtual 404, 3) := by decide +kernel
theorem dX9_oil_27 : decode cX9_oil 27 = .ok (.aload_n 0, 1) := by decide +kernel
theorem dX9_oil_28 : decode cX9_oil 28 = .ok (.bipush 99, 2) := by decide +kernel
theorem dX9_oil_30 : decode cX9_oil 30 = .ok (.aload_n 0, 1) := by decide +kernel
theorem dX9_oil_31 : decode cX9_oil 31 = .ok (.getfield 145, 3) := by decide +kernel
theorem dX9_oil_34 : decode cX9_oil 34 = .ok (.iload_n 1, 1) := by decide +kernel
theorem dX9_oil_35 : decode cX9_oil 35 = .ok (.iadd, 1) := by decide +kernel
theorem dX9_oil_36 : decode cX9_oil 36 = .ok (.invokestatic 189, 3) := by decide +kernel
theorem dX9_oil_39 : decode cX9_oil 39 = .ok (.putfield 145, 3) := by decide +kernel
theorem dX9_oil_42 : decode cX9_oil 42 = .ok (.aload_n 0, 1) := by decide +kernel
theorem dX9_oil_43 : decode cX9_oil 43 = .ok (.getfield 145, 3) := by decide +kernel
theorem dX9_oil_46 : decode cX9_oil 46 = .ok (.ireturn, 1) := by decide +kernel
set_option maxRecDepth 20000 in
theorem ggX9_spider_X9_isIn : GoodIn wsX9_spider wsX9_isIn := goodIn_r _ [7] (by decide +kernel) (by decide +kernel)
set_option maxRecDepth 20000 in
theorem gX9_spider_X9_isIn : GoodIn wsX9_spider (va_wsS RX9 155 yX9_isIn wsX9_isIn) := goodIn_app (goodIn_of _ (by decide +kernel)) ggX9_spider_X9_isIn
set_option maxRecDepth 20000 in
theorem ggX9_spider_X9_refuse : GoodIn wsX9_spider wsX9_refuse := goodIn_r _ [11, 12, 31, 32, 33, 34, 35, 36, 37, 38, 39, 40, 41, 42, 43, 44, 45, 46, 47, 48, 49, 50, 51, 52, 53, 54, 55, 56, 57, 58, 59, 60, 61, 62, 63, 64, 65, 66, 67, 68, 69, 70, 71, 72, 73, 74, 75, 76, 77, 78, 79, 80, 81, 82, 83, 84, 85, 86, 87, 88, 89, 90, 91, 92, 93] (by decide +kernel) (by decide +kernel)
set_option maxRecDepth 20000 in
theorem gX9_spider_X9_refuse : GoodIn wsX9_spider (wsV RX9 401 RX9 yX9_refuse wsX9_refuse) := goodIn_app (goodIn_of _ (by decide +kernel)) ggX9_spider_X9_refuse
set_option maxRecDepth 20000 in
theorem ggX9_spider_X9_keep : GoodIn wsX9_spider wsX9_keep := goodIn_r _ [16, 17, 18, 19, 20, 21, 6, 22, 23, 24, 25, 3, 26, 27, 28, 29, 30, 31, 32, 33, 34, 35, 36, 37, 38, 39, 40, 41, 42, 43, 44, 45, 46, 47, 48, 49, 50, 51, 52, 53, 54, 55, 56, 57, 58, 59, 60, 61, 62, 63, 64, 65, 66, 67, 68, 69, 70, 71, 72, 73, 74, 75, 76, 77, 78, 79, 80, 81, 82, 83, 84, 85, 86, 87, 88, 89, 90, 91, 92, 93] (by decide +kernel) (by decide +kernel)
set_option maxRecDepth 20000 in
theorem gX9_spider_X9_keep : GoodIn wsX9_spider (wsV RX9 404 RX9 yX9_keep wsX9_keep) := goodIn_app (goodIn_of _ (by decide +kernel)) ggX9_spider_X9_keep
theorem dX9_spider_0 : decode cX9_spider 0 = .ok (.aload_n 0, 1) := by decide +kernel
theorem dX9_spider_1 : decode cX9_spider 1 = .ok (.iconst 0, 1) := by decide +kernel
theorem dX9_spider_2 : decode cX9_spider 2 = .ok (.putfield 152, 3) := by decide +kernel
theorem dX9_spider_5 : decode cX9_spider 5 = .ok (.iload_n 1, 1) := by decide +kernel
theorem dX9_spider_6 : decode cX9_spider 6 = .ok (.i2l, 1) := by decide +kernel
theorem dX9_spider_7 : decode cX9_spider 7 = .ok (.lconst 1, 1) := by decide +kernel
theorem dX9_spider_8 : decode cX9_spider 8 = .ok (.ldc2_w 412, 3) := by decide +kernel
theorem dX9_spider_11 : decode cX9_spider 11 = .ok (.invokestatic 155, 3) := by decide +kernel
theorem dX9_spider_14 : decode cX9_spider 14 = .ok (.ifCond .ne 9, 3) := by decide +kernel
theorem dX9_spider_17 : decode cX9_spider 17 = .ok (.aload_n 0, 1) := by decide +kernel
theorem dX9_spider_18 : decode cX9_spider 18 = .ok (.iconst 1, 1) := by decide +kernel
theorem dX9_spider_19 : decode cX9_spider 19 = .ok (.invokevirtual 401, 3) := by decide +kernel
theorem dX9_spider_22 : decode cX9_spider 22 = .ok (.ireturn, 1) := by decide +kernel
theorem dX9_spider_23 : decode cX9_spider 23 = .ok (.aload_n 0, 1) := by decide +kernel
theorem dX9_spider_24 : decode cX9_spider 24 = .ok (.invokevirtual 404, 3) := by decide +kernel
theorem dX9_spider_27 : decode cX9_spider 27 = .ok (.aload_n 0, 1) := by decide +kernel
theorem dX9_spider_28 : decode cX9_spider 28 = .ok (.getfield 314, 3) := by decide +kernel
theorem dX9_spider_31 : decode cX9_spider 31 = .ok (.istore_n 2, 1) := by decide +kernel
theorem dX9_spider_32 : decode cX9_spider 32 = .ok (.aload_n 0, 1) := by decide +kernel
theorem dX9_spider_33 : decode cX9_spider 33 = .ok (.iload_n 1, 1) := by decide +kernel
theorem dX9_spider_34 : decode cX9_spider 34 = .ok (.putfield 314, 3) := by decide +kernel
theorem dX9_spider_37 : decode cX9_spider 37 = .ok (.iload_n 2, 1) := by decide +kernel
theorem dX9_spider_38 : decode cX9_spider 38 = .ok (.ireturn, 1) := by decide +kernel
set_option maxRecDepth 20000 in
theorem ggX9_bribe_X9_isAlderman : GoodIn wsX9_bribe wsX9_isAlderman := goodIn_r _ [14, 15, 16, 17, 13, 18, 40, 41, 42, 43, 44, 45, 46, 47, 48, 49, 50, 51, 52, 53, 54, 55, 56, 57, 58, 59, 60, 61, 62, 63, 64, 65, 66, 67, 68, 69, 70, 71, 72, 73, 74, 75, 76, 77, 78, 79, 80, 81, 82, 83, 84, 85, 86, 87, 88, 89, 90, 91, 92, 93, 94, 95, 96, 97, 98, 99, 100, 101, 102] (by decide +kernel) (by decide +kernel)
set_option maxRecDepth 20000 in
theorem gX9_bribe_X9_isAlderman : GoodIn wsX9_bribe (wsV RX9 381 RX9 yX9_isAlderman wsX9_isAlderman) := goodIn_app (goodIn_of _ (by decide +kernel)) ggX9_bribe_X9_isAlderman
set_option maxRecDepth 20000 in
theorem ggX9_bribe_X9_fail : GoodIn wsX9_bribe wsX9_fail := goodIn_r _ [22, 1, 40, 41, 42, 43, 44, 45, 46, 47, 48, 49, 50, 51, 52, 53, 54, 55, 56, 57, 58, 59, 60, 61, 62, 63, 64, 65, 66, 67, 68, 69, 70, 71, 72, 73, 74, 75, 76, 77, 78, 79, 80, 81, 82, 83, 84, 85, 86, 87, 88, 89, 90, 91, 92, 93, 94, 95, 96, 97, 98, 99, 100, 101, 102] (by decide +kernel) (by decide +kernel)
set_option maxRecDepth 20000 in
theorem gX9_bribe_X9_fail : GoodIn wsX9_bribe (wsV RX9 299 RX9 yX9_fail wsX9_fail) := goodIn_app (goodIn_of _ (by decide +kernel)) ggX9_bribe_X9_fail
set_option maxRecDepth 20000 in
theorem ggX9_bribe_X9_isIn : GoodIn wsX9_bribe wsX9_isIn := goodIn_r _ [18] (by decide +kernel) (by decide +kernel)
set_option maxRecDepth 20000 in
theorem gX9_bribe_X9_isIn : GoodIn wsX9_bribe (va_wsS RX9 155 yX9_isIn wsX9_isIn) := goodIn_app (goodIn_of _ (by decide +kernel)) ggX9_bribe_X9_isIn
set_option maxRecDepth 20000 in
theorem ggX9_bribe_X9_keep : GoodIn wsX9_bribe wsX9_keep := goodIn_r _ [26, 27, 28, 29, 30, 31, 13, 32, 33, 34, 35, 36, 3, 37, 38, 5, 39, 40, 41, 42, 43, 44, 45, 46, 47, 48, 49, 50, 51, 52, 53, 54, 55, 56, 57, 58, 59, 60, 61, 62, 63, 64, 65, 66, 67, 68, 69, 70, 71, 72, 73, 74, 75, 76, 77, 78, 79, 80, 81, 82, 83, 84, 85, 86, 87, 88, 89, 90, 91, 92, 93, 94, 95, 96, 97, 98, 99, 100, 101, 102] (by decide +kernel) (by decide +kernel)
set_option maxRecDepth 20000 in
theorem gX9_bribe_X9_keep : GoodIn wsX9_bribe (wsV RX9 404 RX9 yX9_keep wsX9_keep) := goodIn_app (goodIn_of _ (by decide +kernel)) ggX9_bribe_X9_keep
theorem dX9_bribe_0 : decode cX9_bribe 0 = .ok (.aload_n 0, 1) := by decide +kernel
theorem dX9_bribe_1 : decode cX9_bribe 1 = .ok (.iconst 0, 1) := by decide +kernel
theorem dX9_bribe_2 : decode cX9_bribe 2 = .ok (.putfield 152, 3) := by decide +kernel
theorem dX9_bribe_5 : decode cX9_bribe 5 = .ok (.aload_n 0, 1) := by decide +kernel
theorem dX9_bribe_6 : decode cX9_bribe 6 = .ok (.iload_n 1, 1) := by decide +kernel
theorem dX9_bribe_7 : decode cX9_bribe 7 = .ok (.invokevirtual 381, 3) := by decide +kernel
theorem dX9_bribe_10 : decode cX9_bribe 10 = .ok (.ifCond .ne 9, 3) := by decide +kernel
theorem dX9_bribe_13 : decode cX9_bribe 13 = .ok (.aload_n 0, 1) := by decide +kernel
theorem dX9_bribe_14 : decode cX9_bribe 14 = .ok (.iconst 1, 1) := by decide +kernel
theorem dX9_bribe_15 : decode cX9_bribe 15 = .ok (.invokevirtual 299, 3) := by decide +kernel
theorem dX9_bribe_18 : decode cX9_bribe 18 = .ok (.ireturn, 1) := by decide +kernel
theorem dX9_bribe_19 : decode cX9_bribe 19 = .ok (.iload_n 2, 1) := by decide +kernel
theorem dX9_bribe_20 : decode cX9_bribe 20 = .ok (.i2l, 1) := by decide +kernel
theorem dX9_bribe_21 : decode cX9_bribe 21 = .ok (.lconst 1, 1) := by decide +kernel
theorem dX9_bribe_22 : decode cX9_bribe 22 = .ok (.ldc2_w 414, 3) := by decide +kernel
theorem dX9_bribe_25 : decode cX9_bribe 25 = .ok (.invokestatic 155, 3) := by decide +kernel
theorem dX9_bribe_28 : decode cX9_bribe 28 = .ok (.ifCond .eq 11, 3) := by decide +kernel
theorem dX9_bribe_31 : decode cX9_bribe 31 = .ok (.iload_n 2, 1) := by decide +kernel
theorem dX9_bribe_32 : decode cX9_bribe 32 = .ok (.aload_n 0, 1) := by decide +kernel
theorem dX9_bribe_33 : decode cX9_bribe 33 = .ok (.getfield 149, 3) := by decide +kernel
theorem dX9_bribe_36 : decode cX9_bribe 36 = .ok (.if_icmp .le 16, 3) := by decide +kernel
theorem dX9_bribe_39 : decode cX9_bribe 39 = .ok (.aload_n 0, 1) := by decide +kernel
theorem dX9_bribe_40 : decode cX9_bribe 40 = .ok (.getfield 79, 3) := by decide +kernel
theorem dX9_bribe_43 : decode cX9_bribe 43 = .ok (.iconst 1, 1) := by decide +kernel
theorem dX9_bribe_44 : decode cX9_bribe 44 = .ok (.dup2, 1) := by decide +kernel
theorem dX9_bribe_45 : decode cX9_bribe 45 = .ok (.iaload, 1) := by decide +kernel
theorem dX9_bribe_46 : decode cX9_bribe 46 = .ok (.iconst 1, 1) := by decide +kernel
theorem dX9_bribe_47 : decode cX9_bribe 47 = .ok (.iadd, 1) := by decide +kernel
theorem dX9_bribe_48 : decode cX9_bribe 48 = .ok (.iastore, 1) := by decide +kernel
theorem dX9_bribe_49 : decode cX9_bribe 49 = .ok (.bipush (-10), 2) := by decide +kernel
theorem dX9_bribe_51 : decode cX9_bribe 51 = .ok (.ireturn, 1) := by decide +kernel
theorem dX9_bribe_52 : decode cX9_bribe 52 = .ok (.aload_n 0, 1) := by decide +kernel
theorem dX9_bribe_53 : decode cX9_bribe 53 = .ok (.invokevirtual 404, 3) := by decide +kernel
theorem dX9_bribe_56 : decode cX9_bribe 56 = .ok (.aload_n 0, 1) := by decide +kernel
theorem dX9_bribe_57 : decode cX9_bribe 57 = .ok (.getfield 89, 3) := by decide +kernel
theorem dX9_bribe_60 : decode cX9_bribe 60 = .ok (.iload_n 1, 1) := by decide +kernel
theorem dX9_bribe_61 : decode cX9_bribe 61 = .ok (.bipush 9, 2) := by decide +kernel
theorem dX9_bribe_63 : decode cX9_bribe 63 = .ok (.aload_n 0, 1) := by decide +kernel
theorem dX9_bribe_64 : decode cX9_bribe 64 = .ok (.getfield 89, 3) := by decide +kernel
theorem dX9_bribe_67 : decode cX9_bribe 67 = .ok (.iload_n 1, 1) := by decide +kernel
theorem dX9_bribe_68 : decode cX9_bribe 68 = .ok (.iaload, 1) := by decide +kernel
theorem dX9_bribe_69 : decode cX9_bribe 69 = .ok (.iload_n 2, 1) := by decide +kernel
theorem dX9_bribe_70 : decode cX9_bribe 70 = .ok (.iadd, 1) := by decide +kernel
theorem dX9_bribe_71 : decode cX9_bribe 71 = .ok (.invokestatic 189, 3) := by decide +kernel
theorem dX9_bribe_74 : decode cX9_bribe 74 = .ok (.iastore, 1) := by decide +kernel
theorem dX9_bribe_75 : decode cX9_bribe 75 = .ok (.aload_n 0, 1) := by decide +kernel
theorem dX9_bribe_76 : decode cX9_bribe 76 = .ok (.dup, 1) := by decide +kernel
theorem dX9_bribe_77 : decode cX9_bribe 77 = .ok (.getfield 149, 3) := by decide +kernel
theorem dX9_bribe_80 : decode cX9_bribe 80 = .ok (.iload_n 2, 1) := by decide +kernel
theorem dX9_bribe_81 : decode cX9_bribe 81 = .ok (.isub, 1) := by decide +kernel
theorem dX9_bribe_82 : decode cX9_bribe 82 = .ok (.putfield 149, 3) := by decide +kernel
theorem dX9_bribe_85 : decode cX9_bribe 85 = .ok (.aload_n 0, 1) := by decide +kernel
theorem dX9_bribe_86 : decode cX9_bribe 86 = .ok (.getfield 89, 3) := by decide +kernel
theorem dX9_bribe_89 : decode cX9_bribe 89 = .ok (.iload_n 1, 1) := by decide +kernel
theorem dX9_bribe_90 : decode cX9_bribe 90 = .ok (.iaload, 1) := by decide +kernel
theorem dX9_bribe_91 : decode cX9_bribe 91 = .ok (.ireturn, 1) := by decide +kernel
set_option maxRecDepth 20000 in
theorem ggX9_move_X9_isMotion : GoodIn wsX9_move wsX9_isMotion := goodIn_r _ [9, 10, 11, 12, 8, 13, 43, 44, 45, 46, 47, 48, 49, 50, 51, 52, 53, 54, 55, 56, 57, 58, 59, 60, 61, 62, 63, 64, 65, 66, 67, 68, 69, 70, 71, 72, 73, 74, 75, 76, 77, 78, 79, 80, 81, 82, 83, 84, 85, 86, 87, 88, 89, 90, 91, 92, 93, 94, 95, 96, 97, 98, 99, 100, 101, 102, 103, 104, 105] (by decide +kernel) (by decide +kernel)
set_option maxRecDepth 20000 in
theorem gX9_move_X9_isMotion : GoodIn wsX9_move (wsV RX9 389 RX9 yX9_isMotion wsX9_isMotion) := goodIn_app (goodIn_of _ (by decide +kernel)) ggX9_move_X9_isMotion
set_option maxRecDepth 20000 in
theorem ggX9_move_X9_fail : GoodIn wsX9_move wsX9_fail := goodIn_r _ [17, 1, 43, 44, 45, 46, 47, 48, 49, 50, 51, 52, 53, 54, 55, 56, 57, 58, 59, 60, 61, 62, 63, 64, 65, 66, 67, 68, 69, 70, 71, 72, 73, 74, 75, 76, 77, 78, 79, 80, 81, 82, 83, 84, 85, 86, 87, 88, 89, 90, 91, 92, 93, 94, 95, 96, 97, 98, 99, 100, 101, 102, 103, 104, 105] (by decide +kernel) (by decide +kernel)
set_option maxRecDepth 20000 in
theorem gX9_move_X9_fail : GoodIn wsX9_move (wsV RX9 299 RX9 yX9_fail wsX9_fail) := goodIn_app (goodIn_of _ (by decide +kernel)) ggX9_move_X9_fail
set_option maxRecDepth 20000 in
theorem ggX9_move_X9_isOf : GoodIn wsX9_move wsX9_isOf := goodIn_r _ [20] (by decide +kernel) (by decide +kernel)
set_option maxRecDepth 20000 in
theorem gX9_move_X9_isOf : GoodIn wsX9_move (va_wsS RX9 354 yX9_isOf wsX9_isOf) := goodIn_app (goodIn_of _ (by decide +kernel)) ggX9_move_X9_isOf
set_option maxRecDepth 20000 in
theorem ggX9_move_X9_isIn : GoodIn wsX9_move wsX9_isIn := goodIn_r _ [13] (by decide +kernel) (by decide +kernel)
set_option maxRecDepth 20000 in
theorem gX9_move_X9_isIn : GoodIn wsX9_move (va_wsS RX9 155 yX9_isIn wsX9_isIn) := goodIn_app (goodIn_of _ (by decide +kernel)) ggX9_move_X9_isIn
set_option maxRecDepth 20000 in
theorem ggX9_move_X9_refuse : GoodIn wsX9_move wsX9_refuse := goodIn_r _ [24, 25, 43, 44, 45, 46, 47, 48, 49, 50, 51, 52, 53, 54, 55, 56, 57, 58, 59, 60, 61, 62, 63, 64, 65, 66, 67, 68, 69, 70, 71, 72, 73, 74, 75, 76, 77, 78, 79, 80, 81, 82, 83, 84, 85, 86, 87, 88, 89, 90, 91, 92, 93, 94, 95, 96, 97, 98, 99, 100, 101, 102, 103, 104, 105] (by decide +kernel) (by decide +kernel)
set_option maxRecDepth 20000 in
theorem gX9_move_X9_refuse : GoodIn wsX9_move (wsV RX9 401 RX9 yX9_refuse wsX9_refuse) := goodIn_app (goodIn_of _ (by decide +kernel)) ggX9_move_X9_refuse
set_option maxRecDepth 20000 in
theorem ggX9_move_X9_keep : GoodIn wsX9_move wsX9_keep := goodIn_r _ [29, 30, 31, 32, 33, 34, 8, 35, 36, 37, 38, 39, 40, 41, 2, 42, 4, 43, 44, 45, 46, 47, 48, 49, 50, 51, 52, 53, 54, 55, 56, 57, 58, 59, 60, 61, 62, 63, 64, 65, 66, 67, 68, 69, 70, 71, 72, 73, 74, 75, 76, 77, 78, 79, 80, 81, 82, 83, 84, 85, 86, 87, 88, 89, 90, 91, 92, 93, 94, 95, 96, 97, 98, 99, 100, 101, 102, 103, 104, 105] (by decide +kernel) (by decide +kernel)
set_option maxRecDepth 20000 in
theorem gX9_move_X9_keep : GoodIn wsX9_move (wsV RX9 404 RX9 yX9_keep wsX9_keep) := goodIn_app (goodIn_of _ (by decide +kernel)) ggX9_move_X9_keep
theorem dX9_move_0 : decode cX9_move 0 = .ok (.aload_n 0, 1) := by decide +kernel
theorem dX9_move_1 : decode cX9_move 1 = .ok (.iconst 0, 1) := by decide +kernel
theorem dX9_move_2 : decode cX9_move 2 = .ok (.putfield 152, 3) := by decide +kernel
theorem dX9_move_5 : decode cX9_move 5 = .ok (.aload_n 0, 1) := by decide +kernel
theorem dX9_move_6 : decode cX9_move 6 = .ok (.iload_n 1, 1) := by decide +kernel
theorem dX9_move_7 : decode cX9_move 7 = .ok (.invokevirtual 389, 3) := by decide +kernel
theorem dX9_move_10 : decode cX9_move 10 = .ok (.ifCond .ne 9, 3) := by decide +kernel
theorem dX9_move_13 : decode cX9_move 13 = .ok (.aload_n 0, 1) := by decide +kernel
theorem dX9_move_14 : decode cX9_move 14 = .ok (.iconst 1, 1) := by decide +kernel
theorem dX9_move_15 : decode cX9_move 15 = .ok (.invokevirtual 299, 3) := by decide +kernel
theorem dX9_move_18 : decode cX9_move 18 = .ok (.ireturn, 1) := by decide +kernel
theorem dX9_move_19 : decode cX9_move 19 = .ok (.aload_n 0, 1) := by decide +kernel
theorem dX9_move_20 : decode cX9_move 20 = .ok (.getfield 319, 3) := by decide +kernel
theorem dX9_move_23 : decode cX9_move 23 = .ok (.iload_n 1, 1) := by decide +kernel
theorem dX9_move_24 : decode cX9_move 24 = .ok (.invokestatic 354, 3) := by decide +kernel
theorem dX9_move_27 : decode cX9_move 27 = .ok (.ifCond .ne 15, 3) := by decide +kernel
theorem dX9_move_30 : decode cX9_move 30 = .ok (.iload_n 2, 1) := by decide +kernel
theorem dX9_move_31 : decode cX9_move 31 = .ok (.i2l, 1) := by decide +kernel
theorem dX9_move_32 : decode cX9_move 32 = .ok (.lconst 0, 1) := by decide +kernel
theorem dX9_move_33 : decode cX9_move 33 = .ok (.ldc2_w 412, 3) := by decide +kernel
theorem dX9_move_36 : decode cX9_move 36 = .ok (.invokestatic 155, 3) := by decide +kernel
theorem dX9_move_39 : decode cX9_move 39 = .ok (.ifCond .ne 9, 3) := by decide +kernel
theorem dX9_move_42 : decode cX9_move 42 = .ok (.aload_n 0, 1) := by decide +kernel
theorem dX9_move_43 : decode cX9_move 43 = .ok (.iconst 1, 1) := by decide +kernel
theorem dX9_move_44 : decode cX9_move 44 = .ok (.invokevirtual 401, 3) := by decide +kernel
theorem dX9_move_47 : decode cX9_move 47 = .ok (.ireturn, 1) := by decide +kernel
theorem dX9_move_48 : decode cX9_move 48 = .ok (.aload_n 0, 1) := by decide +kernel
theorem dX9_move_49 : decode cX9_move 49 = .ok (.invokevirtual 404, 3) := by decide +kernel
theorem dX9_move_52 : decode cX9_move 52 = .ok (.aload_n 0, 1) := by decide +kernel
theorem dX9_move_53 : decode cX9_move 53 = .ok (.getfield 91, 3) := by decide +kernel
theorem dX9_move_56 : decode cX9_move 56 = .ok (.iload_n 1, 1) := by decide +kernel
theorem dX9_move_57 : decode cX9_move 57 = .ok (.iaload, 1) := by decide +kernel
theorem dX9_move_58 : decode cX9_move 58 = .ok (.istore_n 3, 1) := by decide +kernel
theorem dX9_move_59 : decode cX9_move 59 = .ok (.aload_n 0, 1) := by decide +kernel
theorem dX9_move_60 : decode cX9_move 60 = .ok (.getfield 91, 3) := by decide +kernel
theorem dX9_move_63 : decode cX9_move 63 = .ok (.iload_n 1, 1) := by decide +kernel
theorem dX9_move_64 : decode cX9_move 64 = .ok (.iload_n 2, 1) := by decide +kernel
theorem dX9_move_65 : decode cX9_move 65 = .ok (.iastore, 1) := by decide +kernel
theorem dX9_move_66 : decode cX9_move 66 = .ok (.iload_n 3, 1) := by decide +kernel
theorem dX9_move_67 : decode cX9_move 67 = .ok (.ireturn, 1) := by decide +kernel
set_option maxRecDepth 20000 in
theorem ggX9_undo_X9_unpack : GoodIn wsX9_undo wsX9_unpack := goodIn_r _ [8, 9, 10, 11, 12, 13, 14, 15, 16, 17, 18, 19, 20, 21, 22, 23, 24, 25, 26, 27, 28, 29, 30, 31, 32, 33, 34, 35, 36, 37, 38, 39, 40, 41, 42, 43, 44, 45, 46, 47, 48, 49, 50, 51, 52, 53, 54, 55, 56, 57, 58, 59, 60, 61, 62, 63, 64, 65, 66, 67, 68, 69, 70, 71, 72, 73, 74, 75, 76, 77, 78, 79, 80] (by decide +kernel) (by decide +kernel)
set_option maxRecDepth 20000 in
theorem gX9_undo_X9_unpack : GoodIn wsX9_undo (wsV RX9 416 RX9 yX9_unpack wsX9_unpack) := goodIn_app (goodIn_of _ (by decide +kernel)) ggX9_undo_X9_unpack
theorem dX9_undo_0 : decode cX9_undo 0 = .ok (.aload_n 0, 1) := by decide +kernel
theorem dX9_undo_1 : decode cX9_undo 1 = .ok (.iconst 0, 1) := by decide +kernel
theorem dX9_undo_2 : decode cX9_undo 2 = .ok (.putfield 152, 3) := by decide +kernel
theorem dX9_undo_5 : decode cX9_undo 5 = .ok (.aload_n 0, 1) := by decide +kernel
theorem dX9_undo_6 : decode cX9_undo 6 = .ok (.getfield 321, 3) := by decide +kernel
theorem dX9_undo_9 : decode cX9_undo 9 = .ok (.ifCond .ne 5, 3) := by decide +kernel
theorem dX9_undo_12 : decode cX9_undo 12 = .ok (.iconst (-1), 1) := by decide +kernel
theorem dX9_undo_13 : decode cX9_undo 13 = .ok (.ireturn, 1) := by decide +kernel
theorem dX9_undo_14 : decode cX9_undo 14 = .ok (.aload_n 0, 1) := by decide +kernel
theorem dX9_undo_15 : decode cX9_undo 15 = .ok (.dup, 1) := by decide +kernel
theorem dX9_undo_16 : decode cX9_undo 16 = .ok (.getfield 321, 3) := by decide +kernel
theorem dX9_undo_19 : decode cX9_undo 19 = .ok (.iconst 1, 1) := by decide +kernel
theorem dX9_undo_20 : decode cX9_undo 20 = .ok (.isub, 1) := by decide +kernel
theorem dX9_undo_21 : decode cX9_undo 21 = .ok (.putfield 321, 3) := by decide +kernel
theorem dX9_undo_24 : decode cX9_undo 24 = .ok (.aload_n 0, 1) := by decide +kernel
theorem dX9_undo_25 : decode cX9_undo 25 = .ok (.aload_n 0, 1) := by decide +kernel
theorem dX9_undo_26 : decode cX9_undo 26 = .ok (.getfield 94, 3) := by decide +kernel
theorem dX9_undo_29 : decode cX9_undo 29 = .ok (.bipush 24, 2) := by decide +kernel
theorem dX9_undo_31 : decode cX9_undo 31 = .ok (.aload_n 0, 1) := by decide +kernel
theorem dX9_undo_32 : decode cX9_undo 32 = .ok (.getfield 321, 3) := by decide +kernel
theorem dX9_undo_35 : decode cX9_undo 35 = .ok (.imul, 1) := by decide +kernel
theorem dX9_undo_36 : decode cX9_undo 36 = .ok (.invokevirtual 416, 3) := by decide +kernel
theorem dX9_undo_39 : decode cX9_undo 39 = .ok (.aload_n 0, 1) := by decide +kernel
theorem dX9_undo_40 : decode cX9_undo 40 = .ok (.getfield 321, 3) := by decide +kernel
theorem dX9_undo_43 : decode cX9_undo 43 = .ok (.ireturn, 1) := by decide +kernel
set_option maxRecDepth 20000 in
theorem ggX9_saying_X9_isIn : GoodIn wsX9_saying wsX9_isIn := goodIn_r _ [8] (by decide +kernel) (by decide +kernel)
set_option maxRecDepth 20000 in
theorem gX9_saying_X9_isIn : GoodIn wsX9_saying (va_wsS RX9 155 yX9_isIn wsX9_isIn) := goodIn_app (goodIn_of _ (by decide +kernel)) ggX9_saying_X9_isIn
set_option maxRecDepth 20000 in
theorem ggX9_saying_X9_fail : GoodIn wsX9_saying wsX9_fail := goodIn_r _ [12, 1, 98, 99, 100, 101, 102, 103, 104, 105, 106, 107, 108, 109, 110, 111, 112, 113, 114, 115, 116, 117, 118, 119, 120, 121, 122, 123, 124, 125, 126, 127, 128, 129, 130, 131, 132, 133, 134, 135, 136, 137, 138, 139, 140, 141, 142, 143, 144, 145, 146, 147, 148, 149, 150, 151, 152, 153, 154, 155, 156, 157, 158, 159, 160] (by decide +kernel) (by decide +kernel)
set_option maxRecDepth 20000 in
theorem gX9_saying_X9_fail : GoodIn wsX9_saying (wsV RX9 299 RX9 yX9_fail wsX9_fail) := goodIn_app (goodIn_of _ (by decide +kernel)) ggX9_saying_X9_fail
set_option maxRecDepth 20000 in
theorem ggX9_saying_X9_pack : GoodIn wsX9_saying wsX9_pack := goodIn_r _ [16, 17, 18, 19, 20, 21, 22, 23, 24, 25, 98, 99, 100, 101, 102, 103, 104, 105, 106, 107, 108, 109, 110, 111, 112, 113, 114, 115, 116, 117, 118, 119, 120, 121, 122, 123, 124, 125, 126, 127, 128, 129, 130, 131, 132, 133, 134, 135, 136, 137, 138, 139, 140, 141, 142, 143, 144, 145, 146, 147, 148, 149, 150, 151, 152, 153, 154, 155, 156, 157, 158, 159, 160] (by decide +kernel) (by decide +kernel)
set_option maxRecDepth 20000 in
theorem gX9_saying_X9_pack : GoodIn wsX9_saying (wsV RX9 395 RX9 yX9_pack wsX9_pack) := goodIn_app (goodIn_of _ (by decide +kernel)) ggX9_saying_X9_pack
set_option maxRecDepth 20000 in
theorem ggX9_saying_X9_goOn : GoodIn wsX9_saying wsX9_goOn := goodIn_r _ [29, 30, 31, 32, 7, 33, 4, 18, 34, 35, 36, 37, 38, 39, 40, 25, 23, 41, 21, 42, 43, 44, 45, 22, 19, 20, 17, 46, 47, 48, 49, 50, 51, 52, 53, 54, 55, 56, 57, 58, 59, 60, 61, 62, 63, 64, 65, 66, 67, 68, 69, 70, 71, 72, 73, 74, 75, 24, 76, 77, 78, 79, 80, 81, 82, 83, 84, 85, 86, 87, 88, 89, 90, 91, 92, 93, 98, 99, 100, 101, 102, 103, 104, 105, 106, 107, 108, 109, 110, 111, 112, 113, 114, 115, 116, 117, 118, 119, 120, 121, 122, 123, 124, 125, 126, 127, 128, 129, 130, 131, 132, 133, 134, 135, 136, 137, 138, 139, 140, 141, 142, 143, 144, 145, 146, 147, 148, 149, 150, 151, 152, 153, 154, 155, 156, 157, 158, 159, 160] (by decide +kernel) (by decide +kernel)
set_option maxRecDepth 20000 in
theorem gX9_saying_X9_goOn : GoodIn wsX9_saying (wsV RX9 407 RX9 yX9_goOn wsX9_goOn) := goodIn_app (goodIn_of _ (by decide +kernel)) ggX9_saying_X9_goOn
set_option maxRecDepth 20000 in
theorem ggX9_saying_X9_unpack : GoodIn wsX9_saying wsX9_unpack := goodIn_r _ [97, 17, 18, 19, 20, 21, 22, 23, 24, 25, 98, 99, 100, 101, 102, 103, 104, 105, 106, 107, 108, 109, 110, 111, 112, 113, 114, 115, 116, 117, 118, 119, 120, 121, 122, 123, 124, 125, 126, 127, 128, 129, 130, 131, 132, 133, 134, 135, 136, 137, 138, 139, 140, 141, 142, 143, 144, 145, 146, 147, 148, 149, 150, 151, 152, 153, 154, 155, 156, 157, 158, 159, 160] (by decide +kernel) (by decide +kernel)
set_option maxRecDepth 20000 in
theorem gX9_saying_X9_unpack : GoodIn wsX9_saying (wsV RX9 416 RX9 yX9_unpack wsX9_unpack) := goodIn_app (goodIn_of _ (by decide +kernel)) ggX9_saying_X9_unpack
theorem dX9_saying_0 : decode cX9_saying 0 = .ok (.aload_n 0, 1) := by decide +kernel
theorem dX9_saying_1 : decode cX9_saying 1 = .ok (.iconst 0, 1) := by decide +kernel
theorem dX9_saying_2 : decode cX9_saying 2 = .ok (.putfield 152, 3) := by decide +kernel
theorem dX9_saying_5 : decode cX9_saying 5 = .ok (.iload_n 1, 1) := by decide +kernel
theorem dX9_saying_6 : decode cX9_saying 6 = .ok (.i2l, 1) := by decide +kernel
theorem dX9_saying_7 : decode cX9_saying 7 = .ok (.lconst 1, 1) := by decide +kernel
theorem dX9_saying_8 : decode cX9_saying 8 = .ok (.ldc2_w 419, 3) := by decide +kernel
theorem dX9_saying_11 : decode cX9_saying 11 = .ok (.invokestatic 155, 3) := by decide +kernel
theorem dX9_saying_14 : decode cX9_saying 14 = .ok (.ifCond .ne 9, 3) := by decide +kernel
theorem dX9_saying_17 : decode cX9_saying 17 = .ok (.aload_n 0, 1) := by decide +kernel
theorem dX9_saying_18 : decode cX9_saying 18 = .ok (.iconst 1, 1) := by decide +kernel
theorem dX9_saying_19 : decode cX9_saying 19 = .ok (.invokevirtual 299, 3) := by decide +kernel
theorem dX9_saying_22 : decode cX9_saying 22 = .ok (.ireturn, 1) := by decide +kernel
theorem dX9_saying_23 : decode cX9_saying 23 = .ok (.aload_n 0, 1) := by decide +kernel
theorem dX9_saying_24 : decode cX9_saying 24 = .ok (.aload_n 0, 1) := by decide +kernel
theorem dX9_saying_25 : decode cX9_saying 25 = .ok (.getfield 106, 3) := by decide +kernel
theorem dX9_saying_28 : decode cX9_saying 28 = .ok (.iconst 0, 1) := by decide +kernel
theorem dX9_saying_29 : decode cX9_saying 29 = .ok (.invokevirtual 395, 3) := by decide +kernel
theorem dX9_saying_32 : decode cX9_saying 32 = .ok (.aload_n 0, 1) := by decide +kernel
theorem dX9_saying_33 : decode cX9_saying 33 = .ok (.iload_n 1, 1) := by decide +kernel
theorem dX9_saying_34 : decode cX9_saying 34 = .ok (.invokevirtual 407, 3) := by decide +kernel
theorem dX9_saying_37 : decode cX9_saying 37 = .ok (.aload_n 0, 1) := by decide +kernel
theorem dX9_saying_38 : decode cX9_saying 38 = .ok (.aload_n 0, 1) := by decide +kernel
theorem dX9_saying_39 : decode cX9_saying 39 = .ok (.getfield 106, 3) := by decide +kernel
theorem dX9_saying_42 : decode cX9_saying 42 = .ok (.iconst 0, 1) := by decide +kernel
theorem dX9_saying_43 : decode cX9_saying 43 = .ok (.invokevirtual 416, 3) := by decide +kernel
theorem dX9_saying_46 : decode cX9_saying 46 = .ok (.aload_n 0, 1) := by decide +kernel
theorem dX9_saying_47 : decode cX9_saying 47 = .ok (.getfield 360, 3) := by decide +kernel
theorem dX9_saying_50 : decode cX9_saying 50 = .ok (.ireturn, 1) := by decide +kernel
set_option maxRecDepth 20000 in
theorem ggX9_passedIn_X9_pack : GoodIn wsX9_passedIn wsX9_pack := goodIn_r _ [7, 8, 9, 10, 11, 12, 13, 2, 14, 15, 85, 86, 87, 88, 89, 90, 91, 92, 93, 94, 95, 96, 97, 98, 99, 100, 101, 102, 103, 104, 105, 106, 107, 108, 109, 110, 111, 112, 113, 114, 115, 116, 117, 118, 119, 120, 121, 122, 123, 124, 125, 126, 127, 128, 129, 130, 131, 132, 133, 134, 135, 136, 137, 138, 139, 140, 141, 142, 143, 144, 145, 146, 147] (by decide +kernel) (by decide +kernel)
set_option maxRecDepth 20000 in
theorem gX9_passedIn_X9_pack : GoodIn wsX9_passedIn (wsV RX9 395 RX9 yX9_pack wsX9_pack) := goodIn_app (goodIn_of _ (by decide +kernel)) ggX9_passedIn_X9_pack
set_option maxRecDepth 20000 in
theorem ggX9_passedIn_X9_isOf : GoodIn wsX9_passedIn wsX9_isOf := goodIn_r _ [18] (by decide +kernel) (by decide +kernel)
set_option maxRecDepth 20000 in
theorem gX9_passedIn_X9_isOf : GoodIn wsX9_passedIn (va_wsS RX9 354 yX9_isOf wsX9_isOf) := goodIn_app (goodIn_of _ (by decide +kernel)) ggX9_passedIn_X9_isOf
set_option maxRecDepth 20000 in
theorem ggX9_passedIn_X9_anHour : GoodIn wsX9_passedIn wsX9_anHour := goodIn_r _ [22, 23, 9, 24, 25, 26, 27, 28, 29, 30, 15, 2, 31, 12, 32, 33, 34, 35, 13, 10, 11, 8, 36, 37, 38, 6, 39, 40, 41, 42, 43, 44, 45, 46, 47, 48, 49, 50, 51, 52, 53, 54, 16, 17, 18, 55, 56, 57, 58, 59, 60, 61, 62, 14, 63, 64, 65, 66, 67, 68, 69, 70, 71, 72, 73, 74, 75, 76, 77, 78, 79, 80, 85, 86, 87, 88, 89, 90, 91, 92, 93, 94, 95, 96, 97, 98, 99, 100, 101, 102, 103, 104, 105, 106, 107, 108, 109, 110, 111, 112, 113, 114, 115, 116, 117, 118, 119, 120, 121, 122, 123, 124, 125, 126, 127, 128, 129, 130, 131, 132, 133, 134, 135, 136, 137, 138, 139, 140, 141, 142, 143, 144, 145, 146, 147] (by decide +kernel) (by decide +kernel)
set_option maxRecDepth 20000 in
theorem gX9_passedIn_X9_anHour : GoodIn wsX9_passedIn (wsV RX9 375 RX9 yX9_anHour wsX9_anHour) := goodIn_app (goodIn_of _ (by decide +kernel)) ggX9_passedIn_X9_anHour
set_option maxRecDepth 20000 in
theorem ggX9_passedIn_X9_unpack : GoodIn wsX9_passedIn wsX9_unpack := goodIn_r _ [84, 8, 9, 10, 11, 12, 13, 2, 14, 15, 85, 86, 87, 88, 89, 90, 91, 92, 93, 94, 95, 96, 97, 98, 99, 100, 101, 102, 103, 104, 105, 106, 107, 108, 109, 110, 111, 112, 113, 114, 115, 116, 117, 118, 119, 120, 121, 122, 123, 124, 125, 126, 127, 128, 129, 130, 131, 132, 133, 134, 135, 136, 137, 138, 139, 140, 141, 142, 143, 144, 145, 146, 147] (by decide +kernel) (by decide +kernel)
set_option maxRecDepth 20000 in
theorem gX9_passedIn_X9_unpack : GoodIn wsX9_passedIn (wsV RX9 416 RX9 yX9_unpack wsX9_unpack) := goodIn_app (goodIn_of _ (by decide +kernel)) ggX9_passedIn_X9_unpack
theorem dX9_passedIn_0 : decode cX9_passedIn 0 = .ok (.aload_n 0, 1) := by decide +kernel
theorem dX9_passedIn_1 : decode cX9_passedIn 1 = .ok (.aload_n 0, 1) := by decide +kernel
theorem dX9_passedIn_2 : decode cX9_passedIn 2 = .ok (.getfield 106, 3) := by decide +kernel
theorem dX9_passedIn_5 : decode cX9_passedIn 5 = .ok (.iconst 0, 1) := by decide +kernel
theorem dX9_passedIn_6 : decode cX9_passedIn 6 = .ok (.invokevirtual 395, 3) := by decide +kernel
theorem dX9_passedIn_9 : decode cX9_passedIn 9 = .ok (.iconst (-1), 1) := by decide +kernel
theorem dX9_passedIn_10 : decode cX9_passedIn 10 = .ok (.istore_n 3, 1) := by decide +kernel
theorem dX9_passedIn_11 : decode cX9_passedIn 11 = .ok (.iconst 0, 1) := by decide +kernel
theorem dX9_passedIn_12 : decode cX9_passedIn 12 = .ok (.istore 4, 2) := by decide +kernel
theorem dX9_passedIn_14 : decode cX9_passedIn 14 = .ok (.iload 4, 2) := by decide +kernel
theorem dX9_passedIn_16 : decode cX9_passedIn 16 = .ok (.iload_n 2, 1) := by decide +kernel
theorem dX9_passedIn_17 : decode cX9_passedIn 17 = .ok (.if_icmp .gt 32, 3) := by decide +kernel
theorem dX9_passedIn_20 : decode cX9_passedIn 20 = .ok (.iload_n 3, 1) := by decide +kernel
theorem dX9_passedIn_21 : decode cX9_passedIn 21 = .ok (.iconst (-1), 1) := by decide +kernel
theorem dX9_passedIn_22 : decode cX9_passedIn 22 = .ok (.if_icmp .ne 27, 3) := by decide +kernel
theorem dX9_passedIn_25 : decode cX9_passedIn 25 = .ok (.aload_n 0, 1) := by decide +kernel
theorem dX9_passedIn_26 : decode cX9_passedIn 26 = .ok (.getfield 319, 3) := by decide +kernel
theorem dX9_passedIn_29 : decode cX9_passedIn 29 = .ok (.iload_n 1, 1) := by decide +kernel
theorem dX9_passedIn_30 : decode cX9_passedIn 30 = .ok (.invokestatic 354, 3) := by decide +kernel
theorem dX9_passedIn_33 : decode cX9_passedIn 33 = .ok (.ifCond .eq 6, 3) := by decide +kernel
theorem dX9_passedIn_36 : decode cX9_passedIn 36 = .ok (.iload 4, 2) := by decide +kernel
theorem dX9_passedIn_38 : decode cX9_passedIn 38 = .ok (.istore_n 3, 1) := by decide +kernel
theorem dX9_passedIn_39 : decode cX9_passedIn 39 = .ok (.aload_n 0, 1) := by decide +kernel
theorem dX9_passedIn_40 : decode cX9_passedIn 40 = .ok (.invokevirtual 375, 3) := by decide +kernel
theorem dX9_passedIn_43 : decode cX9_passedIn 43 = .ok (.iinc 4 1, 3) := by decide +kernel
theorem dX9_passedIn_46 : decode cX9_passedIn 46 = .ok (.goto (-32), 3) := by decide +kernel
theorem dX9_passedIn_49 : decode cX9_passedIn 49 = .ok (.aload_n 0, 1) := by decide +kernel
theorem dX9_passedIn_50 : decode cX9_passedIn 50 = .ok (.aload_n 0, 1) := by decide +kernel
theorem dX9_passedIn_51 : decode cX9_passedIn 51 = .ok (.getfield 106, 3) := by decide +kernel
theorem dX9_passedIn_54 : decode cX9_passedIn 54 = .ok (.iconst 0, 1) := by decide +kernel
theorem dX9_passedIn_55 : decode cX9_passedIn 55 = .ok (.invokevirtual 416, 3) := by decide +kernel
theorem dX9_passedIn_58 : decode cX9_passedIn 58 = .ok (.iload_n 3, 1) := by decide +kernel
theorem dX9_passedIn_59 : decode cX9_passedIn 59 = .ok (.ireturn, 1) := by decide +kernel
set_option maxRecDepth 20000 in
theorem ggX9_when_X9_isMotion : GoodIn wsX9_when wsX9_isMotion := goodIn_r _ [6, 7, 8, 9, 5, 10, 101, 102, 103, 104, 105, 106, 107, 108, 109, 110, 111, 112, 113, 114, 115, 116, 117, 118, 119, 120, 121, 122, 123, 124, 125, 126, 127, 128, 129, 130, 131, 132, 133, 134, 135, 136, 137, 138, 139, 140, 141, 142, 143, 144, 145, 146, 147, 148, 149, 150, 151, 152, 153, 154, 155, 156, 157, 158, 159, 160, 161, 162, 163] (by decide +kernel) (by decide +kernel)
set_option maxRecDepth 20000 in
theorem gX9_when_X9_isMotion : GoodIn wsX9_when (wsV RX9 389 RX9 yX9_isMotion wsX9_isMotion) := goodIn_app (goodIn_of _ (by decide +kernel)) ggX9_when_X9_isMotion
set_option maxRecDepth 20000 in
theorem ggX9_when_X9_passedIn : GoodIn wsX9_when wsX9_passedIn := goodIn_r _ [14, 15, 16, 17, 18, 19, 5, 20, 21, 22, 23, 24, 25, 26, 27, 28, 29, 30, 31, 32, 33, 34, 35, 36, 37, 38, 39, 40, 41, 7, 42, 43, 44, 45, 46, 47, 48, 49, 50, 51, 52, 53, 54, 55, 56, 57, 58, 59, 60, 61, 62, 63, 64, 65, 66, 67, 68, 69, 70, 71, 72, 73, 74, 75, 76, 77, 78, 79, 80, 81, 82, 83, 84, 85, 86, 87, 88, 89, 90, 91, 92, 93, 94, 95, 96, 101, 102, 103, 104, 105, 106, 107, 108, 109, 110, 111, 112, 113, 114, 115, 116, 117, 118, 119, 120, 121, 122, 123, 124, 125, 126, 127, 128, 129, 130, 131, 132, 133, 134, 135, 136, 137, 138, 139, 140, 141, 142, 143, 144, 145, 146, 147, 148, 149, 150, 151, 152, 153, 154, 155, 156, 157, 158, 159, 160, 161, 162, 163] (by decide +kernel) (by decide +kernel)
set_option maxRecDepth 20000 in
theorem gX9_when_X9_passedIn : GoodIn wsX9_when (wsV RX9 421 RX9 yX9_passedIn wsX9_passedIn) := goodIn_app (goodIn_of _ (by decide +kernel)) ggX9_when_X9_passedIn
set_option maxRecDepth 20000 in
theorem ggX9_when_X9_fail : GoodIn wsX9_when wsX9_fail := goodIn_r _ [100, 1, 101, 102, 103, 104, 105, 106, 107, 108, 109, 110, 111, 112, 113, 114, 115, 116, 117, 118, 119, 120, 121, 122, 123, 124, 125, 126, 127, 128, 129, 130, 131, 132, 133, 134, 135, 136, 137, 138, 139, 140, 141, 142, 143, 144, 145, 146, 147, 148, 149, 150, 151, 152, 153, 154, 155, 156, 157, 158, 159, 160, 161, 162, 163] (by decide +kernel) (by decide +kernel)
set_option maxRecDepth 20000 in
theorem gX9_when_X9_fail : GoodIn wsX9_when (wsV RX9 299 RX9 yX9_fail wsX9_fail) := goodIn_app (goodIn_of _ (by decide +kernel)) ggX9_when_X9_fail
theorem dX9_when_0 : decode cX9_when 0 = .ok (.aload_n 0, 1) := by decide +kernel
theorem dX9_when_1 : decode cX9_when 1 = .ok (.iconst 0, 1) := by decide +kernel
theorem dX9_when_2 : decode cX9_when 2 = .ok (.putfield 152, 3) := by decide +kernel
theorem dX9_when_5 : decode cX9_when 5 = .ok (.aload_n 0, 1) := by decide +kernel
theorem dX9_when_6 : decode cX9_when 6 = .ok (.iload_n 1, 1) := by decide +kernel
theorem dX9_when_7 : decode cX9_when 7 = .ok (.invokevirtual 389, 3) := by decide +kernel
theorem dX9_when_10 : decode cX9_when 10 = .ok (.ifCond .eq 13, 3) := by decide +kernel
theorem dX9_when_13 : decode cX9_when 13 = .ok (.aload_n 0, 1) := by decide +kernel
theorem dX9_when_14 : decode cX9_when 14 = .ok (.iload_n 1, 1) := by decide +kernel
theorem dX9_when_15 : decode cX9_when 15 = .ok (.bipush 96, 2) := by decide +kernel
theorem dX9_when_17 : decode cX9_when 17 = .ok (.invokevirtual 421, 3) := by decide +kernel
theorem dX9_when_20 : decode cX9_when 20 = .ok (.goto 8, 3) := by decide +kernel
theorem dX9_when_23 : decode cX9_when 23 = .ok (.aload_n 0, 1) := by decide +kernel
theorem dX9_when_24 : decode cX9_when 24 = .ok (.iconst 1, 1) := by decide +kernel
theorem dX9_when_25 : decode cX9_when 25 = .ok (.invokevirtual 299, 3) := by decide +kernel
theorem dX9_when_28 : decode cX9_when 28 = .ok (.ireturn, 1) := by decide +kernel
set_option maxRecDepth 20000 in
theorem ggX9_then_X9_fail : GoodIn wsX9_then wsX9_fail := goodIn_r _ [10, 1, 98, 99, 100, 101, 102, 103, 104, 105, 106, 107, 108, 109, 110, 111, 112, 113, 114, 115, 116, 117, 118, 119, 120, 121, 122, 123, 124, 125, 126, 127, 128, 129, 130, 131, 132, 133, 134, 135, 136, 137, 138, 139, 140, 141, 142, 143, 144, 145, 146, 147, 148, 149, 150, 151, 152, 153, 154, 155, 156, 157, 158, 159, 160] (by decide +kernel) (by decide +kernel)
set_option maxRecDepth 20000 in
theorem gX9_then_X9_fail : GoodIn wsX9_then (wsV RX9 299 RX9 yX9_fail wsX9_fail) := goodIn_app (goodIn_of _ (by decide +kernel)) ggX9_then_X9_fail
set_option maxRecDepth 20000 in
theorem ggX9_then_X9_isIn : GoodIn wsX9_then wsX9_isIn := goodIn_r _ [13] (by decide +kernel) (by decide +kernel)
set_option maxRecDepth 20000 in
theorem gX9_then_X9_isIn : GoodIn wsX9_then (va_wsS RX9 155 yX9_isIn wsX9_isIn) := goodIn_app (goodIn_of _ (by decide +kernel)) ggX9_then_X9_isIn
set_option maxRecDepth 20000 in
theorem ggX9_then_X9_pack : GoodIn wsX9_then wsX9_pack := goodIn_r _ [17, 18, 19, 20, 21, 4, 5, 22, 23, 24, 98, 99, 100, 101, 102, 103, 104, 105, 106, 107, 108, 109, 110, 111, 112, 113, 114, 115, 116, 117, 118, 119, 120, 121, 122, 123, 124, 125, 126, 127, 128, 129, 130, 131, 132, 133, 134, 135, 136, 137, 138, 139, 140, 141, 142, 143, 144, 145, 146, 147, 148, 149, 150, 151, 152, 153, 154, 155, 156, 157, 158, 159, 160] (by decide +kernel) (by decide +kernel)
set_option maxRecDepth 20000 in
theorem gX9_then_X9_pack : GoodIn wsX9_then (wsV RX9 395 RX9 yX9_pack wsX9_pack) := goodIn_app (goodIn_of _ (by decide +kernel)) ggX9_then_X9_pack
set_option maxRecDepth 20000 in
theorem ggX9_then_X9_goOn : GoodIn wsX9_then wsX9_goOn := goodIn_r _ [28, 29, 30, 31, 9, 32, 33, 19, 34, 35, 36, 37, 38, 39, 40, 24, 22, 41, 4, 42, 43, 44, 45, 5, 20, 21, 18, 46, 47, 48, 49, 50, 51, 52, 53, 54, 55, 56, 57, 58, 59, 60, 61, 62, 63, 64, 65, 66, 67, 68, 69, 70, 71, 72, 73, 74, 75, 23, 76, 77, 78, 79, 80, 81, 82, 83, 84, 85, 86, 87, 88, 89, 90, 91, 92, 93, 98, 99, 100, 101, 102, 103, 104, 105, 106, 107, 108, 109, 110, 111, 112, 113, 114, 115, 116, 117, 118, 119, 120, 121, 122, 123, 124, 125, 126, 127, 128, 129, 130, 131, 132, 133, 134, 135, 136, 137, 138, 139, 140, 141, 142, 143, 144, 145, 146, 147, 148, 149, 150, 151, 152, 153, 154, 155, 156, 157, 158, 159, 160] (by decide +kernel) (by decide +kernel)
set_option maxRecDepth 20000 in
theorem gX9_then_X9_goOn : GoodIn wsX9_then (wsV RX9 407 RX9 yX9_goOn wsX9_goOn) := goodIn_app (goodIn_of _ (by decide +kernel)) ggX9_then_X9_goOn
set_option maxRecDepth 20000 in
theorem ggX9_then_X9_unpack : GoodIn wsX9_then wsX9_unpack := goodIn_r _ [97, 18, 19, 20, 21, 4, 5, 22, 23, 24, 98, 99, 100, 101, 102, 103, 104, 105, 106, 107, 108, 109, 110, 111, 112, 113, 114, 115, 116, 117, 118, 119, 120, 121, 122, 123, 124, 125, 126, 127, 128, 129, 130, 131, 132, 133, 134, 135, 136, 137, 138, 139, 140, 141, 142, 143, 144, 145, 146, 147, 148, 149, 150, 151, 152, 153, 154, 155, 156, 157, 158, 159, 160] (by decide +kernel) (by decide +kernel)
set_option maxRecDepth 20000 in
theorem gX9_then_X9_unpack : GoodIn wsX9_then (wsV RX9 416 RX9 yX9_unpack wsX9_unpack) := goodIn_app (goodIn_of _ (by decide +kernel)) ggX9_then_X9_unpack
theorem dX9_then_0 : decode cX9_then 0 = .ok (.aload_n 0, 1) := by decide +kernel
theorem dX9_then_1 : decode cX9_then 1 = .ok (.iconst 0, 1) := by decide +kernel
theorem dX9_then_2 : decode cX9_then 2 = .ok (.putfield 152, 3) := by decide +kernel
theorem dX9_then_5 : decode cX9_then 5 = .ok (.iload_n 2, 1) := by decide +kernel
theorem dX9_then_6 : decode cX9_then 6 = .ok (.ifCond .lt 8, 3) := by decide +kernel
theorem dX9_then_9 : decode cX9_then 9 = .ok (.iload_n 2, 1) := by decide +kernel
theorem dX9_then_10 : decode cX9_then 10 = .ok (.iconst 1, 1) := by decide +kernel
theorem dX9_then_11 : decode cX9_then 11 = .ok (.if_icmp .le 9, 3) := by decide +kernel
theorem dX9_then_14 : decode cX9_then 14 = .ok (.aload_n 0, 1) := by decide +kernel
theorem dX9_then_15 : decode cX9_then 15 = .ok (.iconst 1, 1) := by decide +kernel
theorem dX9_then_16 : decode cX9_then 16 = .ok (.invokevirtual 299, 3) := by decide +kernel
theorem dX9_then_19 : decode cX9_then 19 = .ok (.ireturn, 1) := by decide +kernel
theorem dX9_then_20 : decode cX9_then 20 = .ok (.iload_n 1, 1) := by decide +kernel
theorem dX9_then_21 : decode cX9_then 21 = .ok (.i2l, 1) := by decide +kernel
theorem dX9_then_22 : decode cX9_then 22 = .ok (.lconst 0, 1) := by decide +kernel
theorem dX9_then_23 : decode cX9_then 23 = .ok (.ldc2_w 419, 3) := by decide +kernel
theorem dX9_then_26 : decode cX9_then 26 = .ok (.invokestatic 155, 3) := by decide +kernel
theorem dX9_then_29 : decode cX9_then 29 = .ok (.ifCond .ne 9, 3) := by decide +kernel
theorem dX9_then_32 : decode cX9_then 32 = .ok (.aload_n 0, 1) := by decide +kernel
theorem dX9_then_33 : decode cX9_then 33 = .ok (.iconst 2, 1) := by decide +kernel
theorem dX9_then_34 : decode cX9_then 34 = .ok (.invokevirtual 299, 3) := by decide +kernel
theorem dX9_then_37 : decode cX9_then 37 = .ok (.ireturn, 1) := by decide +kernel
theorem dX9_then_38 : decode cX9_then 38 = .ok (.aload_n 0, 1) := by decide +kernel
theorem dX9_then_39 : decode cX9_then 39 = .ok (.aload_n 0, 1) := by decide +kernel
theorem dX9_then_40 : decode cX9_then 40 = .ok (.getfield 106, 3) := by decide +kernel
theorem dX9_then_43 : decode cX9_then 43 = .ok (.iconst 0, 1) := by decide +kernel
theorem dX9_then_44 : decode cX9_then 44 = .ok (.invokevirtual 395, 3) := by decide +kernel
theorem dX9_then_47 : decode cX9_then 47 = .ok (.aload_n 0, 1) := by decide +kernel
theorem dX9_then_48 : decode cX9_then 48 = .ok (.iload_n 1, 1) := by decide +kernel
theorem dX9_then_49 : decode cX9_then 49 = .ok (.invokevirtual 407, 3) := by decide +kernel
theorem dX9_then_52 : decode cX9_then 52 = .ok (.iload_n 2, 1) := by decide +kernel
theorem dX9_then_53 : decode cX9_then 53 = .ok (.ifCond .ne 10, 3) := by decide +kernel
theorem dX9_then_56 : decode cX9_then 56 = .ok (.aload_n 0, 1) := by decide +kernel
theorem dX9_then_57 : decode cX9_then 57 = .ok (.getfield 149, 3) := by decide +kernel
theorem dX9_then_60 : decode cX9_then 60 = .ok (.goto 7, 3) := by decide +kernel
theorem dX9_then_63 : decode cX9_then 63 = .ok (.aload_n 0, 1) := by decide +kernel
theorem dX9_then_64 : decode cX9_then 64 = .ok (.getfield 317, 3) := by decide +kernel
theorem dX9_then_67 : decode cX9_then 67 = .ok (.istore_n 3, 1) := by decide +kernel
theorem dX9_then_68 : decode cX9_then 68 = .ok (.aload_n 0, 1) := by decide +kernel
theorem dX9_then_69 : decode cX9_then 69 = .ok (.aload_n 0, 1) := by decide +kernel
theorem dX9_then_70 : decode cX9_then 70 = .ok (.getfield 106, 3) := by decide +kernel
theorem dX9_then_73 : decode cX9_then 73 = .ok (.iconst 0, 1) := by decide +kernel
theorem dX9_then_74 : decode cX9_then 74 = .ok (.invokevirtual 416, 3) := by decide +kernel
theorem dX9_then_77 : decode cX9_then 77 = .ok (.iload_n 3, 1) := by decide +kernel
theorem dX9_then_78 : decode cX9_then 78 = .ok (.ireturn, 1) := by decide +kernel
set_option maxRecDepth 20000 in
theorem ggX9_fails_X9_fail : GoodIn wsX9_fails wsX9_fail := goodIn_r _ [9, 1, 90, 91, 92, 93, 94, 95, 96, 97, 98, 99, 100, 101, 102, 103, 104, 105, 106, 107, 108, 109, 110, 111, 112, 113, 114, 115, 116, 117, 118, 119, 120, 121, 122, 123, 124, 125, 126, 127, 128, 129, 130, 131, 132, 133, 134, 135, 136, 137, 138, 139, 140, 141, 142, 143, 144, 145, 146, 147, 148, 149, 150, 151, 152] (by decide +kernel) (by decide +kernel)
set_option maxRecDepth 20000 in
theorem gX9_fails_X9_fail : GoodIn wsX9_fails (wsV RX9 299 RX9 yX9_fail wsX9_fail) := goodIn_app (goodIn_of _ (by decide +kernel)) ggX9_fails_X9_fail
set_option maxRecDepth 20000 in
theorem ggX9_fails_X9_pack : GoodIn wsX9_fails wsX9_pack := goodIn_r _ [13, 14, 15, 16, 17, 18, 19, 20, 21, 22, 90, 91, 92, 93, 94, 95, 96, 97, 98, 99, 100, 101, 102, 103, 104, 105, 106, 107, 108, 109, 110, 111, 112, 113, 114, 115, 116, 117, 118, 119, 120, 121, 122, 123, 124, 125, 126, 127, 128, 129, 130, 131, 132, 133, 134, 135, 136, 137, 138, 139, 140, 141, 142, 143, 144, 145, 146, 147, 148, 149, 150, 151, 152] (by decide +kernel) (by decide +kernel)
set_option maxRecDepth 20000 in
theorem gX9_fails_X9_pack : GoodIn wsX9_fails (wsV RX9 395 RX9 yX9_pack wsX9_pack) := goodIn_app (goodIn_of _ (by decide +kernel)) ggX9_fails_X9_pack
set_option maxRecDepth 20000 in
theorem ggX9_fails_X9_anHour : GoodIn wsX9_fails wsX9_anHour := goodIn_r _ [26, 3, 15, 4, 27, 28, 29, 30, 31, 32, 22, 20, 33, 18, 34, 35, 36, 37, 19, 16, 17, 14, 38, 39, 40, 8, 41, 42, 43, 44, 45, 46, 47, 48, 49, 50, 51, 52, 53, 54, 55, 56, 57, 58, 59, 60, 61, 62, 63, 64, 65, 66, 67, 21, 68, 69, 70, 71, 72, 73, 74, 75, 76, 77, 78, 79, 80, 81, 82, 83, 84, 85, 90, 91, 92, 93, 94, 95, 96, 97, 98, 99, 100, 101, 102, 103, 104, 105, 106, 107, 108, 109, 110, 111, 112, 113, 114, 115, 116, 117, 118, 119, 120, 121, 122, 123, 124, 125, 126, 127, 128, 129, 130, 131, 132, 133, 134, 135, 136, 137, 138, 139, 140, 141, 142, 143, 144, 145, 146, 147, 148, 149, 150, 151, 152] (by decide +kernel) (by decide +kernel)
set_option maxRecDepth 20000 in
theorem gX9_fails_X9_anHour : GoodIn wsX9_fails (wsV RX9 375 RX9 yX9_anHour wsX9_anHour) := goodIn_app (goodIn_of _ (by decide +kernel)) ggX9_fails_X9_anHour
set_option maxRecDepth 20000 in
theorem ggX9_fails_X9_unpack : GoodIn wsX9_fails wsX9_unpack := goodIn_r _ [89, 14, 15, 16, 17, 18, 19, 20, 21, 22, 90, 91, 92, 93, 94, 95, 96, 97, 98, 99, 100, 101, 102, 103, 104, 105, 106, 107, 108, 109, 110, 111, 112, 113, 114, 115, 116, 117, 118, 119, 120, 121, 122, 123, 124, 125, 126, 127, 128, 129, 130, 131, 132, 133, 134, 135, 136, 137, 138, 139, 140, 141, 142, 143, 144, 145, 146, 147, 148, 149, 150, 151, 152] (by decide +kernel) (by decide +kernel)
set_option maxRecDepth 20000 in
theorem gX9_fails_X9_unpack : GoodIn wsX9_fails (wsV RX9 416 RX9 yX9_unpack wsX9_unpack) := goodIn_app (goodIn_of _ (by decide +kernel)) ggX9_fails_X9_unpack
theorem dX9_fails_0 : decode cX9_fails 0 = .ok (.aload_n 0, 1) := by decide +kernel
theorem dX9_fails_1 : decode cX9_fails 1 = .ok (.iconst 0, 1) := by decide +kernel
theorem dX9_fails_2 : decode cX9_fails 2 = .ok (.putfield 152, 3) := by decide +kernel
theorem dX9_fails_5 : decode cX9_fails 5 = .ok (.iload_n 1, 1) := by decide +kernel
theorem dX9_fails_6 : decode cX9_fails 6 = .ok (.ifCond .lt 8, 3) := by decide +kernel
theorem dX9_fails_9 : decode cX9_fails 9 = .ok (.iload_n 1, 1) := by decide +kernel
theorem dX9_fails_10 : decode cX9_fails 10 = .ok (.iconst 1, 1) := by decide +kernel
theorem dX9_fails_11 : decode cX9_fails 11 = .ok (.if_icmp .le 9, 3) := by decide +kernel
theorem dX9_fails_14 : decode cX9_fails 14 = .ok (.aload_n 0, 1) := by decide +kernel
theorem dX9_fails_15 : decode cX9_fails 15 = .ok (.iconst 1, 1) := by decide +kernel
theorem dX9_fails_16 : decode cX9_fails 16 = .ok (.invokevirtual 299, 3) := by decide +kernel
theorem dX9_fails_19 : decode cX9_fails 19 = .ok (.ireturn, 1) := by decide +kernel
theorem dX9_fails_20 : decode cX9_fails 20 = .ok (.aload_n 0, 1) := by decide +kernel
theorem dX9_fails_21 : decode cX9_fails 21 = .ok (.aload_n 0, 1) := by decide +kernel
theorem dX9_fails_22 : decode cX9_fails 22 = .ok (.getfield 106, 3) := by decide +kernel
theorem dX9_fails_25 : decode cX9_fails 25 = .ok (.iconst 0, 1) := by decide +kernel
theorem dX9_fails_26 : decode cX9_fails 26 = .ok (.invokevirtual 395, 3) := by decide +kernel
theorem dX9_fails_29 : decode cX9_fails 29 = .ok (.iconst (-1), 1) := by decide +kernel
theorem dX9_fails_30 : decode cX9_fails 30 = .ok (.istore_n 2, 1) := by decide +kernel
theorem dX9_fails_31 : decode cX9_fails 31 = .ok (.iconst 1, 1) := by decide +kernel
theorem dX9_fails_32 : decode cX9_fails 32 = .ok (.istore_n 3, 1) := by decide +kernel
theorem dX9_fails_33 : decode cX9_fails 33 = .ok (.iload_n 3, 1) := by decide +kernel
theorem dX9_fails_34 : decode cX9_fails 34 = .ok (.bipush 96, 2) := by decide +kernel
theorem dX9_fails_36 : decode cX9_fails 36 = .ok (.if_icmp .gt 42, 3) := by decide +kernel
theorem dX9_fails_39 : decode cX9_fails 39 = .ok (.iload_n 2, 1) := by decide +kernel
theorem dX9_fails_40 : decode cX9_fails 40 = .ok (.iconst (-1), 1) := by decide +kernel
theorem dX9_fails_41 : decode cX9_fails 41 = .ok (.if_icmp .ne 37, 3) := by decide +kernel
theorem dX9_fails_44 : decode cX9_fails 44 = .ok (.aload_n 0, 1) := by decide +kernel
theorem dX9_fails_45 : decode cX9_fails 45 = .ok (.invokevirtual 375, 3) := by decide +kernel
theorem dX9_fails_48 : decode cX9_fails 48 = .ok (.iload_n 1, 1) := by decide +kernel
theorem dX9_fails_49 : decode cX9_fails 49 = .ok (.ifCond .ne 14, 3) := by decide +kernel
theorem dX9_fails_52 : decode cX9_fails 52 = .ok (.aload_n 0, 1) := by decide +kernel
theorem dX9_fails_53 : decode cX9_fails 53 = .ok (.getfield 360, 3) := by decide +kernel
theorem dX9_fails_56 : decode cX9_fails 56 = .ok (.iconst (-1), 1) := by decide +kernel
theorem dX9_fails_57 : decode cX9_fails 57 = .ok (.if_icmp .ne 15, 3) := by decide +kernel
theorem dX9_fails_60 : decode cX9_fails 60 = .ok (.goto 10, 3) := by decide +kernel
theorem dX9_fails_63 : decode cX9_fails 63 = .ok (.aload_n 0, 1) := by decide +kernel
theorem dX9_fails_64 : decode cX9_fails 64 = .ok (.getfield 363, 3) := by decide +kernel
theorem dX9_fails_67 : decode cX9_fails 67 = .ok (.ifCond .eq 5, 3) := by decide +kernel
theorem dX9_fails_70 : decode cX9_fails 70 = .ok (.iload_n 3, 1) := by decide +kernel
theorem dX9_fails_71 : decode cX9_fails 71 = .ok (.istore_n 2, 1) := by decide +kernel
theorem dX9_fails_72 : decode cX9_fails 72 = .ok (.iinc 3 1, 3) := by decide +kernel
theorem dX9_fails_75 : decode cX9_fails 75 = .ok (.goto (-42), 3) := by decide +kernel
theorem dX9_fails_78 : decode cX9_fails 78 = .ok (.aload_n 0, 1) := by decide +kernel
theorem dX9_fails_79 : decode cX9_fails 79 = .ok (.aload_n 0, 1) := by decide +kernel
theorem dX9_fails_80 : decode cX9_fails 80 = .ok (.getfield 106, 3) := by decide +kernel
theorem dX9_fails_83 : decode cX9_fails 83 = .ok (.iconst 0, 1) := by decide +kernel
theorem dX9_fails_84 : decode cX9_fails 84 = .ok (.invokevirtual 416, 3) := by decide +kernel
theorem dX9_fails_87 : decode cX9_fails 87 = .ok (.iload_n 2, 1) := by decide +kernel
theorem dX9_fails_88 : decode cX9_fails 88 = .ok (.ireturn, 1) := by decide +kernel
set_option maxRecDepth 20000 in
theorem ggX9_calls_X9_isIn : GoodIn wsX9_calls wsX9_isIn := goodIn_r _ [9] (by decide +kernel) (by decide +kernel)
set_option maxRecDepth 20000 in
theorem gX9_calls_X9_isIn : GoodIn wsX9_calls (va_wsS RX9 155 yX9_isIn wsX9_isIn) := goodIn_app (goodIn_of _ (by decide +kernel)) ggX9_calls_X9_isIn
set_option maxRecDepth 20000 in
theorem ggX9_calls_X9_fail : GoodIn wsX9_calls wsX9_fail := goodIn_r _ [13, 1, 95, 96, 97, 98, 99, 100, 101, 102, 103, 104, 105, 106, 107, 108, 109, 110, 111, 112, 113, 114, 115, 116, 117, 118, 119, 120, 121, 122, 123, 124, 125, 126, 127, 128, 129, 130, 131, 132, 133, 134, 135, 136, 137, 138, 139, 140, 141, 142, 143, 144, 145, 146, 147, 148, 149, 150, 151, 152, 153, 154, 155, 156, 157] (by decide +kernel) (by decide +kernel)
set_option maxRecDepth 20000 in
theorem gX9_calls_X9_fail : GoodIn wsX9_calls (wsV RX9 299 RX9 yX9_fail wsX9_fail) := goodIn_app (goodIn_of _ (by decide +kernel)) ggX9_calls_X9_fail
set_option maxRecDepth 20000 in
theorem ggX9_calls_X9_pack : GoodIn wsX9_calls wsX9_pack := goodIn_r _ [17, 18, 19, 20, 21, 22, 23, 24, 25, 26, 95, 96, 97, 98, 99, 100, 101, 102, 103, 104, 105, 106, 107, 108, 109, 110, 111, 112, 113, 114, 115, 116, 117, 118, 119, 120, 121, 122, 123, 124, 125, 126, 127, 128, 129, 130, 131, 132, 133, 134, 135, 136, 137, 138, 139, 140, 141, 142, 143, 144, 145, 146, 147, 148, 149, 150, 151, 152, 153, 154, 155, 156, 157] (by decide +kernel) (by decide +kernel)
set_option maxRecDepth 20000 in
theorem gX9_calls_X9_pack : GoodIn wsX9_calls (wsV RX9 395 RX9 yX9_pack wsX9_pack) := goodIn_app (goodIn_of _ (by decide +kernel)) ggX9_calls_X9_pack
set_option maxRecDepth 20000 in
theorem ggX9_calls_X9_anHour : GoodIn wsX9_calls wsX9_anHour := goodIn_r _ [30, 5, 19, 31, 32, 33, 34, 35, 36, 37, 26, 24, 38, 22, 39, 40, 41, 42, 23, 20, 21, 18, 43, 44, 45, 8, 46, 47, 48, 49, 50, 51, 52, 53, 54, 55, 56, 57, 58, 59, 60, 61, 62, 63, 64, 65, 66, 67, 68, 69, 70, 71, 72, 25, 73, 74, 75, 76, 77, 78, 79, 80, 81, 82, 83, 84, 85, 86, 87, 88, 89, 90, 95, 96, 97, 98, 99, 100, 101, 102, 103, 104, 105, 106, 107, 108, 109, 110, 111, 112, 113, 114, 115, 116, 117, 118, 119, 120, 121, 122, 123, 124, 125, 126, 127, 128, 129, 130, 131, 132, 133, 134, 135, 136, 137, 138, 139, 140, 141, 142, 143, 144, 145, 146, 147, 148, 149, 150, 151, 152, 153, 154, 155, 156, 157] (by decide +kernel) (by decide +kernel)
set_option maxRecDepth 20000 in
theorem gX9_calls_X9_anHour : GoodIn wsX9_calls (wsV RX9 375 RX9 yX9_anHour wsX9_anHour) := goodIn_app (goodIn_of _ (by decide +kernel)) ggX9_calls_X9_anHour
set_option maxRecDepth 20000 in
theorem ggX9_calls_X9_unpack : GoodIn wsX9_calls wsX9_unpack := goodIn_r _ [94, 18, 19, 20, 21, 22, 23, 24, 25, 26, 95, 96, 97, 98, 99, 100, 101, 102, 103, 104, 105, 106, 107, 108, 109, 110, 111, 112, 113, 114, 115, 116, 117, 118, 119, 120, 121, 122, 123, 124, 125, 126, 127, 128, 129, 130, 131, 132, 133, 134, 135, 136, 137, 138, 139, 140, 141, 142, 143, 144, 145, 146, 147, 148, 149, 150, 151, 152, 153, 154, 155, 156, 157] (by decide +kernel) (by decide +kernel)
set_option maxRecDepth 20000 in
theorem gX9_calls_X9_unpack : GoodIn wsX9_calls (wsV RX9 416 RX9 yX9_unpack wsX9_unpack) := goodIn_app (goodIn_of _ (by decide +kernel)) ggX9_calls_X9_unpack
theorem dX9_calls_0 : decode cX9_calls 0 = .ok (.aload_n 0, 1) := by decide +kernel
theorem dX9_calls_1 : decode cX9_calls 1 = .ok (.iconst 0, 1) := by decide +kernel
theorem dX9_calls_2 : decode cX9_calls 2 = .ok (.putfield 152, 3) := by decide +kernel
theorem dX9_calls_5 : decode cX9_calls 5 = .ok (.iload_n 1, 1) := by decide +kernel
theorem dX9_calls_6 : decode cX9_calls 6 = .ok (.i2l, 1) := by decide +kernel
theorem dX9_calls_7 : decode cX9_calls 7 = .ok (.lconst 0, 1) := by decide +kernel
theorem dX9_calls_8 : decode cX9_calls 8 = .ok (.ldc2_w 412, 3) := by decide +kernel
theorem dX9_calls_11 : decode cX9_calls 11 = .ok (.invokestatic 155, 3) := by decide +kernel
theorem dX9_calls_14 : decode cX9_calls 14 = .ok (.ifCond .eq 15, 3) := by decide +kernel
theorem dX9_calls_17 : decode cX9_calls 17 = .ok (.iload_n 2, 1) := by decide +kernel
theorem dX9_calls_18 : decode cX9_calls 18 = .ok (.i2l, 1) := by decide +kernel
theorem dX9_calls_19 : decode cX9_calls 19 = .ok (.lconst 0, 1) := by decide +kernel
theorem dX9_calls_20 : decode cX9_calls 20 = .ok (.ldc2_w 419, 3) := by decide +kernel
theorem dX9_calls_23 : decode cX9_calls 23 = .ok (.invokestatic 155, 3) := by decide +kernel
theorem dX9_calls_26 : decode cX9_calls 26 = .ok (.ifCond .ne 9, 3) := by decide +kernel
theorem dX9_calls_29 : decode cX9_calls 29 = .ok (.aload_n 0, 1) := by decide +kernel
theorem dX9_calls_30 : decode cX9_calls 30 = .ok (.iconst 1, 1) := by decide +kernel
theorem dX9_calls_31 : decode cX9_calls 31 = .ok (.invokevirtual 299, 3) := by decide +kernel
theorem dX9_calls_34 : decode cX9_calls 34 = .ok (.ireturn, 1) := by decide +kernel
theorem dX9_calls_35 : decode cX9_calls 35 = .ok (.aload_n 0, 1) := by decide +kernel
theorem dX9_calls_36 : decode cX9_calls 36 = .ok (.aload_n 0, 1) := by decide +kernel
theorem dX9_calls_37 : decode cX9_calls 37 = .ok (.getfield 106, 3) := by decide +kernel
theorem dX9_calls_40 : decode cX9_calls 40 = .ok (.iconst 0, 1) := by decide +kernel
theorem dX9_calls_41 : decode cX9_calls 41 = .ok (.invokevirtual 395, 3) := by decide +kernel
theorem dX9_calls_44 : decode cX9_calls 44 = .ok (.iconst 0, 1) := by decide +kernel
theorem dX9_calls_45 : decode cX9_calls 45 = .ok (.istore_n 3, 1) := by decide +kernel
theorem dX9_calls_46 : decode cX9_calls 46 = .ok (.iconst 0, 1) := by decide +kernel
theorem dX9_calls_47 : decode cX9_calls 47 = .ok (.istore 4, 2) := by decide +kernel
theorem dX9_calls_49 : decode cX9_calls 49 = .ok (.iload 4, 2) := by decide +kernel
theorem dX9_calls_51 : decode cX9_calls 51 = .ok (.iload_n 2, 1) := by decide +kernel
theorem dX9_calls_52 : decode cX9_calls 52 = .ok (.if_icmp .ge 29, 3) := by decide +kernel
theorem dX9_calls_55 : decode cX9_calls 55 = .ok (.aload_n 0, 1) := by decide +kernel
theorem dX9_calls_56 : decode cX9_calls 56 = .ok (.invokevirtual 375, 3) := by decide +kernel
theorem dX9_calls_59 : decode cX9_calls 59 = .ok (.iload_n 3, 1) := by decide +kernel
theorem dX9_calls_60 : decode cX9_calls 60 = .ok (.aload_n 0, 1) := by decide +kernel
theorem dX9_calls_61 : decode cX9_calls 61 = .ok (.getfield 360, 3) := by decide +kernel
theorem dX9_calls_64 : decode cX9_calls 64 = .ok (.iload_n 1, 1) := by decide +kernel
theorem dX9_calls_65 : decode cX9_calls 65 = .ok (.if_icmp .ne 7, 3) := by decide +kernel
theorem dX9_calls_68 : decode cX9_calls 68 = .ok (.iconst 1, 1) := by decide +kernel
theorem dX9_calls_69 : decode cX9_calls 69 = .ok (.goto 4, 3) := by decide +kernel
theorem dX9_calls_72 : decode cX9_calls 72 = .ok (.iconst 0, 1) := by decide +kernel
theorem dX9_calls_73 : decode cX9_calls 73 = .ok (.iadd, 1) := by decide +kernel
theorem dX9_calls_74 : decode cX9_calls 74 = .ok (.istore_n 3, 1) := by decide +kernel
theorem dX9_calls_75 : decode cX9_calls 75 = .ok (.iinc 4 1, 3) := by decide +kernel
theorem dX9_calls_78 : decode cX9_calls 78 = .ok (.goto (-29), 3) := by decide +kernel
theorem dX9_calls_81 : decode cX9_calls 81 = .ok (.aload_n 0, 1) := by decide +kernel
theorem dX9_calls_82 : decode cX9_calls 82 = .ok (.aload_n 0, 1) := by decide +kernel
theorem dX9_calls_83 : decode cX9_calls 83 = .ok (.getfield 106, 3) := by decide +kernel
theorem dX9_calls_86 : decode cX9_calls 86 = .ok (.iconst 0, 1) := by decide +kernel
theorem dX9_calls_87 : decode cX9_calls 87 = .ok (.invokevirtual 416, 3) := by decide +kernel
theorem dX9_calls_90 : decode cX9_calls 90 = .ok (.iload_n 3, 1) := by decide +kernel
theorem dX9_calls_91 : decode cX9_calls 91 = .ok (.ireturn, 1) := by decide +kernel
set_option maxRecDepth 20000 in
theorem ggX9_toWind_X9_isIn : GoodIn wsX9_toWind wsX9_isIn := goodIn_r _ [11] (by decide +kernel) (by decide +kernel)
set_option maxRecDepth 20000 in
theorem gX9_toWind_X9_isIn : GoodIn wsX9_toWind (va_wsS RX9 155 yX9_isIn wsX9_isIn) := goodIn_app (goodIn_of _ (by decide +kernel)) ggX9_toWind_X9_isIn
set_option maxRecDepth 20000 in
theorem ggX9_toWind_X9_fail : GoodIn wsX9_toWind wsX9_fail := goodIn_r _ [15, 1, 16, 17, 18, 19, 20, 21, 22, 23, 24, 25, 26, 27, 28, 29, 30, 31, 32, 33, 34, 35, 36, 37, 38, 39, 40, 41, 42, 43, 44, 45, 46, 47, 48, 49, 50, 51, 52, 53, 54, 55, 56, 57, 58, 59, 60, 61, 62, 63, 64, 65, 66, 67, 68, 69, 70, 71, 72, 73, 74, 75, 76, 77, 78] (by decide +kernel) (by decide +kernel)
set_option maxRecDepth 20000 in
theorem gX9_toWind_X9_fail : GoodIn wsX9_toWind (wsV RX9 299 RX9 yX9_fail wsX9_fail) := goodIn_app (goodIn_of _ (by decide +kernel)) ggX9_toWind_X9_fail
theorem dX9_toWind_0 : decode cX9_toWind 0 = .ok (.aload_n 0, 1) := by decide +kernel
theorem dX9_toWind_1 : decode cX9_toWind 1 = .ok (.iconst 0, 1) := by decide +kernel
theorem dX9_toWind_2 : decode cX9_toWind 2 = .ok (.putfield 152, 3) := by decide +kernel
theorem dX9_toWind_5 : decode cX9_toWind 5 = .ok (.iload_n 1, 1) := by decide +kernel
theorem dX9_toWind_6 : decode cX9_toWind 6 = .ok (.i2l, 1) := by decide +kernel
theorem dX9_toWind_7 : decode cX9_toWind 7 = .ok (.lconst 1, 1) := by decide +kernel
theorem dX9_toWind_8 : decode cX9_toWind 8 = .ok (.ldc2_w 419, 3) := by decide +kernel
theorem dX9_toWind_11 : decode cX9_toWind 11 = .ok (.invokestatic 155, 3) := by decide +kernel
theorem dX9_toWind_14 : decode cX9_toWind 14 = .ok (.ifCond .eq 16, 3) := by decide +kernel
theorem dX9_toWind_17 : decode cX9_toWind 17 = .ok (.iconst 0, 1) := by decide +kernel
theorem dX9_toWind_18 : decode cX9_toWind 18 = .ok (.iload_n 1, 1) := by decide +kernel
theorem dX9_toWind_19 : decode cX9_toWind 19 = .ok (.aload_n 0, 1) := by decide +kernel
theorem dX9_toWind_20 : decode cX9_toWind 20 = .ok (.getfield 147, 3) := by decide +kernel
theorem dX9_toWind_23 : decode cX9_toWind 23 = .ok (.isub, 1) := by decide +kernel
theorem dX9_toWind_24 : decode cX9_toWind 24 = .ok (.invokestatic 338, 3) := by decide +kernel
theorem dX9_toWind_27 : decode cX9_toWind 27 = .ok (.goto 8, 3) := by decide +kernel
theorem dX9_toWind_30 : decode cX9_toWind 30 = .ok (.aload_n 0, 1) := by decide +kernel
theorem dX9_toWind_31 : decode cX9_toWind 31 = .ok (.iconst 1, 1) := by decide +kernel
theorem dX9_toWind_32 : decode cX9_toWind 32 = .ok (.invokevirtual 299, 3) := by decide +kernel
theorem dX9_toWind_35 : decode cX9_toWind 35 = .ok (.ireturn, 1) := by decide +kernel
set_option maxRecDepth 20000 in
theorem ggX9_moving_X9_isMotion : GoodIn wsX9_moving wsX9_isMotion := goodIn_r _ [8, 9, 10, 11, 7, 12, 101, 102, 103, 104, 105, 106, 107, 108, 109, 110, 111, 112, 113, 114, 115, 116, 117, 118, 119, 120, 121, 122, 123, 124, 125, 126, 127, 128, 129, 130, 131, 132, 133, 134, 135, 136, 137, 138, 139, 140, 141, 142, 143, 144, 145, 146, 147, 148, 149, 150, 151, 152, 153, 154, 155, 156, 157, 158, 159, 160, 161, 162, 163] (by decide +kernel) (by decide +kernel)
set_option maxRecDepth 20000 in
theorem gX9_moving_X9_isMotion : GoodIn wsX9_moving (wsV RX9 389 RX9 yX9_isMotion wsX9_isMotion) := goodIn_app (goodIn_of _ (by decide +kernel)) ggX9_moving_X9_isMotion
set_option maxRecDepth 20000 in
theorem ggX9_moving_X9_fail : GoodIn wsX9_moving wsX9_fail := goodIn_r _ [16, 1, 101, 102, 103, 104, 105, 106, 107, 108, 109, 110, 111, 112, 113, 114, 115, 116, 117, 118, 119, 120, 121, 122, 123, 124, 125, 126, 127, 128, 129, 130, 131, 132, 133, 134, 135, 136, 137, 138, 139, 140, 141, 142, 143, 144, 145, 146, 147, 148, 149, 150, 151, 152, 153, 154, 155, 156, 157, 158, 159, 160, 161, 162, 163] (by decide +kernel) (by decide +kernel)
set_option maxRecDepth 20000 in
theorem gX9_moving_X9_fail : GoodIn wsX9_moving (wsV RX9 299 RX9 yX9_fail wsX9_fail) := goodIn_app (goodIn_of _ (by decide +kernel)) ggX9_moving_X9_fail
set_option maxRecDepth 20000 in
theorem ggX9_moving_X9_isOf : GoodIn wsX9_moving wsX9_isOf := goodIn_r _ [19] (by decide +kernel) (by decide +kernel)
set_option maxRecDepth 20000 in
theorem gX9_moving_X9_isOf : GoodIn wsX9_moving (va_wsS RX9 354 yX9_isOf wsX9_isOf) := goodIn_app (goodIn_of _ (by decide +kernel)) ggX9_moving_X9_isOf
set_option maxRecDepth 20000 in
theorem ggX9_moving_X9_passedIn : GoodIn wsX9_moving wsX9_passedIn := goodIn_r _ [23, 24, 2, 25, 26, 27, 7, 28, 29, 30, 31, 32, 33, 34, 35, 3, 17, 18, 19, 36, 37, 38, 39, 40, 41, 42, 43, 44, 45, 9, 46, 47, 48, 49, 50, 51, 52, 53, 54, 55, 56, 57, 58, 59, 60, 61, 62, 63, 64, 65, 66, 67, 68, 69, 70, 71, 72, 73, 74, 75, 76, 77, 78, 79, 80, 81, 82, 83, 84, 85, 86, 87, 88, 89, 90, 91, 92, 93, 94, 95, 96, 97, 98, 99, 100, 101, 102, 103, 104, 105, 106, 107, 108, 109, 110, 111, 112, 113, 114, 115, 116, 117, 118, 119, 120, 121, 122, 123, 124, 125, 126, 127, 128, 129, 130, 131, 132, 133, 134, 135, 136, 137, 138, 139, 140, 141, 142, 143, 144, 145, 146, 147, 148, 149, 150, 151, 152, 153, 154, 155, 156, 157, 158, 159, 160, 161, 162, 163] (by decide +kernel) (by decide +kernel)
set_option maxRecDepth 20000 in
theorem gX9_moving_X9_passedIn : GoodIn wsX9_moving (wsV RX9 421 RX9 yX9_passedIn wsX9_passedIn) := goodIn_app (goodIn_of _ (by decide +kernel)) ggX9_moving_X9_passedIn
theorem dX9_moving_0 : decode cX9_moving 0 = .ok (.aload_n 0, 1) := by decide +kernel
theorem dX9_moving_1 : decode cX9_moving 1 = .ok (.iconst 0, 1) := by decide +kernel
theorem dX9_moving_2 : decode cX9_moving 2 = .ok (.putfield 152, 3) := by decide +kernel
theorem dX9_moving_5 : decode cX9_moving 5 = .ok (.aload_n 0, 1) := by decide +kernel
theorem dX9_moving_6 : decode cX9_moving 6 = .ok (.iload_n 1, 1) := by decide +kernel
theorem dX9_moving_7 : decode cX9_moving 7 = .ok (.invokevirtual 389, 3) := by decide +kernel
theorem dX9_moving_10 : decode cX9_moving 10 = .ok (.ifCond .eq 12, 3) := by decide +kernel
theorem dX9_moving_13 : decode cX9_moving 13 = .ok (.iload_n 2, 1) := by decide +kernel
theorem dX9_moving_14 : decode cX9_moving 14 = .ok (.ifCond .lt 8, 3) := by decide +kernel
theorem dX9_moving_17 : decode cX9_moving 17 = .ok (.iload_n 2, 1) := by decide +kernel
theorem dX9_moving_18 : decode cX9_moving 18 = .ok (.iconst 1, 1) := by decide +kernel
theorem dX9_moving_19 : decode cX9_moving 19 = .ok (.if_icmp .le 9, 3) := by decide +kernel
theorem dX9_moving_22 : decode cX9_moving 22 = .ok (.aload_n 0, 1) := by decide +kernel
theorem dX9_moving_23 : decode cX9_moving 23 = .ok (.iconst 1, 1) := by decide +kernel
theorem dX9_moving_24 : decode cX9_moving 24 = .ok (.invokevirtual 299, 3) := by decide +kernel
theorem dX9_moving_27 : decode cX9_moving 27 = .ok (.ireturn, 1) := by decide +kernel
theorem dX9_moving_28 : decode cX9_moving 28 = .ok (.aload_n 0, 1) := by decide +kernel
theorem dX9_moving_29 : decode cX9_moving 29 = .ok (.getfield 319, 3) := by decide +kernel
theorem dX9_moving_32 : decode cX9_moving 32 = .ok (.iload_n 1, 1) := by decide +kernel
theorem dX9_moving_33 : decode cX9_moving 33 = .ok (.invokestatic 354, 3) := by decide +kernel
theorem dX9_moving_36 : decode cX9_moving 36 = .ok (.ifCond .eq 5, 3) := by decide +kernel
theorem dX9_moving_39 : decode cX9_moving 39 = .ok (.iconst (-1), 1) := by decide +kernel
theorem dX9_moving_40 : decode cX9_moving 40 = .ok (.ireturn, 1) := by decide +kernel
theorem dX9_moving_41 : decode cX9_moving 41 = .ok (.aload_n 0, 1) := by decide +kernel
theorem dX9_moving_42 : decode cX9_moving 42 = .ok (.getfield 91, 3) := by decide +kernel
theorem dX9_moving_45 : decode cX9_moving 45 = .ok (.iload_n 1, 1) := by decide +kernel
theorem dX9_moving_46 : decode cX9_moving 46 = .ok (.iaload, 1) := by decide +kernel
theorem dX9_moving_47 : decode cX9_moving 47 = .ok (.istore_n 3, 1) := by decide +kernel
theorem dX9_moving_48 : decode cX9_moving 48 = .ok (.iconst (-1), 1) := by decide +kernel
theorem dX9_moving_49 : decode cX9_moving 49 = .ok (.istore 4, 2) := by decide +kernel
theorem dX9_moving_51 : decode cX9_moving 51 = .ok (.iconst (-1), 1) := by decide +kernel
theorem dX9_moving_52 : decode cX9_moving 52 = .ok (.istore 5, 2) := by decide +kernel
theorem dX9_moving_54 : decode cX9_moving 54 = .ok (.iconst 0, 1) := by decide +kernel
theorem dX9_moving_55 : decode cX9_moving 55 = .ok (.istore 6, 2) := by decide +kernel
theorem dX9_moving_57 : decode cX9_moving 57 = .ok (.iload 6, 2) := by decide +kernel
theorem dX9_moving_59 : decode cX9_moving 59 = .ok (.bipush 24, 2) := by decide +kernel
theorem dX9_moving_61 : decode cX9_moving 61 = .ok (.if_icmp .gt 56, 3) := by decide +kernel
theorem dX9_moving_64 : decode cX9_moving 64 = .ok (.aload_n 0, 1) := by decide +kernel
theorem dX9_moving_65 : decode cX9_moving 65 = .ok (.getfield 91, 3) := by decide +kernel
theorem dX9_moving_68 : decode cX9_moving 68 = .ok (.iload_n 1, 1) := by decide +kernel
theorem dX9_moving_69 : decode cX9_moving 69 = .ok (.iload 6, 2) := by decide +kernel
theorem dX9_moving_71 : decode cX9_moving 71 = .ok (.iastore, 1) := by decide +kernel
theorem dX9_moving_72 : decode cX9_moving 72 = .ok (.aload_n 0, 1) := by decide +kernel
theorem dX9_moving_73 : decode cX9_moving 73 = .ok (.iload_n 1, 1) := by decide +kernel
theorem dX9_moving_74 : decode cX9_moving 74 = .ok (.bipush 48, 2) := by decide +kernel
theorem dX9_moving_76 : decode cX9_moving 76 = .ok (.invokevirtual 421, 3) := by decide +kernel
theorem dX9_moving_79 : decode cX9_moving 79 = .ok (.istore 7, 2) := by decide +kernel
theorem dX9_moving_81 : decode cX9_moving 81 = .ok (.iload 7, 2) := by decide +kernel
theorem dX9_moving_83 : decode cX9_moving 83 = .ok (.iconst (-1), 1) := by decide +kernel
theorem dX9_moving_84 : decode cX9_moving 84 = .ok (.if_icmp .eq 27, 3) := by decide +kernel
theorem dX9_moving_87 : decode cX9_moving 87 = .ok (.iload 5, 2) := by decide +kernel
theorem dX9_moving_89 : decode cX9_moving 89 = .ok (.iconst (-1), 1) := by decide +kernel
theorem dX9_moving_90 : decode cX9_moving 90 = .ok (.if_icmp .eq 13, 3) := by decide +kernel
theorem dX9_moving_93 : decode cX9_moving 93 = .ok (.iload 7, 2) := by decide +kernel
theorem dX9_moving_95 : decode cX9_moving 95 = .ok (.iload 5, 2) := by decide +kernel
