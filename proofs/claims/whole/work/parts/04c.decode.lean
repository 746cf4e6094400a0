theorem dX5_putWaiting_1 : decode cX5_putWaiting 1 = .ok (.getfield 122, 3) := by decide +kernel
theorem dX5_putWaiting_4 : decode cX5_putWaiting 4 = .ok (.ifCond .lt 35, 3) := by decide +kernel
theorem dX5_putWaiting_7 : decode cX5_putWaiting 7 = .ok (.aload_n 0, 1) := by decide +kernel
theorem dX5_putWaiting_8 : decode cX5_putWaiting 8 = .ok (.getfield 122, 3) := by decide +kernel
theorem dX5_putWaiting_11 : decode cX5_putWaiting 11 = .ok (.aload_n 0, 1) := by decide +kernel
theorem dX5_putWaiting_12 : decode cX5_putWaiting 12 = .ok (.getfield 9, 3) := by decide +kernel
theorem dX5_putWaiting_15 : decode cX5_putWaiting 15 = .ok (.arraylength, 1) := by decide +kernel
theorem dX5_putWaiting_16 : decode cX5_putWaiting 16 = .ok (.if_icmp .ge 23, 3) := by decide +kernel
theorem dX5_putWaiting_19 : decode cX5_putWaiting 19 = .ok (.aload_n 0, 1) := by decide +kernel
theorem dX5_putWaiting_20 : decode cX5_putWaiting 20 = .ok (.getfield 9, 3) := by decide +kernel
theorem dX5_putWaiting_23 : decode cX5_putWaiting 23 = .ok (.aload_n 0, 1) := by decide +kernel
theorem dX5_putWaiting_24 : decode cX5_putWaiting 24 = .ok (.getfield 122, 3) := by decide +kernel
theorem dX5_putWaiting_27 : decode cX5_putWaiting 27 = .ok (.iload_n 1, 1) := by decide +kernel
theorem dX5_putWaiting_28 : decode cX5_putWaiting 28 = .ok (.iastore, 1) := by decide +kernel
theorem dX5_putWaiting_29 : decode cX5_putWaiting 29 = .ok (.aload_n 0, 1) := by decide +kernel
theorem dX5_putWaiting_30 : decode cX5_putWaiting 30 = .ok (.dup, 1) := by decide +kernel
theorem dX5_putWaiting_31 : decode cX5_putWaiting 31 = .ok (.getfield 122, 3) := by decide +kernel
theorem dX5_putWaiting_34 : decode cX5_putWaiting 34 = .ok (.iconst 1, 1) := by decide +kernel
theorem dX5_putWaiting_35 : decode cX5_putWaiting 35 = .ok (.iadd, 1) := by decide +kernel
theorem dX5_putWaiting_36 : decode cX5_putWaiting 36 = .ok (.putfield 122, 3) := by decide +kernel
theorem dX5_putWaiting_39 : decode cX5_putWaiting 39 = .ok (.return_, 1) := by decide +kernel
theorem dX5_putCode_0 : decode cX5_putCode 0 = .ok (.aload_n 0, 1) := by decide +kernel
theorem dX5_putCode_1 : decode cX5_putCode 1 = .ok (.getfield 19, 3) := by decide +kernel
theorem dX5_putCode_4 : decode cX5_putCode 4 = .ok (.getfield 140, 3) := by decide +kernel
theorem dX5_putCode_7 : decode cX5_putCode 7 = .ok (.istore_n 2, 1) := by decide +kernel
theorem dX5_putCode_8 : decode cX5_putCode 8 = .ok (.iload_n 2, 1) := by decide +kernel
theorem dX5_putCode_9 : decode cX5_putCode 9 = .ok (.ifCond .lt 35, 3) := by decide +kernel
theorem dX5_putCode_12 : decode cX5_putCode 12 = .ok (.iload_n 2, 1) := by decide +kernel
theorem dX5_putCode_13 : decode cX5_putCode 13 = .ok (.aload_n 0, 1) := by decide +kernel
theorem dX5_putCode_14 : decode cX5_putCode 14 = .ok (.getfield 19, 3) := by decide +kernel
theorem dX5_putCode_17 : decode cX5_putCode 17 = .ok (.getfield 178, 3) := by decide +kernel
theorem dX5_putCode_20 : decode cX5_putCode 20 = .ok (.arraylength, 1) := by decide +kernel
theorem dX5_putCode_21 : decode cX5_putCode 21 = .ok (.if_icmp .ge 23, 3) := by decide +kernel
theorem dX5_putCode_24 : decode cX5_putCode 24 = .ok (.aload_n 0, 1) := by decide +kernel
theorem dX5_putCode_25 : decode cX5_putCode 25 = .ok (.getfield 19, 3) := by decide +kernel
theorem dX5_putCode_28 : decode cX5_putCode 28 = .ok (.getfield 178, 3) := by decide +kernel
theorem dX5_putCode_31 : decode cX5_putCode 31 = .ok (.iload_n 2, 1) := by decide +kernel
theorem dX5_putCode_32 : decode cX5_putCode 32 = .ok (.iload_n 1, 1) := by decide +kernel
theorem dX5_putCode_33 : decode cX5_putCode 33 = .ok (.iastore, 1) := by decide +kernel
theorem dX5_putCode_34 : decode cX5_putCode 34 = .ok (.aload_n 0, 1) := by decide +kernel
theorem dX5_putCode_35 : decode cX5_putCode 35 = .ok (.getfield 19, 3) := by decide +kernel
theorem dX5_putCode_38 : decode cX5_putCode 38 = .ok (.iload_n 2, 1) := by decide +kernel
theorem dX5_putCode_39 : decode cX5_putCode 39 = .ok (.iconst 1, 1) := by decide +kernel
theorem dX5_putCode_40 : decode cX5_putCode 40 = .ok (.iadd, 1) := by decide +kernel
theorem dX5_putCode_41 : decode cX5_putCode 41 = .ok (.putfield 140, 3) := by decide +kernel
theorem dX5_putCode_44 : decode cX5_putCode 44 = .ok (.return_, 1) := by decide +kernel
theorem dX5_operatorOf_0 : decode cX5_operatorOf 0 = .ok (.iload_n 0, 1) := by decide +kernel
theorem dX5_operatorOf_1 : decode cX5_operatorOf 1 = .ok (.tableswitch 107 6 22 #[95, 98, 101, 104, 89, 92, 107, 107, 107, 107, 107, 107, 107, 107, 107, 83, 86], 83) := by decide +kernel
theorem dX5_operatorOf_84 : decode cX5_operatorOf 84 = .ok (.bipush (-8), 2) := by decide +kernel
theorem dX5_operatorOf_86 : decode cX5_operatorOf 86 = .ok (.ireturn, 1) := by decide +kernel
theorem dX5_operatorOf_87 : decode cX5_operatorOf 87 = .ok (.bipush (-9), 2) := by decide +kernel
theorem dX5_operatorOf_89 : decode cX5_operatorOf 89 = .ok (.ireturn, 1) := by decide +kernel
theorem dX5_operatorOf_90 : decode cX5_operatorOf 90 = .ok (.bipush (-10), 2) := by decide +kernel
theorem dX5_operatorOf_92 : decode cX5_operatorOf 92 = .ok (.ireturn, 1) := by decide +kernel
theorem dX5_operatorOf_93 : decode cX5_operatorOf 93 = .ok (.bipush (-11), 2) := by decide +kernel
theorem dX5_operatorOf_95 : decode cX5_operatorOf 95 = .ok (.ireturn, 1) := by decide +kernel
theorem dX5_operatorOf_96 : decode cX5_operatorOf 96 = .ok (.bipush (-12), 2) := by decide +kernel
theorem dX5_operatorOf_98 : decode cX5_operatorOf 98 = .ok (.ireturn, 1) := by decide +kernel
theorem dX5_operatorOf_99 : decode cX5_operatorOf 99 = .ok (.bipush (-13), 2) := by decide +kernel
theorem dX5_operatorOf_101 : decode cX5_operatorOf 101 = .ok (.ireturn, 1) := by decide +kernel
theorem dX5_operatorOf_102 : decode cX5_operatorOf 102 = .ok (.bipush (-14), 2) := by decide +kernel
theorem dX5_operatorOf_104 : decode cX5_operatorOf 104 = .ok (.ireturn, 1) := by decide +kernel
theorem dX5_operatorOf_105 : decode cX5_operatorOf 105 = .ok (.bipush (-15), 2) := by decide +kernel
theorem dX5_operatorOf_107 : decode cX5_operatorOf 107 = .ok (.ireturn, 1) := by decide +kernel
theorem dX5_operatorOf_108 : decode cX5_operatorOf 108 = .ok (.iconst 0, 1) := by decide +kernel
theorem dX5_operatorOf_109 : decode cX5_operatorOf 109 = .ok (.ireturn, 1) := by decide +kernel
theorem dX5_strengthOf_0 : decode cX5_strengthOf 0 = .ok (.iload_n 0, 1) := by decide +kernel
theorem dX5_strengthOf_1 : decode cX5_strengthOf 1 = .ok (.tableswitch 71 (-15) (-7) #[68, 65, 63, 61, 59, 57, 53, 51, 55], 51) := by decide +kernel
theorem dX5_strengthOf_52 : decode cX5_strengthOf 52 = .ok (.iconst 1, 1) := by decide +kernel
theorem dX5_strengthOf_53 : decode cX5_strengthOf 53 = .ok (.ireturn, 1) := by decide +kernel
theorem dX5_strengthOf_54 : decode cX5_strengthOf 54 = .ok (.iconst 2, 1) := by decide +kernel
theorem dX5_strengthOf_55 : decode cX5_strengthOf 55 = .ok (.ireturn, 1) := by decide +kernel
theorem dX5_strengthOf_56 : decode cX5_strengthOf 56 = .ok (.iconst 3, 1) := by decide +kernel
theorem dX5_strengthOf_57 : decode cX5_strengthOf 57 = .ok (.ireturn, 1) := by decide +kernel
theorem dX5_strengthOf_58 : decode cX5_strengthOf 58 = .ok (.iconst 4, 1) := by decide +kernel
theorem dX5_strengthOf_59 : decode cX5_strengthOf 59 = .ok (.ireturn, 1) := by decide +kernel
theorem dX5_strengthOf_60 : decode cX5_strengthOf 60 = .ok (.iconst 4, 1) := by decide +kernel
theorem dX5_strengthOf_61 : decode cX5_strengthOf 61 = .ok (.ireturn, 1) := by decide +kernel
theorem dX5_strengthOf_62 : decode cX5_strengthOf 62 = .ok (.iconst 5, 1) := by decide +kernel
theorem dX5_strengthOf_63 : decode cX5_strengthOf 63 = .ok (.ireturn, 1) := by decide +kernel
theorem dX5_strengthOf_64 : decode cX5_strengthOf 64 = .ok (.iconst 5, 1) := by decide +kernel
theorem dX5_strengthOf_65 : decode cX5_strengthOf 65 = .ok (.ireturn, 1) := by decide +kernel
theorem dX5_strengthOf_66 : decode cX5_strengthOf 66 = .ok (.bipush 6, 2) := by decide +kernel
theorem dX5_strengthOf_68 : decode cX5_strengthOf 68 = .ok (.ireturn, 1) := by decide +kernel
theorem dX5_strengthOf_69 : decode cX5_strengthOf 69 = .ok (.bipush 6, 2) := by decide +kernel
theorem dX5_strengthOf_71 : decode cX5_strengthOf 71 = .ok (.ireturn, 1) := by decide +kernel
theorem dX5_strengthOf_72 : decode cX5_strengthOf 72 = .ok (.iconst 0, 1) := by decide +kernel
theorem dX5_strengthOf_73 : decode cX5_strengthOf 73 = .ok (.ireturn, 1) := by decide +kernel
set_option maxRecDepth 20000 in
theorem ggX5_nextToken_X5_readLetters : GoodIn wsX5_nextToken wsX5_readLetters := goodIn_r _ [10, 1, 2, 3, 5, 4, 11, 12, 13, 14, 15, 16, 17, 18, 19, 20, 21, 22, 23, 24, 25, 26, 27, 28, 29, 30, 31, 32, 33, 34, 35, 36, 37, 38, 39, 40, 41, 42, 43, 44, 45, 46, 47, 48, 49, 50, 51, 52, 53, 54, 55, 56, 57, 58, 59, 127, 128, 129, 130, 131, 132, 133, 134, 135, 136, 137, 138, 139, 140, 141, 142] (by decide +kernel) (by decide +kernel)
set_option maxRecDepth 20000 in
theorem gX5_nextToken_X5_readLetters : GoodIn wsX5_nextToken (wsV RX5 181 RX5 yX5_readLetters wsX5_readLetters) := goodIn_app (goodIn_of _ (by decide +kernel)) ggX5_nextToken_X5_readLetters
set_option maxRecDepth 20000 in
theorem ggX5_nextToken_X5_readDigits : GoodIn wsX5_nextToken wsX5_readDigits := goodIn_r _ [63, 64, 1, 2, 3, 4, 5, 65, 127, 128, 129, 130, 131, 132, 133, 134, 135, 136, 137, 138, 139, 140, 141, 142] (by decide +kernel) (by decide +kernel)
set_option maxRecDepth 20000 in
theorem gX5_nextToken_X5_readDigits : GoodIn wsX5_nextToken (wsV RX5 184 RX5 yX5_readDigits wsX5_readDigits) := goodIn_app (goodIn_of _ (by decide +kernel)) ggX5_nextToken_X5_readDigits
set_option maxRecDepth 20000 in
theorem ggX5_nextToken_J0_indexOf_0f7a4 : GoodIn wsX5_nextToken wsJ0_indexOf_0f7a4 := goodIn_r _ [69, 70, 71, 72, 14, 73, 16, 27, 28, 29, 30, 21, 22, 74, 12, 13, 15, 17, 18, 19, 20, 75, 76, 33, 77, 78, 79, 80, 81, 82, 83, 84, 85, 86, 87, 88, 89, 90, 91, 92, 45, 93, 94, 95, 96, 97, 98, 99, 100, 101, 102, 50, 51, 52, 103, 104, 105, 38, 106, 107, 41, 108, 109, 110, 111, 54, 55, 56, 57, 58, 59, 112, 113, 114, 115, 116, 117, 118, 119, 120, 121, 122, 123, 124, 125, 126] (by decide +kernel) (by decide +kernel)
set_option maxRecDepth 20000 in
theorem gX5_nextToken_J0_indexOf_0f7a4 : GoodIn wsX5_nextToken (wsV RX5 189 RJ0 yJ0_indexOf_0f7a4 wsJ0_indexOf_0f7a4) := goodIn_app (goodIn_of _ (by decide +kernel)) ggX5_nextToken_J0_indexOf_0f7a4
theorem dX5_nextToken_0 : decode cX5_nextToken 0 = .ok (.aload_n 0, 1) := by decide +kernel
theorem dX5_nextToken_1 : decode cX5_nextToken 1 = .ok (.getfield 33, 3) := by decide +kernel
theorem dX5_nextToken_4 : decode cX5_nextToken 4 = .ok (.aload_n 0, 1) := by decide +kernel
theorem dX5_nextToken_5 : decode cX5_nextToken 5 = .ok (.getfield 29, 3) := by decide +kernel
theorem dX5_nextToken_8 : decode cX5_nextToken 8 = .ok (.if_icmp .ge 44, 3) := by decide +kernel
theorem dX5_nextToken_11 : decode cX5_nextToken 11 = .ok (.aload_n 0, 1) := by decide +kernel
theorem dX5_nextToken_12 : decode cX5_nextToken 12 = .ok (.getfield 15, 3) := by decide +kernel
theorem dX5_nextToken_15 : decode cX5_nextToken 15 = .ok (.aload_n 0, 1) := by decide +kernel
theorem dX5_nextToken_16 : decode cX5_nextToken 16 = .ok (.getfield 33, 3) := by decide +kernel
theorem dX5_nextToken_19 : decode cX5_nextToken 19 = .ok (.baload, 1) := by decide +kernel
theorem dX5_nextToken_20 : decode cX5_nextToken 20 = .ok (.bipush 32, 2) := by decide +kernel
theorem dX5_nextToken_22 : decode cX5_nextToken 22 = .ok (.if_icmp .eq 17, 3) := by decide +kernel
theorem dX5_nextToken_25 : decode cX5_nextToken 25 = .ok (.aload_n 0, 1) := by decide +kernel
theorem dX5_nextToken_26 : decode cX5_nextToken 26 = .ok (.getfield 15, 3) := by decide +kernel
theorem dX5_nextToken_29 : decode cX5_nextToken 29 = .ok (.aload_n 0, 1) := by decide +kernel
theorem dX5_nextToken_30 : decode cX5_nextToken 30 = .ok (.getfield 33, 3) := by decide +kernel
theorem dX5_nextToken_33 : decode cX5_nextToken 33 = .ok (.baload, 1) := by decide +kernel
theorem dX5_nextToken_34 : decode cX5_nextToken 34 = .ok (.bipush 10, 2) := by decide +kernel
theorem dX5_nextToken_36 : decode cX5_nextToken 36 = .ok (.if_icmp .ne 16, 3) := by decide +kernel
theorem dX5_nextToken_39 : decode cX5_nextToken 39 = .ok (.aload_n 0, 1) := by decide +kernel
theorem dX5_nextToken_40 : decode cX5_nextToken 40 = .ok (.dup, 1) := by decide +kernel
theorem dX5_nextToken_41 : decode cX5_nextToken 41 = .ok (.getfield 33, 3) := by decide +kernel
theorem dX5_nextToken_44 : decode cX5_nextToken 44 = .ok (.iconst 1, 1) := by decide +kernel
theorem dX5_nextToken_45 : decode cX5_nextToken 45 = .ok (.iadd, 1) := by decide +kernel
theorem dX5_nextToken_46 : decode cX5_nextToken 46 = .ok (.putfield 33, 3) := by decide +kernel
theorem dX5_nextToken_49 : decode cX5_nextToken 49 = .ok (.goto (-49), 3) := by decide +kernel
theorem dX5_nextToken_52 : decode cX5_nextToken 52 = .ok (.aload_n 0, 1) := by decide +kernel
theorem dX5_nextToken_53 : decode cX5_nextToken 53 = .ok (.aload_n 0, 1) := by decide +kernel
theorem dX5_nextToken_54 : decode cX5_nextToken 54 = .ok (.getfield 33, 3) := by decide +kernel
theorem dX5_nextToken_57 : decode cX5_nextToken 57 = .ok (.putfield 57, 3) := by decide +kernel
theorem dX5_nextToken_60 : decode cX5_nextToken 60 = .ok (.aload_n 0, 1) := by decide +kernel
theorem dX5_nextToken_61 : decode cX5_nextToken 61 = .ok (.getfield 33, 3) := by decide +kernel
theorem dX5_nextToken_64 : decode cX5_nextToken 64 = .ok (.aload_n 0, 1) := by decide +kernel
theorem dX5_nextToken_65 : decode cX5_nextToken 65 = .ok (.getfield 29, 3) := by decide +kernel
theorem dX5_nextToken_68 : decode cX5_nextToken 68 = .ok (.if_icmp .lt 9, 3) := by decide +kernel
theorem dX5_nextToken_71 : decode cX5_nextToken 71 = .ok (.aload_n 0, 1) := by decide +kernel
theorem dX5_nextToken_72 : decode cX5_nextToken 72 = .ok (.iconst 0, 1) := by decide +kernel
theorem dX5_nextToken_73 : decode cX5_nextToken 73 = .ok (.putfield 51, 3) := by decide +kernel
theorem dX5_nextToken_76 : decode cX5_nextToken 76 = .ok (.return_, 1) := by decide +kernel
theorem dX5_nextToken_77 : decode cX5_nextToken 77 = .ok (.aload_n 0, 1) := by decide +kernel
theorem dX5_nextToken_78 : decode cX5_nextToken 78 = .ok (.getfield 15, 3) := by decide +kernel
theorem dX5_nextToken_81 : decode cX5_nextToken 81 = .ok (.aload_n 0, 1) := by decide +kernel
theorem dX5_nextToken_82 : decode cX5_nextToken 82 = .ok (.getfield 33, 3) := by decide +kernel
theorem dX5_nextToken_85 : decode cX5_nextToken 85 = .ok (.baload, 1) := by decide +kernel
theorem dX5_nextToken_86 : decode cX5_nextToken 86 = .ok (.istore_n 1, 1) := by decide +kernel
theorem dX5_nextToken_87 : decode cX5_nextToken 87 = .ok (.iload_n 1, 1) := by decide +kernel
theorem dX5_nextToken_88 : decode cX5_nextToken 88 = .ok (.bipush 97, 2) := by decide +kernel
theorem dX5_nextToken_90 : decode cX5_nextToken 90 = .ok (.if_icmp .lt 16, 3) := by decide +kernel
theorem dX5_nextToken_93 : decode cX5_nextToken 93 = .ok (.iload_n 1, 1) := by decide +kernel
theorem dX5_nextToken_94 : decode cX5_nextToken 94 = .ok (.bipush 122, 2) := by decide +kernel
theorem dX5_nextToken_96 : decode cX5_nextToken 96 = .ok (.if_icmp .gt 10, 3) := by decide +kernel
theorem dX5_nextToken_99 : decode cX5_nextToken 99 = .ok (.aload_n 0, 1) := by decide +kernel
theorem dX5_nextToken_100 : decode cX5_nextToken 100 = .ok (.invokevirtual 181, 3) := by decide +kernel
theorem dX5_nextToken_103 : decode cX5_nextToken 103 = .ok (.goto 63, 3) := by decide +kernel
theorem dX5_nextToken_106 : decode cX5_nextToken 106 = .ok (.iload_n 1, 1) := by decide +kernel
theorem dX5_nextToken_107 : decode cX5_nextToken 107 = .ok (.bipush 48, 2) := by decide +kernel
theorem dX5_nextToken_109 : decode cX5_nextToken 109 = .ok (.if_icmp .lt 16, 3) := by decide +kernel
theorem dX5_nextToken_112 : decode cX5_nextToken 112 = .ok (.iload_n 1, 1) := by decide +kernel
theorem dX5_nextToken_113 : decode cX5_nextToken 113 = .ok (.bipush 57, 2) := by decide +kernel
theorem dX5_nextToken_115 : decode cX5_nextToken 115 = .ok (.if_icmp .gt 10, 3) := by decide +kernel
theorem dX5_nextToken_118 : decode cX5_nextToken 118 = .ok (.aload_n 0, 1) := by decide +kernel
theorem dX5_nextToken_119 : decode cX5_nextToken 119 = .ok (.invokevirtual 184, 3) := by decide +kernel
theorem dX5_nextToken_122 : decode cX5_nextToken 122 = .ok (.goto 44, 3) := by decide +kernel
theorem dX5_nextToken_125 : decode cX5_nextToken 125 = .ok (.iload_n 1, 1) := by decide +kernel
theorem dX5_nextToken_126 : decode cX5_nextToken 126 = .ok (.ifCond .ge 7, 3) := by decide +kernel
theorem dX5_nextToken_129 : decode cX5_nextToken 129 = .ok (.iconst (-1), 1) := by decide +kernel
theorem dX5_nextToken_130 : decode cX5_nextToken 130 = .ok (.goto 10, 3) := by decide +kernel
theorem dX5_nextToken_133 : decode cX5_nextToken 133 = .ok (.ldc 187, 2) := by decide +kernel
theorem dX5_nextToken_135 : decode cX5_nextToken 135 = .ok (.iload_n 1, 1) := by decide +kernel
theorem dX5_nextToken_136 : decode cX5_nextToken 136 = .ok (.i2c, 1) := by decide +kernel
theorem dX5_nextToken_137 : decode cX5_nextToken 137 = .ok (.invokevirtual 189, 3) := by decide +kernel
theorem dX5_nextToken_140 : decode cX5_nextToken 140 = .ok (.istore_n 2, 1) := by decide +kernel
theorem dX5_nextToken_141 : decode cX5_nextToken 141 = .ok (.aload_n 0, 1) := by decide +kernel
theorem dX5_nextToken_142 : decode cX5_nextToken 142 = .ok (.iload_n 2, 1) := by decide +kernel
theorem dX5_nextToken_143 : decode cX5_nextToken 143 = .ok (.ifCond .ge 7, 3) := by decide +kernel
theorem dX5_nextToken_146 : decode cX5_nextToken 146 = .ok (.iconst 1, 1) := by decide +kernel
theorem dX5_nextToken_147 : decode cX5_nextToken 147 = .ok (.goto 6, 3) := by decide +kernel
theorem dX5_nextToken_150 : decode cX5_nextToken 150 = .ok (.iconst 3, 1) := by decide +kernel
theorem dX5_nextToken_151 : decode cX5_nextToken 151 = .ok (.iload_n 2, 1) := by decide +kernel
theorem dX5_nextToken_152 : decode cX5_nextToken 152 = .ok (.iadd, 1) := by decide +kernel
theorem dX5_nextToken_153 : decode cX5_nextToken 153 = .ok (.putfield 51, 3) := by decide +kernel
theorem dX5_nextToken_156 : decode cX5_nextToken 156 = .ok (.aload_n 0, 1) := by decide +kernel
theorem dX5_nextToken_157 : decode cX5_nextToken 157 = .ok (.dup, 1) := by decide +kernel
theorem dX5_nextToken_158 : decode cX5_nextToken 158 = .ok (.getfield 33, 3) := by decide +kernel
theorem dX5_nextToken_161 : decode cX5_nextToken 161 = .ok (.iconst 1, 1) := by decide +kernel
theorem dX5_nextToken_162 : decode cX5_nextToken 162 = .ok (.iadd, 1) := by decide +kernel
theorem dX5_nextToken_163 : decode cX5_nextToken 163 = .ok (.putfield 33, 3) := by decide +kernel
theorem dX5_nextToken_166 : decode cX5_nextToken 166 = .ok (.return_, 1) := by decide +kernel
set_option maxRecDepth 20000 in
theorem ggX5_readLetters_J0_length_8abf5 : GoodIn wsX5_readLetters wsJ0_length_8abf5 := goodIn_r _ [10, 11, 12, 13, 14, 9, 15, 16, 17] (by decide +kernel) (by decide +kernel)
set_option maxRecDepth 20000 in
theorem gX5_readLetters_J0_length_8abf5 : GoodIn wsX5_readLetters (wsV RX5 196 RJ0 yJ0_length_8abf5 wsJ0_length_8abf5) := goodIn_app (goodIn_of _ (by decide +kernel)) ggX5_readLetters_J0_length_8abf5
set_option maxRecDepth 20000 in
theorem ggX5_readLetters_J0_charAt_5068e : GoodIn wsX5_readLetters wsJ0_charAt_5068e := goodIn_r _ [21, 11, 22, 23, 24, 9, 25, 16, 17, 26, 27, 28, 29, 30, 31, 32, 33, 34, 35, 36, 37, 38, 39, 40, 41, 42, 43, 44, 45, 46, 47, 48, 49, 50, 51, 52, 53, 54] (by decide +kernel) (by decide +kernel)
set_option maxRecDepth 20000 in
theorem gX5_readLetters_J0_charAt_5068e : GoodIn wsX5_readLetters (wsV RX5 200 RJ0 yJ0_charAt_5068e wsJ0_charAt_5068e) := goodIn_app (goodIn_of _ (by decide +kernel)) ggX5_readLetters_J0_charAt_5068e
theorem dX5_readLetters_0 : decode cX5_readLetters 0 = .ok (.aload_n 0, 1) := by decide +kernel
theorem dX5_readLetters_1 : decode cX5_readLetters 1 = .ok (.getfield 33, 3) := by decide +kernel
theorem dX5_readLetters_4 : decode cX5_readLetters 4 = .ok (.aload_n 0, 1) := by decide +kernel
theorem dX5_readLetters_5 : decode cX5_readLetters 5 = .ok (.getfield 29, 3) := by decide +kernel
theorem dX5_readLetters_8 : decode cX5_readLetters 8 = .ok (.if_icmp .ge 44, 3) := by decide +kernel
theorem dX5_readLetters_11 : decode cX5_readLetters 11 = .ok (.aload_n 0, 1) := by decide +kernel
theorem dX5_readLetters_12 : decode cX5_readLetters 12 = .ok (.getfield 15, 3) := by decide +kernel
theorem dX5_readLetters_15 : decode cX5_readLetters 15 = .ok (.aload_n 0, 1) := by decide +kernel
theorem dX5_readLetters_16 : decode cX5_readLetters 16 = .ok (.getfield 33, 3) := by decide +kernel
theorem dX5_readLetters_19 : decode cX5_readLetters 19 = .ok (.baload, 1) := by decide +kernel
theorem dX5_readLetters_20 : decode cX5_readLetters 20 = .ok (.bipush 97, 2) := by decide +kernel
theorem dX5_readLetters_22 : decode cX5_readLetters 22 = .ok (.if_icmp .lt 30, 3) := by decide +kernel
theorem dX5_readLetters_25 : decode cX5_readLetters 25 = .ok (.aload_n 0, 1) := by decide +kernel
theorem dX5_readLetters_26 : decode cX5_readLetters 26 = .ok (.getfield 15, 3) := by decide +kernel
theorem dX5_readLetters_29 : decode cX5_readLetters 29 = .ok (.aload_n 0, 1) := by decide +kernel
theorem dX5_readLetters_30 : decode cX5_readLetters 30 = .ok (.getfield 33, 3) := by decide +kernel
theorem dX5_readLetters_33 : decode cX5_readLetters 33 = .ok (.baload, 1) := by decide +kernel
theorem dX5_readLetters_34 : decode cX5_readLetters 34 = .ok (.bipush 122, 2) := by decide +kernel
theorem dX5_readLetters_36 : decode cX5_readLetters 36 = .ok (.if_icmp .gt 16, 3) := by decide +kernel
theorem dX5_readLetters_39 : decode cX5_readLetters 39 = .ok (.aload_n 0, 1) := by decide +kernel
theorem dX5_readLetters_40 : decode cX5_readLetters 40 = .ok (.dup, 1) := by decide +kernel
theorem dX5_readLetters_41 : decode cX5_readLetters 41 = .ok (.getfield 33, 3) := by decide +kernel
theorem dX5_readLetters_44 : decode cX5_readLetters 44 = .ok (.iconst 1, 1) := by decide +kernel
theorem dX5_readLetters_45 : decode cX5_readLetters 45 = .ok (.iadd, 1) := by decide +kernel
theorem dX5_readLetters_46 : decode cX5_readLetters 46 = .ok (.putfield 33, 3) := by decide +kernel
theorem dX5_readLetters_49 : decode cX5_readLetters 49 = .ok (.goto (-49), 3) := by decide +kernel
theorem dX5_readLetters_52 : decode cX5_readLetters 52 = .ok (.aload_n 0, 1) := by decide +kernel
theorem dX5_readLetters_53 : decode cX5_readLetters 53 = .ok (.bipush 12, 2) := by decide +kernel
theorem dX5_readLetters_55 : decode cX5_readLetters 55 = .ok (.putfield 51, 3) := by decide +kernel
theorem dX5_readLetters_58 : decode cX5_readLetters 58 = .ok (.bipush 13, 2) := by decide +kernel
theorem dX5_readLetters_60 : decode cX5_readLetters 60 = .ok (.istore_n 1, 1) := by decide +kernel
theorem dX5_readLetters_61 : decode cX5_readLetters 61 = .ok (.aload_n 0, 1) := by decide +kernel
theorem dX5_readLetters_62 : decode cX5_readLetters 62 = .ok (.getfield 57, 3) := by decide +kernel
theorem dX5_readLetters_65 : decode cX5_readLetters 65 = .ok (.istore_n 2, 1) := by decide +kernel
theorem dX5_readLetters_66 : decode cX5_readLetters 66 = .ok (.iconst 1, 1) := by decide +kernel
theorem dX5_readLetters_67 : decode cX5_readLetters 67 = .ok (.istore_n 3, 1) := by decide +kernel
theorem dX5_readLetters_68 : decode cX5_readLetters 68 = .ok (.iconst 0, 1) := by decide +kernel
theorem dX5_readLetters_69 : decode cX5_readLetters 69 = .ok (.istore 4, 2) := by decide +kernel
theorem dX5_readLetters_71 : decode cX5_readLetters 71 = .ok (.iload 4, 2) := by decide +kernel
theorem dX5_readLetters_73 : decode cX5_readLetters 73 = .ok (.ldc 194, 2) := by decide +kernel
theorem dX5_readLetters_75 : decode cX5_readLetters 75 = .ok (.invokevirtual 196, 3) := by decide +kernel
theorem dX5_readLetters_78 : decode cX5_readLetters 78 = .ok (.if_icmp .ge 87, 3) := by decide +kernel
theorem dX5_readLetters_81 : decode cX5_readLetters 81 = .ok (.ldc 194, 2) := by decide +kernel
theorem dX5_readLetters_83 : decode cX5_readLetters 83 = .ok (.iload 4, 2) := by decide +kernel
theorem dX5_readLetters_85 : decode cX5_readLetters 85 = .ok (.invokevirtual 200, 3) := by decide +kernel
theorem dX5_readLetters_88 : decode cX5_readLetters 88 = .ok (.istore 5, 2) := by decide +kernel
theorem dX5_readLetters_90 : decode cX5_readLetters 90 = .ok (.iload 5, 2) := by decide +kernel
theorem dX5_readLetters_92 : decode cX5_readLetters 92 = .ok (.bipush 32, 2) := by decide +kernel
theorem dX5_readLetters_94 : decode cX5_readLetters 94 = .ok (.if_icmp .eq 38, 3) := by decide +kernel
theorem dX5_readLetters_97 : decode cX5_readLetters 97 = .ok (.iload_n 3, 1) := by decide +kernel
theorem dX5_readLetters_98 : decode cX5_readLetters 98 = .ok (.ifCond .eq 26, 3) := by decide +kernel
theorem dX5_readLetters_101 : decode cX5_readLetters 101 = .ok (.iload_n 2, 1) := by decide +kernel
theorem dX5_readLetters_102 : decode cX5_readLetters 102 = .ok (.aload_n 0, 1) := by decide +kernel
theorem dX5_readLetters_103 : decode cX5_readLetters 103 = .ok (.getfield 33, 3) := by decide +kernel
theorem dX5_readLetters_106 : decode cX5_readLetters 106 = .ok (.if_icmp .ge 18, 3) := by decide +kernel
theorem dX5_readLetters_109 : decode cX5_readLetters 109 = .ok (.aload_n 0, 1) := by decide +kernel
theorem dX5_readLetters_110 : decode cX5_readLetters 110 = .ok (.getfield 15, 3) := by decide +kernel
theorem dX5_readLetters_113 : decode cX5_readLetters 113 = .ok (.iload_n 2, 1) := by decide +kernel
theorem dX5_readLetters_114 : decode cX5_readLetters 114 = .ok (.baload, 1) := by decide +kernel
theorem dX5_readLetters_115 : decode cX5_readLetters 115 = .ok (.iload 5, 2) := by decide +kernel
theorem dX5_readLetters_117 : decode cX5_readLetters 117 = .ok (.if_icmp .ne 7, 3) := by decide +kernel
theorem dX5_readLetters_120 : decode cX5_readLetters 120 = .ok (.iconst 1, 1) := by decide +kernel
theorem dX5_readLetters_121 : decode cX5_readLetters 121 = .ok (.goto 4, 3) := by decide +kernel
theorem dX5_readLetters_124 : decode cX5_readLetters 124 = .ok (.iconst 0, 1) := by decide +kernel
theorem dX5_readLetters_125 : decode cX5_readLetters 125 = .ok (.istore_n 3, 1) := by decide +kernel
theorem dX5_readLetters_126 : decode cX5_readLetters 126 = .ok (.iinc 2 1, 3) := by decide +kernel
theorem dX5_readLetters_129 : decode cX5_readLetters 129 = .ok (.goto 30, 3) := by decide +kernel
theorem dX5_readLetters_132 : decode cX5_readLetters 132 = .ok (.iload_n 3, 1) := by decide +kernel
theorem dX5_readLetters_133 : decode cX5_readLetters 133 = .ok (.ifCond .eq 16, 3) := by decide +kernel
theorem dX5_readLetters_136 : decode cX5_readLetters 136 = .ok (.iload_n 2, 1) := by decide +kernel
theorem dX5_readLetters_137 : decode cX5_readLetters 137 = .ok (.aload_n 0, 1) := by decide +kernel
theorem dX5_readLetters_138 : decode cX5_readLetters 138 = .ok (.getfield 33, 3) := by decide +kernel
theorem dX5_readLetters_141 : decode cX5_readLetters 141 = .ok (.if_icmp .ne 8, 3) := by decide +kernel
theorem dX5_readLetters_144 : decode cX5_readLetters 144 = .ok (.aload_n 0, 1) := by decide +kernel
theorem dX5_readLetters_145 : decode cX5_readLetters 145 = .ok (.iload_n 1, 1) := by decide +kernel
theorem dX5_readLetters_146 : decode cX5_readLetters 146 = .ok (.putfield 51, 3) := by decide +kernel
theorem dX5_readLetters_149 : decode cX5_readLetters 149 = .ok (.iinc 1 1, 3) := by decide +kernel
theorem dX5_readLetters_152 : decode cX5_readLetters 152 = .ok (.aload_n 0, 1) := by decide +kernel
theorem dX5_readLetters_153 : decode cX5_readLetters 153 = .ok (.getfield 57, 3) := by decide +kernel
theorem dX5_readLetters_156 : decode cX5_readLetters 156 = .ok (.istore_n 2, 1) := by decide +kernel
theorem dX5_readLetters_157 : decode cX5_readLetters 157 = .ok (.iconst 1, 1) := by decide +kernel
theorem dX5_readLetters_158 : decode cX5_readLetters 158 = .ok (.istore_n 3, 1) := by decide +kernel
theorem dX5_readLetters_159 : decode cX5_readLetters 159 = .ok (.iinc 4 1, 3) := by decide +kernel
theorem dX5_readLetters_162 : decode cX5_readLetters 162 = .ok (.goto (-91), 3) := by decide +kernel
theorem dX5_readLetters_165 : decode cX5_readLetters 165 = .ok (.return_, 1) := by decide +kernel
theorem dX5_readDigits_0 : decode cX5_readDigits 0 = .ok (.aload_n 0, 1) := by decide +kernel
theorem dX5_readDigits_1 : decode cX5_readDigits 1 = .ok (.iconst 0, 1) := by decide +kernel
theorem dX5_readDigits_2 : decode cX5_readDigits 2 = .ok (.putfield 115, 3) := by decide +kernel
theorem dX5_readDigits_5 : decode cX5_readDigits 5 = .ok (.aload_n 0, 1) := by decide +kernel
theorem dX5_readDigits_6 : decode cX5_readDigits 6 = .ok (.getfield 33, 3) := by decide +kernel
theorem dX5_readDigits_9 : decode cX5_readDigits 9 = .ok (.aload_n 0, 1) := by decide +kernel
theorem dX5_readDigits_10 : decode cX5_readDigits 10 = .ok (.getfield 29, 3) := by decide +kernel
theorem dX5_readDigits_13 : decode cX5_readDigits 13 = .ok (.if_icmp .ge 81, 3) := by decide +kernel
theorem dX5_readDigits_16 : decode cX5_readDigits 16 = .ok (.aload_n 0, 1) := by decide +kernel
theorem dX5_readDigits_17 : decode cX5_readDigits 17 = .ok (.getfield 15, 3) := by decide +kernel
theorem dX5_readDigits_20 : decode cX5_readDigits 20 = .ok (.aload_n 0, 1) := by decide +kernel
theorem dX5_readDigits_21 : decode cX5_readDigits 21 = .ok (.getfield 33, 3) := by decide +kernel
theorem dX5_readDigits_24 : decode cX5_readDigits 24 = .ok (.baload, 1) := by decide +kernel
theorem dX5_readDigits_25 : decode cX5_readDigits 25 = .ok (.bipush 48, 2) := by decide +kernel
theorem dX5_readDigits_27 : decode cX5_readDigits 27 = .ok (.if_icmp .lt 67, 3) := by decide +kernel
theorem dX5_readDigits_30 : decode cX5_readDigits 30 = .ok (.aload_n 0, 1) := by decide +kernel
theorem dX5_readDigits_31 : decode cX5_readDigits 31 = .ok (.getfield 15, 3) := by decide +kernel
theorem dX5_readDigits_34 : decode cX5_readDigits 34 = .ok (.aload_n 0, 1) := by decide +kernel
theorem dX5_readDigits_35 : decode cX5_readDigits 35 = .ok (.getfield 33, 3) := by decide +kernel
theorem dX5_readDigits_38 : decode cX5_readDigits 38 = .ok (.baload, 1) := by decide +kernel
theorem dX5_readDigits_39 : decode cX5_readDigits 39 = .ok (.bipush 57, 2) := by decide +kernel
theorem dX5_readDigits_41 : decode cX5_readDigits 41 = .ok (.if_icmp .gt 53, 3) := by decide +kernel
theorem dX5_readDigits_44 : decode cX5_readDigits 44 = .ok (.aload_n 0, 1) := by decide +kernel
theorem dX5_readDigits_45 : decode cX5_readDigits 45 = .ok (.getfield 33, 3) := by decide +kernel
theorem dX5_readDigits_48 : decode cX5_readDigits 48 = .ok (.aload_n 0, 1) := by decide +kernel
theorem dX5_readDigits_49 : decode cX5_readDigits 49 = .ok (.getfield 57, 3) := by decide +kernel
theorem dX5_readDigits_52 : decode cX5_readDigits 52 = .ok (.isub, 1) := by decide +kernel
theorem dX5_readDigits_53 : decode cX5_readDigits 53 = .ok (.iconst 4, 1) := by decide +kernel
theorem dX5_readDigits_54 : decode cX5_readDigits 54 = .ok (.if_icmp .ge 27, 3) := by decide +kernel
theorem dX5_readDigits_57 : decode cX5_readDigits 57 = .ok (.aload_n 0, 1) := by decide +kernel
theorem dX5_readDigits_58 : decode cX5_readDigits 58 = .ok (.bipush 10, 2) := by decide +kernel
theorem dX5_readDigits_60 : decode cX5_readDigits 60 = .ok (.aload_n 0, 1) := by decide +kernel
theorem dX5_readDigits_61 : decode cX5_readDigits 61 = .ok (.getfield 115, 3) := by decide +kernel
theorem dX5_readDigits_64 : decode cX5_readDigits 64 = .ok (.imul, 1) := by decide +kernel
theorem dX5_readDigits_65 : decode cX5_readDigits 65 = .ok (.aload_n 0, 1) := by decide +kernel
theorem dX5_readDigits_66 : decode cX5_readDigits 66 = .ok (.getfield 15, 3) := by decide +kernel
theorem dX5_readDigits_69 : decode cX5_readDigits 69 = .ok (.aload_n 0, 1) := by decide +kernel
theorem dX5_readDigits_70 : decode cX5_readDigits 70 = .ok (.getfield 33, 3) := by decide +kernel
theorem dX5_readDigits_73 : decode cX5_readDigits 73 = .ok (.baload, 1) := by decide +kernel
theorem dX5_readDigits_74 : decode cX5_readDigits 74 = .ok (.iadd, 1) := by decide +kernel
theorem dX5_readDigits_75 : decode cX5_readDigits 75 = .ok (.bipush 48, 2) := by decide +kernel
theorem dX5_readDigits_77 : decode cX5_readDigits 77 = .ok (.isub, 1) := by decide +kernel
theorem dX5_readDigits_78 : decode cX5_readDigits 78 = .ok (.putfield 115, 3) := by decide +kernel
theorem dX5_readDigits_81 : decode cX5_readDigits 81 = .ok (.aload_n 0, 1) := by decide +kernel
theorem dX5_readDigits_82 : decode cX5_readDigits 82 = .ok (.dup, 1) := by decide +kernel
theorem dX5_readDigits_83 : decode cX5_readDigits 83 = .ok (.getfield 33, 3) := by decide +kernel
theorem dX5_readDigits_86 : decode cX5_readDigits 86 = .ok (.iconst 1, 1) := by decide +kernel
theorem dX5_readDigits_87 : decode cX5_readDigits 87 = .ok (.iadd, 1) := by decide +kernel
theorem dX5_readDigits_88 : decode cX5_readDigits 88 = .ok (.putfield 33, 3) := by decide +kernel
theorem dX5_readDigits_91 : decode cX5_readDigits 91 = .ok (.goto (-86), 3) := by decide +kernel
theorem dX5_readDigits_94 : decode cX5_readDigits 94 = .ok (.aload_n 0, 1) := by decide +kernel
theorem dX5_readDigits_95 : decode cX5_readDigits 95 = .ok (.iconst 2, 1) := by decide +kernel
theorem dX5_readDigits_96 : decode cX5_readDigits 96 = .ok (.putfield 51, 3) := by decide +kernel
theorem dX5_readDigits_99 : decode cX5_readDigits 99 = .ok (.aload_n 0, 1) := by decide +kernel
theorem dX5_readDigits_100 : decode cX5_readDigits 100 = .ok (.aload_n 0, 1) := by decide +kernel
theorem dX5_readDigits_101 : decode cX5_readDigits 101 = .ok (.getfield 33, 3) := by decide +kernel
theorem dX5_readDigits_104 : decode cX5_readDigits 104 = .ok (.aload_n 0, 1) := by decide +kernel
theorem dX5_readDigits_105 : decode cX5_readDigits 105 = .ok (.getfield 57, 3) := by decide +kernel
theorem dX5_readDigits_108 : decode cX5_readDigits 108 = .ok (.isub, 1) := by decide +kernel
theorem dX5_readDigits_109 : decode cX5_readDigits 109 = .ok (.putfield 112, 3) := by decide +kernel
theorem dX5_readDigits_112 : decode cX5_readDigits 112 = .ok (.return_, 1) := by decide +kernel
set_option maxRecDepth 20000 in
theorem ggX6_init_X7_init : GoodIn wsX6_init wsX7_init := goodIn_r _ [14, 15, 2, 3, 8, 16, 17, 18, 19, 20, 21, 22, 23, 24, 25, 26] (by decide +kernel) (by decide +kernel)
set_option maxRecDepth 20000 in
theorem gX6_init_X7_init_n11 : GoodIn wsX6_init (wsX7_init) := ggX6_init_X7_init
theorem dX6_init_0 : decode cX6_init 0 = .ok (.aload_n 0, 1) := by decide +kernel
theorem dX6_init_1 : decode cX6_init 1 = .ok (.invokespecial 3, 3) := by decide +kernel
theorem dX6_init_4 : decode cX6_init 4 = .ok (.aload_n 0, 1) := by decide +kernel
theorem dX6_init_5 : decode cX6_init 5 = .ok (.new 9, 3) := by decide +kernel
theorem dX6_init_8 : decode cX6_init 8 = .ok (.dup, 1) := by decide +kernel
theorem dX6_init_9 : decode cX6_init 9 = .ok (.invokespecial 11, 3) := by decide +kernel
theorem dX6_init_12 : decode cX6_init 12 = .ok (.putfield 12, 3) := by decide +kernel
theorem dX6_init_15 : decode cX6_init 15 = .ok (.aload_n 0, 1) := by decide +kernel
theorem dX6_init_16 : decode cX6_init 16 = .ok (.bipush 48, 2) := by decide +kernel
theorem dX6_init_18 : decode cX6_init 18 = .ok (.newarray .int, 2) := by decide +kernel
theorem dX6_init_20 : decode cX6_init 20 = .ok (.putfield 18, 3) := by decide +kernel
theorem dX6_init_23 : decode cX6_init 23 = .ok (.aload_n 0, 1) := by decide +kernel
theorem dX6_init_24 : decode cX6_init 24 = .ok (.bipush 48, 2) := by decide +kernel
theorem dX6_init_26 : decode cX6_init 26 = .ok (.newarray .int, 2) := by decide +kernel
theorem dX6_init_28 : decode cX6_init 28 = .ok (.putfield 22, 3) := by decide +kernel
theorem dX6_init_31 : decode cX6_init 31 = .ok (.aload_n 0, 1) := by decide +kernel
theorem dX6_init_32 : decode cX6_init 32 = .ok (.aload_n 1, 1) := by decide +kernel
theorem dX6_init_33 : decode cX6_init 33 = .ok (.putfield 25, 3) := by decide +kernel
theorem dX6_init_36 : decode cX6_init 36 = .ok (.aload_n 0, 1) := by decide +kernel
theorem dX6_init_37 : decode cX6_init 37 = .ok (.aload_n 2, 1) := by decide +kernel
theorem dX6_init_38 : decode cX6_init 38 = .ok (.putfield 29, 3) := by decide +kernel
theorem dX6_init_41 : decode cX6_init 41 = .ok (.return_, 1) := by decide +kernel
set_option maxRecDepth 20000 in
theorem ggX6_isSoWithout_X6_latestSeen : GoodIn wsX6_isSoWithout wsX6_latestSeen := goodIn_r _ [8, 1, 9, 10, 11, 12, 13, 14, 79, 80, 81, 82, 83, 84, 85, 86, 87, 88, 89, 90] (by decide +kernel) (by decide +kernel)
set_option maxRecDepth 20000 in
theorem gX6_isSoWithout_X6_latestSeen : GoodIn wsX6_isSoWithout (wsV RX6 42 RX6 yX6_latestSeen wsX6_latestSeen) := goodIn_app (goodIn_of _ (by decide +kernel)) ggX6_isSoWithout_X6_latestSeen
set_option maxRecDepth 20000 in
theorem ggX6_isSoWithout_X6_fitsAll : GoodIn wsX6_isSoWithout wsX6_fitsAll := goodIn_r _ [18, 19, 1, 2, 3, 20, 21, 9, 10, 22, 23, 24, 25, 26, 27, 28, 29, 30, 31, 32, 33, 34, 35, 36, 37, 38, 39, 40, 41, 42, 43, 44, 45, 46, 47, 48, 49, 50, 51, 52, 53, 54, 55, 56, 57, 13, 58, 59, 12, 14, 60, 61, 62, 63, 64, 65, 66, 67, 68, 69, 70, 71, 72, 73, 74, 75, 76, 77, 78, 79, 80, 81, 82, 83, 84, 85, 86, 87, 88, 89, 90, 91, 92, 93, 94, 95, 96, 97, 98, 99, 100, 101, 102, 103, 104, 105, 106, 107, 108, 109, 110, 111, 112, 113, 114, 115, 116, 117, 118] (by decide +kernel) (by decide +kernel)
set_option maxRecDepth 20000 in
theorem gX6_isSoWithout_X6_fitsAll : GoodIn wsX6_isSoWithout (wsV RX6 46 RX6 yX6_fitsAll wsX6_fitsAll) := goodIn_app (goodIn_of _ (by decide +kernel)) ggX6_isSoWithout_X6_fitsAll
theorem dX6_isSoWithout_0 : decode cX6_isSoWithout 0 = .ok (.aload_n 0, 1) := by decide +kernel
theorem dX6_isSoWithout_1 : decode cX6_isSoWithout 1 = .ok (.aload_n 0, 1) := by decide +kernel
theorem dX6_isSoWithout_2 : decode cX6_isSoWithout 2 = .ok (.getfield 29, 3) := by decide +kernel
theorem dX6_isSoWithout_5 : decode cX6_isSoWithout 5 = .ok (.getfield 33, 3) := by decide +kernel
theorem dX6_isSoWithout_8 : decode cX6_isSoWithout 8 = .ok (.getfield 38, 3) := by decide +kernel
theorem dX6_isSoWithout_11 : decode cX6_isSoWithout 11 = .ok (.aload_n 0, 1) := by decide +kernel
theorem dX6_isSoWithout_12 : decode cX6_isSoWithout 12 = .ok (.invokevirtual 42, 3) := by decide +kernel
theorem dX6_isSoWithout_15 : decode cX6_isSoWithout 15 = .ok (.invokevirtual 46, 3) := by decide +kernel
theorem dX6_isSoWithout_18 : decode cX6_isSoWithout 18 = .ok (.ireturn, 1) := by decide +kernel
set_option maxRecDepth 20000 in
theorem ggX6_howManyOils_X6_latestSeen : GoodIn wsX6_howManyOils wsX6_latestSeen := goodIn_r _ [8, 1, 9, 10, 11, 12, 13, 14, 79, 80, 81, 82, 83, 84, 85, 86, 87, 88, 89, 90] (by decide +kernel) (by decide +kernel)
set_option maxRecDepth 20000 in
theorem gX6_howManyOils_X6_latestSeen : GoodIn wsX6_howManyOils (wsV RX6 42 RX6 yX6_latestSeen wsX6_latestSeen) := goodIn_app (goodIn_of _ (by decide +kernel)) ggX6_howManyOils_X6_latestSeen
set_option maxRecDepth 20000 in
theorem ggX6_howManyOils_X6_fitsAll : GoodIn wsX6_howManyOils wsX6_fitsAll := goodIn_r _ [18, 19, 1, 2, 3, 20, 21, 9, 10, 22, 23, 24, 25, 26, 27, 28, 29, 30, 31, 32, 33, 34, 35, 36, 37, 38, 39, 40, 41, 42, 43, 44, 45, 46, 47, 48, 49, 50, 51, 52, 53, 54, 55, 56, 57, 13, 58, 59, 12, 14, 60, 61, 62, 63, 64, 65, 66, 67, 68, 69, 70, 71, 72, 73, 74, 75, 76, 77, 78, 79, 80, 81, 82, 83, 84, 85, 86, 87, 88, 89, 90, 91, 92, 93, 94, 95, 96, 97, 98, 99, 100, 101, 102, 103, 104, 105, 106, 107, 108, 109, 110, 111, 112, 113, 114, 115, 116, 117, 118] (by decide +kernel) (by decide +kernel)
set_option maxRecDepth 20000 in
theorem gX6_howManyOils_X6_fitsAll : GoodIn wsX6_howManyOils (wsV RX6 46 RX6 yX6_fitsAll wsX6_fitsAll) := goodIn_app (goodIn_of _ (by decide +kernel)) ggX6_howManyOils_X6_fitsAll
theorem dX6_howManyOils_0 : decode cX6_howManyOils 0 = .ok (.aload_n 0, 1) := by decide +kernel
theorem dX6_howManyOils_1 : decode cX6_howManyOils 1 = .ok (.invokevirtual 42, 3) := by decide +kernel
theorem dX6_howManyOils_4 : decode cX6_howManyOils 4 = .ok (.istore_n 1, 1) := by decide +kernel
theorem dX6_howManyOils_5 : decode cX6_howManyOils 5 = .ok (.iconst 0, 1) := by decide +kernel
theorem dX6_howManyOils_6 : decode cX6_howManyOils 6 = .ok (.istore_n 2, 1) := by decide +kernel
theorem dX6_howManyOils_7 : decode cX6_howManyOils 7 = .ok (.iconst 0, 1) := by decide +kernel
theorem dX6_howManyOils_8 : decode cX6_howManyOils 8 = .ok (.istore_n 3, 1) := by decide +kernel
theorem dX6_howManyOils_9 : decode cX6_howManyOils 9 = .ok (.iload_n 3, 1) := by decide +kernel
theorem dX6_howManyOils_10 : decode cX6_howManyOils 10 = .ok (.bipush 99, 2) := by decide +kernel
theorem dX6_howManyOils_12 : decode cX6_howManyOils 12 = .ok (.if_icmp .gt 35, 3) := by decide +kernel
theorem dX6_howManyOils_15 : decode cX6_howManyOils 15 = .ok (.iload_n 3, 1) := by decide +kernel
theorem dX6_howManyOils_16 : decode cX6_howManyOils 16 = .ok (.aload_n 0, 1) := by decide +kernel
theorem dX6_howManyOils_17 : decode cX6_howManyOils 17 = .ok (.getfield 29, 3) := by decide +kernel
theorem dX6_howManyOils_20 : decode cX6_howManyOils 20 = .ok (.getfield 33, 3) := by decide +kernel
theorem dX6_howManyOils_23 : decode cX6_howManyOils 23 = .ok (.getfield 38, 3) := by decide +kernel
theorem dX6_howManyOils_26 : decode cX6_howManyOils 26 = .ok (.if_icmp .eq 15, 3) := by decide +kernel
theorem dX6_howManyOils_29 : decode cX6_howManyOils 29 = .ok (.aload_n 0, 1) := by decide +kernel
theorem dX6_howManyOils_30 : decode cX6_howManyOils 30 = .ok (.iload_n 3, 1) := by decide +kernel
theorem dX6_howManyOils_31 : decode cX6_howManyOils 31 = .ok (.iload_n 1, 1) := by decide +kernel
theorem dX6_howManyOils_32 : decode cX6_howManyOils 32 = .ok (.invokevirtual 46, 3) := by decide +kernel
theorem dX6_howManyOils_35 : decode cX6_howManyOils 35 = .ok (.ifCond .eq 6, 3) := by decide +kernel
theorem dX6_howManyOils_38 : decode cX6_howManyOils 38 = .ok (.iinc 2 1, 3) := by decide +kernel
theorem dX6_howManyOils_41 : decode cX6_howManyOils 41 = .ok (.iinc 3 1, 3) := by decide +kernel
theorem dX6_howManyOils_44 : decode cX6_howManyOils 44 = .ok (.goto (-35), 3) := by decide +kernel
theorem dX6_howManyOils_47 : decode cX6_howManyOils 47 = .ok (.iload_n 2, 1) := by decide +kernel
theorem dX6_howManyOils_48 : decode cX6_howManyOils 48 = .ok (.ireturn, 1) := by decide +kernel
set_option maxRecDepth 20000 in
theorem ggX6_leastOil_X6_latestSeen : GoodIn wsX6_leastOil wsX6_latestSeen := goodIn_r _ [8, 1, 9, 10, 11, 12, 13, 14, 79, 80, 81, 82, 83, 84, 85, 86, 87, 88, 89, 90] (by decide +kernel) (by decide +kernel)
set_option maxRecDepth 20000 in
theorem gX6_leastOil_X6_latestSeen : GoodIn wsX6_leastOil (wsV RX6 42 RX6 yX6_latestSeen wsX6_latestSeen) := goodIn_app (goodIn_of _ (by decide +kernel)) ggX6_leastOil_X6_latestSeen
set_option maxRecDepth 20000 in
theorem ggX6_leastOil_X6_fitsAll : GoodIn wsX6_leastOil wsX6_fitsAll := goodIn_r _ [18, 19, 1, 2, 3, 20, 21, 9, 10, 22, 23, 24, 25, 26, 27, 28, 29, 30, 31, 32, 33, 34, 35, 36, 37, 38, 39, 40, 41, 42, 43, 44, 45, 46, 47, 48, 49, 50, 51, 52, 53, 54, 55, 56, 57, 13, 58, 59, 12, 14, 60, 61, 62, 63, 64, 65, 66, 67, 68, 69, 70, 71, 72, 73, 74, 75, 76, 77, 78, 79, 80, 81, 82, 83, 84, 85, 86, 87, 88, 89, 90, 91, 92, 93, 94, 95, 96, 97, 98, 99, 100, 101, 102, 103, 104, 105, 106, 107, 108, 109, 110, 111, 112, 113, 114, 115, 116, 117, 118] (by decide +kernel) (by decide +kernel)
set_option maxRecDepth 20000 in
theorem gX6_leastOil_X6_fitsAll : GoodIn wsX6_leastOil (wsV RX6 46 RX6 yX6_fitsAll wsX6_fitsAll) := goodIn_app (goodIn_of _ (by decide +kernel)) ggX6_leastOil_X6_fitsAll
theorem dX6_leastOil_0 : decode cX6_leastOil 0 = .ok (.aload_n 0, 1) := by decide +kernel
theorem dX6_leastOil_1 : decode cX6_leastOil 1 = .ok (.invokevirtual 42, 3) := by decide +kernel
theorem dX6_leastOil_4 : decode cX6_leastOil 4 = .ok (.istore_n 1, 1) := by decide +kernel
theorem dX6_leastOil_5 : decode cX6_leastOil 5 = .ok (.iconst 0, 1) := by decide +kernel
theorem dX6_leastOil_6 : decode cX6_leastOil 6 = .ok (.istore_n 2, 1) := by decide +kernel
theorem dX6_leastOil_7 : decode cX6_leastOil 7 = .ok (.iload_n 2, 1) := by decide +kernel
theorem dX6_leastOil_8 : decode cX6_leastOil 8 = .ok (.bipush 99, 2) := by decide +kernel
theorem dX6_leastOil_10 : decode cX6_leastOil 10 = .ok (.if_icmp .gt 34, 3) := by decide +kernel
theorem dX6_leastOil_13 : decode cX6_leastOil 13 = .ok (.iload_n 2, 1) := by decide +kernel
theorem dX6_leastOil_14 : decode cX6_leastOil 14 = .ok (.aload_n 0, 1) := by decide +kernel
theorem dX6_leastOil_15 : decode cX6_leastOil 15 = .ok (.getfield 29, 3) := by decide +kernel
theorem dX6_leastOil_18 : decode cX6_leastOil 18 = .ok (.getfield 33, 3) := by decide +kernel
theorem dX6_leastOil_21 : decode cX6_leastOil 21 = .ok (.getfield 38, 3) := by decide +kernel
theorem dX6_leastOil_24 : decode cX6_leastOil 24 = .ok (.if_icmp .eq 14, 3) := by decide +kernel
theorem dX6_leastOil_27 : decode cX6_leastOil 27 = .ok (.aload_n 0, 1) := by decide +kernel
theorem dX6_leastOil_28 : decode cX6_leastOil 28 = .ok (.iload_n 2, 1) := by decide +kernel
theorem dX6_leastOil_29 : decode cX6_leastOil 29 = .ok (.iload_n 1, 1) := by decide +kernel
theorem dX6_leastOil_30 : decode cX6_leastOil 30 = .ok (.invokevirtual 46, 3) := by decide +kernel
theorem dX6_leastOil_33 : decode cX6_leastOil 33 = .ok (.ifCond .eq 5, 3) := by decide +kernel
theorem dX6_leastOil_36 : decode cX6_leastOil 36 = .ok (.iload_n 2, 1) := by decide +kernel
theorem dX6_leastOil_37 : decode cX6_leastOil 37 = .ok (.ireturn, 1) := by decide +kernel
theorem dX6_leastOil_38 : decode cX6_leastOil 38 = .ok (.iinc 2 1, 3) := by decide +kernel
theorem dX6_leastOil_41 : decode cX6_leastOil 41 = .ok (.goto (-34), 3) := by decide +kernel
theorem dX6_leastOil_44 : decode cX6_leastOil 44 = .ok (.iconst (-1), 1) := by decide +kernel
theorem dX6_leastOil_45 : decode cX6_leastOil 45 = .ok (.ireturn, 1) := by decide +kernel
set_option maxRecDepth 20000 in
theorem ggX6_mostUnlikeHour_J7_fill_53178 : GoodIn wsX6_mostUnlikeHour wsJ7_fill_53178 := goodIn_r _ [8] (by decide +kernel) (by decide +kernel)
set_option maxRecDepth 20000 in
theorem gX6_mostUnlikeHour_J7_fill_53178 : GoodIn wsX6_mostUnlikeHour (va_wsS RX6 50 yJ7_fill_53178 wsJ7_fill_53178) := goodIn_app (goodIn_of _ (by decide +kernel)) ggX6_mostUnlikeHour_J7_fill_53178
set_option maxRecDepth 20000 in
theorem ggX6_mostUnlikeHour_X6_fitsAll : GoodIn wsX6_mostUnlikeHour wsX6_fitsAll := goodIn_r _ [13, 14, 2, 3, 4, 15, 16, 17, 18, 19, 20, 21, 22, 23, 24, 25, 26, 27, 28, 29, 30, 31, 32, 33, 34, 35, 36, 37, 38, 39, 40, 41, 42, 43, 44, 45, 46, 47, 48, 49, 50, 51, 52, 53, 54, 55, 56, 57, 58, 59, 60, 61, 62, 63, 64, 65, 66, 67, 68, 69, 70, 71, 72, 73, 74, 75, 76, 77, 78, 90, 91, 92, 93, 94, 95, 96, 97, 98, 99, 100, 101, 102, 103, 104, 105, 106, 107, 108, 109, 110, 111, 112, 113, 114, 115, 116, 117, 118, 119, 120, 121, 122, 123, 124, 125, 126, 127, 128, 129] (by decide +kernel) (by decide +kernel)
set_option maxRecDepth 20000 in
theorem gX6_mostUnlikeHour_X6_fitsAll : GoodIn wsX6_mostUnlikeHour (wsV RX6 46 RX6 yX6_fitsAll wsX6_fitsAll) := goodIn_app (goodIn_of _ (by decide +kernel)) ggX6_mostUnlikeHour_X6_fitsAll
set_option maxRecDepth 20000 in
theorem ggX6_mostUnlikeHour_X6_addHeard : GoodIn wsX6_mostUnlikeHour wsX6_addHeard := goodIn_r _ [82, 1, 15, 90, 91, 92, 93, 94] (by decide +kernel) (by decide +kernel)
set_option maxRecDepth 20000 in
theorem gX6_mostUnlikeHour_X6_addHeard : GoodIn wsX6_mostUnlikeHour (wsV RX6 56 RX6 yX6_addHeard wsX6_addHeard) := goodIn_app (goodIn_of _ (by decide +kernel)) ggX6_mostUnlikeHour_X6_addHeard
set_option maxRecDepth 20000 in
theorem ggX6_mostUnlikeHour_J6_bitCount_0f7a4 : GoodIn wsX6_mostUnlikeHour wsJ6_bitCount_0f7a4 := goodIn_r _ [86, 87, 88, 89] (by decide +kernel) (by decide +kernel)
set_option maxRecDepth 20000 in
theorem gX6_mostUnlikeHour_J6_bitCount_0f7a4 : GoodIn wsX6_mostUnlikeHour (va_wsS RX6 59 yJ6_bitCount_0f7a4 wsJ6_bitCount_0f7a4) := goodIn_app (goodIn_of _ (by decide +kernel)) ggX6_mostUnlikeHour_J6_bitCount_0f7a4
theorem dX6_mostUnlikeHour_0 : decode cX6_mostUnlikeHour 0 = .ok (.aload_n 0, 1) := by decide +kernel
theorem dX6_mostUnlikeHour_1 : decode cX6_mostUnlikeHour 1 = .ok (.getfield 22, 3) := by decide +kernel
theorem dX6_mostUnlikeHour_4 : decode cX6_mostUnlikeHour 4 = .ok (.iconst 0, 1) := by decide +kernel
theorem dX6_mostUnlikeHour_5 : decode cX6_mostUnlikeHour 5 = .ok (.invokestatic 50, 3) := by decide +kernel
theorem dX6_mostUnlikeHour_8 : decode cX6_mostUnlikeHour 8 = .ok (.iconst 0, 1) := by decide +kernel
theorem dX6_mostUnlikeHour_9 : decode cX6_mostUnlikeHour 9 = .ok (.istore_n 2, 1) := by decide +kernel
theorem dX6_mostUnlikeHour_10 : decode cX6_mostUnlikeHour 10 = .ok (.iload_n 2, 1) := by decide +kernel
theorem dX6_mostUnlikeHour_11 : decode cX6_mostUnlikeHour 11 = .ok (.bipush 99, 2) := by decide +kernel
theorem dX6_mostUnlikeHour_13 : decode cX6_mostUnlikeHour 13 = .ok (.if_icmp .gt 37, 3) := by decide +kernel
theorem dX6_mostUnlikeHour_16 : decode cX6_mostUnlikeHour 16 = .ok (.iload_n 2, 1) := by decide +kernel
theorem dX6_mostUnlikeHour_17 : decode cX6_mostUnlikeHour 17 = .ok (.aload_n 0, 1) := by decide +kernel
theorem dX6_mostUnlikeHour_18 : decode cX6_mostUnlikeHour 18 = .ok (.getfield 29, 3) := by decide +kernel
theorem dX6_mostUnlikeHour_21 : decode cX6_mostUnlikeHour 21 = .ok (.getfield 33, 3) := by decide +kernel
theorem dX6_mostUnlikeHour_24 : decode cX6_mostUnlikeHour 24 = .ok (.getfield 38, 3) := by decide +kernel
theorem dX6_mostUnlikeHour_27 : decode cX6_mostUnlikeHour 27 = .ok (.if_icmp .eq 17, 3) := by decide +kernel
theorem dX6_mostUnlikeHour_30 : decode cX6_mostUnlikeHour 30 = .ok (.aload_n 0, 1) := by decide +kernel
theorem dX6_mostUnlikeHour_31 : decode cX6_mostUnlikeHour 31 = .ok (.iload_n 2, 1) := by decide +kernel
theorem dX6_mostUnlikeHour_32 : decode cX6_mostUnlikeHour 32 = .ok (.bipush 48, 2) := by decide +kernel
theorem dX6_mostUnlikeHour_34 : decode cX6_mostUnlikeHour 34 = .ok (.invokevirtual 46, 3) := by decide +kernel
theorem dX6_mostUnlikeHour_37 : decode cX6_mostUnlikeHour 37 = .ok (.ifCond .eq 7, 3) := by decide +kernel
theorem dX6_mostUnlikeHour_40 : decode cX6_mostUnlikeHour 40 = .ok (.aload_n 0, 1) := by decide +kernel
theorem dX6_mostUnlikeHour_41 : decode cX6_mostUnlikeHour 41 = .ok (.invokevirtual 56, 3) := by decide +kernel
theorem dX6_mostUnlikeHour_44 : decode cX6_mostUnlikeHour 44 = .ok (.iinc 2 1, 3) := by decide +kernel
theorem dX6_mostUnlikeHour_47 : decode cX6_mostUnlikeHour 47 = .ok (.goto (-37), 3) := by decide +kernel
theorem dX6_mostUnlikeHour_50 : decode cX6_mostUnlikeHour 50 = .ok (.iconst 0, 1) := by decide +kernel
theorem dX6_mostUnlikeHour_51 : decode cX6_mostUnlikeHour 51 = .ok (.istore_n 2, 1) := by decide +kernel
theorem dX6_mostUnlikeHour_52 : decode cX6_mostUnlikeHour 52 = .ok (.iconst (-1), 1) := by decide +kernel
theorem dX6_mostUnlikeHour_53 : decode cX6_mostUnlikeHour 53 = .ok (.istore_n 3, 1) := by decide +kernel
theorem dX6_mostUnlikeHour_54 : decode cX6_mostUnlikeHour 54 = .ok (.iconst 0, 1) := by decide +kernel
theorem dX6_mostUnlikeHour_55 : decode cX6_mostUnlikeHour 55 = .ok (.istore 4, 2) := by decide +kernel
theorem dX6_mostUnlikeHour_57 : decode cX6_mostUnlikeHour 57 = .ok (.iload 4, 2) := by decide +kernel
theorem dX6_mostUnlikeHour_59 : decode cX6_mostUnlikeHour 59 = .ok (.bipush 48, 2) := by decide +kernel
theorem dX6_mostUnlikeHour_61 : decode cX6_mostUnlikeHour 61 = .ok (.if_icmp .ge 35, 3) := by decide +kernel
theorem dX6_mostUnlikeHour_64 : decode cX6_mostUnlikeHour 64 = .ok (.aload_n 0, 1) := by decide +kernel
theorem dX6_mostUnlikeHour_65 : decode cX6_mostUnlikeHour 65 = .ok (.getfield 22, 3) := by decide +kernel
theorem dX6_mostUnlikeHour_68 : decode cX6_mostUnlikeHour 68 = .ok (.iload 4, 2) := by decide +kernel
theorem dX6_mostUnlikeHour_70 : decode cX6_mostUnlikeHour 70 = .ok (.iaload, 1) := by decide +kernel
theorem dX6_mostUnlikeHour_71 : decode cX6_mostUnlikeHour 71 = .ok (.invokestatic 59, 3) := by decide +kernel
theorem dX6_mostUnlikeHour_74 : decode cX6_mostUnlikeHour 74 = .ok (.istore 5, 2) := by decide +kernel
theorem dX6_mostUnlikeHour_76 : decode cX6_mostUnlikeHour 76 = .ok (.iload 5, 2) := by decide +kernel
theorem dX6_mostUnlikeHour_78 : decode cX6_mostUnlikeHour 78 = .ok (.iload_n 2, 1) := by decide +kernel
theorem dX6_mostUnlikeHour_79 : decode cX6_mostUnlikeHour 79 = .ok (.if_icmp .le 11, 3) := by decide +kernel
theorem dX6_mostUnlikeHour_82 : decode cX6_mostUnlikeHour 82 = .ok (.iload 5, 2) := by decide +kernel
theorem dX6_mostUnlikeHour_84 : decode cX6_mostUnlikeHour 84 = .ok (.istore_n 2, 1) := by decide +kernel
theorem dX6_mostUnlikeHour_85 : decode cX6_mostUnlikeHour 85 = .ok (.iload 4, 2) := by decide +kernel
theorem dX6_mostUnlikeHour_87 : decode cX6_mostUnlikeHour 87 = .ok (.iconst 1, 1) := by decide +kernel
theorem dX6_mostUnlikeHour_88 : decode cX6_mostUnlikeHour 88 = .ok (.iadd, 1) := by decide +kernel
theorem dX6_mostUnlikeHour_89 : decode cX6_mostUnlikeHour 89 = .ok (.istore_n 3, 1) := by decide +kernel
theorem dX6_mostUnlikeHour_90 : decode cX6_mostUnlikeHour 90 = .ok (.iinc 4 1, 3) := by decide +kernel
theorem dX6_mostUnlikeHour_93 : decode cX6_mostUnlikeHour 93 = .ok (.goto (-36), 3) := by decide +kernel
theorem dX6_mostUnlikeHour_96 : decode cX6_mostUnlikeHour 96 = .ok (.iload_n 1, 1) := by decide +kernel
theorem dX6_mostUnlikeHour_97 : decode cX6_mostUnlikeHour 97 = .ok (.ifCond .eq 7, 3) := by decide +kernel
theorem dX6_mostUnlikeHour_100 : decode cX6_mostUnlikeHour 100 = .ok (.iload_n 2, 1) := by decide +kernel
theorem dX6_mostUnlikeHour_101 : decode cX6_mostUnlikeHour 101 = .ok (.goto 4, 3) := by decide +kernel
theorem dX6_mostUnlikeHour_104 : decode cX6_mostUnlikeHour 104 = .ok (.iload_n 3, 1) := by decide +kernel
theorem dX6_mostUnlikeHour_105 : decode cX6_mostUnlikeHour 105 = .ok (.ireturn, 1) := by decide +kernel
theorem dX6_addHeard_0 : decode cX6_addHeard 0 = .ok (.iconst 0, 1) := by decide +kernel
theorem dX6_addHeard_1 : decode cX6_addHeard 1 = .ok (.istore_n 1, 1) := by decide +kernel
theorem dX6_addHeard_2 : decode cX6_addHeard 2 = .ok (.iload_n 1, 1) := by decide +kernel
theorem dX6_addHeard_3 : decode cX6_addHeard 3 = .ok (.bipush 48, 2) := by decide +kernel
theorem dX6_addHeard_5 : decode cX6_addHeard 5 = .ok (.if_icmp .ge 28, 3) := by decide +kernel
theorem dX6_addHeard_8 : decode cX6_addHeard 8 = .ok (.aload_n 0, 1) := by decide +kernel
theorem dX6_addHeard_9 : decode cX6_addHeard 9 = .ok (.getfield 22, 3) := by decide +kernel
theorem dX6_addHeard_12 : decode cX6_addHeard 12 = .ok (.iload_n 1, 1) := by decide +kernel
theorem dX6_addHeard_13 : decode cX6_addHeard 13 = .ok (.dup2, 1) := by decide +kernel
theorem dX6_addHeard_14 : decode cX6_addHeard 14 = .ok (.iaload, 1) := by decide +kernel
theorem dX6_addHeard_15 : decode cX6_addHeard 15 = .ok (.iconst 1, 1) := by decide +kernel
theorem dX6_addHeard_16 : decode cX6_addHeard 16 = .ok (.aload_n 0, 1) := by decide +kernel
theorem dX6_addHeard_17 : decode cX6_addHeard 17 = .ok (.getfield 18, 3) := by decide +kernel
theorem dX6_addHeard_20 : decode cX6_addHeard 20 = .ok (.iload_n 1, 1) := by decide +kernel
theorem dX6_addHeard_21 : decode cX6_addHeard 21 = .ok (.iaload, 1) := by decide +kernel
theorem dX6_addHeard_22 : decode cX6_addHeard 22 = .ok (.iconst 1, 1) := by decide +kernel
theorem dX6_addHeard_23 : decode cX6_addHeard 23 = .ok (.iadd, 1) := by decide +kernel
theorem dX6_addHeard_24 : decode cX6_addHeard 24 = .ok (.ishl, 1) := by decide +kernel
theorem dX6_addHeard_25 : decode cX6_addHeard 25 = .ok (.ior, 1) := by decide +kernel
theorem dX6_addHeard_26 : decode cX6_addHeard 26 = .ok (.iastore, 1) := by decide +kernel
theorem dX6_addHeard_27 : decode cX6_addHeard 27 = .ok (.iinc 1 1, 3) := by decide +kernel
theorem dX6_addHeard_30 : decode cX6_addHeard 30 = .ok (.goto (-28), 3) := by decide +kernel
theorem dX6_addHeard_33 : decode cX6_addHeard 33 = .ok (.return_, 1) := by decide +kernel
theorem dX6_latestSeen_0 : decode cX6_latestSeen 0 = .ok (.iconst 0, 1) := by decide +kernel
theorem dX6_latestSeen_1 : decode cX6_latestSeen 1 = .ok (.istore_n 1, 1) := by decide +kernel
theorem dX6_latestSeen_2 : decode cX6_latestSeen 2 = .ok (.iconst 0, 1) := by decide +kernel
theorem dX6_latestSeen_3 : decode cX6_latestSeen 3 = .ok (.istore_n 2, 1) := by decide +kernel
theorem dX6_latestSeen_4 : decode cX6_latestSeen 4 = .ok (.iload_n 2, 1) := by decide +kernel
theorem dX6_latestSeen_5 : decode cX6_latestSeen 5 = .ok (.aload_n 0, 1) := by decide +kernel
theorem dX6_latestSeen_6 : decode cX6_latestSeen 6 = .ok (.getfield 29, 3) := by decide +kernel
theorem dX6_latestSeen_9 : decode cX6_latestSeen 9 = .ok (.getfield 65, 3) := by decide +kernel
theorem dX6_latestSeen_12 : decode cX6_latestSeen 12 = .ok (.if_icmp .ge 23, 3) := by decide +kernel
theorem dX6_latestSeen_15 : decode cX6_latestSeen 15 = .ok (.iload_n 1, 1) := by decide +kernel
theorem dX6_latestSeen_16 : decode cX6_latestSeen 16 = .ok (.aload_n 0, 1) := by decide +kernel
theorem dX6_latestSeen_17 : decode cX6_latestSeen 17 = .ok (.getfield 29, 3) := by decide +kernel
theorem dX6_latestSeen_20 : decode cX6_latestSeen 20 = .ok (.getfield 68, 3) := by decide +kernel
theorem dX6_latestSeen_23 : decode cX6_latestSeen 23 = .ok (.iload_n 2, 1) := by decide +kernel
theorem dX6_latestSeen_24 : decode cX6_latestSeen 24 = .ok (.iaload, 1) := by decide +kernel
theorem dX6_latestSeen_25 : decode cX6_latestSeen 25 = .ok (.invokestatic 71, 3) := by decide +kernel
theorem dX6_latestSeen_28 : decode cX6_latestSeen 28 = .ok (.istore_n 1, 1) := by decide +kernel
theorem dX6_latestSeen_29 : decode cX6_latestSeen 29 = .ok (.iinc 2 1, 3) := by decide +kernel
theorem dX6_latestSeen_32 : decode cX6_latestSeen 32 = .ok (.goto (-28), 3) := by decide +kernel
theorem dX6_latestSeen_35 : decode cX6_latestSeen 35 = .ok (.iload_n 1, 1) := by decide +kernel
theorem dX6_latestSeen_36 : decode cX6_latestSeen 36 = .ok (.ireturn, 1) := by decide +kernel
set_option maxRecDepth 20000 in
theorem ggX6_fitsAll_X7_copyFrom : GoodIn wsX6_fitsAll wsX7_copyFrom := goodIn_r _ [14, 15, 16, 17, 18, 19, 20, 21, 22, 23, 24, 25, 26, 27, 81, 82, 83, 84, 85, 86, 87, 88, 89] (by decide +kernel) (by decide +kernel)
set_option maxRecDepth 20000 in
theorem gX6_fitsAll_X7_copyFrom : GoodIn wsX6_fitsAll (wsV RX6 77 RX7 yX7_copyFrom wsX7_copyFrom) := goodIn_app (goodIn_of _ (by decide +kernel)) ggX6_fitsAll_X7_copyFrom
set_option maxRecDepth 20000 in
theorem ggX6_fitsAll_X2_passHourUnheeded : GoodIn wsX6_fitsAll wsX2_passHourUnheeded := goodIn_r _ [32, 33, 34, 35, 31, 36, 37, 38, 39, 40, 41, 42, 43, 44, 45, 46, 47, 48, 49, 50, 51, 52, 53, 54, 55, 56, 57, 58, 59, 60, 61, 62, 63, 64, 65, 66, 67, 68, 81, 82, 83, 84, 85, 86, 87, 88, 89, 90, 91, 92, 93, 94, 95, 96, 97, 98, 99, 100, 101, 102, 103, 104, 105, 106, 107, 108] (by decide +kernel) (by decide +kernel)
set_option maxRecDepth 20000 in
theorem gX6_fitsAll_X2_passHourUnheeded : GoodIn wsX6_fitsAll (wsV RX6 81 RX2 yX2_passHourUnheeded wsX2_passHourUnheeded) := goodIn_app (goodIn_of _ (by decide +kernel)) ggX6_fitsAll_X2_passHourUnheeded
theorem dX6_fitsAll_0 : decode cX6_fitsAll 0 = .ok (.aload_n 0, 1) := by decide +kernel
theorem dX6_fitsAll_1 : decode cX6_fitsAll 1 = .ok (.getfield 12, 3) := by decide +kernel
theorem dX6_fitsAll_4 : decode cX6_fitsAll 4 = .ok (.aload_n 0, 1) := by decide +kernel
theorem dX6_fitsAll_5 : decode cX6_fitsAll 5 = .ok (.getfield 29, 3) := by decide +kernel
theorem dX6_fitsAll_8 : decode cX6_fitsAll 8 = .ok (.getfield 33, 3) := by decide +kernel
theorem dX6_fitsAll_11 : decode cX6_fitsAll 11 = .ok (.invokevirtual 77, 3) := by decide +kernel
theorem dX6_fitsAll_14 : decode cX6_fitsAll 14 = .ok (.aload_n 0, 1) := by decide +kernel
theorem dX6_fitsAll_15 : decode cX6_fitsAll 15 = .ok (.getfield 12, 3) := by decide +kernel
theorem dX6_fitsAll_18 : decode cX6_fitsAll 18 = .ok (.iload_n 1, 1) := by decide +kernel
theorem dX6_fitsAll_19 : decode cX6_fitsAll 19 = .ok (.putfield 38, 3) := by decide +kernel
theorem dX6_fitsAll_22 : decode cX6_fitsAll 22 = .ok (.iconst 0, 1) := by decide +kernel
theorem dX6_fitsAll_23 : decode cX6_fitsAll 23 = .ok (.istore_n 3, 1) := by decide +kernel
theorem dX6_fitsAll_24 : decode cX6_fitsAll 24 = .ok (.iload_n 3, 1) := by decide +kernel
theorem dX6_fitsAll_25 : decode cX6_fitsAll 25 = .ok (.iload_n 2, 1) := by decide +kernel
theorem dX6_fitsAll_26 : decode cX6_fitsAll 26 = .ok (.if_icmp .ge 32, 3) := by decide +kernel
theorem dX6_fitsAll_29 : decode cX6_fitsAll 29 = .ok (.iload_n 3, 1) := by decide +kernel
theorem dX6_fitsAll_30 : decode cX6_fitsAll 30 = .ok (.bipush 48, 2) := by decide +kernel
theorem dX6_fitsAll_32 : decode cX6_fitsAll 32 = .ok (.if_icmp .ge 26, 3) := by decide +kernel
theorem dX6_fitsAll_35 : decode cX6_fitsAll 35 = .ok (.aload_n 0, 1) := by decide +kernel
theorem dX6_fitsAll_36 : decode cX6_fitsAll 36 = .ok (.getfield 18, 3) := by decide +kernel
theorem dX6_fitsAll_39 : decode cX6_fitsAll 39 = .ok (.iload_n 3, 1) := by decide +kernel
theorem dX6_fitsAll_40 : decode cX6_fitsAll 40 = .ok (.aload_n 0, 1) := by decide +kernel
theorem dX6_fitsAll_41 : decode cX6_fitsAll 41 = .ok (.getfield 25, 3) := by decide +kernel
theorem dX6_fitsAll_44 : decode cX6_fitsAll 44 = .ok (.aload_n 0, 1) := by decide +kernel
theorem dX6_fitsAll_45 : decode cX6_fitsAll 45 = .ok (.getfield 12, 3) := by decide +kernel
theorem dX6_fitsAll_48 : decode cX6_fitsAll 48 = .ok (.invokevirtual 81, 3) := by decide +kernel
theorem dX6_fitsAll_51 : decode cX6_fitsAll 51 = .ok (.iastore, 1) := by decide +kernel
theorem dX6_fitsAll_52 : decode cX6_fitsAll 52 = .ok (.iinc 3 1, 3) := by decide +kernel
theorem dX6_fitsAll_55 : decode cX6_fitsAll 55 = .ok (.goto (-31), 3) := by decide +kernel
theorem dX6_fitsAll_58 : decode cX6_fitsAll 58 = .ok (.iconst 0, 1) := by decide +kernel
theorem dX6_fitsAll_59 : decode cX6_fitsAll 59 = .ok (.istore_n 3, 1) := by decide +kernel
theorem dX6_fitsAll_60 : decode cX6_fitsAll 60 = .ok (.iload_n 3, 1) := by decide +kernel
theorem dX6_fitsAll_61 : decode cX6_fitsAll 61 = .ok (.aload_n 0, 1) := by decide +kernel
theorem dX6_fitsAll_62 : decode cX6_fitsAll 62 = .ok (.getfield 29, 3) := by decide +kernel
theorem dX6_fitsAll_65 : decode cX6_fitsAll 65 = .ok (.getfield 65, 3) := by decide +kernel
theorem dX6_fitsAll_68 : decode cX6_fitsAll 68 = .ok (.if_icmp .ge 55, 3) := by decide +kernel
theorem dX6_fitsAll_71 : decode cX6_fitsAll 71 = .ok (.aload_n 0, 1) := by decide +kernel
theorem dX6_fitsAll_72 : decode cX6_fitsAll 72 = .ok (.getfield 29, 3) := by decide +kernel
theorem dX6_fitsAll_75 : decode cX6_fitsAll 75 = .ok (.getfield 68, 3) := by decide +kernel
theorem dX6_fitsAll_78 : decode cX6_fitsAll 78 = .ok (.iload_n 3, 1) := by decide +kernel
theorem dX6_fitsAll_79 : decode cX6_fitsAll 79 = .ok (.iaload, 1) := by decide +kernel
theorem dX6_fitsAll_80 : decode cX6_fitsAll 80 = .ok (.iconst 1, 1) := by decide +kernel
theorem dX6_fitsAll_81 : decode cX6_fitsAll 81 = .ok (.isub, 1) := by decide +kernel
theorem dX6_fitsAll_82 : decode cX6_fitsAll 82 = .ok (.istore 4, 2) := by decide +kernel
theorem dX6_fitsAll_84 : decode cX6_fitsAll 84 = .ok (.iload 4, 2) := by decide +kernel
theorem dX6_fitsAll_86 : decode cX6_fitsAll 86 = .ok (.ifCond .lt 31, 3) := by decide +kernel
theorem dX6_fitsAll_89 : decode cX6_fitsAll 89 = .ok (.iload 4, 2) := by decide +kernel
theorem dX6_fitsAll_91 : decode cX6_fitsAll 91 = .ok (.bipush 48, 2) := by decide +kernel
theorem dX6_fitsAll_93 : decode cX6_fitsAll 93 = .ok (.if_icmp .ge 24, 3) := by decide +kernel
theorem dX6_fitsAll_96 : decode cX6_fitsAll 96 = .ok (.aload_n 0, 1) := by decide +kernel
theorem dX6_fitsAll_97 : decode cX6_fitsAll 97 = .ok (.getfield 18, 3) := by decide +kernel
theorem dX6_fitsAll_100 : decode cX6_fitsAll 100 = .ok (.iload 4, 2) := by decide +kernel
theorem dX6_fitsAll_102 : decode cX6_fitsAll 102 = .ok (.iaload, 1) := by decide +kernel
theorem dX6_fitsAll_103 : decode cX6_fitsAll 103 = .ok (.aload_n 0, 1) := by decide +kernel
theorem dX6_fitsAll_104 : decode cX6_fitsAll 104 = .ok (.getfield 29, 3) := by decide +kernel
theorem dX6_fitsAll_107 : decode cX6_fitsAll 107 = .ok (.getfield 87, 3) := by decide +kernel
theorem dX6_fitsAll_110 : decode cX6_fitsAll 110 = .ok (.iload_n 3, 1) := by decide +kernel
theorem dX6_fitsAll_111 : decode cX6_fitsAll 111 = .ok (.iaload, 1) := by decide +kernel
theorem dX6_fitsAll_112 : decode cX6_fitsAll 112 = .ok (.if_icmp .eq 5, 3) := by decide +kernel
theorem dX6_fitsAll_115 : decode cX6_fitsAll 115 = .ok (.iconst 0, 1) := by decide +kernel
theorem dX6_fitsAll_116 : decode cX6_fitsAll 116 = .ok (.ireturn, 1) := by decide +kernel
theorem dX6_fitsAll_117 : decode cX6_fitsAll 117 = .ok (.iinc 3 1, 3) := by decide +kernel
theorem dX6_fitsAll_120 : decode cX6_fitsAll 120 = .ok (.goto (-60), 3) := by decide +kernel
theorem dX6_fitsAll_123 : decode cX6_fitsAll 123 = .ok (.iconst 1, 1) := by decide +kernel
theorem dX6_fitsAll_124 : decode cX6_fitsAll 124 = .ok (.ireturn, 1) := by decide +kernel
theorem dX7_init_0 : decode cX7_init 0 = .ok (.aload_n 0, 1) := by decide +kernel
theorem dX7_init_1 : decode cX7_init 1 = .ok (.invokespecial 3, 3) := by decide +kernel
theorem dX7_init_4 : decode cX7_init 4 = .ok (.aload_n 0, 1) := by decide +kernel
theorem dX7_init_5 : decode cX7_init 5 = .ok (.bipush 7, 2) := by decide +kernel
theorem dX7_init_7 : decode cX7_init 7 = .ok (.newarray .int, 2) := by decide +kernel
theorem dX7_init_9 : decode cX7_init 9 = .ok (.putfield 9, 3) := by decide +kernel
theorem dX7_init_12 : decode cX7_init 12 = .ok (.aload_n 0, 1) := by decide +kernel
theorem dX7_init_13 : decode cX7_init 13 = .ok (.bipush 10, 2) := by decide +kernel
theorem dX7_init_15 : decode cX7_init 15 = .ok (.newarray .int, 2) := by decide +kernel
theorem dX7_init_17 : decode cX7_init 17 = .ok (.putfield 15, 3) := by decide +kernel
theorem dX7_init_20 : decode cX7_init 20 = .ok (.return_, 1) := by decide +kernel
theorem dX7_begin_0 : decode cX7_begin 0 = .ok (.aload_n 0, 1) := by decide +kernel
theorem dX7_begin_1 : decode cX7_begin 1 = .ok (.iconst 0, 1) := by decide +kernel
theorem dX7_begin_2 : decode cX7_begin 2 = .ok (.putfield 18, 3) := by decide +kernel
theorem dX7_begin_5 : decode cX7_begin 5 = .ok (.aload_n 0, 1) := by decide +kernel
theorem dX7_begin_6 : decode cX7_begin 6 = .ok (.aload_n 1, 1) := by decide +kernel
theorem dX7_begin_7 : decode cX7_begin 7 = .ok (.getfield 22, 3) := by decide +kernel
theorem dX7_begin_10 : decode cX7_begin 10 = .ok (.putfield 27, 3) := by decide +kernel
theorem dX7_begin_13 : decode cX7_begin 13 = .ok (.aload_n 0, 1) := by decide +kernel
theorem dX7_begin_14 : decode cX7_begin 14 = .ok (.aload_n 1, 1) := by decide +kernel
theorem dX7_begin_15 : decode cX7_begin 15 = .ok (.getfield 28, 3) := by decide +kernel
theorem dX7_begin_18 : decode cX7_begin 18 = .ok (.putfield 31, 3) := by decide +kernel
theorem dX7_begin_21 : decode cX7_begin 21 = .ok (.aload_n 0, 1) := by decide +kernel
theorem dX7_begin_22 : decode cX7_begin 22 = .ok (.iconst 0, 1) := by decide +kernel
theorem dX7_begin_23 : decode cX7_begin 23 = .ok (.putfield 32, 3) := by decide +kernel
theorem dX7_begin_26 : decode cX7_begin 26 = .ok (.aload_n 0, 1) := by decide +kernel
theorem dX7_begin_27 : decode cX7_begin 27 = .ok (.aload_n 1, 1) := by decide +kernel
theorem dX7_begin_28 : decode cX7_begin 28 = .ok (.getfield 35, 3) := by decide +kernel
theorem dX7_begin_31 : decode cX7_begin 31 = .ok (.putfield 38, 3) := by decide +kernel
theorem dX7_begin_34 : decode cX7_begin 34 = .ok (.aload_n 0, 1) := by decide +kernel
theorem dX7_begin_35 : decode cX7_begin 35 = .ok (.iconst 0, 1) := by decide +kernel
theorem dX7_begin_36 : decode cX7_begin 36 = .ok (.putfield 39, 3) := by decide +kernel
theorem dX7_begin_39 : decode cX7_begin 39 = .ok (.aload_n 0, 1) := by decide +kernel
theorem dX7_begin_40 : decode cX7_begin 40 = .ok (.iconst 0, 1) := by decide +kernel
theorem dX7_begin_41 : decode cX7_begin 41 = .ok (.putfield 42, 3) := by decide +kernel
theorem dX7_begin_44 : decode cX7_begin 44 = .ok (.aload_n 1, 1) := by decide +kernel
theorem dX7_begin_45 : decode cX7_begin 45 = .ok (.getfield 45, 3) := by decide +kernel
theorem dX7_begin_48 : decode cX7_begin 48 = .ok (.iconst 0, 1) := by decide +kernel
theorem dX7_begin_49 : decode cX7_begin 49 = .ok (.aload_n 0, 1) := by decide +kernel
theorem dX7_begin_50 : decode cX7_begin 50 = .ok (.getfield 9, 3) := by decide +kernel
theorem dX7_begin_53 : decode cX7_begin 53 = .ok (.iconst 0, 1) := by decide +kernel
theorem dX7_begin_54 : decode cX7_begin 54 = .ok (.bipush 7, 2) := by decide +kernel
theorem dX7_begin_56 : decode cX7_begin 56 = .ok (.invokestatic 46, 3) := by decide +kernel
theorem dX7_begin_59 : decode cX7_begin 59 = .ok (.aload_n 1, 1) := by decide +kernel
theorem dX7_begin_60 : decode cX7_begin 60 = .ok (.getfield 52, 3) := by decide +kernel
theorem dX7_begin_63 : decode cX7_begin 63 = .ok (.iconst 0, 1) := by decide +kernel
theorem dX7_begin_64 : decode cX7_begin 64 = .ok (.aload_n 0, 1) := by decide +kernel
theorem dX7_begin_65 : decode cX7_begin 65 = .ok (.getfield 15, 3) := by decide +kernel
theorem dX7_begin_68 : decode cX7_begin 68 = .ok (.iconst 0, 1) := by decide +kernel
theorem dX7_begin_69 : decode cX7_begin 69 = .ok (.bipush 10, 2) := by decide +kernel
theorem dX7_begin_71 : decode cX7_begin 71 = .ok (.invokestatic 46, 3) := by decide +kernel
theorem dX7_begin_74 : decode cX7_begin 74 = .ok (.return_, 1) := by decide +kernel
theorem dX7_copyFrom_0 : decode cX7_copyFrom 0 = .ok (.aload_n 0, 1) := by decide +kernel
theorem dX7_copyFrom_1 : decode cX7_copyFrom 1 = .ok (.aload_n 1, 1) := by decide +kernel
theorem dX7_copyFrom_2 : decode cX7_copyFrom 2 = .ok (.getfield 18, 3) := by decide +kernel
theorem dX7_copyFrom_5 : decode cX7_copyFrom 5 = .ok (.putfield 18, 3) := by decide +kernel
theorem dX7_copyFrom_8 : decode cX7_copyFrom 8 = .ok (.aload_n 0, 1) := by decide +kernel
theorem dX7_copyFrom_9 : decode cX7_copyFrom 9 = .ok (.aload_n 1, 1) := by decide +kernel
theorem dX7_copyFrom_10 : decode cX7_copyFrom 10 = .ok (.getfield 27, 3) := by decide +kernel
theorem dX7_copyFrom_13 : decode cX7_copyFrom 13 = .ok (.putfield 27, 3) := by decide +kernel
theorem dX7_copyFrom_16 : decode cX7_copyFrom 16 = .ok (.aload_n 0, 1) := by decide +kernel
theorem dX7_copyFrom_17 : decode cX7_copyFrom 17 = .ok (.aload_n 1, 1) := by decide +kernel
theorem dX7_copyFrom_18 : decode cX7_copyFrom 18 = .ok (.getfield 31, 3) := by decide +kernel
theorem dX7_copyFrom_21 : decode cX7_copyFrom 21 = .ok (.putfield 31, 3) := by decide +kernel
theorem dX7_copyFrom_24 : decode cX7_copyFrom 24 = .ok (.aload_n 0, 1) := by decide +kernel
theorem dX7_copyFrom_25 : decode cX7_copyFrom 25 = .ok (.aload_n 1, 1) := by decide +kernel
theorem dX7_copyFrom_26 : decode cX7_copyFrom 26 = .ok (.getfield 32, 3) := by decide +kernel
theorem dX7_copyFrom_29 : decode cX7_copyFrom 29 = .ok (.putfield 32, 3) := by decide +kernel
theorem dX7_copyFrom_32 : decode cX7_copyFrom 32 = .ok (.aload_n 0, 1) := by decide +kernel
theorem dX7_copyFrom_33 : decode cX7_copyFrom 33 = .ok (.aload_n 1, 1) := by decide +kernel
theorem dX7_copyFrom_34 : decode cX7_copyFrom 34 = .ok (.getfield 38, 3) := by decide +kernel
theorem dX7_copyFrom_37 : decode cX7_copyFrom 37 = .ok (.putfield 38, 3) := by decide +kernel
theorem dX7_copyFrom_40 : decode cX7_copyFrom 40 = .ok (.aload_n 0, 1) := by decide +kernel
theorem dX7_copyFrom_41 : decode cX7_copyFrom 41 = .ok (.aload_n 1, 1) := by decide +kernel
theorem dX7_copyFrom_42 : decode cX7_copyFrom 42 = .ok (.getfield 39, 3) := by decide +kernel
theorem dX7_copyFrom_45 : decode cX7_copyFrom 45 = .ok (.putfield 39, 3) := by decide +kernel
theorem dX7_copyFrom_48 : decode cX7_copyFrom 48 = .ok (.aload_n 0, 1) := by decide +kernel
theorem dX7_copyFrom_49 : decode cX7_copyFrom 49 = .ok (.aload_n 1, 1) := by decide +kernel
theorem dX7_copyFrom_50 : decode cX7_copyFrom 50 = .ok (.getfield 42, 3) := by decide +kernel
theorem dX7_copyFrom_53 : decode cX7_copyFrom 53 = .ok (.putfield 42, 3) := by decide +kernel
theorem dX7_copyFrom_56 : decode cX7_copyFrom 56 = .ok (.aload_n 1, 1) := by decide +kernel
theorem dX7_copyFrom_57 : decode cX7_copyFrom 57 = .ok (.getfield 9, 3) := by decide +kernel
theorem dX7_copyFrom_60 : decode cX7_copyFrom 60 = .ok (.iconst 0, 1) := by decide +kernel
theorem dX7_copyFrom_61 : decode cX7_copyFrom 61 = .ok (.aload_n 0, 1) := by decide +kernel
theorem dX7_copyFrom_62 : decode cX7_copyFrom 62 = .ok (.getfield 9, 3) := by decide +kernel
theorem dX7_copyFrom_65 : decode cX7_copyFrom 65 = .ok (.iconst 0, 1) := by decide +kernel
theorem dX7_copyFrom_66 : decode cX7_copyFrom 66 = .ok (.bipush 7, 2) := by decide +kernel
theorem dX7_copyFrom_68 : decode cX7_copyFrom 68 = .ok (.invokestatic 46, 3) := by decide +kernel
theorem dX7_copyFrom_71 : decode cX7_copyFrom 71 = .ok (.aload_n 1, 1) := by decide +kernel
theorem dX7_copyFrom_72 : decode cX7_copyFrom 72 = .ok (.getfield 15, 3) := by decide +kernel
theorem dX7_copyFrom_75 : decode cX7_copyFrom 75 = .ok (.iconst 0, 1) := by decide +kernel
theorem dX7_copyFrom_76 : decode cX7_copyFrom 76 = .ok (.aload_n 0, 1) := by decide +kernel
theorem dX7_copyFrom_77 : decode cX7_copyFrom 77 = .ok (.getfield 15, 3) := by decide +kernel
theorem dX7_copyFrom_80 : decode cX7_copyFrom 80 = .ok (.iconst 0, 1) := by decide +kernel
theorem dX7_copyFrom_81 : decode cX7_copyFrom 81 = .ok (.bipush 10, 2) := by decide +kernel
theorem dX7_copyFrom_83 : decode cX7_copyFrom 83 = .ok (.invokestatic 46, 3) := by decide +kernel
theorem dX7_copyFrom_86 : decode cX7_copyFrom 86 = .ok (.return_, 1) := by decide +kernel
theorem dX7_writeTo_0 : decode cX7_writeTo 0 = .ok (.iload_n 2, 1) := by decide +kernel
theorem dX7_writeTo_1 : decode cX7_writeTo 1 = .ok (.ifCond .lt 12, 3) := by decide +kernel
theorem dX7_writeTo_4 : decode cX7_writeTo 4 = .ok (.iload_n 2, 1) := by decide +kernel
theorem dX7_writeTo_5 : decode cX7_writeTo 5 = .ok (.aload_n 1, 1) := by decide +kernel
theorem dX7_writeTo_6 : decode cX7_writeTo 6 = .ok (.arraylength, 1) := by decide +kernel
theorem dX7_writeTo_7 : decode cX7_writeTo 7 = .ok (.bipush 24, 2) := by decide +kernel
theorem dX7_writeTo_9 : decode cX7_writeTo 9 = .ok (.isub, 1) := by decide +kernel
theorem dX7_writeTo_10 : decode cX7_writeTo 10 = .ok (.if_icmp .le 4, 3) := by decide +kernel
theorem dX7_writeTo_13 : decode cX7_writeTo 13 = .ok (.return_, 1) := by decide +kernel
theorem dX7_writeTo_14 : decode cX7_writeTo 14 = .ok (.aload_n 1, 1) := by decide +kernel
theorem dX7_writeTo_15 : decode cX7_writeTo 15 = .ok (.iload_n 2, 1) := by decide +kernel
theorem dX7_writeTo_16 : decode cX7_writeTo 16 = .ok (.aload_n 0, 1) := by decide +kernel
theorem dX7_writeTo_17 : decode cX7_writeTo 17 = .ok (.getfield 18, 3) := by decide +kernel
theorem dX7_writeTo_20 : decode cX7_writeTo 20 = .ok (.iastore, 1) := by decide +kernel
theorem dX7_writeTo_21 : decode cX7_writeTo 21 = .ok (.aload_n 1, 1) := by decide +kernel
theorem dX7_writeTo_22 : decode cX7_writeTo 22 = .ok (.iload_n 2, 1) := by decide +kernel
theorem dX7_writeTo_23 : decode cX7_writeTo 23 = .ok (.iconst 1, 1) := by decide +kernel
theorem dX7_writeTo_24 : decode cX7_writeTo 24 = .ok (.iadd, 1) := by decide +kernel
theorem dX7_writeTo_25 : decode cX7_writeTo 25 = .ok (.aload_n 0, 1) := by decide +kernel
theorem dX7_writeTo_26 : decode cX7_writeTo 26 = .ok (.getfield 27, 3) := by decide +kernel
theorem dX7_writeTo_29 : decode cX7_writeTo 29 = .ok (.iastore, 1) := by decide +kernel
theorem dX7_writeTo_30 : decode cX7_writeTo 30 = .ok (.aload_n 1, 1) := by decide +kernel
theorem dX7_writeTo_31 : decode cX7_writeTo 31 = .ok (.iload_n 2, 1) := by decide +kernel
theorem dX7_writeTo_32 : decode cX7_writeTo 32 = .ok (.iconst 2, 1) := by decide +kernel
theorem dX7_writeTo_33 : decode cX7_writeTo 33 = .ok (.iadd, 1) := by decide +kernel
theorem dX7_writeTo_34 : decode cX7_writeTo 34 = .ok (.aload_n 0, 1) := by decide +kernel
theorem dX7_writeTo_35 : decode cX7_writeTo 35 = .ok (.getfield 31, 3) := by decide +kernel
theorem dX7_writeTo_38 : decode cX7_writeTo 38 = .ok (.iastore, 1) := by decide +kernel
theorem dX7_writeTo_39 : decode cX7_writeTo 39 = .ok (.aload_n 1, 1) := by decide +kernel
theorem dX7_writeTo_40 : decode cX7_writeTo 40 = .ok (.iload_n 2, 1) := by decide +kernel
theorem dX7_writeTo_41 : decode cX7_writeTo 41 = .ok (.iconst 3, 1) := by decide +kernel
theorem dX7_writeTo_42 : decode cX7_writeTo 42 = .ok (.iadd, 1) := by decide +kernel
theorem dX7_writeTo_43 : decode cX7_writeTo 43 = .ok (.aload_n 0, 1) := by decide +kernel
theorem dX7_writeTo_44 : decode cX7_writeTo 44 = .ok (.getfield 32, 3) := by decide +kernel
theorem dX7_writeTo_47 : decode cX7_writeTo 47 = .ok (.iastore, 1) := by decide +kernel
theorem dX7_writeTo_48 : decode cX7_writeTo 48 = .ok (.aload_n 1, 1) := by decide +kernel
theorem dX7_writeTo_49 : decode cX7_writeTo 49 = .ok (.iload_n 2, 1) := by decide +kernel
theorem dX7_writeTo_50 : decode cX7_writeTo 50 = .ok (.iconst 4, 1) := by decide +kernel
theorem dX7_writeTo_51 : decode cX7_writeTo 51 = .ok (.iadd, 1) := by decide +kernel
theorem dX7_writeTo_52 : decode cX7_writeTo 52 = .ok (.aload_n 0, 1) := by decide +kernel
theorem dX7_writeTo_53 : decode cX7_writeTo 53 = .ok (.getfield 38, 3) := by decide +kernel
theorem dX7_writeTo_56 : decode cX7_writeTo 56 = .ok (.iastore, 1) := by decide +kernel
theorem dX7_writeTo_57 : decode cX7_writeTo 57 = .ok (.aload_n 1, 1) := by decide +kernel
theorem dX7_writeTo_58 : decode cX7_writeTo 58 = .ok (.iload_n 2, 1) := by decide +kernel
theorem dX7_writeTo_59 : decode cX7_writeTo 59 = .ok (.iconst 5, 1) := by decide +kernel
theorem dX7_writeTo_60 : decode cX7_writeTo 60 = .ok (.iadd, 1) := by decide +kernel
theorem dX7_writeTo_61 : decode cX7_writeTo 61 = .ok (.aload_n 0, 1) := by decide +kernel
theorem dX7_writeTo_62 : decode cX7_writeTo 62 = .ok (.getfield 39, 3) := by decide +kernel
theorem dX7_writeTo_65 : decode cX7_writeTo 65 = .ok (.iastore, 1) := by decide +kernel
theorem dX7_writeTo_66 : decode cX7_writeTo 66 = .ok (.aload_n 1, 1) := by decide +kernel
theorem dX7_writeTo_67 : decode cX7_writeTo 67 = .ok (.iload_n 2, 1) := by decide +kernel
theorem dX7_writeTo_68 : decode cX7_writeTo 68 = .ok (.bipush 6, 2) := by decide +kernel
theorem dX7_writeTo_70 : decode cX7_writeTo 70 = .ok (.iadd, 1) := by decide +kernel
theorem dX7_writeTo_71 : decode cX7_writeTo 71 = .ok (.aload_n 0, 1) := by decide +kernel
theorem dX7_writeTo_72 : decode cX7_writeTo 72 = .ok (.getfield 42, 3) := by decide +kernel
theorem dX7_writeTo_75 : decode cX7_writeTo 75 = .ok (.iastore, 1) := by decide +kernel
theorem dX7_writeTo_76 : decode cX7_writeTo 76 = .ok (.aload_n 0, 1) := by decide +kernel
theorem dX7_writeTo_77 : decode cX7_writeTo 77 = .ok (.getfield 9, 3) := by decide +kernel
theorem dX7_writeTo_80 : decode cX7_writeTo 80 = .ok (.iconst 0, 1) := by decide +kernel
theorem dX7_writeTo_81 : decode cX7_writeTo 81 = .ok (.aload_n 1, 1) := by decide +kernel
theorem dX7_writeTo_82 : decode cX7_writeTo 82 = .ok (.iload_n 2, 1) := by decide +kernel
theorem dX7_writeTo_83 : decode cX7_writeTo 83 = .ok (.bipush 7, 2) := by decide +kernel
theorem dX7_writeTo_85 : decode cX7_writeTo 85 = .ok (.iadd, 1) := by decide +kernel
theorem dX7_writeTo_86 : decode cX7_writeTo 86 = .ok (.bipush 7, 2) := by decide +kernel
theorem dX7_writeTo_88 : decode cX7_writeTo 88 = .ok (.invokestatic 46, 3) := by decide +kernel
theorem dX7_writeTo_91 : decode cX7_writeTo 91 = .ok (.aload_n 0, 1) := by decide +kernel
theorem dX7_writeTo_92 : decode cX7_writeTo 92 = .ok (.getfield 15, 3) := by decide +kernel
theorem dX7_writeTo_95 : decode cX7_writeTo 95 = .ok (.iconst 0, 1) := by decide +kernel
theorem dX7_writeTo_96 : decode cX7_writeTo 96 = .ok (.aload_n 1, 1) := by decide +kernel
theorem dX7_writeTo_97 : decode cX7_writeTo 97 = .ok (.iload_n 2, 1) := by decide +kernel
theorem dX7_writeTo_98 : decode cX7_writeTo 98 = .ok (.bipush 7, 2) := by decide +kernel
theorem dX7_writeTo_100 : decode cX7_writeTo 100 = .ok (.iadd, 1) := by decide +kernel
theorem dX7_writeTo_101 : decode cX7_writeTo 101 = .ok (.bipush 7, 2) := by decide +kernel
theorem dX7_writeTo_103 : decode cX7_writeTo 103 = .ok (.iadd, 1) := by decide +kernel
theorem dX7_writeTo_104 : decode cX7_writeTo 104 = .ok (.bipush 10, 2) := by decide +kernel
theorem dX7_writeTo_106 : decode cX7_writeTo 106 = .ok (.invokestatic 46, 3) := by decide +kernel
theorem dX7_writeTo_109 : decode cX7_writeTo 109 = .ok (.return_, 1) := by decide +kernel
theorem dX7_readFrom_0 : decode cX7_readFrom 0 = .ok (.iload_n 2, 1) := by decide +kernel
theorem dX7_readFrom_1 : decode cX7_readFrom 1 = .ok (.ifCond .lt 12, 3) := by decide +kernel
theorem dX7_readFrom_4 : decode cX7_readFrom 4 = .ok (.iload_n 2, 1) := by decide +kernel
theorem dX7_readFrom_5 : decode cX7_readFrom 5 = .ok (.aload_n 1, 1) := by decide +kernel
theorem dX7_readFrom_6 : decode cX7_readFrom 6 = .ok (.arraylength, 1) := by decide +kernel
theorem dX7_readFrom_7 : decode cX7_readFrom 7 = .ok (.bipush 24, 2) := by decide +kernel
theorem dX7_readFrom_9 : decode cX7_readFrom 9 = .ok (.isub, 1) := by decide +kernel
theorem dX7_readFrom_10 : decode cX7_readFrom 10 = .ok (.if_icmp .le 4, 3) := by decide +kernel
theorem dX7_readFrom_13 : decode cX7_readFrom 13 = .ok (.return_, 1) := by decide +kernel
theorem dX7_readFrom_14 : decode cX7_readFrom 14 = .ok (.aload_n 0, 1) := by decide +kernel
theorem dX7_readFrom_15 : decode cX7_readFrom 15 = .ok (.aload_n 1, 1) := by decide +kernel
theorem dX7_readFrom_16 : decode cX7_readFrom 16 = .ok (.iload_n 2, 1) := by decide +kernel
theorem dX7_readFrom_17 : decode cX7_readFrom 17 = .ok (.iaload, 1) := by decide +kernel
theorem dX7_readFrom_18 : decode cX7_readFrom 18 = .ok (.putfield 18, 3) := by decide +kernel
theorem dX7_readFrom_21 : decode cX7_readFrom 21 = .ok (.aload_n 0, 1) := by decide +kernel
theorem dX7_readFrom_22 : decode cX7_readFrom 22 = .ok (.aload_n 1, 1) := by decide +kernel
theorem dX7_readFrom_23 : decode cX7_readFrom 23 = .ok (.iload_n 2, 1) := by decide +kernel
theorem dX7_readFrom_24 : decode cX7_readFrom 24 = .ok (.iconst 1, 1) := by decide +kernel
theorem dX7_readFrom_25 : decode cX7_readFrom 25 = .ok (.iadd, 1) := by decide +kernel
theorem dX7_readFrom_26 : decode cX7_readFrom 26 = .ok (.iaload, 1) := by decide +kernel
theorem dX7_readFrom_27 : decode cX7_readFrom 27 = .ok (.putfield 27, 3) := by decide +kernel
theorem dX7_readFrom_30 : decode cX7_readFrom 30 = .ok (.aload_n 0, 1) := by decide +kernel
theorem dX7_readFrom_31 : decode cX7_readFrom 31 = .ok (.aload_n 1, 1) := by decide +kernel
theorem dX7_readFrom_32 : decode cX7_readFrom 32 = .ok (.iload_n 2, 1) := by decide +kernel
theorem dX7_readFrom_33 : decode cX7_readFrom 33 = .ok (.iconst 2, 1) := by decide +kernel
theorem dX7_readFrom_34 : decode cX7_readFrom 34 = .ok (.iadd, 1) := by decide +kernel
theorem dX7_readFrom_35 : decode cX7_readFrom 35 = .ok (.iaload, 1) := by decide +kernel
theorem dX7_readFrom_36 : decode cX7_readFrom 36 = .ok (.putfield 31, 3) := by decide +kernel
theorem dX7_readFrom_39 : decode cX7_readFrom 39 = .ok (.aload_n 0, 1) := by decide +kernel
theorem dX7_readFrom_40 : decode cX7_readFrom 40 = .ok (.aload_n 1, 1) := by decide +kernel
theorem dX7_readFrom_41 : decode cX7_readFrom 41 = .ok (.iload_n 2, 1) := by decide +kernel
theorem dX7_readFrom_42 : decode cX7_readFrom 42 = .ok (.iconst 3, 1) := by decide +kernel
theorem dX7_readFrom_43 : decode cX7_readFrom 43 = .ok (.iadd, 1) := by decide +kernel
theorem dX7_readFrom_44 : decode cX7_readFrom 44 = .ok (.iaload, 1) := by decide +kernel
theorem dX7_readFrom_45 : decode cX7_readFrom 45 = .ok (.putfield 32, 3) := by decide +kernel
theorem dX7_readFrom_48 : decode cX7_readFrom 48 = .ok (.aload_n 0, 1) := by decide +kernel
theorem dX7_readFrom_49 : decode cX7_readFrom 49 = .ok (.aload_n 1, 1) := by decide +kernel
theorem dX7_readFrom_50 : decode cX7_readFrom 50 = .ok (.iload_n 2, 1) := by decide +kernel
theorem dX7_readFrom_51 : decode cX7_readFrom 51 = .ok (.iconst 4, 1) := by decide +kernel
theorem dX7_readFrom_52 : decode cX7_readFrom 52 = .ok (.iadd, 1) := by decide +kernel
theorem dX7_readFrom_53 : decode cX7_readFrom 53 = .ok (.iaload, 1) := by decide +kernel
theorem dX7_readFrom_54 : decode cX7_readFrom 54 = .ok (.putfield 38, 3) := by decide +kernel
theorem dX7_readFrom_57 : decode cX7_readFrom 57 = .ok (.aload_n 0, 1) := by decide +kernel
theorem dX7_readFrom_58 : decode cX7_readFrom 58 = .ok (.aload_n 1, 1) := by decide +kernel
theorem dX7_readFrom_59 : decode cX7_readFrom 59 = .ok (.iload_n 2, 1) := by decide +kernel
theorem dX7_readFrom_60 : decode cX7_readFrom 60 = .ok (.iconst 5, 1) := by decide +kernel
theorem dX7_readFrom_61 : decode cX7_readFrom 61 = .ok (.iadd, 1) := by decide +kernel
theorem dX7_readFrom_62 : decode cX7_readFrom 62 = .ok (.iaload, 1) := by decide +kernel
theorem dX7_readFrom_63 : decode cX7_readFrom 63 = .ok (.putfield 39, 3) := by decide +kernel
theorem dX7_readFrom_66 : decode cX7_readFrom 66 = .ok (.aload_n 0, 1) := by decide +kernel
theorem dX7_readFrom_67 : decode cX7_readFrom 67 = .ok (.aload_n 1, 1) := by decide +kernel
theorem dX7_readFrom_68 : decode cX7_readFrom 68 = .ok (.iload_n 2, 1) := by decide +kernel
theorem dX7_readFrom_69 : decode cX7_readFrom 69 = .ok (.bipush 6, 2) := by decide +kernel
theorem dX7_readFrom_71 : decode cX7_readFrom 71 = .ok (.iadd, 1) := by decide +kernel
theorem dX7_readFrom_72 : decode cX7_readFrom 72 = .ok (.iaload, 1) := by decide +kernel
theorem dX7_readFrom_73 : decode cX7_readFrom 73 = .ok (.putfield 42, 3) := by decide +kernel
theorem dX7_readFrom_76 : decode cX7_readFrom 76 = .ok (.aload_n 1, 1) := by decide +kernel
theorem dX7_readFrom_77 : decode cX7_readFrom 77 = .ok (.iload_n 2, 1) := by decide +kernel
theorem dX7_readFrom_78 : decode cX7_readFrom 78 = .ok (.bipush 7, 2) := by decide +kernel
theorem dX7_readFrom_80 : decode cX7_readFrom 80 = .ok (.iadd, 1) := by decide +kernel
theorem dX7_readFrom_81 : decode cX7_readFrom 81 = .ok (.aload_n 0, 1) := by decide +kernel
theorem dX7_readFrom_82 : decode cX7_readFrom 82 = .ok (.getfield 9, 3) := by decide +kernel
theorem dX7_readFrom_85 : decode cX7_readFrom 85 = .ok (.iconst 0, 1) := by decide +kernel
theorem dX7_readFrom_86 : decode cX7_readFrom 86 = .ok (.bipush 7, 2) := by decide +kernel
theorem dX7_readFrom_88 : decode cX7_readFrom 88 = .ok (.invokestatic 46, 3) := by decide +kernel
theorem dX7_readFrom_91 : decode cX7_readFrom 91 = .ok (.aload_n 1, 1) := by decide +kernel
theorem dX7_readFrom_92 : decode cX7_readFrom 92 = .ok (.iload_n 2, 1) := by decide +kernel
theorem dX7_readFrom_93 : decode cX7_readFrom 93 = .ok (.bipush 7, 2) := by decide +kernel
theorem dX7_readFrom_95 : decode cX7_readFrom 95 = .ok (.iadd, 1) := by decide +kernel
theorem dX7_readFrom_96 : decode cX7_readFrom 96 = .ok (.bipush 7, 2) := by decide +kernel
theorem dX7_readFrom_98 : decode cX7_readFrom 98 = .ok (.iadd, 1) := by decide +kernel
theorem dX7_readFrom_99 : decode cX7_readFrom 99 = .ok (.aload_n 0, 1) := by decide +kernel
theorem dX7_readFrom_100 : decode cX7_readFrom 100 = .ok (.getfield 15, 3) := by decide +kernel
theorem dX7_readFrom_103 : decode cX7_readFrom 103 = .ok (.iconst 0, 1) := by decide +kernel
theorem dX7_readFrom_104 : decode cX7_readFrom 104 = .ok (.bipush 10, 2) := by decide +kernel
theorem dX7_readFrom_106 : decode cX7_readFrom 106 = .ok (.invokestatic 46, 3) := by decide +kernel
theorem dX7_readFrom_109 : decode cX7_readFrom 109 = .ok (.return_, 1) := by decide +kernel
theorem dX7_isPassed_0 : decode cX7_isPassed 0 = .ok (.aload_n 0, 1) := by decide +kernel
theorem dX7_isPassed_1 : decode cX7_isPassed 1 = .ok (.getfield 42, 3) := by decide +kernel
theorem dX7_isPassed_4 : decode cX7_isPassed 4 = .ok (.iload_n 1, 1) := by decide +kernel
theorem dX7_isPassed_5 : decode cX7_isPassed 5 = .ok (.ishr, 1) := by decide +kernel
theorem dX7_isPassed_6 : decode cX7_isPassed 6 = .ok (.iconst 1, 1) := by decide +kernel
theorem dX7_isPassed_7 : decode cX7_isPassed 7 = .ok (.iand, 1) := by decide +kernel
theorem dX7_isPassed_8 : decode cX7_isPassed 8 = .ok (.iconst 1, 1) := by decide +kernel
theorem dX7_isPassed_9 : decode cX7_isPassed 9 = .ok (.if_icmp .ne 7, 3) := by decide +kernel
theorem dX7_isPassed_12 : decode cX7_isPassed 12 = .ok (.iconst 1, 1) := by decide +kernel
theorem dX7_isPassed_13 : decode cX7_isPassed 13 = .ok (.goto 4, 3) := by decide +kernel
theorem dX7_isPassed_16 : decode cX7_isPassed 16 = .ok (.iconst 0, 1) := by decide +kernel
theorem dX7_isPassed_17 : decode cX7_isPassed 17 = .ok (.ireturn, 1) := by decide +kernel
set_option maxRecDepth 20000 in
theorem ggX7_howManyPassed_J6_bitCount_0f7a4 : GoodIn wsX7_howManyPassed wsJ6_bitCount_0f7a4 := goodIn_r _ [5, 6, 7, 8] (by decide +kernel) (by decide +kernel)
set_option maxRecDepth 20000 in
theorem gX7_howManyPassed_J6_bitCount_0f7a4 : GoodIn wsX7_howManyPassed (va_wsS RX7 53 yJ6_bitCount_0f7a4 wsJ6_bitCount_0f7a4) := goodIn_app (goodIn_of _ (by decide +kernel)) ggX7_howManyPassed_J6_bitCount_0f7a4
theorem dX7_howManyPassed_0 : decode cX7_howManyPassed 0 = .ok (.aload_n 0, 1) := by decide +kernel
theorem dX7_howManyPassed_1 : decode cX7_howManyPassed 1 = .ok (.getfield 42, 3) := by decide +kernel
theorem dX7_howManyPassed_4 : decode cX7_howManyPassed 4 = .ok (.invokestatic 53, 3) := by decide +kernel
theorem dX7_howManyPassed_7 : decode cX7_howManyPassed 7 = .ok (.ireturn, 1) := by decide +kernel
set_option maxRecDepth 20000 in
theorem ggX8_init_X1_init : GoodIn wsX8_init wsX1_init := goodIn_r _ [42, 43, 2, 3, 44, 45, 46, 47, 48, 49, 50, 51, 52, 53, 54, 55, 56, 57, 10, 58, 59, 60, 61, 62, 63, 64, 65, 66, 67, 68, 166, 167, 168, 169, 170, 171, 172, 173, 174, 175, 176, 177, 178, 179, 180, 181] (by decide +kernel) (by decide +kernel)
set_option maxRecDepth 20000 in
theorem gX8_init_X1_init : GoodIn wsX8_init (wsX1_init) := ggX8_init_X1_init
set_option maxRecDepth 20000 in
theorem ggX8_init_X5_init : GoodIn wsX8_init wsX5_init := goodIn_r _ [71, 72, 2, 3, 44, 73, 74, 75, 182, 183, 184, 185, 186, 187, 188, 189, 190, 191, 192, 193, 194, 195, 196, 197] (by decide +kernel) (by decide +kernel)
set_option maxRecDepth 20000 in
theorem gX8_init_X5_init : GoodIn wsX8_init (wsX5_init) := ggX8_init_X5_init
set_option maxRecDepth 20000 in
theorem ggX8_init_X0_init : GoodIn wsX8_init wsX0_init := goodIn_r _ [77, 78, 2, 3, 79, 80, 81, 82, 44, 83, 84, 85, 86, 87, 88, 89, 90, 91, 223, 224, 225, 226, 227, 228, 229, 230, 231, 198, 199, 200, 201, 202, 203, 204] (by decide +kernel) (by decide +kernel)
set_option maxRecDepth 20000 in
theorem gX8_init_X0_init_n41 : GoodIn wsX8_init (wsX0_init) := ggX8_init_X0_init
set_option maxRecDepth 20000 in
theorem ggX8_init_X2_init : GoodIn wsX8_init wsX2_init := goodIn_r _ [94, 95, 2, 3, 44, 96, 97, 98, 205, 206, 207] (by decide +kernel) (by decide +kernel)
set_option maxRecDepth 20000 in
theorem gX8_init_X2_init : GoodIn wsX8_init (wsX2_init) := ggX8_init_X2_init
set_option maxRecDepth 20000 in
theorem ggX8_init_X3_init : GoodIn wsX8_init wsX3_init := goodIn_r _ [101, 102, 2, 3, 44, 103, 104, 105, 106, 208, 209, 210, 211] (by decide +kernel) (by decide +kernel)
set_option maxRecDepth 20000 in
theorem gX8_init_X3_init : GoodIn wsX8_init (wsX3_init) := ggX8_init_X3_init
set_option maxRecDepth 20000 in
theorem ggX8_init_X4_init : GoodIn wsX8_init wsX4_init := goodIn_r _ [109, 110, 2, 3, 111, 80, 81, 112, 44, 113, 114, 115, 116, 87, 88, 89, 90, 91, 223, 224, 225, 226, 227, 228, 229, 230, 231, 212, 213, 214, 215, 216, 217] (by decide +kernel) (by decide +kernel)
set_option maxRecDepth 20000 in
theorem gX8_init_X4_init : GoodIn wsX8_init (wsX4_init) := ggX8_init_X4_init
set_option maxRecDepth 20000 in
theorem ggX8_init_X6_init : GoodIn wsX8_init wsX6_init := goodIn_r _ [119, 120, 2, 3, 121, 80, 81, 122, 44, 123, 124, 125, 126, 87, 88, 89, 90, 91, 223, 224, 225, 226, 227, 228, 229, 230, 231, 218, 219, 220, 221, 222] (by decide +kernel) (by decide +kernel)
set_option maxRecDepth 20000 in
theorem gX8_init_X6_init : GoodIn wsX8_init (wsX6_init) := ggX8_init_X6_init
set_option maxRecDepth 20000 in
theorem ggX8_init_X0_begin : GoodIn wsX8_init wsX0_begin := goodIn_r _ [130, 82, 131, 132, 133, 134, 135, 81, 136, 137, 138, 139, 140, 141, 142, 143, 144, 145, 146, 147, 90, 148, 149, 150, 151, 152, 91, 198, 199, 200, 201, 202, 203, 204, 223, 224, 225, 226, 227, 228, 229, 230, 231, 166, 167, 168, 169, 170, 171, 172, 173, 174, 175, 176, 177, 178, 179, 180, 181] (by decide +kernel) (by decide +kernel)
set_option maxRecDepth 20000 in
theorem gX8_init_X0_begin : GoodIn wsX8_init (wsV RX8 91 RX0 yX0_begin wsX0_begin) := goodIn_app (goodIn_of _ (by decide +kernel)) ggX8_init_X0_begin
theorem dX8_init_0 : decode cX8_init 0 = .ok (.aload_n 0, 1) := by decide +kernel
theorem dX8_init_1 : decode cX8_init 1 = .ok (.invokespecial 1, 3) := by decide +kernel
theorem dX8_init_4 : decode cX8_init 4 = .ok (.aload_n 0, 1) := by decide +kernel
theorem dX8_init_5 : decode cX8_init 5 = .ok (.sipush 700, 3) := by decide +kernel
theorem dX8_init_8 : decode cX8_init 8 = .ok (.newarray .byte, 2) := by decide +kernel
theorem dX8_init_10 : decode cX8_init 10 = .ok (.putfield 9, 3) := by decide +kernel
theorem dX8_init_13 : decode cX8_init 13 = .ok (.aload_n 0, 1) := by decide +kernel
theorem dX8_init_14 : decode cX8_init 14 = .ok (.iconst 0, 1) := by decide +kernel
theorem dX8_init_15 : decode cX8_init 15 = .ok (.putfield 13, 3) := by decide +kernel
theorem dX8_init_18 : decode cX8_init 18 = .ok (.aload_n 0, 1) := by decide +kernel
theorem dX8_init_19 : decode cX8_init 19 = .ok (.iconst (-1), 1) := by decide +kernel
theorem dX8_init_20 : decode cX8_init 20 = .ok (.putfield 17, 3) := by decide +kernel
theorem dX8_init_23 : decode cX8_init 23 = .ok (.aload_n 0, 1) := by decide +kernel
theorem dX8_init_24 : decode cX8_init 24 = .ok (.new 20, 3) := by decide +kernel
theorem dX8_init_27 : decode cX8_init 27 = .ok (.dup, 1) := by decide +kernel
theorem dX8_init_28 : decode cX8_init 28 = .ok (.invokespecial 22, 3) := by decide +kernel
theorem dX8_init_31 : decode cX8_init 31 = .ok (.putfield 23, 3) := by decide +kernel
theorem dX8_init_34 : decode cX8_init 34 = .ok (.aload_n 0, 1) := by decide +kernel
theorem dX8_init_35 : decode cX8_init 35 = .ok (.new 20, 3) := by decide +kernel
theorem dX8_init_38 : decode cX8_init 38 = .ok (.dup, 1) := by decide +kernel
theorem dX8_init_39 : decode cX8_init 39 = .ok (.invokespecial 22, 3) := by decide +kernel
theorem dX8_init_42 : decode cX8_init 42 = .ok (.putfield 27, 3) := by decide +kernel
theorem dX8_init_45 : decode cX8_init 45 = .ok (.aload_n 0, 1) := by decide +kernel
theorem dX8_init_46 : decode cX8_init 46 = .ok (.new 30, 3) := by decide +kernel
theorem dX8_init_49 : decode cX8_init 49 = .ok (.dup, 1) := by decide +kernel
theorem dX8_init_50 : decode cX8_init 50 = .ok (.aload_n 0, 1) := by decide +kernel
theorem dX8_init_51 : decode cX8_init 51 = .ok (.getfield 9, 3) := by decide +kernel
theorem dX8_init_54 : decode cX8_init 54 = .ok (.aload_n 0, 1) := by decide +kernel
theorem dX8_init_55 : decode cX8_init 55 = .ok (.getfield 27, 3) := by decide +kernel
theorem dX8_init_58 : decode cX8_init 58 = .ok (.invokespecial 32, 3) := by decide +kernel
theorem dX8_init_61 : decode cX8_init 61 = .ok (.putfield 35, 3) := by decide +kernel
theorem dX8_init_64 : decode cX8_init 64 = .ok (.aload_n 0, 1) := by decide +kernel
theorem dX8_init_65 : decode cX8_init 65 = .ok (.new 39, 3) := by decide +kernel
theorem dX8_init_68 : decode cX8_init 68 = .ok (.dup, 1) := by decide +kernel
theorem dX8_init_69 : decode cX8_init 69 = .ok (.invokespecial 41, 3) := by decide +kernel
theorem dX8_init_72 : decode cX8_init 72 = .ok (.putfield 42, 3) := by decide +kernel
theorem dX8_init_75 : decode cX8_init 75 = .ok (.aload_n 0, 1) := by decide +kernel
theorem dX8_init_76 : decode cX8_init 76 = .ok (.new 39, 3) := by decide +kernel
theorem dX8_init_79 : decode cX8_init 79 = .ok (.dup, 1) := by decide +kernel
theorem dX8_init_80 : decode cX8_init 80 = .ok (.invokespecial 41, 3) := by decide +kernel
theorem dX8_init_83 : decode cX8_init 83 = .ok (.putfield 46, 3) := by decide +kernel
theorem dX8_init_86 : decode cX8_init 86 = .ok (.aload_n 0, 1) := by decide +kernel
theorem dX8_init_87 : decode cX8_init 87 = .ok (.iconst 0, 1) := by decide +kernel
theorem dX8_init_88 : decode cX8_init 88 = .ok (.putfield 49, 3) := by decide +kernel
theorem dX8_init_91 : decode cX8_init 91 = .ok (.aload_n 0, 1) := by decide +kernel
theorem dX8_init_92 : decode cX8_init 92 = .ok (.new 53, 3) := by decide +kernel
theorem dX8_init_95 : decode cX8_init 95 = .ok (.dup, 1) := by decide +kernel
theorem dX8_init_96 : decode cX8_init 96 = .ok (.aload_n 0, 1) := by decide +kernel
theorem dX8_init_97 : decode cX8_init 97 = .ok (.getfield 23, 3) := by decide +kernel
theorem dX8_init_100 : decode cX8_init 100 = .ok (.invokespecial 55, 3) := by decide +kernel
theorem dX8_init_103 : decode cX8_init 103 = .ok (.putfield 58, 3) := by decide +kernel
theorem dX8_init_106 : decode cX8_init 106 = .ok (.aload_n 0, 1) := by decide +kernel
theorem dX8_init_107 : decode cX8_init 107 = .ok (.new 62, 3) := by decide +kernel
theorem dX8_init_110 : decode cX8_init 110 = .ok (.dup, 1) := by decide +kernel
theorem dX8_init_111 : decode cX8_init 111 = .ok (.aload_n 0, 1) := by decide +kernel
theorem dX8_init_112 : decode cX8_init 112 = .ok (.getfield 23, 3) := by decide +kernel
theorem dX8_init_115 : decode cX8_init 115 = .ok (.aload_n 0, 1) := by decide +kernel
theorem dX8_init_116 : decode cX8_init 116 = .ok (.getfield 58, 3) := by decide +kernel
theorem dX8_init_119 : decode cX8_init 119 = .ok (.aload_n 0, 1) := by decide +kernel
theorem dX8_init_120 : decode cX8_init 120 = .ok (.getfield 42, 3) := by decide +kernel
theorem dX8_init_123 : decode cX8_init 123 = .ok (.getfield 64, 3) := by decide +kernel
theorem dX8_init_126 : decode cX8_init 126 = .ok (.invokespecial 68, 3) := by decide +kernel
theorem dX8_init_129 : decode cX8_init 129 = .ok (.putfield 71, 3) := by decide +kernel
theorem dX8_init_132 : decode cX8_init 132 = .ok (.aload_n 0, 1) := by decide +kernel
theorem dX8_init_133 : decode cX8_init 133 = .ok (.new 75, 3) := by decide +kernel
theorem dX8_init_136 : decode cX8_init 136 = .ok (.dup, 1) := by decide +kernel
theorem dX8_init_137 : decode cX8_init 137 = .ok (.aload_n 0, 1) := by decide +kernel
theorem dX8_init_138 : decode cX8_init 138 = .ok (.getfield 23, 3) := by decide +kernel
theorem dX8_init_141 : decode cX8_init 141 = .ok (.aload_n 0, 1) := by decide +kernel
theorem dX8_init_142 : decode cX8_init 142 = .ok (.getfield 58, 3) := by decide +kernel
theorem dX8_init_145 : decode cX8_init 145 = .ok (.aload_n 0, 1) := by decide +kernel
theorem dX8_init_146 : decode cX8_init 146 = .ok (.getfield 42, 3) := by decide +kernel
theorem dX8_init_149 : decode cX8_init 149 = .ok (.getfield 64, 3) := by decide +kernel
theorem dX8_init_152 : decode cX8_init 152 = .ok (.invokespecial 77, 3) := by decide +kernel
theorem dX8_init_155 : decode cX8_init 155 = .ok (.putfield 78, 3) := by decide +kernel
theorem dX8_init_158 : decode cX8_init 158 = .ok (.aload_n 0, 1) := by decide +kernel
theorem dX8_init_159 : decode cX8_init 159 = .ok (.new 82, 3) := by decide +kernel
theorem dX8_init_162 : decode cX8_init 162 = .ok (.dup, 1) := by decide +kernel
theorem dX8_init_163 : decode cX8_init 163 = .ok (.aload_n 0, 1) := by decide +kernel
theorem dX8_init_164 : decode cX8_init 164 = .ok (.getfield 58, 3) := by decide +kernel
theorem dX8_init_167 : decode cX8_init 167 = .ok (.aload_n 0, 1) := by decide +kernel
theorem dX8_init_168 : decode cX8_init 168 = .ok (.getfield 42, 3) := by decide +kernel
theorem dX8_init_171 : decode cX8_init 171 = .ok (.invokespecial 84, 3) := by decide +kernel
theorem dX8_init_174 : decode cX8_init 174 = .ok (.putfield 87, 3) := by decide +kernel
theorem dX8_init_177 : decode cX8_init 177 = .ok (.aload_n 0, 1) := by decide +kernel
theorem dX8_init_178 : decode cX8_init 178 = .ok (.getfield 42, 3) := by decide +kernel
theorem dX8_init_181 : decode cX8_init 181 = .ok (.aload_n 0, 1) := by decide +kernel
theorem dX8_init_182 : decode cX8_init 182 = .ok (.getfield 23, 3) := by decide +kernel
theorem dX8_init_185 : decode cX8_init 185 = .ok (.invokevirtual 91, 3) := by decide +kernel
theorem dX8_init_188 : decode cX8_init 188 = .ok (.return_, 1) := by decide +kernel
set_option maxRecDepth 20000 in
theorem ggX8_feed_X8_putOnTape : GoodIn wsX8_feed wsX8_putOnTape := goodIn_r _ [6, 1, 7, 8, 9, 10, 11, 12, 13, 14, 15, 16, 17, 18, 19, 20] (by decide +kernel) (by decide +kernel)
set_option maxRecDepth 20000 in
theorem gX8_feed_X8_putOnTape : GoodIn wsX8_feed (wsV RX8 94 RX8 yX8_putOnTape wsX8_putOnTape) := goodIn_app (goodIn_of _ (by decide +kernel)) ggX8_feed_X8_putOnTape
theorem dX8_feed_0 : decode cX8_feed 0 = .ok (.aload_n 0, 1) := by decide +kernel
theorem dX8_feed_1 : decode cX8_feed 1 = .ok (.getfield 13, 3) := by decide +kernel
theorem dX8_feed_4 : decode cX8_feed 4 = .ok (.sipush 680, 3) := by decide +kernel
theorem dX8_feed_7 : decode cX8_feed 7 = .ok (.if_icmp .le 5, 3) := by decide +kernel
theorem dX8_feed_10 : decode cX8_feed 10 = .ok (.iconst (-1), 1) := by decide +kernel
theorem dX8_feed_11 : decode cX8_feed 11 = .ok (.ireturn, 1) := by decide +kernel
theorem dX8_feed_12 : decode cX8_feed 12 = .ok (.aload_n 0, 1) := by decide +kernel
theorem dX8_feed_13 : decode cX8_feed 13 = .ok (.iload_n 1, 1) := by decide +kernel
theorem dX8_feed_14 : decode cX8_feed 14 = .ok (.invokevirtual 94, 3) := by decide +kernel
theorem dX8_feed_17 : decode cX8_feed 17 = .ok (.aload_n 0, 1) := by decide +kernel
theorem dX8_feed_18 : decode cX8_feed 18 = .ok (.iload_n 2, 1) := by decide +kernel
theorem dX8_feed_19 : decode cX8_feed 19 = .ok (.invokevirtual 94, 3) := by decide +kernel
theorem dX8_feed_22 : decode cX8_feed 22 = .ok (.aload_n 0, 1) := by decide +kernel
theorem dX8_feed_23 : decode cX8_feed 23 = .ok (.iload_n 3, 1) := by decide +kernel
theorem dX8_feed_24 : decode cX8_feed 24 = .ok (.invokevirtual 94, 3) := by decide +kernel
theorem dX8_feed_27 : decode cX8_feed 27 = .ok (.aload_n 0, 1) := by decide +kernel
theorem dX8_feed_28 : decode cX8_feed 28 = .ok (.iload 4, 2) := by decide +kernel
theorem dX8_feed_30 : decode cX8_feed 30 = .ok (.invokevirtual 94, 3) := by decide +kernel
theorem dX8_feed_33 : decode cX8_feed 33 = .ok (.aload_n 0, 1) := by decide +kernel
theorem dX8_feed_34 : decode cX8_feed 34 = .ok (.iload 5, 2) := by decide +kernel
theorem dX8_feed_36 : decode cX8_feed 36 = .ok (.invokevirtual 94, 3) := by decide +kernel
theorem dX8_feed_39 : decode cX8_feed 39 = .ok (.aload_n 0, 1) := by decide +kernel
theorem dX8_feed_40 : decode cX8_feed 40 = .ok (.getfield 13, 3) := by decide +kernel
theorem dX8_feed_43 : decode cX8_feed 43 = .ok (.ireturn, 1) := by decide +kernel
set_option maxRecDepth 20000 in
theorem ggX8_borough_X5_readText : GoodIn wsX8_borough wsX5_readText := goodIn_r _ [15, 16, 17, 18, 19, 20, 21, 22, 23, 24, 25, 26, 27, 28, 29, 30, 31, 32, 33, 34, 35, 36, 37, 38, 39, 40, 41, 42, 43, 44, 45, 46, 14, 47, 48, 49, 50, 51, 52, 53, 54, 55, 56, 57, 58, 59, 60, 61, 62, 63, 64, 65, 66, 67, 68, 69, 70, 71, 72, 73, 74, 75, 76, 77, 78, 79, 80, 81, 82, 83, 84, 85, 86, 87, 88, 89, 90, 91, 92, 93, 94, 95, 96, 97, 98, 99, 100, 101, 102, 103, 104, 105, 106, 107, 108, 109, 110, 111, 112, 113, 114, 115, 116, 117, 118, 119, 120, 121, 122, 123, 124, 125, 126, 127, 128, 129, 130, 131, 132, 133, 134, 135, 136, 137, 138, 139, 140, 141, 142, 143, 144, 145, 146, 147, 148, 149, 150, 151, 152, 153, 154, 155, 156, 157, 158, 159, 160, 161, 162, 163, 164, 165, 166, 167, 168, 169, 170, 171, 172, 173, 174, 175, 176, 177, 178, 179, 180, 181, 182, 183, 184, 185, 186, 187, 188, 189, 190, 191, 192, 193, 194, 195, 196, 197, 198, 199, 200, 201, 202, 203, 204, 205, 206, 207, 208, 209, 210, 211, 212, 213, 214, 215, 216, 217, 218, 219, 220, 221, 222, 223, 224, 225, 226, 227, 228, 229, 230, 231, 232, 233, 234, 235, 236, 237, 238, 239, 240, 241, 242, 243, 244, 245, 246, 247, 248, 249, 250, 251, 252, 253, 322, 323, 324, 325, 326, 327, 328, 329, 330, 331, 332, 333, 334, 335, 336, 337, 338, 339, 340, 341, 342, 343, 344, 345, 346, 347, 348, 349, 350, 351, 352, 353] (by decide +kernel) (by decide +kernel)
set_option maxRecDepth 20000 in
theorem gX8_borough_X5_readText : GoodIn wsX8_borough (wsV RX8 105 RX5 yX5_readText wsX5_readText) := goodIn_app (goodIn_of _ (by decide +kernel)) ggX8_borough_X5_readText
set_option maxRecDepth 20000 in
theorem ggX8_borough_X5_latestPlace : GoodIn wsX8_borough wsX5_latestPlace := goodIn_r _ [257, 48, 322, 323, 324, 325, 326, 327, 328, 329, 330, 331, 332, 333, 334, 335, 336, 337] (by decide +kernel) (by decide +kernel)
set_option maxRecDepth 20000 in
theorem gX8_borough_X5_latestPlace : GoodIn wsX8_borough (wsV RX8 109 RX5 yX5_latestPlace wsX5_latestPlace) := goodIn_app (goodIn_of _ (by decide +kernel)) ggX8_borough_X5_latestPlace
set_option maxRecDepth 20000 in
theorem ggX8_borough_X1_copyFrom : GoodIn wsX8_borough wsX1_copyFrom := goodIn_r _ [261, 32, 33, 34, 35, 36, 37, 262, 263, 264, 265, 266, 267, 268, 269, 270, 271, 272, 273, 38, 39, 338, 339, 340, 341, 342, 343, 344, 345, 346, 347, 348, 349, 350, 351, 352, 353] (by decide +kernel) (by decide +kernel)
set_option maxRecDepth 20000 in
theorem gX8_borough_X1_copyFrom : GoodIn wsX8_borough (wsV RX8 117 RX1 yX1_copyFrom wsX1_copyFrom) := goodIn_app (goodIn_of _ (by decide +kernel)) ggX8_borough_X1_copyFrom
set_option maxRecDepth 20000 in
theorem ggX8_borough_X0_begin : GoodIn wsX8_borough wsX0_begin := goodIn_r _ [278, 279, 280, 281, 282, 283, 284, 285, 286, 287, 288, 289, 290, 291, 292, 293, 294, 295, 296, 297, 298, 299, 264, 265, 266, 300, 301, 315, 316, 317, 318, 319, 320, 321, 354, 355, 356, 357, 358, 359, 360, 361, 362, 338, 339, 340, 341, 342, 343, 344, 345, 346, 347, 348, 349, 350, 351, 352, 353] (by decide +kernel) (by decide +kernel)
set_option maxRecDepth 20000 in
theorem gX8_borough_X0_begin : GoodIn wsX8_borough (wsV RX8 91 RX0 yX0_begin wsX0_begin) := goodIn_app (goodIn_of _ (by decide +kernel)) ggX8_borough_X0_begin
theorem dX8_borough_0 : decode cX8_borough 0 = .ok (.iload_n 1, 1) := by decide +kernel
theorem dX8_borough_1 : decode cX8_borough 1 = .ok (.ifCond .lt 11, 3) := by decide +kernel
theorem dX8_borough_4 : decode cX8_borough 4 = .ok (.iload_n 1, 1) := by decide +kernel
theorem dX8_borough_5 : decode cX8_borough 5 = .ok (.aload_n 0, 1) := by decide +kernel
theorem dX8_borough_6 : decode cX8_borough 6 = .ok (.getfield 13, 3) := by decide +kernel
theorem dX8_borough_9 : decode cX8_borough 9 = .ok (.if_icmp .le 13, 3) := by decide +kernel
theorem dX8_borough_12 : decode cX8_borough 12 = .ok (.new 98, 3) := by decide +kernel
theorem dX8_borough_15 : decode cX8_borough 15 = .ok (.dup, 1) := by decide +kernel
theorem dX8_borough_16 : decode cX8_borough 16 = .ok (.ldc 100, 2) := by decide +kernel
theorem dX8_borough_18 : decode cX8_borough 18 = .ok (.invokespecial 102, 3) := by decide +kernel
theorem dX8_borough_21 : decode cX8_borough 21 = .ok (.athrow, 1) := by decide +kernel
theorem dX8_borough_22 : decode cX8_borough 22 = .ok (.aload_n 0, 1) := by decide +kernel
theorem dX8_borough_23 : decode cX8_borough 23 = .ok (.iconst 0, 1) := by decide +kernel
theorem dX8_borough_24 : decode cX8_borough 24 = .ok (.putfield 13, 3) := by decide +kernel
theorem dX8_borough_27 : decode cX8_borough 27 = .ok (.aload_n 0, 1) := by decide +kernel
theorem dX8_borough_28 : decode cX8_borough 28 = .ok (.getfield 35, 3) := by decide +kernel
theorem dX8_borough_31 : decode cX8_borough 31 = .ok (.iload_n 1, 1) := by decide +kernel
theorem dX8_borough_32 : decode cX8_borough 32 = .ok (.invokevirtual 105, 3) := by decide +kernel
theorem dX8_borough_35 : decode cX8_borough 35 = .ok (.istore_n 2, 1) := by decide +kernel
theorem dX8_borough_36 : decode cX8_borough 36 = .ok (.iload_n 2, 1) := by decide +kernel
theorem dX8_borough_37 : decode cX8_borough 37 = .ok (.ifCond .eq 29, 3) := by decide +kernel
theorem dX8_borough_40 : decode cX8_borough 40 = .ok (.aload_n 0, 1) := by decide +kernel
theorem dX8_borough_41 : decode cX8_borough 41 = .ok (.aload_n 0, 1) := by decide +kernel
theorem dX8_borough_42 : decode cX8_borough 42 = .ok (.getfield 35, 3) := by decide +kernel
theorem dX8_borough_45 : decode cX8_borough 45 = .ok (.invokevirtual 109, 3) := by decide +kernel
theorem dX8_borough_48 : decode cX8_borough 48 = .ok (.putfield 17, 3) := by decide +kernel
theorem dX8_borough_51 : decode cX8_borough 51 = .ok (.aload_n 0, 1) := by decide +kernel
theorem dX8_borough_52 : decode cX8_borough 52 = .ok (.getfield 42, 3) := by decide +kernel
theorem dX8_borough_55 : decode cX8_borough 55 = .ok (.getfield 113, 3) := by decide +kernel
theorem dX8_borough_58 : decode cX8_borough 58 = .ok (.iconst 0, 1) := by decide +kernel
theorem dX8_borough_59 : decode cX8_borough 59 = .ok (.dup2, 1) := by decide +kernel
theorem dX8_borough_60 : decode cX8_borough 60 = .ok (.iaload, 1) := by decide +kernel
theorem dX8_borough_61 : decode cX8_borough 61 = .ok (.iconst 1, 1) := by decide +kernel
theorem dX8_borough_62 : decode cX8_borough 62 = .ok (.iadd, 1) := by decide +kernel
theorem dX8_borough_63 : decode cX8_borough 63 = .ok (.iastore, 1) := by decide +kernel
theorem dX8_borough_64 : decode cX8_borough 64 = .ok (.iload_n 2, 1) := by decide +kernel
theorem dX8_borough_65 : decode cX8_borough 65 = .ok (.ireturn, 1) := by decide +kernel
theorem dX8_borough_66 : decode cX8_borough 66 = .ok (.aload_n 0, 1) := by decide +kernel
theorem dX8_borough_67 : decode cX8_borough 67 = .ok (.iconst (-1), 1) := by decide +kernel
theorem dX8_borough_68 : decode cX8_borough 68 = .ok (.putfield 17, 3) := by decide +kernel
theorem dX8_borough_71 : decode cX8_borough 71 = .ok (.aload_n 0, 1) := by decide +kernel
theorem dX8_borough_72 : decode cX8_borough 72 = .ok (.getfield 23, 3) := by decide +kernel
theorem dX8_borough_75 : decode cX8_borough 75 = .ok (.aload_n 0, 1) := by decide +kernel
theorem dX8_borough_76 : decode cX8_borough 76 = .ok (.getfield 27, 3) := by decide +kernel
theorem dX8_borough_79 : decode cX8_borough 79 = .ok (.invokevirtual 117, 3) := by decide +kernel
theorem dX8_borough_82 : decode cX8_borough 82 = .ok (.aload_n 0, 1) := by decide +kernel
theorem dX8_borough_83 : decode cX8_borough 83 = .ok (.getfield 42, 3) := by decide +kernel
theorem dX8_borough_86 : decode cX8_borough 86 = .ok (.aload_n 0, 1) := by decide +kernel
theorem dX8_borough_87 : decode cX8_borough 87 = .ok (.getfield 23, 3) := by decide +kernel
theorem dX8_borough_90 : decode cX8_borough 90 = .ok (.invokevirtual 91, 3) := by decide +kernel
theorem dX8_borough_93 : decode cX8_borough 93 = .ok (.aload_n 0, 1) := by decide +kernel
theorem dX8_borough_94 : decode cX8_borough 94 = .ok (.iconst 0, 1) := by decide +kernel
theorem dX8_borough_95 : decode cX8_borough 95 = .ok (.putfield 49, 3) := by decide +kernel
theorem dX8_borough_98 : decode cX8_borough 98 = .ok (.iconst 0, 1) := by decide +kernel
theorem dX8_borough_99 : decode cX8_borough 99 = .ok (.ireturn, 1) := by decide +kernel
theorem dX8_fault_0 : decode cX8_fault 0 = .ok (.aload_n 0, 1) := by decide +kernel
theorem dX8_fault_1 : decode cX8_fault 1 = .ok (.getfield 17, 3) := by decide +kernel
theorem dX8_fault_4 : decode cX8_fault 4 = .ok (.ireturn, 1) := by decide +kernel
set_option maxRecDepth 20000 in
theorem ggX8_count_X3_blockedMotions : GoodIn wsX8_count wsX3_blockedMotions := goodIn_r _ [24, 25, 26, 27, 28, 29, 30, 31, 32, 33, 34, 80, 81, 82, 83, 55, 56, 57, 58, 59, 60, 61, 62, 63, 64, 65, 66, 67, 68, 69, 70, 71, 72, 73, 74, 75, 76, 77, 78, 79] (by decide +kernel) (by decide +kernel)
set_option maxRecDepth 20000 in
theorem gX8_count_X3_blockedMotions : GoodIn wsX8_count (wsV RX8 149 RX3 yX3_blockedMotions wsX3_blockedMotions) := goodIn_app (goodIn_of _ (by decide +kernel)) ggX8_count_X3_blockedMotions
theorem dX8_count_0 : decode cX8_count 0 = .ok (.aload_n 0, 1) := by decide +kernel
theorem dX8_count_1 : decode cX8_count 1 = .ok (.getfield 42, 3) := by decide +kernel
theorem dX8_count_4 : decode cX8_count 4 = .ok (.getfield 64, 3) := by decide +kernel
theorem dX8_count_7 : decode cX8_count 7 = .ok (.astore_n 2, 1) := by decide +kernel
theorem dX8_count_8 : decode cX8_count 8 = .ok (.iload_n 1, 1) := by decide +kernel
theorem dX8_count_9 : decode cX8_count 9 = .ok (.tableswitch 189 0 15 #[79, 87, 95, 100, 105, 110, 115, 120, 125, 130, 138, 146, 154, 159, 169, 179], 79) := by decide +kernel
theorem dX8_count_88 : decode cX8_count 88 = .ok (.aload_n 0, 1) := by decide +kernel
theorem dX8_count_89 : decode cX8_count 89 = .ok (.getfield 23, 3) := by decide +kernel
theorem dX8_count_92 : decode cX8_count 92 = .ok (.getfield 120, 3) := by decide +kernel
theorem dX8_count_95 : decode cX8_count 95 = .ok (.ireturn, 1) := by decide +kernel
theorem dX8_count_96 : decode cX8_count 96 = .ok (.aload_n 0, 1) := by decide +kernel
theorem dX8_count_97 : decode cX8_count 97 = .ok (.getfield 23, 3) := by decide +kernel
theorem dX8_count_100 : decode cX8_count 100 = .ok (.getfield 123, 3) := by decide +kernel
theorem dX8_count_103 : decode cX8_count 103 = .ok (.ireturn, 1) := by decide +kernel
theorem dX8_count_104 : decode cX8_count 104 = .ok (.aload_n 2, 1) := by decide +kernel
theorem dX8_count_105 : decode cX8_count 105 = .ok (.getfield 126, 3) := by decide +kernel
theorem dX8_count_108 : decode cX8_count 108 = .ok (.ireturn, 1) := by decide +kernel
theorem dX8_count_109 : decode cX8_count 109 = .ok (.aload_n 2, 1) := by decide +kernel
theorem dX8_count_110 : decode cX8_count 110 = .ok (.getfield 131, 3) := by decide +kernel
theorem dX8_count_113 : decode cX8_count 113 = .ok (.ireturn, 1) := by decide +kernel
theorem dX8_count_114 : decode cX8_count 114 = .ok (.aload_n 2, 1) := by decide +kernel
theorem dX8_count_115 : decode cX8_count 115 = .ok (.getfield 134, 3) := by decide +kernel
theorem dX8_count_118 : decode cX8_count 118 = .ok (.ireturn, 1) := by decide +kernel
theorem dX8_count_119 : decode cX8_count 119 = .ok (.aload_n 2, 1) := by decide +kernel
theorem dX8_count_120 : decode cX8_count 120 = .ok (.getfield 137, 3) := by decide +kernel
theorem dX8_count_123 : decode cX8_count 123 = .ok (.ireturn, 1) := by decide +kernel
theorem dX8_count_124 : decode cX8_count 124 = .ok (.aload_n 2, 1) := by decide +kernel
theorem dX8_count_125 : decode cX8_count 125 = .ok (.getfield 140, 3) := by decide +kernel
theorem dX8_count_128 : decode cX8_count 128 = .ok (.ireturn, 1) := by decide +kernel
theorem dX8_count_129 : decode cX8_count 129 = .ok (.aload_n 2, 1) := by decide +kernel
theorem dX8_count_130 : decode cX8_count 130 = .ok (.getfield 143, 3) := by decide +kernel
theorem dX8_count_133 : decode cX8_count 133 = .ok (.ireturn, 1) := by decide +kernel
theorem dX8_count_134 : decode cX8_count 134 = .ok (.aload_n 2, 1) := by decide +kernel
theorem dX8_count_135 : decode cX8_count 135 = .ok (.getfield 146, 3) := by decide +kernel
theorem dX8_count_138 : decode cX8_count 138 = .ok (.ireturn, 1) := by decide +kernel
theorem dX8_count_139 : decode cX8_count 139 = .ok (.aload_n 0, 1) := by decide +kernel
theorem dX8_count_140 : decode cX8_count 140 = .ok (.getfield 71, 3) := by decide +kernel
theorem dX8_count_143 : decode cX8_count 143 = .ok (.invokevirtual 149, 3) := by decide +kernel
theorem dX8_count_146 : decode cX8_count 146 = .ok (.ireturn, 1) := by decide +kernel
theorem dX8_count_147 : decode cX8_count 147 = .ok (.aload_n 0, 1) := by decide +kernel
theorem dX8_count_148 : decode cX8_count 148 = .ok (.getfield 42, 3) := by decide +kernel
theorem dX8_count_151 : decode cX8_count 151 = .ok (.getfield 152, 3) := by decide +kernel
theorem dX8_count_154 : decode cX8_count 154 = .ok (.ireturn, 1) := by decide +kernel
theorem dX8_count_155 : decode cX8_count 155 = .ok (.aload_n 0, 1) := by decide +kernel
theorem dX8_count_156 : decode cX8_count 156 = .ok (.getfield 42, 3) := by decide +kernel
theorem dX8_count_159 : decode cX8_count 159 = .ok (.getfield 155, 3) := by decide +kernel
theorem dX8_count_162 : decode cX8_count 162 = .ok (.ireturn, 1) := by decide +kernel
theorem dX8_count_163 : decode cX8_count 163 = .ok (.aload_n 0, 1) := by decide +kernel
theorem dX8_count_164 : decode cX8_count 164 = .ok (.getfield 13, 3) := by decide +kernel
theorem dX8_count_167 : decode cX8_count 167 = .ok (.ireturn, 1) := by decide +kernel
theorem dX8_count_168 : decode cX8_count 168 = .ok (.aload_n 0, 1) := by decide +kernel
theorem dX8_count_169 : decode cX8_count 169 = .ok (.getfield 42, 3) := by decide +kernel
theorem dX8_count_172 : decode cX8_count 172 = .ok (.getfield 113, 3) := by decide +kernel
theorem dX8_count_175 : decode cX8_count 175 = .ok (.iconst 0, 1) := by decide +kernel
theorem dX8_count_176 : decode cX8_count 176 = .ok (.iaload, 1) := by decide +kernel
theorem dX8_count_177 : decode cX8_count 177 = .ok (.ireturn, 1) := by decide +kernel
theorem dX8_count_178 : decode cX8_count 178 = .ok (.aload_n 0, 1) := by decide +kernel
theorem dX8_count_179 : decode cX8_count 179 = .ok (.getfield 42, 3) := by decide +kernel
theorem dX8_count_182 : decode cX8_count 182 = .ok (.getfield 113, 3) := by decide +kernel
theorem dX8_count_185 : decode cX8_count 185 = .ok (.iconst 1, 1) := by decide +kernel
theorem dX8_count_186 : decode cX8_count 186 = .ok (.iaload, 1) := by decide +kernel
theorem dX8_count_187 : decode cX8_count 187 = .ok (.ireturn, 1) := by decide +kernel
theorem dX8_count_188 : decode cX8_count 188 = .ok (.aload_n 0, 1) := by decide +kernel
theorem dX8_count_189 : decode cX8_count 189 = .ok (.getfield 42, 3) := by decide +kernel
theorem dX8_count_192 : decode cX8_count 192 = .ok (.getfield 113, 3) := by decide +kernel
theorem dX8_count_195 : decode cX8_count 195 = .ok (.iconst 2, 1) := by decide +kernel
theorem dX8_count_196 : decode cX8_count 196 = .ok (.iaload, 1) := by decide +kernel
theorem dX8_count_197 : decode cX8_count 197 = .ok (.ireturn, 1) := by decide +kernel
theorem dX8_count_198 : decode cX8_count 198 = .ok (.new 158, 3) := by decide +kernel
theorem dX8_count_201 : decode cX8_count 201 = .ok (.dup, 1) := by decide +kernel
theorem dX8_count_202 : decode cX8_count 202 = .ok (.ldc 160, 2) := by decide +kernel
theorem dX8_count_204 : decode cX8_count 204 = .ok (.invokespecial 162, 3) := by decide +kernel
theorem dX8_count_207 : decode cX8_count 207 = .ok (.athrow, 1) := by decide +kernel
set_option maxRecDepth 20000 in
theorem ggX8_alderman_X8_checkAlderman : GoodIn wsX8_alderman wsX8_checkAlderman := goodIn_ca (goodIn_r _ [13, 1, 2, 6, 14, 86, 87, 88, 89, 90, 91, 92, 93, 94, 95, 96, 97, 98, 115, 116, 117, 118, 119, 120, 121, 122, 123, 124, 125, 126, 127, 128, 129, 130] (by decide +kernel) (by decide +kernel)) (goodIn_sub (fun _ h => List.mem_cons_of_mem _ (List.mem_append_right _ h)) (by decide +kernel))
set_option maxRecDepth 20000 in
theorem gX8_alderman_X8_checkAlderman : GoodIn wsX8_alderman (wsV RX8 163 RX8 yX8_checkAlderman wsX8_checkAlderman) := goodIn_app (goodIn_of _ (by decide +kernel)) ggX8_alderman_X8_checkAlderman
set_option maxRecDepth 20000 in
theorem ggX8_alderman_X3_swayedBy : GoodIn wsX8_alderman wsX3_swayedBy := goodIn_r _ [19, 20, 21, 22, 23, 24, 25, 26, 27, 28, 29, 30, 31, 32, 33, 34, 35, 36, 37, 38, 39, 40, 41, 42, 43, 44, 45, 46, 47, 48, 49, 50, 51, 52, 53, 54, 55, 56, 57, 58, 59, 60, 61, 62, 63, 64, 65, 66, 67, 68, 69, 70, 71, 72, 73, 74, 75, 76, 77, 78, 79, 80, 81, 82, 83, 84, 85, 131, 132, 133, 134, 115, 116, 117, 118, 119, 120, 121, 122, 123, 124, 125, 126, 127, 128, 129, 130, 106, 107, 108, 109, 110, 111, 112, 113, 114, 135, 136, 137] (by decide +kernel) (by decide +kernel)
set_option maxRecDepth 20000 in
theorem gX8_alderman_X3_swayedBy : GoodIn wsX8_alderman (wsV RX8 172 RX3 yX3_swayedBy wsX3_swayedBy) := goodIn_app (goodIn_of _ (by decide +kernel)) ggX8_alderman_X3_swayedBy
theorem dX8_alderman_0 : decode cX8_alderman 0 = .ok (.aload_n 0, 1) := by decide +kernel
theorem dX8_alderman_1 : decode cX8_alderman 1 = .ok (.iload_n 1, 1) := by decide +kernel
theorem dX8_alderman_2 : decode cX8_alderman 2 = .ok (.invokevirtual 163, 3) := by decide +kernel
theorem dX8_alderman_5 : decode cX8_alderman 5 = .ok (.iload_n 2, 1) := by decide +kernel
theorem dX8_alderman_6 : decode cX8_alderman 6 = .ok (.tableswitch 58 0 2 #[26, 39, 49], 26) := by decide +kernel
theorem dX8_alderman_32 : decode cX8_alderman 32 = .ok (.aload_n 0, 1) := by decide +kernel
theorem dX8_alderman_33 : decode cX8_alderman 33 = .ok (.getfield 42, 3) := by decide +kernel
theorem dX8_alderman_36 : decode cX8_alderman 36 = .ok (.getfield 64, 3) := by decide +kernel
theorem dX8_alderman_39 : decode cX8_alderman 39 = .ok (.getfield 166, 3) := by decide +kernel
theorem dX8_alderman_42 : decode cX8_alderman 42 = .ok (.iload_n 1, 1) := by decide +kernel
theorem dX8_alderman_43 : decode cX8_alderman 43 = .ok (.iaload, 1) := by decide +kernel
theorem dX8_alderman_44 : decode cX8_alderman 44 = .ok (.ireturn, 1) := by decide +kernel
theorem dX8_alderman_45 : decode cX8_alderman 45 = .ok (.aload_n 0, 1) := by decide +kernel
theorem dX8_alderman_46 : decode cX8_alderman 46 = .ok (.getfield 23, 3) := by decide +kernel
theorem dX8_alderman_49 : decode cX8_alderman 49 = .ok (.getfield 169, 3) := by decide +kernel
theorem dX8_alderman_52 : decode cX8_alderman 52 = .ok (.iload_n 1, 1) := by decide +kernel
theorem dX8_alderman_53 : decode cX8_alderman 53 = .ok (.iaload, 1) := by decide +kernel
theorem dX8_alderman_54 : decode cX8_alderman 54 = .ok (.ireturn, 1) := by decide +kernel
theorem dX8_alderman_55 : decode cX8_alderman 55 = .ok (.aload_n 0, 1) := by decide +kernel
theorem dX8_alderman_56 : decode cX8_alderman 56 = .ok (.getfield 71, 3) := by decide +kernel
theorem dX8_alderman_59 : decode cX8_alderman 59 = .ok (.iload_n 1, 1) := by decide +kernel
theorem dX8_alderman_60 : decode cX8_alderman 60 = .ok (.invokevirtual 172, 3) := by decide +kernel
theorem dX8_alderman_63 : decode cX8_alderman 63 = .ok (.ireturn, 1) := by decide +kernel
theorem dX8_alderman_64 : decode cX8_alderman 64 = .ok (.new 158, 3) := by decide +kernel
theorem dX8_alderman_67 : decode cX8_alderman 67 = .ok (.dup, 1) := by decide +kernel
theorem dX8_alderman_68 : decode cX8_alderman 68 = .ok (.ldc 175, 2) := by decide +kernel
theorem dX8_alderman_70 : decode cX8_alderman 70 = .ok (.invokespecial 162, 3) := by decide +kernel
theorem dX8_alderman_73 : decode cX8_alderman 73 = .ok (.athrow, 1) := by decide +kernel
set_option maxRecDepth 20000 in
theorem ggX8_motion_X8_checkMotion : GoodIn wsX8_motion wsX8_checkMotion := goodIn_ca (goodIn_r _ [15, 1, 2, 3, 16, 37, 38, 39, 40, 41, 42, 43, 44, 45, 46, 47, 48, 49, 50, 51, 52, 53, 54, 55, 56, 57, 58, 59, 60, 61, 62, 63, 64, 65] (by decide +kernel) (by decide +kernel)) (goodIn_sub (fun _ h => List.mem_cons_of_mem _ (List.mem_append_right _ h)) (by decide +kernel))
set_option maxRecDepth 20000 in
theorem gX8_motion_X8_checkMotion : GoodIn wsX8_motion (wsV RX8 177 RX8 yX8_checkMotion wsX8_checkMotion) := goodIn_app (goodIn_of _ (by decide +kernel)) ggX8_motion_X8_checkMotion
set_option maxRecDepth 20000 in
theorem ggX8_motion_X7_isPassed : GoodIn wsX8_motion wsX7_isPassed := goodIn_r _ [21, 22, 73, 74, 75, 76, 77, 78, 79, 80, 81] (by decide +kernel) (by decide +kernel)
set_option maxRecDepth 20000 in
theorem gX8_motion_X7_isPassed : GoodIn wsX8_motion (wsV RX8 194 RX7 yX7_isPassed wsX7_isPassed) := goodIn_app (goodIn_of _ (by decide +kernel)) ggX8_motion_X7_isPassed
set_option maxRecDepth 20000 in
theorem ggX8_motion_X1_chainOf : GoodIn wsX8_motion wsX1_chainOf := goodIn_r _ [27, 28, 29, 50, 51, 52, 53, 54, 55, 56, 57, 58, 59, 60, 61, 62, 63, 64, 65] (by decide +kernel) (by decide +kernel)
set_option maxRecDepth 20000 in
theorem gX8_motion_X1_chainOf : GoodIn wsX8_motion (wsV RX8 198 RX1 yX1_chainOf wsX1_chainOf) := goodIn_app (goodIn_of _ (by decide +kernel)) ggX8_motion_X1_chainOf
set_option maxRecDepth 20000 in
theorem ggX8_motion_J6_bitCount_0f7a4 : GoodIn wsX8_motion wsJ6_bitCount_0f7a4 := goodIn_r _ [33, 34, 35, 36] (by decide +kernel) (by decide +kernel)
set_option maxRecDepth 20000 in
theorem gX8_motion_J6_bitCount_0f7a4 : GoodIn wsX8_motion (va_wsS RX8 201 yJ6_bitCount_0f7a4 wsJ6_bitCount_0f7a4) := goodIn_app (goodIn_of _ (by decide +kernel)) ggX8_motion_J6_bitCount_0f7a4
theorem dX8_motion_0 : decode cX8_motion 0 = .ok (.aload_n 0, 1) := by decide +kernel
theorem dX8_motion_1 : decode cX8_motion 1 = .ok (.iload_n 1, 1) := by decide +kernel
theorem dX8_motion_2 : decode cX8_motion 2 = .ok (.invokevirtual 177, 3) := by decide +kernel
theorem dX8_motion_5 : decode cX8_motion 5 = .ok (.iload_n 2, 1) := by decide +kernel
theorem dX8_motion_6 : decode cX8_motion 6 = .ok (.tableswitch 127 0 6 #[42, 52, 65, 75, 85, 95, 115], 42) := by decide +kernel
theorem dX8_motion_48 : decode cX8_motion 48 = .ok (.aload_n 0, 1) := by decide +kernel
theorem dX8_motion_49 : decode cX8_motion 49 = .ok (.getfield 23, 3) := by decide +kernel
theorem dX8_motion_52 : decode cX8_motion 52 = .ok (.getfield 180, 3) := by decide +kernel
theorem dX8_motion_55 : decode cX8_motion 55 = .ok (.iload_n 1, 1) := by decide +kernel
theorem dX8_motion_56 : decode cX8_motion 56 = .ok (.iaload, 1) := by decide +kernel
theorem dX8_motion_57 : decode cX8_motion 57 = .ok (.ireturn, 1) := by decide +kernel
theorem dX8_motion_58 : decode cX8_motion 58 = .ok (.aload_n 0, 1) := by decide +kernel
theorem dX8_motion_59 : decode cX8_motion 59 = .ok (.getfield 42, 3) := by decide +kernel
theorem dX8_motion_62 : decode cX8_motion 62 = .ok (.getfield 64, 3) := by decide +kernel
theorem dX8_motion_65 : decode cX8_motion 65 = .ok (.getfield 183, 3) := by decide +kernel
theorem dX8_motion_68 : decode cX8_motion 68 = .ok (.iload_n 1, 1) := by decide +kernel
theorem dX8_motion_69 : decode cX8_motion 69 = .ok (.iaload, 1) := by decide +kernel
theorem dX8_motion_70 : decode cX8_motion 70 = .ok (.ireturn, 1) := by decide +kernel
theorem dX8_motion_71 : decode cX8_motion 71 = .ok (.aload_n 0, 1) := by decide +kernel
theorem dX8_motion_72 : decode cX8_motion 72 = .ok (.getfield 23, 3) := by decide +kernel
theorem dX8_motion_75 : decode cX8_motion 75 = .ok (.getfield 186, 3) := by decide +kernel
theorem dX8_motion_78 : decode cX8_motion 78 = .ok (.iload_n 1, 1) := by decide +kernel
theorem dX8_motion_79 : decode cX8_motion 79 = .ok (.iaload, 1) := by decide +kernel
theorem dX8_motion_80 : decode cX8_motion 80 = .ok (.ireturn, 1) := by decide +kernel
theorem dX8_motion_81 : decode cX8_motion 81 = .ok (.aload_n 0, 1) := by decide +kernel
theorem dX8_motion_82 : decode cX8_motion 82 = .ok (.getfield 23, 3) := by decide +kernel
theorem dX8_motion_85 : decode cX8_motion 85 = .ok (.getfield 189, 3) := by decide +kernel
theorem dX8_motion_88 : decode cX8_motion 88 = .ok (.iload_n 1, 1) := by decide +kernel
theorem dX8_motion_89 : decode cX8_motion 89 = .ok (.iaload, 1) := by decide +kernel
theorem dX8_motion_90 : decode cX8_motion 90 = .ok (.ireturn, 1) := by decide +kernel
theorem dX8_motion_91 : decode cX8_motion 91 = .ok (.aload_n 0, 1) := by decide +kernel
theorem dX8_motion_92 : decode cX8_motion 92 = .ok (.getfield 23, 3) := by decide +kernel
theorem dX8_motion_95 : decode cX8_motion 95 = .ok (.getfield 191, 3) := by decide +kernel
theorem dX8_motion_98 : decode cX8_motion 98 = .ok (.iload_n 1, 1) := by decide +kernel
theorem dX8_motion_99 : decode cX8_motion 99 = .ok (.iaload, 1) := by decide +kernel
theorem dX8_motion_100 : decode cX8_motion 100 = .ok (.ireturn, 1) := by decide +kernel
theorem dX8_motion_101 : decode cX8_motion 101 = .ok (.aload_n 0, 1) := by decide +kernel
theorem dX8_motion_102 : decode cX8_motion 102 = .ok (.getfield 42, 3) := by decide +kernel
theorem dX8_motion_105 : decode cX8_motion 105 = .ok (.getfield 64, 3) := by decide +kernel
theorem dX8_motion_108 : decode cX8_motion 108 = .ok (.iload_n 1, 1) := by decide +kernel
theorem dX8_motion_109 : decode cX8_motion 109 = .ok (.invokevirtual 194, 3) := by decide +kernel
theorem dX8_motion_112 : decode cX8_motion 112 = .ok (.ifCond .eq 7, 3) := by decide +kernel
theorem dX8_motion_115 : decode cX8_motion 115 = .ok (.iconst 1, 1) := by decide +kernel
theorem dX8_motion_116 : decode cX8_motion 116 = .ok (.goto 4, 3) := by decide +kernel
theorem dX8_motion_119 : decode cX8_motion 119 = .ok (.iconst 0, 1) := by decide +kernel
theorem dX8_motion_120 : decode cX8_motion 120 = .ok (.ireturn, 1) := by decide +kernel
theorem dX8_motion_121 : decode cX8_motion 121 = .ok (.aload_n 0, 1) := by decide +kernel
theorem dX8_motion_122 : decode cX8_motion 122 = .ok (.getfield 23, 3) := by decide +kernel
theorem dX8_motion_125 : decode cX8_motion 125 = .ok (.iload_n 1, 1) := by decide +kernel
theorem dX8_motion_126 : decode cX8_motion 126 = .ok (.invokevirtual 198, 3) := by decide +kernel
theorem dX8_motion_129 : decode cX8_motion 129 = .ok (.invokestatic 201, 3) := by decide +kernel
theorem dX8_motion_132 : decode cX8_motion 132 = .ok (.ireturn, 1) := by decide +kernel
theorem dX8_motion_133 : decode cX8_motion 133 = .ok (.new 158, 3) := by decide +kernel
theorem dX8_motion_136 : decode cX8_motion 136 = .ok (.dup, 1) := by decide +kernel
theorem dX8_motion_137 : decode cX8_motion 137 = .ok (.ldc 206, 2) := by decide +kernel
theorem dX8_motion_139 : decode cX8_motion 139 = .ok (.invokespecial 162, 3) := by decide +kernel
theorem dX8_motion_142 : decode cX8_motion 142 = .ok (.athrow, 1) := by decide +kernel
set_option maxRecDepth 20000 in
theorem ggX8_hours_X8_isOutside : GoodIn wsX8_hours wsX8_isOutside := goodIn_r _ [8] (by decide +kernel) (by decide +kernel)
set_option maxRecDepth 20000 in
theorem gX8_hours_X8_isOutside : GoodIn wsX8_hours (va_wsS RX8 208 yX8_isOutside wsX8_isOutside) := goodIn_app (goodIn_of _ (by decide +kernel)) ggX8_hours_X8_isOutside
set_option maxRecDepth 20000 in
theorem ggX8_hours_X8_refuseAct : GoodIn wsX8_hours wsX8_refuseAct := goodIn_r _ [12, 1, 13, 145, 146, 147, 148, 149, 150, 151, 152, 153, 154, 155, 156, 157, 158, 159, 160, 161, 162, 163, 164] (by decide +kernel) (by decide +kernel)
set_option maxRecDepth 20000 in
theorem gX8_hours_X8_refuseAct : GoodIn wsX8_hours (wsV RX8 212 RX8 yX8_refuseAct wsX8_refuseAct) := goodIn_app (goodIn_of _ (by decide +kernel)) ggX8_hours_X8_refuseAct
set_option maxRecDepth 20000 in
theorem ggX8_hours_X0_keepAct : GoodIn wsX8_hours wsX0_keepAct := goodIn_r _ [18, 19, 20, 21, 22, 23, 24, 25, 26, 27, 28, 29, 30, 31, 32, 33, 34, 35, 36, 37, 38, 39, 40, 158, 159, 160, 161, 162, 163, 164, 165, 166, 167, 168, 169, 170, 171, 172, 173] (by decide +kernel) (by decide +kernel)
set_option maxRecDepth 20000 in
theorem gX8_hours_X0_keepAct : GoodIn wsX8_hours (wsV RX8 215 RX0 yX0_keepAct wsX0_keepAct) := goodIn_app (goodIn_of _ (by decide +kernel)) ggX8_hours_X0_keepAct
set_option maxRecDepth 20000 in
theorem ggX8_hours_X2_passHour : GoodIn wsX8_hours wsX2_passHour := goodIn_r _ [45, 46, 47, 48, 49, 50, 51, 44, 52, 53, 54, 55, 56, 57, 58, 59, 60, 61, 62, 63, 64, 65, 66, 67, 68, 69, 70, 71, 72, 73, 74, 75, 76, 77, 78, 79, 80, 81, 82, 83, 84, 85, 86, 87, 29, 88, 37, 89, 90, 91, 92, 93, 94, 95, 96, 97, 98, 99, 100, 101, 102, 103, 104, 105, 106, 107, 108, 109, 110, 111, 112, 113, 114, 115, 116, 117, 118, 119, 120, 121, 122, 123, 124, 125, 126, 127, 128, 129, 130, 131, 132, 133, 134, 135, 136, 137, 138, 139, 140, 141, 142, 143, 144, 174, 175, 176, 177, 178, 179, 180, 181, 182, 183, 184, 185, 186, 187, 188, 189, 190, 191, 192, 165, 166, 167, 168, 169, 170, 171, 172, 173] (by decide +kernel) (by decide +kernel)
set_option maxRecDepth 20000 in
theorem gX8_hours_X2_passHour : GoodIn wsX8_hours (wsV RX8 218 RX2 yX2_passHour wsX2_passHour) := goodIn_app (goodIn_of _ (by decide +kernel)) ggX8_hours_X2_passHour
theorem dX8_hours_0 : decode cX8_hours 0 = .ok (.iload_n 1, 1) := by decide +kernel
theorem dX8_hours_1 : decode cX8_hours 1 = .ok (.iconst 1, 1) := by decide +kernel
theorem dX8_hours_2 : decode cX8_hours 2 = .ok (.bipush 48, 2) := by decide +kernel
theorem dX8_hours_4 : decode cX8_hours 4 = .ok (.invokestatic 208, 3) := by decide +kernel
theorem dX8_hours_7 : decode cX8_hours 7 = .ok (.ifCond .ne 21, 3) := by decide +kernel
theorem dX8_hours_10 : decode cX8_hours 10 = .ok (.aload_n 0, 1) := by decide +kernel
theorem dX8_hours_11 : decode cX8_hours 11 = .ok (.getfield 42, 3) := by decide +kernel
theorem dX8_hours_14 : decode cX8_hours 14 = .ok (.getfield 64, 3) := by decide +kernel
theorem dX8_hours_17 : decode cX8_hours 17 = .ok (.getfield 126, 3) := by decide +kernel
theorem dX8_hours_20 : decode cX8_hours 20 = .ok (.sipush 9999, 3) := by decide +kernel
theorem dX8_hours_23 : decode cX8_hours 23 = .ok (.iload_n 1, 1) := by decide +kernel
theorem dX8_hours_24 : decode cX8_hours 24 = .ok (.isub, 1) := by decide +kernel
theorem dX8_hours_25 : decode cX8_hours 25 = .ok (.if_icmp .le 9, 3) := by decide +kernel
theorem dX8_hours_28 : decode cX8_hours 28 = .ok (.aload_n 0, 1) := by decide +kernel
theorem dX8_hours_29 : decode cX8_hours 29 = .ok (.iconst (-1), 1) := by decide +kernel
theorem dX8_hours_30 : decode cX8_hours 30 = .ok (.invokevirtual 212, 3) := by decide +kernel
theorem dX8_hours_33 : decode cX8_hours 33 = .ok (.ireturn, 1) := by decide +kernel
theorem dX8_hours_34 : decode cX8_hours 34 = .ok (.aload_n 0, 1) := by decide +kernel
theorem dX8_hours_35 : decode cX8_hours 35 = .ok (.getfield 42, 3) := by decide +kernel
theorem dX8_hours_38 : decode cX8_hours 38 = .ok (.invokevirtual 215, 3) := by decide +kernel
theorem dX8_hours_41 : decode cX8_hours 41 = .ok (.iconst 0, 1) := by decide +kernel
theorem dX8_hours_42 : decode cX8_hours 42 = .ok (.istore_n 2, 1) := by decide +kernel
theorem dX8_hours_43 : decode cX8_hours 43 = .ok (.iload_n 2, 1) := by decide +kernel
theorem dX8_hours_44 : decode cX8_hours 44 = .ok (.iload_n 1, 1) := by decide +kernel
theorem dX8_hours_45 : decode cX8_hours 45 = .ok (.if_icmp .ge 25, 3) := by decide +kernel
theorem dX8_hours_48 : decode cX8_hours 48 = .ok (.aload_n 0, 1) := by decide +kernel
theorem dX8_hours_49 : decode cX8_hours 49 = .ok (.getfield 58, 3) := by decide +kernel
theorem dX8_hours_52 : decode cX8_hours 52 = .ok (.aload_n 0, 1) := by decide +kernel
theorem dX8_hours_53 : decode cX8_hours 53 = .ok (.getfield 42, 3) := by decide +kernel
theorem dX8_hours_56 : decode cX8_hours 56 = .ok (.getfield 64, 3) := by decide +kernel
theorem dX8_hours_59 : decode cX8_hours 59 = .ok (.iconst (-1), 1) := by decide +kernel
theorem dX8_hours_60 : decode cX8_hours 60 = .ok (.invokevirtual 218, 3) := by decide +kernel
theorem dX8_hours_63 : decode cX8_hours 63 = .ok (.pop, 1) := by decide +kernel
theorem dX8_hours_64 : decode cX8_hours 64 = .ok (.iinc 2 1, 3) := by decide +kernel
theorem dX8_hours_67 : decode cX8_hours 67 = .ok (.goto (-24), 3) := by decide +kernel
theorem dX8_hours_70 : decode cX8_hours 70 = .ok (.aload_n 0, 1) := by decide +kernel
theorem dX8_hours_71 : decode cX8_hours 71 = .ok (.getfield 42, 3) := by decide +kernel
theorem dX8_hours_74 : decode cX8_hours 74 = .ok (.getfield 64, 3) := by decide +kernel
theorem dX8_hours_77 : decode cX8_hours 77 = .ok (.getfield 126, 3) := by decide +kernel
theorem dX8_hours_80 : decode cX8_hours 80 = .ok (.ireturn, 1) := by decide +kernel
set_option maxRecDepth 20000 in
theorem ggX8_wind_X8_isOutside : GoodIn wsX8_wind wsX8_isOutside := goodIn_r _ [11] (by decide +kernel) (by decide +kernel)
set_option maxRecDepth 20000 in
theorem gX8_wind_X8_isOutside : GoodIn wsX8_wind (va_wsS RX8 208 yX8_isOutside wsX8_isOutside) := goodIn_app (goodIn_of _ (by decide +kernel)) ggX8_wind_X8_isOutside
set_option maxRecDepth 20000 in
theorem ggX8_wind_X8_refuseAct : GoodIn wsX8_wind wsX8_refuseAct := goodIn_r _ [15, 1, 16, 44, 45, 46, 47, 48, 49, 50, 51, 52, 53, 54, 55, 56, 57, 58, 59, 60, 61, 62, 63] (by decide +kernel) (by decide +kernel)
set_option maxRecDepth 20000 in
theorem gX8_wind_X8_refuseAct : GoodIn wsX8_wind (wsV RX8 212 RX8 yX8_refuseAct wsX8_refuseAct) := goodIn_app (goodIn_of _ (by decide +kernel)) ggX8_wind_X8_refuseAct
set_option maxRecDepth 20000 in
theorem ggX8_wind_X0_keepAct : GoodIn wsX8_wind wsX0_keepAct := goodIn_r _ [21, 22, 23, 24, 25, 26, 27, 28, 29, 30, 31, 32, 33, 34, 35, 36, 37, 38, 39, 40, 41, 42, 43, 57, 58, 59, 60, 61, 62, 63, 64, 65, 66, 67, 68, 69, 70, 71, 72] (by decide +kernel) (by decide +kernel)
set_option maxRecDepth 20000 in
theorem gX8_wind_X0_keepAct : GoodIn wsX8_wind (wsV RX8 215 RX0 yX0_keepAct wsX0_keepAct) := goodIn_app (goodIn_of _ (by decide +kernel)) ggX8_wind_X0_keepAct
theorem dX8_wind_0 : decode cX8_wind 0 = .ok (.iload_n 1, 1) := by decide +kernel
theorem dX8_wind_1 : decode cX8_wind 1 = .ok (.iconst 1, 1) := by decide +kernel
theorem dX8_wind_2 : decode cX8_wind 2 = .ok (.bipush 99, 2) := by decide +kernel
theorem dX8_wind_4 : decode cX8_wind 4 = .ok (.invokestatic 208, 3) := by decide +kernel
theorem dX8_wind_7 : decode cX8_wind 7 = .ok (.ifCond .eq 9, 3) := by decide +kernel
theorem dX8_wind_10 : decode cX8_wind 10 = .ok (.aload_n 0, 1) := by decide +kernel
theorem dX8_wind_11 : decode cX8_wind 11 = .ok (.iconst (-1), 1) := by decide +kernel
theorem dX8_wind_12 : decode cX8_wind 12 = .ok (.invokevirtual 212, 3) := by decide +kernel
theorem dX8_wind_15 : decode cX8_wind 15 = .ok (.ireturn, 1) := by decide +kernel
theorem dX8_wind_16 : decode cX8_wind 16 = .ok (.aload_n 0, 1) := by decide +kernel
theorem dX8_wind_17 : decode cX8_wind 17 = .ok (.getfield 42, 3) := by decide +kernel
theorem dX8_wind_20 : decode cX8_wind 20 = .ok (.invokevirtual 215, 3) := by decide +kernel
theorem dX8_wind_23 : decode cX8_wind 23 = .ok (.aload_n 0, 1) := by decide +kernel
theorem dX8_wind_24 : decode cX8_wind 24 = .ok (.getfield 42, 3) := by decide +kernel
theorem dX8_wind_27 : decode cX8_wind 27 = .ok (.getfield 64, 3) := by decide +kernel
theorem dX8_wind_30 : decode cX8_wind 30 = .ok (.bipush 99, 2) := by decide +kernel
theorem dX8_wind_32 : decode cX8_wind 32 = .ok (.aload_n 0, 1) := by decide +kernel
theorem dX8_wind_33 : decode cX8_wind 33 = .ok (.getfield 42, 3) := by decide +kernel
theorem dX8_wind_36 : decode cX8_wind 36 = .ok (.getfield 64, 3) := by decide +kernel
theorem dX8_wind_39 : decode cX8_wind 39 = .ok (.getfield 134, 3) := by decide +kernel
theorem dX8_wind_42 : decode cX8_wind 42 = .ok (.iload_n 1, 1) := by decide +kernel
theorem dX8_wind_43 : decode cX8_wind 43 = .ok (.iadd, 1) := by decide +kernel
theorem dX8_wind_44 : decode cX8_wind 44 = .ok (.invokestatic 222, 3) := by decide +kernel
theorem dX8_wind_47 : decode cX8_wind 47 = .ok (.putfield 134, 3) := by decide +kernel
theorem dX8_wind_50 : decode cX8_wind 50 = .ok (.aload_n 0, 1) := by decide +kernel
theorem dX8_wind_51 : decode cX8_wind 51 = .ok (.getfield 42, 3) := by decide +kernel
theorem dX8_wind_54 : decode cX8_wind 54 = .ok (.getfield 64, 3) := by decide +kernel
theorem dX8_wind_57 : decode cX8_wind 57 = .ok (.getfield 134, 3) := by decide +kernel
theorem dX8_wind_60 : decode cX8_wind 60 = .ok (.ireturn, 1) := by decide +kernel
set_option maxRecDepth 20000 in
theorem ggX8_oil_X8_isOutside : GoodIn wsX8_oil wsX8_isOutside := goodIn_r _ [11] (by decide +kernel) (by decide +kernel)
set_option maxRecDepth 20000 in
theorem gX8_oil_X8_isOutside : GoodIn wsX8_oil (va_wsS RX8 208 yX8_isOutside wsX8_isOutside) := goodIn_app (goodIn_of _ (by decide +kernel)) ggX8_oil_X8_isOutside
set_option maxRecDepth 20000 in
theorem ggX8_oil_X8_refuseAct : GoodIn wsX8_oil wsX8_refuseAct := goodIn_r _ [15, 1, 16, 44, 45, 46, 47, 48, 49, 50, 51, 52, 53, 54, 55, 56, 57, 58, 59, 60, 61, 62, 63] (by decide +kernel) (by decide +kernel)
set_option maxRecDepth 20000 in
theorem gX8_oil_X8_refuseAct : GoodIn wsX8_oil (wsV RX8 212 RX8 yX8_refuseAct wsX8_refuseAct) := goodIn_app (goodIn_of _ (by decide +kernel)) ggX8_oil_X8_refuseAct
set_option maxRecDepth 20000 in
theorem ggX8_oil_X0_keepAct : GoodIn wsX8_oil wsX0_keepAct := goodIn_r _ [21, 22, 23, 24, 25, 26, 27, 28, 29, 30, 31, 32, 33, 34, 35, 36, 37, 38, 39, 40, 41, 42, 43, 57, 58, 59, 60, 61, 62, 63, 64, 65, 66, 67, 68, 69, 70, 71, 72] (by decide +kernel) (by decide +kernel)
set_option maxRecDepth 20000 in
theorem gX8_oil_X0_keepAct : GoodIn wsX8_oil (wsV RX8 215 RX0 yX0_keepAct wsX0_keepAct) := goodIn_app (goodIn_of _ (by decide +kernel)) ggX8_oil_X0_keepAct
theorem dX8_oil_0 : decode cX8_oil 0 = .ok (.iload_n 1, 1) := by decide +kernel
theorem dX8_oil_1 : decode cX8_oil 1 = .ok (.iconst 1, 1) := by decide +kernel
theorem dX8_oil_2 : decode cX8_oil 2 = .ok (.bipush 99, 2) := by decide +kernel
theorem dX8_oil_4 : decode cX8_oil 4 = .ok (.invokestatic 208, 3) := by decide +kernel
theorem dX8_oil_7 : decode cX8_oil 7 = .ok (.ifCond .eq 9, 3) := by decide +kernel
theorem dX8_oil_10 : decode cX8_oil 10 = .ok (.aload_n 0, 1) := by decide +kernel
theorem dX8_oil_11 : decode cX8_oil 11 = .ok (.iconst (-1), 1) := by decide +kernel
theorem dX8_oil_12 : decode cX8_oil 12 = .ok (.invokevirtual 212, 3) := by decide +kernel
theorem dX8_oil_15 : decode cX8_oil 15 = .ok (.ireturn, 1) := by decide +kernel
theorem dX8_oil_16 : decode cX8_oil 16 = .ok (.aload_n 0, 1) := by decide +kernel
theorem dX8_oil_17 : decode cX8_oil 17 = .ok (.getfield 42, 3) := by decide +kernel
theorem dX8_oil_20 : decode cX8_oil 20 = .ok (.invokevirtual 215, 3) := by decide +kernel
theorem dX8_oil_23 : decode cX8_oil 23 = .ok (.aload_n 0, 1) := by decide +kernel
theorem dX8_oil_24 : decode cX8_oil 24 = .ok (.getfield 42, 3) := by decide +kernel
theorem dX8_oil_27 : decode cX8_oil 27 = .ok (.getfield 64, 3) := by decide +kernel
theorem dX8_oil_30 : decode cX8_oil 30 = .ok (.bipush 99, 2) := by decide +kernel
theorem dX8_oil_32 : decode cX8_oil 32 = .ok (.aload_n 0, 1) := by decide +kernel
theorem dX8_oil_33 : decode cX8_oil 33 = .ok (.getfield 42, 3) := by decide +kernel
theorem dX8_oil_36 : decode cX8_oil 36 = .ok (.getfield 64, 3) := by decide +kernel
theorem dX8_oil_39 : decode cX8_oil 39 = .ok (.getfield 131, 3) := by decide +kernel
theorem dX8_oil_42 : decode cX8_oil 42 = .ok (.iload_n 1, 1) := by decide +kernel
theorem dX8_oil_43 : decode cX8_oil 43 = .ok (.iadd, 1) := by decide +kernel
theorem dX8_oil_44 : decode cX8_oil 44 = .ok (.invokestatic 222, 3) := by decide +kernel
theorem dX8_oil_47 : decode cX8_oil 47 = .ok (.putfield 131, 3) := by decide +kernel
theorem dX8_oil_50 : decode cX8_oil 50 = .ok (.aload_n 0, 1) := by decide +kernel
theorem dX8_oil_51 : decode cX8_oil 51 = .ok (.getfield 42, 3) := by decide +kernel
theorem dX8_oil_54 : decode cX8_oil 54 = .ok (.getfield 64, 3) := by decide +kernel
theorem dX8_oil_57 : decode cX8_oil 57 = .ok (.getfield 131, 3) := by decide +kernel
theorem dX8_oil_60 : decode cX8_oil 60 = .ok (.ireturn, 1) := by decide +kernel
set_option maxRecDepth 20000 in
theorem ggX8_spider_X8_isOutside : GoodIn wsX8_spider wsX8_isOutside := goodIn_r _ [7] (by decide +kernel) (by decide +kernel)
set_option maxRecDepth 20000 in
theorem gX8_spider_X8_isOutside : GoodIn wsX8_spider (va_wsS RX8 208 yX8_isOutside wsX8_isOutside) := goodIn_app (goodIn_of _ (by decide +kernel)) ggX8_spider_X8_isOutside
set_option maxRecDepth 20000 in
theorem ggX8_spider_X8_refuseAct : GoodIn wsX8_spider wsX8_refuseAct := goodIn_r _ [11, 1, 12, 40, 41, 42, 43, 44, 45, 46, 47, 48, 49, 50, 51, 52, 53, 54, 55, 56, 57, 58, 59] (by decide +kernel) (by decide +kernel)
set_option maxRecDepth 20000 in
theorem gX8_spider_X8_refuseAct : GoodIn wsX8_spider (wsV RX8 212 RX8 yX8_refuseAct wsX8_refuseAct) := goodIn_app (goodIn_of _ (by decide +kernel)) ggX8_spider_X8_refuseAct
set_option maxRecDepth 20000 in
theorem ggX8_spider_X0_keepAct : GoodIn wsX8_spider wsX0_keepAct := goodIn_r _ [17, 18, 19, 20, 21, 22, 23, 24, 25, 26, 27, 28, 29, 30, 31, 32, 33, 34, 35, 36, 37, 38, 39, 53, 54, 55, 56, 57, 58, 59, 60, 61, 62, 63, 64, 65, 66, 67, 68] (by decide +kernel) (by decide +kernel)
set_option maxRecDepth 20000 in
theorem gX8_spider_X0_keepAct : GoodIn wsX8_spider (wsV RX8 215 RX0 yX0_keepAct wsX0_keepAct) := goodIn_app (goodIn_of _ (by decide +kernel)) ggX8_spider_X0_keepAct
theorem dX8_spider_0 : decode cX8_spider 0 = .ok (.iload_n 1, 1) := by decide +kernel
theorem dX8_spider_1 : decode cX8_spider 1 = .ok (.iconst 1, 1) := by decide +kernel
theorem dX8_spider_2 : decode cX8_spider 2 = .ok (.bipush 24, 2) := by decide +kernel
theorem dX8_spider_4 : decode cX8_spider 4 = .ok (.invokestatic 208, 3) := by decide +kernel
theorem dX8_spider_7 : decode cX8_spider 7 = .ok (.ifCond .eq 9, 3) := by decide +kernel
theorem dX8_spider_10 : decode cX8_spider 10 = .ok (.aload_n 0, 1) := by decide +kernel
theorem dX8_spider_11 : decode cX8_spider 11 = .ok (.iconst (-1), 1) := by decide +kernel
theorem dX8_spider_12 : decode cX8_spider 12 = .ok (.invokevirtual 212, 3) := by decide +kernel
theorem dX8_spider_15 : decode cX8_spider 15 = .ok (.ireturn, 1) := by decide +kernel
theorem dX8_spider_16 : decode cX8_spider 16 = .ok (.aload_n 0, 1) := by decide +kernel
theorem dX8_spider_17 : decode cX8_spider 17 = .ok (.getfield 42, 3) := by decide +kernel
theorem dX8_spider_20 : decode cX8_spider 20 = .ok (.invokevirtual 215, 3) := by decide +kernel
theorem dX8_spider_23 : decode cX8_spider 23 = .ok (.aload_n 0, 1) := by decide +kernel
theorem dX8_spider_24 : decode cX8_spider 24 = .ok (.getfield 42, 3) := by decide +kernel
theorem dX8_spider_27 : decode cX8_spider 27 = .ok (.getfield 64, 3) := by decide +kernel
theorem dX8_spider_30 : decode cX8_spider 30 = .ok (.getfield 137, 3) := by decide +kernel
theorem dX8_spider_33 : decode cX8_spider 33 = .ok (.istore_n 2, 1) := by decide +kernel
theorem dX8_spider_34 : decode cX8_spider 34 = .ok (.aload_n 0, 1) := by decide +kernel
theorem dX8_spider_35 : decode cX8_spider 35 = .ok (.getfield 42, 3) := by decide +kernel
theorem dX8_spider_38 : decode cX8_spider 38 = .ok (.getfield 64, 3) := by decide +kernel
theorem dX8_spider_41 : decode cX8_spider 41 = .ok (.iload_n 1, 1) := by decide +kernel
theorem dX8_spider_42 : decode cX8_spider 42 = .ok (.putfield 137, 3) := by decide +kernel
theorem dX8_spider_45 : decode cX8_spider 45 = .ok (.iload_n 2, 1) := by decide +kernel
theorem dX8_spider_46 : decode cX8_spider 46 = .ok (.ireturn, 1) := by decide +kernel
set_option maxRecDepth 20000 in
theorem ggX8_bribe_X8_checkAlderman : GoodIn wsX8_bribe wsX8_checkAlderman := goodIn_ca (goodIn_r _ [13, 14, 15, 16, 17, 53, 54, 55, 56, 57, 58, 59, 60, 61, 62, 63, 64, 65, 82, 83, 84, 85, 86, 87, 88, 89, 90, 91, 92, 93, 94, 95, 96, 97] (by decide +kernel) (by decide +kernel)) (goodIn_sub (fun _ h => List.mem_cons_of_mem _ (List.mem_append_right _ h)) (by decide +kernel))
set_option maxRecDepth 20000 in
theorem gX8_bribe_X8_checkAlderman : GoodIn wsX8_bribe (wsV RX8 163 RX8 yX8_checkAlderman wsX8_checkAlderman) := goodIn_app (goodIn_of _ (by decide +kernel)) ggX8_bribe_X8_checkAlderman
set_option maxRecDepth 20000 in
theorem ggX8_bribe_X8_isOutside : GoodIn wsX8_bribe wsX8_isOutside := goodIn_r _ [20] (by decide +kernel) (by decide +kernel)
set_option maxRecDepth 20000 in
theorem gX8_bribe_X8_isOutside : GoodIn wsX8_bribe (va_wsS RX8 208 yX8_isOutside wsX8_isOutside) := goodIn_app (goodIn_of _ (by decide +kernel)) ggX8_bribe_X8_isOutside
set_option maxRecDepth 20000 in
theorem ggX8_bribe_X8_refuseAct : GoodIn wsX8_bribe wsX8_refuseAct := goodIn_r _ [24, 1, 25, 53, 54, 55, 56, 57, 58, 59, 60, 61, 62, 63, 64, 65, 66, 67, 68, 69, 70, 71, 72] (by decide +kernel) (by decide +kernel)
set_option maxRecDepth 20000 in
theorem gX8_bribe_X8_refuseAct : GoodIn wsX8_bribe (wsV RX8 212 RX8 yX8_refuseAct wsX8_refuseAct) := goodIn_app (goodIn_of _ (by decide +kernel)) ggX8_bribe_X8_refuseAct
set_option maxRecDepth 20000 in
theorem ggX8_bribe_X0_keepAct : GoodIn wsX8_bribe wsX0_keepAct := goodIn_r _ [30, 31, 32, 33, 34, 35, 36, 37, 38, 39, 40, 41, 42, 43, 44, 45, 46, 47, 48, 49, 50, 51, 52, 66, 67, 68, 69, 70, 71, 72, 73, 74, 75, 76, 77, 78, 79, 80, 81] (by decide +kernel) (by decide +kernel)
set_option maxRecDepth 20000 in
theorem gX8_bribe_X0_keepAct : GoodIn wsX8_bribe (wsV RX8 215 RX0 yX0_keepAct wsX0_keepAct) := goodIn_app (goodIn_of _ (by decide +kernel)) ggX8_bribe_X0_keepAct
