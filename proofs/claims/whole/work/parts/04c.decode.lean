theorem dX5_nextToken_152 : decode cX5_nextToken 152 = .ok (.iadd, 1) := by decide +kernel
theorem dX5_nextToken_153 : decode cX5_nextToken 153 = .ok (.putfield 51, 3) := by decide +kernel
theorem dX5_nextToken_156 : decode cX5_nextToken 156 = .ok (.aload_n 0, 1) := by decide +kernel
theorem dX5_nextToken_157 : decode cX5_nextToken 157 = .ok (.dup, 1) := by decide +kernel
theorem dX5_nextToken_158 : decode cX5_nextToken 158 = .ok (.getfield 33, 3) := by decide +kernel
theorem dX5_nextToken_161 : decode cX5_nextToken 161 = .ok (.iconst 1, 1) := by decide +kernel
theorem dX5_nextToken_162 : decode cX5_nextToken 162 = .ok (.iadd, 1) := by decide +kernel
theorem dX5_nextToken_163 : decode cX5_nextToken 163 = .ok (.putfield 33, 3) := by decide +kernel
theorem dX5_nextToken_166 : decode cX5_nextToken 166 = .ok (.return_, 1) := by decide +kernel
theorem dX5_readLetters_0 : decode cX5_readLetters 0 = .ok (.aload_n 0, 1) := by decide +kernel
theorem dX5_readLetters_1 : decode cX5_readLetters 1 = .ok (.getfield 33, 3) := by decide +kernel
theorem dX5_readLetters_4 : decode cX5_readLetters 4 = .ok (.aload_n 0, 1) := by decide +kernel
theorem dX5_readLetters_5 : decode cX5_readLetters 5 = .ok (.getfield 29, 3) := by decide +kernel
theorem dX5_readLetters_8 : decode cX5_readLetters 8 = .ok (.if_icmp .ge 44, 3) := by decide +kernel
theorem dX5_readLetters_11 : decode cX5_readLetters 11 = .ok (.aload_n 0, 1) := by decide +kernel
theorem dX5_readLetters_12 : decode cX5_readLetters 12 = .ok (.getfield 15, 3) := by decide +kernel
theorem dX5_readLetters_15 : decode cX5_readLetters 15 = .ok (.aload_n 0, 1) := by decide +kernel
theorem dX5_readLetters_16 : decode cX5_readLetters 16 = .ok (.getfield 33, 3) := by decide +kernel
theorem dX5_readLetters_19 : decode cX5_readLetters 19 = .ok (.baload, 1) := by decide +kernel
theorem dX5_readLetters_20 : decode cX5_readLetters 20 = .ok (.bipush 97, 2) := by decide +kernel
theorem dX5_readLetters_22 : decode cX5_readLetters 22 = .ok (.if_icmp .lt 30, 3) := by decide +kernel
theorem dX5_readLetters_25 : decode cX5_readLetters 25 = .ok (.aload_n 0, 1) := by decide +kernel
theorem dX5_readLetters_26 : decode cX5_readLetters 26 = .ok (.getfield 15, 3) := by decide +kernel
theorem dX5_readLetters_29 : decode cX5_readLetters 29 = .ok (.aload_n 0, 1) := by decide +kernel
theorem dX5_readLetters_30 : decode cX5_readLetters 30 = .ok (.getfield 33, 3) := by decide +kernel
theorem dX5_readLetters_33 : decode cX5_readLetters 33 = .ok (.baload, 1) := by decide +kernel
theorem dX5_readLetters_34 : decode cX5_readLetters 34 = .ok (.bipush 122, 2) := by decide +kernel
theorem dX5_readLetters_36 : decode cX5_readLetters 36 = .ok (.if_icmp .gt 16, 3) := by decide +kernel
theorem dX5_readLetters_39 : decode cX5_readLetters 39 = .ok (.aload_n 0, 1) := by decide +kernel
theorem dX5_readLetters_40 : decode cX5_readLetters 40 = .ok (.dup, 1) := by decide +kernel
theorem dX5_readLetters_41 : decode cX5_readLetters 41 = .ok (.getfield 33, 3) := by decide +kernel
theorem dX5_readLetters_44 : decode cX5_readLetters 44 = .ok (.iconst 1, 1) := by decide +kernel
theorem dX5_readLetters_45 : decode cX5_readLetters 45 = .ok (.iadd, 1) := by decide +kernel
theorem dX5_readLetters_46 : decode cX5_readLetters 46 = .ok (.putfield 33, 3) := by decide +kernel
theorem dX5_readLetters_49 : decode cX5_readLetters 49 = .ok (.goto (-49), 3) := by decide +kernel
theorem dX5_readLetters_52 : decode cX5_readLetters 52 = .ok (.aload_n 0, 1) := by decide +kernel
theorem dX5_readLetters_53 : decode cX5_readLetters 53 = .ok (.bipush 12, 2) := by decide +kernel
theorem dX5_readLetters_55 : decode cX5_readLetters 55 = .ok (.putfield 51, 3) := by decide +kernel
theorem dX5_readLetters_58 : decode cX5_readLetters 58 = .ok (.bipush 13, 2) := by decide +kernel
theorem dX5_readLetters_60 : decode cX5_readLetters 60 = .ok (.istore_n 1, 1) := by decide +kernel
theorem dX5_readLetters_61 : decode cX5_readLetters 61 = .ok (.aload_n 0, 1) := by decide +kernel
theorem dX5_readLetters_62 : decode cX5_readLetters 62 = .ok (.getfield 57, 3) := by decide +kernel
theorem dX5_readLetters_65 : decode cX5_readLetters 65 = .ok (.istore_n 2, 1) := by decide +kernel
theorem dX5_readLetters_66 : decode cX5_readLetters 66 = .ok (.iconst 1, 1) := by decide +kernel
theorem dX5_readLetters_67 : decode cX5_readLetters 67 = .ok (.istore_n 3, 1) := by decide +kernel
theorem dX5_readLetters_68 : decode cX5_readLetters 68 = .ok (.iconst 0, 1) := by decide +kernel
theorem dX5_readLetters_69 : decode cX5_readLetters 69 = .ok (.istore 4, 2) := by decide +kernel
theorem dX5_readLetters_71 : decode cX5_readLetters 71 = .ok (.iload 4, 2) := by decide +kernel
theorem dX5_readLetters_73 : decode cX5_readLetters 73 = .ok (.ldc 194, 2) := by decide +kernel
theorem dX5_readLetters_75 : decode cX5_readLetters 75 = .ok (.invokevirtual 196, 3) := by decide +kernel
theorem dX5_readLetters_78 : decode cX5_readLetters 78 = .ok (.if_icmp .ge 87, 3) := by decide +kernel
theorem dX5_readLetters_81 : decode cX5_readLetters 81 = .ok (.ldc 194, 2) := by decide +kernel
theorem dX5_readLetters_83 : decode cX5_readLetters 83 = .ok (.iload 4, 2) := by decide +kernel
theorem dX5_readLetters_85 : decode cX5_readLetters 85 = .ok (.invokevirtual 200, 3) := by decide +kernel
theorem dX5_readLetters_88 : decode cX5_readLetters 88 = .ok (.istore 5, 2) := by decide +kernel
theorem dX5_readLetters_90 : decode cX5_readLetters 90 = .ok (.iload 5, 2) := by decide +kernel
theorem dX5_readLetters_92 : decode cX5_readLetters 92 = .ok (.bipush 32, 2) := by decide +kernel
theorem dX5_readLetters_94 : decode cX5_readLetters 94 = .ok (.if_icmp .eq 38, 3) := by decide +kernel
theorem dX5_readLetters_97 : decode cX5_readLetters 97 = .ok (.iload_n 3, 1) := by decide +kernel
theorem dX5_readLetters_98 : decode cX5_readLetters 98 = .ok (.ifCond .eq 26, 3) := by decide +kernel
theorem dX5_readLetters_101 : decode cX5_readLetters 101 = .ok (.iload_n 2, 1) := by decide +kernel
theorem dX5_readLetters_102 : decode cX5_readLetters 102 = .ok (.aload_n 0, 1) := by decide +kernel
theorem dX5_readLetters_103 : decode cX5_readLetters 103 = .ok (.getfield 33, 3) := by decide +kernel
theorem dX5_readLetters_106 : decode cX5_readLetters 106 = .ok (.if_icmp .ge 18, 3) := by decide +kernel
theorem dX5_readLetters_109 : decode cX5_readLetters 109 = .ok (.aload_n 0, 1) := by decide +kernel
theorem dX5_readLetters_110 : decode cX5_readLetters 110 = .ok (.getfield 15, 3) := by decide +kernel
theorem dX5_readLetters_113 : decode cX5_readLetters 113 = .ok (.iload_n 2, 1) := by decide +kernel
theorem dX5_readLetters_114 : decode cX5_readLetters 114 = .ok (.baload, 1) := by decide +kernel
theorem dX5_readLetters_115 : decode cX5_readLetters 115 = .ok (.iload 5, 2) := by decide +kernel
theorem dX5_readLetters_117 : decode cX5_readLetters 117 = .ok (.if_icmp .ne 7, 3) := by decide +kernel
theorem dX5_readLetters_120 : decode cX5_readLetters 120 = .ok (.iconst 1, 1) := by decide +kernel
theorem dX5_readLetters_121 : decode cX5_readLetters 121 = .ok (.goto 4, 3) := by decide +kernel
theorem dX5_readLetters_124 : decode cX5_readLetters 124 = .ok (.iconst 0, 1) := by decide +kernel
theorem dX5_readLetters_125 : decode cX5_readLetters 125 = .ok (.istore_n 3, 1) := by decide +kernel
theorem dX5_readLetters_126 : decode cX5_readLetters 126 = .ok (.iinc 2 1, 3) := by decide +kernel
theorem dX5_readLetters_129 : decode cX5_readLetters 129 = .ok (.goto 30, 3) := by decide +kernel
theorem dX5_readLetters_132 : decode cX5_readLetters 132 = .ok (.iload_n 3, 1) := by decide +kernel
theorem dX5_readLetters_133 : decode cX5_readLetters 133 = .ok (.ifCond .eq 16, 3) := by decide +kernel
theorem dX5_readLetters_136 : decode cX5_readLetters 136 = .ok (.iload_n 2, 1) := by decide +kernel
theorem dX5_readLetters_137 : decode cX5_readLetters 137 = .ok (.aload_n 0, 1) := by decide +kernel
theorem dX5_readLetters_138 : decode cX5_readLetters 138 = .ok (.getfield 33, 3) := by decide +kernel
theorem dX5_readLetters_141 : decode cX5_readLetters 141 = .ok (.if_icmp .ne 8, 3) := by decide +kernel
theorem dX5_readLetters_144 : decode cX5_readLetters 144 = .ok (.aload_n 0, 1) := by decide +kernel
theorem dX5_readLetters_145 : decode cX5_readLetters 145 = .ok (.iload_n 1, 1) := by decide +kernel
theorem dX5_readLetters_146 : decode cX5_readLetters 146 = .ok (.putfield 51, 3) := by decide +kernel
theorem dX5_readLetters_149 : decode cX5_readLetters 149 = .ok (.iinc 1 1, 3) := by decide +kernel
theorem dX5_readLetters_152 : decode cX5_readLetters 152 = .ok (.aload_n 0, 1) := by decide +kernel
theorem dX5_readLetters_153 : decode cX5_readLetters 153 = .ok (.getfield 57, 3) := by decide +kernel
theorem dX5_readLetters_156 : decode cX5_readLetters 156 = .ok (.istore_n 2, 1) := by decide +kernel
theorem dX5_readLetters_157 : decode cX5_readLetters 157 = .ok (.iconst 1, 1) := by decide +kernel
theorem dX5_readLetters_158 : decode cX5_readLetters 158 = .ok (.istore_n 3, 1) := by decide +kernel
theorem dX5_readLetters_159 : decode cX5_readLetters 159 = .ok (.iinc 4 1, 3) := by decide +kernel
theorem dX5_readLetters_162 : decode cX5_readLetters 162 = .ok (.goto (-91), 3) := by decide +kernel
theorem dX5_readLetters_165 : decode cX5_readLetters 165 = .ok (.return_, 1) := by decide +kernel
theorem dX5_readDigits_0 : decode cX5_readDigits 0 = .ok (.aload_n 0, 1) := by decide +kernel
theorem dX5_readDigits_1 : decode cX5_readDigits 1 = .ok (.iconst 0, 1) := by decide +kernel
theorem dX5_readDigits_2 : decode cX5_readDigits 2 = .ok (.putfield 115, 3) := by decide +kernel
theorem dX5_readDigits_5 : decode cX5_readDigits 5 = .ok (.aload_n 0, 1) := by decide +kernel
theorem dX5_readDigits_6 : decode cX5_readDigits 6 = .ok (.getfield 33, 3) := by decide +kernel
theorem dX5_readDigits_9 : decode cX5_readDigits 9 = .ok (.aload_n 0, 1) := by decide +kernel
theorem dX5_readDigits_10 : decode cX5_readDigits 10 = .ok (.getfield 29, 3) := by decide +kernel
theorem dX5_readDigits_13 : decode cX5_readDigits 13 = .ok (.if_icmp .ge 81, 3) := by decide +kernel
theorem dX5_readDigits_16 : decode cX5_readDigits 16 = .ok (.aload_n 0, 1) := by decide +kernel
theorem dX5_readDigits_17 : decode cX5_readDigits 17 = .ok (.getfield 15, 3) := by decide +kernel
theorem dX5_readDigits_20 : decode cX5_readDigits 20 = .ok (.aload_n 0, 1) := by decide +kernel
theorem dX5_readDigits_21 : decode cX5_readDigits 21 = .ok (.getfield 33, 3) := by decide +kernel
theorem dX5_readDigits_24 : decode cX5_readDigits 24 = .ok (.baload, 1) := by decide +kernel
theorem dX5_readDigits_25 : decode cX5_readDigits 25 = .ok (.bipush 48, 2) := by decide +kernel
theorem dX5_readDigits_27 : decode cX5_readDigits 27 = .ok (.if_icmp .lt 67, 3) := by decide +kernel
theorem dX5_readDigits_30 : decode cX5_readDigits 30 = .ok (.aload_n 0, 1) := by decide +kernel
theorem dX5_readDigits_31 : decode cX5_readDigits 31 = .ok (.getfield 15, 3) := by decide +kernel
theorem dX5_readDigits_34 : decode cX5_readDigits 34 = .ok (.aload_n 0, 1) := by decide +kernel
theorem dX5_readDigits_35 : decode cX5_readDigits 35 = .ok (.getfield 33, 3) := by decide +kernel
theorem dX5_readDigits_38 : decode cX5_readDigits 38 = .ok (.baload, 1) := by decide +kernel
theorem dX5_readDigits_39 : decode cX5_readDigits 39 = .ok (.bipush 57, 2) := by decide +kernel
theorem dX5_readDigits_41 : decode cX5_readDigits 41 = .ok (.if_icmp .gt 53, 3) := by decide +kernel
theorem dX5_readDigits_44 : decode cX5_readDigits 44 = .ok (.aload_n 0, 1) := by decide +kernel
theorem dX5_readDigits_45 : decode cX5_readDigits 45 = .ok (.getfield 33, 3) := by decide +kernel
theorem dX5_readDigits_48 : decode cX5_readDigits 48 = .ok (.aload_n 0, 1) := by decide +kernel
theorem dX5_readDigits_49 : decode cX5_readDigits 49 = .ok (.getfield 57, 3) := by decide +kernel
theorem dX5_readDigits_52 : decode cX5_readDigits 52 = .ok (.isub, 1) := by decide +kernel
theorem dX5_readDigits_53 : decode cX5_readDigits 53 = .ok (.iconst 4, 1) := by decide +kernel
theorem dX5_readDigits_54 : decode cX5_readDigits 54 = .ok (.if_icmp .ge 27, 3) := by decide +kernel
theorem dX5_readDigits_57 : decode cX5_readDigits 57 = .ok (.aload_n 0, 1) := by decide +kernel
theorem dX5_readDigits_58 : decode cX5_readDigits 58 = .ok (.bipush 10, 2) := by decide +kernel
theorem dX5_readDigits_60 : decode cX5_readDigits 60 = .ok (.aload_n 0, 1) := by decide +kernel
theorem dX5_readDigits_61 : decode cX5_readDigits 61 = .ok (.getfield 115, 3) := by decide +kernel
theorem dX5_readDigits_64 : decode cX5_readDigits 64 = .ok (.imul, 1) := by decide +kernel
theorem dX5_readDigits_65 : decode cX5_readDigits 65 = .ok (.aload_n 0, 1) := by decide +kernel
theorem dX5_readDigits_66 : decode cX5_readDigits 66 = .ok (.getfield 15, 3) := by decide +kernel
theorem dX5_readDigits_69 : decode cX5_readDigits 69 = .ok (.aload_n 0, 1) := by decide +kernel
theorem dX5_readDigits_70 : decode cX5_readDigits 70 = .ok (.getfield 33, 3) := by decide +kernel
theorem dX5_readDigits_73 : decode cX5_readDigits 73 = .ok (.baload, 1) := by decide +kernel
theorem dX5_readDigits_74 : decode cX5_readDigits 74 = .ok (.iadd, 1) := by decide +kernel
theorem dX5_readDigits_75 : decode cX5_readDigits 75 = .ok (.bipush 48, 2) := by decide +kernel
theorem dX5_readDigits_77 : decode cX5_readDigits 77 = .ok (.isub, 1) := by decide +kernel
theorem dX5_readDigits_78 : decode cX5_readDigits 78 = .ok (.putfield 115, 3) := by decide +kernel
theorem dX5_readDigits_81 : decode cX5_readDigits 81 = .ok (.aload_n 0, 1) := by decide +kernel
theorem dX5_readDigits_82 : decode cX5_readDigits 82 = .ok (.dup, 1) := by decide +kernel
theorem dX5_readDigits_83 : decode cX5_readDigits 83 = .ok (.getfield 33, 3) := by decide +kernel
theorem dX5_readDigits_86 : decode cX5_readDigits 86 = .ok (.iconst 1, 1) := by decide +kernel
theorem dX5_readDigits_87 : decode cX5_readDigits 87 = .ok (.iadd, 1) := by decide +kernel
theorem dX5_readDigits_88 : decode cX5_readDigits 88 = .ok (.putfield 33, 3) := by decide +kernel
theorem dX5_readDigits_91 : decode cX5_readDigits 91 = .ok (.goto (-86), 3) := by decide +kernel
theorem dX5_readDigits_94 : decode cX5_readDigits 94 = .ok (.aload_n 0, 1) := by decide +kernel
theorem dX5_readDigits_95 : decode cX5_readDigits 95 = .ok (.iconst 2, 1) := by decide +kernel
theorem dX5_readDigits_96 : decode cX5_readDigits 96 = .ok (.putfield 51, 3) := by decide +kernel
theorem dX5_readDigits_99 : decode cX5_readDigits 99 = .ok (.aload_n 0, 1) := by decide +kernel
theorem dX5_readDigits_100 : decode cX5_readDigits 100 = .ok (.aload_n 0, 1) := by decide +kernel
theorem dX5_readDigits_101 : decode cX5_readDigits 101 = .ok (.getfield 33, 3) := by decide +kernel
theorem dX5_readDigits_104 : decode cX5_readDigits 104 = .ok (.aload_n 0, 1) := by decide +kernel
theorem dX5_readDigits_105 : decode cX5_readDigits 105 = .ok (.getfield 57, 3) := by decide +kernel
theorem dX5_readDigits_108 : decode cX5_readDigits 108 = .ok (.isub, 1) := by decide +kernel
theorem dX5_readDigits_109 : decode cX5_readDigits 109 = .ok (.putfield 112, 3) := by decide +kernel
theorem dX5_readDigits_112 : decode cX5_readDigits 112 = .ok (.return_, 1) := by decide +kernel
theorem dX6_init_0 : decode cX6_init 0 = .ok (.aload_n 0, 1) := by decide +kernel
theorem dX6_init_1 : decode cX6_init 1 = .ok (.invokespecial 3, 3) := by decide +kernel
theorem dX6_init_4 : decode cX6_init 4 = .ok (.aload_n 0, 1) := by decide +kernel
theorem dX6_init_5 : decode cX6_init 5 = .ok (.new 9, 3) := by decide +kernel
theorem dX6_init_8 : decode cX6_init 8 = .ok (.dup, 1) := by decide +kernel
theorem dX6_init_9 : decode cX6_init 9 = .ok (.invokespecial 11, 3) := by decide +kernel
theorem dX6_init_12 : decode cX6_init 12 = .ok (.putfield 12, 3) := by decide +kernel
theorem dX6_init_15 : decode cX6_init 15 = .ok (.aload_n 0, 1) := by decide +kernel
theorem dX6_init_16 : decode cX6_init 16 = .ok (.bipush 48, 2) := by decide +kernel
theorem dX6_init_18 : decode cX6_init 18 = .ok (.newarray .int, 2) := by decide +kernel
theorem dX6_init_20 : decode cX6_init 20 = .ok (.putfield 18, 3) := by decide +kernel
theorem dX6_init_23 : decode cX6_init 23 = .ok (.aload_n 0, 1) := by decide +kernel
theorem dX6_init_24 : decode cX6_init 24 = .ok (.bipush 48, 2) := by decide +kernel
theorem dX6_init_26 : decode cX6_init 26 = .ok (.newarray .int, 2) := by decide +kernel
theorem dX6_init_28 : decode cX6_init 28 = .ok (.putfield 22, 3) := by decide +kernel
theorem dX6_init_31 : decode cX6_init 31 = .ok (.aload_n 0, 1) := by decide +kernel
theorem dX6_init_32 : decode cX6_init 32 = .ok (.aload_n 1, 1) := by decide +kernel
theorem dX6_init_33 : decode cX6_init 33 = .ok (.putfield 25, 3) := by decide +kernel
theorem dX6_init_36 : decode cX6_init 36 = .ok (.aload_n 0, 1) := by decide +kernel
theorem dX6_init_37 : decode cX6_init 37 = .ok (.aload_n 2, 1) := by decide +kernel
theorem dX6_init_38 : decode cX6_init 38 = .ok (.putfield 29, 3) := by decide +kernel
theorem dX6_init_41 : decode cX6_init 41 = .ok (.return_, 1) := by decide +kernel
theorem dX6_isSoWithout_0 : decode cX6_isSoWithout 0 = .ok (.aload_n 0, 1) := by decide +kernel
theorem dX6_isSoWithout_1 : decode cX6_isSoWithout 1 = .ok (.aload_n 0, 1) := by decide +kernel
theorem dX6_isSoWithout_2 : decode cX6_isSoWithout 2 = .ok (.getfield 29, 3) := by decide +kernel
theorem dX6_isSoWithout_5 : decode cX6_isSoWithout 5 = .ok (.getfield 33, 3) := by decide +kernel
theorem dX6_isSoWithout_8 : decode cX6_isSoWithout 8 = .ok (.getfield 38, 3) := by decide +kernel
theorem dX6_isSoWithout_11 : decode cX6_isSoWithout 11 = .ok (.aload_n 0, 1) := by decide +kernel
theorem dX6_isSoWithout_12 : decode cX6_isSoWithout 12 = .ok (.invokevirtual 42, 3) := by decide +kernel
theorem dX6_isSoWithout_15 : decode cX6_isSoWithout 15 = .ok (.invokevirtual 46, 3) := by decide +kernel
theorem dX6_isSoWithout_18 : decode cX6_isSoWithout 18 = .ok (.ireturn, 1) := by decide +kernel
theorem dX6_howManyOils_0 : decode cX6_howManyOils 0 = .ok (.aload_n 0, 1) := by decide +kernel
theorem dX6_howManyOils_1 : decode cX6_howManyOils 1 = .ok (.invokevirtual 42, 3) := by decide +kernel
theorem dX6_howManyOils_4 : decode cX6_howManyOils 4 = .ok (.istore_n 1, 1) := by decide +kernel
theorem dX6_howManyOils_5 : decode cX6_howManyOils 5 = .ok (.iconst 0, 1) := by decide +kernel
theorem dX6_howManyOils_6 : decode cX6_howManyOils 6 = .ok (.istore_n 2, 1) := by decide +kernel
theorem dX6_howManyOils_7 : decode cX6_howManyOils 7 = .ok (.iconst 0, 1) := by decide +kernel
theorem dX6_howManyOils_8 : decode cX6_howManyOils 8 = .ok (.istore_n 3, 1) := by decide +kernel
theorem dX6_howManyOils_9 : decode cX6_howManyOils 9 = .ok (.iload_n 3, 1) := by decide +kernel
theorem dX6_howManyOils_10 : decode cX6_howManyOils 10 = .ok (.bipush 99, 2) := by decide +kernel
theorem dX6_howManyOils_12 : decode cX6_howManyOils 12 = .ok (.if_icmp .gt 35, 3) := by decide +kernel
theorem dX6_howManyOils_15 : decode cX6_howManyOils 15 = .ok (.iload_n 3, 1) := by decide +kernel
theorem dX6_howManyOils_16 : decode cX6_howManyOils 16 = .ok (.aload_n 0, 1) := by decide +kernel
theorem dX6_howManyOils_17 : decode cX6_howManyOils 17 = .ok (.getfield 29, 3) := by decide +kernel
theorem dX6_howManyOils_20 : decode cX6_howManyOils 20 = .ok (.getfield 33, 3) := by decide +kernel
theorem dX6_howManyOils_23 : decode cX6_howManyOils 23 = .ok (.getfield 38, 3) := by decide +kernel
theorem dX6_howManyOils_26 : decode cX6_howManyOils 26 = .ok (.if_icmp .eq 15, 3) := by decide +kernel
theorem dX6_howManyOils_29 : decode cX6_howManyOils 29 = .ok (.aload_n 0, 1) := by decide +kernel
theorem dX6_howManyOils_30 : decode cX6_howManyOils 30 = .ok (.iload_n 3, 1) := by decide +kernel
theorem dX6_howManyOils_31 : decode cX6_howManyOils 31 = .ok (.iload_n 1, 1) := by decide +kernel
theorem dX6_howManyOils_32 : decode cX6_howManyOils 32 = .ok (.invokevirtual 46, 3) := by decide +kernel
theorem dX6_howManyOils_35 : decode cX6_howManyOils 35 = .ok (.ifCond .eq 6, 3) := by decide +kernel
theorem dX6_howManyOils_38 : decode cX6_howManyOils 38 = .ok (.iinc 2 1, 3) := by decide +kernel
theorem dX6_howManyOils_41 : decode cX6_howManyOils 41 = .ok (.iinc 3 1, 3) := by decide +kernel
theorem dX6_howManyOils_44 : decode cX6_howManyOils 44 = .ok (.goto (-35), 3) := by decide +kernel
theorem dX6_howManyOils_47 : decode cX6_howManyOils 47 = .ok (.iload_n 2, 1) := by decide +kernel
theorem dX6_howManyOils_48 : decode cX6_howManyOils 48 = .ok (.ireturn, 1) := by decide +kernel
theorem dX6_leastOil_0 : decode cX6_leastOil 0 = .ok (.aload_n 0, 1) := by decide +kernel
theorem dX6_leastOil_1 : decode cX6_leastOil 1 = .ok (.invokevirtual 42, 3) := by decide +kernel
theorem dX6_leastOil_4 : decode cX6_leastOil 4 = .ok (.istore_n 1, 1) := by decide +kernel
theorem dX6_leastOil_5 : decode cX6_leastOil 5 = .ok (.iconst 0, 1) := by decide +kernel
theorem dX6_leastOil_6 : decode cX6_leastOil 6 = .ok (.istore_n 2, 1) := by decide +kernel
theorem dX6_leastOil_7 : decode cX6_leastOil 7 = .ok (.iload_n 2, 1) := by decide +kernel
theorem dX6_leastOil_8 : decode cX6_leastOil 8 = .ok (.bipush 99, 2) := by decide +kernel
theorem dX6_leastOil_10 : decode cX6_leastOil 10 = .ok (.if_icmp .gt 34, 3) := by decide +kernel
theorem dX6_leastOil_13 : decode cX6_leastOil 13 = .ok (.iload_n 2, 1) := by decide +kernel
theorem dX6_leastOil_14 : decode cX6_leastOil 14 = .ok (.aload_n 0, 1) := by decide +kernel
theorem dX6_leastOil_15 : decode cX6_leastOil 15 = .ok (.getfield 29, 3) := by decide +kernel
theorem dX6_leastOil_18 : decode cX6_leastOil 18 = .ok (.getfield 33, 3) := by decide +kernel
theorem dX6_leastOil_21 : decode cX6_leastOil 21 = .ok (.getfield 38, 3) := by decide +kernel
theorem dX6_leastOil_24 : decode cX6_leastOil 24 = .ok (.if_icmp .eq 14, 3) := by decide +kernel
theorem dX6_leastOil_27 : decode cX6_leastOil 27 = .ok (.aload_n 0, 1) := by decide +kernel
theorem dX6_leastOil_28 : decode cX6_leastOil 28 = .ok (.iload_n 2, 1) := by decide +kernel
theorem dX6_leastOil_29 : decode cX6_leastOil 29 = .ok (.iload_n 1, 1) := by decide +kernel
theorem dX6_leastOil_30 : decode cX6_leastOil 30 = .ok (.invokevirtual 46, 3) := by decide +kernel
theorem dX6_leastOil_33 : decode cX6_leastOil 33 = .ok (.ifCond .eq 5, 3) := by decide +kernel
theorem dX6_leastOil_36 : decode cX6_leastOil 36 = .ok (.iload_n 2, 1) := by decide +kernel
theorem dX6_leastOil_37 : decode cX6_leastOil 37 = .ok (.ireturn, 1) := by decide +kernel
theorem dX6_leastOil_38 : decode cX6_leastOil 38 = .ok (.iinc 2 1, 3) := by decide +kernel
theorem dX6_leastOil_41 : decode cX6_leastOil 41 = .ok (.goto (-34), 3) := by decide +kernel
theorem dX6_leastOil_44 : decode cX6_leastOil 44 = .ok (.iconst (-1), 1) := by decide +kernel
theorem dX6_leastOil_45 : decode cX6_leastOil 45 = .ok (.ireturn, 1) := by decide +kernel
theorem dX6_mostUnlikeHour_0 : decode cX6_mostUnlikeHour 0 = .ok (.aload_n 0, 1) := by decide +kernel
theorem dX6_mostUnlikeHour_1 : decode cX6_mostUnlikeHour 1 = .ok (.getfield 22, 3) := by decide +kernel
theorem dX6_mostUnlikeHour_4 : decode cX6_mostUnlikeHour 4 = .ok (.iconst 0, 1) := by decide +kernel
theorem dX6_mostUnlikeHour_5 : decode cX6_mostUnlikeHour 5 = .ok (.invokestatic 50, 3) := by decide +kernel
theorem dX6_mostUnlikeHour_8 : decode cX6_mostUnlikeHour 8 = .ok (.iconst 0, 1) := by decide +kernel
theorem dX6_mostUnlikeHour_9 : decode cX6_mostUnlikeHour 9 = .ok (.istore_n 2, 1) := by decide +kernel
theorem dX6_mostUnlikeHour_10 : decode cX6_mostUnlikeHour 10 = .ok (.iload_n 2, 1) := by decide +kernel
theorem dX6_mostUnlikeHour_11 : decode cX6_mostUnlikeHour 11 = .ok (.bipush 99, 2) := by decide +kernel
theorem dX6_mostUnlikeHour_13 : decode cX6_mostUnlikeHour 13 = .ok (.if_icmp .gt 37, 3) := by decide +kernel
theorem dX6_mostUnlikeHour_16 : decode cX6_mostUnlikeHour 16 = .ok (.iload_n 2, 1) := by decide +kernel
theorem dX6_mostUnlikeHour_17 : decode cX6_mostUnlikeHour 17 = .ok (.aload_n 0, 1) := by decide +kernel
theorem dX6_mostUnlikeHour_18 : decode cX6_mostUnlikeHour 18 = .ok (.getfield 29, 3) := by decide +kernel
theorem dX6_mostUnlikeHour_21 : decode cX6_mostUnlikeHour 21 = .ok (.getfield 33, 3) := by decide +kernel
theorem dX6_mostUnlikeHour_24 : decode cX6_mostUnlikeHour 24 = .ok (.getfield 38, 3) := by decide +kernel
theorem dX6_mostUnlikeHour_27 : decode cX6_mostUnlikeHour 27 = .ok (.if_icmp .eq 17, 3) := by decide +kernel
theorem dX6_mostUnlikeHour_30 : decode cX6_mostUnlikeHour 30 = .ok (.aload_n 0, 1) := by decide +kernel
theorem dX6_mostUnlikeHour_31 : decode cX6_mostUnlikeHour 31 = .ok (.iload_n 2, 1) := by decide +kernel
theorem dX6_mostUnlikeHour_32 : decode cX6_mostUnlikeHour 32 = .ok (.bipush 48, 2) := by decide +kernel
theorem dX6_mostUnlikeHour_34 : decode cX6_mostUnlikeHour 34 = .ok (.invokevirtual 46, 3) := by decide +kernel
theorem dX6_mostUnlikeHour_37 : decode cX6_mostUnlikeHour 37 = .ok (.ifCond .eq 7, 3) := by decide +kernel
theorem dX6_mostUnlikeHour_40 : decode cX6_mostUnlikeHour 40 = .ok (.aload_n 0, 1) := by decide +kernel
theorem dX6_mostUnlikeHour_41 : decode cX6_mostUnlikeHour 41 = .ok (.invokevirtual 56, 3) := by decide +kernel
theorem dX6_mostUnlikeHour_44 : decode cX6_mostUnlikeHour 44 = .ok (.iinc 2 1, 3) := by decide +kernel
theorem dX6_mostUnlikeHour_47 : decode cX6_mostUnlikeHour 47 = .ok (.goto (-37), 3) := by decide +kernel
theorem dX6_mostUnlikeHour_50 : decode cX6_mostUnlikeHour 50 = .ok (.iconst 0, 1) := by decide +kernel
theorem dX6_mostUnlikeHour_51 : decode cX6_mostUnlikeHour 51 = .ok (.istore_n 2, 1) := by decide +kernel
theorem dX6_mostUnlikeHour_52 : decode cX6_mostUnlikeHour 52 = .ok (.iconst (-1), 1) := by decide +kernel
theorem dX6_mostUnlikeHour_53 : decode cX6_mostUnlikeHour 53 = .ok (.istore_n 3, 1) := by decide +kernel
theorem dX6_mostUnlikeHour_54 : decode cX6_mostUnlikeHour 54 = .ok (.iconst 0, 1) := by decide +kernel
theorem dX6_mostUnlikeHour_55 : decode cX6_mostUnlikeHour 55 = .ok (.istore 4, 2) := by decide +kernel
theorem dX6_mostUnlikeHour_57 : decode cX6_mostUnlikeHour 57 = .ok (.iload 4, 2) := by decide +kernel
theorem dX6_mostUnlikeHour_59 : decode cX6_mostUnlikeHour 59 = .ok (.bipush 48, 2) := by decide +kernel
theorem dX6_mostUnlikeHour_61 : decode cX6_mostUnlikeHour 61 = .ok (.if_icmp .ge 35, 3) := by decide +kernel
theorem dX6_mostUnlikeHour_64 : decode cX6_mostUnlikeHour 64 = .ok (.aload_n 0, 1) := by decide +kernel
theorem dX6_mostUnlikeHour_65 : decode cX6_mostUnlikeHour 65 = .ok (.getfield 22, 3) := by decide +kernel
theorem dX6_mostUnlikeHour_68 : decode cX6_mostUnlikeHour 68 = .ok (.iload 4, 2) := by decide +kernel
theorem dX6_mostUnlikeHour_70 : decode cX6_mostUnlikeHour 70 = .ok (.iaload, 1) := by decide +kernel
theorem dX6_mostUnlikeHour_71 : decode cX6_mostUnlikeHour 71 = .ok (.invokestatic 59, 3) := by decide +kernel
theorem dX6_mostUnlikeHour_74 : decode cX6_mostUnlikeHour 74 = .ok (.istore 5, 2) := by decide +kernel
theorem dX6_mostUnlikeHour_76 : decode cX6_mostUnlikeHour 76 = .ok (.iload 5, 2) := by decide +kernel
theorem dX6_mostUnlikeHour_78 : decode cX6_mostUnlikeHour 78 = .ok (.iload_n 2, 1) := by decide +kernel
theorem dX6_mostUnlikeHour_79 : decode cX6_mostUnlikeHour 79 = .ok (.if_icmp .le 11, 3) := by decide +kernel
theorem dX6_mostUnlikeHour_82 : decode cX6_mostUnlikeHour 82 = .ok (.iload 5, 2) := by decide +kernel
theorem dX6_mostUnlikeHour_84 : decode cX6_mostUnlikeHour 84 = .ok (.istore_n 2, 1) := by decide +kernel
theorem dX6_mostUnlikeHour_85 : decode cX6_mostUnlikeHour 85 = .ok (.iload 4, 2) := by decide +kernel
theorem dX6_mostUnlikeHour_87 : decode cX6_mostUnlikeHour 87 = .ok (.iconst 1, 1) := by decide +kernel
theorem dX6_mostUnlikeHour_88 : decode cX6_mostUnlikeHour 88 = .ok (.iadd, 1) := by decide +kernel
theorem dX6_mostUnlikeHour_89 : decode cX6_mostUnlikeHour 89 = .ok (.istore_n 3, 1) := by decide +kernel
theorem dX6_mostUnlikeHour_90 : decode cX6_mostUnlikeHour 90 = .ok (.iinc 4 1, 3) := by decide +kernel
theorem dX6_mostUnlikeHour_93 : decode cX6_mostUnlikeHour 93 = .ok (.goto (-36), 3) := by decide +kernel
theorem dX6_mostUnlikeHour_96 : decode cX6_mostUnlikeHour 96 = .ok (.iload_n 1, 1) := by decide +kernel
theorem dX6_mostUnlikeHour_97 : decode cX6_mostUnlikeHour 97 = .ok (.ifCond .eq 7, 3) := by decide +kernel
theorem dX6_mostUnlikeHour_100 : decode cX6_mostUnlikeHour 100 = .ok (.iload_n 2, 1) := by decide +kernel
theorem dX6_mostUnlikeHour_101 : decode cX6_mostUnlikeHour 101 = .ok (.goto 4, 3) := by decide +kernel
theorem dX6_mostUnlikeHour_104 : decode cX6_mostUnlikeHour 104 = .ok (.iload_n 3, 1) := by decide +kernel
theorem dX6_mostUnlikeHour_105 : decode cX6_mostUnlikeHour 105 = .ok (.ireturn, 1) := by decide +kernel
theorem dX6_addHeard_0 : decode cX6_addHeard 0 = .ok (.iconst 0, 1) := by decide +kernel
theorem dX6_addHeard_1 : decode cX6_addHeard 1 = .ok (.istore_n 1, 1) := by decide +kernel
theorem dX6_addHeard_2 : decode cX6_addHeard 2 = .ok (.iload_n 1, 1) := by decide +kernel
theorem dX6_addHeard_3 : decode cX6_addHeard 3 = .ok (.bipush 48, 2) := by decide +kernel
theorem dX6_addHeard_5 : decode cX6_addHeard 5 = .ok (.if_icmp .ge 28, 3) := by decide +kernel
theorem dX6_addHeard_8 : decode cX6_addHeard 8 = .ok (.aload_n 0, 1) := by decide +kernel
theorem dX6_addHeard_9 : decode cX6_addHeard 9 = .ok (.getfield 22, 3) := by decide +kernel
theorem dX6_addHeard_12 : decode cX6_addHeard 12 = .ok (.iload_n 1, 1) := by decide +kernel
theorem dX6_addHeard_13 : decode cX6_addHeard 13 = .ok (.dup2, 1) := by decide +kernel
theorem dX6_addHeard_14 : decode cX6_addHeard 14 = .ok (.iaload, 1) := by decide +kernel
theorem dX6_addHeard_15 : decode cX6_addHeard 15 = .ok (.iconst 1, 1) := by decide +kernel
theorem dX6_addHeard_16 : decode cX6_addHeard 16 = .ok (.aload_n 0, 1) := by decide +kernel
theorem dX6_addHeard_17 : decode cX6_addHeard 17 = .ok (.getfield 18, 3) := by decide +kernel
theorem dX6_addHeard_20 : decode cX6_addHeard 20 = .ok (.iload_n 1, 1) := by decide +kernel
theorem dX6_addHeard_21 : decode cX6_addHeard 21 = .ok (.iaload, 1) := by decide +kernel
theorem dX6_addHeard_22 : decode cX6_addHeard 22 = .ok (.iconst 1, 1) := by decide +kernel
theorem dX6_addHeard_23 : decode cX6_addHeard 23 = .ok (.iadd, 1) := by decide +kernel
theorem dX6_addHeard_24 : decode cX6_addHeard 24 = .ok (.ishl, 1) := by decide +kernel
theorem dX6_addHeard_25 : decode cX6_addHeard 25 = .ok (.ior, 1) := by decide +kernel
theorem dX6_addHeard_26 : decode cX6_addHeard 26 = .ok (.iastore, 1) := by decide +kernel
theorem dX6_addHeard_27 : decode cX6_addHeard 27 = .ok (.iinc 1 1, 3) := by decide +kernel
theorem dX6_addHeard_30 : decode cX6_addHeard 30 = .ok (.goto (-28), 3) := by decide +kernel
theorem dX6_addHeard_33 : decode cX6_addHeard 33 = .ok (.return_, 1) := by decide +kernel
theorem dX6_latestSeen_0 : decode cX6_latestSeen 0 = .ok (.iconst 0, 1) := by decide +kernel
theorem dX6_latestSeen_1 : decode cX6_latestSeen 1 = .ok (.istore_n 1, 1) := by decide +kernel
theorem dX6_latestSeen_2 : decode cX6_latestSeen 2 = .ok (.iconst 0, 1) := by decide +kernel
theorem dX6_latestSeen_3 : decode cX6_latestSeen 3 = .ok (.istore_n 2, 1) := by decide +kernel
theorem dX6_latestSeen_4 : decode cX6_latestSeen 4 = .ok (.iload_n 2, 1) := by decide +kernel
theorem dX6_latestSeen_5 : decode cX6_latestSeen 5 = .ok (.aload_n 0, 1) := by decide +kernel
theorem dX6_latestSeen_6 : decode cX6_latestSeen 6 = .ok (.getfield 29, 3) := by decide +kernel
theorem dX6_latestSeen_9 : decode cX6_latestSeen 9 = .ok (.getfield 65, 3) := by decide +kernel
theorem dX6_latestSeen_12 : decode cX6_latestSeen 12 = .ok (.if_icmp .ge 23, 3) := by decide +kernel
theorem dX6_latestSeen_15 : decode cX6_latestSeen 15 = .ok (.iload_n 1, 1) := by decide +kernel
theorem dX6_latestSeen_16 : decode cX6_latestSeen 16 = .ok (.aload_n 0, 1) := by decide +kernel
theorem dX6_latestSeen_17 : decode cX6_latestSeen 17 = .ok (.getfield 29, 3) := by decide +kernel
theorem dX6_latestSeen_20 : decode cX6_latestSeen 20 = .ok (.getfield 68, 3) := by decide +kernel
theorem dX6_latestSeen_23 : decode cX6_latestSeen 23 = .ok (.iload_n 2, 1) := by decide +kernel
theorem dX6_latestSeen_24 : decode cX6_latestSeen 24 = .ok (.iaload, 1) := by decide +kernel
theorem dX6_latestSeen_25 : decode cX6_latestSeen 25 = .ok (.invokestatic 71, 3) := by decide +kernel
theorem dX6_latestSeen_28 : decode cX6_latestSeen 28 = .ok (.istore_n 1, 1) := by decide +kernel
theorem dX6_latestSeen_29 : decode cX6_latestSeen 29 = .ok (.iinc 2 1, 3) := by decide +kernel
theorem dX6_latestSeen_32 : decode cX6_latestSeen 32 = .ok (.goto (-28), 3) := by decide +kernel
theorem dX6_latestSeen_35 : decode cX6_latestSeen 35 = .ok (.iload_n 1, 1) := by decide +kernel
theorem dX6_latestSeen_36 : decode cX6_latestSeen 36 = .ok (.ireturn, 1) := by decide +kernel
theorem dX6_fitsAll_0 : decode cX6_fitsAll 0 = .ok (.aload_n 0, 1) := by decide +kernel
theorem dX6_fitsAll_1 : decode cX6_fitsAll 1 = .ok (.getfield 12, 3) := by decide +kernel
theorem dX6_fitsAll_4 : decode cX6_fitsAll 4 = .ok (.aload_n 0, 1) := by decide +kernel
theorem dX6_fitsAll_5 : decode cX6_fitsAll 5 = .ok (.getfield 29, 3) := by decide +kernel
theorem dX6_fitsAll_8 : decode cX6_fitsAll 8 = .ok (.getfield 33, 3) := by decide +kernel
theorem dX6_fitsAll_11 : decode cX6_fitsAll 11 = .ok (.invokevirtual 77, 3) := by decide +kernel
theorem dX6_fitsAll_14 : decode cX6_fitsAll 14 = .ok (.aload_n 0, 1) := by decide +kernel
theorem dX6_fitsAll_15 : decode cX6_fitsAll 15 = .ok (.getfield 12, 3) := by decide +kernel
theorem dX6_fitsAll_18 : decode cX6_fitsAll 18 = .ok (.iload_n 1, 1) := by decide +kernel
theorem dX6_fitsAll_19 : decode cX6_fitsAll 19 = .ok (.putfield 38, 3) := by decide +kernel
theorem dX6_fitsAll_22 : decode cX6_fitsAll 22 = .ok (.iconst 0, 1) := by decide +kernel
theorem dX6_fitsAll_23 : decode cX6_fitsAll 23 = .ok (.istore_n 3, 1) := by decide +kernel
theorem dX6_fitsAll_24 : decode cX6_fitsAll 24 = .ok (.iload_n 3, 1) := by decide +kernel
theorem dX6_fitsAll_25 : decode cX6_fitsAll 25 = .ok (.iload_n 2, 1) := by decide +kernel
theorem dX6_fitsAll_26 : decode cX6_fitsAll 26 = .ok (.if_icmp .ge 32, 3) := by decide +kernel
theorem dX6_fitsAll_29 : decode cX6_fitsAll 29 = .ok (.iload_n 3, 1) := by decide +kernel
theorem dX6_fitsAll_30 : decode cX6_fitsAll 30 = .ok (.bipush 48, 2) := by decide +kernel
theorem dX6_fitsAll_32 : decode cX6_fitsAll 32 = .ok (.if_icmp .ge 26, 3) := by decide +kernel
theorem dX6_fitsAll_35 : decode cX6_fitsAll 35 = .ok (.aload_n 0, 1) := by decide +kernel
theorem dX6_fitsAll_36 : decode cX6_fitsAll 36 = .ok (.getfield 18, 3) := by decide +kernel
theorem dX6_fitsAll_39 : decode cX6_fitsAll 39 = .ok (.iload_n 3, 1) := by decide +kernel
theorem dX6_fitsAll_40 : decode cX6_fitsAll 40 = .ok (.aload_n 0, 1) := by decide +kernel
theorem dX6_fitsAll_41 : decode cX6_fitsAll 41 = .ok (.getfield 25, 3) := by decide +kernel
theorem dX6_fitsAll_44 : decode cX6_fitsAll 44 = .ok (.aload_n 0, 1) := by decide +kernel
theorem dX6_fitsAll_45 : decode cX6_fitsAll 45 = .ok (.getfield 12, 3) := by decide +kernel
theorem dX6_fitsAll_48 : decode cX6_fitsAll 48 = .ok (.invokevirtual 81, 3) := by decide +kernel
theorem dX6_fitsAll_51 : decode cX6_fitsAll 51 = .ok (.iastore, 1) := by decide +kernel
theorem dX6_fitsAll_52 : decode cX6_fitsAll 52 = .ok (.iinc 3 1, 3) := by decide +kernel
theorem dX6_fitsAll_55 : decode cX6_fitsAll 55 = .ok (.goto (-31), 3) := by decide +kernel
theorem dX6_fitsAll_58 : decode cX6_fitsAll 58 = .ok (.iconst 0, 1) := by decide +kernel
theorem dX6_fitsAll_59 : decode cX6_fitsAll 59 = .ok (.istore_n 3, 1) := by decide +kernel
theorem dX6_fitsAll_60 : decode cX6_fitsAll 60 = .ok (.iload_n 3, 1) := by decide +kernel
theorem dX6_fitsAll_61 : decode cX6_fitsAll 61 = .ok (.aload_n 0, 1) := by decide +kernel
theorem dX6_fitsAll_62 : decode cX6_fitsAll 62 = .ok (.getfield 29, 3) := by decide +kernel
theorem dX6_fitsAll_65 : decode cX6_fitsAll 65 = .ok (.getfield 65, 3) := by decide +kernel
theorem dX6_fitsAll_68 : decode cX6_fitsAll 68 = .ok (.if_icmp .ge 55, 3) := by decide +kernel
theorem dX6_fitsAll_71 : decode cX6_fitsAll 71 = .ok (.aload_n 0, 1) := by decide +kernel
theorem dX6_fitsAll_72 : decode cX6_fitsAll 72 = .ok (.getfield 29, 3) := by decide +kernel
theorem dX6_fitsAll_75 : decode cX6_fitsAll 75 = .ok (.getfield 68, 3) := by decide +kernel
theorem dX6_fitsAll_78 : decode cX6_fitsAll 78 = .ok (.iload_n 3, 1) := by decide +kernel
theorem dX6_fitsAll_79 : decode cX6_fitsAll 79 = .ok (.iaload, 1) := by decide +kernel
theorem dX6_fitsAll_80 : decode cX6_fitsAll 80 = .ok (.iconst 1, 1) := by decide +kernel
theorem dX6_fitsAll_81 : decode cX6_fitsAll 81 = .ok (.isub, 1) := by decide +kernel
theorem dX6_fitsAll_82 : decode cX6_fitsAll 82 = .ok (.istore 4, 2) := by decide +kernel
theorem dX6_fitsAll_84 : decode cX6_fitsAll 84 = .ok (.iload 4, 2) := by decide +kernel
theorem dX6_fitsAll_86 : decode cX6_fitsAll 86 = .ok (.ifCond .lt 31, 3) := by decide +kernel
theorem dX6_fitsAll_89 : decode cX6_fitsAll 89 = .ok (.iload 4, 2) := by decide +kernel
theorem dX6_fitsAll_91 : decode cX6_fitsAll 91 = .ok (.bipush 48, 2) := by decide +kernel
theorem dX6_fitsAll_93 : decode cX6_fitsAll 93 = .ok (.if_icmp .ge 24, 3) := by decide +kernel
theorem dX6_fitsAll_96 : decode cX6_fitsAll 96 = .ok (.aload_n 0, 1) := by decide +kernel
theorem dX6_fitsAll_97 : decode cX6_fitsAll 97 = .ok (.getfield 18, 3) := by decide +kernel
theorem dX6_fitsAll_100 : decode cX6_fitsAll 100 = .ok (.iload 4, 2) := by decide +kernel
theorem dX6_fitsAll_102 : decode cX6_fitsAll 102 = .ok (.iaload, 1) := by decide +kernel
theorem dX6_fitsAll_103 : decode cX6_fitsAll 103 = .ok (.aload_n 0, 1) := by decide +kernel
theorem dX6_fitsAll_104 : decode cX6_fitsAll 104 = .ok (.getfield 29, 3) := by decide +kernel
theorem dX6_fitsAll_107 : decode cX6_fitsAll 107 = .ok (.getfield 87, 3) := by decide +kernel
theorem dX6_fitsAll_110 : decode cX6_fitsAll 110 = .ok (.iload_n 3, 1) := by decide +kernel
theorem dX6_fitsAll_111 : decode cX6_fitsAll 111 = .ok (.iaload, 1) := by decide +kernel
theorem dX6_fitsAll_112 : decode cX6_fitsAll 112 = .ok (.if_icmp .eq 5, 3) := by decide +kernel
theorem dX6_fitsAll_115 : decode cX6_fitsAll 115 = .ok (.iconst 0, 1) := by decide +kernel
theorem dX6_fitsAll_116 : decode cX6_fitsAll 116 = .ok (.ireturn, 1) := by decide +kernel
theorem dX6_fitsAll_117 : decode cX6_fitsAll 117 = .ok (.iinc 3 1, 3) := by decide +kernel
theorem dX6_fitsAll_120 : decode cX6_fitsAll 120 = .ok (.goto (-60), 3) := by decide +kernel
theorem dX6_fitsAll_123 : decode cX6_fitsAll 123 = .ok (.iconst 1, 1) := by decide +kernel
theorem dX6_fitsAll_124 : decode cX6_fitsAll 124 = .ok (.ireturn, 1) := by decide +kernel
theorem dX7_init_0 : decode cX7_init 0 = .ok (.aload_n 0, 1) := by decide +kernel
theorem dX7_init_1 : decode cX7_init 1 = .ok (.invokespecial 3, 3) := by decide +kernel
theorem dX7_init_4 : decode cX7_init 4 = .ok (.aload_n 0, 1) := by decide +kernel
theorem dX7_init_5 : decode cX7_init 5 = .ok (.bipush 7, 2) := by decide +kernel
theorem dX7_init_7 : decode cX7_init 7 = .ok (.newarray .int, 2) := by decide +kernel
theorem dX7_init_9 : decode cX7_init 9 = .ok (.putfield 9, 3) := by decide +kernel
theorem dX7_init_12 : decode cX7_init 12 = .ok (.aload_n 0, 1) := by decide +kernel
theorem dX7_init_13 : decode cX7_init 13 = .ok (.bipush 10, 2) := by decide +kernel
theorem dX7_init_15 : decode cX7_init 15 = .ok (.newarray .int, 2) := by decide +kernel
theorem dX7_init_17 : decode cX7_init 17 = .ok (.putfield 15, 3) := by decide +kernel
theorem dX7_init_20 : decode cX7_init 20 = .ok (.return_, 1) := by decide +kernel
theorem dX7_begin_0 : decode cX7_begin 0 = .ok (.aload_n 0, 1) := by decide +kernel
theorem dX7_begin_1 : decode cX7_begin 1 = .ok (.iconst 0, 1) := by decide +kernel
theorem dX7_begin_2 : decode cX7_begin 2 = .ok (.putfield 18, 3) := by decide +kernel
theorem dX7_begin_5 : decode cX7_begin 5 = .ok (.aload_n 0, 1) := by decide +kernel
theorem dX7_begin_6 : decode cX7_begin 6 = .ok (.aload_n 1, 1) := by decide +kernel
theorem dX7_begin_7 : decode cX7_begin 7 = .ok (.getfield 22, 3) := by decide +kernel
theorem dX7_begin_10 : decode cX7_begin 10 = .ok (.putfield 27, 3) := by decide +kernel
theorem dX7_begin_13 : decode cX7_begin 13 = .ok (.aload_n 0, 1) := by decide +kernel
theorem dX7_begin_14 : decode cX7_begin 14 = .ok (.aload_n 1, 1) := by decide +kernel
theorem dX7_begin_15 : decode cX7_begin 15 = .ok (.getfield 28, 3) := by decide +kernel
theorem dX7_begin_18 : decode cX7_begin 18 = .ok (.putfield 31, 3) := by decide +kernel
theorem dX7_begin_21 : decode cX7_begin 21 = .ok (.aload_n 0, 1) := by decide +kernel
theorem dX7_begin_22 : decode cX7_begin 22 = .ok (.iconst 0, 1) := by decide +kernel
theorem dX7_begin_23 : decode cX7_begin 23 = .ok (.putfield 32, 3) := by decide +kernel
theorem dX7_begin_26 : decode cX7_begin 26 = .ok (.aload_n 0, 1) := by decide +kernel
theorem dX7_begin_27 : decode cX7_begin 27 = .ok (.aload_n 1, 1) := by decide +kernel
theorem dX7_begin_28 : decode cX7_begin 28 = .ok (.getfield 35, 3) := by decide +kernel
theorem dX7_begin_31 : decode cX7_begin 31 = .ok (.putfield 38, 3) := by decide +kernel
theorem dX7_begin_34 : decode cX7_begin 34 = .ok (.aload_n 0, 1) := by decide +kernel
theorem dX7_begin_35 : decode cX7_begin 35 = .ok (.iconst 0, 1) := by decide +kernel
theorem dX7_begin_36 : decode cX7_begin 36 = .ok (.putfield 39, 3) := by decide +kernel
theorem dX7_begin_39 : decode cX7_begin 39 = .ok (.aload_n 0, 1) := by decide +kernel
theorem dX7_begin_40 : decode cX7_begin 40 = .ok (.iconst 0, 1) := by decide +kernel
theorem dX7_begin_41 : decode cX7_begin 41 = .ok (.putfield 42, 3) := by decide +kernel
theorem dX7_begin_44 : decode cX7_begin 44 = .ok (.aload_n 1, 1) := by decide +kernel
theorem dX7_begin_45 : decode cX7_begin 45 = .ok (.getfield 45, 3) := by decide +kernel
theorem dX7_begin_48 : decode cX7_begin 48 = .ok (.iconst 0, 1) := by decide +kernel
theorem dX7_begin_49 : decode cX7_begin 49 = .ok (.aload_n 0, 1) := by decide +kernel
theorem dX7_begin_50 : decode cX7_begin 50 = .ok (.getfield 9, 3) := by decide +kernel
theorem dX7_begin_53 : decode cX7_begin 53 = .ok (.iconst 0, 1) := by decide +kernel
theorem dX7_begin_54 : decode cX7_begin 54 = .ok (.bipush 7, 2) := by decide +kernel
theorem dX7_begin_56 : decode cX7_begin 56 = .ok (.invokestatic 46, 3) := by decide +kernel
theorem dX7_begin_59 : decode cX7_begin 59 = .ok (.aload_n 1, 1) := by decide +kernel
theorem dX7_begin_60 : decode cX7_begin 60 = .ok (.getfield 52, 3) := by decide +kernel
theorem dX7_begin_63 : decode cX7_begin 63 = .ok (.iconst 0, 1) := by decide +kernel
theorem dX7_begin_64 : decode cX7_begin 64 = .ok (.aload_n 0, 1) := by decide +kernel
theorem dX7_begin_65 : decode cX7_begin 65 = .ok (.getfield 15, 3) := by decide +kernel
theorem dX7_begin_68 : decode cX7_begin 68 = .ok (.iconst 0, 1) := by decide +kernel
theorem dX7_begin_69 : decode cX7_begin 69 = .ok (.bipush 10, 2) := by decide +kernel
theorem dX7_begin_71 : decode cX7_begin 71 = .ok (.invokestatic 46, 3) := by decide +kernel
theorem dX7_begin_74 : decode cX7_begin 74 = .ok (.return_, 1) := by decide +kernel
theorem dX7_copyFrom_0 : decode cX7_copyFrom 0 = .ok (.aload_n 0, 1) := by decide +kernel
theorem dX7_copyFrom_1 : decode cX7_copyFrom 1 = .ok (.aload_n 1, 1) := by decide +kernel
theorem dX7_copyFrom_2 : decode cX7_copyFrom 2 = .ok (.getfield 18, 3) := by decide +kernel
theorem dX7_copyFrom_5 : decode cX7_copyFrom 5 = .ok (.putfield 18, 3) := by decide +kernel
theorem dX7_copyFrom_8 : decode cX7_copyFrom 8 = .ok (.aload_n 0, 1) := by decide +kernel
theorem dX7_copyFrom_9 : decode cX7_copyFrom 9 = .ok (.aload_n 1, 1) := by decide +kernel
theorem dX7_copyFrom_10 : decode cX7_copyFrom 10 = .ok (.getfield 27, 3) := by decide +kernel
theorem dX7_copyFrom_13 : decode cX7_copyFrom 13 = .ok (.putfield 27, 3) := by decide +kernel
theorem dX7_copyFrom_16 : decode cX7_copyFrom 16 = .ok (.aload_n 0, 1) := by decide +kernel
theorem dX7_copyFrom_17 : decode cX7_copyFrom 17 = .ok (.aload_n 1, 1) := by decide +kernel
theorem dX7_copyFrom_18 : decode cX7_copyFrom 18 = .ok (.getfield 31, 3) := by decide +kernel
theorem dX7_copyFrom_21 : decode cX7_copyFrom 21 = .ok (.putfield 31, 3) := by decide +kernel
theorem dX7_copyFrom_24 : decode cX7_copyFrom 24 = .ok (.aload_n 0, 1) := by decide +kernel
theorem dX7_copyFrom_25 : decode cX7_copyFrom 25 = .ok (.aload_n 1, 1) := by decide +kernel
theorem dX7_copyFrom_26 : decode cX7_copyFrom 26 = .ok (.getfield 32, 3) := by decide +kernel
theorem dX7_copyFrom_29 : decode cX7_copyFrom 29 = .ok (.putfield 32, 3) := by decide +kernel
theorem dX7_copyFrom_32 : decode cX7_copyFrom 32 = .ok (.aload_n 0, 1) := by decide +kernel
theorem dX7_copyFrom_33 : decode cX7_copyFrom 33 = .ok (.aload_n 1, 1) := by decide +kernel
theorem dX7_copyFrom_34 : decode cX7_copyFrom 34 = .ok (.getfield 38, 3) := by decide +kernel
theorem dX7_copyFrom_37 : decode cX7_copyFrom 37 = .ok (.putfield 38, 3) := by decide +kernel
theorem dX7_copyFrom_40 : decode cX7_copyFrom 40 = .ok (.aload_n 0, 1) := by decide +kernel
theorem dX7_copyFrom_41 : decode cX7_copyFrom 41 = .ok (.aload_n 1, 1) := by decide +kernel
theorem dX7_copyFrom_42 : decode cX7_copyFrom 42 = .ok (.getfield 39, 3) := by decide +kernel
theorem dX7_copyFrom_45 : decode cX7_copyFrom 45 = .ok (.putfield 39, 3) := by decide +kernel
theorem dX7_copyFrom_48 : decode cX7_copyFrom 48 = .ok (.aload_n 0, 1) := by decide +kernel
theorem dX7_copyFrom_49 : decode cX7_copyFrom 49 = .ok (.aload_n 1, 1) := by decide +kernel
theorem dX7_copyFrom_50 : decode cX7_copyFrom 50 = .ok (.getfield 42, 3) := by decide +kernel
theorem dX7_copyFrom_53 : decode cX7_copyFrom 53 = .ok (.putfield 42, 3) := by decide +kernel
theorem dX7_copyFrom_56 : decode cX7_copyFrom 56 = .ok (.aload_n 1, 1) := by decide +kernel
theorem dX7_copyFrom_57 : decode cX7_copyFrom 57 = .ok (.getfield 9, 3) := by decide +kernel
theorem dX7_copyFrom_60 : decode cX7_copyFrom 60 = .ok (.iconst 0, 1) := by decide +kernel
theorem dX7_copyFrom_61 : decode cX7_copyFrom 61 = .ok (.aload_n 0, 1) := by decide +kernel
theorem dX7_copyFrom_62 : decode cX7_copyFrom 62 = .ok (.getfield 9, 3) := by decide +kernel
theorem dX7_copyFrom_65 : decode cX7_copyFrom 65 = .ok (.iconst 0, 1) := by decide +kernel
theorem dX7_copyFrom_66 : decode cX7_copyFrom 66 = .ok (.bipush 7, 2) := by decide +kernel
theorem dX7_copyFrom_68 : decode cX7_copyFrom 68 = .ok (.invokestatic 46, 3) := by decide +kernel
theorem dX7_copyFrom_71 : decode cX7_copyFrom 71 = .ok (.aload_n 1, 1) := by decide +kernel
theorem dX7_copyFrom_72 : decode cX7_copyFrom 72 = .ok (.getfield 15, 3) := by decide +kernel
theorem dX7_copyFrom_75 : decode cX7_copyFrom 75 = .ok (.iconst 0, 1) := by decide +kernel
theorem dX7_copyFrom_76 : decode cX7_copyFrom 76 = .ok (.aload_n 0, 1) := by decide +kernel
theorem dX7_copyFrom_77 : decode cX7_copyFrom 77 = .ok (.getfield 15, 3) := by decide +kernel
theorem dX7_copyFrom_80 : decode cX7_copyFrom 80 = .ok (.iconst 0, 1) := by decide +kernel
theorem dX7_copyFrom_81 : decode cX7_copyFrom 81 = .ok (.bipush 10, 2) := by decide +kernel
theorem dX7_copyFrom_83 : decode cX7_copyFrom 83 = .ok (.invokestatic 46, 3) := by decide +kernel
theorem dX7_copyFrom_86 : decode cX7_copyFrom 86 = .ok (.return_, 1) := by decide +kernel
theorem dX7_writeTo_0 : decode cX7_writeTo 0 = .ok (.iload_n 2, 1) := by decide +kernel
theorem dX7_writeTo_1 : decode cX7_writeTo 1 = .ok (.ifCond .lt 12, 3) := by decide +kernel
theorem dX7_writeTo_4 : decode cX7_writeTo 4 = .ok (.iload_n 2, 1) := by decide +kernel
theorem dX7_writeTo_5 : decode cX7_writeTo 5 = .ok (.aload_n 1, 1) := by decide +kernel
theorem dX7_writeTo_6 : decode cX7_writeTo 6 = .ok (.arraylength, 1) := by decide +kernel
theorem dX7_writeTo_7 : decode cX7_writeTo 7 = .ok (.bipush 24, 2) := by decide +kernel
theorem dX7_writeTo_9 : decode cX7_writeTo 9 = .ok (.isub, 1) := by decide +kernel
theorem dX7_writeTo_10 : decode cX7_writeTo 10 = .ok (.if_icmp .le 4, 3) := by decide +kernel
theorem dX7_writeTo_13 : decode cX7_writeTo 13 = .ok (.return_, 1) := by decide +kernel
theorem dX7_writeTo_14 : decode cX7_writeTo 14 = .ok (.aload_n 1, 1) := by decide +kernel
theorem dX7_writeTo_15 : decode cX7_writeTo 15 = .ok (.iload_n 2, 1) := by decide +kernel
theorem dX7_writeTo_16 : decode cX7_writeTo 16 = .ok (.aload_n 0, 1) := by decide +kernel
theorem dX7_writeTo_17 : decode cX7_writeTo 17 = .ok (.getfield 18, 3) := by decide +kernel
theorem dX7_writeTo_20 : decode cX7_writeTo 20 = .ok (.iastore, 1) := by decide +kernel
theorem dX7_writeTo_21 : decode cX7_writeTo 21 = .ok (.aload_n 1, 1) := by decide +kernel
theorem dX7_writeTo_22 : decode cX7_writeTo 22 = .ok (.iload_n 2, 1) := by decide +kernel
theorem dX7_writeTo_23 : decode cX7_writeTo 23 = .ok (.iconst 1, 1) := by decide +kernel
theorem dX7_writeTo_24 : decode cX7_writeTo 24 = .ok (.iadd, 1) := by decide +kernel
theorem dX7_writeTo_25 : decode cX7_writeTo 25 = .ok (.aload_n 0, 1) := by decide +kernel
theorem dX7_writeTo_26 : decode cX7_writeTo 26 = .ok (.getfield 27, 3) := by decide +kernel
theorem dX7_writeTo_29 : decode cX7_writeTo 29 = .ok (.iastore, 1) := by decide +kernel
theorem dX7_writeTo_30 : decode cX7_writeTo 30 = .ok (.aload_n 1, 1) := by decide +kernel
theorem dX7_writeTo_31 : decode cX7_writeTo 31 = .ok (.iload_n 2, 1) := by decide +kernel
theorem dX7_writeTo_32 : decode cX7_writeTo 32 = .ok (.iconst 2, 1) := by decide +kernel
theorem dX7_writeTo_33 : decode cX7_writeTo 33 = .ok (.iadd, 1) := by decide +kernel
theorem dX7_writeTo_34 : decode cX7_writeTo 34 = .ok (.aload_n 0, 1) := by decide +kernel
theorem dX7_writeTo_35 : decode cX7_writeTo 35 = .ok (.getfield 31, 3) := by decide +kernel
theorem dX7_writeTo_38 : decode cX7_writeTo 38 = .ok (.iastore, 1) := by decide +kernel
theorem dX7_writeTo_39 : decode cX7_writeTo 39 = .ok (.aload_n 1, 1) := by decide +kernel
theorem dX7_writeTo_40 : decode cX7_writeTo 40 = .ok (.iload_n 2, 1) := by decide +kernel
theorem dX7_writeTo_41 : decode cX7_writeTo 41 = .ok (.iconst 3, 1) := by decide +kernel
theorem dX7_writeTo_42 : decode cX7_writeTo 42 = .ok (.iadd, 1) := by decide +kernel
theorem dX7_writeTo_43 : decode cX7_writeTo 43 = .ok (.aload_n 0, 1) := by decide +kernel
theorem dX7_writeTo_44 : decode cX7_writeTo 44 = .ok (.getfield 32, 3) := by decide +kernel
theorem dX7_writeTo_47 : decode cX7_writeTo 47 = .ok (.iastore, 1) := by decide +kernel
theorem dX7_writeTo_48 : decode cX7_writeTo 48 = .ok (.aload_n 1, 1) := by decide +kernel
theorem dX7_writeTo_49 : decode cX7_writeTo 49 = .ok (.iload_n 2, 1) := by decide +kernel
theorem dX7_writeTo_50 : decode cX7_writeTo 50 = .ok (.iconst 4, 1) := by decide +kernel
theorem dX7_writeTo_51 : decode cX7_writeTo 51 = .ok (.iadd, 1) := by decide +kernel
theorem dX7_writeTo_52 : decode cX7_writeTo 52 = .ok (.aload_n 0, 1) := by decide +kernel
theorem dX7_writeTo_53 : decode cX7_writeTo 53 = .ok (.getfield 38, 3) := by decide +kernel
theorem dX7_writeTo_56 : decode cX7_writeTo 56 = .ok (.iastore, 1) := by decide +kernel
theorem dX7_writeTo_57 : decode cX7_writeTo 57 = .ok (.aload_n 1, 1) := by decide +kernel
theorem dX7_writeTo_58 : decode cX7_writeTo 58 = .ok (.iload_n 2, 1) := by decide +kernel
theorem dX7_writeTo_59 : decode cX7_writeTo 59 = .ok (.iconst 5, 1) := by decide +kernel
theorem dX7_writeTo_60 : decode cX7_writeTo 60 = .ok (.iadd, 1) := by decide +kernel
theorem dX7_writeTo_61 : decode cX7_writeTo 61 = .ok (.aload_n 0, 1) := by decide +kernel
theorem dX7_writeTo_62 : decode cX7_writeTo 62 = .ok (.getfield 39, 3) := by decide +kernel
theorem dX7_writeTo_65 : decode cX7_writeTo 65 = .ok (.iastore, 1) := by decide +kernel
theorem dX7_writeTo_66 : decode cX7_writeTo 66 = .ok (.aload_n 1, 1) := by decide +kernel
theorem dX7_writeTo_67 : decode cX7_writeTo 67 = .ok (.iload_n 2, 1) := by decide +kernel
theorem dX7_writeTo_68 : decode cX7_writeTo 68 = .ok (.bipush 6, 2) := by decide +kernel
theorem dX7_writeTo_70 : decode cX7_writeTo 70 = .ok (.iadd, 1) := by decide +kernel
theorem dX7_writeTo_71 : decode cX7_writeTo 71 = .ok (.aload_n 0, 1) := by decide +kernel
theorem dX7_writeTo_72 : decode cX7_writeTo 72 = .ok (.getfield 42, 3) := by decide +kernel
theorem dX7_writeTo_75 : decode cX7_writeTo 75 = .ok (.iastore, 1) := by decide +kernel
theorem dX7_writeTo_76 : decode cX7_writeTo 76 = .ok (.aload_n 0, 1) := by decide +kernel
theorem dX7_writeTo_77 : decode cX7_writeTo 77 = .ok (.getfield 9, 3) := by decide +kernel
theorem dX7_writeTo_80 : decode cX7_writeTo 80 = .ok (.iconst 0, 1) := by decide +kernel
theorem dX7_writeTo_81 : decode cX7_writeTo 81 = .ok (.aload_n 1, 1) := by decide +kernel
theorem dX7_writeTo_82 : decode cX7_writeTo 82 = .ok (.iload_n 2, 1) := by decide +kernel
theorem dX7_writeTo_83 : decode cX7_writeTo 83 = .ok (.bipush 7, 2) := by decide +kernel
theorem dX7_writeTo_85 : decode cX7_writeTo 85 = .ok (.iadd, 1) := by decide +kernel
theorem dX7_writeTo_86 : decode cX7_writeTo 86 = .ok (.bipush 7, 2) := by decide +kernel
theorem dX7_writeTo_88 : decode cX7_writeTo 88 = .ok (.invokestatic 46, 3) := by decide +kernel
theorem dX7_writeTo_91 : decode cX7_writeTo 91 = .ok (.aload_n 0, 1) := by decide +kernel
theorem dX7_writeTo_92 : decode cX7_writeTo 92 = .ok (.getfield 15, 3) := by decide +kernel
theorem dX7_writeTo_95 : decode cX7_writeTo 95 = .ok (.iconst 0, 1) := by decide +kernel
theorem dX7_writeTo_96 : decode cX7_writeTo 96 = .ok (.aload_n 1, 1) := by decide +kernel
theorem dX7_writeTo_97 : decode cX7_writeTo 97 = .ok (.iload_n 2, 1) := by decide +kernel
theorem dX7_writeTo_98 : decode cX7_writeTo 98 = .ok (.bipush 7, 2) := by decide +kernel
theorem dX7_writeTo_100 : decode cX7_writeTo 100 = .ok (.iadd, 1) := by decide +kernel
theorem dX7_writeTo_101 : decode cX7_writeTo 101 = .ok (.bipush 7, 2) := by decide +kernel
theorem dX7_writeTo_103 : decode cX7_writeTo 103 = .ok (.iadd, 1) := by decide +kernel
theorem dX7_writeTo_104 : decode cX7_writeTo 104 = .ok (.bipush 10, 2) := by decide +kernel
theorem dX7_writeTo_106 : decode cX7_writeTo 106 = .ok (.invokestatic 46, 3) := by decide +kernel
theorem dX7_writeTo_109 : decode cX7_writeTo 109 = .ok (.return_, 1) := by decide +kernel
theorem dX7_readFrom_0 : decode cX7_readFrom 0 = .ok (.iload_n 2, 1) := by decide +kernel
theorem dX7_readFrom_1 : decode cX7_readFrom 1 = .ok (.ifCond .lt 12, 3) := by decide +kernel
theorem dX7_readFrom_4 : decode cX7_readFrom 4 = .ok (.iload_n 2, 1) := by decide +kernel
theorem dX7_readFrom_5 : decode cX7_readFrom 5 = .ok (.aload_n 1, 1) := by decide +kernel
theorem dX7_readFrom_6 : decode cX7_readFrom 6 = .ok (.arraylength, 1) := by decide +kernel
theorem dX7_readFrom_7 : decode cX7_readFrom 7 = .ok (.bipush 24, 2) := by decide +kernel
theorem dX7_readFrom_9 : decode cX7_readFrom 9 = .ok (.isub, 1) := by decide +kernel
theorem dX7_readFrom_10 : decode cX7_readFrom 10 = .ok (.if_icmp .le 4, 3) := by decide +kernel
theorem dX7_readFrom_13 : decode cX7_readFrom 13 = .ok (.return_, 1) := by decide +kernel
theorem dX7_readFrom_14 : decode cX7_readFrom 14 = .ok (.aload_n 0, 1) := by decide +kernel
theorem dX7_readFrom_15 : decode cX7_readFrom 15 = .ok (.aload_n 1, 1) := by decide +kernel
theorem dX7_readFrom_16 : decode cX7_readFrom 16 = .ok (.iload_n 2, 1) := by decide +kernel
theorem dX7_readFrom_17 : decode cX7_readFrom 17 = .ok (.iaload, 1) := by decide +kernel
theorem dX7_readFrom_18 : decode cX7_readFrom 18 = .ok (.putfield 18, 3) := by decide +kernel
theorem dX7_readFrom_21 : decode cX7_readFrom 21 = .ok (.aload_n 0, 1) := by decide +kernel
theorem dX7_readFrom_22 : decode cX7_readFrom 22 = .ok (.aload_n 1, 1) := by decide +kernel
theorem dX7_readFrom_23 : decode cX7_readFrom 23 = .ok (.iload_n 2, 1) := by decide +kernel
theorem dX7_readFrom_24 : decode cX7_readFrom 24 = .ok (.iconst 1, 1) := by decide +kernel
theorem dX7_readFrom_25 : decode cX7_readFrom 25 = .ok (.iadd, 1) := by decide +kernel
theorem dX7_readFrom_26 : decode cX7_readFrom 26 = .ok (.iaload, 1) := by decide +kernel
theorem dX7_readFrom_27 : decode cX7_readFrom 27 = .ok (.putfield 27, 3) := by decide +kernel
theorem dX7_readFrom_30 : decode cX7_readFrom 30 = .ok (.aload_n 0, 1) := by decide +kernel
theorem dX7_readFrom_31 : decode cX7_readFrom 31 = .ok (.aload_n 1, 1) := by decide +kernel
theorem dX7_readFrom_32 : decode cX7_readFrom 32 = .ok (.iload_n 2, 1) := by decide +kernel
theorem dX7_readFrom_33 : decode cX7_readFrom 33 = .ok (.iconst 2, 1) := by decide +kernel
theorem dX7_readFrom_34 : decode cX7_readFrom 34 = .ok (.iadd, 1) := by decide +kernel
theorem dX7_readFrom_35 : decode cX7_readFrom 35 = .ok (.iaload, 1) := by decide +kernel
theorem dX7_readFrom_36 : decode cX7_readFrom 36 = .ok (.putfield 31, 3) := by decide +kernel
theorem dX7_readFrom_39 : decode cX7_readFrom 39 = .ok (.aload_n 0, 1) := by decide +kernel
theorem dX7_readFrom_40 : decode cX7_readFrom 40 = .ok (.aload_n 1, 1) := by decide +kernel
theorem dX7_readFrom_41 : decode cX7_readFrom 41 = .ok (.iload_n 2, 1) := by decide +kernel
theorem dX7_readFrom_42 : decode cX7_readFrom 42 = .ok (.iconst 3, 1) := by decide +kernel
theorem dX7_readFrom_43 : decode cX7_readFrom 43 = .ok (.iadd, 1) := by decide +kernel
theorem dX7_readFrom_44 : decode cX7_readFrom 44 = .ok (.iaload, 1) := by decide +kernel
theorem dX7_readFrom_45 : decode cX7_readFrom 45 = .ok (.putfield 32, 3) := by decide +kernel
theorem dX7_readFrom_48 : decode cX7_readFrom 48 = .ok (.aload_n 0, 1) := by decide +kernel
theorem dX7_readFrom_49 : decode cX7_readFrom 49 = .ok (.aload_n 1, 1) := by decide +kernel
theorem dX7_readFrom_50 : decode cX7_readFrom 50 = .ok (.iload_n 2, 1) := by decide +kernel
theorem dX7_readFrom_51 : decode cX7_readFrom 51 = .ok (.iconst 4, 1) := by decide +kernel
theorem dX7_readFrom_52 : decode cX7_readFrom 52 = .ok (.iadd, 1) := by decide +kernel
theorem dX7_readFrom_53 : decode cX7_readFrom 53 = .ok (.iaload, 1) := by decide +kernel
theorem dX7_readFrom_54 : decode cX7_readFrom 54 = .ok (.putfield 38, 3) := by decide +kernel
theorem dX7_readFrom_57 : decode cX7_readFrom 57 = .ok (.aload_n 0, 1) := by decide +kernel
theorem dX7_readFrom_58 : decode cX7_readFrom 58 = .ok (.aload_n 1, 1) := by decide +kernel
theorem dX7_readFrom_59 : decode cX7_readFrom 59 = .ok (.iload_n 2, 1) := by decide +kernel
theorem dX7_readFrom_60 : decode cX7_readFrom 60 = .ok (.iconst 5, 1) := by decide +kernel
theorem dX7_readFrom_61 : decode cX7_readFrom 61 = .ok (.iadd, 1) := by decide +kernel
theorem dX7_readFrom_62 : decode cX7_readFrom 62 = .ok (.iaload, 1) := by decide +kernel
theorem dX7_readFrom_63 : decode cX7_readFrom 63 = .ok (.putfield 39, 3) := by decide +kernel
theorem dX7_readFrom_66 : decode cX7_readFrom 66 = .ok (.aload_n 0, 1) := by decide +kernel
theorem dX7_readFrom_67 : decode cX7_readFrom 67 = .ok (.aload_n 1, 1) := by decide +kernel
theorem dX7_readFrom_68 : decode cX7_readFrom 68 = .ok (.iload_n 2, 1) := by decide +kernel
theorem dX7_readFrom_69 : decode cX7_readFrom 69 = .ok (.bipush 6, 2) := by decide +kernel
theorem dX7_readFrom_71 : decode cX7_readFrom 71 = .ok (.iadd, 1) := by decide +kernel
theorem dX7_readFrom_72 : decode cX7_readFrom 72 = .ok (.iaload, 1) := by decide +kernel
theorem dX7_readFrom_73 : decode cX7_readFrom 73 = .ok (.putfield 42, 3) := by decide +kernel
theorem dX7_readFrom_76 : decode cX7_readFrom 76 = .ok (.aload_n 1, 1) := by decide +kernel
theorem dX7_readFrom_77 : decode cX7_readFrom 77 = .ok (.iload_n 2, 1) := by decide +kernel
theorem dX7_readFrom_78 : decode cX7_readFrom 78 = .ok (.bipush 7, 2) := by decide +kernel
theorem dX7_readFrom_80 : decode cX7_readFrom 80 = .ok (.iadd, 1) := by decide +kernel
theorem dX7_readFrom_81 : decode cX7_readFrom 81 = .ok (.aload_n 0, 1) := by decide +kernel
theorem dX7_readFrom_82 : decode cX7_readFrom 82 = .ok (.getfield 9, 3) := by decide +kernel
theorem dX7_readFrom_85 : decode cX7_readFrom 85 = .ok (.iconst 0, 1) := by decide +kernel
theorem dX7_readFrom_86 : decode cX7_readFrom 86 = .ok (.bipush 7, 2) := by decide +kernel
theorem dX7_readFrom_88 : decode cX7_readFrom 88 = .ok (.invokestatic 46, 3) := by decide +kernel
theorem dX7_readFrom_91 : decode cX7_readFrom 91 = .ok (.aload_n 1, 1) := by decide +kernel
theorem dX7_readFrom_92 : decode cX7_readFrom 92 = .ok (.iload_n 2, 1) := by decide +kernel
theorem dX7_readFrom_93 : decode cX7_readFrom 93 = .ok (.bipush 7, 2) := by decide +kernel
theorem dX7_readFrom_95 : decode cX7_readFrom 95 = .ok (.iadd, 1) := by decide +kernel
theorem dX7_readFrom_96 : decode cX7_readFrom 96 = .ok (.bipush 7, 2) := by decide +kernel
theorem dX7_readFrom_98 : decode cX7_readFrom 98 = .ok (.iadd, 1) := by decide +kernel
theorem dX7_readFrom_99 : decode cX7_readFrom 99 = .ok (.aload_n 0, 1) := by decide +kernel
theorem dX7_readFrom_100 : decode cX7_readFrom 100 = .ok (.getfield 15, 3) := by decide +kernel
theorem dX7_readFrom_103 : decode cX7_readFrom 103 = .ok (.iconst 0, 1) := by decide +kernel
theorem dX7_readFrom_104 : decode cX7_readFrom 104 = .ok (.bipush 10, 2) := by decide +kernel
theorem dX7_readFrom_106 : decode cX7_readFrom 106 = .ok (.invokestatic 46, 3) := by decide +kernel
theorem dX7_readFrom_109 : decode cX7_readFrom 109 = .ok (.return_, 1) := by decide +kernel
theorem dX7_isPassed_0 : decode cX7_isPassed 0 = .ok (.aload_n 0, 1) := by decide +kernel
theorem dX7_isPassed_1 : decode cX7_isPassed 1 = .ok (.getfield 42, 3) := by decide +kernel
theorem dX7_isPassed_4 : decode cX7_isPassed 4 = .ok (.iload_n 1, 1) := by decide +kernel
theorem dX7_isPassed_5 : decode cX7_isPassed 5 = .ok (.ishr, 1) := by decide +kernel
theorem dX7_isPassed_6 : decode cX7_isPassed 6 = .ok (.iconst 1, 1) := by decide +kernel
theorem dX7_isPassed_7 : decode cX7_isPassed 7 = .ok (.iand, 1) := by decide +kernel
theorem dX7_isPassed_8 : decode cX7_isPassed 8 = .ok (.iconst 1, 1) := by decide +kernel
theorem dX7_isPassed_9 : decode cX7_isPassed 9 = .ok (.if_icmp .ne 7, 3) := by decide +kernel
theorem dX7_isPassed_12 : decode cX7_isPassed 12 = .ok (.iconst 1, 1) := by decide +kernel
theorem dX7_isPassed_13 : decode cX7_isPassed 13 = .ok (.goto 4, 3) := by decide +kernel
theorem dX7_isPassed_16 : decode cX7_isPassed 16 = .ok (.iconst 0, 1) := by decide +kernel
theorem dX7_isPassed_17 : decode cX7_isPassed 17 = .ok (.ireturn, 1) := by decide +kernel
theorem dX7_howManyPassed_0 : decode cX7_howManyPassed 0 = .ok (.aload_n 0, 1) := by decide +kernel
theorem dX7_howManyPassed_1 : decode cX7_howManyPassed 1 = .ok (.getfield 42, 3) := by decide +kernel
theorem dX7_howManyPassed_4 : decode cX7_howManyPassed 4 = .ok (.invokestatic 53, 3) := by decide +kernel
theorem dX7_howManyPassed_7 : decode cX7_howManyPassed 7 = .ok (.ireturn, 1) := by decide +kernel
theorem dX8_init_0 : decode cX8_init 0 = .ok (.aload_n 0, 1) := by decide +kernel
theorem dX8_init_1 : decode cX8_init 1 = .ok (.invokespecial 1, 3) := by decide +kernel
theorem dX8_init_4 : decode cX8_init 4 = .ok (.aload_n 0, 1) := by decide +kernel
theorem dX8_init_5 : decode cX8_init 5 = .ok (.sipush 700, 3) := by decide +kernel
theorem dX8_init_8 : decode cX8_init 8 = .ok (.newarray .byte, 2) := by decide +kernel
theorem dX8_init_10 : decode cX8_init 10 = .ok (.putfield 9, 3) := by decide +kernel
theorem dX8_init_13 : decode cX8_init 13 = .ok (.aload_n 0, 1) := by decide +kernel
theorem dX8_init_14 : decode cX8_init 14 = .ok (.iconst 0, 1) := by decide +kernel
theorem dX8_init_15 : decode cX8_init 15 = .ok (.putfield 13, 3) := by decide +kernel
theorem dX8_init_18 : decode cX8_init 18 = .ok (.aload_n 0, 1) := by decide +kernel
theorem dX8_init_19 : decode cX8_init 19 = .ok (.iconst (-1), 1) := by decide +kernel
theorem dX8_init_20 : decode cX8_init 20 = .ok (.putfield 17, 3) := by decide +kernel
theorem dX8_init_23 : decode cX8_init 23 = .ok (.aload_n 0, 1) := by decide +kernel
theorem dX8_init_24 : decode cX8_init 24 = .ok (.new 20, 3) := by decide +kernel
theorem dX8_init_27 : decode cX8_init 27 = .ok (.dup, 1) := by decide +kernel
theorem dX8_init_28 : decode cX8_init 28 = .ok (.invokespecial 22, 3) := by decide +kernel
theorem dX8_init_31 : decode cX8_init 31 = .ok (.putfield 23, 3) := by decide +kernel
theorem dX8_init_34 : decode cX8_init 34 = .ok (.aload_n 0, 1) := by decide +kernel
theorem dX8_init_35 : decode cX8_init 35 = .ok (.new 20, 3) := by decide +kernel
theorem dX8_init_38 : decode cX8_init 38 = .ok (.dup, 1) := by decide +kernel
theorem dX8_init_39 : decode cX8_init 39 = .ok (.invokespecial 22, 3) := by decide +kernel
theorem dX8_init_42 : decode cX8_init 42 = .ok (.putfield 27, 3) := by decide +kernel
theorem dX8_init_45 : decode cX8_init 45 = .ok (.aload_n 0, 1) := by decide +kernel
theorem dX8_init_46 : decode cX8_init 46 = .ok (.new 30, 3) := by decide +kernel
theorem dX8_init_49 : decode cX8_init 49 = .ok (.dup, 1) := by decide +kernel
theorem dX8_init_50 : decode cX8_init 50 = .ok (.aload_n 0, 1) := by decide +kernel
theorem dX8_init_51 : decode cX8_init 51 = .ok (.getfield 9, 3) := by decide +kernel
theorem dX8_init_54 : decode cX8_init 54 = .ok (.aload_n 0, 1) := by decide +kernel
theorem dX8_init_55 : decode cX8_init 55 = .ok (.getfield 27, 3) := by decide +kernel
theorem dX8_init_58 : decode cX8_init 58 = .ok (.invokespecial 32, 3) := by decide +kernel
theorem dX8_init_61 : decode cX8_init 61 = .ok (.putfield 35, 3) := by decide +kernel
theorem dX8_init_64 : decode cX8_init 64 = .ok (.aload_n 0, 1) := by decide +kernel
theorem dX8_init_65 : decode cX8_init 65 = .ok (.new 39, 3) := by decide +kernel
theorem dX8_init_68 : decode cX8_init 68 = .ok (.dup, 1) := by decide +kernel
theorem dX8_init_69 : decode cX8_init 69 = .ok (.invokespecial 41, 3) := by decide +kernel
theorem dX8_init_72 : decode cX8_init 72 = .ok (.putfield 42, 3) := by decide +kernel
theorem dX8_init_75 : decode cX8_init 75 = .ok (.aload_n 0, 1) := by decide +kernel
theorem dX8_init_76 : decode cX8_init 76 = .ok (.new 39, 3) := by decide +kernel
theorem dX8_init_79 : decode cX8_init 79 = .ok (.dup, 1) := by decide +kernel
theorem dX8_init_80 : decode cX8_init 80 = .ok (.invokespecial 41, 3) := by decide +kernel
theorem dX8_init_83 : decode cX8_init 83 = .ok (.putfield 46, 3) := by decide +kernel
theorem dX8_init_86 : decode cX8_init 86 = .ok (.aload_n 0, 1) := by decide +kernel
theorem dX8_init_87 : decode cX8_init 87 = .ok (.iconst 0, 1) := by decide +kernel
theorem dX8_init_88 : decode cX8_init 88 = .ok (.putfield 49, 3) := by decide +kernel
theorem dX8_init_91 : decode cX8_init 91 = .ok (.aload_n 0, 1) := by decide +kernel
theorem dX8_init_92 : decode cX8_init 92 = .ok (.new 53, 3) := by decide +kernel
theorem dX8_init_95 : decode cX8_init 95 = .ok (.dup, 1) := by decide +kernel
theorem dX8_init_96 : decode cX8_init 96 = .ok (.aload_n 0, 1) := by decide +kernel
theorem dX8_init_97 : decode cX8_init 97 = .ok (.getfield 23, 3) := by decide +kernel
theorem dX8_init_100 : decode cX8_init 100 = .ok (.invokespecial 55, 3) := by decide +kernel
theorem dX8_init_103 : decode cX8_init 103 = .ok (.putfield 58, 3) := by decide +kernel
theorem dX8_init_106 : decode cX8_init 106 = .ok (.aload_n 0, 1) := by decide +kernel
theorem dX8_init_107 : decode cX8_init 107 = .ok (.new 62, 3) := by decide +kernel
theorem dX8_init_110 : decode cX8_init 110 = .ok (.dup, 1) := by decide +kernel
theorem dX8_init_111 : decode cX8_init 111 = .ok (.aload_n 0, 1) := by decide +kernel
theorem dX8_init_112 : decode cX8_init 112 = .ok (.getfield 23, 3) := by decide +kernel
theorem dX8_init_115 : decode cX8_init 115 = .ok (.aload_n 0, 1) := by decide +kernel
theorem dX8_init_116 : decode cX8_init 116 = .ok (.getfield 58, 3) := by decide +kernel
theorem dX8_init_119 : decode cX8_init 119 = .ok (.aload_n 0, 1) := by decide +kernel
theorem dX8_init_120 : decode cX8_init 120 = .ok (.getfield 42, 3) := by decide +kernel
theorem dX8_init_123 : decode cX8_init 123 = .ok (.getfield 64, 3) := by decide +kernel
theorem dX8_init_126 : decode cX8_init 126 = .ok (.invokespecial 68, 3) := by decide +kernel
theorem dX8_init_129 : decode cX8_init 129 = .ok (.putfield 71, 3) := by decide +kernel
theorem dX8_init_132 : decode cX8_init 132 = .ok (.aload_n 0, 1) := by decide +kernel
theorem dX8_init_133 : decode cX8_init 133 = .ok (.new 75, 3) := by decide +kernel
theorem dX8_init_136 : decode cX8_init 136 = .ok (.dup, 1) := by decide +kernel
theorem dX8_init_137 : decode cX8_init 137 = .ok (.aload_n 0, 1) := by decide +kernel
theorem dX8_init_138 : decode cX8_init 138 = .ok (.getfield 23, 3) := by decide +kernel
theorem dX8_init_141 : decode cX8_init 141 = .ok (.aload_n 0, 1) := by decide +kernel
theorem dX8_init_142 : decode cX8_init 142 = .ok (.getfield 58, 3) := by decide +kernel
theorem dX8_init_145 : decode cX8_init 145 = .ok (.aload_n 0, 1) := by decide +kernel
theorem dX8_init_146 : decode cX8_init 146 = .ok (.getfield 42, 3) := by decide +kernel
theorem dX8_init_149 : decode cX8_init 149 = .ok (.getfield 64, 3) := by decide +kernel
theorem dX8_init_152 : decode cX8_init 152 = .ok (.invokespecial 77, 3) := by decide +kernel
theorem dX8_init_155 : decode cX8_init 155 = .ok (.putfield 78, 3) := by decide +kernel
theorem dX8_init_158 : decode cX8_init 158 = .ok (.aload_n 0, 1) := by decide +kernel
theorem dX8_init_159 : decode cX8_init 159 = .ok (.new 82, 3) := by decide +kernel
theorem dX8_init_162 : decode cX8_init 162 = .ok (.dup, 1) := by decide +kernel
theorem dX8_init_163 : decode cX8_init 163 = .ok (.aload_n 0, 1) := by decide +kernel
theorem dX8_init_164 : decode cX8_init 164 = .ok (.getfield 58, 3) := by decide +kernel
theorem dX8_init_167 : decode cX8_init 167 = .ok (.aload_n 0, 1) := by decide +kernel
theorem dX8_init_168 : decode cX8_init 168 = .ok (.getfield 42, 3) := by decide +kernel
theorem dX8_init_171 : decode cX8_init 171 = .ok (.invokespecial 84, 3) := by decide +kernel
theorem dX8_init_174 : decode cX8_init 174 = .ok (.putfield 87, 3) := by decide +kernel
theorem dX8_init_177 : decode cX8_init 177 = .ok (.aload_n 0, 1) := by decide +kernel
theorem dX8_init_178 : decode cX8_init 178 = .ok (.getfield 42, 3) := by decide +kernel
theorem dX8_init_181 : decode cX8_init 181 = .ok (.aload_n 0, 1) := by decide +kernel
theorem dX8_init_182 : decode cX8_init 182 = .ok (.getfield 23, 3) := by decide +kernel
theorem dX8_init_185 : decode cX8_init 185 = .ok (.invokevirtual 91, 3) := by decide +kernel
theorem dX8_init_188 : decode cX8_init 188 = .ok (.return_, 1) := by decide +kernel
theorem dX8_feed_0 : decode cX8_feed 0 = .ok (.aload_n 0, 1) := by decide +kernel
theorem dX8_feed_1 : decode cX8_feed 1 = .ok (.getfield 13, 3) := by decide +kernel
theorem dX8_feed_4 : decode cX8_feed 4 = .ok (.sipush 680, 3) := by decide +kernel
theorem dX8_feed_7 : decode cX8_feed 7 = .ok (.if_icmp .le 5, 3) := by decide +kernel
theorem dX8_feed_10 : decode cX8_feed 10 = .ok (.iconst (-1), 1) := by decide +kernel
theorem dX8_feed_11 : decode cX8_feed 11 = .ok (.ireturn, 1) := by decide +kernel
theorem dX8_feed_12 : decode cX8_feed 12 = .ok (.aload_n 0, 1) := by decide +kernel
theorem dX8_feed_13 : decode cX8_feed 13 = .ok (.iload_n 1, 1) := by decide +kernel
theorem dX8_feed_14 : decode cX8_feed 14 = .ok (.invokevirtual 94, 3) := by decide +kernel
theorem dX8_feed_17 : decode cX8_feed 17 = .ok (.aload_n 0, 1) := by decide +kernel
theorem dX8_feed_18 : decode cX8_feed 18 = .ok (.iload_n 2, 1) := by decide +kernel
theorem dX8_feed_19 : decode cX8_feed 19 = .ok (.invokevirtual 94, 3) := by decide +kernel
theorem dX8_feed_22 : decode cX8_feed 22 = .ok (.aload_n 0, 1) := by decide +kernel
theorem dX8_feed_23 : decode cX8_feed 23 = .ok (.iload_n 3, 1) := by decide +kernel
theorem dX8_feed_24 : decode cX8_feed 24 = .ok (.invokevirtual 94, 3) := by decide +kernel
theorem dX8_feed_27 : decode cX8_feed 27 = .ok (.aload_n 0, 1) := by decide +kernel
theorem dX8_feed_28 : decode cX8_feed 28 = .ok (.iload 4, 2) := by decide +kernel
theorem dX8_feed_30 : decode cX8_feed 30 = .ok (.invokevirtual 94, 3) := by decide +kernel
theorem dX8_feed_33 : decode cX8_feed 33 = .ok (.aload_n 0, 1) := by decide +kernel
theorem dX8_feed_34 : decode cX8_feed 34 = .ok (.iload 5, 2) := by decide +kernel
theorem dX8_feed_36 : decode cX8_feed 36 = .ok (.invokevirtual 94, 3) := by decide +kernel
theorem dX8_feed_39 : decode cX8_feed 39 = .ok (.aload_n 0, 1) := by decide +kernel
theorem dX8_feed_40 : decode cX8_feed 40 = .ok (.getfield 13, 3) := by decide +kernel
theorem dX8_feed_43 : decode cX8_feed 43 = .ok (.ireturn, 1) := by decide +kernel
theorem dX8_borough_0 : decode cX8_borough 0 = .ok (.iload_n 1, 1) := by decide +kernel
theorem dX8_borough_1 : decode cX8_borough 1 = .ok (.ifCond .lt 11, 3) := by decide +kernel
theorem dX8_borough_4 : decode cX8_borough 4 = .ok (.iload_n 1, 1) := by decide +kernel
theorem dX8_borough_5 : decode cX8_borough 5 = .ok (.aload_n 0, 1) := by decide +kernel
theorem dX8_borough_6 : decode cX8_borough 6 = .ok (.getfield 13, 3) := by decide +kernel
theorem dX8_borough_9 : decode cX8_borough 9 = .ok (.if_icmp .le 13, 3) := by decide +kernel
theorem dX8_borough_12 : decode cX8_borough 12 = .ok (.new 98, 3) := by decide +kernel
theorem dX8_borough_15 : decode cX8_borough 15 = .ok (.dup, 1) := by decide +kernel
theorem dX8_borough_16 : decode cX8_borough 16 = .ok (.ldc 100, 2) := by decide +kernel
theorem dX8_borough_18 : decode cX8_borough 18 = .ok (.invokespecial 102, 3) := by decide +kernel
theorem dX8_borough_21 : decode cX8_borough 21 = .ok (.athrow, 1) := by decide +kernel
theorem dX8_borough_22 : decode cX8_borough 22 = .ok (.aload_n 0, 1) := by decide +kernel
theorem dX8_borough_23 : decode cX8_borough 23 = .ok (.iconst 0, 1) := by decide +kernel
theorem dX8_borough_24 : decode cX8_borough 24 = .ok (.putfield 13, 3) := by decide +kernel
theorem dX8_borough_27 : decode cX8_borough 27 = .ok (.aload_n 0, 1) := by decide +kernel
theorem dX8_borough_28 : decode cX8_borough 28 = .ok (.getfield 35, 3) := by decide +kernel
theorem dX8_borough_31 : decode cX8_borough 31 = .ok (.iload_n 1, 1) := by decide +kernel
theorem dX8_borough_32 : decode cX8_borough 32 = .ok (.invokevirtual 105, 3) := by decide +kernel
theorem dX8_borough_35 : decode cX8_borough 35 = .ok (.istore_n 2, 1) := by decide +kernel
theorem dX8_borough_36 : decode cX8_borough 36 = .ok (.iload_n 2, 1) := by decide +kernel
theorem dX8_borough_37 : decode cX8_borough 37 = .ok (.ifCond .eq 29, 3) := by decide +kernel
theorem dX8_borough_40 : decode cX8_borough 40 = .ok (.aload_n 0, 1) := by decide +kernel
theorem dX8_borough_41 : decode cX8_borough 41 = .ok (.aload_n 0, 1) := by decide +kernel
theorem dX8_borough_42 : decode cX8_borough 42 = .ok (.getfield 35, 3) := by decide +kernel
theorem dX8_borough_45 : decode cX8_borough 45 = .ok (.invokevirtual 109, 3) := by decide +kernel
theorem dX8_borough_48 : decode cX8_borough 48 = .ok (.putfield 17, 3) := by decide +kernel
theorem dX8_borough_51 : decode cX8_borough 51 = .ok (.aload_n 0, 1) := by decide +kernel
theorem dX8_borough_52 : decode cX8_borough 52 = .ok (.getfield 42, 3) := by decide +kernel
theorem dX8_borough_55 : decode cX8_borough 55 = .ok (.getfield 113, 3) := by decide +kernel
theorem dX8_borough_58 : decode cX8_borough 58 = .ok (.iconst 0, 1) := by decide +kernel
theorem dX8_borough_59 : decode cX8_borough 59 = .ok (.dup2, 1) := by decide +kernel
theorem dX8_borough_60 : decode cX8_borough 60 = .ok (.iaload, 1) := by decide +kernel
theorem dX8_borough_61 : decode cX8_borough 61 = .ok (.iconst 1, 1) := by decide +kernel
theorem dX8_borough_62 : decode cX8_borough 62 = .ok (.iadd, 1) := by decide +kernel
theorem dX8_borough_63 : decode cX8_borough 63 = .ok (.iastore, 1) := by decide +kernel
theorem dX8_borough_64 : decode cX8_borough 64 = .ok (.iload_n 2, 1) := by decide +kernel
theorem dX8_borough_65 : decode cX8_borough 65 = .ok (.ireturn, 1) := by decide +kernel
theorem dX8_borough_66 : decode cX8_borough 66 = .ok (.aload_n 0, 1) := by decide +kernel
theorem dX8_borough_67 : decode cX8_borough 67 = .ok (.iconst (-1), 1) := by decide +kernel
theorem dX8_borough_68 : decode cX8_borough 68 = .ok (.putfield 17, 3) := by decide +kernel
theorem dX8_borough_71 : decode cX8_borough 71 = .ok (.aload_n 0, 1) := by decide +kernel
theorem dX8_borough_72 : decode cX8_borough 72 = .ok (.getfield 23, 3) := by decide +kernel
theorem dX8_borough_75 : decode cX8_borough 75 = .ok (.aload_n 0, 1) := by decide +kernel
theorem dX8_borough_76 : decode cX8_borough 76 = .ok (.getfield 27, 3) := by decide +kernel
theorem dX8_borough_79 : decode cX8_borough 79 = .ok (.invokevirtual 117, 3) := by decide +kernel
theorem dX8_borough_82 : decode cX8_borough 82 = .ok (.aload_n 0, 1) := by decide +kernel
theorem dX8_borough_83 : decode cX8_borough 83 = .ok (.getfield 42, 3) := by decide +kernel
theorem dX8_borough_86 : decode cX8_borough 86 = .ok (.aload_n 0, 1) := by decide +kernel
theorem dX8_borough_87 : decode cX8_borough 87 = .ok (.getfield 23, 3) := by decide +kernel
theorem dX8_borough_90 : decode cX8_borough 90 = .ok (.invokevirtual 91, 3) := by decide +kernel
theorem dX8_borough_93 : decode cX8_borough 93 = .ok (.aload_n 0, 1) := by decide +kernel
theorem dX8_borough_94 : decode cX8_borough 94 = .ok (.iconst 0, 1) := by decide +kernel
theorem dX8_borough_95 : decode cX8_borough 95 = .ok (.putfield 49, 3) := by decide +kernel
theorem dX8_borough_98 : decode cX8_borough 98 = .ok (.iconst 0, 1) := by decide +kernel
theorem dX8_borough_99 : decode cX8_borough 99 = .ok (.ireturn, 1) := by decide +kernel
theorem dX8_fault_0 : decode cX8_fault 0 = .ok (.aload_n 0, 1) := by decide +kernel
theorem dX8_fault_1 : decode cX8_fault 1 = .ok (.getfield 17, 3) := by decide +kernel
theorem dX8_fault_4 : decode cX8_fault 4 = .ok (.ireturn, 1) := by decide +kernel
theorem dX8_count_0 : decode cX8_count 0 = .ok (.aload_n 0, 1) := by decide +kernel
theorem dX8_count_1 : decode cX8_count 1 = .ok (.getfield 42, 3) := by decide +kernel
theorem dX8_count_4 : decode cX8_count 4 = .ok (.getfield 64, 3) := by decide +kernel
theorem dX8_count_7 : decode cX8_count 7 = .ok (.astore_n 2, 1) := by decide +kernel
theorem dX8_count_8 : decode cX8_count 8 = .ok (.iload_n 1, 1) := by decide +kernel
theorem dX8_count_9 : decode cX8_count 9 = .ok (.tableswitch 189 0 15 #[79, 87, 95, 100, 105, 110, 115, 120, 125, 130, 138, 146, 154, 159, 169, 179], 79) := by decide +kernel
theorem dX8_count_88 : decode cX8_count 88 = .ok (.aload_n 0, 1) := by decide +kernel
theorem dX8_count_89 : decode cX8_count 89 = .ok (.getfield 23, 3) := by decide +kernel
theorem dX8_count_92 : decode cX8_count 92 = .ok (.getfield 120, 3) := by decide +kernel
theorem dX8_count_95 : decode cX8_count 95 = .ok (.ireturn, 1) := by decide +kernel
theorem dX8_count_96 : decode cX8_count 96 = .ok (.aload_n 0, 1) := by decide +kernel
theorem dX8_count_97 : decode cX8_count 97 = .ok (.getfield 23, 3) := by decide +kernel
theorem dX8_count_100 : decode cX8_count 100 = .ok (.getfield 123, 3) := by decide +kernel
theorem dX8_count_103 : decode cX8_count 103 = .ok (.ireturn, 1) := by decide +kernel
theorem dX8_count_104 : decode cX8_count 104 = .ok (.aload_n 2, 1) := by decide +kernel
theorem dX8_count_105 : decode cX8_count 105 = .ok (.getfield 126, 3) := by decide +kernel
theorem dX8_count_108 : decode cX8_count 108 = .ok (.ireturn, 1) := by decide +kernel
theorem dX8_count_109 : decode cX8_count 109 = .ok (.aload_n 2, 1) := by decide +kernel
theorem dX8_count_110 : decode cX8_count 110 = .ok (.getfield 131, 3) := by decide +kernel
theorem dX8_count_113 : decode cX8_count 113 = .ok (.ireturn, 1) := by decide +kernel
theorem dX8_count_114 : decode cX8_count 114 = .ok (.aload_n 2, 1) := by decide +kernel
theorem dX8_count_115 : decode cX8_count 115 = .ok (.getfield 134, 3) := by decide +kernel
theorem dX8_count_118 : decode cX8_count 118 = .ok (.ireturn, 1) := by decide +kernel
theorem dX8_count_119 : decode cX8_count 119 = .ok (.aload_n 2, 1) := by decide +kernel
theorem dX8_count_120 : decode cX8_count 120 = .ok (.getfield 137, 3) := by decide +kernel
theorem dX8_count_123 : decode cX8_count 123 = .ok (.ireturn, 1) := by decide +kernel
theorem dX8_count_124 : decode cX8_count 124 = .ok (.aload_n 2, 1) := by decide +kernel
theorem dX8_count_125 : decode cX8_count 125 = .ok (.getfield 140, 3) := by decide +kernel
theorem dX8_count_128 : decode cX8_count 128 = .ok (.ireturn, 1) := by decide +kernel
theorem dX8_count_129 : decode cX8_count 129 = .ok (.aload_n 2, 1) := by decide +kernel
theorem dX8_count_130 : decode cX8_count 130 = .ok (.getfield 143, 3) := by decide +kernel
theorem dX8_count_133 : decode cX8_count 133 = .ok (.ireturn, 1) := by decide +kernel
theorem dX8_count_134 : decode cX8_count 134 = .ok (.aload_n 2, 1) := by decide +kernel
theorem dX8_count_135 : decode cX8_count 135 = .ok (.getfield 146, 3) := by decide +kernel
theorem dX8_count_138 : decode cX8_count 138 = .ok (.ireturn, 1) := by decide +kernel
theorem dX8_count_139 : decode cX8_count 139 = .ok (.aload_n 0, 1) := by decide +kernel
theorem dX8_count_140 : decode cX8_count 140 = .ok (.getfield 71, 3) := by decide +kernel
theorem dX8_count_143 : decode cX8_count 143 = .ok (.invokevirtual 149, 3) := by decide +kernel
theorem dX8_count_146 : decode cX8_count 146 = .ok (.ireturn, 1) := by decide +kernel
theorem dX8_count_147 : decode cX8_count 147 = .ok (.aload_n 0, 1) := by decide +kernel
theorem dX8_count_148 : decode cX8_count 148 = .ok (.getfield 42, 3) := by decide +kernel
theorem dX8_count_151 : decode cX8_count 151 = .ok (.getfield 152, 3) := by decide +kernel
theorem dX8_count_154 : decode cX8_count 154 = .ok (.ireturn, 1) := by decide +kernel
theorem dX8_count_155 : decode cX8_count 155 = .ok (.aload_n 0, 1) := by decide +kernel
theorem dX8_count_156 : decode cX8_count 156 = .ok (.getfield 42, 3) := by decide +kernel
theorem dX8_count_159 : decode cX8_count 159 = .ok (.getfield 155, 3) := by decide +kernel
theorem dX8_count_162 : decode cX8_count 162 = .ok (.ireturn, 1) := by decide +kernel
theorem dX8_count_163 : decode cX8_count 163 = .ok (.aload_n 0, 1) := by decide +kernel
theorem dX8_count_164 : decode cX8_count 164 = .ok (.getfield 13, 3) := by decide +kernel
theorem dX8_count_167 : decode cX8_count 167 = .ok (.ireturn, 1) := by decide +kernel
theorem dX8_count_168 : decode cX8_count 168 = .ok (.aload_n 0, 1) := by decide +kernel
theorem dX8_count_169 : decode cX8_count 169 = .ok (.getfield 42, 3) := by decide +kernel
theorem dX8_count_172 : decode cX8_count 172 = .ok (.getfield 113, 3) := by decide +kernel
theorem dX8_count_175 : decode cX8_count 175 = .ok (.iconst 0, 1) := by decide +kernel
theorem dX8_count_176 : decode cX8_count 176 = .ok (.iaload, 1) := by decide +kernel
theorem dX8_count_177 : decode cX8_count 177 = .ok (.ireturn, 1) := by decide +kernel
theorem dX8_count_178 : decode cX8_count 178 = .ok (.aload_n 0, 1) := by decide +kernel
theorem dX8_count_179 : decode cX8_count 179 = .ok (.getfield 42, 3) := by decide +kernel
theorem dX8_count_182 : decode cX8_count 182 = .ok (.getfield 113, 3) := by decide +kernel
theorem dX8_count_185 : decode cX8_count 185 = .ok (.iconst 1, 1) := by decide +kernel
theorem dX8_count_186 : decode cX8_count 186 = .ok (.iaload, 1) := by decide +kernel
theorem dX8_count_187 : decode cX8_count 187 = .ok (.ireturn, 1) := by decide +kernel
theorem dX8_count_188 : decode cX8_count 188 = .ok (.aload_n 0, 1) := by decide +kernel
theorem dX8_count_189 : decode cX8_count 189 = .ok (.getfield 42, 3) := by decide +kernel
theorem dX8_count_192 : decode cX8_count 192 = .ok (.getfield 113, 3) := by decide +kernel
theorem dX8_count_195 : decode cX8_count 195 = .ok (.iconst 2, 1) := by decide +kernel
theorem dX8_count_196 : decode cX8_count 196 = .ok (.iaload, 1) := by decide +kernel
theorem dX8_count_197 : decode cX8_count 197 = .ok (.ireturn, 1) := by decide +kernel
theorem dX8_count_198 : decode cX8_count 198 = .ok (.new 158, 3) := by decide +kernel
theorem dX8_count_201 : decode cX8_count 201 = .ok (.dup, 1) := by decide +kernel
theorem dX8_count_202 : decode cX8_count 202 = .ok (.ldc 160, 2) := by decide +kernel
theorem dX8_count_204 : decode cX8_count 204 = .ok (.invokespecial 162, 3) := by decide +kernel
theorem dX8_count_207 : decode cX8_count 207 = .ok (.athrow, 1) := by decide +kernel
theorem dX8_alderman_0 : decode cX8_alderman 0 = .ok (.aload_n 0, 1) := by decide +kernel
theorem dX8_alderman_1 : decode cX8_alderman 1 = .ok (.iload_n 1, 1) := by decide +kernel
theorem dX8_alderman_2 : decode cX8_alderman 2 = .ok (.invokevirtual 163, 3) := by decide +kernel
theorem dX8_alderman_5 : decode cX8_alderman 5 = .ok (.iload_n 2, 1) := by decide +kernel
theorem dX8_alderman_6 : decode cX8_alderman 6 = .ok (.tableswitch 58 0 2 #[26, 39, 49], 26) := by decide +kernel
theorem dX8_alderman_32 : decode cX8_alderman 32 = .ok (.aload_n 0, 1) := by decide +kernel
theorem dX8_alderman_33 : decode cX8_alderman 33 = .ok (.getfield 42, 3) := by decide +kernel
theorem dX8_alderman_36 : decode cX8_alderman 36 = .ok (.getfield 64, 3) := by decide +kernel
theorem dX8_alderman_39 : decode cX8_alderman 39 = .ok (.getfield 166, 3) := by decide +kernel
theorem dX8_alderman_42 : decode cX8_alderman 42 = .ok (.iload_n 1, 1) := by decide +kernel
theorem dX8_alderman_43 : decode cX8_alderman 43 = .ok (.iaload, 1) := by decide +kernel
theorem dX8_alderman_44 : decode cX8_alderman 44 = .ok (.ireturn, 1) := by decide +kernel
theorem dX8_alderman_45 : decode cX8_alderman 45 = .ok (.aload_n 0, 1) := by decide +kernel
theorem dX8_alderman_46 : decode cX8_alderman 46 = .ok (.getfield 23, 3) := by decide +kernel
theorem dX8_alderman_49 : decode cX8_alderman 49 = .ok (.getfield 169, 3) := by decide +kernel
theorem dX8_alderman_52 : decode cX8_alderman 52 = .ok (.iload_n 1, 1) := by decide +kernel
theorem dX8_alderman_53 : decode cX8_alderman 53 = .ok (.iaload, 1) := by decide +kernel
theorem dX8_alderman_54 : decode cX8_alderman 54 = .ok (.ireturn, 1) := by decide +kernel
theorem dX8_alderman_55 : decode cX8_alderman 55 = .ok (.aload_n 0, 1) := by decide +kernel
theorem dX8_alderman_56 : decode cX8_alderman 56 = .ok (.getfield 71, 3) := by decide +kernel
theorem dX8_alderman_59 : decode cX8_alderman 59 = .ok (.iload_n 1, 1) := by decide +kernel
theorem dX8_alderman_60 : decode cX8_alderman 60 = .ok (.invokevirtual 172, 3) := by decide +kernel
theorem dX8_alderman_63 : decode cX8_alderman 63 = .ok (.ireturn, 1) := by decide +kernel
theorem dX8_alderman_64 : decode cX8_alderman 64 = .ok (.new 158, 3) := by decide +kernel
theorem dX8_alderman_67 : decode cX8_alderman 67 = .ok (.dup, 1) := by decide +kernel
theorem dX8_alderman_68 : decode cX8_alderman 68 = .ok (.ldc 175, 2) := by decide +kernel
theorem dX8_alderman_70 : decode cX8_alderman 70 = .ok (.invokespecial 162, 3) := by decide +kernel
theorem dX8_alderman_73 : decode cX8_alderman 73 = .ok (.athrow, 1) := by decide +kernel
theorem dX8_motion_0 : decode cX8_motion 0 = .ok (.aload_n 0, 1) := by decide +kernel
theorem dX8_motion_1 : decode cX8_motion 1 = .ok (.iload_n 1, 1) := by decide +kernel
theorem dX8_motion_2 : decode cX8_motion 2 = .ok (.invokevirtual 177, 3) := by decide +kernel
theorem dX8_motion_5 : decode cX8_motion 5 = .ok (.iload_n 2, 1) := by decide +kernel
theorem dX8_motion_6 : decode cX8_motion 6 = .ok (.tableswitch 127 0 6 #[42, 52, 65, 75, 85, 95, 115], 42) := by decide +kernel
theorem dX8_motion_48 : decode cX8_motion 48 = .ok (.aload_n 0, 1) := by decide +kernel
theorem dX8_motion_49 : decode cX8_motion 49 = .ok (.getfield 23, 3) := by decide +kernel
theorem dX8_motion_52 : decode cX8_motion 52 = .ok (.getfield 180, 3) := by decide +kernel
theorem dX8_motion_55 : decode cX8_motion 55 = .ok (.iload_n 1, 1) := by decide +kernel
theorem dX8_motion_56 : decode cX8_motion 56 = .ok (.iaload, 1) := by decide +kernel
theorem dX8_motion_57 : decode cX8_motion 57 = .ok (.ireturn, 1) := by decide +kernel
theorem dX8_motion_58 : decode cX8_motion 58 = .ok (.aload_n 0, 1) := by decide +kernel
theorem dX8_motion_59 : decode cX8_motion 59 = .ok (.getfield 42, 3) := by decide +kernel
theorem dX8_motion_62 : decode cX8_motion 62 = .ok (.getfield 64, 3) := by decide +kernel
theorem dX8_motion_65 : decode cX8_motion 65 = .ok (.getfield 183, 3) := by decide +kernel
theorem dX8_motion_68 : decode cX8_motion 68 = .ok (.iload_n 1, 1) := by decide +kernel
theorem dX8_motion_69 : decode cX8_motion 69 = .ok (.iaload, 1) := by decide +kernel
theorem dX8_motion_70 : decode cX8_motion 70 = .ok (.ireturn, 1) := by decide +kernel
theorem dX8_motion_71 : decode cX8_motion 71 = .ok (.aload_n 0, 1) := by decide +kernel
theorem dX8_motion_72 : decode cX8_motion 72 = .ok (.getfield 23, 3) := by decide +kernel
theorem dX8_motion_75 : decode cX8_motion 75 = .ok (.getfield 186, 3) := by decide +kernel
theorem dX8_motion_78 : decode cX8_motion 78 = .ok (.iload_n 1, 1) := by decide +kernel
theorem dX8_motion_79 : decode cX8_motion 79 = .ok (.iaload, 1) := by decide +kernel
theorem dX8_motion_80 : decode cX8_motion 80 = .ok (.ireturn, 1) := by decide +kernel
theorem dX8_motion_81 : decode cX8_motion 81 = .ok (.aload_n 0, 1) := by decide +kernel
theorem dX8_motion_82 : decode cX8_motion 82 = .ok (.getfield 23, 3) := by decide +kernel
theorem dX8_motion_85 : decode cX8_motion 85 = .ok (.getfield 189, 3) := by decide +kernel
theorem dX8_motion_88 : decode cX8_motion 88 = .ok (.iload_n 1, 1) := by decide +kernel
theorem dX8_motion_89 : decode cX8_motion 89 = .ok (.iaload, 1) := by decide +kernel
theorem dX8_motion_90 : decode cX8_motion 90 = .ok (.ireturn, 1) := by decide +kernel
theorem dX8_motion_91 : decode cX8_motion 91 = .ok (.aload_n 0, 1) := by decide +kernel
theorem dX8_motion_92 : decode cX8_motion 92 = .ok (.getfield 23, 3) := by decide +kernel
theorem dX8_motion_95 : decode cX8_motion 95 = .ok (.getfield 191, 3) := by decide +kernel
theorem dX8_motion_98 : decode cX8_motion 98 = .ok (.iload_n 1, 1) := by decide +kernel
theorem dX8_motion_99 : decode cX8_motion 99 = .ok (.iaload, 1) := by decide +kernel
theorem dX8_motion_100 : decode cX8_motion 100 = .ok (.ireturn, 1) := by decide +kernel
theorem dX8_motion_101 : decode cX8_motion 101 = .ok (.aload_n 0, 1) := by decide +kernel
theorem dX8_motion_102 : decode cX8_motion 102 = .ok (.getfield 42, 3) := by decide +kernel
theorem dX8_motion_105 : decode cX8_motion 105 = .ok (.getfield 64, 3) := by decide +kernel
theorem dX8_motion_108 : decode cX8_motion 108 = .ok (.iload_n 1, 1) := by decide +kernel
theorem dX8_motion_109 : decode cX8_motion 109 = .ok (.invokevirtual 194, 3) := by decide +kernel
theorem dX8_motion_112 : decode cX8_motion 112 = .ok (.ifCond .eq 7, 3) := by decide +kernel
theorem dX8_motion_115 : decode cX8_motion 115 = .ok (.iconst 1, 1) := by decide +kernel
theorem dX8_motion_116 : decode cX8_motion 116 = .ok (.goto 4, 3) := by decide +kernel
theorem dX8_motion_119 : decode cX8_motion 119 = .ok (.iconst 0, 1) := by decide +kernel
theorem dX8_motion_120 : decode cX8_motion 120 = .ok (.ireturn, 1) := by decide +kernel
theorem dX8_motion_121 : decode cX8_motion 121 = .ok (.aload_n 0, 1) := by decide +kernel
theorem dX8_motion_122 : decode cX8_motion 122 = .ok (.getfield 23, 3) := by decide +kernel
theorem dX8_motion_125 : decode cX8_motion 125 = .ok (.iload_n 1, 1) := by decide +kernel
theorem dX8_motion_126 : decode cX8_motion 126 = .ok (.invokevirtual 198, 3) := by decide +kernel
theorem dX8_motion_129 : decode cX8_motion 129 = .ok (.invokestatic 201, 3) := by decide +kernel
theorem dX8_motion_132 : decode cX8_motion 132 = .ok (.ireturn, 1) := by decide +kernel
theorem dX8_motion_133 : decode cX8_motion 133 = .ok (.new 158, 3) := by decide +kernel
theorem dX8_motion_136 : decode cX8_motion 136 = .ok (.dup, 1) := by decide +kernel
theorem dX8_motion_137 : decode cX8_motion 137 = .ok (.ldc 206, 2) := by decide +kernel
theorem dX8_motion_139 : decode cX8_motion 139 = .ok (.invokespecial 162, 3) := by decide +kernel
theorem dX8_motion_142 : decode cX8_motion 142 = .ok (.athrow, 1) := by decide +kernel
theorem dX8_hours_0 : decode cX8_hours 0 = .ok (.iload_n 1, 1) := by decide +kernel
theorem dX8_hours_1 : decode cX8_hours 1 = .ok (.iconst 1, 1) := by decide +kernel
theorem dX8_hours_2 : decode cX8_hours 2 = .ok (.bipush 48, 2) := by decide +kernel
theorem dX8_hours_4 : decode cX8_hours 4 = .ok (.invokestatic 208, 3) := by decide +kernel
theorem dX8_hours_7 : decode cX8_hours 7 = .ok (.ifCond .ne 21, 3) := by decide +kernel
theorem dX8_hours_10 : decode cX8_hours 10 = .ok (.aload_n 0, 1) := by decide +kernel
theorem dX8_hours_11 : decode cX8_hours 11 = .ok (.getfield 42, 3) := by decide +kernel
theorem dX8_hours_14 : decode cX8_hours 14 = .ok (.getfield 64, 3) := by decide +kernel
theorem dX8_hours_17 : decode cX8_hours 17 = .ok (.getfield 126, 3) := by decide +kernel
theorem dX8_hours_20 : decode cX8_hours 20 = .ok (.sipush 9999, 3) := by decide +kernel
theorem dX8_hours_23 : decode cX8_hours 23 = .ok (.iload_n 1, 1) := by decide +kernel
theorem dX8_hours_24 : decode cX8_hours 24 = .ok (.isub, 1) := by decide +kernel
theorem dX8_hours_25 : decode cX8_hours 25 = .ok (.if_icmp .le 9, 3) := by decide +kernel
theorem dX8_hours_28 : decode cX8_hours 28 = .ok (.aload_n 0, 1) := by decide +kernel
theorem dX8_hours_29 : decode cX8_hours 29 = .ok (.iconst (-1), 1) := by decide +kernel
theorem dX8_hours_30 : decode cX8_hours 30 = .ok (.invokevirtual 212, 3) := by decide +kernel
theorem dX8_hours_33 : decode cX8_hours 33 = .ok (.ireturn, 1) := by decide +kernel
theorem dX8_hours_34 : decode cX8_hours 34 = .ok (.aload_n 0, 1) := by decide +kernel
theorem dX8_hours_35 : decode cX8_hours 35 = .ok (.getfield 42, 3) := by decide +kernel
theorem dX8_hours_38 : decode cX8_hours 38 = .ok (.invokevirtual 215, 3) := by decide +kernel
theorem dX8_hours_41 : decode cX8_hours 41 = .ok (.iconst 0, 1) := by decide +kernel
theorem dX8_hours_42 : decode cX8_hours 42 = .ok (.istore_n 2, 1) := by decide +kernel
theorem dX8_hours_43 : decode cX8_hours 43 = .ok (.iload_n 2, 1) := by decide +kernel
theorem dX8_hours_44 : decode cX8_hours 44 = .ok (.iload_n 1, 1) := by decide +kernel
theorem dX8_hours_45 : decode cX8_hours 45 = .ok (.if_icmp .ge 25, 3) := by decide +kernel
theorem dX8_hours_48 : decode cX8_hours 48 = .ok (.aload_n 0, 1) := by decide +kernel
theorem dX8_hours_49 : decode cX8_hours 49 = .ok (.getfield 58, 3) := by decide +kernel
theorem dX8_hours_52 : decode cX8_hours 52 = .ok (.aload_n 0, 1) := by decide +kernel
theorem dX8_hours_53 : decode cX8_hours 53 = .ok (.getfield 42, 3) := by decide +kernel
theorem dX8_hours_56 : decode cX8_hours 56 = .ok (.getfield 64, 3) := by decide +kernel
theorem dX8_hours_59 : decode cX8_hours 59 = .ok (.iconst (-1), 1) := by decide +kernel
theorem dX8_hours_60 : decode cX8_hours 60 = .ok (.invokevirtual 218, 3) := by decide +kernel
theorem dX8_hours_63 : decode cX8_hours 63 = .ok (.pop, 1) := by decide +kernel
theorem dX8_hours_64 : decode cX8_hours 64 = .ok (.iinc 2 1, 3) := by decide +kernel
theorem dX8_hours_67 : decode cX8_hours 67 = .ok (.goto (-24), 3) := by decide +kernel
theorem dX8_hours_70 : decode cX8_hours 70 = .ok (.aload_n 0, 1) := by decide +kernel
theorem dX8_hours_71 : decode cX8_hours 71 = .ok (.getfield 42, 3) := by decide +kernel
theorem dX8_hours_74 : decode cX8_hours 74 = .ok (.getfield 64, 3) := by decide +kernel
theorem dX8_hours_77 : decode cX8_hours 77 = .ok (.getfield 126, 3) := by decide +kernel
theorem dX8_hours_80 : decode cX8_hours 80 = .ok (.ireturn, 1) := by decide +kernel
theorem dX8_wind_0 : decode cX8_wind 0 = .ok (.iload_n 1, 1) := by decide +kernel
theorem dX8_wind_1 : decode cX8_wind 1 = .ok (.iconst 1, 1) := by decide +kernel
theorem dX8_wind_2 : decode cX8_wind 2 = .ok (.bipush 99, 2) := by decide +kernel
theorem dX8_wind_4 : decode cX8_wind 4 = .ok (.invokestatic 208, 3) := by decide +kernel
theorem dX8_wind_7 : decode cX8_wind 7 = .ok (.ifCond .eq 9, 3) := by decide +kernel
theorem dX8_wind_10 : decode cX8_wind 10 = .ok (.aload_n 0, 1) := by decide +kernel
theorem dX8_wind_11 : decode cX8_wind 11 = .ok (.iconst (-1), 1) := by decide +kernel
theorem dX8_wind_12 : decode cX8_wind 12 = .ok (.invokevirtual 212, 3) := by decide +kernel
theorem dX8_wind_15 : decode cX8_wind 15 = .ok (.ireturn, 1) := by decide +kernel
theorem dX8_wind_16 : decode cX8_wind 16 = .ok (.aload_n 0, 1) := by decide +kernel
theorem dX8_wind_17 : decode cX8_wind 17 = .ok (.getfield 42, 3) := by decide +kernel
theorem dX8_wind_20 : decode cX8_wind 20 = .ok (.invokevirtual 215, 3) := by decide +kernel
theorem dX8_wind_23 : decode cX8_wind 23 = .ok (.aload_n 0, 1) := by decide +kernel
theorem dX8_wind_24 : decode cX8_wind 24 = .ok (.getfield 42, 3) := by decide +kernel
theorem dX8_wind_27 : decode cX8_wind 27 = .ok (.getfield 64, 3) := by decide +kernel
theorem dX8_wind_30 : decode cX8_wind 30 = .ok (.bipush 99, 2) := by decide +kernel
theorem dX8_wind_32 : decode cX8_wind 32 = .ok (.aload_n 0, 1) := by decide +kernel
theorem dX8_wind_33 : decode cX8_wind 33 = .ok (.getfield 42, 3) := by decide +kernel
theorem dX8_wind_36 : decode cX8_wind 36 = .ok (.getfield 64, 3) := by decide +kernel
theorem dX8_wind_39 : decode cX8_wind 39 = .ok (.getfield 134, 3) := by decide +kernel
theorem dX8_wind_42 : decode cX8_wind 42 = .ok (.iload_n 1, 1) := by decide +kernel
theorem dX8_wind_43 : decode cX8_wind 43 = .ok (.iadd, 1) := by decide +kernel
theorem dX8_wind_44 : decode cX8_wind 44 = .ok (.invokestatic 222, 3) := by decide +kernel
theorem dX8_wind_47 : decode cX8_wind 47 = .ok (.putfield 134, 3) := by decide +kernel
theorem dX8_wind_50 : decode cX8_wind 50 = .ok (.aload_n 0, 1) := by decide +kernel
theorem dX8_wind_51 : decode cX8_wind 51 = .ok (.getfield 42, 3) := by decide +kernel
theorem dX8_wind_54 : decode cX8_wind 54 = .ok (.getfield 64, 3) := by decide +kernel
theorem dX8_wind_57 : decode cX8_wind 57 = .ok (.getfield 134, 3) := by decide +kernel
theorem dX8_wind_60 : decode cX8_wind 60 = .ok (.ireturn, 1) := by decide +kernel
theorem dX8_oil_0 : decode cX8_oil 0 = .ok (.iload_n 1, 1) := by decide +kernel
theorem dX8_oil_1 : decode cX8_oil 1 = .ok (.iconst 1, 1) := by decide +kernel
theorem dX8_oil_2 : decode cX8_oil 2 = .ok (.bipush 99, 2) := by decide +kernel
theorem dX8_oil_4 : decode cX8_oil 4 = .ok (.invokestatic 208, 3) := by decide +kernel
theorem dX8_oil_7 : decode cX8_oil 7 = .ok (.ifCond .eq 9, 3) := by decide +kernel
theorem dX8_oil_10 : decode cX8_oil 10 = .ok (.aload_n 0, 1) := by decide +kernel
theorem dX8_oil_11 : decode cX8_oil 11 = .ok (.iconst (-1), 1) := by decide +kernel
theorem dX8_oil_12 : decode cX8_oil 12 = .ok (.invokevirtual 212, 3) := by decide +kernel
theorem dX8_oil_15 : decode cX8_oil 15 = .ok (.ireturn, 1) := by decide +kernel
theorem dX8_oil_16 : decode cX8_oil 16 = .ok (.aload_n 0, 1) := by decide +kernel
theorem dX8_oil_17 : decode cX8_oil 17 = .ok (.getfield 42, 3) := by decide +kernel
theorem dX8_oil_20 : decode cX8_oil 20 = .ok (.invokevirtual 215, 3) := by decide +kernel
theorem dX8_oil_23 : decode cX8_oil 23 = .ok (.aload_n 0, 1) := by decide +kernel
theorem dX8_oil_24 : decode cX8_oil 24 = .ok (.getfield 42, 3) := by decide +kernel
theorem dX8_oil_27 : decode cX8_oil 27 = .ok (.getfield 64, 3) := by decide +kernel
theorem dX8_oil_30 : decode cX8_oil 30 = .ok (.bipush 99, 2) := by decide +kernel
theorem dX8_oil_32 : decode cX8_oil 32 = .ok (.aload_n 0, 1) := by decide +kernel
theorem dX8_oil_33 : decode cX8_oil 33 = .ok (.getfield 42, 3) := by decide +kernel
theorem dX8_oil_36 : decode cX8_oil 36 = .ok (.getfield 64, 3) := by decide +kernel
theorem dX8_oil_39 : decode cX8_oil 39 = .ok (.getfield 131, 3) := by decide +kernel
theorem dX8_oil_42 : decode cX8_oil 42 = .ok (.iload_n 1, 1) := by decide +kernel
theorem dX8_oil_43 : decode cX8_oil 43 = .ok (.iadd, 1) := by decide +kernel
theorem dX8_oil_44 : decode cX8_oil 44 = .ok (.invokestatic 222, 3) := by decide +kernel
theorem dX8_oil_47 : decode cX8_oil 47 = .ok (.putfield 131, 3) := by decide +kernel
theorem dX8_oil_50 : decode cX8_oil 50 = .ok (.aload_n 0, 1) := by decide +kernel
theorem dX8_oil_51 : decode cX8_oil 51 = .ok (.getfield 42, 3) := by decide +kernel
theorem dX8_oil_54 : decode cX8_oil 54 = .ok (.getfield 64, 3) := by decide +kernel
theorem dX8_oil_57 : decode cX8_oil 57 = .ok (.getfield 131, 3) := by decide +kernel
theorem dX8_oil_60 : decode cX8_oil 60 = .ok (.ireturn, 1) := by decide +kernel
theorem dX8_spider_0 : decode cX8_spider 0 = .ok (.iload_n 1, 1) := by decide +kernel
theorem dX8_spider_1 : decode cX8_spider 1 = .ok (.iconst 1, 1) := by decide +kernel
theorem dX8_spider_2 : decode cX8_spider 2 = .ok (.bipush 24, 2) := by decide +kernel
theorem dX8_spider_4 : decode cX8_spider 4 = .ok (.invokestatic 208, 3) := by decide +kernel
theorem dX8_spider_7 : decode cX8_spider 7 = .ok (.ifCond .eq 9, 3) := by decide +kernel
theorem dX8_spider_10 : decode cX8_spider 10 = .ok (.aload_n 0, 1) := by decide +kernel
theorem dX8_spider_11 : decode cX8_spider 11 = .ok (.iconst (-1), 1) := by decide +kernel
theorem dX8_spider_12 : decode cX8_spider 12 = .ok (.invokevirtual 212, 3) := by decide +kernel
theorem dX8_spider_15 : decode cX8_spider 15 = .ok (.ireturn, 1) := by decide +kernel
theorem dX8_spider_16 : decode cX8_spider 16 = .ok (.aload_n 0, 1) := by decide +kernel
theorem dX8_spider_17 : decode cX8_spider 17 = .ok (.getfield 42, 3) := by decide +kernel
theorem dX8_spider_20 : decode cX8_spider 20 = .ok (.invokevirtual 215, 3) := by decide +kernel
theorem dX8_spider_23 : decode cX8_spider 23 = .ok (.aload_n 0, 1) := by decide +kernel
theorem dX8_spider_24 : decode cX8_spider 24 = .ok (.getfield 42, 3) := by decide +kernel
theorem dX8_spider_27 : decode cX8_spider 27 = .ok (.getfield 64, 3) := by decide +kernel
theorem dX8_spider_30 : decode cX8_spider 30 = .ok (.getfield 137, 3) := by decide +kernel
theorem dX8_spider_33 : decode cX8_spider 33 = .ok (.istore_n 2, 1) := by decide +kernel
theorem dX8_spider_34 : decode cX8_spider 34 = .ok (.aload_n 0, 1) := by decide +kernel
theorem dX8_spider_35 : decode cX8_spider 35 = .ok (.getfield 42, 3) := by decide +kernel
theorem dX8_spider_38 : decode cX8_spider 38 = .ok (.getfield 64, 3) := by decide +kernel
theorem dX8_spider_41 : decode cX8_spider 41 = .ok (.iload_n 1, 1) := by decide +kernel
theorem dX8_spider_42 : decode cX8_spider 42 = .ok (.putfield 137, 3) := by decide +kernel
theorem dX8_spider_45 : decode cX8_spider 45 = .ok (.iload_n 2, 1) := by decide +kernel
theorem dX8_spider_46 : decode cX8_spider 46 = .ok (.ireturn, 1) := by decide +kernel
theorem dX8_bribe_0 : decode cX8_bribe 0 = .ok (.aload_n 0, 1) := by decide +kernel
theorem dX8_bribe_1 : decode cX8_bribe 1 = .ok (.iload_n 1, 1) := by decide +kernel
theorem dX8_bribe_2 : decode cX8_bribe 2 = .ok (.invokevirtual 163, 3) := by decide +kernel
theorem dX8_bribe_5 : decode cX8_bribe 5 = .ok (.iload_n 2, 1) := by decide +kernel
theorem dX8_bribe_6 : decode cX8_bribe 6 = .ok (.iconst 1, 1) := by decide +kernel
theorem dX8_bribe_7 : decode cX8_bribe 7 = .ok (.bipush 9, 2) := by decide +kernel
theorem dX8_bribe_9 : decode cX8_bribe 9 = .ok (.invokestatic 208, 3) := by decide +kernel
theorem dX8_bribe_12 : decode cX8_bribe 12 = .ok (.ifCond .ne 17, 3) := by decide +kernel
theorem dX8_bribe_15 : decode cX8_bribe 15 = .ok (.iload_n 2, 1) := by decide +kernel
theorem dX8_bribe_16 : decode cX8_bribe 16 = .ok (.aload_n 0, 1) := by decide +kernel
theorem dX8_bribe_17 : decode cX8_bribe 17 = .ok (.getfield 42, 3) := by decide +kernel
theorem dX8_bribe_20 : decode cX8_bribe 20 = .ok (.getfield 64, 3) := by decide +kernel
theorem dX8_bribe_23 : decode cX8_bribe 23 = .ok (.getfield 140, 3) := by decide +kernel
theorem dX8_bribe_26 : decode cX8_bribe 26 = .ok (.if_icmp .le 10, 3) := by decide +kernel
theorem dX8_bribe_29 : decode cX8_bribe 29 = .ok (.aload_n 0, 1) := by decide +kernel
theorem dX8_bribe_30 : decode cX8_bribe 30 = .ok (.bipush (-10), 2) := by decide +kernel
theorem dX8_bribe_32 : decode cX8_bribe 32 = .ok (.invokevirtual 212, 3) := by decide +kernel
theorem dX8_bribe_35 : decode cX8_bribe 35 = .ok (.ireturn, 1) := by decide +kernel
theorem dX8_bribe_36 : decode cX8_bribe 36 = .ok (.aload_n 0, 1) := by decide +kernel
theorem dX8_bribe_37 : decode cX8_bribe 37 = .ok (.getfield 42, 3) := by decide +kernel
theorem dX8_bribe_40 : decode cX8_bribe 40 = .ok (.invokevirtual 215, 3) := by decide +kernel
theorem dX8_bribe_43 : decode cX8_bribe 43 = .ok (.aload_n 0, 1) := by decide +kernel
theorem dX8_bribe_44 : decode cX8_bribe 44 = .ok (.getfield 42, 3) := by decide +kernel
theorem dX8_bribe_47 : decode cX8_bribe 47 = .ok (.getfield 64, 3) := by decide +kernel
theorem dX8_bribe_50 : decode cX8_bribe 50 = .ok (.dup, 1) := by decide +kernel
theorem dX8_bribe_51 : decode cX8_bribe 51 = .ok (.getfield 140, 3) := by decide +kernel
theorem dX8_bribe_54 : decode cX8_bribe 54 = .ok (.iload_n 2, 1) := by decide +kernel
theorem dX8_bribe_55 : decode cX8_bribe 55 = .ok (.isub, 1) := by decide +kernel
theorem dX8_bribe_56 : decode cX8_bribe 56 = .ok (.putfield 140, 3) := by decide +kernel
theorem dX8_bribe_59 : decode cX8_bribe 59 = .ok (.aload_n 0, 1) := by decide +kernel
theorem dX8_bribe_60 : decode cX8_bribe 60 = .ok (.getfield 42, 3) := by decide +kernel
theorem dX8_bribe_63 : decode cX8_bribe 63 = .ok (.getfield 64, 3) := by decide +kernel
theorem dX8_bribe_66 : decode cX8_bribe 66 = .ok (.getfield 166, 3) := by decide +kernel
theorem dX8_bribe_69 : decode cX8_bribe 69 = .ok (.iload_n 1, 1) := by decide +kernel
theorem dX8_bribe_70 : decode cX8_bribe 70 = .ok (.bipush 9, 2) := by decide +kernel
theorem dX8_bribe_72 : decode cX8_bribe 72 = .ok (.aload_n 0, 1) := by decide +kernel
theorem dX8_bribe_73 : decode cX8_bribe 73 = .ok (.getfield 42, 3) := by decide +kernel
theorem dX8_bribe_76 : decode cX8_bribe 76 = .ok (.getfield 64, 3) := by decide +kernel
theorem dX8_bribe_79 : decode cX8_bribe 79 = .ok (.getfield 166, 3) := by decide +kernel
theorem dX8_bribe_82 : decode cX8_bribe 82 = .ok (.iload_n 1, 1) := by decide +kernel
theorem dX8_bribe_83 : decode cX8_bribe 83 = .ok (.iaload, 1) := by decide +kernel
theorem dX8_bribe_84 : decode cX8_bribe 84 = .ok (.iload_n 2, 1) := by decide +kernel
theorem dX8_bribe_85 : decode cX8_bribe 85 = .ok (.iadd, 1) := by decide +kernel
theorem dX8_bribe_86 : decode cX8_bribe 86 = .ok (.invokestatic 222, 3) := by decide +kernel
theorem dX8_bribe_89 : decode cX8_bribe 89 = .ok (.iastore, 1) := by decide +kernel
theorem dX8_bribe_90 : decode cX8_bribe 90 = .ok (.aload_n 0, 1) := by decide +kernel
theorem dX8_bribe_91 : decode cX8_bribe 91 = .ok (.getfield 42, 3) := by decide +kernel
theorem dX8_bribe_94 : decode cX8_bribe 94 = .ok (.getfield 64, 3) := by decide +kernel
theorem dX8_bribe_97 : decode cX8_bribe 97 = .ok (.getfield 166, 3) := by decide +kernel
theorem dX8_bribe_100 : decode cX8_bribe 100 = .ok (.iload_n 1, 1) := by decide +kernel
theorem dX8_bribe_101 : decode cX8_bribe 101 = .ok (.iaload, 1) := by decide +kernel
theorem dX8_bribe_102 : decode cX8_bribe 102 = .ok (.ireturn, 1) := by decide +kernel
theorem dX8_move_0 : decode cX8_move 0 = .ok (.aload_n 0, 1) := by decide +kernel
theorem dX8_move_1 : decode cX8_move 1 = .ok (.iload_n 1, 1) := by decide +kernel
theorem dX8_move_2 : decode cX8_move 2 = .ok (.invokevirtual 177, 3) := by decide +kernel
theorem dX8_move_5 : decode cX8_move 5 = .ok (.aload_n 0, 1) := by decide +kernel
theorem dX8_move_6 : decode cX8_move 6 = .ok (.getfield 42, 3) := by decide +kernel
theorem dX8_move_9 : decode cX8_move 9 = .ok (.getfield 64, 3) := by decide +kernel
theorem dX8_move_12 : decode cX8_move 12 = .ok (.iload_n 1, 1) := by decide +kernel
theorem dX8_move_13 : decode cX8_move 13 = .ok (.invokevirtual 194, 3) := by decide +kernel
theorem dX8_move_16 : decode cX8_move 16 = .ok (.ifCond .ne 13, 3) := by decide +kernel
theorem dX8_move_19 : decode cX8_move 19 = .ok (.iload_n 2, 1) := by decide +kernel
theorem dX8_move_20 : decode cX8_move 20 = .ok (.iconst 0, 1) := by decide +kernel
theorem dX8_move_21 : decode cX8_move 21 = .ok (.bipush 24, 2) := by decide +kernel
theorem dX8_move_23 : decode cX8_move 23 = .ok (.invokestatic 208, 3) := by decide +kernel
theorem dX8_move_26 : decode cX8_move 26 = .ok (.ifCond .eq 9, 3) := by decide +kernel
theorem dX8_move_29 : decode cX8_move 29 = .ok (.aload_n 0, 1) := by decide +kernel
theorem dX8_move_30 : decode cX8_move 30 = .ok (.iconst (-1), 1) := by decide +kernel
theorem dX8_move_31 : decode cX8_move 31 = .ok (.invokevirtual 212, 3) := by decide +kernel
theorem dX8_move_34 : decode cX8_move 34 = .ok (.ireturn, 1) := by decide +kernel
theorem dX8_move_35 : decode cX8_move 35 = .ok (.aload_n 0, 1) := by decide +kernel
theorem dX8_move_36 : decode cX8_move 36 = .ok (.getfield 42, 3) := by decide +kernel
theorem dX8_move_39 : decode cX8_move 39 = .ok (.invokevirtual 215, 3) := by decide +kernel
theorem dX8_move_42 : decode cX8_move 42 = .ok (.aload_n 0, 1) := by decide +kernel
theorem dX8_move_43 : decode cX8_move 43 = .ok (.getfield 42, 3) := by decide +kernel
theorem dX8_move_46 : decode cX8_move 46 = .ok (.getfield 64, 3) := by decide +kernel
theorem dX8_move_49 : decode cX8_move 49 = .ok (.getfield 183, 3) := by decide +kernel
theorem dX8_move_52 : decode cX8_move 52 = .ok (.iload_n 1, 1) := by decide +kernel
theorem dX8_move_53 : decode cX8_move 53 = .ok (.iaload, 1) := by decide +kernel
theorem dX8_move_54 : decode cX8_move 54 = .ok (.istore_n 3, 1) := by decide +kernel
theorem dX8_move_55 : decode cX8_move 55 = .ok (.aload_n 0, 1) := by decide +kernel
theorem dX8_move_56 : decode cX8_move 56 = .ok (.getfield 42, 3) := by decide +kernel
theorem dX8_move_59 : decode cX8_move 59 = .ok (.getfield 64, 3) := by decide +kernel
theorem dX8_move_62 : decode cX8_move 62 = .ok (.getfield 183, 3) := by decide +kernel
theorem dX8_move_65 : decode cX8_move 65 = .ok (.iload_n 1, 1) := by decide +kernel
theorem dX8_move_66 : decode cX8_move 66 = .ok (.iload_n 2, 1) := by decide +kernel
theorem dX8_move_67 : decode cX8_move 67 = .ok (.iastore, 1) := by decide +kernel
theorem dX8_move_68 : decode cX8_move 68 = .ok (.iload_n 3, 1) := by decide +kernel
theorem dX8_move_69 : decode cX8_move 69 = .ok (.ireturn, 1) := by decide +kernel
theorem dX8_undo_0 : decode cX8_undo 0 = .ok (.aload_n 0, 1) := by decide +kernel
theorem dX8_undo_1 : decode cX8_undo 1 = .ok (.getfield 42, 3) := by decide +kernel
theorem dX8_undo_4 : decode cX8_undo 4 = .ok (.getfield 152, 3) := by decide +kernel
theorem dX8_undo_7 : decode cX8_undo 7 = .ok (.ifCond .ne 5, 3) := by decide +kernel
theorem dX8_undo_10 : decode cX8_undo 10 = .ok (.iconst (-1), 1) := by decide +kernel
theorem dX8_undo_11 : decode cX8_undo 11 = .ok (.ireturn, 1) := by decide +kernel
theorem dX8_undo_12 : decode cX8_undo 12 = .ok (.aload_n 0, 1) := by decide +kernel
theorem dX8_undo_13 : decode cX8_undo 13 = .ok (.getfield 42, 3) := by decide +kernel
theorem dX8_undo_16 : decode cX8_undo 16 = .ok (.invokevirtual 228, 3) := by decide +kernel
theorem dX8_undo_19 : decode cX8_undo 19 = .ok (.aload_n 0, 1) := by decide +kernel
theorem dX8_undo_20 : decode cX8_undo 20 = .ok (.getfield 42, 3) := by decide +kernel
theorem dX8_undo_23 : decode cX8_undo 23 = .ok (.getfield 152, 3) := by decide +kernel
theorem dX8_undo_26 : decode cX8_undo 26 = .ok (.ireturn, 1) := by decide +kernel
theorem dX8_saying_0 : decode cX8_saying 0 = .ok (.iload_n 1, 1) := by decide +kernel
theorem dX8_saying_1 : decode cX8_saying 1 = .ok (.iconst 1, 1) := by decide +kernel
theorem dX8_saying_2 : decode cX8_saying 2 = .ok (.bipush 96, 2) := by decide +kernel
theorem dX8_saying_4 : decode cX8_saying 4 = .ok (.invokestatic 231, 3) := by decide +kernel
theorem dX8_saying_7 : decode cX8_saying 7 = .ok (.aload_n 0, 1) := by decide +kernel
theorem dX8_saying_8 : decode cX8_saying 8 = .ok (.getfield 78, 3) := by decide +kernel
theorem dX8_saying_11 : decode cX8_saying 11 = .ok (.iload_n 1, 1) := by decide +kernel
theorem dX8_saying_12 : decode cX8_saying 12 = .ok (.invokevirtual 235, 3) := by decide +kernel
theorem dX8_saying_15 : decode cX8_saying 15 = .ok (.ireturn, 1) := by decide +kernel
theorem dX8_when_0 : decode cX8_when 0 = .ok (.aload_n 0, 1) := by decide +kernel
theorem dX8_when_1 : decode cX8_when 1 = .ok (.iload_n 1, 1) := by decide +kernel
theorem dX8_when_2 : decode cX8_when 2 = .ok (.invokevirtual 177, 3) := by decide +kernel
theorem dX8_when_5 : decode cX8_when 5 = .ok (.aload_n 0, 1) := by decide +kernel
theorem dX8_when_6 : decode cX8_when 6 = .ok (.getfield 42, 3) := by decide +kernel
theorem dX8_when_9 : decode cX8_when 9 = .ok (.getfield 64, 3) := by decide +kernel
theorem dX8_when_12 : decode cX8_when 12 = .ok (.iload_n 1, 1) := by decide +kernel
theorem dX8_when_13 : decode cX8_when 13 = .ok (.invokevirtual 194, 3) := by decide +kernel
theorem dX8_when_16 : decode cX8_when 16 = .ok (.ifCond .eq 5, 3) := by decide +kernel
theorem dX8_when_19 : decode cX8_when 19 = .ok (.iconst 0, 1) := by decide +kernel
theorem dX8_when_20 : decode cX8_when 20 = .ok (.ireturn, 1) := by decide +kernel
theorem dX8_when_21 : decode cX8_when 21 = .ok (.aload_n 0, 1) := by decide +kernel
theorem dX8_when_22 : decode cX8_when 22 = .ok (.getfield 78, 3) := by decide +kernel
theorem dX8_when_25 : decode cX8_when 25 = .ok (.iload_n 1, 1) := by decide +kernel
theorem dX8_when_26 : decode cX8_when 26 = .ok (.bipush 96, 2) := by decide +kernel
theorem dX8_when_28 : decode cX8_when 28 = .ok (.invokevirtual 238, 3) := by decide +kernel
theorem dX8_when_31 : decode cX8_when 31 = .ok (.ireturn, 1) := by decide +kernel
theorem dX8_then_0 : decode cX8_then 0 = .ok (.iload_n 2, 1) := by decide +kernel
theorem dX8_then_1 : decode cX8_then 1 = .ok (.iconst 1, 1) := by decide +kernel
theorem dX8_then_2 : decode cX8_then 2 = .ok (.invokestatic 241, 3) := by decide +kernel
theorem dX8_then_5 : decode cX8_then 5 = .ok (.iload_n 1, 1) := by decide +kernel
theorem dX8_then_6 : decode cX8_then 6 = .ok (.iconst 0, 1) := by decide +kernel
theorem dX8_then_7 : decode cX8_then 7 = .ok (.bipush 96, 2) := by decide +kernel
theorem dX8_then_9 : decode cX8_then 9 = .ok (.invokestatic 231, 3) := by decide +kernel
theorem dX8_then_12 : decode cX8_then 12 = .ok (.aload_n 0, 1) := by decide +kernel
theorem dX8_then_13 : decode cX8_then 13 = .ok (.getfield 78, 3) := by decide +kernel
theorem dX8_then_16 : decode cX8_then 16 = .ok (.iload_n 1, 1) := by decide +kernel
theorem dX8_then_17 : decode cX8_then 17 = .ok (.iconst (-1), 1) := by decide +kernel
theorem dX8_then_18 : decode cX8_then 18 = .ok (.invokevirtual 245, 3) := by decide +kernel
theorem dX8_then_21 : decode cX8_then 21 = .ok (.astore_n 3, 1) := by decide +kernel
theorem dX8_then_22 : decode cX8_then 22 = .ok (.iload_n 2, 1) := by decide +kernel
theorem dX8_then_23 : decode cX8_then 23 = .ok (.ifCond .ne 10, 3) := by decide +kernel
theorem dX8_then_26 : decode cX8_then 26 = .ok (.aload_n 3, 1) := by decide +kernel
theorem dX8_then_27 : decode cX8_then 27 = .ok (.getfield 140, 3) := by decide +kernel
theorem dX8_then_30 : decode cX8_then 30 = .ok (.goto 7, 3) := by decide +kernel
theorem dX8_then_33 : decode cX8_then 33 = .ok (.aload_n 3, 1) := by decide +kernel
theorem dX8_then_34 : decode cX8_then 34 = .ok (.getfield 143, 3) := by decide +kernel
theorem dX8_then_37 : decode cX8_then 37 = .ok (.ireturn, 1) := by decide +kernel
theorem dX8_fails_0 : decode cX8_fails 0 = .ok (.iload_n 1, 1) := by decide +kernel
theorem dX8_fails_1 : decode cX8_fails 1 = .ok (.iconst 1, 1) := by decide +kernel
theorem dX8_fails_2 : decode cX8_fails 2 = .ok (.invokestatic 241, 3) := by decide +kernel
theorem dX8_fails_5 : decode cX8_fails 5 = .ok (.iload_n 1, 1) := by decide +kernel
theorem dX8_fails_6 : decode cX8_fails 6 = .ok (.ifCond .ne 13, 3) := by decide +kernel
theorem dX8_fails_9 : decode cX8_fails 9 = .ok (.aload_n 0, 1) := by decide +kernel
theorem dX8_fails_10 : decode cX8_fails 10 = .ok (.getfield 78, 3) := by decide +kernel
theorem dX8_fails_13 : decode cX8_fails 13 = .ok (.invokevirtual 249, 3) := by decide +kernel
theorem dX8_fails_16 : decode cX8_fails 16 = .ok (.goto 10, 3) := by decide +kernel
theorem dX8_fails_19 : decode cX8_fails 19 = .ok (.aload_n 0, 1) := by decide +kernel
theorem dX8_fails_20 : decode cX8_fails 20 = .ok (.getfield 78, 3) := by decide +kernel
theorem dX8_fails_23 : decode cX8_fails 23 = .ok (.invokevirtual 252, 3) := by decide +kernel
theorem dX8_fails_26 : decode cX8_fails 26 = .ok (.ireturn, 1) := by decide +kernel
theorem dX8_calls_0 : decode cX8_calls 0 = .ok (.iload_n 1, 1) := by decide +kernel
theorem dX8_calls_1 : decode cX8_calls 1 = .ok (.iconst 0, 1) := by decide +kernel
theorem dX8_calls_2 : decode cX8_calls 2 = .ok (.bipush 24, 2) := by decide +kernel
theorem dX8_calls_4 : decode cX8_calls 4 = .ok (.invokestatic 231, 3) := by decide +kernel
theorem dX8_calls_7 : decode cX8_calls 7 = .ok (.iload_n 2, 1) := by decide +kernel
theorem dX8_calls_8 : decode cX8_calls 8 = .ok (.iconst 0, 1) := by decide +kernel
theorem dX8_calls_9 : decode cX8_calls 9 = .ok (.bipush 96, 2) := by decide +kernel
theorem dX8_calls_11 : decode cX8_calls 11 = .ok (.invokestatic 231, 3) := by decide +kernel
theorem dX8_calls_14 : decode cX8_calls 14 = .ok (.aload_n 0, 1) := by decide +kernel
theorem dX8_calls_15 : decode cX8_calls 15 = .ok (.getfield 78, 3) := by decide +kernel
theorem dX8_calls_18 : decode cX8_calls 18 = .ok (.iload_n 1, 1) := by decide +kernel
theorem dX8_calls_19 : decode cX8_calls 19 = .ok (.iload_n 2, 1) := by decide +kernel
theorem dX8_calls_20 : decode cX8_calls 20 = .ok (.invokevirtual 255, 3) := by decide +kernel
theorem dX8_calls_23 : decode cX8_calls 23 = .ok (.ireturn, 1) := by decide +kernel
theorem dX8_toWind_0 : decode cX8_toWind 0 = .ok (.iload_n 1, 1) := by decide +kernel
theorem dX8_toWind_1 : decode cX8_toWind 1 = .ok (.iconst 1, 1) := by decide +kernel
theorem dX8_toWind_2 : decode cX8_toWind 2 = .ok (.bipush 96, 2) := by decide +kernel
theorem dX8_toWind_4 : decode cX8_toWind 4 = .ok (.invokestatic 231, 3) := by decide +kernel
theorem dX8_toWind_7 : decode cX8_toWind 7 = .ok (.iconst 0, 1) := by decide +kernel
theorem dX8_toWind_8 : decode cX8_toWind 8 = .ok (.iload_n 1, 1) := by decide +kernel
theorem dX8_toWind_9 : decode cX8_toWind 9 = .ok (.aload_n 0, 1) := by decide +kernel
theorem dX8_toWind_10 : decode cX8_toWind 10 = .ok (.getfield 42, 3) := by decide +kernel
theorem dX8_toWind_13 : decode cX8_toWind 13 = .ok (.getfield 64, 3) := by decide +kernel
theorem dX8_toWind_16 : decode cX8_toWind 16 = .ok (.getfield 134, 3) := by decide +kernel
theorem dX8_toWind_19 : decode cX8_toWind 19 = .ok (.isub, 1) := by decide +kernel
theorem dX8_toWind_20 : decode cX8_toWind 20 = .ok (.invokestatic 258, 3) := by decide +kernel
theorem dX8_toWind_23 : decode cX8_toWind 23 = .ok (.ireturn, 1) := by decide +kernel
theorem dX8_moving_0 : decode cX8_moving 0 = .ok (.aload_n 0, 1) := by decide +kernel
theorem dX8_moving_1 : decode cX8_moving 1 = .ok (.iload_n 1, 1) := by decide +kernel
theorem dX8_moving_2 : decode cX8_moving 2 = .ok (.invokevirtual 177, 3) := by decide +kernel
theorem dX8_moving_5 : decode cX8_moving 5 = .ok (.iload_n 2, 1) := by decide +kernel
theorem dX8_moving_6 : decode cX8_moving 6 = .ok (.iconst 1, 1) := by decide +kernel
theorem dX8_moving_7 : decode cX8_moving 7 = .ok (.invokestatic 241, 3) := by decide +kernel
theorem dX8_moving_10 : decode cX8_moving 10 = .ok (.aload_n 0, 1) := by decide +kernel
theorem dX8_moving_11 : decode cX8_moving 11 = .ok (.getfield 42, 3) := by decide +kernel
theorem dX8_moving_14 : decode cX8_moving 14 = .ok (.getfield 64, 3) := by decide +kernel
theorem dX8_moving_17 : decode cX8_moving 17 = .ok (.iload_n 1, 1) := by decide +kernel
theorem dX8_moving_18 : decode cX8_moving 18 = .ok (.invokevirtual 194, 3) := by decide +kernel
theorem dX8_moving_21 : decode cX8_moving 21 = .ok (.ifCond .eq 5, 3) := by decide +kernel
theorem dX8_moving_24 : decode cX8_moving 24 = .ok (.iconst (-1), 1) := by decide +kernel
theorem dX8_moving_25 : decode cX8_moving 25 = .ok (.ireturn, 1) := by decide +kernel
theorem dX8_moving_26 : decode cX8_moving 26 = .ok (.aload_n 0, 1) := by decide +kernel
theorem dX8_moving_27 : decode cX8_moving 27 = .ok (.getfield 78, 3) := by decide +kernel
theorem dX8_moving_30 : decode cX8_moving 30 = .ok (.iload_n 1, 1) := by decide +kernel
theorem dX8_moving_31 : decode cX8_moving 31 = .ok (.bipush 48, 2) := by decide +kernel
theorem dX8_moving_33 : decode cX8_moving 33 = .ok (.invokevirtual 261, 3) := by decide +kernel
theorem dX8_moving_36 : decode cX8_moving 36 = .ok (.istore_n 3, 1) := by decide +kernel
theorem dX8_moving_37 : decode cX8_moving 37 = .ok (.iload_n 2, 1) := by decide +kernel
theorem dX8_moving_38 : decode cX8_moving 38 = .ok (.iconst 1, 1) := by decide +kernel
theorem dX8_moving_39 : decode cX8_moving 39 = .ok (.if_icmp .eq 8, 3) := by decide +kernel
theorem dX8_moving_42 : decode cX8_moving 42 = .ok (.iload_n 3, 1) := by decide +kernel
theorem dX8_moving_43 : decode cX8_moving 43 = .ok (.iconst (-1), 1) := by decide +kernel
theorem dX8_moving_44 : decode cX8_moving 44 = .ok (.if_icmp .ne 7, 3) := by decide +kernel
theorem dX8_moving_47 : decode cX8_moving 47 = .ok (.iload_n 3, 1) := by decide +kernel
theorem dX8_moving_48 : decode cX8_moving 48 = .ok (.goto 15, 3) := by decide +kernel
theorem dX8_moving_51 : decode cX8_moving 51 = .ok (.aload_n 0, 1) := by decide +kernel
theorem dX8_moving_52 : decode cX8_moving 52 = .ok (.getfield 78, 3) := by decide +kernel
theorem dX8_moving_55 : decode cX8_moving 55 = .ok (.invokevirtual 264, 3) := by decide +kernel
theorem dX8_moving_58 : decode cX8_moving 58 = .ok (.getfield 183, 3) := by decide +kernel
theorem dX8_moving_61 : decode cX8_moving 61 = .ok (.iload_n 1, 1) := by decide +kernel
theorem dX8_moving_62 : decode cX8_moving 62 = .ok (.iaload, 1) := by decide +kernel
theorem dX8_moving_63 : decode cX8_moving 63 = .ok (.ireturn, 1) := by decide +kernel
theorem dX8_votes_0 : decode cX8_votes 0 = .ok (.aload_n 0, 1) := by decide +kernel
theorem dX8_votes_1 : decode cX8_votes 1 = .ok (.iload_n 1, 1) := by decide +kernel
theorem dX8_votes_2 : decode cX8_votes 2 = .ok (.invokevirtual 177, 3) := by decide +kernel
theorem dX8_votes_5 : decode cX8_votes 5 = .ok (.iload_n 2, 1) := by decide +kernel
theorem dX8_votes_6 : decode cX8_votes 6 = .ok (.iconst 0, 1) := by decide +kernel
theorem dX8_votes_7 : decode cX8_votes 7 = .ok (.bipush 24, 2) := by decide +kernel
theorem dX8_votes_9 : decode cX8_votes 9 = .ok (.invokestatic 231, 3) := by decide +kernel
theorem dX8_votes_12 : decode cX8_votes 12 = .ok (.aload_n 0, 1) := by decide +kernel
theorem dX8_votes_13 : decode cX8_votes 13 = .ok (.getfield 58, 3) := by decide +kernel
theorem dX8_votes_16 : decode cX8_votes 16 = .ok (.aload_n 0, 1) := by decide +kernel
theorem dX8_votes_17 : decode cX8_votes 17 = .ok (.getfield 42, 3) := by decide +kernel
theorem dX8_votes_20 : decode cX8_votes 20 = .ok (.getfield 64, 3) := by decide +kernel
theorem dX8_votes_23 : decode cX8_votes 23 = .ok (.iload_n 1, 1) := by decide +kernel
theorem dX8_votes_24 : decode cX8_votes 24 = .ok (.iload_n 2, 1) := by decide +kernel
theorem dX8_votes_25 : decode cX8_votes 25 = .ok (.invokevirtual 268, 3) := by decide +kernel
theorem dX8_votes_28 : decode cX8_votes 28 = .ok (.ireturn, 1) := by decide +kernel
theorem dX8_bought_0 : decode cX8_bought 0 = .ok (.aload_n 0, 1) := by decide +kernel
theorem dX8_bought_1 : decode cX8_bought 1 = .ok (.iload_n 1, 1) := by decide +kernel
theorem dX8_bought_2 : decode cX8_bought 2 = .ok (.invokevirtual 177, 3) := by decide +kernel
theorem dX8_bought_5 : decode cX8_bought 5 = .ok (.iload_n 2, 1) := by decide +kernel
theorem dX8_bought_6 : decode cX8_bought 6 = .ok (.iconst 0, 1) := by decide +kernel
theorem dX8_bought_7 : decode cX8_bought 7 = .ok (.bipush 24, 2) := by decide +kernel
theorem dX8_bought_9 : decode cX8_bought 9 = .ok (.invokestatic 231, 3) := by decide +kernel
theorem dX8_bought_12 : decode cX8_bought 12 = .ok (.aload_n 0, 1) := by decide +kernel
theorem dX8_bought_13 : decode cX8_bought 13 = .ok (.getfield 71, 3) := by decide +kernel
theorem dX8_bought_16 : decode cX8_bought 16 = .ok (.aload_n 0, 1) := by decide +kernel
theorem dX8_bought_17 : decode cX8_bought 17 = .ok (.getfield 58, 3) := by decide +kernel
theorem dX8_bought_20 : decode cX8_bought 20 = .ok (.aload_n 0, 1) := by decide +kernel
theorem dX8_bought_21 : decode cX8_bought 21 = .ok (.getfield 42, 3) := by decide +kernel
theorem dX8_bought_24 : decode cX8_bought 24 = .ok (.getfield 64, 3) := by decide +kernel
theorem dX8_bought_27 : decode cX8_bought 27 = .ok (.iload_n 1, 1) := by decide +kernel
theorem dX8_bought_28 : decode cX8_bought 28 = .ok (.iload_n 2, 1) := by decide +kernel
theorem dX8_bought_29 : decode cX8_bought 29 = .ok (.invokevirtual 268, 3) := by decide +kernel
theorem dX8_bought_32 : decode cX8_bought 32 = .ok (.invokevirtual 272, 3) := by decide +kernel
theorem dX8_bought_35 : decode cX8_bought 35 = .ok (.ireturn, 1) := by decide +kernel
theorem dX8_order_0 : decode cX8_order 0 = .ok (.iload_n 1, 1) := by decide +kernel
theorem dX8_order_1 : decode cX8_order 1 = .ok (.iconst 1, 1) := by decide +kernel
theorem dX8_order_2 : decode cX8_order 2 = .ok (.invokestatic 241, 3) := by decide +kernel
theorem dX8_order_5 : decode cX8_order 5 = .ok (.aload_n 0, 1) := by decide +kernel
theorem dX8_order_6 : decode cX8_order 6 = .ok (.getfield 71, 3) := by decide +kernel
theorem dX8_order_9 : decode cX8_order 9 = .ok (.invokevirtual 275, 3) := by decide +kernel
theorem dX8_order_12 : decode cX8_order 12 = .ok (.istore_n 2, 1) := by decide +kernel
theorem dX8_order_13 : decode cX8_order 13 = .ok (.iload_n 1, 1) := by decide +kernel
theorem dX8_order_14 : decode cX8_order 14 = .ok (.ifCond .ne 14, 3) := by decide +kernel
theorem dX8_order_17 : decode cX8_order 17 = .ok (.aload_n 0, 1) := by decide +kernel
theorem dX8_order_18 : decode cX8_order 18 = .ok (.getfield 71, 3) := by decide +kernel
theorem dX8_order_21 : decode cX8_order 21 = .ok (.iload_n 2, 1) := by decide +kernel
theorem dX8_order_22 : decode cX8_order 22 = .ok (.invokevirtual 278, 3) := by decide +kernel
theorem dX8_order_25 : decode cX8_order 25 = .ok (.goto 4, 3) := by decide +kernel
theorem dX8_order_28 : decode cX8_order 28 = .ok (.iload_n 2, 1) := by decide +kernel
theorem dX8_order_29 : decode cX8_order 29 = .ok (.ireturn, 1) := by decide +kernel
theorem dX8_bribery_0 : decode cX8_bribery 0 = .ok (.aload_n 0, 1) := by decide +kernel
theorem dX8_bribery_1 : decode cX8_bribery 1 = .ok (.iload_n 1, 1) := by decide +kernel
theorem dX8_bribery_2 : decode cX8_bribery 2 = .ok (.invokevirtual 177, 3) := by decide +kernel
theorem dX8_bribery_5 : decode cX8_bribery 5 = .ok (.iload_n 2, 1) := by decide +kernel
