theorem dX9_moving_97 : decode cX9_moving 97 = .ok (.if_icmp .lt 6, 3) := by decide +kernel
theorem dX9_moving_100 : decode cX9_moving 100 = .ok (.goto 11, 3) := by decide +kernel
theorem dX9_moving_103 : decode cX9_moving 103 = .ok (.iload 6, 2) := by decide +kernel
theorem dX9_moving_105 : decode cX9_moving 105 = .ok (.istore 4, 2) := by decide +kernel
theorem dX9_moving_107 : decode cX9_moving 107 = .ok (.iload 7, 2) := by decide +kernel
theorem dX9_moving_109 : decode cX9_moving 109 = .ok (.istore 5, 2) := by decide +kernel
theorem dX9_moving_111 : decode cX9_moving 111 = .ok (.iinc 6 1, 3) := by decide +kernel
theorem dX9_moving_114 : decode cX9_moving 114 = .ok (.goto (-57), 3) := by decide +kernel
theorem dX9_moving_117 : decode cX9_moving 117 = .ok (.aload_n 0, 1) := by decide +kernel
theorem dX9_moving_118 : decode cX9_moving 118 = .ok (.getfield 91, 3) := by decide +kernel
theorem dX9_moving_121 : decode cX9_moving 121 = .ok (.iload_n 1, 1) := by decide +kernel
theorem dX9_moving_122 : decode cX9_moving 122 = .ok (.iload_n 3, 1) := by decide +kernel
theorem dX9_moving_123 : decode cX9_moving 123 = .ok (.iastore, 1) := by decide +kernel
theorem dX9_moving_124 : decode cX9_moving 124 = .ok (.iload_n 2, 1) := by decide +kernel
theorem dX9_moving_125 : decode cX9_moving 125 = .ok (.ifCond .ne 8, 3) := by decide +kernel
theorem dX9_moving_128 : decode cX9_moving 128 = .ok (.iload 4, 2) := by decide +kernel
theorem dX9_moving_130 : decode cX9_moving 130 = .ok (.goto 5, 3) := by decide +kernel
theorem dX9_moving_133 : decode cX9_moving 133 = .ok (.iload 5, 2) := by decide +kernel
theorem dX9_moving_135 : decode cX9_moving 135 = .ok (.ireturn, 1) := by decide +kernel
set_option maxRecDepth 20000 in
theorem ggX9_votes_X9_isMotion : GoodIn wsX9_votes wsX9_isMotion := goodIn_r _ [7, 8, 9, 10, 6, 11, 47, 48, 49, 50, 51, 52, 53, 54, 55, 56, 57, 58, 59, 60, 61, 62, 63, 64, 65, 66, 67, 68, 69, 70, 71, 72, 73, 74, 75, 76, 77, 78, 79, 80, 81, 82, 83, 84, 85, 86, 87, 88, 89, 90, 91, 92, 93, 94, 95, 96, 97, 98, 99, 100, 101, 102, 103, 104, 105, 106, 107, 108, 109] (by decide +kernel) (by decide +kernel)
set_option maxRecDepth 20000 in
theorem gX9_votes_X9_isMotion : GoodIn wsX9_votes (wsV RX9 389 RX9 yX9_isMotion wsX9_isMotion) := goodIn_app (goodIn_of _ (by decide +kernel)) ggX9_votes_X9_isMotion
set_option maxRecDepth 20000 in
theorem ggX9_votes_X9_fail : GoodIn wsX9_votes wsX9_fail := goodIn_r _ [15, 1, 47, 48, 49, 50, 51, 52, 53, 54, 55, 56, 57, 58, 59, 60, 61, 62, 63, 64, 65, 66, 67, 68, 69, 70, 71, 72, 73, 74, 75, 76, 77, 78, 79, 80, 81, 82, 83, 84, 85, 86, 87, 88, 89, 90, 91, 92, 93, 94, 95, 96, 97, 98, 99, 100, 101, 102, 103, 104, 105, 106, 107, 108, 109] (by decide +kernel) (by decide +kernel)
set_option maxRecDepth 20000 in
theorem gX9_votes_X9_fail : GoodIn wsX9_votes (wsV RX9 299 RX9 yX9_fail wsX9_fail) := goodIn_app (goodIn_of _ (by decide +kernel)) ggX9_votes_X9_fail
set_option maxRecDepth 20000 in
theorem ggX9_votes_X9_isIn : GoodIn wsX9_votes wsX9_isIn := goodIn_r _ [11] (by decide +kernel) (by decide +kernel)
set_option maxRecDepth 20000 in
theorem gX9_votes_X9_isIn : GoodIn wsX9_votes (va_wsS RX9 155 yX9_isIn wsX9_isIn) := goodIn_app (goodIn_of _ (by decide +kernel)) ggX9_votes_X9_isIn
set_option maxRecDepth 20000 in
theorem ggX9_votes_X9_thoseFor : GoodIn wsX9_votes wsX9_thoseFor := goodIn_r _ [19, 8, 20, 21, 22, 23, 6, 24, 25, 26, 27, 28, 29, 30, 31, 32, 33, 34, 35, 36, 37, 38, 39, 40, 41, 42, 43, 44, 45, 46, 47, 48, 49, 50, 51, 52, 53, 54, 55, 56, 57, 58, 59, 60, 61, 62, 63, 64, 65, 66, 67, 68, 69, 70, 71, 72, 73, 74, 75, 76, 77, 78, 79, 80, 81, 82, 83, 84, 85, 86, 87, 88, 89, 90, 91, 92, 93, 94, 95, 96, 97, 98, 99, 100, 101, 102, 103, 104, 105, 106, 107, 108, 109] (by decide +kernel) (by decide +kernel)
set_option maxRecDepth 20000 in
theorem gX9_votes_X9_thoseFor : GoodIn wsX9_votes (wsV RX9 348 RX9 yX9_thoseFor wsX9_thoseFor) := goodIn_app (goodIn_of _ (by decide +kernel)) ggX9_votes_X9_thoseFor
theorem dX9_votes_0 : decode cX9_votes 0 = .ok (.aload_n 0, 1) := by decide +kernel
theorem dX9_votes_1 : decode cX9_votes 1 = .ok (.iconst 0, 1) := by decide +kernel
theorem dX9_votes_2 : decode cX9_votes 2 = .ok (.putfield 152, 3) := by decide +kernel
theorem dX9_votes_5 : decode cX9_votes 5 = .ok (.aload_n 0, 1) := by decide +kernel
theorem dX9_votes_6 : decode cX9_votes 6 = .ok (.iload_n 1, 1) := by decide +kernel
theorem dX9_votes_7 : decode cX9_votes 7 = .ok (.invokevirtual 389, 3) := by decide +kernel
theorem dX9_votes_10 : decode cX9_votes 10 = .ok (.ifCond .ne 9, 3) := by decide +kernel
theorem dX9_votes_13 : decode cX9_votes 13 = .ok (.aload_n 0, 1) := by decide +kernel
theorem dX9_votes_14 : decode cX9_votes 14 = .ok (.iconst 1, 1) := by decide +kernel
theorem dX9_votes_15 : decode cX9_votes 15 = .ok (.invokevirtual 299, 3) := by decide +kernel
theorem dX9_votes_18 : decode cX9_votes 18 = .ok (.ireturn, 1) := by decide +kernel
theorem dX9_votes_19 : decode cX9_votes 19 = .ok (.iload_n 2, 1) := by decide +kernel
theorem dX9_votes_20 : decode cX9_votes 20 = .ok (.i2l, 1) := by decide +kernel
theorem dX9_votes_21 : decode cX9_votes 21 = .ok (.lconst 0, 1) := by decide +kernel
theorem dX9_votes_22 : decode cX9_votes 22 = .ok (.ldc2_w 412, 3) := by decide +kernel
theorem dX9_votes_25 : decode cX9_votes 25 = .ok (.invokestatic 155, 3) := by decide +kernel
theorem dX9_votes_28 : decode cX9_votes 28 = .ok (.ifCond .eq 12, 3) := by decide +kernel
theorem dX9_votes_31 : decode cX9_votes 31 = .ok (.aload_n 0, 1) := by decide +kernel
theorem dX9_votes_32 : decode cX9_votes 32 = .ok (.iload_n 1, 1) := by decide +kernel
theorem dX9_votes_33 : decode cX9_votes 33 = .ok (.iload_n 2, 1) := by decide +kernel
theorem dX9_votes_34 : decode cX9_votes 34 = .ok (.invokevirtual 348, 3) := by decide +kernel
theorem dX9_votes_37 : decode cX9_votes 37 = .ok (.goto 8, 3) := by decide +kernel
theorem dX9_votes_40 : decode cX9_votes 40 = .ok (.aload_n 0, 1) := by decide +kernel
theorem dX9_votes_41 : decode cX9_votes 41 = .ok (.iconst 2, 1) := by decide +kernel
theorem dX9_votes_42 : decode cX9_votes 42 = .ok (.invokevirtual 299, 3) := by decide +kernel
theorem dX9_votes_45 : decode cX9_votes 45 = .ok (.ireturn, 1) := by decide +kernel
set_option maxRecDepth 20000 in
theorem ggX9_bought_X9_isMotion : GoodIn wsX9_bought wsX9_isMotion := goodIn_r _ [8, 3, 9, 10, 7, 11, 51, 52, 53, 54, 55, 56, 57, 58, 59, 60, 61, 62, 63, 64, 65, 66, 67, 68, 69, 70, 71, 72, 73, 74, 75, 76, 77, 78, 79, 80, 81, 82, 83, 84, 85, 86, 87, 88, 89, 90, 91, 92, 93, 94, 95, 96, 97, 98, 99, 100, 101, 102, 103, 104, 105, 106, 107, 108, 109, 110, 111, 112, 113] (by decide +kernel) (by decide +kernel)
set_option maxRecDepth 20000 in
theorem gX9_bought_X9_isMotion : GoodIn wsX9_bought (wsV RX9 389 RX9 yX9_isMotion wsX9_isMotion) := goodIn_app (goodIn_of _ (by decide +kernel)) ggX9_bought_X9_isMotion
set_option maxRecDepth 20000 in
theorem ggX9_bought_X9_fail : GoodIn wsX9_bought wsX9_fail := goodIn_r _ [15, 1, 51, 52, 53, 54, 55, 56, 57, 58, 59, 60, 61, 62, 63, 64, 65, 66, 67, 68, 69, 70, 71, 72, 73, 74, 75, 76, 77, 78, 79, 80, 81, 82, 83, 84, 85, 86, 87, 88, 89, 90, 91, 92, 93, 94, 95, 96, 97, 98, 99, 100, 101, 102, 103, 104, 105, 106, 107, 108, 109, 110, 111, 112, 113] (by decide +kernel) (by decide +kernel)
set_option maxRecDepth 20000 in
theorem gX9_bought_X9_fail : GoodIn wsX9_bought (wsV RX9 299 RX9 yX9_fail wsX9_fail) := goodIn_app (goodIn_of _ (by decide +kernel)) ggX9_bought_X9_fail
set_option maxRecDepth 20000 in
theorem ggX9_bought_X9_isIn : GoodIn wsX9_bought wsX9_isIn := goodIn_r _ [11] (by decide +kernel) (by decide +kernel)
set_option maxRecDepth 20000 in
theorem gX9_bought_X9_isIn : GoodIn wsX9_bought (va_wsS RX9 155 yX9_isIn wsX9_isIn) := goodIn_app (goodIn_of _ (by decide +kernel)) ggX9_bought_X9_isIn
set_option maxRecDepth 20000 in
theorem ggX9_bought_X9_thoseFor : GoodIn wsX9_bought wsX9_thoseFor := goodIn_r _ [19, 3, 20, 21, 22, 23, 7, 24, 25, 26, 27, 28, 29, 30, 31, 32, 33, 34, 35, 36, 37, 38, 39, 40, 41, 42, 43, 44, 45, 46, 51, 52, 53, 54, 55, 56, 57, 58, 59, 60, 61, 62, 63, 64, 65, 66, 67, 68, 69, 70, 71, 72, 73, 74, 75, 76, 77, 78, 79, 80, 81, 82, 83, 84, 85, 86, 87, 88, 89, 90, 91, 92, 93, 94, 95, 96, 97, 98, 99, 100, 101, 102, 103, 104, 105, 106, 107, 108, 109, 110, 111, 112, 113] (by decide +kernel) (by decide +kernel)
set_option maxRecDepth 20000 in
theorem gX9_bought_X9_thoseFor : GoodIn wsX9_bought (wsV RX9 348 RX9 yX9_thoseFor wsX9_thoseFor) := goodIn_app (goodIn_of _ (by decide +kernel)) ggX9_bought_X9_thoseFor
set_option maxRecDepth 20000 in
theorem ggX9_bought_X9_bitsOf : GoodIn wsX9_bought wsX9_bitsOf := goodIn_r _ [38] (by decide +kernel) (by decide +kernel)
set_option maxRecDepth 20000 in
theorem gX9_bought_X9_bitsOf : GoodIn wsX9_bought (va_wsS RX9 341 yX9_bitsOf wsX9_bitsOf) := goodIn_app (goodIn_of _ (by decide +kernel)) ggX9_bought_X9_bitsOf
set_option maxRecDepth 20000 in
theorem ggX9_bought_X9_isMore : GoodIn wsX9_bought wsX9_isMore := goodIn_r _ [50, 3, 51, 52, 53, 54, 55, 56, 57, 58, 59, 60, 61, 62, 63, 64, 65, 66, 67, 68, 69, 70, 71, 72, 73, 74, 75, 76, 77, 78, 79, 80, 81, 82, 83, 84, 85, 86, 87, 88, 89, 90, 91, 92, 93, 94, 95, 96, 97, 98, 99, 100, 101, 102, 103, 104, 105, 106, 107, 108, 109, 110, 111, 112, 113] (by decide +kernel) (by decide +kernel)
set_option maxRecDepth 20000 in
theorem gX9_bought_X9_isMore : GoodIn wsX9_bought (wsV RX9 351 RX9 yX9_isMore wsX9_isMore) := goodIn_app (goodIn_of _ (by decide +kernel)) ggX9_bought_X9_isMore
theorem dX9_bought_0 : decode cX9_bought 0 = .ok (.aload_n 0, 1) := by decide +kernel
theorem dX9_bought_1 : decode cX9_bought 1 = .ok (.iconst 0, 1) := by decide +kernel
theorem dX9_bought_2 : decode cX9_bought 2 = .ok (.putfield 152, 3) := by decide +kernel
theorem dX9_bought_5 : decode cX9_bought 5 = .ok (.aload_n 0, 1) := by decide +kernel
theorem dX9_bought_6 : decode cX9_bought 6 = .ok (.iload_n 1, 1) := by decide +kernel
theorem dX9_bought_7 : decode cX9_bought 7 = .ok (.invokevirtual 389, 3) := by decide +kernel
theorem dX9_bought_10 : decode cX9_bought 10 = .ok (.ifCond .ne 9, 3) := by decide +kernel
theorem dX9_bought_13 : decode cX9_bought 13 = .ok (.aload_n 0, 1) := by decide +kernel
theorem dX9_bought_14 : decode cX9_bought 14 = .ok (.iconst 1, 1) := by decide +kernel
theorem dX9_bought_15 : decode cX9_bought 15 = .ok (.invokevirtual 299, 3) := by decide +kernel
theorem dX9_bought_18 : decode cX9_bought 18 = .ok (.ireturn, 1) := by decide +kernel
theorem dX9_bought_19 : decode cX9_bought 19 = .ok (.iload_n 2, 1) := by decide +kernel
theorem dX9_bought_20 : decode cX9_bought 20 = .ok (.i2l, 1) := by decide +kernel
theorem dX9_bought_21 : decode cX9_bought 21 = .ok (.lconst 0, 1) := by decide +kernel
theorem dX9_bought_22 : decode cX9_bought 22 = .ok (.ldc2_w 412, 3) := by decide +kernel
theorem dX9_bought_25 : decode cX9_bought 25 = .ok (.invokestatic 155, 3) := by decide +kernel
theorem dX9_bought_28 : decode cX9_bought 28 = .ok (.ifCond .ne 9, 3) := by decide +kernel
theorem dX9_bought_31 : decode cX9_bought 31 = .ok (.aload_n 0, 1) := by decide +kernel
theorem dX9_bought_32 : decode cX9_bought 32 = .ok (.iconst 2, 1) := by decide +kernel
theorem dX9_bought_33 : decode cX9_bought 33 = .ok (.invokevirtual 299, 3) := by decide +kernel
theorem dX9_bought_36 : decode cX9_bought 36 = .ok (.ireturn, 1) := by decide +kernel
theorem dX9_bought_37 : decode cX9_bought 37 = .ok (.aload_n 0, 1) := by decide +kernel
theorem dX9_bought_38 : decode cX9_bought 38 = .ok (.iload_n 1, 1) := by decide +kernel
theorem dX9_bought_39 : decode cX9_bought 39 = .ok (.iload_n 2, 1) := by decide +kernel
theorem dX9_bought_40 : decode cX9_bought 40 = .ok (.invokevirtual 348, 3) := by decide +kernel
theorem dX9_bought_43 : decode cX9_bought 43 = .ok (.invokestatic 341, 3) := by decide +kernel
theorem dX9_bought_46 : decode cX9_bought 46 = .ok (.istore_n 3, 1) := by decide +kernel
theorem dX9_bought_47 : decode cX9_bought 47 = .ok (.iconst 0, 1) := by decide +kernel
theorem dX9_bought_48 : decode cX9_bought 48 = .ok (.istore 4, 2) := by decide +kernel
theorem dX9_bought_50 : decode cX9_bought 50 = .ok (.iload_n 3, 1) := by decide +kernel
theorem dX9_bought_51 : decode cX9_bought 51 = .ok (.iload 4, 2) := by decide +kernel
theorem dX9_bought_53 : decode cX9_bought 53 = .ok (.iadd, 1) := by decide +kernel
theorem dX9_bought_54 : decode cX9_bought 54 = .ok (.aload_n 0, 1) := by decide +kernel
theorem dX9_bought_55 : decode cX9_bought 55 = .ok (.getfield 50, 3) := by decide +kernel
theorem dX9_bought_58 : decode cX9_bought 58 = .ok (.iconst 3, 1) := by decide +kernel
theorem dX9_bought_59 : decode cX9_bought 59 = .ok (.iaload, 1) := by decide +kernel
theorem dX9_bought_60 : decode cX9_bought 60 = .ok (.if_icmp .ge 20, 3) := by decide +kernel
theorem dX9_bought_63 : decode cX9_bought 63 = .ok (.aload_n 0, 1) := by decide +kernel
theorem dX9_bought_64 : decode cX9_bought 64 = .ok (.iload_n 3, 1) := by decide +kernel
theorem dX9_bought_65 : decode cX9_bought 65 = .ok (.iload 4, 2) := by decide +kernel
theorem dX9_bought_67 : decode cX9_bought 67 = .ok (.iadd, 1) := by decide +kernel
theorem dX9_bought_68 : decode cX9_bought 68 = .ok (.invokevirtual 351, 3) := by decide +kernel
theorem dX9_bought_71 : decode cX9_bought 71 = .ok (.ifCond .ne 9, 3) := by decide +kernel
theorem dX9_bought_74 : decode cX9_bought 74 = .ok (.iinc 4 1, 3) := by decide +kernel
theorem dX9_bought_77 : decode cX9_bought 77 = .ok (.goto (-27), 3) := by decide +kernel
theorem dX9_bought_80 : decode cX9_bought 80 = .ok (.iload 4, 2) := by decide +kernel
theorem dX9_bought_82 : decode cX9_bought 82 = .ok (.ireturn, 1) := by decide +kernel
set_option maxRecDepth 20000 in
theorem ggX9_isWhole_X9_isOf : GoodIn wsX9_isWhole wsX9_isOf := goodIn_r _ [7] (by decide +kernel) (by decide +kernel)
set_option maxRecDepth 20000 in
theorem gX9_isWhole_X9_isOf : GoodIn wsX9_isWhole (va_wsS RX9 354 yX9_isOf wsX9_isOf) := goodIn_app (goodIn_of _ (by decide +kernel)) ggX9_isWhole_X9_isOf
theorem dX9_isWhole_0 : decode cX9_isWhole 0 = .ok (.iload_n 1, 1) := by decide +kernel
theorem dX9_isWhole_1 : decode cX9_isWhole 1 = .ok (.aload_n 0, 1) := by decide +kernel
theorem dX9_isWhole_2 : decode cX9_isWhole 2 = .ok (.getfield 319, 3) := by decide +kernel
theorem dX9_isWhole_5 : decode cX9_isWhole 5 = .ok (.iand, 1) := by decide +kernel
theorem dX9_isWhole_6 : decode cX9_isWhole 6 = .ok (.ifCond .ne 7, 3) := by decide +kernel
theorem dX9_isWhole_9 : decode cX9_isWhole 9 = .ok (.iconst 1, 1) := by decide +kernel
theorem dX9_isWhole_10 : decode cX9_isWhole 10 = .ok (.goto 4, 3) := by decide +kernel
theorem dX9_isWhole_13 : decode cX9_isWhole 13 = .ok (.iconst 0, 1) := by decide +kernel
theorem dX9_isWhole_14 : decode cX9_isWhole 14 = .ok (.istore_n 2, 1) := by decide +kernel
theorem dX9_isWhole_15 : decode cX9_isWhole 15 = .ok (.iconst 0, 1) := by decide +kernel
theorem dX9_isWhole_16 : decode cX9_isWhole 16 = .ok (.istore_n 3, 1) := by decide +kernel
theorem dX9_isWhole_17 : decode cX9_isWhole 17 = .ok (.iload_n 3, 1) := by decide +kernel
theorem dX9_isWhole_18 : decode cX9_isWhole 18 = .ok (.aload_n 0, 1) := by decide +kernel
theorem dX9_isWhole_19 : decode cX9_isWhole 19 = .ok (.getfield 50, 3) := by decide +kernel
theorem dX9_isWhole_22 : decode cX9_isWhole 22 = .ok (.iconst 4, 1) := by decide +kernel
theorem dX9_isWhole_23 : decode cX9_isWhole 23 = .ok (.iaload, 1) := by decide +kernel
theorem dX9_isWhole_24 : decode cX9_isWhole 24 = .ok (.if_icmp .ge 55, 3) := by decide +kernel
theorem dX9_isWhole_27 : decode cX9_isWhole 27 = .ok (.iload_n 2, 1) := by decide +kernel
theorem dX9_isWhole_28 : decode cX9_isWhole 28 = .ok (.ifCond .eq 51, 3) := by decide +kernel
theorem dX9_isWhole_31 : decode cX9_isWhole 31 = .ok (.iload_n 1, 1) := by decide +kernel
theorem dX9_isWhole_32 : decode cX9_isWhole 32 = .ok (.iload_n 3, 1) := by decide +kernel
theorem dX9_isWhole_33 : decode cX9_isWhole 33 = .ok (.invokestatic 354, 3) := by decide +kernel
theorem dX9_isWhole_36 : decode cX9_isWhole 36 = .ok (.ifCond .eq 31, 3) := by decide +kernel
theorem dX9_isWhole_39 : decode cX9_isWhole 39 = .ok (.aload_n 0, 1) := by decide +kernel
theorem dX9_isWhole_40 : decode cX9_isWhole 40 = .ok (.getfield 70, 3) := by decide +kernel
theorem dX9_isWhole_43 : decode cX9_isWhole 43 = .ok (.iload_n 3, 1) := by decide +kernel
theorem dX9_isWhole_44 : decode cX9_isWhole 44 = .ok (.iaload, 1) := by decide +kernel
theorem dX9_isWhole_45 : decode cX9_isWhole 45 = .ok (.iconst (-1), 1) := by decide +kernel
theorem dX9_isWhole_46 : decode cX9_isWhole 46 = .ok (.if_icmp .eq 21, 3) := by decide +kernel
theorem dX9_isWhole_49 : decode cX9_isWhole 49 = .ok (.iload_n 1, 1) := by decide +kernel
theorem dX9_isWhole_50 : decode cX9_isWhole 50 = .ok (.aload_n 0, 1) := by decide +kernel
theorem dX9_isWhole_51 : decode cX9_isWhole 51 = .ok (.getfield 319, 3) := by decide +kernel
theorem dX9_isWhole_54 : decode cX9_isWhole 54 = .ok (.ior, 1) := by decide +kernel
theorem dX9_isWhole_55 : decode cX9_isWhole 55 = .ok (.aload_n 0, 1) := by decide +kernel
theorem dX9_isWhole_56 : decode cX9_isWhole 56 = .ok (.getfield 70, 3) := by decide +kernel
theorem dX9_isWhole_59 : decode cX9_isWhole 59 = .ok (.iload_n 3, 1) := by decide +kernel
theorem dX9_isWhole_60 : decode cX9_isWhole 60 = .ok (.iaload, 1) := by decide +kernel
theorem dX9_isWhole_61 : decode cX9_isWhole 61 = .ok (.invokestatic 354, 3) := by decide +kernel
theorem dX9_isWhole_64 : decode cX9_isWhole 64 = .ok (.ifCond .eq 7, 3) := by decide +kernel
theorem dX9_isWhole_67 : decode cX9_isWhole 67 = .ok (.iconst 1, 1) := by decide +kernel
theorem dX9_isWhole_68 : decode cX9_isWhole 68 = .ok (.goto 4, 3) := by decide +kernel
theorem dX9_isWhole_71 : decode cX9_isWhole 71 = .ok (.iconst 0, 1) := by decide +kernel
theorem dX9_isWhole_72 : decode cX9_isWhole 72 = .ok (.istore_n 2, 1) := by decide +kernel
theorem dX9_isWhole_73 : decode cX9_isWhole 73 = .ok (.iinc 3 1, 3) := by decide +kernel
theorem dX9_isWhole_76 : decode cX9_isWhole 76 = .ok (.goto (-59), 3) := by decide +kernel
theorem dX9_isWhole_79 : decode cX9_isWhole 79 = .ok (.iload_n 2, 1) := by decide +kernel
theorem dX9_isWhole_80 : decode cX9_isWhole 80 = .ok (.ireturn, 1) := by decide +kernel
set_option maxRecDepth 20000 in
theorem ggX9_sumOf_X9_isOf : GoodIn wsX9_sumOf wsX9_isOf := goodIn_r _ [7] (by decide +kernel) (by decide +kernel)
set_option maxRecDepth 20000 in
theorem gX9_sumOf_X9_isOf : GoodIn wsX9_sumOf (va_wsS RX9 354 yX9_isOf wsX9_isOf) := goodIn_app (goodIn_of _ (by decide +kernel)) ggX9_sumOf_X9_isOf
set_option maxRecDepth 20000 in
theorem ggX9_sumOf_X9_joyOf : GoodIn wsX9_sumOf wsX9_joyOf := goodIn_r _ [11, 2, 12, 13, 14, 15, 16, 17, 18, 19, 20, 21, 22, 23, 24, 25, 26, 27, 28, 29, 30, 31, 32, 33, 34, 35, 36, 37, 38, 39, 40, 41, 42, 43, 44, 45, 46, 47, 48, 49, 50, 51, 52, 53, 54, 55, 56, 57, 58, 59, 60, 61, 62, 63, 64, 65, 66, 67, 68, 69, 70, 71, 72, 73, 74, 75] (by decide +kernel) (by decide +kernel)
set_option maxRecDepth 20000 in
theorem gX9_sumOf_X9_joyOf : GoodIn wsX9_sumOf (wsV RX9 372 RX9 yX9_joyOf wsX9_joyOf) := goodIn_app (goodIn_of _ (by decide +kernel)) ggX9_sumOf_X9_joyOf
theorem dX9_sumOf_0 : decode cX9_sumOf 0 = .ok (.iconst 0, 1) := by decide +kernel
theorem dX9_sumOf_1 : decode cX9_sumOf 1 = .ok (.istore_n 3, 1) := by decide +kernel
theorem dX9_sumOf_2 : decode cX9_sumOf 2 = .ok (.iconst 0, 1) := by decide +kernel
theorem dX9_sumOf_3 : decode cX9_sumOf 3 = .ok (.istore 4, 2) := by decide +kernel
theorem dX9_sumOf_5 : decode cX9_sumOf 5 = .ok (.iload 4, 2) := by decide +kernel
theorem dX9_sumOf_7 : decode cX9_sumOf 7 = .ok (.aload_n 0, 1) := by decide +kernel
theorem dX9_sumOf_8 : decode cX9_sumOf 8 = .ok (.getfield 50, 3) := by decide +kernel
theorem dX9_sumOf_11 : decode cX9_sumOf 11 = .ok (.iconst 4, 1) := by decide +kernel
theorem dX9_sumOf_12 : decode cX9_sumOf 12 = .ok (.iaload, 1) := by decide +kernel
theorem dX9_sumOf_13 : decode cX9_sumOf 13 = .ok (.if_icmp .ge 67, 3) := by decide +kernel
theorem dX9_sumOf_16 : decode cX9_sumOf 16 = .ok (.iload_n 3, 1) := by decide +kernel
theorem dX9_sumOf_17 : decode cX9_sumOf 17 = .ok (.iload_n 1, 1) := by decide +kernel
theorem dX9_sumOf_18 : decode cX9_sumOf 18 = .ok (.iload 4, 2) := by decide +kernel
theorem dX9_sumOf_20 : decode cX9_sumOf 20 = .ok (.invokestatic 354, 3) := by decide +kernel
theorem dX9_sumOf_23 : decode cX9_sumOf 23 = .ok (.ifCond .ne 7, 3) := by decide +kernel
theorem dX9_sumOf_26 : decode cX9_sumOf 26 = .ok (.iconst 0, 1) := by decide +kernel
theorem dX9_sumOf_27 : decode cX9_sumOf 27 = .ok (.goto 45, 3) := by decide +kernel
theorem dX9_sumOf_30 : decode cX9_sumOf 30 = .ok (.iload_n 2, 1) := by decide +kernel
theorem dX9_sumOf_31 : decode cX9_sumOf 31 = .ok (.ifCond .eq 12, 3) := by decide +kernel
theorem dX9_sumOf_34 : decode cX9_sumOf 34 = .ok (.aload_n 0, 1) := by decide +kernel
theorem dX9_sumOf_35 : decode cX9_sumOf 35 = .ok (.iload 4, 2) := by decide +kernel
theorem dX9_sumOf_37 : decode cX9_sumOf 37 = .ok (.invokevirtual 372, 3) := by decide +kernel
theorem dX9_sumOf_40 : decode cX9_sumOf 40 = .ok (.goto 32, 3) := by decide +kernel
theorem dX9_sumOf_43 : decode cX9_sumOf 43 = .ok (.aload_n 0, 1) := by decide +kernel
theorem dX9_sumOf_44 : decode cX9_sumOf 44 = .ok (.getfield 60, 3) := by decide +kernel
theorem dX9_sumOf_47 : decode cX9_sumOf 47 = .ok (.iload 4, 2) := by decide +kernel
theorem dX9_sumOf_49 : decode cX9_sumOf 49 = .ok (.iaload, 1) := by decide +kernel
theorem dX9_sumOf_50 : decode cX9_sumOf 50 = .ok (.iconst 2, 1) := by decide +kernel
theorem dX9_sumOf_51 : decode cX9_sumOf 51 = .ok (.if_icmp .ne 14, 3) := by decide +kernel
theorem dX9_sumOf_54 : decode cX9_sumOf 54 = .ok (.aload_n 0, 1) := by decide +kernel
theorem dX9_sumOf_55 : decode cX9_sumOf 55 = .ok (.getfield 65, 3) := by decide +kernel
theorem dX9_sumOf_58 : decode cX9_sumOf 58 = .ok (.iload 4, 2) := by decide +kernel
theorem dX9_sumOf_60 : decode cX9_sumOf 60 = .ok (.iaload, 1) := by decide +kernel
theorem dX9_sumOf_61 : decode cX9_sumOf 61 = .ok (.ineg, 1) := by decide +kernel
theorem dX9_sumOf_62 : decode cX9_sumOf 62 = .ok (.goto 10, 3) := by decide +kernel
theorem dX9_sumOf_65 : decode cX9_sumOf 65 = .ok (.aload_n 0, 1) := by decide +kernel
theorem dX9_sumOf_66 : decode cX9_sumOf 66 = .ok (.getfield 65, 3) := by decide +kernel
theorem dX9_sumOf_69 : decode cX9_sumOf 69 = .ok (.iload 4, 2) := by decide +kernel
theorem dX9_sumOf_71 : decode cX9_sumOf 71 = .ok (.iaload, 1) := by decide +kernel
theorem dX9_sumOf_72 : decode cX9_sumOf 72 = .ok (.iadd, 1) := by decide +kernel
theorem dX9_sumOf_73 : decode cX9_sumOf 73 = .ok (.istore_n 3, 1) := by decide +kernel
theorem dX9_sumOf_74 : decode cX9_sumOf 74 = .ok (.iinc 4 1, 3) := by decide +kernel
theorem dX9_sumOf_77 : decode cX9_sumOf 77 = .ok (.goto (-72), 3) := by decide +kernel
theorem dX9_sumOf_80 : decode cX9_sumOf 80 = .ok (.iload_n 3, 1) := by decide +kernel
theorem dX9_sumOf_81 : decode cX9_sumOf 81 = .ok (.ireturn, 1) := by decide +kernel
set_option maxRecDepth 20000 in
theorem ggX9_order_X9_fail : GoodIn wsX9_order wsX9_fail := goodIn_r _ [8, 1, 32, 33, 34, 35, 36, 37, 38, 39, 40, 41, 42, 43, 44, 45, 46, 47, 48, 49, 50, 51, 52, 53, 54, 55, 56, 57, 58, 59, 60, 61, 62, 63, 64, 65, 66, 67, 68, 69, 70, 71, 72, 73, 74, 75, 76, 77, 78, 79, 80, 81, 82, 83, 84, 85, 86, 87, 88, 89, 90, 91, 92, 93, 94] (by decide +kernel) (by decide +kernel)
set_option maxRecDepth 20000 in
theorem gX9_order_X9_fail : GoodIn wsX9_order (wsV RX9 299 RX9 yX9_fail wsX9_fail) := goodIn_app (goodIn_of _ (by decide +kernel)) ggX9_order_X9_fail
set_option maxRecDepth 20000 in
theorem ggX9_order_X9_isWhole : GoodIn wsX9_order wsX9_isWhole := goodIn_r _ [12, 13, 2, 14, 15, 16, 7, 17, 32, 33, 34, 35, 36, 37, 38, 39, 40, 41, 42, 43, 44, 45, 46, 47, 48, 49, 50, 51, 52, 53, 54, 55, 56, 57, 58, 59, 60, 61, 62, 63, 64, 65, 66, 67, 68, 69, 70, 71, 72, 73, 74, 75, 76, 77, 78, 79, 80, 81, 82, 83, 84, 85, 86, 87, 88, 89, 90, 91, 92, 93, 94] (by decide +kernel) (by decide +kernel)
set_option maxRecDepth 20000 in
theorem gX9_order_X9_isWhole : GoodIn wsX9_order (wsV RX9 424 RX9 yX9_isWhole wsX9_isWhole) := goodIn_app (goodIn_of _ (by decide +kernel)) ggX9_order_X9_isWhole
set_option maxRecDepth 20000 in
theorem ggX9_order_X9_sumOf : GoodIn wsX9_order wsX9_sumOf := goodIn_r _ [21, 2, 22, 23, 15, 16, 7, 17, 24, 25, 26, 27, 28, 32, 33, 34, 35, 36, 37, 38, 39, 40, 41, 42, 43, 44, 45, 46, 47, 48, 49, 50, 51, 52, 53, 54, 55, 56, 57, 58, 59, 60, 61, 62, 63, 64, 65, 66, 67, 68, 69, 70, 71, 72, 73, 74, 75, 76, 77, 78, 79, 80, 81, 82, 83, 84, 85, 86, 87, 88, 89, 90, 91, 92, 93, 94] (by decide +kernel) (by decide +kernel)
set_option maxRecDepth 20000 in
theorem gX9_order_X9_sumOf : GoodIn wsX9_order (wsV RX9 427 RX9 yX9_sumOf wsX9_sumOf) := goodIn_app (goodIn_of _ (by decide +kernel)) ggX9_order_X9_sumOf
set_option maxRecDepth 20000 in
theorem ggX9_order_X9_bitsOf : GoodIn wsX9_order wsX9_bitsOf := goodIn_r _ [31] (by decide +kernel) (by decide +kernel)
set_option maxRecDepth 20000 in
theorem gX9_order_X9_bitsOf : GoodIn wsX9_order (va_wsS RX9 341 yX9_bitsOf wsX9_bitsOf) := goodIn_app (goodIn_of _ (by decide +kernel)) ggX9_order_X9_bitsOf
theorem dX9_order_0 : decode cX9_order 0 = .ok (.aload_n 0, 1) := by decide +kernel
theorem dX9_order_1 : decode cX9_order 1 = .ok (.iconst 0, 1) := by decide +kernel
theorem dX9_order_2 : decode cX9_order 2 = .ok (.putfield 152, 3) := by decide +kernel
theorem dX9_order_5 : decode cX9_order 5 = .ok (.iload_n 1, 1) := by decide +kernel
theorem dX9_order_6 : decode cX9_order 6 = .ok (.ifCond .lt 8, 3) := by decide +kernel
theorem dX9_order_9 : decode cX9_order 9 = .ok (.iload_n 1, 1) := by decide +kernel
theorem dX9_order_10 : decode cX9_order 10 = .ok (.iconst 1, 1) := by decide +kernel
theorem dX9_order_11 : decode cX9_order 11 = .ok (.if_icmp .le 9, 3) := by decide +kernel
theorem dX9_order_14 : decode cX9_order 14 = .ok (.aload_n 0, 1) := by decide +kernel
theorem dX9_order_15 : decode cX9_order 15 = .ok (.iconst 1, 1) := by decide +kernel
theorem dX9_order_16 : decode cX9_order 16 = .ok (.invokevirtual 299, 3) := by decide +kernel
theorem dX9_order_19 : decode cX9_order 19 = .ok (.ireturn, 1) := by decide +kernel
theorem dX9_order_20 : decode cX9_order 20 = .ok (.iconst 0, 1) := by decide +kernel
theorem dX9_order_21 : decode cX9_order 21 = .ok (.istore_n 2, 1) := by decide +kernel
theorem dX9_order_22 : decode cX9_order 22 = .ok (.iconst 1, 1) := by decide +kernel
theorem dX9_order_23 : decode cX9_order 23 = .ok (.istore_n 3, 1) := by decide +kernel
theorem dX9_order_24 : decode cX9_order 24 = .ok (.iload_n 3, 1) := by decide +kernel
theorem dX9_order_25 : decode cX9_order 25 = .ok (.iconst 1, 1) := by decide +kernel
theorem dX9_order_26 : decode cX9_order 26 = .ok (.aload_n 0, 1) := by decide +kernel
theorem dX9_order_27 : decode cX9_order 27 = .ok (.getfield 50, 3) := by decide +kernel
theorem dX9_order_30 : decode cX9_order 30 = .ok (.iconst 4, 1) := by decide +kernel
theorem dX9_order_31 : decode cX9_order 31 = .ok (.iaload, 1) := by decide +kernel
theorem dX9_order_32 : decode cX9_order 32 = .ok (.ishl, 1) := by decide +kernel
theorem dX9_order_33 : decode cX9_order 33 = .ok (.if_icmp .ge 71, 3) := by decide +kernel
theorem dX9_order_36 : decode cX9_order 36 = .ok (.aload_n 0, 1) := by decide +kernel
theorem dX9_order_37 : decode cX9_order 37 = .ok (.iload_n 3, 1) := by decide +kernel
theorem dX9_order_38 : decode cX9_order 38 = .ok (.invokevirtual 424, 3) := by decide +kernel
theorem dX9_order_41 : decode cX9_order 41 = .ok (.ifCond .eq 57, 3) := by decide +kernel
theorem dX9_order_44 : decode cX9_order 44 = .ok (.aload_n 0, 1) := by decide +kernel
theorem dX9_order_45 : decode cX9_order 45 = .ok (.iload_n 3, 1) := by decide +kernel
theorem dX9_order_46 : decode cX9_order 46 = .ok (.iconst 0, 1) := by decide +kernel
theorem dX9_order_47 : decode cX9_order 47 = .ok (.invokevirtual 427, 3) := by decide +kernel
theorem dX9_order_50 : decode cX9_order 50 = .ok (.aload_n 0, 1) := by decide +kernel
theorem dX9_order_51 : decode cX9_order 51 = .ok (.getfield 149, 3) := by decide +kernel
theorem dX9_order_54 : decode cX9_order 54 = .ok (.if_icmp .le 6, 3) := by decide +kernel
theorem dX9_order_57 : decode cX9_order 57 = .ok (.goto 41, 3) := by decide +kernel
theorem dX9_order_60 : decode cX9_order 60 = .ok (.aload_n 0, 1) := by decide +kernel
theorem dX9_order_61 : decode cX9_order 61 = .ok (.iload_n 3, 1) := by decide +kernel
theorem dX9_order_62 : decode cX9_order 62 = .ok (.iconst 1, 1) := by decide +kernel
theorem dX9_order_63 : decode cX9_order 63 = .ok (.invokevirtual 427, 3) := by decide +kernel
theorem dX9_order_66 : decode cX9_order 66 = .ok (.aload_n 0, 1) := by decide +kernel
theorem dX9_order_67 : decode cX9_order 67 = .ok (.iload_n 2, 1) := by decide +kernel
theorem dX9_order_68 : decode cX9_order 68 = .ok (.iconst 1, 1) := by decide +kernel
theorem dX9_order_69 : decode cX9_order 69 = .ok (.invokevirtual 427, 3) := by decide +kernel
theorem dX9_order_72 : decode cX9_order 72 = .ok (.isub, 1) := by decide +kernel
theorem dX9_order_73 : decode cX9_order 73 = .ok (.istore 4, 2) := by decide +kernel
theorem dX9_order_75 : decode cX9_order 75 = .ok (.iload 4, 2) := by decide +kernel
theorem dX9_order_77 : decode cX9_order 77 = .ok (.ifCond .gt 19, 3) := by decide +kernel
theorem dX9_order_80 : decode cX9_order 80 = .ok (.iload 4, 2) := by decide +kernel
theorem dX9_order_82 : decode cX9_order 82 = .ok (.ifCond .ne 16, 3) := by decide +kernel
theorem dX9_order_85 : decode cX9_order 85 = .ok (.iload_n 3, 1) := by decide +kernel
theorem dX9_order_86 : decode cX9_order 86 = .ok (.invokestatic 341, 3) := by decide +kernel
theorem dX9_order_89 : decode cX9_order 89 = .ok (.iload_n 2, 1) := by decide +kernel
theorem dX9_order_90 : decode cX9_order 90 = .ok (.invokestatic 341, 3) := by decide +kernel
theorem dX9_order_93 : decode cX9_order 93 = .ok (.if_icmp .ge 5, 3) := by decide +kernel
theorem dX9_order_96 : decode cX9_order 96 = .ok (.iload_n 3, 1) := by decide +kernel
theorem dX9_order_97 : decode cX9_order 97 = .ok (.istore_n 2, 1) := by decide +kernel
theorem dX9_order_98 : decode cX9_order 98 = .ok (.iinc 3 1, 3) := by decide +kernel
theorem dX9_order_101 : decode cX9_order 101 = .ok (.goto (-77), 3) := by decide +kernel
theorem dX9_order_104 : decode cX9_order 104 = .ok (.iload_n 1, 1) := by decide +kernel
theorem dX9_order_105 : decode cX9_order 105 = .ok (.ifCond .ne 12, 3) := by decide +kernel
theorem dX9_order_108 : decode cX9_order 108 = .ok (.aload_n 0, 1) := by decide +kernel
theorem dX9_order_109 : decode cX9_order 109 = .ok (.iload_n 2, 1) := by decide +kernel
theorem dX9_order_110 : decode cX9_order 110 = .ok (.iconst 1, 1) := by decide +kernel
theorem dX9_order_111 : decode cX9_order 111 = .ok (.invokevirtual 427, 3) := by decide +kernel
theorem dX9_order_114 : decode cX9_order 114 = .ok (.goto 4, 3) := by decide +kernel
theorem dX9_order_117 : decode cX9_order 117 = .ok (.iload_n 2, 1) := by decide +kernel
theorem dX9_order_118 : decode cX9_order 118 = .ok (.ireturn, 1) := by decide +kernel
set_option maxRecDepth 20000 in
theorem ggX9_extraOf_X9_isFor : GoodIn wsX9_extraOf wsX9_isFor := goodIn_r _ [6, 7, 8, 9, 10, 11, 12, 13, 14, 15, 16, 17, 18, 19, 20, 5, 21, 22, 23, 24, 25, 26, 27, 28, 29, 30, 31, 32, 33, 34, 35, 36, 37, 38, 39, 40, 41, 42, 43, 44, 45, 46, 47, 48, 49, 50, 51, 52, 53, 54, 55, 56, 57, 58, 59, 60, 61, 62, 63, 64, 65, 66, 67, 68, 69, 70, 71, 72, 73, 74, 75, 76, 77, 78, 79, 80, 81, 82, 83, 84, 85, 86, 87, 88, 89, 90, 91, 92] (by decide +kernel) (by decide +kernel)
set_option maxRecDepth 20000 in
theorem gX9_extraOf_X9_isFor : GoodIn wsX9_extraOf (wsV RX9 344 RX9 yX9_isFor wsX9_isFor) := goodIn_app (goodIn_of _ (by decide +kernel)) ggX9_extraOf_X9_isFor
theorem dX9_extraOf_0 : decode cX9_extraOf 0 = .ok (.iconst 0, 1) := by decide +kernel
theorem dX9_extraOf_1 : decode cX9_extraOf 1 = .ok (.istore 4, 2) := by decide +kernel
theorem dX9_extraOf_3 : decode cX9_extraOf 3 = .ok (.aload_n 0, 1) := by decide +kernel
theorem dX9_extraOf_4 : decode cX9_extraOf 4 = .ok (.getfield 89, 3) := by decide +kernel
theorem dX9_extraOf_7 : decode cX9_extraOf 7 = .ok (.iload_n 1, 1) := by decide +kernel
theorem dX9_extraOf_8 : decode cX9_extraOf 8 = .ok (.iaload, 1) := by decide +kernel
theorem dX9_extraOf_9 : decode cX9_extraOf 9 = .ok (.iload 4, 2) := by decide +kernel
theorem dX9_extraOf_11 : decode cX9_extraOf 11 = .ok (.iadd, 1) := by decide +kernel
theorem dX9_extraOf_12 : decode cX9_extraOf 12 = .ok (.bipush 9, 2) := by decide +kernel
theorem dX9_extraOf_14 : decode cX9_extraOf 14 = .ok (.if_icmp .gt 31, 3) := by decide +kernel
theorem dX9_extraOf_17 : decode cX9_extraOf 17 = .ok (.aload_n 0, 1) := by decide +kernel
theorem dX9_extraOf_18 : decode cX9_extraOf 18 = .ok (.iload_n 1, 1) := by decide +kernel
theorem dX9_extraOf_19 : decode cX9_extraOf 19 = .ok (.aload_n 0, 1) := by decide +kernel
theorem dX9_extraOf_20 : decode cX9_extraOf 20 = .ok (.getfield 89, 3) := by decide +kernel
theorem dX9_extraOf_23 : decode cX9_extraOf 23 = .ok (.iload_n 1, 1) := by decide +kernel
theorem dX9_extraOf_24 : decode cX9_extraOf 24 = .ok (.iaload, 1) := by decide +kernel
theorem dX9_extraOf_25 : decode cX9_extraOf 25 = .ok (.iload 4, 2) := by decide +kernel
theorem dX9_extraOf_27 : decode cX9_extraOf 27 = .ok (.iadd, 1) := by decide +kernel
theorem dX9_extraOf_28 : decode cX9_extraOf 28 = .ok (.iload_n 2, 1) := by decide +kernel
theorem dX9_extraOf_29 : decode cX9_extraOf 29 = .ok (.iload_n 3, 1) := by decide +kernel
theorem dX9_extraOf_30 : decode cX9_extraOf 30 = .ok (.invokevirtual 344, 3) := by decide +kernel
theorem dX9_extraOf_33 : decode cX9_extraOf 33 = .ok (.ifCond .eq 6, 3) := by decide +kernel
theorem dX9_extraOf_36 : decode cX9_extraOf 36 = .ok (.iload 4, 2) := by decide +kernel
theorem dX9_extraOf_38 : decode cX9_extraOf 38 = .ok (.ireturn, 1) := by decide +kernel
theorem dX9_extraOf_39 : decode cX9_extraOf 39 = .ok (.iinc 4 1, 3) := by decide +kernel
theorem dX9_extraOf_42 : decode cX9_extraOf 42 = .ok (.goto (-39), 3) := by decide +kernel
theorem dX9_extraOf_45 : decode cX9_extraOf 45 = .ok (.sipush 1000, 3) := by decide +kernel
theorem dX9_extraOf_48 : decode cX9_extraOf 48 = .ok (.ireturn, 1) := by decide +kernel
set_option maxRecDepth 20000 in
theorem ggX9_bribery_X9_isMotion : GoodIn wsX9_bribery wsX9_isMotion := goodIn_r _ [9, 3, 10, 11, 8, 12, 52, 53, 54, 55, 56, 57, 58, 59, 60, 61, 62, 63, 64, 65, 66, 67, 68, 69, 70, 71, 72, 73, 74, 75, 76, 77, 78, 79, 80, 81, 82, 83, 84, 85, 86, 87, 88, 89, 90, 91, 92, 93, 94, 95, 96, 97, 98, 99, 100, 101, 102, 103, 104, 105, 106, 107, 108, 109, 110, 111, 112, 113, 114] (by decide +kernel) (by decide +kernel)
set_option maxRecDepth 20000 in
theorem gX9_bribery_X9_isMotion : GoodIn wsX9_bribery (wsV RX9 389 RX9 yX9_isMotion wsX9_isMotion) := goodIn_app (goodIn_of _ (by decide +kernel)) ggX9_bribery_X9_isMotion
set_option maxRecDepth 20000 in
theorem ggX9_bribery_X9_fail : GoodIn wsX9_bribery wsX9_fail := goodIn_r _ [16, 1, 52, 53, 54, 55, 56, 57, 58, 59, 60, 61, 62, 63, 64, 65, 66, 67, 68, 69, 70, 71, 72, 73, 74, 75, 76, 77, 78, 79, 80, 81, 82, 83, 84, 85, 86, 87, 88, 89, 90, 91, 92, 93, 94, 95, 96, 97, 98, 99, 100, 101, 102, 103, 104, 105, 106, 107, 108, 109, 110, 111, 112, 113, 114] (by decide +kernel) (by decide +kernel)
set_option maxRecDepth 20000 in
theorem gX9_bribery_X9_fail : GoodIn wsX9_bribery (wsV RX9 299 RX9 yX9_fail wsX9_fail) := goodIn_app (goodIn_of _ (by decide +kernel)) ggX9_bribery_X9_fail
set_option maxRecDepth 20000 in
theorem ggX9_bribery_X9_isIn : GoodIn wsX9_bribery wsX9_isIn := goodIn_r _ [12] (by decide +kernel) (by decide +kernel)
set_option maxRecDepth 20000 in
theorem gX9_bribery_X9_isIn : GoodIn wsX9_bribery (va_wsS RX9 155 yX9_isIn wsX9_isIn) := goodIn_app (goodIn_of _ (by decide +kernel)) ggX9_bribery_X9_isIn
set_option maxRecDepth 20000 in
theorem ggX9_bribery_X9_extraOf : GoodIn wsX9_bribery wsX9_extraOf := goodIn_r _ [20, 21, 22, 23, 24, 8, 25, 3, 26, 27, 28, 29, 30, 31, 32, 33, 34, 35, 36, 37, 38, 39, 40, 41, 42, 43, 44, 45, 46, 47, 52, 53, 54, 55, 56, 57, 58, 59, 60, 61, 62, 63, 64, 65, 66, 67, 68, 69, 70, 71, 72, 73, 74, 75, 76, 77, 78, 79, 80, 81, 82, 83, 84, 85, 86, 87, 88, 89, 90, 91, 92, 93, 94, 95, 96, 97, 98, 99, 100, 101, 102, 103, 104, 105, 106, 107, 108, 109, 110, 111, 112, 113, 114] (by decide +kernel) (by decide +kernel)
set_option maxRecDepth 20000 in
theorem gX9_bribery_X9_extraOf : GoodIn wsX9_bribery (wsV RX9 431 RX9 yX9_extraOf wsX9_extraOf) := goodIn_app (goodIn_of _ (by decide +kernel)) ggX9_bribery_X9_extraOf
set_option maxRecDepth 20000 in
theorem ggX9_bribery_X9_isMore : GoodIn wsX9_bribery wsX9_isMore := goodIn_r _ [51, 3, 52, 53, 54, 55, 56, 57, 58, 59, 60, 61, 62, 63, 64, 65, 66, 67, 68, 69, 70, 71, 72, 73, 74, 75, 76, 77, 78, 79, 80, 81, 82, 83, 84, 85, 86, 87, 88, 89, 90, 91, 92, 93, 94, 95, 96, 97, 98, 99, 100, 101, 102, 103, 104, 105, 106, 107, 108, 109, 110, 111, 112, 113, 114] (by decide +kernel) (by decide +kernel)
set_option maxRecDepth 20000 in
theorem gX9_bribery_X9_isMore : GoodIn wsX9_bribery (wsV RX9 351 RX9 yX9_isMore wsX9_isMore) := goodIn_app (goodIn_of _ (by decide +kernel)) ggX9_bribery_X9_isMore
theorem dX9_bribery_0 : decode cX9_bribery 0 = .ok (.aload_n 0, 1) := by decide +kernel
theorem dX9_bribery_1 : decode cX9_bribery 1 = .ok (.iconst 0, 1) := by decide +kernel
theorem dX9_bribery_2 : decode cX9_bribery 2 = .ok (.putfield 152, 3) := by decide +kernel
theorem dX9_bribery_5 : decode cX9_bribery 5 = .ok (.aload_n 0, 1) := by decide +kernel
theorem dX9_bribery_6 : decode cX9_bribery 6 = .ok (.iload_n 1, 1) := by decide +kernel
theorem dX9_bribery_7 : decode cX9_bribery 7 = .ok (.invokevirtual 389, 3) := by decide +kernel
theorem dX9_bribery_10 : decode cX9_bribery 10 = .ok (.ifCond .ne 9, 3) := by decide +kernel
theorem dX9_bribery_13 : decode cX9_bribery 13 = .ok (.aload_n 0, 1) := by decide +kernel
theorem dX9_bribery_14 : decode cX9_bribery 14 = .ok (.iconst 1, 1) := by decide +kernel
theorem dX9_bribery_15 : decode cX9_bribery 15 = .ok (.invokevirtual 299, 3) := by decide +kernel
theorem dX9_bribery_18 : decode cX9_bribery 18 = .ok (.ireturn, 1) := by decide +kernel
theorem dX9_bribery_19 : decode cX9_bribery 19 = .ok (.iload_n 2, 1) := by decide +kernel
theorem dX9_bribery_20 : decode cX9_bribery 20 = .ok (.i2l, 1) := by decide +kernel
theorem dX9_bribery_21 : decode cX9_bribery 21 = .ok (.lconst 0, 1) := by decide +kernel
theorem dX9_bribery_22 : decode cX9_bribery 22 = .ok (.ldc2_w 412, 3) := by decide +kernel
theorem dX9_bribery_25 : decode cX9_bribery 25 = .ok (.invokestatic 155, 3) := by decide +kernel
theorem dX9_bribery_28 : decode cX9_bribery 28 = .ok (.ifCond .ne 9, 3) := by decide +kernel
theorem dX9_bribery_31 : decode cX9_bribery 31 = .ok (.aload_n 0, 1) := by decide +kernel
theorem dX9_bribery_32 : decode cX9_bribery 32 = .ok (.iconst 2, 1) := by decide +kernel
theorem dX9_bribery_33 : decode cX9_bribery 33 = .ok (.invokevirtual 299, 3) := by decide +kernel
theorem dX9_bribery_36 : decode cX9_bribery 36 = .ok (.ireturn, 1) := by decide +kernel
theorem dX9_bribery_37 : decode cX9_bribery 37 = .ok (.iconst 0, 1) := by decide +kernel
theorem dX9_bribery_38 : decode cX9_bribery 38 = .ok (.istore_n 3, 1) := by decide +kernel
theorem dX9_bribery_39 : decode cX9_bribery 39 = .ok (.iload_n 3, 1) := by decide +kernel
theorem dX9_bribery_40 : decode cX9_bribery 40 = .ok (.aload_n 0, 1) := by decide +kernel
theorem dX9_bribery_41 : decode cX9_bribery 41 = .ok (.getfield 50, 3) := by decide +kernel
theorem dX9_bribery_44 : decode cX9_bribery 44 = .ok (.iconst 3, 1) := by decide +kernel
theorem dX9_bribery_45 : decode cX9_bribery 45 = .ok (.iaload, 1) := by decide +kernel
theorem dX9_bribery_46 : decode cX9_bribery 46 = .ok (.if_icmp .ge 22, 3) := by decide +kernel
theorem dX9_bribery_49 : decode cX9_bribery 49 = .ok (.aload_n 0, 1) := by decide +kernel
theorem dX9_bribery_50 : decode cX9_bribery 50 = .ok (.getfield 109, 3) := by decide +kernel
theorem dX9_bribery_53 : decode cX9_bribery 53 = .ok (.iload_n 3, 1) := by decide +kernel
theorem dX9_bribery_54 : decode cX9_bribery 54 = .ok (.aload_n 0, 1) := by decide +kernel
theorem dX9_bribery_55 : decode cX9_bribery 55 = .ok (.iload_n 3, 1) := by decide +kernel
theorem dX9_bribery_56 : decode cX9_bribery 56 = .ok (.iload_n 1, 1) := by decide +kernel
theorem dX9_bribery_57 : decode cX9_bribery 57 = .ok (.iload_n 2, 1) := by decide +kernel
theorem dX9_bribery_58 : decode cX9_bribery 58 = .ok (.invokevirtual 431, 3) := by decide +kernel
theorem dX9_bribery_61 : decode cX9_bribery 61 = .ok (.iastore, 1) := by decide +kernel
theorem dX9_bribery_62 : decode cX9_bribery 62 = .ok (.iinc 3 1, 3) := by decide +kernel
theorem dX9_bribery_65 : decode cX9_bribery 65 = .ok (.goto (-26), 3) := by decide +kernel
theorem dX9_bribery_68 : decode cX9_bribery 68 = .ok (.iconst 0, 1) := by decide +kernel
theorem dX9_bribery_69 : decode cX9_bribery 69 = .ok (.istore_n 3, 1) := by decide +kernel
theorem dX9_bribery_70 : decode cX9_bribery 70 = .ok (.iconst 0, 1) := by decide +kernel
theorem dX9_bribery_71 : decode cX9_bribery 71 = .ok (.istore 4, 2) := by decide +kernel
theorem dX9_bribery_73 : decode cX9_bribery 73 = .ok (.aload_n 0, 1) := by decide +kernel
theorem dX9_bribery_74 : decode cX9_bribery 74 = .ok (.iload 4, 2) := by decide +kernel
theorem dX9_bribery_76 : decode cX9_bribery 76 = .ok (.invokevirtual 351, 3) := by decide +kernel
theorem dX9_bribery_79 : decode cX9_bribery 79 = .ok (.ifCond .ne 101, 3) := by decide +kernel
theorem dX9_bribery_82 : decode cX9_bribery 82 = .ok (.iload 4, 2) := by decide +kernel
theorem dX9_bribery_84 : decode cX9_bribery 84 = .ok (.aload_n 0, 1) := by decide +kernel
theorem dX9_bribery_85 : decode cX9_bribery 85 = .ok (.getfield 50, 3) := by decide +kernel
theorem dX9_bribery_88 : decode cX9_bribery 88 = .ok (.iconst 3, 1) := by decide +kernel
theorem dX9_bribery_89 : decode cX9_bribery 89 = .ok (.iaload, 1) := by decide +kernel
theorem dX9_bribery_90 : decode cX9_bribery 90 = .ok (.if_icmp .ne 5, 3) := by decide +kernel
theorem dX9_bribery_93 : decode cX9_bribery 93 = .ok (.iconst (-1), 1) := by decide +kernel
theorem dX9_bribery_94 : decode cX9_bribery 94 = .ok (.ireturn, 1) := by decide +kernel
theorem dX9_bribery_95 : decode cX9_bribery 95 = .ok (.iconst (-1), 1) := by decide +kernel
theorem dX9_bribery_96 : decode cX9_bribery 96 = .ok (.istore 5, 2) := by decide +kernel
theorem dX9_bribery_98 : decode cX9_bribery 98 = .ok (.iconst 0, 1) := by decide +kernel
theorem dX9_bribery_99 : decode cX9_bribery 99 = .ok (.istore 6, 2) := by decide +kernel
theorem dX9_bribery_101 : decode cX9_bribery 101 = .ok (.iload 6, 2) := by decide +kernel
theorem dX9_bribery_103 : decode cX9_bribery 103 = .ok (.aload_n 0, 1) := by decide +kernel
theorem dX9_bribery_104 : decode cX9_bribery 104 = .ok (.getfield 50, 3) := by decide +kernel
theorem dX9_bribery_107 : decode cX9_bribery 107 = .ok (.iconst 3, 1) := by decide +kernel
theorem dX9_bribery_108 : decode cX9_bribery 108 = .ok (.iaload, 1) := by decide +kernel
theorem dX9_bribery_109 : decode cX9_bribery 109 = .ok (.if_icmp .ge 47, 3) := by decide +kernel
theorem dX9_bribery_112 : decode cX9_bribery 112 = .ok (.aload_n 0, 1) := by decide +kernel
theorem dX9_bribery_113 : decode cX9_bribery 113 = .ok (.getfield 109, 3) := by decide +kernel
theorem dX9_bribery_116 : decode cX9_bribery 116 = .ok (.iload 6, 2) := by decide +kernel
theorem dX9_bribery_118 : decode cX9_bribery 118 = .ok (.iaload, 1) := by decide +kernel
theorem dX9_bribery_119 : decode cX9_bribery 119 = .ok (.iconst (-1), 1) := by decide +kernel
theorem dX9_bribery_120 : decode cX9_bribery 120 = .ok (.if_icmp .eq 30, 3) := by decide +kernel
theorem dX9_bribery_123 : decode cX9_bribery 123 = .ok (.iload 5, 2) := by decide +kernel
theorem dX9_bribery_125 : decode cX9_bribery 125 = .ok (.iconst (-1), 1) := by decide +kernel
theorem dX9_bribery_126 : decode cX9_bribery 126 = .ok (.if_icmp .eq 20, 3) := by decide +kernel
theorem dX9_bribery_129 : decode cX9_bribery 129 = .ok (.aload_n 0, 1) := by decide +kernel
theorem dX9_bribery_130 : decode cX9_bribery 130 = .ok (.getfield 109, 3) := by decide +kernel
theorem dX9_bribery_133 : decode cX9_bribery 133 = .ok (.iload 6, 2) := by decide +kernel
theorem dX9_bribery_135 : decode cX9_bribery 135 = .ok (.iaload, 1) := by decide +kernel
theorem dX9_bribery_136 : decode cX9_bribery 136 = .ok (.aload_n 0, 1) := by decide +kernel
theorem dX9_bribery_137 : decode cX9_bribery 137 = .ok (.getfield 109, 3) := by decide +kernel
theorem dX9_bribery_140 : decode cX9_bribery 140 = .ok (.iload 5, 2) := by decide +kernel
theorem dX9_bribery_142 : decode cX9_bribery 142 = .ok (.iaload, 1) := by decide +kernel
theorem dX9_bribery_143 : decode cX9_bribery 143 = .ok (.if_icmp .ge 7, 3) := by decide +kernel
theorem dX9_bribery_146 : decode cX9_bribery 146 = .ok (.iload 6, 2) := by decide +kernel
theorem dX9_bribery_148 : decode cX9_bribery 148 = .ok (.istore 5, 2) := by decide +kernel
theorem dX9_bribery_150 : decode cX9_bribery 150 = .ok (.iinc 6 1, 3) := by decide +kernel
theorem dX9_bribery_153 : decode cX9_bribery 153 = .ok (.goto (-52), 3) := by decide +kernel
theorem dX9_bribery_156 : decode cX9_bribery 156 = .ok (.iload_n 3, 1) := by decide +kernel
theorem dX9_bribery_157 : decode cX9_bribery 157 = .ok (.aload_n 0, 1) := by decide +kernel
theorem dX9_bribery_158 : decode cX9_bribery 158 = .ok (.getfield 109, 3) := by decide +kernel
theorem dX9_bribery_161 : decode cX9_bribery 161 = .ok (.iload 5, 2) := by decide +kernel
theorem dX9_bribery_163 : decode cX9_bribery 163 = .ok (.iaload, 1) := by decide +kernel
theorem dX9_bribery_164 : decode cX9_bribery 164 = .ok (.iadd, 1) := by decide +kernel
theorem dX9_bribery_165 : decode cX9_bribery 165 = .ok (.istore_n 3, 1) := by decide +kernel
theorem dX9_bribery_166 : decode cX9_bribery 166 = .ok (.aload_n 0, 1) := by decide +kernel
theorem dX9_bribery_167 : decode cX9_bribery 167 = .ok (.getfield 109, 3) := by decide +kernel
theorem dX9_bribery_170 : decode cX9_bribery 170 = .ok (.iload 5, 2) := by decide +kernel
theorem dX9_bribery_172 : decode cX9_bribery 172 = .ok (.iconst (-1), 1) := by decide +kernel
theorem dX9_bribery_173 : decode cX9_bribery 173 = .ok (.iastore, 1) := by decide +kernel
theorem dX9_bribery_174 : decode cX9_bribery 174 = .ok (.iinc 4 1, 3) := by decide +kernel
theorem dX9_bribery_177 : decode cX9_bribery 177 = .ok (.goto (-104), 3) := by decide +kernel
theorem dX9_bribery_180 : decode cX9_bribery 180 = .ok (.iload_n 3, 1) := by decide +kernel
theorem dX9_bribery_181 : decode cX9_bribery 181 = .ok (.sipush 1000, 3) := by decide +kernel
theorem dX9_bribery_184 : decode cX9_bribery 184 = .ok (.if_icmp .lt 7, 3) := by decide +kernel
theorem dX9_bribery_187 : decode cX9_bribery 187 = .ok (.iconst (-1), 1) := by decide +kernel
theorem dX9_bribery_188 : decode cX9_bribery 188 = .ok (.goto 4, 3) := by decide +kernel
theorem dX9_bribery_191 : decode cX9_bribery 191 = .ok (.iload_n 3, 1) := by decide +kernel
theorem dX9_bribery_192 : decode cX9_bribery 192 = .ok (.ireturn, 1) := by decide +kernel
set_option maxRecDepth 20000 in
theorem ggX9_needs_X9_isMotion : GoodIn wsX9_needs wsX9_isMotion := goodIn_r _ [8, 9, 10, 11, 7, 12, 17, 18, 19, 20, 21, 22, 23, 24, 25, 26, 27, 28, 29, 30, 31, 32, 33, 34, 35, 36, 37, 38, 39, 40, 41, 42, 43, 44, 45, 46, 47, 48, 49, 50, 51, 52, 53, 54, 55, 56, 57, 58, 59, 60, 61, 62, 63, 64, 65, 66, 67, 68, 69, 70, 71, 72, 73, 74, 75, 76, 77, 78, 79] (by decide +kernel) (by decide +kernel)
set_option maxRecDepth 20000 in
theorem gX9_needs_X9_isMotion : GoodIn wsX9_needs (wsV RX9 389 RX9 yX9_isMotion wsX9_isMotion) := goodIn_app (goodIn_of _ (by decide +kernel)) ggX9_needs_X9_isMotion
set_option maxRecDepth 20000 in
theorem ggX9_needs_X9_fail : GoodIn wsX9_needs wsX9_fail := goodIn_r _ [16, 1, 17, 18, 19, 20, 21, 22, 23, 24, 25, 26, 27, 28, 29, 30, 31, 32, 33, 34, 35, 36, 37, 38, 39, 40, 41, 42, 43, 44, 45, 46, 47, 48, 49, 50, 51, 52, 53, 54, 55, 56, 57, 58, 59, 60, 61, 62, 63, 64, 65, 66, 67, 68, 69, 70, 71, 72, 73, 74, 75, 76, 77, 78, 79] (by decide +kernel) (by decide +kernel)
set_option maxRecDepth 20000 in
theorem gX9_needs_X9_fail : GoodIn wsX9_needs (wsV RX9 299 RX9 yX9_fail wsX9_fail) := goodIn_app (goodIn_of _ (by decide +kernel)) ggX9_needs_X9_fail
theorem dX9_needs_0 : decode cX9_needs 0 = .ok (.aload_n 0, 1) := by decide +kernel
theorem dX9_needs_1 : decode cX9_needs 1 = .ok (.iconst 0, 1) := by decide +kernel
theorem dX9_needs_2 : decode cX9_needs 2 = .ok (.putfield 152, 3) := by decide +kernel
theorem dX9_needs_5 : decode cX9_needs 5 = .ok (.aload_n 0, 1) := by decide +kernel
theorem dX9_needs_6 : decode cX9_needs 6 = .ok (.iload_n 1, 1) := by decide +kernel
theorem dX9_needs_7 : decode cX9_needs 7 = .ok (.invokevirtual 389, 3) := by decide +kernel
theorem dX9_needs_10 : decode cX9_needs 10 = .ok (.ifCond .ne 9, 3) := by decide +kernel
theorem dX9_needs_13 : decode cX9_needs 13 = .ok (.aload_n 0, 1) := by decide +kernel
theorem dX9_needs_14 : decode cX9_needs 14 = .ok (.iconst 1, 1) := by decide +kernel
theorem dX9_needs_15 : decode cX9_needs 15 = .ok (.invokevirtual 299, 3) := by decide +kernel
theorem dX9_needs_18 : decode cX9_needs 18 = .ok (.ireturn, 1) := by decide +kernel
theorem dX9_needs_19 : decode cX9_needs 19 = .ok (.iconst 0, 1) := by decide +kernel
theorem dX9_needs_20 : decode cX9_needs 20 = .ok (.istore_n 2, 1) := by decide +kernel
theorem dX9_needs_21 : decode cX9_needs 21 = .ok (.aload_n 0, 1) := by decide +kernel
theorem dX9_needs_22 : decode cX9_needs 22 = .ok (.getfield 70, 3) := by decide +kernel
theorem dX9_needs_25 : decode cX9_needs 25 = .ok (.iload_n 1, 1) := by decide +kernel
theorem dX9_needs_26 : decode cX9_needs 26 = .ok (.iaload, 1) := by decide +kernel
theorem dX9_needs_27 : decode cX9_needs 27 = .ok (.istore_n 3, 1) := by decide +kernel
theorem dX9_needs_28 : decode cX9_needs 28 = .ok (.iload_n 3, 1) := by decide +kernel
theorem dX9_needs_29 : decode cX9_needs 29 = .ok (.iconst (-1), 1) := by decide +kernel
theorem dX9_needs_30 : decode cX9_needs 30 = .ok (.if_icmp .eq 19, 3) := by decide +kernel
theorem dX9_needs_33 : decode cX9_needs 33 = .ok (.iload_n 2, 1) := by decide +kernel
theorem dX9_needs_34 : decode cX9_needs 34 = .ok (.iconst 1, 1) := by decide +kernel
theorem dX9_needs_35 : decode cX9_needs 35 = .ok (.iload_n 3, 1) := by decide +kernel
theorem dX9_needs_36 : decode cX9_needs 36 = .ok (.ishl, 1) := by decide +kernel
theorem dX9_needs_37 : decode cX9_needs 37 = .ok (.ior, 1) := by decide +kernel
theorem dX9_needs_38 : decode cX9_needs 38 = .ok (.istore_n 2, 1) := by decide +kernel
theorem dX9_needs_39 : decode cX9_needs 39 = .ok (.aload_n 0, 1) := by decide +kernel
theorem dX9_needs_40 : decode cX9_needs 40 = .ok (.getfield 70, 3) := by decide +kernel
theorem dX9_needs_43 : decode cX9_needs 43 = .ok (.iload_n 3, 1) := by decide +kernel
theorem dX9_needs_44 : decode cX9_needs 44 = .ok (.iaload, 1) := by decide +kernel
theorem dX9_needs_45 : decode cX9_needs 45 = .ok (.istore_n 3, 1) := by decide +kernel
theorem dX9_needs_46 : decode cX9_needs 46 = .ok (.goto (-18), 3) := by decide +kernel
theorem dX9_needs_49 : decode cX9_needs 49 = .ok (.iload_n 2, 1) := by decide +kernel
theorem dX9_needs_50 : decode cX9_needs 50 = .ok (.aload_n 0, 1) := by decide +kernel
theorem dX9_needs_51 : decode cX9_needs 51 = .ok (.getfield 319, 3) := by decide +kernel
theorem dX9_needs_54 : decode cX9_needs 54 = .ok (.iconst (-1), 1) := by decide +kernel
theorem dX9_needs_55 : decode cX9_needs 55 = .ok (.ixor, 1) := by decide +kernel
theorem dX9_needs_56 : decode cX9_needs 56 = .ok (.iand, 1) := by decide +kernel
theorem dX9_needs_57 : decode cX9_needs 57 = .ok (.ireturn, 1) := by decide +kernel
set_option maxRecDepth 20000 in
theorem ggX9_allies_X9_isAlderman : GoodIn wsX9_allies wsX9_isAlderman := goodIn_r _ [9, 2, 10, 11, 8, 12, 50, 51, 52, 53, 54, 55, 56, 57, 58, 59, 60, 61, 62, 63, 64, 65, 66, 67, 68, 69, 70, 71, 72, 73, 74, 75, 76, 77, 78, 79, 80, 81, 82, 83, 84, 85, 86, 87, 88, 89, 90, 91, 92, 93, 94, 95, 96, 97, 98, 99, 100, 101, 102, 103, 104, 105, 106, 107, 108, 109, 110, 111, 112] (by decide +kernel) (by decide +kernel)
set_option maxRecDepth 20000 in
theorem gX9_allies_X9_isAlderman : GoodIn wsX9_allies (wsV RX9 381 RX9 yX9_isAlderman wsX9_isAlderman) := goodIn_app (goodIn_of _ (by decide +kernel)) ggX9_allies_X9_isAlderman
set_option maxRecDepth 20000 in
theorem ggX9_allies_X9_fail : GoodIn wsX9_allies wsX9_fail := goodIn_r _ [16, 1, 50, 51, 52, 53, 54, 55, 56, 57, 58, 59, 60, 61, 62, 63, 64, 65, 66, 67, 68, 69, 70, 71, 72, 73, 74, 75, 76, 77, 78, 79, 80, 81, 82, 83, 84, 85, 86, 87, 88, 89, 90, 91, 92, 93, 94, 95, 96, 97, 98, 99, 100, 101, 102, 103, 104, 105, 106, 107, 108, 109, 110, 111, 112] (by decide +kernel) (by decide +kernel)
set_option maxRecDepth 20000 in
theorem gX9_allies_X9_fail : GoodIn wsX9_allies (wsV RX9 299 RX9 yX9_fail wsX9_fail) := goodIn_app (goodIn_of _ (by decide +kernel)) ggX9_allies_X9_fail
set_option maxRecDepth 20000 in
theorem ggX9_allies_X9_thoseFor : GoodIn wsX9_allies wsX9_thoseFor := goodIn_r _ [20, 2, 21, 22, 23, 24, 8, 25, 26, 27, 28, 29, 30, 31, 32, 33, 34, 4, 35, 36, 37, 38, 39, 40, 41, 42, 43, 44, 45, 46, 50, 51, 52, 53, 54, 55, 56, 57, 58, 59, 60, 61, 62, 63, 64, 65, 66, 67, 68, 69, 70, 71, 72, 73, 74, 75, 76, 77, 78, 79, 80, 81, 82, 83, 84, 85, 86, 87, 88, 89, 90, 91, 92, 93, 94, 95, 96, 97, 98, 99, 100, 101, 102, 103, 104, 105, 106, 107, 108, 109, 110, 111, 112] (by decide +kernel) (by decide +kernel)
set_option maxRecDepth 20000 in
theorem gX9_allies_X9_thoseFor : GoodIn wsX9_allies (wsV RX9 348 RX9 yX9_thoseFor wsX9_thoseFor) := goodIn_app (goodIn_of _ (by decide +kernel)) ggX9_allies_X9_thoseFor
set_option maxRecDepth 20000 in
theorem ggX9_allies_X9_isOf : GoodIn wsX9_allies wsX9_isOf := goodIn_r _ [49] (by decide +kernel) (by decide +kernel)
set_option maxRecDepth 20000 in
theorem gX9_allies_X9_isOf : GoodIn wsX9_allies (va_wsS RX9 354 yX9_isOf wsX9_isOf) := goodIn_app (goodIn_of _ (by decide +kernel)) ggX9_allies_X9_isOf
theorem dX9_allies_0 : decode cX9_allies 0 = .ok (.aload_n 0, 1) := by decide +kernel
theorem dX9_allies_1 : decode cX9_allies 1 = .ok (.iconst 0, 1) := by decide +kernel
theorem dX9_allies_2 : decode cX9_allies 2 = .ok (.putfield 152, 3) := by decide +kernel
theorem dX9_allies_5 : decode cX9_allies 5 = .ok (.aload_n 0, 1) := by decide +kernel
theorem dX9_allies_6 : decode cX9_allies 6 = .ok (.iload_n 1, 1) := by decide +kernel
theorem dX9_allies_7 : decode cX9_allies 7 = .ok (.invokevirtual 381, 3) := by decide +kernel
theorem dX9_allies_10 : decode cX9_allies 10 = .ok (.ifCond .eq 11, 3) := by decide +kernel
theorem dX9_allies_13 : decode cX9_allies 13 = .ok (.aload_n 0, 1) := by decide +kernel
theorem dX9_allies_14 : decode cX9_allies 14 = .ok (.iload_n 2, 1) := by decide +kernel
theorem dX9_allies_15 : decode cX9_allies 15 = .ok (.invokevirtual 381, 3) := by decide +kernel
theorem dX9_allies_18 : decode cX9_allies 18 = .ok (.ifCond .ne 9, 3) := by decide +kernel
theorem dX9_allies_21 : decode cX9_allies 21 = .ok (.aload_n 0, 1) := by decide +kernel
theorem dX9_allies_22 : decode cX9_allies 22 = .ok (.iconst 1, 1) := by decide +kernel
theorem dX9_allies_23 : decode cX9_allies 23 = .ok (.invokevirtual 299, 3) := by decide +kernel
theorem dX9_allies_26 : decode cX9_allies 26 = .ok (.ireturn, 1) := by decide +kernel
theorem dX9_allies_27 : decode cX9_allies 27 = .ok (.iconst 0, 1) := by decide +kernel
theorem dX9_allies_28 : decode cX9_allies 28 = .ok (.istore_n 3, 1) := by decide +kernel
theorem dX9_allies_29 : decode cX9_allies 29 = .ok (.iconst 0, 1) := by decide +kernel
theorem dX9_allies_30 : decode cX9_allies 30 = .ok (.istore 4, 2) := by decide +kernel
theorem dX9_allies_32 : decode cX9_allies 32 = .ok (.iload 4, 2) := by decide +kernel
theorem dX9_allies_34 : decode cX9_allies 34 = .ok (.aload_n 0, 1) := by decide +kernel
theorem dX9_allies_35 : decode cX9_allies 35 = .ok (.getfield 50, 3) := by decide +kernel
theorem dX9_allies_38 : decode cX9_allies 38 = .ok (.iconst 4, 1) := by decide +kernel
theorem dX9_allies_39 : decode cX9_allies 39 = .ok (.iaload, 1) := by decide +kernel
theorem dX9_allies_40 : decode cX9_allies 40 = .ok (.if_icmp .ge 59, 3) := by decide +kernel
theorem dX9_allies_43 : decode cX9_allies 43 = .ok (.aload_n 0, 1) := by decide +kernel
theorem dX9_allies_44 : decode cX9_allies 44 = .ok (.iload 4, 2) := by decide +kernel
theorem dX9_allies_46 : decode cX9_allies 46 = .ok (.aload_n 0, 1) := by decide +kernel
theorem dX9_allies_47 : decode cX9_allies 47 = .ok (.getfield 91, 3) := by decide +kernel
theorem dX9_allies_50 : decode cX9_allies 50 = .ok (.iload 4, 2) := by decide +kernel
theorem dX9_allies_52 : decode cX9_allies 52 = .ok (.iaload, 1) := by decide +kernel
theorem dX9_allies_53 : decode cX9_allies 53 = .ok (.invokevirtual 348, 3) := by decide +kernel
theorem dX9_allies_56 : decode cX9_allies 56 = .ok (.istore 5, 2) := by decide +kernel
theorem dX9_allies_58 : decode cX9_allies 58 = .ok (.iload_n 3, 1) := by decide +kernel
theorem dX9_allies_59 : decode cX9_allies 59 = .ok (.aload_n 0, 1) := by decide +kernel
theorem dX9_allies_60 : decode cX9_allies 60 = .ok (.getfield 319, 3) := by decide +kernel
theorem dX9_allies_63 : decode cX9_allies 63 = .ok (.iload 4, 2) := by decide +kernel
theorem dX9_allies_65 : decode cX9_allies 65 = .ok (.invokestatic 354, 3) := by decide +kernel
theorem dX9_allies_68 : decode cX9_allies 68 = .ok (.ifCond .ne 22, 3) := by decide +kernel
theorem dX9_allies_71 : decode cX9_allies 71 = .ok (.iload 5, 2) := by decide +kernel
theorem dX9_allies_73 : decode cX9_allies 73 = .ok (.iload_n 1, 1) := by decide +kernel
theorem dX9_allies_74 : decode cX9_allies 74 = .ok (.invokestatic 354, 3) := by decide +kernel
theorem dX9_allies_77 : decode cX9_allies 77 = .ok (.iload 5, 2) := by decide +kernel
theorem dX9_allies_79 : decode cX9_allies 79 = .ok (.iload_n 2, 1) := by decide +kernel
theorem dX9_allies_80 : decode cX9_allies 80 = .ok (.invokestatic 354, 3) := by decide +kernel
theorem dX9_allies_83 : decode cX9_allies 83 = .ok (.if_icmp .ne 7, 3) := by decide +kernel
theorem dX9_allies_86 : decode cX9_allies 86 = .ok (.iconst 1, 1) := by decide +kernel
theorem dX9_allies_87 : decode cX9_allies 87 = .ok (.goto 4, 3) := by decide +kernel
theorem dX9_allies_90 : decode cX9_allies 90 = .ok (.iconst 0, 1) := by decide +kernel
theorem dX9_allies_91 : decode cX9_allies 91 = .ok (.iadd, 1) := by decide +kernel
theorem dX9_allies_92 : decode cX9_allies 92 = .ok (.istore_n 3, 1) := by decide +kernel
theorem dX9_allies_93 : decode cX9_allies 93 = .ok (.iinc 4 1, 3) := by decide +kernel
theorem dX9_allies_96 : decode cX9_allies 96 = .ok (.goto (-64), 3) := by decide +kernel
theorem dX9_allies_99 : decode cX9_allies 99 = .ok (.iload_n 3, 1) := by decide +kernel
theorem dX9_allies_100 : decode cX9_allies 100 = .ok (.ireturn, 1) := by decide +kernel
set_option maxRecDepth 20000 in
theorem ggX9_passedBy_X9_pack : GoodIn wsX9_passedBy wsX9_pack := goodIn_r _ [7, 8, 9, 10, 11, 12, 13, 2, 14, 15, 89, 90, 91, 92, 93, 94, 95, 96, 97, 98, 99, 100, 101, 102, 103, 104, 105, 106, 107, 108, 109, 110, 111, 112, 113, 114, 115, 116, 117, 118, 119, 120, 121, 122, 123, 124, 125, 126, 127, 128, 129, 130, 131, 132, 133, 134, 135, 136, 137, 138, 139, 140, 141, 142, 143, 144, 145, 146, 147, 148, 149, 150, 151] (by decide +kernel) (by decide +kernel)
set_option maxRecDepth 20000 in
theorem gX9_passedBy_X9_pack : GoodIn wsX9_passedBy (wsV RX9 395 RX9 yX9_pack wsX9_pack) := goodIn_app (goodIn_of _ (by decide +kernel)) ggX9_passedBy_X9_pack
set_option maxRecDepth 20000 in
theorem ggX9_passedBy_X9_goOn : GoodIn wsX9_passedBy wsX9_goOn := goodIn_r _ [19, 20, 21, 22, 6, 23, 24, 9, 25, 26, 27, 28, 29, 30, 31, 15, 2, 32, 12, 33, 34, 35, 36, 13, 10, 11, 8, 37, 38, 39, 40, 41, 42, 43, 44, 45, 46, 47, 48, 49, 50, 51, 52, 53, 54, 55, 56, 57, 58, 59, 60, 61, 62, 63, 64, 65, 66, 14, 67, 68, 69, 70, 71, 72, 73, 74, 75, 76, 77, 78, 79, 80, 81, 82, 83, 84, 89, 90, 91, 92, 93, 94, 95, 96, 97, 98, 99, 100, 101, 102, 103, 104, 105, 106, 107, 108, 109, 110, 111, 112, 113, 114, 115, 116, 117, 118, 119, 120, 121, 122, 123, 124, 125, 126, 127, 128, 129, 130, 131, 132, 133, 134, 135, 136, 137, 138, 139, 140, 141, 142, 143, 144, 145, 146, 147, 148, 149, 150, 151] (by decide +kernel) (by decide +kernel)
set_option maxRecDepth 20000 in
theorem gX9_passedBy_X9_goOn : GoodIn wsX9_passedBy (wsV RX9 407 RX9 yX9_goOn wsX9_goOn) := goodIn_app (goodIn_of _ (by decide +kernel)) ggX9_passedBy_X9_goOn
set_option maxRecDepth 20000 in
theorem ggX9_passedBy_X9_unpack : GoodIn wsX9_passedBy wsX9_unpack := goodIn_r _ [88, 8, 9, 10, 11, 12, 13, 2, 14, 15, 89, 90, 91, 92, 93, 94, 95, 96, 97, 98, 99, 100, 101, 102, 103, 104, 105, 106, 107, 108, 109, 110, 111, 112, 113, 114, 115, 116, 117, 118, 119, 120, 121, 122, 123, 124, 125, 126, 127, 128, 129, 130, 131, 132, 133, 134, 135, 136, 137, 138, 139, 140, 141, 142, 143, 144, 145, 146, 147, 148, 149, 150, 151] (by decide +kernel) (by decide +kernel)
set_option maxRecDepth 20000 in
theorem gX9_passedBy_X9_unpack : GoodIn wsX9_passedBy (wsV RX9 416 RX9 yX9_unpack wsX9_unpack) := goodIn_app (goodIn_of _ (by decide +kernel)) ggX9_passedBy_X9_unpack
theorem dX9_passedBy_0 : decode cX9_passedBy 0 = .ok (.aload_n 0, 1) := by decide +kernel
theorem dX9_passedBy_1 : decode cX9_passedBy 1 = .ok (.aload_n 0, 1) := by decide +kernel
theorem dX9_passedBy_2 : decode cX9_passedBy 2 = .ok (.getfield 106, 3) := by decide +kernel
theorem dX9_passedBy_5 : decode cX9_passedBy 5 = .ok (.iconst 0, 1) := by decide +kernel
theorem dX9_passedBy_6 : decode cX9_passedBy 6 = .ok (.invokevirtual 395, 3) := by decide +kernel
theorem dX9_passedBy_9 : decode cX9_passedBy 9 = .ok (.aload_n 0, 1) := by decide +kernel
theorem dX9_passedBy_10 : decode cX9_passedBy 10 = .ok (.iload_n 1, 1) := by decide +kernel
theorem dX9_passedBy_11 : decode cX9_passedBy 11 = .ok (.invokevirtual 407, 3) := by decide +kernel
theorem dX9_passedBy_14 : decode cX9_passedBy 14 = .ok (.aload_n 0, 1) := by decide +kernel
theorem dX9_passedBy_15 : decode cX9_passedBy 15 = .ok (.getfield 319, 3) := by decide +kernel
theorem dX9_passedBy_18 : decode cX9_passedBy 18 = .ok (.istore_n 2, 1) := by decide +kernel
theorem dX9_passedBy_19 : decode cX9_passedBy 19 = .ok (.aload_n 0, 1) := by decide +kernel
theorem dX9_passedBy_20 : decode cX9_passedBy 20 = .ok (.aload_n 0, 1) := by decide +kernel
theorem dX9_passedBy_21 : decode cX9_passedBy 21 = .ok (.getfield 106, 3) := by decide +kernel
theorem dX9_passedBy_24 : decode cX9_passedBy 24 = .ok (.iconst 0, 1) := by decide +kernel
theorem dX9_passedBy_25 : decode cX9_passedBy 25 = .ok (.invokevirtual 416, 3) := by decide +kernel
theorem dX9_passedBy_28 : decode cX9_passedBy 28 = .ok (.iload_n 2, 1) := by decide +kernel
theorem dX9_passedBy_29 : decode cX9_passedBy 29 = .ok (.ireturn, 1) := by decide +kernel
set_option maxRecDepth 20000 in
theorem ggX9_passing_X9_isIn : GoodIn wsX9_passing wsX9_isIn := goodIn_r _ [6] (by decide +kernel) (by decide +kernel)
set_option maxRecDepth 20000 in
theorem gX9_passing_X9_isIn : GoodIn wsX9_passing (va_wsS RX9 155 yX9_isIn wsX9_isIn) := goodIn_app (goodIn_of _ (by decide +kernel)) ggX9_passing_X9_isIn
set_option maxRecDepth 20000 in
theorem ggX9_passing_X9_passedBy : GoodIn wsX9_passing wsX9_passedBy := goodIn_r _ [10, 11, 12, 13, 14, 15, 5, 16, 17, 18, 19, 20, 21, 22, 23, 24, 25, 26, 27, 28, 29, 30, 31, 32, 33, 34, 35, 36, 37, 38, 39, 40, 41, 42, 43, 44, 45, 46, 47, 48, 49, 50, 51, 52, 53, 54, 55, 56, 57, 58, 59, 60, 61, 62, 63, 64, 65, 66, 67, 68, 69, 70, 71, 72, 73, 74, 75, 76, 77, 78, 79, 80, 81, 82, 83, 84, 85, 86, 87, 88, 89, 90, 91, 92, 93, 94, 95, 96, 97, 102, 103, 104, 105, 106, 107, 108, 109, 110, 111, 112, 113, 114, 115, 116, 117, 118, 119, 120, 121, 122, 123, 124, 125, 126, 127, 128, 129, 130, 131, 132, 133, 134, 135, 136, 137, 138, 139, 140, 141, 142, 143, 144, 145, 146, 147, 148, 149, 150, 151, 152, 153, 154, 155, 156, 157, 158, 159, 160, 161, 162, 163, 164] (by decide +kernel) (by decide +kernel)
set_option maxRecDepth 20000 in
theorem gX9_passing_X9_passedBy : GoodIn wsX9_passing (wsV RX9 434 RX9 yX9_passedBy wsX9_passedBy) := goodIn_app (goodIn_of _ (by decide +kernel)) ggX9_passing_X9_passedBy
set_option maxRecDepth 20000 in
theorem ggX9_passing_X9_fail : GoodIn wsX9_passing wsX9_fail := goodIn_r _ [101, 1, 102, 103, 104, 105, 106, 107, 108, 109, 110, 111, 112, 113, 114, 115, 116, 117, 118, 119, 120, 121, 122, 123, 124, 125, 126, 127, 128, 129, 130, 131, 132, 133, 134, 135, 136, 137, 138, 139, 140, 141, 142, 143, 144, 145, 146, 147, 148, 149, 150, 151, 152, 153, 154, 155, 156, 157, 158, 159, 160, 161, 162, 163, 164] (by decide +kernel) (by decide +kernel)
set_option maxRecDepth 20000 in
theorem gX9_passing_X9_fail : GoodIn wsX9_passing (wsV RX9 299 RX9 yX9_fail wsX9_fail) := goodIn_app (goodIn_of _ (by decide +kernel)) ggX9_passing_X9_fail
theorem dX9_passing_0 : decode cX9_passing 0 = .ok (.aload_n 0, 1) := by decide +kernel
theorem dX9_passing_1 : decode cX9_passing 1 = .ok (.iconst 0, 1) := by decide +kernel
theorem dX9_passing_2 : decode cX9_passing 2 = .ok (.putfield 152, 3) := by decide +kernel
theorem dX9_passing_5 : decode cX9_passing 5 = .ok (.iload_n 1, 1) := by decide +kernel
theorem dX9_passing_6 : decode cX9_passing 6 = .ok (.i2l, 1) := by decide +kernel
theorem dX9_passing_7 : decode cX9_passing 7 = .ok (.lconst 0, 1) := by decide +kernel
theorem dX9_passing_8 : decode cX9_passing 8 = .ok (.ldc2_w 419, 3) := by decide +kernel
theorem dX9_passing_11 : decode cX9_passing 11 = .ok (.invokestatic 155, 3) := by decide +kernel
theorem dX9_passing_14 : decode cX9_passing 14 = .ok (.ifCond .eq 11, 3) := by decide +kernel
theorem dX9_passing_17 : decode cX9_passing 17 = .ok (.aload_n 0, 1) := by decide +kernel
theorem dX9_passing_18 : decode cX9_passing 18 = .ok (.iload_n 1, 1) := by decide +kernel
theorem dX9_passing_19 : decode cX9_passing 19 = .ok (.invokevirtual 434, 3) := by decide +kernel
theorem dX9_passing_22 : decode cX9_passing 22 = .ok (.goto 8, 3) := by decide +kernel
theorem dX9_passing_25 : decode cX9_passing 25 = .ok (.aload_n 0, 1) := by decide +kernel
theorem dX9_passing_26 : decode cX9_passing 26 = .ok (.iconst 1, 1) := by decide +kernel
theorem dX9_passing_27 : decode cX9_passing 27 = .ok (.invokevirtual 299, 3) := by decide +kernel
theorem dX9_passing_30 : decode cX9_passing 30 = .ok (.ireturn, 1) := by decide +kernel
set_option maxRecDepth 20000 in
theorem ggX9_isClear_X9_pack : GoodIn wsX9_isClear wsX9_pack := goodIn_r _ [7, 8, 9, 10, 11, 12, 13, 14, 15, 16, 85, 86, 87, 88, 89, 90, 91, 92, 93, 94, 95, 96, 97, 98, 99, 100, 101, 102, 103, 104, 105, 106, 107, 108, 109, 110, 111, 112, 113, 114, 115, 116, 117, 118, 119, 120, 121, 122, 123, 124, 125, 126, 127, 128, 129, 130, 131, 132, 133, 134, 135, 136, 137, 138, 139, 140, 141, 142, 143, 144, 145, 146, 147] (by decide +kernel) (by decide +kernel)
set_option maxRecDepth 20000 in
theorem gX9_isClear_X9_pack : GoodIn wsX9_isClear (wsV RX9 395 RX9 yX9_pack wsX9_pack) := goodIn_app (goodIn_of _ (by decide +kernel)) ggX9_isClear_X9_pack
set_option maxRecDepth 20000 in
theorem ggX9_isClear_X9_anHour : GoodIn wsX9_isClear wsX9_anHour := goodIn_r _ [20, 21, 9, 2, 22, 23, 24, 25, 26, 27, 16, 14, 28, 12, 29, 30, 31, 32, 13, 10, 11, 8, 33, 34, 35, 6, 36, 37, 38, 39, 40, 41, 42, 43, 44, 45, 46, 47, 48, 49, 50, 51, 52, 53, 54, 55, 56, 57, 58, 59, 60, 61, 62, 15, 63, 64, 65, 66, 67, 68, 69, 70, 71, 72, 73, 74, 75, 76, 77, 78, 79, 80, 85, 86, 87, 88, 89, 90, 91, 92, 93, 94, 95, 96, 97, 98, 99, 100, 101, 102, 103, 104, 105, 106, 107, 108, 109, 110, 111, 112, 113, 114, 115, 116, 117, 118, 119, 120, 121, 122, 123, 124, 125, 126, 127, 128, 129, 130, 131, 132, 133, 134, 135, 136, 137, 138, 139, 140, 141, 142, 143, 144, 145, 146, 147] (by decide +kernel) (by decide +kernel)
set_option maxRecDepth 20000 in
theorem gX9_isClear_X9_anHour : GoodIn wsX9_isClear (wsV RX9 375 RX9 yX9_anHour wsX9_anHour) := goodIn_app (goodIn_of _ (by decide +kernel)) ggX9_isClear_X9_anHour
set_option maxRecDepth 20000 in
theorem ggX9_isClear_X9_unpack : GoodIn wsX9_isClear wsX9_unpack := goodIn_r _ [84, 8, 9, 10, 11, 12, 13, 14, 15, 16, 85, 86, 87, 88, 89, 90, 91, 92, 93, 94, 95, 96, 97, 98, 99, 100, 101, 102, 103, 104, 105, 106, 107, 108, 109, 110, 111, 112, 113, 114, 115, 116, 117, 118, 119, 120, 121, 122, 123, 124, 125, 126, 127, 128, 129, 130, 131, 132, 133, 134, 135, 136, 137, 138, 139, 140, 141, 142, 143, 144, 145, 146, 147] (by decide +kernel) (by decide +kernel)
set_option maxRecDepth 20000 in
theorem gX9_isClear_X9_unpack : GoodIn wsX9_isClear (wsV RX9 416 RX9 yX9_unpack wsX9_unpack) := goodIn_app (goodIn_of _ (by decide +kernel)) ggX9_isClear_X9_unpack
theorem dX9_isClear_0 : decode cX9_isClear 0 = .ok (.aload_n 0, 1) := by decide +kernel
theorem dX9_isClear_1 : decode cX9_isClear 1 = .ok (.aload_n 0, 1) := by decide +kernel
theorem dX9_isClear_2 : decode cX9_isClear 2 = .ok (.getfield 106, 3) := by decide +kernel
theorem dX9_isClear_5 : decode cX9_isClear 5 = .ok (.iconst 0, 1) := by decide +kernel
theorem dX9_isClear_6 : decode cX9_isClear 6 = .ok (.invokevirtual 395, 3) := by decide +kernel
theorem dX9_isClear_9 : decode cX9_isClear 9 = .ok (.iconst 1, 1) := by decide +kernel
theorem dX9_isClear_10 : decode cX9_isClear 10 = .ok (.istore_n 2, 1) := by decide +kernel
theorem dX9_isClear_11 : decode cX9_isClear 11 = .ok (.iconst 0, 1) := by decide +kernel
theorem dX9_isClear_12 : decode cX9_isClear 12 = .ok (.istore_n 3, 1) := by decide +kernel
theorem dX9_isClear_13 : decode cX9_isClear 13 = .ok (.iload_n 3, 1) := by decide +kernel
theorem dX9_isClear_14 : decode cX9_isClear 14 = .ok (.iload_n 1, 1) := by decide +kernel
theorem dX9_isClear_15 : decode cX9_isClear 15 = .ok (.if_icmp .ge 30, 3) := by decide +kernel
theorem dX9_isClear_18 : decode cX9_isClear 18 = .ok (.iload_n 2, 1) := by decide +kernel
theorem dX9_isClear_19 : decode cX9_isClear 19 = .ok (.ifCond .eq 26, 3) := by decide +kernel
theorem dX9_isClear_22 : decode cX9_isClear 22 = .ok (.aload_n 0, 1) := by decide +kernel
theorem dX9_isClear_23 : decode cX9_isClear 23 = .ok (.invokevirtual 375, 3) := by decide +kernel
theorem dX9_isClear_26 : decode cX9_isClear 26 = .ok (.aload_n 0, 1) := by decide +kernel
theorem dX9_isClear_27 : decode cX9_isClear 27 = .ok (.getfield 363, 3) := by decide +kernel
theorem dX9_isClear_30 : decode cX9_isClear 30 = .ok (.ifCond .ne 7, 3) := by decide +kernel
theorem dX9_isClear_33 : decode cX9_isClear 33 = .ok (.iconst 1, 1) := by decide +kernel
theorem dX9_isClear_34 : decode cX9_isClear 34 = .ok (.goto 4, 3) := by decide +kernel
theorem dX9_isClear_37 : decode cX9_isClear 37 = .ok (.iconst 0, 1) := by decide +kernel
theorem dX9_isClear_38 : decode cX9_isClear 38 = .ok (.istore_n 2, 1) := by decide +kernel
theorem dX9_isClear_39 : decode cX9_isClear 39 = .ok (.iinc 3 1, 3) := by decide +kernel
theorem dX9_isClear_42 : decode cX9_isClear 42 = .ok (.goto (-29), 3) := by decide +kernel
theorem dX9_isClear_45 : decode cX9_isClear 45 = .ok (.aload_n 0, 1) := by decide +kernel
theorem dX9_isClear_46 : decode cX9_isClear 46 = .ok (.aload_n 0, 1) := by decide +kernel
theorem dX9_isClear_47 : decode cX9_isClear 47 = .ok (.getfield 106, 3) := by decide +kernel
theorem dX9_isClear_50 : decode cX9_isClear 50 = .ok (.iconst 0, 1) := by decide +kernel
theorem dX9_isClear_51 : decode cX9_isClear 51 = .ok (.invokevirtual 416, 3) := by decide +kernel
theorem dX9_isClear_54 : decode cX9_isClear 54 = .ok (.iload_n 2, 1) := by decide +kernel
theorem dX9_isClear_55 : decode cX9_isClear 55 = .ok (.ireturn, 1) := by decide +kernel
set_option maxRecDepth 20000 in
theorem ggX9_toOil_X9_isIn : GoodIn wsX9_toOil wsX9_isIn := goodIn_r _ [7] (by decide +kernel) (by decide +kernel)
set_option maxRecDepth 20000 in
theorem gX9_toOil_X9_isIn : GoodIn wsX9_toOil (va_wsS RX9 155 yX9_isIn wsX9_isIn) := goodIn_app (goodIn_of _ (by decide +kernel)) ggX9_toOil_X9_isIn
set_option maxRecDepth 20000 in
theorem ggX9_toOil_X9_fail : GoodIn wsX9_toOil wsX9_fail := goodIn_r _ [11, 1, 98, 99, 100, 101, 102, 103, 104, 105, 106, 107, 108, 109, 110, 111, 112, 113, 114, 115, 116, 117, 118, 119, 120, 121, 122, 123, 124, 125, 126, 127, 128, 129, 130, 131, 132, 133, 134, 135, 136, 137, 138, 139, 140, 141, 142, 143, 144, 145, 146, 147, 148, 149, 150, 151, 152, 153, 154, 155, 156, 157, 158, 159, 160] (by decide +kernel) (by decide +kernel)
set_option maxRecDepth 20000 in
theorem gX9_toOil_X9_fail : GoodIn wsX9_toOil (wsV RX9 299 RX9 yX9_fail wsX9_fail) := goodIn_app (goodIn_of _ (by decide +kernel)) ggX9_toOil_X9_fail
set_option maxRecDepth 20000 in
theorem ggX9_toOil_X9_isClear : GoodIn wsX9_toOil wsX9_isClear := goodIn_r _ [15, 16, 17, 18, 19, 20, 6, 21, 22, 3, 23, 24, 25, 26, 27, 28, 29, 30, 31, 32, 33, 34, 35, 36, 37, 38, 39, 40, 41, 42, 43, 44, 45, 46, 47, 48, 49, 50, 51, 52, 53, 54, 55, 56, 57, 58, 59, 60, 61, 62, 63, 64, 65, 66, 67, 68, 69, 70, 71, 72, 73, 74, 75, 76, 77, 78, 79, 80, 81, 82, 83, 84, 85, 86, 87, 88, 89, 90, 91, 92, 93, 94, 95, 96, 97, 98, 99, 100, 101, 102, 103, 104, 105, 106, 107, 108, 109, 110, 111, 112, 113, 114, 115, 116, 117, 118, 119, 120, 121, 122, 123, 124, 125, 126, 127, 128, 129, 130, 131, 132, 133, 134, 135, 136, 137, 138, 139, 140, 141, 142, 143, 144, 145, 146, 147, 148, 149, 150, 151, 152, 153, 154, 155, 156, 157, 158, 159, 160] (by decide +kernel) (by decide +kernel)
set_option maxRecDepth 20000 in
theorem gX9_toOil_X9_isClear : GoodIn wsX9_toOil (wsV RX9 437 RX9 yX9_isClear wsX9_isClear) := goodIn_app (goodIn_of _ (by decide +kernel)) ggX9_toOil_X9_isClear
theorem dX9_toOil_0 : decode cX9_toOil 0 = .ok (.aload_n 0, 1) := by decide +kernel
theorem dX9_toOil_1 : decode cX9_toOil 1 = .ok (.iconst 0, 1) := by decide +kernel
theorem dX9_toOil_2 : decode cX9_toOil 2 = .ok (.putfield 152, 3) := by decide +kernel
theorem dX9_toOil_5 : decode cX9_toOil 5 = .ok (.iload_n 1, 1) := by decide +kernel
theorem dX9_toOil_6 : decode cX9_toOil 6 = .ok (.i2l, 1) := by decide +kernel
theorem dX9_toOil_7 : decode cX9_toOil 7 = .ok (.lconst 1, 1) := by decide +kernel
theorem dX9_toOil_8 : decode cX9_toOil 8 = .ok (.ldc2_w 419, 3) := by decide +kernel
theorem dX9_toOil_11 : decode cX9_toOil 11 = .ok (.invokestatic 155, 3) := by decide +kernel
theorem dX9_toOil_14 : decode cX9_toOil 14 = .ok (.ifCond .ne 9, 3) := by decide +kernel
theorem dX9_toOil_17 : decode cX9_toOil 17 = .ok (.aload_n 0, 1) := by decide +kernel
theorem dX9_toOil_18 : decode cX9_toOil 18 = .ok (.iconst 1, 1) := by decide +kernel
theorem dX9_toOil_19 : decode cX9_toOil 19 = .ok (.invokevirtual 299, 3) := by decide +kernel
theorem dX9_toOil_22 : decode cX9_toOil 22 = .ok (.ireturn, 1) := by decide +kernel
theorem dX9_toOil_23 : decode cX9_toOil 23 = .ok (.aload_n 0, 1) := by decide +kernel
theorem dX9_toOil_24 : decode cX9_toOil 24 = .ok (.getfield 145, 3) := by decide +kernel
theorem dX9_toOil_27 : decode cX9_toOil 27 = .ok (.istore_n 2, 1) := by decide +kernel
theorem dX9_toOil_28 : decode cX9_toOil 28 = .ok (.iconst (-1), 1) := by decide +kernel
theorem dX9_toOil_29 : decode cX9_toOil 29 = .ok (.istore_n 3, 1) := by decide +kernel
theorem dX9_toOil_30 : decode cX9_toOil 30 = .ok (.iload_n 2, 1) := by decide +kernel
theorem dX9_toOil_31 : decode cX9_toOil 31 = .ok (.istore 4, 2) := by decide +kernel
theorem dX9_toOil_33 : decode cX9_toOil 33 = .ok (.iload 4, 2) := by decide +kernel
theorem dX9_toOil_35 : decode cX9_toOil 35 = .ok (.bipush 99, 2) := by decide +kernel
theorem dX9_toOil_37 : decode cX9_toOil 37 = .ok (.if_icmp .gt 33, 3) := by decide +kernel
theorem dX9_toOil_40 : decode cX9_toOil 40 = .ok (.iload_n 3, 1) := by decide +kernel
theorem dX9_toOil_41 : decode cX9_toOil 41 = .ok (.iconst (-1), 1) := by decide +kernel
theorem dX9_toOil_42 : decode cX9_toOil 42 = .ok (.if_icmp .ne 28, 3) := by decide +kernel
theorem dX9_toOil_45 : decode cX9_toOil 45 = .ok (.aload_n 0, 1) := by decide +kernel
theorem dX9_toOil_46 : decode cX9_toOil 46 = .ok (.iload 4, 2) := by decide +kernel
theorem dX9_toOil_48 : decode cX9_toOil 48 = .ok (.putfield 145, 3) := by decide +kernel
theorem dX9_toOil_51 : decode cX9_toOil 51 = .ok (.aload_n 0, 1) := by decide +kernel
theorem dX9_toOil_52 : decode cX9_toOil 52 = .ok (.iload_n 1, 1) := by decide +kernel
theorem dX9_toOil_53 : decode cX9_toOil 53 = .ok (.invokevirtual 437, 3) := by decide +kernel
theorem dX9_toOil_56 : decode cX9_toOil 56 = .ok (.ifCond .eq 8, 3) := by decide +kernel
theorem dX9_toOil_59 : decode cX9_toOil 59 = .ok (.iload 4, 2) := by decide +kernel
theorem dX9_toOil_61 : decode cX9_toOil 61 = .ok (.iload_n 2, 1) := by decide +kernel
theorem dX9_toOil_62 : decode cX9_toOil 62 = .ok (.isub, 1) := by decide +kernel
theorem dX9_toOil_63 : decode cX9_toOil 63 = .ok (.istore_n 3, 1) := by decide +kernel
theorem dX9_toOil_64 : decode cX9_toOil 64 = .ok (.iinc 4 1, 3) := by decide +kernel
theorem dX9_toOil_67 : decode cX9_toOil 67 = .ok (.goto (-34), 3) := by decide +kernel
theorem dX9_toOil_70 : decode cX9_toOil 70 = .ok (.aload_n 0, 1) := by decide +kernel
theorem dX9_toOil_71 : decode cX9_toOil 71 = .ok (.iload_n 2, 1) := by decide +kernel
theorem dX9_toOil_72 : decode cX9_toOil 72 = .ok (.putfield 145, 3) := by decide +kernel
theorem dX9_toOil_75 : decode cX9_toOil 75 = .ok (.iload_n 3, 1) := by decide +kernel
theorem dX9_toOil_76 : decode cX9_toOil 76 = .ok (.ireturn, 1) := by decide +kernel
set_option maxRecDepth 20000 in
theorem ggX9_hush_X9_fail : GoodIn wsX9_hush wsX9_fail := goodIn_r _ [9, 1, 94, 95, 96, 97, 98, 99, 100, 101, 102, 103, 104, 105, 106, 107, 108, 109, 110, 111, 112, 113, 114, 115, 116, 117, 118, 119, 120, 121, 122, 123, 124, 125, 126, 127, 128, 129, 130, 131, 132, 133, 134, 135, 136, 137, 138, 139, 140, 141, 142, 143, 144, 145, 146, 147, 148, 149, 150, 151, 152, 153, 154, 155, 156] (by decide +kernel) (by decide +kernel)
set_option maxRecDepth 20000 in
theorem gX9_hush_X9_fail : GoodIn wsX9_hush (wsV RX9 299 RX9 yX9_fail wsX9_fail) := goodIn_app (goodIn_of _ (by decide +kernel)) ggX9_hush_X9_fail
set_option maxRecDepth 20000 in
theorem ggX9_hush_X9_isIn : GoodIn wsX9_hush wsX9_isIn := goodIn_r _ [12] (by decide +kernel) (by decide +kernel)
set_option maxRecDepth 20000 in
theorem gX9_hush_X9_isIn : GoodIn wsX9_hush (va_wsS RX9 155 yX9_isIn wsX9_isIn) := goodIn_app (goodIn_of _ (by decide +kernel)) ggX9_hush_X9_isIn
set_option maxRecDepth 20000 in
theorem ggX9_hush_X9_pack : GoodIn wsX9_hush wsX9_pack := goodIn_r _ [16, 17, 18, 19, 20, 21, 22, 23, 24, 25, 94, 95, 96, 97, 98, 99, 100, 101, 102, 103, 104, 105, 106, 107, 108, 109, 110, 111, 112, 113, 114, 115, 116, 117, 118, 119, 120, 121, 122, 123, 124, 125, 126, 127, 128, 129, 130, 131, 132, 133, 134, 135, 136, 137, 138, 139, 140, 141, 142, 143, 144, 145, 146, 147, 148, 149, 150, 151, 152, 153, 154, 155, 156] (by decide +kernel) (by decide +kernel)
set_option maxRecDepth 20000 in
theorem gX9_hush_X9_pack : GoodIn wsX9_hush (wsV RX9 395 RX9 yX9_pack wsX9_pack) := goodIn_app (goodIn_of _ (by decide +kernel)) ggX9_hush_X9_pack
set_option maxRecDepth 20000 in
theorem ggX9_hush_X9_anHour : GoodIn wsX9_hush wsX9_anHour := goodIn_r _ [29, 4, 18, 30, 31, 32, 33, 34, 35, 36, 25, 23, 37, 21, 38, 39, 40, 41, 22, 19, 20, 17, 42, 43, 44, 8, 45, 46, 47, 48, 49, 50, 51, 52, 53, 54, 55, 56, 57, 58, 59, 60, 61, 62, 63, 64, 65, 66, 67, 68, 69, 70, 71, 24, 72, 73, 74, 75, 76, 77, 78, 79, 80, 81, 82, 83, 84, 85, 86, 87, 88, 89, 94, 95, 96, 97, 98, 99, 100, 101, 102, 103, 104, 105, 106, 107, 108, 109, 110, 111, 112, 113, 114, 115, 116, 117, 118, 119, 120, 121, 122, 123, 124, 125, 126, 127, 128, 129, 130, 131, 132, 133, 134, 135, 136, 137, 138, 139, 140, 141, 142, 143, 144, 145, 146, 147, 148, 149, 150, 151, 152, 153, 154, 155, 156] (by decide +kernel) (by decide +kernel)
set_option maxRecDepth 20000 in
theorem gX9_hush_X9_anHour : GoodIn wsX9_hush (wsV RX9 375 RX9 yX9_anHour wsX9_anHour) := goodIn_app (goodIn_of _ (by decide +kernel)) ggX9_hush_X9_anHour
set_option maxRecDepth 20000 in
theorem ggX9_hush_X9_unpack : GoodIn wsX9_hush wsX9_unpack := goodIn_r _ [93, 17, 18, 19, 20, 21, 22, 23, 24, 25, 94, 95, 96, 97, 98, 99, 100, 101, 102, 103, 104, 105, 106, 107, 108, 109, 110, 111, 112, 113, 114, 115, 116, 117, 118, 119, 120, 121, 122, 123, 124, 125, 126, 127, 128, 129, 130, 131, 132, 133, 134, 135, 136, 137, 138, 139, 140, 141, 142, 143, 144, 145, 146, 147, 148, 149, 150, 151, 152, 153, 154, 155, 156] (by decide +kernel) (by decide +kernel)
set_option maxRecDepth 20000 in
theorem gX9_hush_X9_unpack : GoodIn wsX9_hush (wsV RX9 416 RX9 yX9_unpack wsX9_unpack) := goodIn_app (goodIn_of _ (by decide +kernel)) ggX9_hush_X9_unpack
theorem dX9_hush_0 : decode cX9_hush 0 = .ok (.aload_n 0, 1) := by decide +kernel
theorem dX9_hush_1 : decode cX9_hush 1 = .ok (.iconst 0, 1) := by decide +kernel
theorem dX9_hush_2 : decode cX9_hush 2 = .ok (.putfield 152, 3) := by decide +kernel
theorem dX9_hush_5 : decode cX9_hush 5 = .ok (.iload_n 2, 1) := by decide +kernel
theorem dX9_hush_6 : decode cX9_hush 6 = .ok (.ifCond .lt 8, 3) := by decide +kernel
theorem dX9_hush_9 : decode cX9_hush 9 = .ok (.iload_n 2, 1) := by decide +kernel
theorem dX9_hush_10 : decode cX9_hush 10 = .ok (.iconst 1, 1) := by decide +kernel
theorem dX9_hush_11 : decode cX9_hush 11 = .ok (.if_icmp .le 9, 3) := by decide +kernel
theorem dX9_hush_14 : decode cX9_hush 14 = .ok (.aload_n 0, 1) := by decide +kernel
theorem dX9_hush_15 : decode cX9_hush 15 = .ok (.iconst 1, 1) := by decide +kernel
theorem dX9_hush_16 : decode cX9_hush 16 = .ok (.invokevirtual 299, 3) := by decide +kernel
theorem dX9_hush_19 : decode cX9_hush 19 = .ok (.ireturn, 1) := by decide +kernel
theorem dX9_hush_20 : decode cX9_hush 20 = .ok (.iload_n 1, 1) := by decide +kernel
theorem dX9_hush_21 : decode cX9_hush 21 = .ok (.i2l, 1) := by decide +kernel
theorem dX9_hush_22 : decode cX9_hush 22 = .ok (.lconst 0, 1) := by decide +kernel
theorem dX9_hush_23 : decode cX9_hush 23 = .ok (.ldc2_w 419, 3) := by decide +kernel
theorem dX9_hush_26 : decode cX9_hush 26 = .ok (.invokestatic 155, 3) := by decide +kernel
theorem dX9_hush_29 : decode cX9_hush 29 = .ok (.ifCond .ne 9, 3) := by decide +kernel
theorem dX9_hush_32 : decode cX9_hush 32 = .ok (.aload_n 0, 1) := by decide +kernel
theorem dX9_hush_33 : decode cX9_hush 33 = .ok (.iconst 2, 1) := by decide +kernel
theorem dX9_hush_34 : decode cX9_hush 34 = .ok (.invokevirtual 299, 3) := by decide +kernel
theorem dX9_hush_37 : decode cX9_hush 37 = .ok (.ireturn, 1) := by decide +kernel
theorem dX9_hush_38 : decode cX9_hush 38 = .ok (.aload_n 0, 1) := by decide +kernel
theorem dX9_hush_39 : decode cX9_hush 39 = .ok (.aload_n 0, 1) := by decide +kernel
theorem dX9_hush_40 : decode cX9_hush 40 = .ok (.getfield 106, 3) := by decide +kernel
theorem dX9_hush_43 : decode cX9_hush 43 = .ok (.iconst 0, 1) := by decide +kernel
theorem dX9_hush_44 : decode cX9_hush 44 = .ok (.invokevirtual 395, 3) := by decide +kernel
theorem dX9_hush_47 : decode cX9_hush 47 = .ok (.iconst 0, 1) := by decide +kernel
theorem dX9_hush_48 : decode cX9_hush 48 = .ok (.istore_n 3, 1) := by decide +kernel
theorem dX9_hush_49 : decode cX9_hush 49 = .ok (.iconst 0, 1) := by decide +kernel
theorem dX9_hush_50 : decode cX9_hush 50 = .ok (.istore 4, 2) := by decide +kernel
theorem dX9_hush_52 : decode cX9_hush 52 = .ok (.iconst (-1), 1) := by decide +kernel
theorem dX9_hush_53 : decode cX9_hush 53 = .ok (.istore 5, 2) := by decide +kernel
theorem dX9_hush_55 : decode cX9_hush 55 = .ok (.iconst 1, 1) := by decide +kernel
theorem dX9_hush_56 : decode cX9_hush 56 = .ok (.istore 6, 2) := by decide +kernel
theorem dX9_hush_58 : decode cX9_hush 58 = .ok (.iload 6, 2) := by decide +kernel
theorem dX9_hush_60 : decode cX9_hush 60 = .ok (.iload_n 1, 1) := by decide +kernel
theorem dX9_hush_61 : decode cX9_hush 61 = .ok (.if_icmp .gt 49, 3) := by decide +kernel
theorem dX9_hush_64 : decode cX9_hush 64 = .ok (.aload_n 0, 1) := by decide +kernel
theorem dX9_hush_65 : decode cX9_hush 65 = .ok (.invokevirtual 375, 3) := by decide +kernel
theorem dX9_hush_68 : decode cX9_hush 68 = .ok (.aload_n 0, 1) := by decide +kernel
theorem dX9_hush_69 : decode cX9_hush 69 = .ok (.getfield 360, 3) := by decide +kernel
theorem dX9_hush_72 : decode cX9_hush 72 = .ok (.iconst (-1), 1) := by decide +kernel
theorem dX9_hush_73 : decode cX9_hush 73 = .ok (.if_icmp .ne 9, 3) := by decide +kernel
theorem dX9_hush_76 : decode cX9_hush 76 = .ok (.iload_n 3, 1) := by decide +kernel
theorem dX9_hush_77 : decode cX9_hush 77 = .ok (.iconst 1, 1) := by decide +kernel
theorem dX9_hush_78 : decode cX9_hush 78 = .ok (.iadd, 1) := by decide +kernel
theorem dX9_hush_79 : decode cX9_hush 79 = .ok (.goto 4, 3) := by decide +kernel
theorem dX9_hush_82 : decode cX9_hush 82 = .ok (.iconst 0, 1) := by decide +kernel
theorem dX9_hush_83 : decode cX9_hush 83 = .ok (.istore_n 3, 1) := by decide +kernel
theorem dX9_hush_84 : decode cX9_hush 84 = .ok (.iload_n 3, 1) := by decide +kernel
theorem dX9_hush_85 : decode cX9_hush 85 = .ok (.iload 4, 2) := by decide +kernel
theorem dX9_hush_87 : decode cX9_hush 87 = .ok (.if_icmp .gt 6, 3) := by decide +kernel
theorem dX9_hush_90 : decode cX9_hush 90 = .ok (.goto 14, 3) := by decide +kernel
theorem dX9_hush_93 : decode cX9_hush 93 = .ok (.iload_n 3, 1) := by decide +kernel
theorem dX9_hush_94 : decode cX9_hush 94 = .ok (.istore 4, 2) := by decide +kernel
theorem dX9_hush_96 : decode cX9_hush 96 = .ok (.iload 6, 2) := by decide +kernel
theorem dX9_hush_98 : decode cX9_hush 98 = .ok (.iload_n 3, 1) := by decide +kernel
theorem dX9_hush_99 : decode cX9_hush 99 = .ok (.isub, 1) := by decide +kernel
theorem dX9_hush_100 : decode cX9_hush 100 = .ok (.iconst 1, 1) := by decide +kernel
theorem dX9_hush_101 : decode cX9_hush 101 = .ok (.iadd, 1) := by decide +kernel
theorem dX9_hush_102 : decode cX9_hush 102 = .ok (.istore 5, 2) := by decide +kernel
theorem dX9_hush_104 : decode cX9_hush 104 = .ok (.iinc 6 1, 3) := by decide +kernel
theorem dX9_hush_107 : decode cX9_hush 107 = .ok (.goto (-49), 3) := by decide +kernel
theorem dX9_hush_110 : decode cX9_hush 110 = .ok (.aload_n 0, 1) := by decide +kernel
theorem dX9_hush_111 : decode cX9_hush 111 = .ok (.aload_n 0, 1) := by decide +kernel
theorem dX9_hush_112 : decode cX9_hush 112 = .ok (.getfield 106, 3) := by decide +kernel
theorem dX9_hush_115 : decode cX9_hush 115 = .ok (.iconst 0, 1) := by decide +kernel
theorem dX9_hush_116 : decode cX9_hush 116 = .ok (.invokevirtual 416, 3) := by decide +kernel
theorem dX9_hush_119 : decode cX9_hush 119 = .ok (.iload_n 2, 1) := by decide +kernel
theorem dX9_hush_120 : decode cX9_hush 120 = .ok (.ifCond .ne 8, 3) := by decide +kernel
theorem dX9_hush_123 : decode cX9_hush 123 = .ok (.iload 4, 2) := by decide +kernel
theorem dX9_hush_125 : decode cX9_hush 125 = .ok (.goto 5, 3) := by decide +kernel
theorem dX9_hush_128 : decode cX9_hush 128 = .ok (.iload 5, 2) := by decide +kernel
theorem dX9_hush_130 : decode cX9_hush 130 = .ok (.ireturn, 1) := by decide +kernel
set_option maxRecDepth 20000 in
theorem ggX9_word_X9_isIn : GoodIn wsX9_word wsX9_isIn := goodIn_r _ [9] (by decide +kernel) (by decide +kernel)
set_option maxRecDepth 20000 in
theorem gX9_word_X9_isIn : GoodIn wsX9_word (va_wsS RX9 155 yX9_isIn wsX9_isIn) := goodIn_app (goodIn_of _ (by decide +kernel)) ggX9_word_X9_isIn
set_option maxRecDepth 20000 in
theorem ggX9_word_X9_fail : GoodIn wsX9_word wsX9_fail := goodIn_r _ [13, 1, 95, 96, 97, 98, 99, 100, 101, 102, 103, 104, 105, 106, 107, 108, 109, 110, 111, 112, 113, 114, 115, 116, 117, 118, 119, 120, 121, 122, 123, 124, 125, 126, 127, 128, 129, 130, 131, 132, 133, 134, 135, 136, 137, 138, 139, 140, 141, 142, 143, 144, 145, 146, 147, 148, 149, 150, 151, 152, 153, 154, 155, 156, 157] (by decide +kernel) (by decide +kernel)
set_option maxRecDepth 20000 in
theorem gX9_word_X9_fail : GoodIn wsX9_word (wsV RX9 299 RX9 yX9_fail wsX9_fail) := goodIn_app (goodIn_of _ (by decide +kernel)) ggX9_word_X9_fail
set_option maxRecDepth 20000 in
theorem ggX9_word_X9_pack : GoodIn wsX9_word wsX9_pack := goodIn_r _ [17, 18, 19, 20, 21, 22, 23, 24, 25, 26, 95, 96, 97, 98, 99, 100, 101, 102, 103, 104, 105, 106, 107, 108, 109, 110, 111, 112, 113, 114, 115, 116, 117, 118, 119, 120, 121, 122, 123, 124, 125, 126, 127, 128, 129, 130, 131, 132, 133, 134, 135, 136, 137, 138, 139, 140, 141, 142, 143, 144, 145, 146, 147, 148, 149, 150, 151, 152, 153, 154, 155, 156, 157] (by decide +kernel) (by decide +kernel)
set_option maxRecDepth 20000 in
theorem gX9_word_X9_pack : GoodIn wsX9_word (wsV RX9 395 RX9 yX9_pack wsX9_pack) := goodIn_app (goodIn_of _ (by decide +kernel)) ggX9_word_X9_pack
set_option maxRecDepth 20000 in
theorem ggX9_word_X9_anHour : GoodIn wsX9_word wsX9_anHour := goodIn_r _ [30, 5, 19, 31, 32, 33, 34, 35, 36, 37, 26, 24, 38, 22, 39, 40, 41, 42, 23, 20, 21, 18, 43, 44, 45, 8, 46, 47, 48, 49, 50, 51, 52, 53, 54, 55, 56, 57, 58, 59, 60, 61, 62, 63, 64, 65, 66, 67, 68, 69, 70, 71, 72, 25, 73, 74, 75, 76, 77, 78, 79, 80, 81, 82, 83, 84, 85, 86, 87, 88, 89, 90, 95, 96, 97, 98, 99, 100, 101, 102, 103, 104, 105, 106, 107, 108, 109, 110, 111, 112, 113, 114, 115, 116, 117, 118, 119, 120, 121, 122, 123, 124, 125, 126, 127, 128, 129, 130, 131, 132, 133, 134, 135, 136, 137, 138, 139, 140, 141, 142, 143, 144, 145, 146, 147, 148, 149, 150, 151, 152, 153, 154, 155, 156, 157] (by decide +kernel) (by decide +kernel)
set_option maxRecDepth 20000 in
theorem gX9_word_X9_anHour : GoodIn wsX9_word (wsV RX9 375 RX9 yX9_anHour wsX9_anHour) := goodIn_app (goodIn_of _ (by decide +kernel)) ggX9_word_X9_anHour
set_option maxRecDepth 20000 in
theorem ggX9_word_X9_unpack : GoodIn wsX9_word wsX9_unpack := goodIn_r _ [94, 18, 19, 20, 21, 22, 23, 24, 25, 26, 95, 96, 97, 98, 99, 100, 101, 102, 103, 104, 105, 106, 107, 108, 109, 110, 111, 112, 113, 114, 115, 116, 117, 118, 119, 120, 121, 122, 123, 124, 125, 126, 127, 128, 129, 130, 131, 132, 133, 134, 135, 136, 137, 138, 139, 140, 141, 142, 143, 144, 145, 146, 147, 148, 149, 150, 151, 152, 153, 154, 155, 156, 157] (by decide +kernel) (by decide +kernel)
set_option maxRecDepth 20000 in
theorem gX9_word_X9_unpack : GoodIn wsX9_word (wsV RX9 416 RX9 yX9_unpack wsX9_unpack) := goodIn_app (goodIn_of _ (by decide +kernel)) ggX9_word_X9_unpack
theorem dX9_word_0 : decode cX9_word 0 = .ok (.aload_n 0, 1) := by decide +kernel
theorem dX9_word_1 : decode cX9_word 1 = .ok (.iconst 0, 1) := by decide +kernel
theorem dX9_word_2 : decode cX9_word 2 = .ok (.putfield 152, 3) := by decide +kernel
theorem dX9_word_5 : decode cX9_word 5 = .ok (.iload_n 1, 1) := by decide +kernel
theorem dX9_word_6 : decode cX9_word 6 = .ok (.i2l, 1) := by decide +kernel
theorem dX9_word_7 : decode cX9_word 7 = .ok (.lconst 0, 1) := by decide +kernel
theorem dX9_word_8 : decode cX9_word 8 = .ok (.ldc2_w 419, 3) := by decide +kernel
theorem dX9_word_11 : decode cX9_word 11 = .ok (.invokestatic 155, 3) := by decide +kernel
theorem dX9_word_14 : decode cX9_word 14 = .ok (.ifCond .ne 9, 3) := by decide +kernel
theorem dX9_word_17 : decode cX9_word 17 = .ok (.aload_n 0, 1) := by decide +kernel
theorem dX9_word_18 : decode cX9_word 18 = .ok (.iconst 1, 1) := by decide +kernel
theorem dX9_word_19 : decode cX9_word 19 = .ok (.invokevirtual 299, 3) := by decide +kernel
theorem dX9_word_22 : decode cX9_word 22 = .ok (.ireturn, 1) := by decide +kernel
theorem dX9_word_23 : decode cX9_word 23 = .ok (.iconst 0, 1) := by decide +kernel
theorem dX9_word_24 : decode cX9_word 24 = .ok (.istore_n 2, 1) := by decide +kernel
theorem dX9_word_25 : decode cX9_word 25 = .ok (.iload_n 2, 1) := by decide +kernel
theorem dX9_word_26 : decode cX9_word 26 = .ok (.bipush 24, 2) := by decide +kernel
theorem dX9_word_28 : decode cX9_word 28 = .ok (.if_icmp .gt 16, 3) := by decide +kernel
theorem dX9_word_31 : decode cX9_word 31 = .ok (.aload_n 0, 1) := by decide +kernel
theorem dX9_word_32 : decode cX9_word 32 = .ok (.getfield 112, 3) := by decide +kernel
theorem dX9_word_35 : decode cX9_word 35 = .ok (.iload_n 2, 1) := by decide +kernel
theorem dX9_word_36 : decode cX9_word 36 = .ok (.iconst 0, 1) := by decide +kernel
theorem dX9_word_37 : decode cX9_word 37 = .ok (.iastore, 1) := by decide +kernel
theorem dX9_word_38 : decode cX9_word 38 = .ok (.iinc 2 1, 3) := by decide +kernel
theorem dX9_word_41 : decode cX9_word 41 = .ok (.goto (-16), 3) := by decide +kernel
theorem dX9_word_44 : decode cX9_word 44 = .ok (.aload_n 0, 1) := by decide +kernel
theorem dX9_word_45 : decode cX9_word 45 = .ok (.aload_n 0, 1) := by decide +kernel
theorem dX9_word_46 : decode cX9_word 46 = .ok (.getfield 106, 3) := by decide +kernel
theorem dX9_word_49 : decode cX9_word 49 = .ok (.iconst 0, 1) := by decide +kernel
theorem dX9_word_50 : decode cX9_word 50 = .ok (.invokevirtual 395, 3) := by decide +kernel
theorem dX9_word_53 : decode cX9_word 53 = .ok (.iconst 0, 1) := by decide +kernel
theorem dX9_word_54 : decode cX9_word 54 = .ok (.istore_n 2, 1) := by decide +kernel
theorem dX9_word_55 : decode cX9_word 55 = .ok (.iload_n 2, 1) := by decide +kernel
theorem dX9_word_56 : decode cX9_word 56 = .ok (.iload_n 1, 1) := by decide +kernel
theorem dX9_word_57 : decode cX9_word 57 = .ok (.if_icmp .ge 34, 3) := by decide +kernel
theorem dX9_word_60 : decode cX9_word 60 = .ok (.aload_n 0, 1) := by decide +kernel
theorem dX9_word_61 : decode cX9_word 61 = .ok (.invokevirtual 375, 3) := by decide +kernel
theorem dX9_word_64 : decode cX9_word 64 = .ok (.aload_n 0, 1) := by decide +kernel
theorem dX9_word_65 : decode cX9_word 65 = .ok (.getfield 360, 3) := by decide +kernel
theorem dX9_word_68 : decode cX9_word 68 = .ok (.iconst (-1), 1) := by decide +kernel
theorem dX9_word_69 : decode cX9_word 69 = .ok (.if_icmp .eq 16, 3) := by decide +kernel
theorem dX9_word_72 : decode cX9_word 72 = .ok (.aload_n 0, 1) := by decide +kernel
theorem dX9_word_73 : decode cX9_word 73 = .ok (.getfield 112, 3) := by decide +kernel
theorem dX9_word_76 : decode cX9_word 76 = .ok (.aload_n 0, 1) := by decide +kernel
theorem dX9_word_77 : decode cX9_word 77 = .ok (.getfield 360, 3) := by decide +kernel
theorem dX9_word_80 : decode cX9_word 80 = .ok (.dup2, 1) := by decide +kernel
theorem dX9_word_81 : decode cX9_word 81 = .ok (.iaload, 1) := by decide +kernel
theorem dX9_word_82 : decode cX9_word 82 = .ok (.iconst 1, 1) := by decide +kernel
theorem dX9_word_83 : decode cX9_word 83 = .ok (.iadd, 1) := by decide +kernel
theorem dX9_word_84 : decode cX9_word 84 = .ok (.iastore, 1) := by decide +kernel
theorem dX9_word_85 : decode cX9_word 85 = .ok (.iinc 2 1, 3) := by decide +kernel
theorem dX9_word_88 : decode cX9_word 88 = .ok (.goto (-33), 3) := by decide +kernel
theorem dX9_word_91 : decode cX9_word 91 = .ok (.aload_n 0, 1) := by decide +kernel
theorem dX9_word_92 : decode cX9_word 92 = .ok (.aload_n 0, 1) := by decide +kernel
theorem dX9_word_93 : decode cX9_word 93 = .ok (.getfield 106, 3) := by decide +kernel
theorem dX9_word_96 : decode cX9_word 96 = .ok (.iconst 0, 1) := by decide +kernel
theorem dX9_word_97 : decode cX9_word 97 = .ok (.invokevirtual 416, 3) := by decide +kernel
theorem dX9_word_100 : decode cX9_word 100 = .ok (.iconst (-1), 1) := by decide +kernel
theorem dX9_word_101 : decode cX9_word 101 = .ok (.istore_n 2, 1) := by decide +kernel
theorem dX9_word_102 : decode cX9_word 102 = .ok (.bipush 24, 2) := by decide +kernel
theorem dX9_word_104 : decode cX9_word 104 = .ok (.istore_n 3, 1) := by decide +kernel
theorem dX9_word_105 : decode cX9_word 105 = .ok (.iload_n 3, 1) := by decide +kernel
theorem dX9_word_106 : decode cX9_word 106 = .ok (.ifCond .lt 40, 3) := by decide +kernel
theorem dX9_word_109 : decode cX9_word 109 = .ok (.aload_n 0, 1) := by decide +kernel
theorem dX9_word_110 : decode cX9_word 110 = .ok (.getfield 112, 3) := by decide +kernel
theorem dX9_word_113 : decode cX9_word 113 = .ok (.iload_n 3, 1) := by decide +kernel
theorem dX9_word_114 : decode cX9_word 114 = .ok (.iaload, 1) := by decide +kernel
theorem dX9_word_115 : decode cX9_word 115 = .ok (.ifCond .le 25, 3) := by decide +kernel
theorem dX9_word_118 : decode cX9_word 118 = .ok (.iload_n 2, 1) := by decide +kernel
theorem dX9_word_119 : decode cX9_word 119 = .ok (.iconst (-1), 1) := by decide +kernel
theorem dX9_word_120 : decode cX9_word 120 = .ok (.if_icmp .eq 18, 3) := by decide +kernel
theorem dX9_word_123 : decode cX9_word 123 = .ok (.aload_n 0, 1) := by decide +kernel
theorem dX9_word_124 : decode cX9_word 124 = .ok (.getfield 112, 3) := by decide +kernel
theorem dX9_word_127 : decode cX9_word 127 = .ok (.iload_n 3, 1) := by decide +kernel
theorem dX9_word_128 : decode cX9_word 128 = .ok (.iaload, 1) := by decide +kernel
theorem dX9_word_129 : decode cX9_word 129 = .ok (.aload_n 0, 1) := by decide +kernel
theorem dX9_word_130 : decode cX9_word 130 = .ok (.getfield 112, 3) := by decide +kernel
theorem dX9_word_133 : decode cX9_word 133 = .ok (.iload_n 2, 1) := by decide +kernel
theorem dX9_word_134 : decode cX9_word 134 = .ok (.iaload, 1) := by decide +kernel
theorem dX9_word_135 : decode cX9_word 135 = .ok (.if_icmp .lt 5, 3) := by decide +kernel
theorem dX9_word_138 : decode cX9_word 138 = .ok (.iload_n 3, 1) := by decide +kernel
theorem dX9_word_139 : decode cX9_word 139 = .ok (.istore_n 2, 1) := by decide +kernel
theorem dX9_word_140 : decode cX9_word 140 = .ok (.iinc 3 (-1), 3) := by decide +kernel
theorem dX9_word_143 : decode cX9_word 143 = .ok (.goto (-38), 3) := by decide +kernel
theorem dX9_word_146 : decode cX9_word 146 = .ok (.iload_n 2, 1) := by decide +kernel
theorem dX9_word_147 : decode cX9_word 147 = .ok (.ireturn, 1) := by decide +kernel
set_option maxRecDepth 20000 in
theorem ggX9_heldUp_X9_isMotion : GoodIn wsX9_heldUp wsX9_isMotion := goodIn_r _ [7, 8, 9, 10, 6, 11, 105, 106, 107, 108, 109, 110, 111, 112, 113, 114, 115, 116, 117, 118, 119, 120, 121, 122, 123, 124, 125, 126, 127, 128, 129, 130, 131, 132, 133, 134, 135, 136, 137, 138, 139, 140, 141, 142, 143, 144, 145, 146, 147, 148, 149, 150, 151, 152, 153, 154, 155, 156, 157, 158, 159, 160, 161, 162, 163, 164, 165, 166, 167] (by decide +kernel) (by decide +kernel)
set_option maxRecDepth 20000 in
theorem gX9_heldUp_X9_isMotion : GoodIn wsX9_heldUp (wsV RX9 389 RX9 yX9_isMotion wsX9_isMotion) := goodIn_app (goodIn_of _ (by decide +kernel)) ggX9_heldUp_X9_isMotion
set_option maxRecDepth 20000 in
theorem ggX9_heldUp_X9_fail : GoodIn wsX9_heldUp wsX9_fail := goodIn_r _ [15, 1, 105, 106, 107, 108, 109, 110, 111, 112, 113, 114, 115, 116, 117, 118, 119, 120, 121, 122, 123, 124, 125, 126, 127, 128, 129, 130, 131, 132, 133, 134, 135, 136, 137, 138, 139, 140, 141, 142, 143, 144, 145, 146, 147, 148, 149, 150, 151, 152, 153, 154, 155, 156, 157, 158, 159, 160, 161, 162, 163, 164, 165, 166, 167] (by decide +kernel) (by decide +kernel)
set_option maxRecDepth 20000 in
theorem gX9_heldUp_X9_fail : GoodIn wsX9_heldUp (wsV RX9 299 RX9 yX9_fail wsX9_fail) := goodIn_app (goodIn_of _ (by decide +kernel)) ggX9_heldUp_X9_fail
set_option maxRecDepth 20000 in
theorem ggX9_heldUp_X9_passedBy : GoodIn wsX9_heldUp wsX9_passedBy := goodIn_r _ [19, 20, 21, 22, 23, 24, 6, 25, 26, 27, 28, 29, 30, 31, 32, 33, 34, 35, 36, 37, 38, 39, 40, 41, 42, 43, 44, 45, 46, 47, 8, 2, 48, 49, 50, 51, 52, 53, 54, 55, 56, 57, 58, 59, 60, 61, 62, 63, 64, 65, 66, 67, 68, 69, 70, 71, 72, 73, 74, 75, 76, 77, 78, 79, 80, 81, 82, 83, 84, 85, 86, 87, 88, 89, 90, 91, 92, 93, 94, 95, 96, 97, 98, 99, 100, 101, 102, 103, 104, 105, 106, 107, 108, 109, 110, 111, 112, 113, 114, 115, 116, 117, 118, 119, 120, 121, 122, 123, 124, 125, 126, 127, 128, 129, 130, 131, 132, 133, 134, 135, 136, 137, 138, 139, 140, 141, 142, 143, 144, 145, 146, 147, 148, 149, 150, 151, 152, 153, 154, 155, 156, 157, 158, 159, 160, 161, 162, 163, 164, 165, 166, 167] (by decide +kernel) (by decide +kernel)
set_option maxRecDepth 20000 in
theorem gX9_heldUp_X9_passedBy : GoodIn wsX9_heldUp (wsV RX9 434 RX9 yX9_passedBy wsX9_passedBy) := goodIn_app (goodIn_of _ (by decide +kernel)) ggX9_heldUp_X9_passedBy
theorem dX9_heldUp_0 : decode cX9_heldUp 0 = .ok (.aload_n 0, 1) := by decide +kernel
theorem dX9_heldUp_1 : decode cX9_heldUp 1 = .ok (.iconst 0, 1) := by decide +kernel
theorem dX9_heldUp_2 : decode cX9_heldUp 2 = .ok (.putfield 152, 3) := by decide +kernel
theorem dX9_heldUp_5 : decode cX9_heldUp 5 = .ok (.aload_n 0, 1) := by decide +kernel
theorem dX9_heldUp_6 : decode cX9_heldUp 6 = .ok (.iload_n 1, 1) := by decide +kernel
theorem dX9_heldUp_7 : decode cX9_heldUp 7 = .ok (.invokevirtual 389, 3) := by decide +kernel
theorem dX9_heldUp_10 : decode cX9_heldUp 10 = .ok (.ifCond .ne 9, 3) := by decide +kernel
theorem dX9_heldUp_13 : decode cX9_heldUp 13 = .ok (.aload_n 0, 1) := by decide +kernel
theorem dX9_heldUp_14 : decode cX9_heldUp 14 = .ok (.iconst 1, 1) := by decide +kernel
theorem dX9_heldUp_15 : decode cX9_heldUp 15 = .ok (.invokevirtual 299, 3) := by decide +kernel
theorem dX9_heldUp_18 : decode cX9_heldUp 18 = .ok (.ireturn, 1) := by decide +kernel
theorem dX9_heldUp_19 : decode cX9_heldUp 19 = .ok (.aload_n 0, 1) := by decide +kernel
theorem dX9_heldUp_20 : decode cX9_heldUp 20 = .ok (.bipush 48, 2) := by decide +kernel
theorem dX9_heldUp_22 : decode cX9_heldUp 22 = .ok (.invokevirtual 434, 3) := by decide +kernel
theorem dX9_heldUp_25 : decode cX9_heldUp 25 = .ok (.istore_n 2, 1) := by decide +kernel
theorem dX9_heldUp_26 : decode cX9_heldUp 26 = .ok (.aload_n 0, 1) := by decide +kernel
theorem dX9_heldUp_27 : decode cX9_heldUp 27 = .ok (.iload_n 1, 1) := by decide +kernel
theorem dX9_heldUp_28 : decode cX9_heldUp 28 = .ok (.putfield 103, 3) := by decide +kernel
theorem dX9_heldUp_31 : decode cX9_heldUp 31 = .ok (.aload_n 0, 1) := by decide +kernel
theorem dX9_heldUp_32 : decode cX9_heldUp 32 = .ok (.bipush 48, 2) := by decide +kernel
theorem dX9_heldUp_34 : decode cX9_heldUp 34 = .ok (.invokevirtual 434, 3) := by decide +kernel
theorem dX9_heldUp_37 : decode cX9_heldUp 37 = .ok (.istore_n 3, 1) := by decide +kernel
theorem dX9_heldUp_38 : decode cX9_heldUp 38 = .ok (.aload_n 0, 1) := by decide +kernel
theorem dX9_heldUp_39 : decode cX9_heldUp 39 = .ok (.iconst (-1), 1) := by decide +kernel
theorem dX9_heldUp_40 : decode cX9_heldUp 40 = .ok (.putfield 103, 3) := by decide +kernel
theorem dX9_heldUp_43 : decode cX9_heldUp 43 = .ok (.iload_n 3, 1) := by decide +kernel
theorem dX9_heldUp_44 : decode cX9_heldUp 44 = .ok (.iload_n 2, 1) := by decide +kernel
theorem dX9_heldUp_45 : decode cX9_heldUp 45 = .ok (.iconst (-1), 1) := by decide +kernel
theorem dX9_heldUp_46 : decode cX9_heldUp 46 = .ok (.ixor, 1) := by decide +kernel
theorem dX9_heldUp_47 : decode cX9_heldUp 47 = .ok (.iand, 1) := by decide +kernel
theorem dX9_heldUp_48 : decode cX9_heldUp 48 = .ok (.iconst 1, 1) := by decide +kernel
theorem dX9_heldUp_49 : decode cX9_heldUp 49 = .ok (.iload_n 1, 1) := by decide +kernel
theorem dX9_heldUp_50 : decode cX9_heldUp 50 = .ok (.ishl, 1) := by decide +kernel
theorem dX9_heldUp_51 : decode cX9_heldUp 51 = .ok (.iconst (-1), 1) := by decide +kernel
theorem dX9_heldUp_52 : decode cX9_heldUp 52 = .ok (.ixor, 1) := by decide +kernel
theorem dX9_heldUp_53 : decode cX9_heldUp 53 = .ok (.iand, 1) := by decide +kernel
theorem dX9_heldUp_54 : decode cX9_heldUp 54 = .ok (.ireturn, 1) := by decide +kernel
set_option maxRecDepth 20000 in
theorem ggX9_idle_X9_pack : GoodIn wsX9_idle wsX9_pack := goodIn_r _ [11, 12, 13, 14, 15, 16, 17, 3, 18, 5, 86, 87, 88, 89, 90, 91, 92, 93, 94, 95, 96, 97, 98, 99, 100, 101, 102, 103, 104, 105, 106, 107, 108, 109, 110, 111, 112, 113, 114, 115, 116, 117, 118, 119, 120, 121, 122, 123, 124, 125, 126, 127, 128, 129, 130, 131, 132, 133, 134, 135, 136, 137, 138, 139, 140, 141, 142, 143, 144, 145, 146, 147, 148] (by decide +kernel) (by decide +kernel)
set_option maxRecDepth 20000 in
theorem gX9_idle_X9_pack : GoodIn wsX9_idle (wsV RX9 395 RX9 yX9_pack wsX9_pack) := goodIn_app (goodIn_of _ (by decide +kernel)) ggX9_idle_X9_pack
set_option maxRecDepth 20000 in
theorem ggX9_idle_X9_anHour : GoodIn wsX9_idle wsX9_anHour := goodIn_r _ [22, 6, 13, 23, 24, 25, 26, 27, 2, 28, 5, 3, 29, 16, 30, 31, 32, 33, 17, 14, 15, 12, 34, 35, 36, 10, 37, 38, 39, 40, 41, 42, 43, 44, 45, 46, 47, 48, 49, 50, 51, 52, 53, 54, 55, 56, 57, 58, 59, 60, 61, 62, 63, 18, 64, 65, 66, 67, 68, 69, 70, 71, 72, 73, 74, 75, 76, 77, 78, 79, 80, 81, 86, 87, 88, 89, 90, 91, 92, 93, 94, 95, 96, 97, 98, 99, 100, 101, 102, 103, 104, 105, 106, 107, 108, 109, 110, 111, 112, 113, 114, 115, 116, 117, 118, 119, 120, 121, 122, 123, 124, 125, 126, 127, 128, 129, 130, 131, 132, 133, 134, 135, 136, 137, 138, 139, 140, 141, 142, 143, 144, 145, 146, 147, 148] (by decide +kernel) (by decide +kernel)
set_option maxRecDepth 20000 in
theorem gX9_idle_X9_anHour : GoodIn wsX9_idle (wsV RX9 375 RX9 yX9_anHour wsX9_anHour) := goodIn_app (goodIn_of _ (by decide +kernel)) ggX9_idle_X9_anHour
set_option maxRecDepth 20000 in
theorem ggX9_idle_X9_unpack : GoodIn wsX9_idle wsX9_unpack := goodIn_r _ [85, 12, 13, 14, 15, 16, 17, 3, 18, 5, 86, 87, 88, 89, 90, 91, 92, 93, 94, 95, 96, 97, 98, 99, 100, 101, 102, 103, 104, 105, 106, 107, 108, 109, 110, 111, 112, 113, 114, 115, 116, 117, 118, 119, 120, 121, 122, 123, 124, 125, 126, 127, 128, 129, 130, 131, 132, 133, 134, 135, 136, 137, 138, 139, 140, 141, 142, 143, 144, 145, 146, 147, 148] (by decide +kernel) (by decide +kernel)
set_option maxRecDepth 20000 in
theorem gX9_idle_X9_unpack : GoodIn wsX9_idle (wsV RX9 416 RX9 yX9_unpack wsX9_unpack) := goodIn_app (goodIn_of _ (by decide +kernel)) ggX9_idle_X9_unpack
theorem dX9_idle_0 : decode cX9_idle 0 = .ok (.aload_n 0, 1) := by decide +kernel
theorem dX9_idle_1 : decode cX9_idle 1 = .ok (.iconst 0, 1) := by decide +kernel
theorem dX9_idle_2 : decode cX9_idle 2 = .ok (.putfield 152, 3) := by decide +kernel
theorem dX9_idle_5 : decode cX9_idle 5 = .ok (.iconst 1, 1) := by decide +kernel
theorem dX9_idle_6 : decode cX9_idle 6 = .ok (.aload_n 0, 1) := by decide +kernel
theorem dX9_idle_7 : decode cX9_idle 7 = .ok (.getfield 50, 3) := by decide +kernel
theorem dX9_idle_10 : decode cX9_idle 10 = .ok (.iconst 4, 1) := by decide +kernel
theorem dX9_idle_11 : decode cX9_idle 11 = .ok (.iaload, 1) := by decide +kernel
theorem dX9_idle_12 : decode cX9_idle 12 = .ok (.ishl, 1) := by decide +kernel
theorem dX9_idle_13 : decode cX9_idle 13 = .ok (.iconst 1, 1) := by decide +kernel
theorem dX9_idle_14 : decode cX9_idle 14 = .ok (.isub, 1) := by decide +kernel
theorem dX9_idle_15 : decode cX9_idle 15 = .ok (.aload_n 0, 1) := by decide +kernel
theorem dX9_idle_16 : decode cX9_idle 16 = .ok (.getfield 319, 3) := by decide +kernel
theorem dX9_idle_19 : decode cX9_idle 19 = .ok (.iconst (-1), 1) := by decide +kernel
theorem dX9_idle_20 : decode cX9_idle 20 = .ok (.ixor, 1) := by decide +kernel
theorem dX9_idle_21 : decode cX9_idle 21 = .ok (.iand, 1) := by decide +kernel
theorem dX9_idle_22 : decode cX9_idle 22 = .ok (.istore_n 1, 1) := by decide +kernel
theorem dX9_idle_23 : decode cX9_idle 23 = .ok (.aload_n 0, 1) := by decide +kernel
theorem dX9_idle_24 : decode cX9_idle 24 = .ok (.aload_n 0, 1) := by decide +kernel
theorem dX9_idle_25 : decode cX9_idle 25 = .ok (.getfield 106, 3) := by decide +kernel
theorem dX9_idle_28 : decode cX9_idle 28 = .ok (.iconst 0, 1) := by decide +kernel
theorem dX9_idle_29 : decode cX9_idle 29 = .ok (.invokevirtual 395, 3) := by decide +kernel
theorem dX9_idle_32 : decode cX9_idle 32 = .ok (.iconst 0, 1) := by decide +kernel
theorem dX9_idle_33 : decode cX9_idle 33 = .ok (.istore_n 2, 1) := by decide +kernel
theorem dX9_idle_34 : decode cX9_idle 34 = .ok (.iload_n 2, 1) := by decide +kernel
theorem dX9_idle_35 : decode cX9_idle 35 = .ok (.bipush 96, 2) := by decide +kernel
theorem dX9_idle_37 : decode cX9_idle 37 = .ok (.if_icmp .ge 52, 3) := by decide +kernel
theorem dX9_idle_40 : decode cX9_idle 40 = .ok (.aload_n 0, 1) := by decide +kernel
theorem dX9_idle_41 : decode cX9_idle 41 = .ok (.invokevirtual 375, 3) := by decide +kernel
theorem dX9_idle_44 : decode cX9_idle 44 = .ok (.iconst 0, 1) := by decide +kernel
theorem dX9_idle_45 : decode cX9_idle 45 = .ok (.istore_n 3, 1) := by decide +kernel
theorem dX9_idle_46 : decode cX9_idle 46 = .ok (.iload_n 3, 1) := by decide +kernel
theorem dX9_idle_47 : decode cX9_idle 47 = .ok (.aload_n 0, 1) := by decide +kernel
theorem dX9_idle_48 : decode cX9_idle 48 = .ok (.getfield 50, 3) := by decide +kernel
theorem dX9_idle_51 : decode cX9_idle 51 = .ok (.iconst 4, 1) := by decide +kernel
theorem dX9_idle_52 : decode cX9_idle 52 = .ok (.iaload, 1) := by decide +kernel
theorem dX9_idle_53 : decode cX9_idle 53 = .ok (.if_icmp .ge 30, 3) := by decide +kernel
theorem dX9_idle_56 : decode cX9_idle 56 = .ok (.aload_n 0, 1) := by decide +kernel
theorem dX9_idle_57 : decode cX9_idle 57 = .ok (.getfield 91, 3) := by decide +kernel
theorem dX9_idle_60 : decode cX9_idle 60 = .ok (.iload_n 3, 1) := by decide +kernel
theorem dX9_idle_61 : decode cX9_idle 61 = .ok (.iaload, 1) := by decide +kernel
theorem dX9_idle_62 : decode cX9_idle 62 = .ok (.aload_n 0, 1) := by decide +kernel
theorem dX9_idle_63 : decode cX9_idle 63 = .ok (.getfield 360, 3) := by decide +kernel
theorem dX9_idle_66 : decode cX9_idle 66 = .ok (.if_icmp .ne 11, 3) := by decide +kernel
theorem dX9_idle_69 : decode cX9_idle 69 = .ok (.iload_n 1, 1) := by decide +kernel
theorem dX9_idle_70 : decode cX9_idle 70 = .ok (.iconst 1, 1) := by decide +kernel
theorem dX9_idle_71 : decode cX9_idle 71 = .ok (.iload_n 3, 1) := by decide +kernel
theorem dX9_idle_72 : decode cX9_idle 72 = .ok (.ishl, 1) := by decide +kernel
theorem dX9_idle_73 : decode cX9_idle 73 = .ok (.iconst (-1), 1) := by decide +kernel
theorem dX9_idle_74 : decode cX9_idle 74 = .ok (.ixor, 1) := by decide +kernel
theorem dX9_idle_75 : decode cX9_idle 75 = .ok (.iand, 1) := by decide +kernel
theorem dX9_idle_76 : decode cX9_idle 76 = .ok (.istore_n 1, 1) := by decide +kernel
theorem dX9_idle_77 : decode cX9_idle 77 = .ok (.iinc 3 1, 3) := by decide +kernel
theorem dX9_idle_80 : decode cX9_idle 80 = .ok (.goto (-34), 3) := by decide +kernel
theorem dX9_idle_83 : decode cX9_idle 83 = .ok (.iinc 2 1, 3) := by decide +kernel
theorem dX9_idle_86 : decode cX9_idle 86 = .ok (.goto (-52), 3) := by decide +kernel
theorem dX9_idle_89 : decode cX9_idle 89 = .ok (.aload_n 0, 1) := by decide +kernel
theorem dX9_idle_90 : decode cX9_idle 90 = .ok (.aload_n 0, 1) := by decide +kernel
theorem dX9_idle_91 : decode cX9_idle 91 = .ok (.getfield 106, 3) := by decide +kernel
theorem dX9_idle_94 : decode cX9_idle 94 = .ok (.iconst 0, 1) := by decide +kernel
theorem dX9_idle_95 : decode cX9_idle 95 = .ok (.invokevirtual 416, 3) := by decide +kernel
theorem dX9_idle_98 : decode cX9_idle 98 = .ok (.iload_n 1, 1) := by decide +kernel
theorem dX9_idle_99 : decode cX9_idle 99 = .ok (.ireturn, 1) := by decide +kernel
set_option maxRecDepth 20000 in
theorem ggX9_see_X9_isIn : GoodIn wsX9_see wsX9_isIn := goodIn_r _ [11] (by decide +kernel) (by decide +kernel)
set_option maxRecDepth 20000 in
theorem gX9_see_X9_isIn : GoodIn wsX9_see (va_wsS RX9 155 yX9_isIn wsX9_isIn) := goodIn_app (goodIn_of _ (by decide +kernel)) ggX9_see_X9_isIn
set_option maxRecDepth 20000 in
theorem ggX9_see_X9_refuse : GoodIn wsX9_see wsX9_refuse := goodIn_r _ [15, 16, 17, 18, 19, 20, 21, 22, 23, 24, 25, 26, 27, 28, 29, 30, 31, 32, 33, 34, 35, 36, 37, 38, 39, 40, 41, 42, 43, 44, 45, 46, 47, 48, 49, 50, 51, 52, 53, 54, 55, 56, 57, 58, 59, 60, 61, 62, 63, 64, 65, 66, 67, 68, 69, 70, 71, 72, 73, 74, 75, 76, 77, 78, 79] (by decide +kernel) (by decide +kernel)
set_option maxRecDepth 20000 in
theorem gX9_see_X9_refuse : GoodIn wsX9_see (wsV RX9 401 RX9 yX9_refuse wsX9_refuse) := goodIn_app (goodIn_of _ (by decide +kernel)) ggX9_see_X9_refuse
theorem dX9_see_0 : decode cX9_see 0 = .ok (.aload_n 0, 1) := by decide +kernel
theorem dX9_see_1 : decode cX9_see 1 = .ok (.iconst 0, 1) := by decide +kernel
theorem dX9_see_2 : decode cX9_see 2 = .ok (.putfield 152, 3) := by decide +kernel
theorem dX9_see_5 : decode cX9_see 5 = .ok (.aload_n 0, 1) := by decide +kernel
theorem dX9_see_6 : decode cX9_see 6 = .ok (.getfield 324, 3) := by decide +kernel
theorem dX9_see_9 : decode cX9_see 9 = .ok (.bipush 8, 2) := by decide +kernel
theorem dX9_see_11 : decode cX9_see 11 = .ok (.if_icmp .eq 29, 3) := by decide +kernel
theorem dX9_see_14 : decode cX9_see 14 = .ok (.iload_n 1, 1) := by decide +kernel
theorem dX9_see_15 : decode cX9_see 15 = .ok (.i2l, 1) := by decide +kernel
theorem dX9_see_16 : decode cX9_see 16 = .ok (.lconst 1, 1) := by decide +kernel
theorem dX9_see_17 : decode cX9_see 17 = .ok (.ldc2_w 399, 3) := by decide +kernel
theorem dX9_see_20 : decode cX9_see 20 = .ok (.invokestatic 155, 3) := by decide +kernel
theorem dX9_see_23 : decode cX9_see 23 = .ok (.ifCond .eq 17, 3) := by decide +kernel
theorem dX9_see_26 : decode cX9_see 26 = .ok (.iload_n 2, 1) := by decide +kernel
theorem dX9_see_27 : decode cX9_see 27 = .ok (.i2l, 1) := by decide +kernel
theorem dX9_see_28 : decode cX9_see 28 = .ok (.ldc2_w 440, 3) := by decide +kernel
theorem dX9_see_31 : decode cX9_see 31 = .ok (.ldc2_w 412, 3) := by decide +kernel
theorem dX9_see_34 : decode cX9_see 34 = .ok (.invokestatic 155, 3) := by decide +kernel
theorem dX9_see_37 : decode cX9_see 37 = .ok (.ifCond .ne 9, 3) := by decide +kernel
theorem dX9_see_40 : decode cX9_see 40 = .ok (.aload_n 0, 1) := by decide +kernel
theorem dX9_see_41 : decode cX9_see 41 = .ok (.iconst 2, 1) := by decide +kernel
theorem dX9_see_42 : decode cX9_see 42 = .ok (.invokevirtual 401, 3) := by decide +kernel
theorem dX9_see_45 : decode cX9_see 45 = .ok (.ireturn, 1) := by decide +kernel
theorem dX9_see_46 : decode cX9_see 46 = .ok (.aload_n 0, 1) := by decide +kernel
theorem dX9_see_47 : decode cX9_see 47 = .ok (.getfield 115, 3) := by decide +kernel
theorem dX9_see_50 : decode cX9_see 50 = .ok (.aload_n 0, 1) := by decide +kernel
theorem dX9_see_51 : decode cX9_see 51 = .ok (.getfield 324, 3) := by decide +kernel
theorem dX9_see_54 : decode cX9_see 54 = .ok (.iload_n 1, 1) := by decide +kernel
theorem dX9_see_55 : decode cX9_see 55 = .ok (.iastore, 1) := by decide +kernel
theorem dX9_see_56 : decode cX9_see 56 = .ok (.aload_n 0, 1) := by decide +kernel
theorem dX9_see_57 : decode cX9_see 57 = .ok (.getfield 118, 3) := by decide +kernel
theorem dX9_see_60 : decode cX9_see 60 = .ok (.aload_n 0, 1) := by decide +kernel
theorem dX9_see_61 : decode cX9_see 61 = .ok (.getfield 324, 3) := by decide +kernel
theorem dX9_see_64 : decode cX9_see 64 = .ok (.iload_n 2, 1) := by decide +kernel
theorem dX9_see_65 : decode cX9_see 65 = .ok (.iastore, 1) := by decide +kernel
theorem dX9_see_66 : decode cX9_see 66 = .ok (.aload_n 0, 1) := by decide +kernel
theorem dX9_see_67 : decode cX9_see 67 = .ok (.dup, 1) := by decide +kernel
theorem dX9_see_68 : decode cX9_see 68 = .ok (.getfield 324, 3) := by decide +kernel
theorem dX9_see_71 : decode cX9_see 71 = .ok (.iconst 1, 1) := by decide +kernel
theorem dX9_see_72 : decode cX9_see 72 = .ok (.iadd, 1) := by decide +kernel
theorem dX9_see_73 : decode cX9_see 73 = .ok (.putfield 324, 3) := by decide +kernel
theorem dX9_see_76 : decode cX9_see 76 = .ok (.aload_n 0, 1) := by decide +kernel
theorem dX9_see_77 : decode cX9_see 77 = .ok (.getfield 324, 3) := by decide +kernel
theorem dX9_see_80 : decode cX9_see 80 = .ok (.ireturn, 1) := by decide +kernel
set_option maxRecDepth 20000 in
theorem ggX9_isAsSeen_X9_pack : GoodIn wsX9_isAsSeen wsX9_pack := goodIn_r _ [10, 11, 12, 13, 14, 15, 16, 17, 18, 19, 88, 89, 90, 91, 92, 93, 94, 95, 96, 97, 98, 99, 100, 101, 102, 103, 104, 105, 106, 107, 108, 109, 110, 111, 112, 113, 114, 115, 116, 117, 118, 119, 120, 121, 122, 123, 124, 125, 126, 127, 128, 129, 130, 131, 132, 133, 134, 135, 136, 137, 138, 139, 140, 141, 142, 143, 144, 145, 146, 147, 148, 149, 150] (by decide +kernel) (by decide +kernel)
set_option maxRecDepth 20000 in
theorem gX9_isAsSeen_X9_pack : GoodIn wsX9_isAsSeen (wsV RX9 395 RX9 yX9_pack wsX9_pack) := goodIn_app (goodIn_of _ (by decide +kernel)) ggX9_isAsSeen_X9_pack
set_option maxRecDepth 20000 in
theorem ggX9_isAsSeen_X9_anHour : GoodIn wsX9_isAsSeen wsX9_anHour := goodIn_r _ [23, 4, 12, 24, 25, 26, 27, 28, 29, 30, 19, 17, 31, 15, 32, 33, 34, 35, 16, 13, 14, 11, 36, 37, 38, 9, 39, 40, 41, 42, 43, 44, 45, 46, 47, 48, 49, 50, 51, 52, 53, 54, 55, 56, 57, 58, 59, 60, 61, 62, 63, 64, 65, 18, 66, 67, 68, 69, 70, 71, 72, 73, 74, 75, 76, 77, 78, 79, 80, 81, 82, 83, 88, 89, 90, 91, 92, 93, 94, 95, 96, 97, 98, 99, 100, 101, 102, 103, 104, 105, 106, 107, 108, 109, 110, 111, 112, 113, 114, 115, 116, 117, 118, 119, 120, 121, 122, 123, 124, 125, 126, 127, 128, 129, 130, 131, 132, 133, 134, 135, 136, 137, 138, 139, 140, 141, 142, 143, 144, 145, 146, 147, 148, 149, 150] (by decide +kernel) (by decide +kernel)
set_option maxRecDepth 20000 in
theorem gX9_isAsSeen_X9_anHour : GoodIn wsX9_isAsSeen (wsV RX9 375 RX9 yX9_anHour wsX9_anHour) := goodIn_app (goodIn_of _ (by decide +kernel)) ggX9_isAsSeen_X9_anHour
set_option maxRecDepth 20000 in
theorem ggX9_isAsSeen_X9_unpack : GoodIn wsX9_isAsSeen wsX9_unpack := goodIn_r _ [87, 11, 12, 13, 14, 15, 16, 17, 18, 19, 88, 89, 90, 91, 92, 93, 94, 95, 96, 97, 98, 99, 100, 101, 102, 103, 104, 105, 106, 107, 108, 109, 110, 111, 112, 113, 114, 115, 116, 117, 118, 119, 120, 121, 122, 123, 124, 125, 126, 127, 128, 129, 130, 131, 132, 133, 134, 135, 136, 137, 138, 139, 140, 141, 142, 143, 144, 145, 146, 147, 148, 149, 150] (by decide +kernel) (by decide +kernel)
set_option maxRecDepth 20000 in
theorem gX9_isAsSeen_X9_unpack : GoodIn wsX9_isAsSeen (wsV RX9 416 RX9 yX9_unpack wsX9_unpack) := goodIn_app (goodIn_of _ (by decide +kernel)) ggX9_isAsSeen_X9_unpack
theorem dX9_isAsSeen_0 : decode cX9_isAsSeen 0 = .ok (.aload_n 0, 1) := by decide +kernel
theorem dX9_isAsSeen_1 : decode cX9_isAsSeen 1 = .ok (.aload_n 0, 1) := by decide +kernel
theorem dX9_isAsSeen_2 : decode cX9_isAsSeen 2 = .ok (.getfield 121, 3) := by decide +kernel
theorem dX9_isAsSeen_5 : decode cX9_isAsSeen 5 = .ok (.iconst 0, 1) := by decide +kernel
theorem dX9_isAsSeen_6 : decode cX9_isAsSeen 6 = .ok (.invokevirtual 395, 3) := by decide +kernel
theorem dX9_isAsSeen_9 : decode cX9_isAsSeen 9 = .ok (.iconst 1, 1) := by decide +kernel
theorem dX9_isAsSeen_10 : decode cX9_isAsSeen 10 = .ok (.istore_n 1, 1) := by decide +kernel
theorem dX9_isAsSeen_11 : decode cX9_isAsSeen 11 = .ok (.iconst 1, 1) := by decide +kernel
theorem dX9_isAsSeen_12 : decode cX9_isAsSeen 12 = .ok (.istore_n 2, 1) := by decide +kernel
theorem dX9_isAsSeen_13 : decode cX9_isAsSeen 13 = .ok (.iload_n 2, 1) := by decide +kernel
theorem dX9_isAsSeen_14 : decode cX9_isAsSeen 14 = .ok (.bipush 48, 2) := by decide +kernel
theorem dX9_isAsSeen_16 : decode cX9_isAsSeen 16 = .ok (.if_icmp .gt 66, 3) := by decide +kernel
theorem dX9_isAsSeen_19 : decode cX9_isAsSeen 19 = .ok (.iload_n 1, 1) := by decide +kernel
theorem dX9_isAsSeen_20 : decode cX9_isAsSeen 20 = .ok (.ifCond .eq 62, 3) := by decide +kernel
theorem dX9_isAsSeen_23 : decode cX9_isAsSeen 23 = .ok (.aload_n 0, 1) := by decide +kernel
theorem dX9_isAsSeen_24 : decode cX9_isAsSeen 24 = .ok (.invokevirtual 375, 3) := by decide +kernel
theorem dX9_isAsSeen_27 : decode cX9_isAsSeen 27 = .ok (.iconst 0, 1) := by decide +kernel
theorem dX9_isAsSeen_28 : decode cX9_isAsSeen 28 = .ok (.istore_n 3, 1) := by decide +kernel
theorem dX9_isAsSeen_29 : decode cX9_isAsSeen 29 = .ok (.iload_n 3, 1) := by decide +kernel
theorem dX9_isAsSeen_30 : decode cX9_isAsSeen 30 = .ok (.aload_n 0, 1) := by decide +kernel
theorem dX9_isAsSeen_31 : decode cX9_isAsSeen 31 = .ok (.getfield 324, 3) := by decide +kernel
theorem dX9_isAsSeen_34 : decode cX9_isAsSeen 34 = .ok (.if_icmp .ge 42, 3) := by decide +kernel
theorem dX9_isAsSeen_37 : decode cX9_isAsSeen 37 = .ok (.iload_n 1, 1) := by decide +kernel
theorem dX9_isAsSeen_38 : decode cX9_isAsSeen 38 = .ok (.ifCond .eq 30, 3) := by decide +kernel
theorem dX9_isAsSeen_41 : decode cX9_isAsSeen 41 = .ok (.aload_n 0, 1) := by decide +kernel
theorem dX9_isAsSeen_42 : decode cX9_isAsSeen 42 = .ok (.getfield 115, 3) := by decide +kernel
theorem dX9_isAsSeen_45 : decode cX9_isAsSeen 45 = .ok (.iload_n 3, 1) := by decide +kernel
theorem dX9_isAsSeen_46 : decode cX9_isAsSeen 46 = .ok (.iaload, 1) := by decide +kernel
theorem dX9_isAsSeen_47 : decode cX9_isAsSeen 47 = .ok (.iload_n 2, 1) := by decide +kernel
theorem dX9_isAsSeen_48 : decode cX9_isAsSeen 48 = .ok (.if_icmp .ne 16, 3) := by decide +kernel
theorem dX9_isAsSeen_51 : decode cX9_isAsSeen 51 = .ok (.aload_n 0, 1) := by decide +kernel
theorem dX9_isAsSeen_52 : decode cX9_isAsSeen 52 = .ok (.getfield 360, 3) := by decide +kernel
theorem dX9_isAsSeen_55 : decode cX9_isAsSeen 55 = .ok (.aload_n 0, 1) := by decide +kernel
theorem dX9_isAsSeen_56 : decode cX9_isAsSeen 56 = .ok (.getfield 118, 3) := by decide +kernel
theorem dX9_isAsSeen_59 : decode cX9_isAsSeen 59 = .ok (.iload_n 3, 1) := by decide +kernel
theorem dX9_isAsSeen_60 : decode cX9_isAsSeen 60 = .ok (.iaload, 1) := by decide +kernel
theorem dX9_isAsSeen_61 : decode cX9_isAsSeen 61 = .ok (.if_icmp .ne 7, 3) := by decide +kernel
theorem dX9_isAsSeen_64 : decode cX9_isAsSeen 64 = .ok (.iconst 1, 1) := by decide +kernel
theorem dX9_isAsSeen_65 : decode cX9_isAsSeen 65 = .ok (.goto 4, 3) := by decide +kernel
theorem dX9_isAsSeen_68 : decode cX9_isAsSeen 68 = .ok (.iconst 0, 1) := by decide +kernel
theorem dX9_isAsSeen_69 : decode cX9_isAsSeen 69 = .ok (.istore_n 1, 1) := by decide +kernel
theorem dX9_isAsSeen_70 : decode cX9_isAsSeen 70 = .ok (.iinc 3 1, 3) := by decide +kernel
theorem dX9_isAsSeen_73 : decode cX9_isAsSeen 73 = .ok (.goto (-44), 3) := by decide +kernel
theorem dX9_isAsSeen_76 : decode cX9_isAsSeen 76 = .ok (.iinc 2 1, 3) := by decide +kernel
theorem dX9_isAsSeen_79 : decode cX9_isAsSeen 79 = .ok (.goto (-66), 3) := by decide +kernel
theorem dX9_isAsSeen_82 : decode cX9_isAsSeen 82 = .ok (.aload_n 0, 1) := by decide +kernel
theorem dX9_isAsSeen_83 : decode cX9_isAsSeen 83 = .ok (.aload_n 0, 1) := by decide +kernel
theorem dX9_isAsSeen_84 : decode cX9_isAsSeen 84 = .ok (.getfield 121, 3) := by decide +kernel
theorem dX9_isAsSeen_87 : decode cX9_isAsSeen 87 = .ok (.iconst 0, 1) := by decide +kernel
theorem dX9_isAsSeen_88 : decode cX9_isAsSeen 88 = .ok (.invokevirtual 416, 3) := by decide +kernel
theorem dX9_isAsSeen_91 : decode cX9_isAsSeen 91 = .ok (.iload_n 1, 1) := by decide +kernel
theorem dX9_isAsSeen_92 : decode cX9_isAsSeen 92 = .ok (.ireturn, 1) := by decide +kernel
set_option maxRecDepth 20000 in
theorem ggX9_tellFits_X9_isAsSeen : GoodIn wsX9_tellFits wsX9_isAsSeen := goodIn_r _ [8, 9, 10, 11, 12, 13, 14, 15, 16, 7, 17, 18, 2, 19, 20, 21, 22, 23, 24, 25, 26, 27, 28, 29, 30, 31, 32, 33, 34, 35, 36, 37, 38, 39, 40, 41, 42, 43, 44, 45, 46, 47, 48, 49, 50, 51, 52, 53, 54, 55, 56, 57, 58, 59, 60, 61, 62, 63, 64, 65, 66, 67, 68, 69, 70, 71, 72, 73, 74, 75, 76, 77, 78, 79, 80, 81, 82, 83, 84, 85, 86, 87, 88, 89, 90, 91, 92, 93, 94, 95, 96, 97, 98, 99, 100, 101, 102, 103, 104, 105, 106, 107, 108, 109, 110, 111, 112, 113, 114, 115, 116, 117, 118, 119, 120, 121, 122, 123, 124, 125, 126, 127, 128, 129, 130, 131, 132, 133, 134, 135, 136, 137, 138, 139, 140, 141, 142, 143, 144, 145, 146, 147, 148, 149, 150, 151, 152, 153, 154, 155, 156] (by decide +kernel) (by decide +kernel)
set_option maxRecDepth 20000 in
theorem gX9_tellFits_X9_isAsSeen : GoodIn wsX9_tellFits (wsV RX9 445 RX9 yX9_isAsSeen wsX9_isAsSeen) := goodIn_app (goodIn_of _ (by decide +kernel)) ggX9_tellFits_X9_isAsSeen
theorem dX9_tellFits_0 : decode cX9_tellFits 0 = .ok (.aload_n 0, 1) := by decide +kernel
theorem dX9_tellFits_1 : decode cX9_tellFits 1 = .ok (.iconst 0, 1) := by decide +kernel
theorem dX9_tellFits_2 : decode cX9_tellFits 2 = .ok (.putfield 442, 3) := by decide +kernel
theorem dX9_tellFits_5 : decode cX9_tellFits 5 = .ok (.aload_n 0, 1) := by decide +kernel
theorem dX9_tellFits_6 : decode cX9_tellFits 6 = .ok (.getfield 145, 3) := by decide +kernel
theorem dX9_tellFits_9 : decode cX9_tellFits 9 = .ok (.istore_n 1, 1) := by decide +kernel
theorem dX9_tellFits_10 : decode cX9_tellFits 10 = .ok (.iconst 0, 1) := by decide +kernel
theorem dX9_tellFits_11 : decode cX9_tellFits 11 = .ok (.istore_n 2, 1) := by decide +kernel
theorem dX9_tellFits_12 : decode cX9_tellFits 12 = .ok (.iload_n 2, 1) := by decide +kernel
theorem dX9_tellFits_13 : decode cX9_tellFits 13 = .ok (.bipush 99, 2) := by decide +kernel
theorem dX9_tellFits_15 : decode cX9_tellFits 15 = .ok (.if_icmp .gt 49, 3) := by decide +kernel
theorem dX9_tellFits_18 : decode cX9_tellFits 18 = .ok (.aload_n 0, 1) := by decide +kernel
theorem dX9_tellFits_19 : decode cX9_tellFits 19 = .ok (.iload_n 2, 1) := by decide +kernel
theorem dX9_tellFits_20 : decode cX9_tellFits 20 = .ok (.putfield 145, 3) := by decide +kernel
theorem dX9_tellFits_23 : decode cX9_tellFits 23 = .ok (.iload_n 2, 1) := by decide +kernel
theorem dX9_tellFits_24 : decode cX9_tellFits 24 = .ok (.iload_n 1, 1) := by decide +kernel
theorem dX9_tellFits_25 : decode cX9_tellFits 25 = .ok (.if_icmp .eq 33, 3) := by decide +kernel
theorem dX9_tellFits_28 : decode cX9_tellFits 28 = .ok (.aload_n 0, 1) := by decide +kernel
theorem dX9_tellFits_29 : decode cX9_tellFits 29 = .ok (.invokevirtual 445, 3) := by decide +kernel
theorem dX9_tellFits_32 : decode cX9_tellFits 32 = .ok (.ifCond .ne 6, 3) := by decide +kernel
theorem dX9_tellFits_35 : decode cX9_tellFits 35 = .ok (.goto 23, 3) := by decide +kernel
theorem dX9_tellFits_38 : decode cX9_tellFits 38 = .ok (.aload_n 0, 1) := by decide +kernel
theorem dX9_tellFits_39 : decode cX9_tellFits 39 = .ok (.getfield 124, 3) := by decide +kernel
theorem dX9_tellFits_42 : decode cX9_tellFits 42 = .ok (.aload_n 0, 1) := by decide +kernel
theorem dX9_tellFits_43 : decode cX9_tellFits 43 = .ok (.getfield 442, 3) := by decide +kernel
theorem dX9_tellFits_46 : decode cX9_tellFits 46 = .ok (.iload_n 2, 1) := by decide +kernel
theorem dX9_tellFits_47 : decode cX9_tellFits 47 = .ok (.iastore, 1) := by decide +kernel
theorem dX9_tellFits_48 : decode cX9_tellFits 48 = .ok (.aload_n 0, 1) := by decide +kernel
theorem dX9_tellFits_49 : decode cX9_tellFits 49 = .ok (.dup, 1) := by decide +kernel
theorem dX9_tellFits_50 : decode cX9_tellFits 50 = .ok (.getfield 442, 3) := by decide +kernel
theorem dX9_tellFits_53 : decode cX9_tellFits 53 = .ok (.iconst 1, 1) := by decide +kernel
theorem dX9_tellFits_54 : decode cX9_tellFits 54 = .ok (.iadd, 1) := by decide +kernel
theorem dX9_tellFits_55 : decode cX9_tellFits 55 = .ok (.putfield 442, 3) := by decide +kernel
theorem dX9_tellFits_58 : decode cX9_tellFits 58 = .ok (.iinc 2 1, 3) := by decide +kernel
theorem dX9_tellFits_61 : decode cX9_tellFits 61 = .ok (.goto (-49), 3) := by decide +kernel
theorem dX9_tellFits_64 : decode cX9_tellFits 64 = .ok (.aload_n 0, 1) := by decide +kernel
theorem dX9_tellFits_65 : decode cX9_tellFits 65 = .ok (.iload_n 1, 1) := by decide +kernel
theorem dX9_tellFits_66 : decode cX9_tellFits 66 = .ok (.putfield 145, 3) := by decide +kernel
theorem dX9_tellFits_69 : decode cX9_tellFits 69 = .ok (.return_, 1) := by decide +kernel
set_option maxRecDepth 20000 in
theorem ggX9_fouled_X9_isIn : GoodIn wsX9_fouled wsX9_isIn := goodIn_r _ [8] (by decide +kernel) (by decide +kernel)
set_option maxRecDepth 20000 in
theorem gX9_fouled_X9_isIn : GoodIn wsX9_fouled (va_wsS RX9 155 yX9_isIn wsX9_isIn) := goodIn_app (goodIn_of _ (by decide +kernel)) ggX9_fouled_X9_isIn
set_option maxRecDepth 20000 in
theorem ggX9_fouled_X9_fail : GoodIn wsX9_fouled wsX9_fail := goodIn_r _ [12, 1, 107, 108, 109, 110, 111, 112, 113, 114, 115, 116, 117, 118, 119, 120, 121, 122, 123, 124, 125, 126, 127, 128, 129, 130, 131, 132, 133, 134, 135, 136, 137, 138, 139, 140, 141, 142, 143, 144, 145, 146, 147, 148, 149, 150, 151, 152, 153, 154, 155, 156, 157, 158, 159, 160, 161, 162, 163, 164, 165, 166, 167, 168, 169] (by decide +kernel) (by decide +kernel)
set_option maxRecDepth 20000 in
theorem gX9_fouled_X9_fail : GoodIn wsX9_fouled (wsV RX9 299 RX9 yX9_fail wsX9_fail) := goodIn_app (goodIn_of _ (by decide +kernel)) ggX9_fouled_X9_fail
set_option maxRecDepth 20000 in
theorem ggX9_fouled_X9_isAsSeen : GoodIn wsX9_fouled wsX9_isAsSeen := goodIn_r _ [16, 17, 18, 19, 20, 21, 22, 23, 24, 7, 25, 26, 27, 28, 29, 30, 31, 32, 33, 34, 35, 36, 37, 38, 39, 40, 41, 42, 43, 44, 45, 46, 47, 48, 49, 50, 51, 52, 53, 54, 55, 56, 57, 58, 59, 60, 61, 62, 63, 64, 65, 66, 67, 68, 69, 70, 71, 72, 73, 74, 75, 76, 77, 78, 79, 80, 81, 82, 83, 84, 85, 86, 87, 88, 89, 90, 91, 92, 93, 94, 95, 96, 97, 98, 99, 100, 101, 102, 107, 108, 109, 110, 111, 112, 113, 114, 115, 116, 117, 118, 119, 120, 121, 122, 123, 124, 125, 126, 127, 128, 129, 130, 131, 132, 133, 134, 135, 136, 137, 138, 139, 140, 141, 142, 143, 144, 145, 146, 147, 148, 149, 150, 151, 152, 153, 154, 155, 156, 157, 158, 159, 160, 161, 162, 163, 164, 165, 166, 167, 168, 169] (by decide +kernel) (by decide +kernel)
set_option maxRecDepth 20000 in
theorem gX9_fouled_X9_isAsSeen : GoodIn wsX9_fouled (wsV RX9 445 RX9 yX9_isAsSeen wsX9_isAsSeen) := goodIn_app (goodIn_of _ (by decide +kernel)) ggX9_fouled_X9_isAsSeen
set_option maxRecDepth 20000 in
theorem ggX9_fouled_X9_tellFits : GoodIn wsX9_fouled wsX9_tellFits := goodIn_r _ [106, 3, 27, 4, 13, 14, 15, 7, 16, 17, 18, 19, 20, 21, 22, 23, 24, 25, 26, 28, 29, 30, 31, 32, 33, 34, 35, 36, 37, 38, 39, 40, 41, 42, 43, 44, 45, 46, 47, 48, 49, 50, 51, 52, 53, 54, 55, 56, 57, 58, 59, 60, 61, 62, 63, 64, 65, 66, 67, 68, 69, 70, 71, 72, 73, 74, 75, 76, 77, 78, 79, 80, 81, 82, 83, 84, 85, 86, 87, 88, 89, 90, 91, 92, 93, 94, 95, 96, 97, 98, 99, 100, 101, 102, 107, 108, 109, 110, 111, 112, 113, 114, 115, 116, 117, 118, 119, 120, 121, 122, 123, 124, 125, 126, 127, 128, 129, 130, 131, 132, 133, 134, 135, 136, 137, 138, 139, 140, 141, 142, 143, 144, 145, 146, 147, 148, 149, 150, 151, 152, 153, 154, 155, 156, 157, 158, 159, 160, 161, 162, 163, 164, 165, 166, 167, 168, 169] (by decide +kernel) (by decide +kernel)
set_option maxRecDepth 20000 in
theorem gX9_fouled_X9_tellFits : GoodIn wsX9_fouled (wsV RX9 449 RX9 yX9_tellFits wsX9_tellFits) := goodIn_app (goodIn_of _ (by decide +kernel)) ggX9_fouled_X9_tellFits
theorem dX9_fouled_0 : decode cX9_fouled 0 = .ok (.aload_n 0, 1) := by decide +kernel
theorem dX9_fouled_1 : decode cX9_fouled 1 = .ok (.iconst 0, 1) := by decide +kernel
theorem dX9_fouled_2 : decode cX9_fouled 2 = .ok (.putfield 152, 3) := by decide +kernel
theorem dX9_fouled_5 : decode cX9_fouled 5 = .ok (.iload_n 1, 1) := by decide +kernel
theorem dX9_fouled_6 : decode cX9_fouled 6 = .ok (.i2l, 1) := by decide +kernel
theorem dX9_fouled_7 : decode cX9_fouled 7 = .ok (.lconst 0, 1) := by decide +kernel
theorem dX9_fouled_8 : decode cX9_fouled 8 = .ok (.ldc2_w 384, 3) := by decide +kernel
theorem dX9_fouled_11 : decode cX9_fouled 11 = .ok (.invokestatic 155, 3) := by decide +kernel
theorem dX9_fouled_14 : decode cX9_fouled 14 = .ok (.ifCond .ne 9, 3) := by decide +kernel
theorem dX9_fouled_17 : decode cX9_fouled 17 = .ok (.aload_n 0, 1) := by decide +kernel
theorem dX9_fouled_18 : decode cX9_fouled 18 = .ok (.iconst 1, 1) := by decide +kernel
theorem dX9_fouled_19 : decode cX9_fouled 19 = .ok (.invokevirtual 299, 3) := by decide +kernel
theorem dX9_fouled_22 : decode cX9_fouled 22 = .ok (.ireturn, 1) := by decide +kernel
theorem dX9_fouled_23 : decode cX9_fouled 23 = .ok (.iload_n 1, 1) := by decide +kernel
theorem dX9_fouled_24 : decode cX9_fouled 24 = .ok (.iconst 2, 1) := by decide +kernel
theorem dX9_fouled_25 : decode cX9_fouled 25 = .ok (.if_icmp .ne 16, 3) := by decide +kernel
theorem dX9_fouled_28 : decode cX9_fouled 28 = .ok (.aload_n 0, 1) := by decide +kernel
theorem dX9_fouled_29 : decode cX9_fouled 29 = .ok (.invokevirtual 445, 3) := by decide +kernel
theorem dX9_fouled_32 : decode cX9_fouled 32 = .ok (.ifCond .eq 7, 3) := by decide +kernel
theorem dX9_fouled_35 : decode cX9_fouled 35 = .ok (.iconst 1, 1) := by decide +kernel
theorem dX9_fouled_36 : decode cX9_fouled 36 = .ok (.goto 4, 3) := by decide +kernel
theorem dX9_fouled_39 : decode cX9_fouled 39 = .ok (.iconst 0, 1) := by decide +kernel
theorem dX9_fouled_40 : decode cX9_fouled 40 = .ok (.ireturn, 1) := by decide +kernel
theorem dX9_fouled_41 : decode cX9_fouled 41 = .ok (.aload_n 0, 1) := by decide +kernel
theorem dX9_fouled_42 : decode cX9_fouled 42 = .ok (.invokevirtual 449, 3) := by decide +kernel
theorem dX9_fouled_45 : decode cX9_fouled 45 = .ok (.iload_n 1, 1) := by decide +kernel
theorem dX9_fouled_46 : decode cX9_fouled 46 = .ok (.ifCond .ne 10, 3) := by decide +kernel
theorem dX9_fouled_49 : decode cX9_fouled 49 = .ok (.aload_n 0, 1) := by decide +kernel
theorem dX9_fouled_50 : decode cX9_fouled 50 = .ok (.getfield 442, 3) := by decide +kernel
theorem dX9_fouled_53 : decode cX9_fouled 53 = .ok (.goto 20, 3) := by decide +kernel
theorem dX9_fouled_56 : decode cX9_fouled 56 = .ok (.aload_n 0, 1) := by decide +kernel
theorem dX9_fouled_57 : decode cX9_fouled 57 = .ok (.getfield 442, 3) := by decide +kernel
theorem dX9_fouled_60 : decode cX9_fouled 60 = .ok (.ifCond .ne 7, 3) := by decide +kernel
theorem dX9_fouled_63 : decode cX9_fouled 63 = .ok (.iconst (-1), 1) := by decide +kernel
theorem dX9_fouled_64 : decode cX9_fouled 64 = .ok (.goto 9, 3) := by decide +kernel
theorem dX9_fouled_67 : decode cX9_fouled 67 = .ok (.aload_n 0, 1) := by decide +kernel
theorem dX9_fouled_68 : decode cX9_fouled 68 = .ok (.getfield 124, 3) := by decide +kernel
theorem dX9_fouled_71 : decode cX9_fouled 71 = .ok (.iconst 0, 1) := by decide +kernel
theorem dX9_fouled_72 : decode cX9_fouled 72 = .ok (.iaload, 1) := by decide +kernel
theorem dX9_fouled_73 : decode cX9_fouled 73 = .ok (.ireturn, 1) := by decide +kernel
theorem dX9_unlike_0 : decode cX9_unlike 0 = .ok (.iconst 0, 1) := by decide +kernel
theorem dX9_unlike_1 : decode cX9_unlike 1 = .ok (.istore_n 2, 1) := by decide +kernel
theorem dX9_unlike_2 : decode cX9_unlike 2 = .ok (.iconst 0, 1) := by decide +kernel
theorem dX9_unlike_3 : decode cX9_unlike 3 = .ok (.istore_n 3, 1) := by decide +kernel
theorem dX9_unlike_4 : decode cX9_unlike 4 = .ok (.iload_n 3, 1) := by decide +kernel
theorem dX9_unlike_5 : decode cX9_unlike 5 = .ok (.aload_n 0, 1) := by decide +kernel
theorem dX9_unlike_6 : decode cX9_unlike 6 = .ok (.getfield 442, 3) := by decide +kernel
theorem dX9_unlike_9 : decode cX9_unlike 9 = .ok (.if_icmp .ge 78, 3) := by decide +kernel
theorem dX9_unlike_12 : decode cX9_unlike 12 = .ok (.iconst 1, 1) := by decide +kernel
theorem dX9_unlike_13 : decode cX9_unlike 13 = .ok (.istore 4, 2) := by decide +kernel
theorem dX9_unlike_15 : decode cX9_unlike 15 = .ok (.iconst 0, 1) := by decide +kernel
theorem dX9_unlike_16 : decode cX9_unlike 16 = .ok (.istore 5, 2) := by decide +kernel
theorem dX9_unlike_18 : decode cX9_unlike 18 = .ok (.iload 5, 2) := by decide +kernel
theorem dX9_unlike_20 : decode cX9_unlike 20 = .ok (.iload_n 3, 1) := by decide +kernel
theorem dX9_unlike_21 : decode cX9_unlike 21 = .ok (.if_icmp .ge 47, 3) := by decide +kernel
theorem dX9_unlike_24 : decode cX9_unlike 24 = .ok (.iload 4, 2) := by decide +kernel
theorem dX9_unlike_26 : decode cX9_unlike 26 = .ok (.ifCond .eq 42, 3) := by decide +kernel
theorem dX9_unlike_29 : decode cX9_unlike 29 = .ok (.aload_n 0, 1) := by decide +kernel
theorem dX9_unlike_30 : decode cX9_unlike 30 = .ok (.getfield 127, 3) := by decide +kernel
theorem dX9_unlike_33 : decode cX9_unlike 33 = .ok (.bipush 48, 2) := by decide +kernel
theorem dX9_unlike_35 : decode cX9_unlike 35 = .ok (.iload 5, 2) := by decide +kernel
theorem dX9_unlike_37 : decode cX9_unlike 37 = .ok (.imul, 1) := by decide +kernel
theorem dX9_unlike_38 : decode cX9_unlike 38 = .ok (.iload_n 1, 1) := by decide +kernel
theorem dX9_unlike_39 : decode cX9_unlike 39 = .ok (.iadd, 1) := by decide +kernel
theorem dX9_unlike_40 : decode cX9_unlike 40 = .ok (.iaload, 1) := by decide +kernel
theorem dX9_unlike_41 : decode cX9_unlike 41 = .ok (.aload_n 0, 1) := by decide +kernel
theorem dX9_unlike_42 : decode cX9_unlike 42 = .ok (.getfield 127, 3) := by decide +kernel
theorem dX9_unlike_45 : decode cX9_unlike 45 = .ok (.bipush 48, 2) := by decide +kernel
theorem dX9_unlike_47 : decode cX9_unlike 47 = .ok (.iload_n 3, 1) := by decide +kernel
theorem dX9_unlike_48 : decode cX9_unlike 48 = .ok (.imul, 1) := by decide +kernel
theorem dX9_unlike_49 : decode cX9_unlike 49 = .ok (.iload_n 1, 1) := by decide +kernel
theorem dX9_unlike_50 : decode cX9_unlike 50 = .ok (.iadd, 1) := by decide +kernel
theorem dX9_unlike_51 : decode cX9_unlike 51 = .ok (.iaload, 1) := by decide +kernel
theorem dX9_unlike_52 : decode cX9_unlike 52 = .ok (.if_icmp .eq 7, 3) := by decide +kernel
theorem dX9_unlike_55 : decode cX9_unlike 55 = .ok (.iconst 1, 1) := by decide +kernel
theorem dX9_unlike_56 : decode cX9_unlike 56 = .ok (.goto 4, 3) := by decide +kernel
theorem dX9_unlike_59 : decode cX9_unlike 59 = .ok (.iconst 0, 1) := by decide +kernel
theorem dX9_unlike_60 : decode cX9_unlike 60 = .ok (.istore 4, 2) := by decide +kernel
theorem dX9_unlike_62 : decode cX9_unlike 62 = .ok (.iinc 5 1, 3) := by decide +kernel
theorem dX9_unlike_65 : decode cX9_unlike 65 = .ok (.goto (-47), 3) := by decide +kernel
theorem dX9_unlike_68 : decode cX9_unlike 68 = .ok (.iload_n 2, 1) := by decide +kernel
theorem dX9_unlike_69 : decode cX9_unlike 69 = .ok (.iload 4, 2) := by decide +kernel
theorem dX9_unlike_71 : decode cX9_unlike 71 = .ok (.ifCond .eq 7, 3) := by decide +kernel
theorem dX9_unlike_74 : decode cX9_unlike 74 = .ok (.iconst 1, 1) := by decide +kernel
theorem dX9_unlike_75 : decode cX9_unlike 75 = .ok (.goto 4, 3) := by decide +kernel
theorem dX9_unlike_78 : decode cX9_unlike 78 = .ok (.iconst 0, 1) := by decide +kernel
theorem dX9_unlike_79 : decode cX9_unlike 79 = .ok (.iadd, 1) := by decide +kernel
theorem dX9_unlike_80 : decode cX9_unlike 80 = .ok (.istore_n 2, 1) := by decide +kernel
theorem dX9_unlike_81 : decode cX9_unlike 81 = .ok (.iinc 3 1, 3) := by decide +kernel
theorem dX9_unlike_84 : decode cX9_unlike 84 = .ok (.goto (-80), 3) := by decide +kernel
theorem dX9_unlike_87 : decode cX9_unlike 87 = .ok (.iload_n 2, 1) := by decide +kernel
theorem dX9_unlike_88 : decode cX9_unlike 88 = .ok (.ireturn, 1) := by decide +kernel
set_option maxRecDepth 20000 in
theorem ggX9_listen_X9_fail : GoodIn wsX9_listen wsX9_fail := goodIn_r _ [12, 1, 109, 110, 111, 112, 113, 114, 115, 116, 117, 118, 119, 120, 121, 122, 123, 124, 125, 126, 127, 128, 129, 130, 131, 132, 133, 134, 135, 136, 137, 138, 139, 140, 141, 142, 143, 144, 145, 146, 147, 148, 149, 150, 151, 152, 153, 154, 155, 156, 157, 158, 159, 160, 161, 162, 163, 164, 165, 166, 167, 168, 169, 170, 171] (by decide +kernel) (by decide +kernel)
set_option maxRecDepth 20000 in
theorem gX9_listen_X9_fail : GoodIn wsX9_listen (wsV RX9 299 RX9 yX9_fail wsX9_fail) := goodIn_app (goodIn_of _ (by decide +kernel)) ggX9_listen_X9_fail
set_option maxRecDepth 20000 in
theorem ggX9_listen_X9_tellFits : GoodIn wsX9_listen wsX9_tellFits := goodIn_r _ [16, 2, 5, 4, 17, 18, 19, 11, 20, 21, 22, 23, 7, 24, 25, 26, 27, 28, 29, 30, 31, 32, 33, 34, 35, 36, 37, 38, 39, 40, 41, 42, 43, 44, 45, 46, 47, 48, 49, 50, 51, 52, 53, 54, 55, 56, 57, 58, 59, 60, 61, 62, 63, 64, 65, 66, 67, 68, 69, 70, 71, 72, 73, 74, 75, 76, 77, 78, 79, 80, 81, 82, 83, 84, 85, 86, 87, 88, 89, 90, 91, 92, 93, 94, 95, 96, 97, 98, 99, 100, 101, 102, 103, 104, 109, 110, 111, 112, 113, 114, 115, 116, 117, 118, 119, 120, 121, 122, 123, 124, 125, 126, 127, 128, 129, 130, 131, 132, 133, 134, 135, 136, 137, 138, 139, 140, 141, 142, 143, 144, 145, 146, 147, 148, 149, 150, 151, 152, 153, 154, 155, 156, 157, 158, 159, 160, 161, 162, 163, 164, 165, 166, 167, 168, 169, 170, 171] (by decide +kernel) (by decide +kernel)
set_option maxRecDepth 20000 in
theorem gX9_listen_X9_tellFits : GoodIn wsX9_listen (wsV RX9 449 RX9 yX9_tellFits wsX9_tellFits) := goodIn_app (goodIn_of _ (by decide +kernel)) ggX9_listen_X9_tellFits
set_option maxRecDepth 20000 in
theorem ggX9_listen_X9_pack : GoodIn wsX9_listen wsX9_pack := goodIn_r _ [28, 29, 5, 30, 31, 32, 33, 34, 35, 36, 109, 110, 111, 112, 113, 114, 115, 116, 117, 118, 119, 120, 121, 122, 123, 124, 125, 126, 127, 128, 129, 130, 131, 132, 133, 134, 135, 136, 137, 138, 139, 140, 141, 142, 143, 144, 145, 146, 147, 148, 149, 150, 151, 152, 153, 154, 155, 156, 157, 158, 159, 160, 161, 162, 163, 164, 165, 166, 167, 168, 169, 170, 171] (by decide +kernel) (by decide +kernel)
set_option maxRecDepth 20000 in
theorem gX9_listen_X9_pack : GoodIn wsX9_listen (wsV RX9 395 RX9 yX9_pack wsX9_pack) := goodIn_app (goodIn_of _ (by decide +kernel)) ggX9_listen_X9_pack
set_option maxRecDepth 20000 in
theorem ggX9_listen_X9_anHour : GoodIn wsX9_listen wsX9_anHour := goodIn_r _ [40, 7, 5, 41, 42, 43, 44, 45, 46, 47, 36, 34, 48, 32, 49, 50, 51, 52, 33, 30, 31, 29, 53, 54, 55, 11, 56, 57, 58, 59, 60, 61, 62, 63, 64, 65, 66, 67, 68, 69, 70, 71, 72, 73, 74, 75, 76, 77, 78, 79, 80, 81, 82, 35, 83, 84, 85, 86, 87, 88, 89, 90, 91, 92, 93, 94, 95, 96, 97, 98, 99, 100, 109, 110, 111, 112, 113, 114, 115, 116, 117, 118, 119, 120, 121, 122, 123, 124, 125, 126, 127, 128, 129, 130, 131, 132, 133, 134, 135, 136, 137, 138, 139, 140, 141, 142, 143, 144, 145, 146, 147, 148, 149, 150, 151, 152, 153, 154, 155, 156, 157, 158, 159, 160, 161, 162, 163, 164, 165, 166, 167, 168, 169, 170, 171] (by decide +kernel) (by decide +kernel)
set_option maxRecDepth 20000 in
theorem gX9_listen_X9_anHour : GoodIn wsX9_listen (wsV RX9 375 RX9 yX9_anHour wsX9_anHour) := goodIn_app (goodIn_of _ (by decide +kernel)) ggX9_listen_X9_anHour
set_option maxRecDepth 20000 in
theorem ggX9_listen_X9_unpack : GoodIn wsX9_listen wsX9_unpack := goodIn_r _ [104, 29, 5, 30, 31, 32, 33, 34, 35, 36, 109, 110, 111, 112, 113, 114, 115, 116, 117, 118, 119, 120, 121, 122, 123, 124, 125, 126, 127, 128, 129, 130, 131, 132, 133, 134, 135, 136, 137, 138, 139, 140, 141, 142, 143, 144, 145, 146, 147, 148, 149, 150, 151, 152, 153, 154, 155, 156, 157, 158, 159, 160, 161, 162, 163, 164, 165, 166, 167, 168, 169, 170, 171] (by decide +kernel) (by decide +kernel)
set_option maxRecDepth 20000 in
theorem gX9_listen_X9_unpack : GoodIn wsX9_listen (wsV RX9 416 RX9 yX9_unpack wsX9_unpack) := goodIn_app (goodIn_of _ (by decide +kernel)) ggX9_listen_X9_unpack
set_option maxRecDepth 20000 in
theorem ggX9_listen_X9_unlike : GoodIn wsX9_listen wsX9_unlike := goodIn_r _ [108, 2, 6, 109, 110, 111, 112, 113, 114, 115, 116, 117, 118, 119, 120, 121, 122, 123, 124, 125, 126, 127, 128, 129, 130, 131, 132, 133, 134, 135, 136, 137, 138, 139, 140, 141, 142, 143, 144, 145, 146, 147, 148, 149, 150, 151, 152, 153, 154, 155, 156, 157, 158, 159, 160, 161, 162, 163, 164, 165, 166, 167, 168, 169, 170, 171] (by decide +kernel) (by decide +kernel)
set_option maxRecDepth 20000 in
theorem gX9_listen_X9_unlike : GoodIn wsX9_listen (wsV RX9 452 RX9 yX9_unlike wsX9_unlike) := goodIn_app (goodIn_of _ (by decide +kernel)) ggX9_listen_X9_unlike
theorem dX9_listen_0 : decode cX9_listen 0 = .ok (.aload_n 0, 1) := by decide +kernel
theorem dX9_listen_1 : decode cX9_listen 1 = .ok (.iconst 0, 1) := by decide +kernel
theorem dX9_listen_2 : decode cX9_listen 2 = .ok (.putfield 152, 3) := by decide +kernel
theorem dX9_listen_5 : decode cX9_listen 5 = .ok (.iload_n 1, 1) := by decide +kernel
theorem dX9_listen_6 : decode cX9_listen 6 = .ok (.ifCond .lt 8, 3) := by decide +kernel
theorem dX9_listen_9 : decode cX9_listen 9 = .ok (.iload_n 1, 1) := by decide +kernel
theorem dX9_listen_10 : decode cX9_listen 10 = .ok (.iconst 1, 1) := by decide +kernel
theorem dX9_listen_11 : decode cX9_listen 11 = .ok (.if_icmp .le 9, 3) := by decide +kernel
theorem dX9_listen_14 : decode cX9_listen 14 = .ok (.aload_n 0, 1) := by decide +kernel
theorem dX9_listen_15 : decode cX9_listen 15 = .ok (.iconst 1, 1) := by decide +kernel
theorem dX9_listen_16 : decode cX9_listen 16 = .ok (.invokevirtual 299, 3) := by decide +kernel
theorem dX9_listen_19 : decode cX9_listen 19 = .ok (.ireturn, 1) := by decide +kernel
theorem dX9_listen_20 : decode cX9_listen 20 = .ok (.aload_n 0, 1) := by decide +kernel
theorem dX9_listen_21 : decode cX9_listen 21 = .ok (.invokevirtual 449, 3) := by decide +kernel
theorem dX9_listen_24 : decode cX9_listen 24 = .ok (.iconst 0, 1) := by decide +kernel
theorem dX9_listen_25 : decode cX9_listen 25 = .ok (.istore_n 2, 1) := by decide +kernel
theorem dX9_listen_26 : decode cX9_listen 26 = .ok (.iload_n 2, 1) := by decide +kernel
theorem dX9_listen_27 : decode cX9_listen 27 = .ok (.aload_n 0, 1) := by decide +kernel
theorem dX9_listen_28 : decode cX9_listen 28 = .ok (.getfield 442, 3) := by decide +kernel
theorem dX9_listen_31 : decode cX9_listen 31 = .ok (.if_icmp .ge 70, 3) := by decide +kernel
theorem dX9_listen_34 : decode cX9_listen 34 = .ok (.aload_n 0, 1) := by decide +kernel
theorem dX9_listen_35 : decode cX9_listen 35 = .ok (.aload_n 0, 1) := by decide +kernel
theorem dX9_listen_36 : decode cX9_listen 36 = .ok (.getfield 106, 3) := by decide +kernel
theorem dX9_listen_39 : decode cX9_listen 39 = .ok (.iconst 0, 1) := by decide +kernel
theorem dX9_listen_40 : decode cX9_listen 40 = .ok (.invokevirtual 395, 3) := by decide +kernel
theorem dX9_listen_43 : decode cX9_listen 43 = .ok (.aload_n 0, 1) := by decide +kernel
theorem dX9_listen_44 : decode cX9_listen 44 = .ok (.aload_n 0, 1) := by decide +kernel
theorem dX9_listen_45 : decode cX9_listen 45 = .ok (.getfield 124, 3) := by decide +kernel
theorem dX9_listen_48 : decode cX9_listen 48 = .ok (.iload_n 2, 1) := by decide +kernel
theorem dX9_listen_49 : decode cX9_listen 49 = .ok (.iaload, 1) := by decide +kernel
theorem dX9_listen_50 : decode cX9_listen 50 = .ok (.putfield 145, 3) := by decide +kernel
theorem dX9_listen_53 : decode cX9_listen 53 = .ok (.iconst 0, 1) := by decide +kernel
theorem dX9_listen_54 : decode cX9_listen 54 = .ok (.istore_n 3, 1) := by decide +kernel
theorem dX9_listen_55 : decode cX9_listen 55 = .ok (.iload_n 3, 1) := by decide +kernel
theorem dX9_listen_56 : decode cX9_listen 56 = .ok (.bipush 48, 2) := by decide +kernel
theorem dX9_listen_58 : decode cX9_listen 58 = .ok (.if_icmp .ge 28, 3) := by decide +kernel
theorem dX9_listen_61 : decode cX9_listen 61 = .ok (.aload_n 0, 1) := by decide +kernel
theorem dX9_listen_62 : decode cX9_listen 62 = .ok (.invokevirtual 375, 3) := by decide +kernel
theorem dX9_listen_65 : decode cX9_listen 65 = .ok (.aload_n 0, 1) := by decide +kernel
theorem dX9_listen_66 : decode cX9_listen 66 = .ok (.getfield 127, 3) := by decide +kernel
theorem dX9_listen_69 : decode cX9_listen 69 = .ok (.bipush 48, 2) := by decide +kernel
theorem dX9_listen_71 : decode cX9_listen 71 = .ok (.iload_n 2, 1) := by decide +kernel
theorem dX9_listen_72 : decode cX9_listen 72 = .ok (.imul, 1) := by decide +kernel
theorem dX9_listen_73 : decode cX9_listen 73 = .ok (.iload_n 3, 1) := by decide +kernel
theorem dX9_listen_74 : decode cX9_listen 74 = .ok (.iadd, 1) := by decide +kernel
theorem dX9_listen_75 : decode cX9_listen 75 = .ok (.aload_n 0, 1) := by decide +kernel
theorem dX9_listen_76 : decode cX9_listen 76 = .ok (.getfield 360, 3) := by decide +kernel
theorem dX9_listen_79 : decode cX9_listen 79 = .ok (.iastore, 1) := by decide +kernel
theorem dX9_listen_80 : decode cX9_listen 80 = .ok (.iinc 3 1, 3) := by decide +kernel
theorem dX9_listen_83 : decode cX9_listen 83 = .ok (.goto (-28), 3) := by decide +kernel
theorem dX9_listen_86 : decode cX9_listen 86 = .ok (.aload_n 0, 1) := by decide +kernel
theorem dX9_listen_87 : decode cX9_listen 87 = .ok (.aload_n 0, 1) := by decide +kernel
theorem dX9_listen_88 : decode cX9_listen 88 = .ok (.getfield 106, 3) := by decide +kernel
theorem dX9_listen_91 : decode cX9_listen 91 = .ok (.iconst 0, 1) := by decide +kernel
theorem dX9_listen_92 : decode cX9_listen 92 = .ok (.invokevirtual 416, 3) := by decide +kernel
theorem dX9_listen_95 : decode cX9_listen 95 = .ok (.iinc 2 1, 3) := by decide +kernel
theorem dX9_listen_98 : decode cX9_listen 98 = .ok (.goto (-72), 3) := by decide +kernel
theorem dX9_listen_101 : decode cX9_listen 101 = .ok (.iconst (-1), 1) := by decide +kernel
theorem dX9_listen_102 : decode cX9_listen 102 = .ok (.istore_n 2, 1) := by decide +kernel
theorem dX9_listen_103 : decode cX9_listen 103 = .ok (.iconst 0, 1) := by decide +kernel
theorem dX9_listen_104 : decode cX9_listen 104 = .ok (.istore_n 3, 1) := by decide +kernel
theorem dX9_listen_105 : decode cX9_listen 105 = .ok (.iconst 0, 1) := by decide +kernel
theorem dX9_listen_106 : decode cX9_listen 106 = .ok (.istore 4, 2) := by decide +kernel
theorem dX9_listen_108 : decode cX9_listen 108 = .ok (.iload 4, 2) := by decide +kernel
theorem dX9_listen_110 : decode cX9_listen 110 = .ok (.bipush 48, 2) := by decide +kernel
theorem dX9_listen_112 : decode cX9_listen 112 = .ok (.if_icmp .ge 34, 3) := by decide +kernel
theorem dX9_listen_115 : decode cX9_listen 115 = .ok (.aload_n 0, 1) := by decide +kernel
theorem dX9_listen_116 : decode cX9_listen 116 = .ok (.iload 4, 2) := by decide +kernel
theorem dX9_listen_118 : decode cX9_listen 118 = .ok (.invokevirtual 452, 3) := by decide +kernel
theorem dX9_listen_121 : decode cX9_listen 121 = .ok (.istore 5, 2) := by decide +kernel
theorem dX9_listen_123 : decode cX9_listen 123 = .ok (.iload 5, 2) := by decide +kernel
theorem dX9_listen_125 : decode cX9_listen 125 = .ok (.iload_n 3, 1) := by decide +kernel
theorem dX9_listen_126 : decode cX9_listen 126 = .ok (.if_icmp .gt 6, 3) := by decide +kernel
theorem dX9_listen_129 : decode cX9_listen 129 = .ok (.goto 11, 3) := by decide +kernel
theorem dX9_listen_132 : decode cX9_listen 132 = .ok (.iload 4, 2) := by decide +kernel
theorem dX9_listen_134 : decode cX9_listen 134 = .ok (.iconst 1, 1) := by decide +kernel
theorem dX9_listen_135 : decode cX9_listen 135 = .ok (.iadd, 1) := by decide +kernel
theorem dX9_listen_136 : decode cX9_listen 136 = .ok (.istore_n 2, 1) := by decide +kernel
theorem dX9_listen_137 : decode cX9_listen 137 = .ok (.iload 5, 2) := by decide +kernel
theorem dX9_listen_139 : decode cX9_listen 139 = .ok (.istore_n 3, 1) := by decide +kernel
theorem dX9_listen_140 : decode cX9_listen 140 = .ok (.iinc 4 1, 3) := by decide +kernel
theorem dX9_listen_143 : decode cX9_listen 143 = .ok (.goto (-35), 3) := by decide +kernel
theorem dX9_listen_146 : decode cX9_listen 146 = .ok (.iload_n 1, 1) := by decide +kernel
theorem dX9_listen_147 : decode cX9_listen 147 = .ok (.ifCond .ne 7, 3) := by decide +kernel
theorem dX9_listen_150 : decode cX9_listen 150 = .ok (.iload_n 2, 1) := by decide +kernel
theorem dX9_listen_151 : decode cX9_listen 151 = .ok (.goto 4, 3) := by decide +kernel
theorem dX9_listen_154 : decode cX9_listen 154 = .ok (.iload_n 3, 1) := by decide +kernel
theorem dX9_listen_155 : decode cX9_listen 155 = .ok (.ireturn, 1) := by decide +kernel
theorem dX9_forget_0 : decode cX9_forget 0 = .ok (.aload_n 0, 1) := by decide +kernel
theorem dX9_forget_1 : decode cX9_forget 1 = .ok (.iconst 0, 1) := by decide +kernel
theorem dX9_forget_2 : decode cX9_forget 2 = .ok (.putfield 152, 3) := by decide +kernel
theorem dX9_forget_5 : decode cX9_forget 5 = .ok (.aload_n 0, 1) := by decide +kernel
theorem dX9_forget_6 : decode cX9_forget 6 = .ok (.iconst 0, 1) := by decide +kernel
theorem dX9_forget_7 : decode cX9_forget 7 = .ok (.putfield 324, 3) := by decide +kernel
theorem dX9_forget_10 : decode cX9_forget 10 = .ok (.return_, 1) := by decide +kernel
set_option maxRecDepth 20000 in
theorem ggX9_gain_X9_wouldPass : GoodIn wsX9_gain wsX9_wouldPass := goodIn_r _ [6, 7, 8, 9, 10, 11, 12, 5, 13, 14, 15, 16, 17, 18, 19, 1, 20, 21, 22, 23, 24, 25, 26, 27, 28, 29, 30, 31, 32, 33, 34, 35, 36, 37, 38, 39, 40, 41, 42, 43, 44, 45, 46, 47, 48, 49, 50, 51, 52, 53, 54, 55, 56, 57, 58, 59, 60, 61, 62, 63, 64, 65, 66, 67, 68, 69, 70, 71, 72, 73, 74, 75, 76, 77, 78, 79, 80, 81, 82, 83, 84, 85, 86, 87, 88, 89, 90, 91, 92, 93, 94, 95, 96, 97, 98, 99, 100, 101, 102, 103, 104, 105] (by decide +kernel) (by decide +kernel)
set_option maxRecDepth 20000 in
theorem gX9_gain_X9_wouldPass : GoodIn wsX9_gain (wsV RX9 369 RX9 yX9_wouldPass wsX9_wouldPass) := goodIn_app (goodIn_of _ (by decide +kernel)) ggX9_gain_X9_wouldPass
theorem dX9_gain_0 : decode cX9_gain 0 = .ok (.iload_n 3, 1) := by decide +kernel
theorem dX9_gain_1 : decode cX9_gain 1 = .ok (.iconst 1, 1) := by decide +kernel
theorem dX9_gain_2 : decode cX9_gain 2 = .ok (.if_icmp .ne 5, 3) := by decide +kernel
theorem dX9_gain_5 : decode cX9_gain 5 = .ok (.iconst 0, 1) := by decide +kernel
theorem dX9_gain_6 : decode cX9_gain 6 = .ok (.ireturn, 1) := by decide +kernel
theorem dX9_gain_7 : decode cX9_gain 7 = .ok (.aload_n 0, 1) := by decide +kernel
theorem dX9_gain_8 : decode cX9_gain 8 = .ok (.iload_n 1, 1) := by decide +kernel
theorem dX9_gain_9 : decode cX9_gain 9 = .ok (.iload_n 2, 1) := by decide +kernel
theorem dX9_gain_10 : decode cX9_gain 10 = .ok (.invokevirtual 369, 3) := by decide +kernel
theorem dX9_gain_13 : decode cX9_gain 13 = .ok (.ifCond .ne 5, 3) := by decide +kernel
theorem dX9_gain_16 : decode cX9_gain 16 = .ok (.iconst (-1), 1) := by decide +kernel
theorem dX9_gain_17 : decode cX9_gain 17 = .ok (.ireturn, 1) := by decide +kernel
theorem dX9_gain_18 : decode cX9_gain 18 = .ok (.iload 4, 2) := by decide +kernel
theorem dX9_gain_20 : decode cX9_gain 20 = .ok (.iconst 1, 1) := by decide +kernel
theorem dX9_gain_21 : decode cX9_gain 21 = .ok (.if_icmp .ne 14, 3) := by decide +kernel
theorem dX9_gain_24 : decode cX9_gain 24 = .ok (.iconst 2, 1) := by decide +kernel
theorem dX9_gain_25 : decode cX9_gain 25 = .ok (.aload_n 0, 1) := by decide +kernel
theorem dX9_gain_26 : decode cX9_gain 26 = .ok (.getfield 67, 3) := by decide +kernel
theorem dX9_gain_29 : decode cX9_gain 29 = .ok (.iload_n 1, 1) := by decide +kernel
theorem dX9_gain_30 : decode cX9_gain 30 = .ok (.iaload, 1) := by decide +kernel
theorem dX9_gain_31 : decode cX9_gain 31 = .ok (.imul, 1) := by decide +kernel
theorem dX9_gain_32 : decode cX9_gain 32 = .ok (.goto 9, 3) := by decide +kernel
theorem dX9_gain_35 : decode cX9_gain 35 = .ok (.aload_n 0, 1) := by decide +kernel
theorem dX9_gain_36 : decode cX9_gain 36 = .ok (.getfield 67, 3) := by decide +kernel
theorem dX9_gain_39 : decode cX9_gain 39 = .ok (.iload_n 1, 1) := by decide +kernel
theorem dX9_gain_40 : decode cX9_gain 40 = .ok (.iaload, 1) := by decide +kernel
theorem dX9_gain_41 : decode cX9_gain 41 = .ok (.ireturn, 1) := by decide +kernel
set_option maxRecDepth 20000 in
theorem ggX9_game_X9_isMotion : GoodIn wsX9_game wsX9_isMotion := goodIn_r _ [7, 8, 9, 10, 6, 11, 74, 75, 76, 77, 78, 79, 80, 81, 82, 83, 84, 85, 86, 87, 88, 89, 90, 91, 92, 93, 94, 95, 96, 97, 98, 99, 100, 101, 102, 103, 104, 105, 106, 107, 108, 109, 110, 111, 112, 113, 114, 115, 116, 117, 118, 119, 120, 121, 122, 123, 124, 125, 126, 127, 128, 129, 130, 131, 132, 133, 134, 135, 136] (by decide +kernel) (by decide +kernel)
set_option maxRecDepth 20000 in
theorem gX9_game_X9_isMotion : GoodIn wsX9_game (wsV RX9 389 RX9 yX9_isMotion wsX9_isMotion) := goodIn_app (goodIn_of _ (by decide +kernel)) ggX9_game_X9_isMotion
set_option maxRecDepth 20000 in
theorem ggX9_game_X9_fail : GoodIn wsX9_game wsX9_fail := goodIn_r _ [15, 1, 74, 75, 76, 77, 78, 79, 80, 81, 82, 83, 84, 85, 86, 87, 88, 89, 90, 91, 92, 93, 94, 95, 96, 97, 98, 99, 100, 101, 102, 103, 104, 105, 106, 107, 108, 109, 110, 111, 112, 113, 114, 115, 116, 117, 118, 119, 120, 121, 122, 123, 124, 125, 126, 127, 128, 129, 130, 131, 132, 133, 134, 135, 136] (by decide +kernel) (by decide +kernel)
set_option maxRecDepth 20000 in
theorem gX9_game_X9_fail : GoodIn wsX9_game (wsV RX9 299 RX9 yX9_fail wsX9_fail) := goodIn_app (goodIn_of _ (by decide +kernel)) ggX9_game_X9_fail
set_option maxRecDepth 20000 in
theorem ggX9_game_X9_saidNow : GoodIn wsX9_game wsX9_saidNow := goodIn_r _ [19, 20, 21, 22, 8, 23, 24, 25, 26, 27, 28, 29, 30, 31, 32, 33, 34, 35, 6, 36, 37, 38, 39, 40, 74, 75, 76, 77, 78, 79, 80, 81, 82, 83, 84, 85, 86, 87, 88, 89, 90, 91, 92, 93, 94, 95, 96, 97, 98, 99, 100, 101, 102, 103, 104, 105, 106, 107, 108, 109, 110, 111, 112, 113, 114, 115, 116, 117, 118, 119, 120, 121, 122, 123, 124, 125, 126, 127, 128, 129, 130, 131, 132, 133, 134, 135, 136] (by decide +kernel) (by decide +kernel)
set_option maxRecDepth 20000 in
theorem gX9_game_X9_saidNow : GoodIn wsX9_game (wsV RX9 357 RX9 yX9_saidNow wsX9_saidNow) := goodIn_app (goodIn_of _ (by decide +kernel)) ggX9_game_X9_saidNow
set_option maxRecDepth 20000 in
theorem ggX9_game_X9_isOf : GoodIn wsX9_game wsX9_isOf := goodIn_r _ [43] (by decide +kernel) (by decide +kernel)
set_option maxRecDepth 20000 in
theorem gX9_game_X9_isOf : GoodIn wsX9_game (va_wsS RX9 354 yX9_isOf wsX9_isOf) := goodIn_app (goodIn_of _ (by decide +kernel)) ggX9_game_X9_isOf
set_option maxRecDepth 20000 in
theorem ggX9_game_X9_gain : GoodIn wsX9_game wsX9_gain := goodIn_r _ [47, 48, 49, 50, 51, 6, 52, 53, 54, 55, 56, 57, 58, 59, 8, 60, 61, 62, 63, 64, 23, 65, 30, 31, 28, 32, 2, 66, 67, 68, 69, 33, 34, 35, 36, 37, 38, 39, 40, 70, 71, 72, 73, 74, 75, 76, 77, 78, 79, 80, 81, 82, 83, 84, 85, 86, 87, 88, 89, 90, 91, 92, 93, 94, 95, 96, 97, 98, 99, 100, 101, 102, 103, 104, 105, 106, 107, 108, 109, 110, 111, 112, 113, 114, 115, 116, 117, 118, 119, 120, 121, 122, 123, 124, 125, 126, 127, 128, 129, 130, 131, 132, 133, 134, 135, 136] (by decide +kernel) (by decide +kernel)
set_option maxRecDepth 20000 in
theorem gX9_game_X9_gain : GoodIn wsX9_game (wsV RX9 455 RX9 yX9_gain wsX9_gain) := goodIn_app (goodIn_of _ (by decide +kernel)) ggX9_game_X9_gain
theorem dX9_game_0 : decode cX9_game 0 = .ok (.aload_n 0, 1) := by decide +kernel
theorem dX9_game_1 : decode cX9_game 1 = .ok (.iconst 0, 1) := by decide +kernel
theorem dX9_game_2 : decode cX9_game 2 = .ok (.putfield 152, 3) := by decide +kernel
theorem dX9_game_5 : decode cX9_game 5 = .ok (.aload_n 0, 1) := by decide +kernel
theorem dX9_game_6 : decode cX9_game 6 = .ok (.iload_n 1, 1) := by decide +kernel
theorem dX9_game_7 : decode cX9_game 7 = .ok (.invokevirtual 389, 3) := by decide +kernel
theorem dX9_game_10 : decode cX9_game 10 = .ok (.ifCond .eq 20, 3) := by decide +kernel
theorem dX9_game_13 : decode cX9_game 13 = .ok (.aload_n 0, 1) := by decide +kernel
theorem dX9_game_14 : decode cX9_game 14 = .ok (.iload_n 2, 1) := by decide +kernel
theorem dX9_game_15 : decode cX9_game 15 = .ok (.invokevirtual 389, 3) := by decide +kernel
theorem dX9_game_18 : decode cX9_game 18 = .ok (.ifCond .eq 12, 3) := by decide +kernel
theorem dX9_game_21 : decode cX9_game 21 = .ok (.iload_n 3, 1) := by decide +kernel
theorem dX9_game_22 : decode cX9_game 22 = .ok (.ifCond .lt 8, 3) := by decide +kernel
theorem dX9_game_25 : decode cX9_game 25 = .ok (.iload_n 3, 1) := by decide +kernel
theorem dX9_game_26 : decode cX9_game 26 = .ok (.iconst 1, 1) := by decide +kernel
theorem dX9_game_27 : decode cX9_game 27 = .ok (.if_icmp .le 9, 3) := by decide +kernel
theorem dX9_game_30 : decode cX9_game 30 = .ok (.aload_n 0, 1) := by decide +kernel
theorem dX9_game_31 : decode cX9_game 31 = .ok (.iconst 1, 1) := by decide +kernel
theorem dX9_game_32 : decode cX9_game 32 = .ok (.invokevirtual 299, 3) := by decide +kernel
theorem dX9_game_35 : decode cX9_game 35 = .ok (.ireturn, 1) := by decide +kernel
theorem dX9_game_36 : decode cX9_game 36 = .ok (.aload_n 0, 1) := by decide +kernel
theorem dX9_game_37 : decode cX9_game 37 = .ok (.invokevirtual 357, 3) := by decide +kernel
theorem dX9_game_40 : decode cX9_game 40 = .ok (.istore 4, 2) := by decide +kernel
theorem dX9_game_42 : decode cX9_game 42 = .ok (.iload_n 1, 1) := by decide +kernel
theorem dX9_game_43 : decode cX9_game 43 = .ok (.iload_n 2, 1) := by decide +kernel
theorem dX9_game_44 : decode cX9_game 44 = .ok (.if_icmp .eq 31, 3) := by decide +kernel
theorem dX9_game_47 : decode cX9_game 47 = .ok (.aload_n 0, 1) := by decide +kernel
theorem dX9_game_48 : decode cX9_game 48 = .ok (.getfield 319, 3) := by decide +kernel
theorem dX9_game_51 : decode cX9_game 51 = .ok (.iload_n 1, 1) := by decide +kernel
theorem dX9_game_52 : decode cX9_game 52 = .ok (.invokestatic 354, 3) := by decide +kernel
theorem dX9_game_55 : decode cX9_game 55 = .ok (.ifCond .ne 20, 3) := by decide +kernel
theorem dX9_game_58 : decode cX9_game 58 = .ok (.aload_n 0, 1) := by decide +kernel
theorem dX9_game_59 : decode cX9_game 59 = .ok (.getfield 319, 3) := by decide +kernel
theorem dX9_game_62 : decode cX9_game 62 = .ok (.iload_n 2, 1) := by decide +kernel
theorem dX9_game_63 : decode cX9_game 63 = .ok (.invokestatic 354, 3) := by decide +kernel
theorem dX9_game_66 : decode cX9_game 66 = .ok (.ifCond .ne 9, 3) := by decide +kernel
theorem dX9_game_69 : decode cX9_game 69 = .ok (.iload 4, 2) := by decide +kernel
