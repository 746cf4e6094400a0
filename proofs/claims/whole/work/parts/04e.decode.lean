theorem dX9_stepOn_196 : decode cX9_stepOn 196 = .ok (.aload_n 0, 1) := by decide +kernel
theorem dX9_stepOn_197 : decode cX9_stepOn 197 = .ok (.iload_n 1, 1) := by decide +kernel
theorem dX9_stepOn_198 : decode cX9_stepOn 198 = .ok (.invokestatic 195, 3) := by decide +kernel
theorem dX9_stepOn_201 : decode cX9_stepOn 201 = .ok (.ifCond .eq 7, 3) := by decide +kernel
theorem dX9_stepOn_204 : decode cX9_stepOn 204 = .ok (.iconst 3, 1) := by decide +kernel
theorem dX9_stepOn_205 : decode cX9_stepOn 205 = .ok (.goto 4, 3) := by decide +kernel
theorem dX9_stepOn_208 : decode cX9_stepOn 208 = .ok (.iconst 4, 1) := by decide +kernel
theorem dX9_stepOn_209 : decode cX9_stepOn 209 = .ok (.putfield 175, 3) := by decide +kernel
theorem dX9_stepOn_212 : decode cX9_stepOn 212 = .ok (.aload_n 0, 1) := by decide +kernel
theorem dX9_stepOn_213 : decode cX9_stepOn 213 = .ok (.aload_n 0, 1) := by decide +kernel
theorem dX9_stepOn_214 : decode cX9_stepOn 214 = .ok (.getfield 165, 3) := by decide +kernel
theorem dX9_stepOn_217 : decode cX9_stepOn 217 = .ok (.putfield 198, 3) := by decide +kernel
theorem dX9_stepOn_220 : decode cX9_stepOn 220 = .ok (.return_, 1) := by decide +kernel
theorem dX9_wrong_0 : decode cX9_wrong 0 = .ok (.aload_n 0, 1) := by decide +kernel
theorem dX9_wrong_1 : decode cX9_wrong 1 = .ok (.getfield 201, 3) := by decide +kernel
theorem dX9_wrong_4 : decode cX9_wrong 4 = .ok (.ifCond .eq 4, 3) := by decide +kernel
theorem dX9_wrong_7 : decode cX9_wrong 7 = .ok (.return_, 1) := by decide +kernel
theorem dX9_wrong_8 : decode cX9_wrong 8 = .ok (.aload_n 0, 1) := by decide +kernel
theorem dX9_wrong_9 : decode cX9_wrong 9 = .ok (.iload_n 1, 1) := by decide +kernel
theorem dX9_wrong_10 : decode cX9_wrong 10 = .ok (.putfield 201, 3) := by decide +kernel
theorem dX9_wrong_13 : decode cX9_wrong 13 = .ok (.aload_n 0, 1) := by decide +kernel
theorem dX9_wrong_14 : decode cX9_wrong 14 = .ok (.aload_n 0, 1) := by decide +kernel
theorem dX9_wrong_15 : decode cX9_wrong 15 = .ok (.getfield 172, 3) := by decide +kernel
theorem dX9_wrong_18 : decode cX9_wrong 18 = .ok (.putfield 204, 3) := by decide +kernel
theorem dX9_wrong_21 : decode cX9_wrong 21 = .ok (.return_, 1) := by decide +kernel
set_option maxRecDepth 20000 in
theorem ggX9_is_J0_length_8abf5 : GoodIn wsX9_is wsJ0_length_8abf5 := goodIn_r _ [10, 11, 12, 13, 14, 9, 15, 16, 17] (by decide +kernel) (by decide +kernel)
set_option maxRecDepth 20000 in
theorem gX9_is_J0_length_8abf5 : GoodIn wsX9_is (wsV RX9 207 RJ0 yJ0_length_8abf5 wsJ0_length_8abf5) := goodIn_app (goodIn_of _ (by decide +kernel)) ggX9_is_J0_length_8abf5
set_option maxRecDepth 20000 in
theorem ggX9_is_J0_charAt_5068e : GoodIn wsX9_is wsJ0_charAt_5068e := goodIn_r _ [21, 11, 22, 23, 24, 9, 25, 16, 17, 26, 27, 28, 29, 30, 31, 32, 33, 34, 35, 36, 37, 38, 39, 40, 41, 42, 43, 44, 45, 46, 47, 48, 49, 50, 51, 52, 53, 54] (by decide +kernel) (by decide +kernel)
set_option maxRecDepth 20000 in
theorem gX9_is_J0_charAt_5068e : GoodIn wsX9_is (wsV RX9 211 RJ0 yJ0_charAt_5068e wsJ0_charAt_5068e) := goodIn_app (goodIn_of _ (by decide +kernel)) ggX9_is_J0_charAt_5068e
theorem dX9_is_0 : decode cX9_is 0 = .ok (.aload_n 0, 1) := by decide +kernel
theorem dX9_is_1 : decode cX9_is 1 = .ok (.getfield 201, 3) := by decide +kernel
theorem dX9_is_4 : decode cX9_is 4 = .ok (.ifCond .ne 31, 3) := by decide +kernel
theorem dX9_is_7 : decode cX9_is 7 = .ok (.aload_n 0, 1) := by decide +kernel
theorem dX9_is_8 : decode cX9_is 8 = .ok (.getfield 175, 3) := by decide +kernel
theorem dX9_is_11 : decode cX9_is 11 = .ok (.iconst 1, 1) := by decide +kernel
theorem dX9_is_12 : decode cX9_is 12 = .ok (.if_icmp .ne 23, 3) := by decide +kernel
theorem dX9_is_15 : decode cX9_is 15 = .ok (.aload_n 1, 1) := by decide +kernel
theorem dX9_is_16 : decode cX9_is 16 = .ok (.invokevirtual 207, 3) := by decide +kernel
theorem dX9_is_19 : decode cX9_is 19 = .ok (.aload_n 0, 1) := by decide +kernel
theorem dX9_is_20 : decode cX9_is 20 = .ok (.getfield 198, 3) := by decide +kernel
theorem dX9_is_23 : decode cX9_is 23 = .ok (.aload_n 0, 1) := by decide +kernel
theorem dX9_is_24 : decode cX9_is 24 = .ok (.getfield 172, 3) := by decide +kernel
theorem dX9_is_27 : decode cX9_is 27 = .ok (.isub, 1) := by decide +kernel
theorem dX9_is_28 : decode cX9_is 28 = .ok (.if_icmp .ne 7, 3) := by decide +kernel
theorem dX9_is_31 : decode cX9_is 31 = .ok (.iconst 1, 1) := by decide +kernel
theorem dX9_is_32 : decode cX9_is 32 = .ok (.goto 4, 3) := by decide +kernel
theorem dX9_is_35 : decode cX9_is 35 = .ok (.iconst 0, 1) := by decide +kernel
theorem dX9_is_36 : decode cX9_is 36 = .ok (.istore_n 2, 1) := by decide +kernel
theorem dX9_is_37 : decode cX9_is 37 = .ok (.iconst 0, 1) := by decide +kernel
theorem dX9_is_38 : decode cX9_is 38 = .ok (.istore_n 3, 1) := by decide +kernel
theorem dX9_is_39 : decode cX9_is 39 = .ok (.iload_n 2, 1) := by decide +kernel
theorem dX9_is_40 : decode cX9_is 40 = .ok (.ifCond .eq 42, 3) := by decide +kernel
theorem dX9_is_43 : decode cX9_is 43 = .ok (.iload_n 3, 1) := by decide +kernel
theorem dX9_is_44 : decode cX9_is 44 = .ok (.aload_n 1, 1) := by decide +kernel
theorem dX9_is_45 : decode cX9_is 45 = .ok (.invokevirtual 207, 3) := by decide +kernel
theorem dX9_is_48 : decode cX9_is 48 = .ok (.if_icmp .ge 34, 3) := by decide +kernel
theorem dX9_is_51 : decode cX9_is 51 = .ok (.aload_n 1, 1) := by decide +kernel
theorem dX9_is_52 : decode cX9_is 52 = .ok (.iload_n 3, 1) := by decide +kernel
theorem dX9_is_53 : decode cX9_is 53 = .ok (.invokevirtual 211, 3) := by decide +kernel
theorem dX9_is_56 : decode cX9_is 56 = .ok (.aload_n 0, 1) := by decide +kernel
theorem dX9_is_57 : decode cX9_is 57 = .ok (.getfield 82, 3) := by decide +kernel
theorem dX9_is_60 : decode cX9_is 60 = .ok (.aload_n 0, 1) := by decide +kernel
theorem dX9_is_61 : decode cX9_is 61 = .ok (.getfield 172, 3) := by decide +kernel
theorem dX9_is_64 : decode cX9_is 64 = .ok (.iload_n 3, 1) := by decide +kernel
theorem dX9_is_65 : decode cX9_is 65 = .ok (.iadd, 1) := by decide +kernel
theorem dX9_is_66 : decode cX9_is 66 = .ok (.iaload, 1) := by decide +kernel
theorem dX9_is_67 : decode cX9_is 67 = .ok (.if_icmp .ne 7, 3) := by decide +kernel
theorem dX9_is_70 : decode cX9_is 70 = .ok (.iconst 1, 1) := by decide +kernel
theorem dX9_is_71 : decode cX9_is 71 = .ok (.goto 4, 3) := by decide +kernel
theorem dX9_is_74 : decode cX9_is 74 = .ok (.iconst 0, 1) := by decide +kernel
theorem dX9_is_75 : decode cX9_is 75 = .ok (.istore_n 2, 1) := by decide +kernel
theorem dX9_is_76 : decode cX9_is 76 = .ok (.iinc 3 1, 3) := by decide +kernel
theorem dX9_is_79 : decode cX9_is 79 = .ok (.goto (-40), 3) := by decide +kernel
theorem dX9_is_82 : decode cX9_is 82 = .ok (.iload_n 2, 1) := by decide +kernel
theorem dX9_is_83 : decode cX9_is 83 = .ok (.ireturn, 1) := by decide +kernel
set_option maxRecDepth 20000 in
theorem ggX9_which_X9_is : GoodIn wsX9_which wsX9_is := goodIn_r _ [5, 6, 7, 8, 9, 10, 11, 12, 13, 14, 15, 16, 17, 18, 19, 20, 21, 22, 23, 24, 25, 26, 27, 28, 29, 30, 31, 32, 33, 34, 35, 36, 37, 38, 39, 40, 41, 42, 43, 44, 45, 46, 47, 48, 49, 50, 51, 52, 53, 54, 55, 56, 57, 58, 59, 60, 61, 62, 63, 64, 65, 66, 67, 68, 69, 70, 71, 72, 73, 74, 75, 76, 77, 78, 79, 80, 81, 82, 83, 84, 85, 86, 87, 88, 89, 90, 91, 92, 93, 94, 95, 96, 97, 98, 99, 100, 101, 102, 103, 104, 105, 106, 107, 108, 109, 110, 111, 112, 113, 114, 115, 116, 117, 118, 119, 120, 121, 122] (by decide +kernel) (by decide +kernel)
set_option maxRecDepth 20000 in
theorem gX9_which_X9_is : GoodIn wsX9_which (wsV RX9 215 RX9 yX9_is wsX9_is) := goodIn_app (goodIn_of _ (by decide +kernel)) ggX9_which_X9_is
theorem dX9_which_0 : decode cX9_which 0 = .ok (.iconst 0, 1) := by decide +kernel
theorem dX9_which_1 : decode cX9_which 1 = .ok (.istore_n 2, 1) := by decide +kernel
theorem dX9_which_2 : decode cX9_which 2 = .ok (.iload_n 2, 1) := by decide +kernel
theorem dX9_which_3 : decode cX9_which 3 = .ok (.aload_n 1, 1) := by decide +kernel
theorem dX9_which_4 : decode cX9_which 4 = .ok (.arraylength, 1) := by decide +kernel
theorem dX9_which_5 : decode cX9_which 5 = .ok (.if_icmp .ge 21, 3) := by decide +kernel
theorem dX9_which_8 : decode cX9_which 8 = .ok (.aload_n 0, 1) := by decide +kernel
theorem dX9_which_9 : decode cX9_which 9 = .ok (.aload_n 1, 1) := by decide +kernel
theorem dX9_which_10 : decode cX9_which 10 = .ok (.iload_n 2, 1) := by decide +kernel
theorem dX9_which_11 : decode cX9_which 11 = .ok (.aaload, 1) := by decide +kernel
theorem dX9_which_12 : decode cX9_which 12 = .ok (.invokevirtual 215, 3) := by decide +kernel
theorem dX9_which_15 : decode cX9_which 15 = .ok (.ifCond .eq 5, 3) := by decide +kernel
theorem dX9_which_18 : decode cX9_which 18 = .ok (.iload_n 2, 1) := by decide +kernel
theorem dX9_which_19 : decode cX9_which 19 = .ok (.ireturn, 1) := by decide +kernel
theorem dX9_which_20 : decode cX9_which 20 = .ok (.iinc 2 1, 3) := by decide +kernel
theorem dX9_which_23 : decode cX9_which 23 = .ok (.goto (-21), 3) := by decide +kernel
theorem dX9_which_26 : decode cX9_which 26 = .ok (.iconst (-1), 1) := by decide +kernel
theorem dX9_which_27 : decode cX9_which 27 = .ok (.ireturn, 1) := by decide +kernel
theorem dX9_isMarked_0 : decode cX9_isMarked 0 = .ok (.aload_n 0, 1) := by decide +kernel
theorem dX9_isMarked_1 : decode cX9_isMarked 1 = .ok (.getfield 201, 3) := by decide +kernel
theorem dX9_isMarked_4 : decode cX9_isMarked 4 = .ok (.ifCond .ne 28, 3) := by decide +kernel
theorem dX9_isMarked_7 : decode cX9_isMarked 7 = .ok (.aload_n 0, 1) := by decide +kernel
theorem dX9_isMarked_8 : decode cX9_isMarked 8 = .ok (.getfield 175, 3) := by decide +kernel
theorem dX9_isMarked_11 : decode cX9_isMarked 11 = .ok (.iconst 3, 1) := by decide +kernel
theorem dX9_isMarked_12 : decode cX9_isMarked 12 = .ok (.if_icmp .ne 20, 3) := by decide +kernel
theorem dX9_isMarked_15 : decode cX9_isMarked 15 = .ok (.aload_n 0, 1) := by decide +kernel
theorem dX9_isMarked_16 : decode cX9_isMarked 16 = .ok (.getfield 82, 3) := by decide +kernel
theorem dX9_isMarked_19 : decode cX9_isMarked 19 = .ok (.aload_n 0, 1) := by decide +kernel
theorem dX9_isMarked_20 : decode cX9_isMarked 20 = .ok (.getfield 172, 3) := by decide +kernel
theorem dX9_isMarked_23 : decode cX9_isMarked 23 = .ok (.iaload, 1) := by decide +kernel
theorem dX9_isMarked_24 : decode cX9_isMarked 24 = .ok (.iload_n 1, 1) := by decide +kernel
theorem dX9_isMarked_25 : decode cX9_isMarked 25 = .ok (.if_icmp .ne 7, 3) := by decide +kernel
theorem dX9_isMarked_28 : decode cX9_isMarked 28 = .ok (.iconst 1, 1) := by decide +kernel
theorem dX9_isMarked_29 : decode cX9_isMarked 29 = .ok (.goto 4, 3) := by decide +kernel
theorem dX9_isMarked_32 : decode cX9_isMarked 32 = .ok (.iconst 0, 1) := by decide +kernel
theorem dX9_isMarked_33 : decode cX9_isMarked 33 = .ok (.ireturn, 1) := by decide +kernel
set_option maxRecDepth 20000 in
theorem ggX9_mark_X9_isMarked : GoodIn wsX9_mark wsX9_isMarked := goodIn_r _ [6, 1, 7, 8, 9, 41, 42, 43, 44, 45, 46, 47, 48, 49, 50, 51, 52, 53, 54, 55, 56, 57, 58, 59, 60, 61, 62, 63, 64, 65, 66, 67, 68, 69, 70, 71, 72, 73, 74, 75, 76, 77, 78, 79, 80, 81, 82, 83, 84, 85, 86, 87, 88, 89, 90, 91, 92, 93, 94, 95, 96, 97, 98, 99, 100, 101, 102, 103] (by decide +kernel) (by decide +kernel)
set_option maxRecDepth 20000 in
theorem gX9_mark_X9_isMarked : GoodIn wsX9_mark (wsV RX9 219 RX9 yX9_isMarked wsX9_isMarked) := goodIn_app (goodIn_of _ (by decide +kernel)) ggX9_mark_X9_isMarked
set_option maxRecDepth 20000 in
theorem ggX9_mark_X9_wrong : GoodIn wsX9_mark wsX9_wrong := goodIn_r _ [13, 1, 9, 14, 41, 42, 43, 44, 45, 46, 47, 48, 49, 50, 51, 52, 53, 54, 55, 56, 57, 58, 59, 60, 61, 62, 63, 64, 65, 66, 67, 68, 69, 70, 71, 72, 73, 74, 75, 76, 77, 78, 79, 80, 81, 82, 83, 84, 85, 86, 87, 88, 89, 90, 91, 92, 93, 94, 95, 96, 97, 98, 99, 100, 101, 102, 103] (by decide +kernel) (by decide +kernel)
set_option maxRecDepth 20000 in
theorem gX9_mark_X9_wrong : GoodIn wsX9_mark (wsV RX9 222 RX9 yX9_wrong wsX9_wrong) := goodIn_app (goodIn_of _ (by decide +kernel)) ggX9_mark_X9_wrong
set_option maxRecDepth 20000 in
theorem ggX9_mark_X9_stepOn : GoodIn wsX9_mark wsX9_stepOn := goodIn_r _ [18, 19, 9, 7, 20, 21, 22, 23, 24, 25, 26, 27, 28, 29, 5, 30, 31, 8, 32, 33, 34, 35, 36, 37, 38, 39, 40, 41, 42, 43, 44, 45, 46, 47, 48, 49, 50, 51, 52, 53, 54, 55, 56, 57, 58, 59, 60, 61, 62, 63, 64, 65, 66, 67, 68, 69, 70, 71, 72, 73, 74, 75, 76, 77, 78, 79, 80, 81, 82, 83, 84, 85, 86, 87, 88, 89, 90, 91, 92, 93, 94, 95, 96, 97, 98, 99, 100, 101, 102, 103] (by decide +kernel) (by decide +kernel)
set_option maxRecDepth 20000 in
theorem gX9_mark_X9_stepOn : GoodIn wsX9_mark (wsV RX9 226 RX9 yX9_stepOn wsX9_stepOn) := goodIn_app (goodIn_of _ (by decide +kernel)) ggX9_mark_X9_stepOn
theorem dX9_mark_0 : decode cX9_mark 0 = .ok (.aload_n 0, 1) := by decide +kernel
theorem dX9_mark_1 : decode cX9_mark 1 = .ok (.getfield 201, 3) := by decide +kernel
theorem dX9_mark_4 : decode cX9_mark 4 = .ok (.ifCond .ne 16, 3) := by decide +kernel
theorem dX9_mark_7 : decode cX9_mark 7 = .ok (.aload_n 0, 1) := by decide +kernel
theorem dX9_mark_8 : decode cX9_mark 8 = .ok (.iload_n 1, 1) := by decide +kernel
theorem dX9_mark_9 : decode cX9_mark 9 = .ok (.invokevirtual 219, 3) := by decide +kernel
theorem dX9_mark_12 : decode cX9_mark 12 = .ok (.ifCond .ne 8, 3) := by decide +kernel
theorem dX9_mark_15 : decode cX9_mark 15 = .ok (.aload_n 0, 1) := by decide +kernel
theorem dX9_mark_16 : decode cX9_mark 16 = .ok (.iconst 1, 1) := by decide +kernel
theorem dX9_mark_17 : decode cX9_mark 17 = .ok (.invokevirtual 222, 3) := by decide +kernel
theorem dX9_mark_20 : decode cX9_mark 20 = .ok (.aload_n 0, 1) := by decide +kernel
theorem dX9_mark_21 : decode cX9_mark 21 = .ok (.getfield 201, 3) := by decide +kernel
theorem dX9_mark_24 : decode cX9_mark 24 = .ok (.ifCond .ne 7, 3) := by decide +kernel
theorem dX9_mark_27 : decode cX9_mark 27 = .ok (.aload_n 0, 1) := by decide +kernel
theorem dX9_mark_28 : decode cX9_mark 28 = .ok (.invokevirtual 226, 3) := by decide +kernel
theorem dX9_mark_31 : decode cX9_mark 31 = .ok (.return_, 1) := by decide +kernel
set_option maxRecDepth 20000 in
theorem ggX9_numberNow_X9_wrong : GoodIn wsX9_numberNow wsX9_wrong := goodIn_r _ [10, 1, 4, 11, 12, 13, 14, 15, 16, 17, 18, 19, 20, 21, 22, 23, 24, 25, 26, 27, 28, 29, 30, 31, 32, 33, 34, 35, 36, 37, 38, 39, 40, 41, 42, 43, 44, 45, 46, 47, 48, 49, 50, 51, 52, 53, 54, 55, 56, 57, 58, 59, 60, 61, 62, 63, 64, 65, 66, 67, 68, 69, 70, 71, 72, 73, 74] (by decide +kernel) (by decide +kernel)
set_option maxRecDepth 20000 in
theorem gX9_numberNow_X9_wrong : GoodIn wsX9_numberNow (wsV RX9 222 RX9 yX9_wrong wsX9_wrong) := goodIn_app (goodIn_of _ (by decide +kernel)) ggX9_numberNow_X9_wrong
theorem dX9_numberNow_0 : decode cX9_numberNow 0 = .ok (.aload_n 0, 1) := by decide +kernel
theorem dX9_numberNow_1 : decode cX9_numberNow 1 = .ok (.getfield 201, 3) := by decide +kernel
theorem dX9_numberNow_4 : decode cX9_numberNow 4 = .ok (.ifCond .eq 5, 3) := by decide +kernel
theorem dX9_numberNow_7 : decode cX9_numberNow 7 = .ok (.iconst 0, 1) := by decide +kernel
theorem dX9_numberNow_8 : decode cX9_numberNow 8 = .ok (.ireturn, 1) := by decide +kernel
theorem dX9_numberNow_9 : decode cX9_numberNow 9 = .ok (.aload_n 0, 1) := by decide +kernel
theorem dX9_numberNow_10 : decode cX9_numberNow 10 = .ok (.getfield 175, 3) := by decide +kernel
theorem dX9_numberNow_13 : decode cX9_numberNow 13 = .ok (.iconst 2, 1) := by decide +kernel
theorem dX9_numberNow_14 : decode cX9_numberNow 14 = .ok (.if_icmp .eq 11, 3) := by decide +kernel
theorem dX9_numberNow_17 : decode cX9_numberNow 17 = .ok (.aload_n 0, 1) := by decide +kernel
theorem dX9_numberNow_18 : decode cX9_numberNow 18 = .ok (.iconst 1, 1) := by decide +kernel
theorem dX9_numberNow_19 : decode cX9_numberNow 19 = .ok (.invokevirtual 222, 3) := by decide +kernel
theorem dX9_numberNow_22 : decode cX9_numberNow 22 = .ok (.goto 37, 3) := by decide +kernel
theorem dX9_numberNow_25 : decode cX9_numberNow 25 = .ok (.aload_n 0, 1) := by decide +kernel
theorem dX9_numberNow_26 : decode cX9_numberNow 26 = .ok (.getfield 198, 3) := by decide +kernel
theorem dX9_numberNow_29 : decode cX9_numberNow 29 = .ok (.aload_n 0, 1) := by decide +kernel
theorem dX9_numberNow_30 : decode cX9_numberNow 30 = .ok (.getfield 172, 3) := by decide +kernel
theorem dX9_numberNow_33 : decode cX9_numberNow 33 = .ok (.isub, 1) := by decide +kernel
theorem dX9_numberNow_34 : decode cX9_numberNow 34 = .ok (.iconst 4, 1) := by decide +kernel
theorem dX9_numberNow_35 : decode cX9_numberNow 35 = .ok (.if_icmp .gt 19, 3) := by decide +kernel
theorem dX9_numberNow_38 : decode cX9_numberNow 38 = .ok (.aload_n 0, 1) := by decide +kernel
theorem dX9_numberNow_39 : decode cX9_numberNow 39 = .ok (.getfield 185, 3) := by decide +kernel
theorem dX9_numberNow_42 : decode cX9_numberNow 42 = .ok (.iload_n 1, 1) := by decide +kernel
theorem dX9_numberNow_43 : decode cX9_numberNow 43 = .ok (.if_icmp .lt 11, 3) := by decide +kernel
theorem dX9_numberNow_46 : decode cX9_numberNow 46 = .ok (.aload_n 0, 1) := by decide +kernel
theorem dX9_numberNow_47 : decode cX9_numberNow 47 = .ok (.getfield 185, 3) := by decide +kernel
theorem dX9_numberNow_50 : decode cX9_numberNow 50 = .ok (.iload_n 2, 1) := by decide +kernel
theorem dX9_numberNow_51 : decode cX9_numberNow 51 = .ok (.if_icmp .le 8, 3) := by decide +kernel
theorem dX9_numberNow_54 : decode cX9_numberNow 54 = .ok (.aload_n 0, 1) := by decide +kernel
theorem dX9_numberNow_55 : decode cX9_numberNow 55 = .ok (.iconst 2, 1) := by decide +kernel
theorem dX9_numberNow_56 : decode cX9_numberNow 56 = .ok (.invokevirtual 222, 3) := by decide +kernel
theorem dX9_numberNow_59 : decode cX9_numberNow 59 = .ok (.aload_n 0, 1) := by decide +kernel
theorem dX9_numberNow_60 : decode cX9_numberNow 60 = .ok (.getfield 201, 3) := by decide +kernel
theorem dX9_numberNow_63 : decode cX9_numberNow 63 = .ok (.ifCond .ne 10, 3) := by decide +kernel
theorem dX9_numberNow_66 : decode cX9_numberNow 66 = .ok (.aload_n 0, 1) := by decide +kernel
theorem dX9_numberNow_67 : decode cX9_numberNow 67 = .ok (.getfield 185, 3) := by decide +kernel
theorem dX9_numberNow_70 : decode cX9_numberNow 70 = .ok (.goto 4, 3) := by decide +kernel
theorem dX9_numberNow_73 : decode cX9_numberNow 73 = .ok (.iconst 0, 1) := by decide +kernel
theorem dX9_numberNow_74 : decode cX9_numberNow 74 = .ok (.ireturn, 1) := by decide +kernel
set_option maxRecDepth 20000 in
theorem ggX9_readNumber_X9_numberNow : GoodIn wsX9_readNumber wsX9_numberNow := goodIn_r _ [6, 1, 7, 8, 9, 10, 11, 12, 13, 5, 14, 15, 41, 42, 43, 44, 45, 46, 47, 48, 49, 50, 51, 52, 53, 54, 55, 56, 57, 58, 59, 60, 61, 62, 63, 64, 65, 66, 67, 68, 69, 70, 71, 72, 73, 74, 75, 76, 77, 78, 79, 80, 81, 82, 83, 84, 85, 86, 87, 88, 89, 90, 91, 92, 93, 94, 95, 96, 97, 98, 99, 100, 101, 102, 103] (by decide +kernel) (by decide +kernel)
set_option maxRecDepth 20000 in
theorem gX9_readNumber_X9_numberNow : GoodIn wsX9_readNumber (wsV RX9 229 RX9 yX9_numberNow wsX9_numberNow) := goodIn_app (goodIn_of _ (by decide +kernel)) ggX9_readNumber_X9_numberNow
set_option maxRecDepth 20000 in
theorem ggX9_readNumber_X9_stepOn : GoodIn wsX9_readNumber wsX9_stepOn := goodIn_r _ [19, 20, 9, 7, 10, 21, 22, 23, 24, 25, 8, 26, 27, 28, 5, 29, 30, 31, 32, 33, 34, 35, 36, 37, 38, 39, 40, 41, 42, 43, 44, 45, 46, 47, 48, 49, 50, 51, 52, 53, 54, 55, 56, 57, 58, 59, 60, 61, 62, 63, 64, 65, 66, 67, 68, 69, 70, 71, 72, 73, 74, 75, 76, 77, 78, 79, 80, 81, 82, 83, 84, 85, 86, 87, 88, 89, 90, 91, 92, 93, 94, 95, 96, 97, 98, 99, 100, 101, 102, 103] (by decide +kernel) (by decide +kernel)
set_option maxRecDepth 20000 in
theorem gX9_readNumber_X9_stepOn : GoodIn wsX9_readNumber (wsV RX9 226 RX9 yX9_stepOn wsX9_stepOn) := goodIn_app (goodIn_of _ (by decide +kernel)) ggX9_readNumber_X9_stepOn
theorem dX9_readNumber_0 : decode cX9_readNumber 0 = .ok (.aload_n 0, 1) := by decide +kernel
theorem dX9_readNumber_1 : decode cX9_readNumber 1 = .ok (.iload_n 1, 1) := by decide +kernel
theorem dX9_readNumber_2 : decode cX9_readNumber 2 = .ok (.iload_n 2, 1) := by decide +kernel
theorem dX9_readNumber_3 : decode cX9_readNumber 3 = .ok (.invokevirtual 229, 3) := by decide +kernel
theorem dX9_readNumber_6 : decode cX9_readNumber 6 = .ok (.istore_n 3, 1) := by decide +kernel
theorem dX9_readNumber_7 : decode cX9_readNumber 7 = .ok (.aload_n 0, 1) := by decide +kernel
theorem dX9_readNumber_8 : decode cX9_readNumber 8 = .ok (.getfield 201, 3) := by decide +kernel
theorem dX9_readNumber_11 : decode cX9_readNumber 11 = .ok (.ifCond .ne 7, 3) := by decide +kernel
theorem dX9_readNumber_14 : decode cX9_readNumber 14 = .ok (.aload_n 0, 1) := by decide +kernel
theorem dX9_readNumber_15 : decode cX9_readNumber 15 = .ok (.invokevirtual 226, 3) := by decide +kernel
theorem dX9_readNumber_18 : decode cX9_readNumber 18 = .ok (.iload_n 3, 1) := by decide +kernel
theorem dX9_readNumber_19 : decode cX9_readNumber 19 = .ok (.ireturn, 1) := by decide +kernel
set_option maxRecDepth 20000 in
theorem ggX9_readSigned_X9_isMarked : GoodIn wsX9_readSigned wsX9_isMarked := goodIn_r _ [5, 6, 7, 8, 9, 49, 50, 51, 52, 53, 54, 55, 56, 57, 58, 59, 60, 61, 62, 63, 64, 65, 66, 67, 68, 69, 70, 71, 72, 73, 74, 75, 76, 77, 78, 79, 80, 81, 82, 83, 84, 85, 86, 87, 88, 89, 90, 91, 92, 93, 94, 95, 96, 97, 98, 99, 100, 101, 102, 103, 104, 105, 106, 107, 108, 109, 110, 111] (by decide +kernel) (by decide +kernel)
set_option maxRecDepth 20000 in
theorem gX9_readSigned_X9_isMarked : GoodIn wsX9_readSigned (wsV RX9 219 RX9 yX9_isMarked wsX9_isMarked) := goodIn_app (goodIn_of _ (by decide +kernel)) ggX9_readSigned_X9_isMarked
set_option maxRecDepth 20000 in
theorem ggX9_readSigned_X9_stepOn : GoodIn wsX9_readSigned wsX9_stepOn := goodIn_r _ [13, 14, 9, 7, 15, 16, 17, 18, 19, 20, 21, 22, 23, 24, 4, 25, 26, 8, 27, 28, 29, 30, 31, 32, 33, 34, 35, 49, 50, 51, 52, 53, 54, 55, 56, 57, 58, 59, 60, 61, 62, 63, 64, 65, 66, 67, 68, 69, 70, 71, 72, 73, 74, 75, 76, 77, 78, 79, 80, 81, 82, 83, 84, 85, 86, 87, 88, 89, 90, 91, 92, 93, 94, 95, 96, 97, 98, 99, 100, 101, 102, 103, 104, 105, 106, 107, 108, 109, 110, 111] (by decide +kernel) (by decide +kernel)
set_option maxRecDepth 20000 in
theorem gX9_readSigned_X9_stepOn : GoodIn wsX9_readSigned (wsV RX9 226 RX9 yX9_stepOn wsX9_stepOn) := goodIn_app (goodIn_of _ (by decide +kernel)) ggX9_readSigned_X9_stepOn
set_option maxRecDepth 20000 in
theorem ggX9_readSigned_X9_readNumber : GoodIn wsX9_readSigned wsX9_readNumber := goodIn_r _ [39, 6, 40, 41, 42, 4, 43, 7, 21, 9, 15, 44, 45, 46, 47, 48, 10, 11, 12, 13, 14, 16, 17, 18, 19, 20, 22, 23, 24, 25, 26, 8, 27, 28, 29, 30, 31, 32, 33, 34, 35, 49, 50, 51, 52, 53, 54, 55, 56, 57, 58, 59, 60, 61, 62, 63, 64, 65, 66, 67, 68, 69, 70, 71, 72, 73, 74, 75, 76, 77, 78, 79, 80, 81, 82, 83, 84, 85, 86, 87, 88, 89, 90, 91, 92, 93, 94, 95, 96, 97, 98, 99, 100, 101, 102, 103, 104, 105, 106, 107, 108, 109, 110, 111] (by decide +kernel) (by decide +kernel)
set_option maxRecDepth 20000 in
theorem gX9_readSigned_X9_readNumber : GoodIn wsX9_readSigned (wsV RX9 232 RX9 yX9_readNumber wsX9_readNumber) := goodIn_app (goodIn_of _ (by decide +kernel)) ggX9_readSigned_X9_readNumber
theorem dX9_readSigned_0 : decode cX9_readSigned 0 = .ok (.aload_n 0, 1) := by decide +kernel
theorem dX9_readSigned_1 : decode cX9_readSigned 1 = .ok (.bipush 45, 2) := by decide +kernel
theorem dX9_readSigned_3 : decode cX9_readSigned 3 = .ok (.invokevirtual 219, 3) := by decide +kernel
theorem dX9_readSigned_6 : decode cX9_readSigned 6 = .ok (.istore_n 2, 1) := by decide +kernel
theorem dX9_readSigned_7 : decode cX9_readSigned 7 = .ok (.iload_n 2, 1) := by decide +kernel
theorem dX9_readSigned_8 : decode cX9_readSigned 8 = .ok (.ifCond .eq 7, 3) := by decide +kernel
theorem dX9_readSigned_11 : decode cX9_readSigned 11 = .ok (.aload_n 0, 1) := by decide +kernel
theorem dX9_readSigned_12 : decode cX9_readSigned 12 = .ok (.invokevirtual 226, 3) := by decide +kernel
theorem dX9_readSigned_15 : decode cX9_readSigned 15 = .ok (.aload_n 0, 1) := by decide +kernel
theorem dX9_readSigned_16 : decode cX9_readSigned 16 = .ok (.iconst 0, 1) := by decide +kernel
theorem dX9_readSigned_17 : decode cX9_readSigned 17 = .ok (.iload_n 1, 1) := by decide +kernel
theorem dX9_readSigned_18 : decode cX9_readSigned 18 = .ok (.invokevirtual 232, 3) := by decide +kernel
theorem dX9_readSigned_21 : decode cX9_readSigned 21 = .ok (.istore_n 3, 1) := by decide +kernel
theorem dX9_readSigned_22 : decode cX9_readSigned 22 = .ok (.iload_n 2, 1) := by decide +kernel
theorem dX9_readSigned_23 : decode cX9_readSigned 23 = .ok (.ifCond .eq 8, 3) := by decide +kernel
theorem dX9_readSigned_26 : decode cX9_readSigned 26 = .ok (.iload_n 3, 1) := by decide +kernel
theorem dX9_readSigned_27 : decode cX9_readSigned 27 = .ok (.ineg, 1) := by decide +kernel
theorem dX9_readSigned_28 : decode cX9_readSigned 28 = .ok (.goto 4, 3) := by decide +kernel
theorem dX9_readSigned_31 : decode cX9_readSigned 31 = .ok (.iload_n 3, 1) := by decide +kernel
theorem dX9_readSigned_32 : decode cX9_readSigned 32 = .ok (.ireturn, 1) := by decide +kernel
theorem dX9_lay_0 : decode cX9_lay 0 = .ok (.aload_n 0, 1) := by decide +kernel
theorem dX9_lay_1 : decode cX9_lay 1 = .ok (.getfield 201, 3) := by decide +kernel
theorem dX9_lay_4 : decode cX9_lay 4 = .ok (.ifCond .eq 4, 3) := by decide +kernel
theorem dX9_lay_7 : decode cX9_lay 7 = .ok (.return_, 1) := by decide +kernel
theorem dX9_lay_8 : decode cX9_lay 8 = .ok (.bipush 7, 2) := by decide +kernel
theorem dX9_lay_10 : decode cX9_lay 10 = .ok (.aload_n 0, 1) := by decide +kernel
theorem dX9_lay_11 : decode cX9_lay 11 = .ok (.getfield 235, 3) := by decide +kernel
theorem dX9_lay_14 : decode cX9_lay 14 = .ok (.ifCond .eq 8, 3) := by decide +kernel
theorem dX9_lay_17 : decode cX9_lay 17 = .ok (.bipush 6, 2) := by decide +kernel
theorem dX9_lay_19 : decode cX9_lay 19 = .ok (.goto 4, 3) := by decide +kernel
theorem dX9_lay_22 : decode cX9_lay 22 = .ok (.iconst 5, 1) := by decide +kernel
theorem dX9_lay_23 : decode cX9_lay 23 = .ok (.iadd, 1) := by decide +kernel
theorem dX9_lay_24 : decode cX9_lay 24 = .ok (.istore_n 2, 1) := by decide +kernel
theorem dX9_lay_25 : decode cX9_lay 25 = .ok (.aload_n 0, 1) := by decide +kernel
theorem dX9_lay_26 : decode cX9_lay 26 = .ok (.getfield 235, 3) := by decide +kernel
theorem dX9_lay_29 : decode cX9_lay 29 = .ok (.ifCond .eq 10, 3) := by decide +kernel
theorem dX9_lay_32 : decode cX9_lay 32 = .ok (.aload_n 0, 1) := by decide +kernel
theorem dX9_lay_33 : decode cX9_lay 33 = .ok (.getfield 76, 3) := by decide +kernel
theorem dX9_lay_36 : decode cX9_lay 36 = .ok (.goto 7, 3) := by decide +kernel
theorem dX9_lay_39 : decode cX9_lay 39 = .ok (.aload_n 0, 1) := by decide +kernel
theorem dX9_lay_40 : decode cX9_lay 40 = .ok (.getfield 73, 3) := by decide +kernel
theorem dX9_lay_43 : decode cX9_lay 43 = .ok (.astore_n 3, 1) := by decide +kernel
theorem dX9_lay_44 : decode cX9_lay 44 = .ok (.aload_n 3, 1) := by decide +kernel
theorem dX9_lay_45 : decode cX9_lay 45 = .ok (.sipush 700, 3) := by decide +kernel
theorem dX9_lay_48 : decode cX9_lay 48 = .ok (.aload_n 0, 1) := by decide +kernel
theorem dX9_lay_49 : decode cX9_lay 49 = .ok (.getfield 50, 3) := by decide +kernel
theorem dX9_lay_52 : decode cX9_lay 52 = .ok (.iload_n 2, 1) := by decide +kernel
theorem dX9_lay_53 : decode cX9_lay 53 = .ok (.iaload, 1) := by decide +kernel
theorem dX9_lay_54 : decode cX9_lay 54 = .ok (.iadd, 1) := by decide +kernel
theorem dX9_lay_55 : decode cX9_lay 55 = .ok (.iload_n 1, 1) := by decide +kernel
theorem dX9_lay_56 : decode cX9_lay 56 = .ok (.iastore, 1) := by decide +kernel
theorem dX9_lay_57 : decode cX9_lay 57 = .ok (.aload_n 0, 1) := by decide +kernel
theorem dX9_lay_58 : decode cX9_lay 58 = .ok (.getfield 50, 3) := by decide +kernel
theorem dX9_lay_61 : decode cX9_lay 61 = .ok (.iload_n 2, 1) := by decide +kernel
theorem dX9_lay_62 : decode cX9_lay 62 = .ok (.dup2, 1) := by decide +kernel
theorem dX9_lay_63 : decode cX9_lay 63 = .ok (.iaload, 1) := by decide +kernel
theorem dX9_lay_64 : decode cX9_lay 64 = .ok (.iconst 1, 1) := by decide +kernel
theorem dX9_lay_65 : decode cX9_lay 65 = .ok (.iadd, 1) := by decide +kernel
theorem dX9_lay_66 : decode cX9_lay 66 = .ok (.iastore, 1) := by decide +kernel
theorem dX9_lay_67 : decode cX9_lay 67 = .ok (.return_, 1) := by decide +kernel
set_option maxRecDepth 20000 in
theorem ggX9_readPart_X9_readNumber : GoodIn wsX9_readPart wsX9_readNumber := goodIn_r _ [8, 1, 9, 10, 11, 7, 12, 2, 13, 14, 15, 16, 17, 18, 19, 20, 21, 22, 23, 24, 25, 26, 27, 28, 29, 30, 31, 32, 33, 34, 35, 36, 37, 38, 39, 40, 41, 42, 43, 44, 45, 142, 143, 144, 145, 146, 147, 148, 149, 150, 151, 152, 153, 154, 155, 156, 157, 158, 159, 160, 161, 162, 163, 164, 165, 166, 167, 168, 169, 170, 171, 172, 173, 174, 175, 176, 177, 178, 179, 180, 181, 182, 183, 184, 185, 186, 187, 188, 189, 190, 191, 192, 193, 194, 195, 196, 197, 198, 199, 200, 201, 202, 203, 204] (by decide +kernel) (by decide +kernel)
set_option maxRecDepth 20000 in
theorem gX9_readPart_X9_readNumber : GoodIn wsX9_readPart (wsV RX9 232 RX9 yX9_readNumber wsX9_readNumber) := goodIn_app (goodIn_of _ (by decide +kernel)) ggX9_readPart_X9_readNumber
set_option maxRecDepth 20000 in
theorem ggX9_readPart_X9_lay : GoodIn wsX9_readPart wsX9_lay := goodIn_r _ [49, 1, 50, 51, 52, 53, 142, 143, 144, 145, 146, 147, 148, 149, 150, 151, 152, 153, 154, 155, 156, 157, 158, 159, 160, 161, 162, 163, 164, 165, 166, 167, 168, 169, 170, 171, 172, 173, 174, 175, 176, 177, 178, 179, 180, 181, 182, 183, 184, 185, 186, 187, 188, 189, 190, 191, 192, 193, 194, 195, 196, 197, 198, 199, 200, 201, 202, 203, 204] (by decide +kernel) (by decide +kernel)
set_option maxRecDepth 20000 in
theorem gX9_readPart_X9_lay : GoodIn wsX9_readPart (wsV RX9 239 RX9 yX9_lay wsX9_lay) := goodIn_app (goodIn_of _ (by decide +kernel)) ggX9_readPart_X9_lay
set_option maxRecDepth 20000 in
theorem ggX9_readPart_X9_which : GoodIn wsX9_readPart wsX9_which := goodIn_r _ [57, 58, 59, 60, 7, 61, 1, 2, 13, 14, 36, 62, 63, 64, 65, 66, 67, 68, 69, 70, 71, 72, 73, 74, 75, 76, 77, 78, 79, 80, 81, 82, 83, 84, 85, 86, 87, 88, 89, 90, 91, 92, 93, 94, 95, 96, 97, 98, 99, 100, 101, 102, 103, 104, 105, 106, 107, 108, 109, 110, 142, 143, 144, 145, 146, 147, 148, 149, 150, 151, 152, 153, 154, 155, 156, 157, 158, 159, 160, 161, 162, 163, 164, 165, 166, 167, 168, 169, 170, 171, 172, 173, 174, 175, 176, 177, 178, 179, 180, 181, 182, 183, 184, 185, 186, 187, 188, 189, 190, 191, 192, 193, 194, 195, 196, 197, 198, 199, 200, 201, 202, 203, 204] (by decide +kernel) (by decide +kernel)
set_option maxRecDepth 20000 in
theorem gX9_readPart_X9_which : GoodIn wsX9_readPart (wsV RX9 242 RX9 yX9_which wsX9_which) := goodIn_app (goodIn_of _ (by decide +kernel)) ggX9_readPart_X9_which
set_option maxRecDepth 20000 in
theorem ggX9_readPart_X9_wrong : GoodIn wsX9_readPart wsX9_wrong := goodIn_r _ [19, 1, 14, 20, 142, 143, 144, 145, 146, 147, 148, 149, 150, 151, 152, 153, 154, 155, 156, 157, 158, 159, 160, 161, 162, 163, 164, 165, 166, 167, 168, 169, 170, 171, 172, 173, 174, 175, 176, 177, 178, 179, 180, 181, 182, 183, 184, 185, 186, 187, 188, 189, 190, 191, 192, 193, 194, 195, 196, 197, 198, 199, 200, 201, 202, 203, 204] (by decide +kernel) (by decide +kernel)
set_option maxRecDepth 20000 in
theorem gX9_readPart_X9_wrong : GoodIn wsX9_readPart (wsV RX9 222 RX9 yX9_wrong wsX9_wrong) := goodIn_app (goodIn_of _ (by decide +kernel)) ggX9_readPart_X9_wrong
set_option maxRecDepth 20000 in
theorem ggX9_readPart_X9_stepOn : GoodIn wsX9_readPart wsX9_stepOn := goodIn_r _ [24, 25, 14, 2, 15, 26, 27, 28, 29, 30, 13, 31, 32, 33, 7, 34, 35, 36, 37, 38, 39, 40, 41, 42, 43, 44, 45, 142, 143, 144, 145, 146, 147, 148, 149, 150, 151, 152, 153, 154, 155, 156, 157, 158, 159, 160, 161, 162, 163, 164, 165, 166, 167, 168, 169, 170, 171, 172, 173, 174, 175, 176, 177, 178, 179, 180, 181, 182, 183, 184, 185, 186, 187, 188, 189, 190, 191, 192, 193, 194, 195, 196, 197, 198, 199, 200, 201, 202, 203, 204] (by decide +kernel) (by decide +kernel)
set_option maxRecDepth 20000 in
theorem gX9_readPart_X9_stepOn : GoodIn wsX9_readPart (wsV RX9 226 RX9 yX9_stepOn wsX9_stepOn) := goodIn_app (goodIn_of _ (by decide +kernel)) ggX9_readPart_X9_stepOn
set_option maxRecDepth 20000 in
theorem ggX9_readPart_X9_mark : GoodIn wsX9_readPart wsX9_mark := goodIn_r _ [114, 1, 115, 116, 117, 7, 118, 2, 36, 14, 16, 17, 18, 19, 20, 21, 22, 23, 24, 25, 15, 26, 27, 28, 29, 30, 13, 31, 32, 33, 34, 35, 37, 38, 39, 40, 41, 42, 43, 44, 45, 142, 143, 144, 145, 146, 147, 148, 149, 150, 151, 152, 153, 154, 155, 156, 157, 158, 159, 160, 161, 162, 163, 164, 165, 166, 167, 168, 169, 170, 171, 172, 173, 174, 175, 176, 177, 178, 179, 180, 181, 182, 183, 184, 185, 186, 187, 188, 189, 190, 191, 192, 193, 194, 195, 196, 197, 198, 199, 200, 201, 202, 203, 204] (by decide +kernel) (by decide +kernel)
set_option maxRecDepth 20000 in
theorem gX9_readPart_X9_mark : GoodIn wsX9_readPart (wsV RX9 246 RX9 yX9_mark wsX9_mark) := goodIn_app (goodIn_of _ (by decide +kernel)) ggX9_readPart_X9_mark
set_option maxRecDepth 20000 in
theorem ggX9_readPart_X9_readExpression : GoodIn wsX9_readPart wsX9_readExpression := goodIn_r _ [126, 1, 2, 115, 116, 117, 7, 118, 36, 14, 16, 17, 18, 19, 20, 127, 128, 129, 58, 59, 60, 61, 13, 62, 63, 64, 65, 66, 67, 68, 69, 70, 71, 72, 73, 74, 75, 76, 77, 78, 79, 80, 81, 82, 83, 84, 85, 86, 87, 88, 89, 90, 91, 92, 93, 94, 95, 96, 97, 98, 99, 100, 101, 102, 103, 104, 105, 106, 107, 108, 109, 110, 21, 22, 23, 24, 25, 15, 26, 27, 28, 29, 30, 31, 32, 33, 34, 35, 37, 38, 39, 40, 41, 42, 43, 44, 45, 46, 47, 48, 49, 50, 51, 52, 53, 122, 123, 124, 125, 130, 131, 132, 133, 0, 3, 4, 5, 6, 8, 9, 10, 11, 12, 54, 55, 56, 57, 111, 112, 113, 114, 119, 120, 121, 134, 135, 136, 137, 138, 139, 140, 141, 142, 143, 144, 145, 146, 147, 148, 149, 150, 151, 152, 153, 154, 155, 156, 157, 158, 159, 160, 161, 162, 163, 164, 165, 166, 167, 168, 169, 170, 171, 172, 173, 174, 175, 176, 177, 178, 179, 180, 181, 182, 183, 184, 185, 186, 187, 188, 189, 190, 191, 192, 193, 194, 195, 196, 197, 198, 199, 200, 201, 202, 203, 204] (by decide +kernel) (by decide +kernel)
set_option maxRecDepth 20000 in
theorem gX9_readPart_X9_readExpression : GoodIn wsX9_readPart (wsV RX9 249 RX9 yX9_readExpression wsX9_readExpression) := goodIn_app (goodIn_of _ (by decide +kernel)) ggX9_readPart_X9_readExpression
theorem dX9_readPart_0 : decode cX9_readPart 0 = .ok (.aload_n 0, 1) := by decide +kernel
theorem dX9_readPart_1 : decode cX9_readPart 1 = .ok (.getfield 201, 3) := by decide +kernel
theorem dX9_readPart_4 : decode cX9_readPart 4 = .ok (.ifCond .eq 4, 3) := by decide +kernel
theorem dX9_readPart_7 : decode cX9_readPart 7 = .ok (.return_, 1) := by decide +kernel
theorem dX9_readPart_8 : decode cX9_readPart 8 = .ok (.aload_n 0, 1) := by decide +kernel
theorem dX9_readPart_9 : decode cX9_readPart 9 = .ok (.getfield 175, 3) := by decide +kernel
theorem dX9_readPart_12 : decode cX9_readPart 12 = .ok (.iconst 2, 1) := by decide +kernel
theorem dX9_readPart_13 : decode cX9_readPart 13 = .ok (.if_icmp .ne 16, 3) := by decide +kernel
theorem dX9_readPart_16 : decode cX9_readPart 16 = .ok (.aload_n 0, 1) := by decide +kernel
theorem dX9_readPart_17 : decode cX9_readPart 17 = .ok (.aload_n 0, 1) := by decide +kernel
theorem dX9_readPart_18 : decode cX9_readPart 18 = .ok (.iconst 0, 1) := by decide +kernel
theorem dX9_readPart_19 : decode cX9_readPart 19 = .ok (.sipush 9999, 3) := by decide +kernel
theorem dX9_readPart_22 : decode cX9_readPart 22 = .ok (.invokevirtual 232, 3) := by decide +kernel
theorem dX9_readPart_25 : decode cX9_readPart 25 = .ok (.invokevirtual 239, 3) := by decide +kernel
theorem dX9_readPart_28 : decode cX9_readPart 28 = .ok (.return_, 1) := by decide +kernel
theorem dX9_readPart_29 : decode cX9_readPart 29 = .ok (.aload_n 0, 1) := by decide +kernel
theorem dX9_readPart_30 : decode cX9_readPart 30 = .ok (.getfield 175, 3) := by decide +kernel
theorem dX9_readPart_33 : decode cX9_readPart 33 = .ok (.iconst 1, 1) := by decide +kernel
theorem dX9_readPart_34 : decode cX9_readPart 34 = .ok (.if_icmp .ne 41, 3) := by decide +kernel
theorem dX9_readPart_37 : decode cX9_readPart 37 = .ok (.aload_n 0, 1) := by decide +kernel
theorem dX9_readPart_38 : decode cX9_readPart 38 = .ok (.aload_n 0, 1) := by decide +kernel
theorem dX9_readPart_39 : decode cX9_readPart 39 = .ok (.getfield 47, 3) := by decide +kernel
theorem dX9_readPart_42 : decode cX9_readPart 42 = .ok (.invokevirtual 242, 3) := by decide +kernel
theorem dX9_readPart_45 : decode cX9_readPart 45 = .ok (.istore_n 2, 1) := by decide +kernel
theorem dX9_readPart_46 : decode cX9_readPart 46 = .ok (.iload_n 2, 1) := by decide +kernel
theorem dX9_readPart_47 : decode cX9_readPart 47 = .ok (.iconst (-1), 1) := by decide +kernel
theorem dX9_readPart_48 : decode cX9_readPart 48 = .ok (.if_icmp .ne 8, 3) := by decide +kernel
theorem dX9_readPart_51 : decode cX9_readPart 51 = .ok (.aload_n 0, 1) := by decide +kernel
theorem dX9_readPart_52 : decode cX9_readPart 52 = .ok (.iconst 3, 1) := by decide +kernel
theorem dX9_readPart_53 : decode cX9_readPart 53 = .ok (.invokevirtual 222, 3) := by decide +kernel
theorem dX9_readPart_56 : decode cX9_readPart 56 = .ok (.aload_n 0, 1) := by decide +kernel
theorem dX9_readPart_57 : decode cX9_readPart 57 = .ok (.iconst (-1), 1) := by decide +kernel
theorem dX9_readPart_58 : decode cX9_readPart 58 = .ok (.iload_n 2, 1) := by decide +kernel
theorem dX9_readPart_59 : decode cX9_readPart 59 = .ok (.isub, 1) := by decide +kernel
theorem dX9_readPart_60 : decode cX9_readPart 60 = .ok (.invokevirtual 239, 3) := by decide +kernel
theorem dX9_readPart_63 : decode cX9_readPart 63 = .ok (.aload_n 0, 1) := by decide +kernel
theorem dX9_readPart_64 : decode cX9_readPart 64 = .ok (.getfield 201, 3) := by decide +kernel
theorem dX9_readPart_67 : decode cX9_readPart 67 = .ok (.ifCond .ne 7, 3) := by decide +kernel
theorem dX9_readPart_70 : decode cX9_readPart 70 = .ok (.aload_n 0, 1) := by decide +kernel
theorem dX9_readPart_71 : decode cX9_readPart 71 = .ok (.invokevirtual 226, 3) := by decide +kernel
theorem dX9_readPart_74 : decode cX9_readPart 74 = .ok (.return_, 1) := by decide +kernel
theorem dX9_readPart_75 : decode cX9_readPart 75 = .ok (.aload_n 0, 1) := by decide +kernel
theorem dX9_readPart_76 : decode cX9_readPart 76 = .ok (.bipush 40, 2) := by decide +kernel
theorem dX9_readPart_78 : decode cX9_readPart 78 = .ok (.invokevirtual 246, 3) := by decide +kernel
theorem dX9_readPart_81 : decode cX9_readPart 81 = .ok (.aload_n 0, 1) := by decide +kernel
theorem dX9_readPart_82 : decode cX9_readPart 82 = .ok (.iload_n 1, 1) := by decide +kernel
theorem dX9_readPart_83 : decode cX9_readPart 83 = .ok (.iconst 1, 1) := by decide +kernel
theorem dX9_readPart_84 : decode cX9_readPart 84 = .ok (.iadd, 1) := by decide +kernel
theorem dX9_readPart_85 : decode cX9_readPart 85 = .ok (.invokevirtual 249, 3) := by decide +kernel
theorem dX9_readPart_88 : decode cX9_readPart 88 = .ok (.aload_n 0, 1) := by decide +kernel
theorem dX9_readPart_89 : decode cX9_readPart 89 = .ok (.bipush 41, 2) := by decide +kernel
theorem dX9_readPart_91 : decode cX9_readPart 91 = .ok (.invokevirtual 246, 3) := by decide +kernel
theorem dX9_readPart_94 : decode cX9_readPart 94 = .ok (.return_, 1) := by decide +kernel
set_option maxRecDepth 20000 in
theorem ggX9_readProduct_X9_readPart : GoodIn wsX9_readProduct wsX9_readPart := goodIn_r _ [117, 9, 10, 118, 119, 120, 121, 4, 122, 123, 124, 125, 126, 24, 12, 18, 105, 106, 107, 108, 109, 13, 14, 15, 16, 17, 19, 20, 21, 22, 23, 25, 26, 27, 28, 29, 11, 30, 31, 32, 33, 34, 35, 36, 37, 38, 39, 40, 41, 42, 43, 44, 45, 46, 127, 128, 129, 130, 51, 52, 53, 54, 55, 56, 57, 58, 59, 60, 61, 62, 63, 64, 65, 66, 67, 68, 69, 70, 71, 72, 73, 74, 75, 76, 77, 78, 79, 80, 81, 82, 83, 84, 85, 86, 87, 88, 89, 90, 91, 92, 93, 94, 95, 96, 97, 98, 99, 100, 101, 102, 103, 131, 132, 133, 134, 5, 6, 7, 8, 135, 136, 137, 47, 48, 49, 50, 104, 110, 111, 112, 113, 114, 115, 116, 0, 1, 2, 3, 138, 139, 140, 141, 142, 143, 144, 145, 146, 147, 148, 149, 150, 151, 152, 153, 154, 155, 156, 157, 158, 159, 160, 161, 162, 163, 164, 165, 166, 167, 168, 169, 170, 171, 172, 173, 174, 175, 176, 177, 178, 179, 180, 181, 182, 183, 184, 185, 186, 187, 188, 189, 190, 191, 192, 193, 194, 195, 196, 197, 198, 199, 200, 201, 202, 203, 204] (by decide +kernel) (by decide +kernel)
set_option maxRecDepth 20000 in
theorem gX9_readProduct_X9_readPart : GoodIn wsX9_readProduct (wsV RX9 252 RX9 yX9_readPart wsX9_readPart) := goodIn_app (goodIn_of _ (by decide +kernel)) ggX9_readProduct_X9_readPart
set_option maxRecDepth 20000 in
theorem ggX9_readProduct_X9_isMarked : GoodIn wsX9_readProduct wsX9_isMarked := goodIn_r _ [8, 9, 10, 11, 12, 142, 143, 144, 145, 146, 147, 148, 149, 150, 151, 152, 153, 154, 155, 156, 157, 158, 159, 160, 161, 162, 163, 164, 165, 166, 167, 168, 169, 170, 171, 172, 173, 174, 175, 176, 177, 178, 179, 180, 181, 182, 183, 184, 185, 186, 187, 188, 189, 190, 191, 192, 193, 194, 195, 196, 197, 198, 199, 200, 201, 202, 203, 204] (by decide +kernel) (by decide +kernel)
set_option maxRecDepth 20000 in
theorem gX9_readProduct_X9_isMarked : GoodIn wsX9_readProduct (wsV RX9 219 RX9 yX9_isMarked wsX9_isMarked) := goodIn_app (goodIn_of _ (by decide +kernel)) ggX9_readProduct_X9_isMarked
set_option maxRecDepth 20000 in
theorem ggX9_readProduct_X9_stepOn : GoodIn wsX9_readProduct wsX9_stepOn := goodIn_r _ [16, 17, 12, 10, 18, 19, 20, 21, 22, 23, 24, 25, 26, 27, 4, 28, 29, 11, 30, 31, 32, 33, 34, 35, 36, 37, 38, 142, 143, 144, 145, 146, 147, 148, 149, 150, 151, 152, 153, 154, 155, 156, 157, 158, 159, 160, 161, 162, 163, 164, 165, 166, 167, 168, 169, 170, 171, 172, 173, 174, 175, 176, 177, 178, 179, 180, 181, 182, 183, 184, 185, 186, 187, 188, 189, 190, 191, 192, 193, 194, 195, 196, 197, 198, 199, 200, 201, 202, 203, 204] (by decide +kernel) (by decide +kernel)
set_option maxRecDepth 20000 in
theorem gX9_readProduct_X9_stepOn : GoodIn wsX9_readProduct (wsV RX9 226 RX9 yX9_stepOn wsX9_stepOn) := goodIn_app (goodIn_of _ (by decide +kernel)) ggX9_readProduct_X9_stepOn
set_option maxRecDepth 20000 in
theorem ggX9_readProduct_X9_lay : GoodIn wsX9_readProduct wsX9_lay := goodIn_r _ [42, 9, 43, 44, 45, 46, 142, 143, 144, 145, 146, 147, 148, 149, 150, 151, 152, 153, 154, 155, 156, 157, 158, 159, 160, 161, 162, 163, 164, 165, 166, 167, 168, 169, 170, 171, 172, 173, 174, 175, 176, 177, 178, 179, 180, 181, 182, 183, 184, 185, 186, 187, 188, 189, 190, 191, 192, 193, 194, 195, 196, 197, 198, 199, 200, 201, 202, 203, 204] (by decide +kernel) (by decide +kernel)
set_option maxRecDepth 20000 in
theorem gX9_readProduct_X9_lay : GoodIn wsX9_readProduct (wsV RX9 239 RX9 yX9_lay wsX9_lay) := goodIn_app (goodIn_of _ (by decide +kernel)) ggX9_readProduct_X9_lay
theorem dX9_readProduct_0 : decode cX9_readProduct 0 = .ok (.aload_n 0, 1) := by decide +kernel
theorem dX9_readProduct_1 : decode cX9_readProduct 1 = .ok (.iload_n 1, 1) := by decide +kernel
theorem dX9_readProduct_2 : decode cX9_readProduct 2 = .ok (.invokevirtual 252, 3) := by decide +kernel
theorem dX9_readProduct_5 : decode cX9_readProduct 5 = .ok (.aload_n 0, 1) := by decide +kernel
theorem dX9_readProduct_6 : decode cX9_readProduct 6 = .ok (.bipush 42, 2) := by decide +kernel
theorem dX9_readProduct_8 : decode cX9_readProduct 8 = .ok (.invokevirtual 219, 3) := by decide +kernel
theorem dX9_readProduct_11 : decode cX9_readProduct 11 = .ok (.ifCond .ne 12, 3) := by decide +kernel
theorem dX9_readProduct_14 : decode cX9_readProduct 14 = .ok (.aload_n 0, 1) := by decide +kernel
theorem dX9_readProduct_15 : decode cX9_readProduct 15 = .ok (.bipush 47, 2) := by decide +kernel
theorem dX9_readProduct_17 : decode cX9_readProduct 17 = .ok (.invokevirtual 219, 3) := by decide +kernel
theorem dX9_readProduct_20 : decode cX9_readProduct 20 = .ok (.ifCond .eq 37, 3) := by decide +kernel
theorem dX9_readProduct_23 : decode cX9_readProduct 23 = .ok (.aload_n 0, 1) := by decide +kernel
theorem dX9_readProduct_24 : decode cX9_readProduct 24 = .ok (.bipush 42, 2) := by decide +kernel
theorem dX9_readProduct_26 : decode cX9_readProduct 26 = .ok (.invokevirtual 219, 3) := by decide +kernel
theorem dX9_readProduct_29 : decode cX9_readProduct 29 = .ok (.ifCond .eq 8, 3) := by decide +kernel
theorem dX9_readProduct_32 : decode cX9_readProduct 32 = .ok (.bipush (-22), 2) := by decide +kernel
theorem dX9_readProduct_34 : decode cX9_readProduct 34 = .ok (.goto 5, 3) := by decide +kernel
theorem dX9_readProduct_37 : decode cX9_readProduct 37 = .ok (.bipush (-23), 2) := by decide +kernel
theorem dX9_readProduct_39 : decode cX9_readProduct 39 = .ok (.istore_n 2, 1) := by decide +kernel
theorem dX9_readProduct_40 : decode cX9_readProduct 40 = .ok (.aload_n 0, 1) := by decide +kernel
theorem dX9_readProduct_41 : decode cX9_readProduct 41 = .ok (.invokevirtual 226, 3) := by decide +kernel
theorem dX9_readProduct_44 : decode cX9_readProduct 44 = .ok (.aload_n 0, 1) := by decide +kernel
theorem dX9_readProduct_45 : decode cX9_readProduct 45 = .ok (.iload_n 1, 1) := by decide +kernel
theorem dX9_readProduct_46 : decode cX9_readProduct 46 = .ok (.invokevirtual 252, 3) := by decide +kernel
theorem dX9_readProduct_49 : decode cX9_readProduct 49 = .ok (.aload_n 0, 1) := by decide +kernel
theorem dX9_readProduct_50 : decode cX9_readProduct 50 = .ok (.iload_n 2, 1) := by decide +kernel
theorem dX9_readProduct_51 : decode cX9_readProduct 51 = .ok (.invokevirtual 239, 3) := by decide +kernel
theorem dX9_readProduct_54 : decode cX9_readProduct 54 = .ok (.goto (-49), 3) := by decide +kernel
theorem dX9_readProduct_57 : decode cX9_readProduct 57 = .ok (.return_, 1) := by decide +kernel
set_option maxRecDepth 20000 in
theorem ggX9_readSum_X9_readProduct : GoodIn wsX9_readSum wsX9_readProduct := goodIn_r _ [138, 139, 140, 141, 4, 5, 6, 7, 8, 9, 10, 11, 12, 13, 14, 15, 16, 17, 18, 19, 20, 21, 22, 23, 24, 25, 26, 27, 28, 29, 30, 31, 32, 33, 34, 35, 36, 37, 38, 39, 40, 41, 42, 43, 44, 45, 46, 47, 48, 49, 50, 51, 52, 53, 54, 55, 56, 57, 58, 59, 60, 61, 62, 63, 64, 65, 66, 67, 68, 69, 70, 71, 72, 73, 74, 75, 76, 77, 78, 79, 80, 81, 82, 83, 84, 85, 86, 87, 88, 89, 90, 91, 92, 93, 94, 95, 96, 97, 98, 99, 100, 101, 102, 103, 104, 105, 106, 107, 108, 109, 110, 111, 112, 113, 114, 115, 116, 117, 118, 119, 120, 121, 122, 123, 124, 125, 126, 127, 128, 129, 130, 131, 132, 133, 134, 135, 136, 137, 0, 1, 2, 3, 142, 143, 144, 145, 146, 147, 148, 149, 150, 151, 152, 153, 154, 155, 156, 157, 158, 159, 160, 161, 162, 163, 164, 165, 166, 167, 168, 169, 170, 171, 172, 173, 174, 175, 176, 177, 178, 179, 180, 181, 182, 183, 184, 185, 186, 187, 188, 189, 190, 191, 192, 193, 194, 195, 196, 197, 198, 199, 200, 201, 202, 203, 204] (by decide +kernel) (by decide +kernel)
set_option maxRecDepth 20000 in
theorem gX9_readSum_X9_readProduct : GoodIn wsX9_readSum (wsV RX9 255 RX9 yX9_readProduct wsX9_readProduct) := goodIn_app (goodIn_of _ (by decide +kernel)) ggX9_readSum_X9_readProduct
set_option maxRecDepth 20000 in
theorem ggX9_readSum_X9_isMarked : GoodIn wsX9_readSum wsX9_isMarked := goodIn_r _ [8, 9, 10, 11, 12, 142, 143, 144, 145, 146, 147, 148, 149, 150, 151, 152, 153, 154, 155, 156, 157, 158, 159, 160, 161, 162, 163, 164, 165, 166, 167, 168, 169, 170, 171, 172, 173, 174, 175, 176, 177, 178, 179, 180, 181, 182, 183, 184, 185, 186, 187, 188, 189, 190, 191, 192, 193, 194, 195, 196, 197, 198, 199, 200, 201, 202, 203, 204] (by decide +kernel) (by decide +kernel)
set_option maxRecDepth 20000 in
theorem gX9_readSum_X9_isMarked : GoodIn wsX9_readSum (wsV RX9 219 RX9 yX9_isMarked wsX9_isMarked) := goodIn_app (goodIn_of _ (by decide +kernel)) ggX9_readSum_X9_isMarked
set_option maxRecDepth 20000 in
theorem ggX9_readSum_X9_stepOn : GoodIn wsX9_readSum wsX9_stepOn := goodIn_r _ [16, 17, 12, 10, 18, 19, 20, 21, 22, 23, 24, 25, 26, 27, 4, 28, 29, 11, 30, 31, 32, 33, 34, 35, 36, 37, 38, 142, 143, 144, 145, 146, 147, 148, 149, 150, 151, 152, 153, 154, 155, 156, 157, 158, 159, 160, 161, 162, 163, 164, 165, 166, 167, 168, 169, 170, 171, 172, 173, 174, 175, 176, 177, 178, 179, 180, 181, 182, 183, 184, 185, 186, 187, 188, 189, 190, 191, 192, 193, 194, 195, 196, 197, 198, 199, 200, 201, 202, 203, 204] (by decide +kernel) (by decide +kernel)
set_option maxRecDepth 20000 in
theorem gX9_readSum_X9_stepOn : GoodIn wsX9_readSum (wsV RX9 226 RX9 yX9_stepOn wsX9_stepOn) := goodIn_app (goodIn_of _ (by decide +kernel)) ggX9_readSum_X9_stepOn
set_option maxRecDepth 20000 in
theorem ggX9_readSum_X9_lay : GoodIn wsX9_readSum wsX9_lay := goodIn_r _ [42, 9, 43, 44, 45, 46, 142, 143, 144, 145, 146, 147, 148, 149, 150, 151, 152, 153, 154, 155, 156, 157, 158, 159, 160, 161, 162, 163, 164, 165, 166, 167, 168, 169, 170, 171, 172, 173, 174, 175, 176, 177, 178, 179, 180, 181, 182, 183, 184, 185, 186, 187, 188, 189, 190, 191, 192, 193, 194, 195, 196, 197, 198, 199, 200, 201, 202, 203, 204] (by decide +kernel) (by decide +kernel)
set_option maxRecDepth 20000 in
theorem gX9_readSum_X9_lay : GoodIn wsX9_readSum (wsV RX9 239 RX9 yX9_lay wsX9_lay) := goodIn_app (goodIn_of _ (by decide +kernel)) ggX9_readSum_X9_lay
theorem dX9_readSum_0 : decode cX9_readSum 0 = .ok (.aload_n 0, 1) := by decide +kernel
theorem dX9_readSum_1 : decode cX9_readSum 1 = .ok (.iload_n 1, 1) := by decide +kernel
theorem dX9_readSum_2 : decode cX9_readSum 2 = .ok (.invokevirtual 255, 3) := by decide +kernel
theorem dX9_readSum_5 : decode cX9_readSum 5 = .ok (.aload_n 0, 1) := by decide +kernel
theorem dX9_readSum_6 : decode cX9_readSum 6 = .ok (.bipush 43, 2) := by decide +kernel
theorem dX9_readSum_8 : decode cX9_readSum 8 = .ok (.invokevirtual 219, 3) := by decide +kernel
theorem dX9_readSum_11 : decode cX9_readSum 11 = .ok (.ifCond .ne 12, 3) := by decide +kernel
theorem dX9_readSum_14 : decode cX9_readSum 14 = .ok (.aload_n 0, 1) := by decide +kernel
theorem dX9_readSum_15 : decode cX9_readSum 15 = .ok (.bipush 45, 2) := by decide +kernel
theorem dX9_readSum_17 : decode cX9_readSum 17 = .ok (.invokevirtual 219, 3) := by decide +kernel
theorem dX9_readSum_20 : decode cX9_readSum 20 = .ok (.ifCond .eq 37, 3) := by decide +kernel
theorem dX9_readSum_23 : decode cX9_readSum 23 = .ok (.aload_n 0, 1) := by decide +kernel
theorem dX9_readSum_24 : decode cX9_readSum 24 = .ok (.bipush 43, 2) := by decide +kernel
theorem dX9_readSum_26 : decode cX9_readSum 26 = .ok (.invokevirtual 219, 3) := by decide +kernel
theorem dX9_readSum_29 : decode cX9_readSum 29 = .ok (.ifCond .eq 8, 3) := by decide +kernel
theorem dX9_readSum_32 : decode cX9_readSum 32 = .ok (.bipush (-20), 2) := by decide +kernel
theorem dX9_readSum_34 : decode cX9_readSum 34 = .ok (.goto 5, 3) := by decide +kernel
theorem dX9_readSum_37 : decode cX9_readSum 37 = .ok (.bipush (-21), 2) := by decide +kernel
theorem dX9_readSum_39 : decode cX9_readSum 39 = .ok (.istore_n 2, 1) := by decide +kernel
theorem dX9_readSum_40 : decode cX9_readSum 40 = .ok (.aload_n 0, 1) := by decide +kernel
theorem dX9_readSum_41 : decode cX9_readSum 41 = .ok (.invokevirtual 226, 3) := by decide +kernel
theorem dX9_readSum_44 : decode cX9_readSum 44 = .ok (.aload_n 0, 1) := by decide +kernel
theorem dX9_readSum_45 : decode cX9_readSum 45 = .ok (.iload_n 1, 1) := by decide +kernel
theorem dX9_readSum_46 : decode cX9_readSum 46 = .ok (.invokevirtual 255, 3) := by decide +kernel
theorem dX9_readSum_49 : decode cX9_readSum 49 = .ok (.aload_n 0, 1) := by decide +kernel
theorem dX9_readSum_50 : decode cX9_readSum 50 = .ok (.iload_n 2, 1) := by decide +kernel
theorem dX9_readSum_51 : decode cX9_readSum 51 = .ok (.invokevirtual 239, 3) := by decide +kernel
theorem dX9_readSum_54 : decode cX9_readSum 54 = .ok (.goto (-49), 3) := by decide +kernel
theorem dX9_readSum_57 : decode cX9_readSum 57 = .ok (.return_, 1) := by decide +kernel
set_option maxRecDepth 20000 in
theorem ggX9_readNot_X9_is : GoodIn wsX9_readNot wsX9_is := goodIn_r _ [6, 1, 7, 8, 9, 10, 11, 12, 13, 14, 15, 16, 17, 18, 19, 20, 21, 22, 23, 24, 25, 26, 27, 28, 29, 30, 31, 32, 33, 34, 35, 36, 37, 38, 39, 40, 41, 42, 43, 44, 45, 46, 47, 48, 49, 50, 51, 52, 53, 54, 55, 56, 57, 58, 59, 142, 143, 144, 145, 146, 147, 148, 149, 150, 151, 152, 153, 154, 155, 156, 157, 158, 159, 160, 161, 162, 163, 164, 165, 166, 167, 168, 169, 170, 171, 172, 173, 174, 175, 176, 177, 178, 179, 180, 181, 182, 183, 184, 185, 186, 187, 188, 189, 190, 191, 192, 193, 194, 195, 196, 197, 198, 199, 200, 201, 202, 203, 204] (by decide +kernel) (by decide +kernel)
set_option maxRecDepth 20000 in
theorem gX9_readNot_X9_is : GoodIn wsX9_readNot (wsV RX9 215 RX9 yX9_is wsX9_is) := goodIn_app (goodIn_of _ (by decide +kernel)) ggX9_readNot_X9_is
set_option maxRecDepth 20000 in
theorem ggX9_readNot_X9_wrong : GoodIn wsX9_readNot wsX9_wrong := goodIn_r _ [63, 1, 9, 64, 142, 143, 144, 145, 146, 147, 148, 149, 150, 151, 152, 153, 154, 155, 156, 157, 158, 159, 160, 161, 162, 163, 164, 165, 166, 167, 168, 169, 170, 171, 172, 173, 174, 175, 176, 177, 178, 179, 180, 181, 182, 183, 184, 185, 186, 187, 188, 189, 190, 191, 192, 193, 194, 195, 196, 197, 198, 199, 200, 201, 202, 203, 204] (by decide +kernel) (by decide +kernel)
set_option maxRecDepth 20000 in
theorem gX9_readNot_X9_wrong : GoodIn wsX9_readNot (wsV RX9 222 RX9 yX9_wrong wsX9_wrong) := goodIn_app (goodIn_of _ (by decide +kernel)) ggX9_readNot_X9_wrong
set_option maxRecDepth 20000 in
theorem ggX9_readNot_X9_stepOn : GoodIn wsX9_readNot wsX9_stepOn := goodIn_r _ [68, 69, 9, 7, 70, 71, 72, 73, 74, 75, 8, 76, 77, 78, 5, 79, 80, 10, 81, 82, 83, 84, 85, 86, 87, 88, 89, 142, 143, 144, 145, 146, 147, 148, 149, 150, 151, 152, 153, 154, 155, 156, 157, 158, 159, 160, 161, 162, 163, 164, 165, 166, 167, 168, 169, 170, 171, 172, 173, 174, 175, 176, 177, 178, 179, 180, 181, 182, 183, 184, 185, 186, 187, 188, 189, 190, 191, 192, 193, 194, 195, 196, 197, 198, 199, 200, 201, 202, 203, 204] (by decide +kernel) (by decide +kernel)
set_option maxRecDepth 20000 in
theorem gX9_readNot_X9_stepOn : GoodIn wsX9_readNot (wsV RX9 226 RX9 yX9_stepOn wsX9_stepOn) := goodIn_app (goodIn_of _ (by decide +kernel)) ggX9_readNot_X9_stepOn
set_option maxRecDepth 20000 in
theorem ggX9_readNot_X9_readSum : GoodIn wsX9_readNot wsX9_readSum := goodIn_r _ [138, 139, 140, 141, 5, 93, 94, 95, 96, 1, 7, 10, 9, 65, 66, 67, 68, 69, 70, 71, 72, 73, 74, 75, 8, 76, 77, 78, 79, 80, 81, 82, 83, 84, 85, 86, 87, 88, 89, 97, 98, 99, 100, 101, 102, 103, 104, 105, 106, 107, 108, 2, 3, 4, 6, 11, 12, 13, 14, 15, 16, 17, 18, 19, 20, 21, 22, 23, 24, 25, 26, 27, 28, 29, 30, 31, 32, 33, 34, 35, 36, 37, 38, 39, 40, 41, 42, 43, 44, 45, 46, 47, 48, 49, 50, 51, 52, 53, 54, 55, 56, 57, 58, 59, 109, 60, 61, 62, 63, 64, 110, 111, 112, 0, 90, 91, 92, 113, 114, 115, 116, 117, 118, 119, 120, 121, 122, 123, 124, 125, 126, 127, 128, 129, 130, 131, 132, 133, 134, 135, 136, 137, 142, 143, 144, 145, 146, 147, 148, 149, 150, 151, 152, 153, 154, 155, 156, 157, 158, 159, 160, 161, 162, 163, 164, 165, 166, 167, 168, 169, 170, 171, 172, 173, 174, 175, 176, 177, 178, 179, 180, 181, 182, 183, 184, 185, 186, 187, 188, 189, 190, 191, 192, 193, 194, 195, 196, 197, 198, 199, 200, 201, 202, 203, 204] (by decide +kernel) (by decide +kernel)
set_option maxRecDepth 20000 in
theorem gX9_readNot_X9_readSum : GoodIn wsX9_readNot (wsV RX9 260 RX9 yX9_readSum wsX9_readSum) := goodIn_app (goodIn_of _ (by decide +kernel)) ggX9_readNot_X9_readSum
set_option maxRecDepth 20000 in
theorem ggX9_readNot_X9_isMarked : GoodIn wsX9_readNot wsX9_isMarked := goodIn_r _ [96, 1, 7, 10, 9, 142, 143, 144, 145, 146, 147, 148, 149, 150, 151, 152, 153, 154, 155, 156, 157, 158, 159, 160, 161, 162, 163, 164, 165, 166, 167, 168, 169, 170, 171, 172, 173, 174, 175, 176, 177, 178, 179, 180, 181, 182, 183, 184, 185, 186, 187, 188, 189, 190, 191, 192, 193, 194, 195, 196, 197, 198, 199, 200, 201, 202, 203, 204] (by decide +kernel) (by decide +kernel)
set_option maxRecDepth 20000 in
theorem gX9_readNot_X9_isMarked : GoodIn wsX9_readNot (wsV RX9 219 RX9 yX9_isMarked wsX9_isMarked) := goodIn_app (goodIn_of _ (by decide +kernel)) ggX9_readNot_X9_isMarked
set_option maxRecDepth 20000 in
theorem ggX9_readNot_X9_lay : GoodIn wsX9_readNot wsX9_lay := goodIn_r _ [100, 1, 101, 102, 103, 104, 142, 143, 144, 145, 146, 147, 148, 149, 150, 151, 152, 153, 154, 155, 156, 157, 158, 159, 160, 161, 162, 163, 164, 165, 166, 167, 168, 169, 170, 171, 172, 173, 174, 175, 176, 177, 178, 179, 180, 181, 182, 183, 184, 185, 186, 187, 188, 189, 190, 191, 192, 193, 194, 195, 196, 197, 198, 199, 200, 201, 202, 203, 204] (by decide +kernel) (by decide +kernel)
set_option maxRecDepth 20000 in
theorem gX9_readNot_X9_lay : GoodIn wsX9_readNot (wsV RX9 239 RX9 yX9_lay wsX9_lay) := goodIn_app (goodIn_of _ (by decide +kernel)) ggX9_readNot_X9_lay
theorem dX9_readNot_0 : decode cX9_readNot 0 = .ok (.iconst 0, 1) := by decide +kernel
theorem dX9_readNot_1 : decode cX9_readNot 1 = .ok (.istore_n 2, 1) := by decide +kernel
theorem dX9_readNot_2 : decode cX9_readNot 2 = .ok (.aload_n 0, 1) := by decide +kernel
theorem dX9_readNot_3 : decode cX9_readNot 3 = .ok (.ldc_w 258, 3) := by decide +kernel
theorem dX9_readNot_6 : decode cX9_readNot 6 = .ok (.invokevirtual 215, 3) := by decide +kernel
theorem dX9_readNot_9 : decode cX9_readNot 9 = .ok (.ifCond .eq 31, 3) := by decide +kernel
theorem dX9_readNot_12 : decode cX9_readNot 12 = .ok (.iload_n 2, 1) := by decide +kernel
theorem dX9_readNot_13 : decode cX9_readNot 13 = .ok (.bipush 6, 2) := by decide +kernel
theorem dX9_readNot_15 : decode cX9_readNot 15 = .ok (.if_icmp .ne 8, 3) := by decide +kernel
theorem dX9_readNot_18 : decode cX9_readNot 18 = .ok (.aload_n 0, 1) := by decide +kernel
theorem dX9_readNot_19 : decode cX9_readNot 19 = .ok (.iconst 2, 1) := by decide +kernel
theorem dX9_readNot_20 : decode cX9_readNot 20 = .ok (.invokevirtual 222, 3) := by decide +kernel
theorem dX9_readNot_23 : decode cX9_readNot 23 = .ok (.iinc 2 1, 3) := by decide +kernel
theorem dX9_readNot_26 : decode cX9_readNot 26 = .ok (.aload_n 0, 1) := by decide +kernel
theorem dX9_readNot_27 : decode cX9_readNot 27 = .ok (.getfield 201, 3) := by decide +kernel
theorem dX9_readNot_30 : decode cX9_readNot 30 = .ok (.ifCond .ne (-28), 3) := by decide +kernel
theorem dX9_readNot_33 : decode cX9_readNot 33 = .ok (.aload_n 0, 1) := by decide +kernel
theorem dX9_readNot_34 : decode cX9_readNot 34 = .ok (.invokevirtual 226, 3) := by decide +kernel
theorem dX9_readNot_37 : decode cX9_readNot 37 = .ok (.goto (-35), 3) := by decide +kernel
theorem dX9_readNot_40 : decode cX9_readNot 40 = .ok (.aload_n 0, 1) := by decide +kernel
theorem dX9_readNot_41 : decode cX9_readNot 41 = .ok (.iload_n 1, 1) := by decide +kernel
theorem dX9_readNot_42 : decode cX9_readNot 42 = .ok (.invokevirtual 260, 3) := by decide +kernel
theorem dX9_readNot_45 : decode cX9_readNot 45 = .ok (.aload_n 0, 1) := by decide +kernel
theorem dX9_readNot_46 : decode cX9_readNot 46 = .ok (.bipush 60, 2) := by decide +kernel
theorem dX9_readNot_48 : decode cX9_readNot 48 = .ok (.invokevirtual 219, 3) := by decide +kernel
theorem dX9_readNot_51 : decode cX9_readNot 51 = .ok (.ifCond .ne 12, 3) := by decide +kernel
theorem dX9_readNot_54 : decode cX9_readNot 54 = .ok (.aload_n 0, 1) := by decide +kernel
theorem dX9_readNot_55 : decode cX9_readNot 55 = .ok (.bipush 61, 2) := by decide +kernel
theorem dX9_readNot_57 : decode cX9_readNot 57 = .ok (.invokevirtual 219, 3) := by decide +kernel
theorem dX9_readNot_60 : decode cX9_readNot 60 = .ok (.ifCond .eq 34, 3) := by decide +kernel
theorem dX9_readNot_63 : decode cX9_readNot 63 = .ok (.aload_n 0, 1) := by decide +kernel
theorem dX9_readNot_64 : decode cX9_readNot 64 = .ok (.bipush 60, 2) := by decide +kernel
theorem dX9_readNot_66 : decode cX9_readNot 66 = .ok (.invokevirtual 219, 3) := by decide +kernel
theorem dX9_readNot_69 : decode cX9_readNot 69 = .ok (.ifCond .eq 8, 3) := by decide +kernel
theorem dX9_readNot_72 : decode cX9_readNot 72 = .ok (.bipush (-24), 2) := by decide +kernel
theorem dX9_readNot_74 : decode cX9_readNot 74 = .ok (.goto 5, 3) := by decide +kernel
theorem dX9_readNot_77 : decode cX9_readNot 77 = .ok (.bipush (-25), 2) := by decide +kernel
theorem dX9_readNot_79 : decode cX9_readNot 79 = .ok (.istore_n 3, 1) := by decide +kernel
theorem dX9_readNot_80 : decode cX9_readNot 80 = .ok (.aload_n 0, 1) := by decide +kernel
theorem dX9_readNot_81 : decode cX9_readNot 81 = .ok (.invokevirtual 226, 3) := by decide +kernel
theorem dX9_readNot_84 : decode cX9_readNot 84 = .ok (.aload_n 0, 1) := by decide +kernel
theorem dX9_readNot_85 : decode cX9_readNot 85 = .ok (.iload_n 1, 1) := by decide +kernel
theorem dX9_readNot_86 : decode cX9_readNot 86 = .ok (.invokevirtual 260, 3) := by decide +kernel
theorem dX9_readNot_89 : decode cX9_readNot 89 = .ok (.aload_n 0, 1) := by decide +kernel
theorem dX9_readNot_90 : decode cX9_readNot 90 = .ok (.iload_n 3, 1) := by decide +kernel
theorem dX9_readNot_91 : decode cX9_readNot 91 = .ok (.invokevirtual 239, 3) := by decide +kernel
theorem dX9_readNot_94 : decode cX9_readNot 94 = .ok (.iconst 0, 1) := by decide +kernel
theorem dX9_readNot_95 : decode cX9_readNot 95 = .ok (.istore_n 3, 1) := by decide +kernel
theorem dX9_readNot_96 : decode cX9_readNot 96 = .ok (.iload_n 3, 1) := by decide +kernel
theorem dX9_readNot_97 : decode cX9_readNot 97 = .ok (.iload_n 2, 1) := by decide +kernel
theorem dX9_readNot_98 : decode cX9_readNot 98 = .ok (.if_icmp .ge 15, 3) := by decide +kernel
theorem dX9_readNot_101 : decode cX9_readNot 101 = .ok (.aload_n 0, 1) := by decide +kernel
theorem dX9_readNot_102 : decode cX9_readNot 102 = .ok (.bipush (-28), 2) := by decide +kernel
theorem dX9_readNot_104 : decode cX9_readNot 104 = .ok (.invokevirtual 239, 3) := by decide +kernel
theorem dX9_readNot_107 : decode cX9_readNot 107 = .ok (.iinc 3 1, 3) := by decide +kernel
theorem dX9_readNot_110 : decode cX9_readNot 110 = .ok (.goto (-14), 3) := by decide +kernel
theorem dX9_readNot_113 : decode cX9_readNot 113 = .ok (.return_, 1) := by decide +kernel
set_option maxRecDepth 20000 in
theorem ggX9_readAnd_X9_readNot : GoodIn wsX9_readAnd wsX9_readNot := goodIn_r _ [109, 9, 5, 6, 7, 4, 8, 10, 11, 12, 13, 14, 15, 16, 17, 18, 19, 20, 21, 22, 23, 24, 25, 26, 27, 28, 29, 30, 31, 32, 33, 34, 35, 36, 37, 38, 39, 40, 41, 42, 43, 44, 45, 46, 47, 48, 49, 50, 51, 52, 53, 54, 55, 56, 57, 58, 59, 60, 61, 62, 101, 102, 103, 104, 105, 63, 64, 65, 66, 67, 68, 69, 70, 71, 72, 73, 74, 75, 76, 77, 78, 79, 80, 81, 82, 83, 84, 85, 86, 87, 110, 111, 112, 97, 98, 99, 100, 88, 89, 90, 91, 92, 93, 94, 95, 0, 1, 2, 3, 96, 106, 107, 108, 113, 114, 115, 116, 117, 118, 119, 120, 121, 122, 123, 124, 125, 126, 127, 128, 129, 130, 131, 132, 133, 134, 135, 136, 137, 138, 139, 140, 141, 142, 143, 144, 145, 146, 147, 148, 149, 150, 151, 152, 153, 154, 155, 156, 157, 158, 159, 160, 161, 162, 163, 164, 165, 166, 167, 168, 169, 170, 171, 172, 173, 174, 175, 176, 177, 178, 179, 180, 181, 182, 183, 184, 185, 186, 187, 188, 189, 190, 191, 192, 193, 194, 195, 196, 197, 198, 199, 200, 201, 202, 203, 204] (by decide +kernel) (by decide +kernel)
set_option maxRecDepth 20000 in
theorem gX9_readAnd_X9_readNot : GoodIn wsX9_readAnd (wsV RX9 263 RX9 yX9_readNot wsX9_readNot) := goodIn_app (goodIn_of _ (by decide +kernel)) ggX9_readAnd_X9_readNot
set_option maxRecDepth 20000 in
theorem ggX9_readAnd_X9_is : GoodIn wsX9_readAnd wsX9_is := goodIn_r _ [8, 9, 10, 11, 12, 13, 14, 15, 16, 17, 18, 19, 20, 21, 22, 23, 24, 25, 26, 27, 28, 29, 30, 31, 32, 33, 34, 35, 36, 37, 38, 39, 40, 41, 42, 43, 44, 45, 46, 47, 48, 49, 50, 51, 52, 53, 54, 55, 56, 57, 58, 59, 60, 61, 62, 142, 143, 144, 145, 146, 147, 148, 149, 150, 151, 152, 153, 154, 155, 156, 157, 158, 159, 160, 161, 162, 163, 164, 165, 166, 167, 168, 169, 170, 171, 172, 173, 174, 175, 176, 177, 178, 179, 180, 181, 182, 183, 184, 185, 186, 187, 188, 189, 190, 191, 192, 193, 194, 195, 196, 197, 198, 199, 200, 201, 202, 203, 204] (by decide +kernel) (by decide +kernel)
set_option maxRecDepth 20000 in
theorem gX9_readAnd_X9_is : GoodIn wsX9_readAnd (wsV RX9 215 RX9 yX9_is wsX9_is) := goodIn_app (goodIn_of _ (by decide +kernel)) ggX9_readAnd_X9_is
set_option maxRecDepth 20000 in
theorem ggX9_readAnd_X9_stepOn : GoodIn wsX9_readAnd wsX9_stepOn := goodIn_r _ [66, 67, 12, 10, 68, 69, 70, 71, 72, 73, 11, 74, 75, 76, 4, 77, 78, 13, 79, 80, 81, 82, 83, 84, 85, 86, 87, 142, 143, 144, 145, 146, 147, 148, 149, 150, 151, 152, 153, 154, 155, 156, 157, 158, 159, 160, 161, 162, 163, 164, 165, 166, 167, 168, 169, 170, 171, 172, 173, 174, 175, 176, 177, 178, 179, 180, 181, 182, 183, 184, 185, 186, 187, 188, 189, 190, 191, 192, 193, 194, 195, 196, 197, 198, 199, 200, 201, 202, 203, 204] (by decide +kernel) (by decide +kernel)
set_option maxRecDepth 20000 in
theorem gX9_readAnd_X9_stepOn : GoodIn wsX9_readAnd (wsV RX9 226 RX9 yX9_stepOn wsX9_stepOn) := goodIn_app (goodIn_of _ (by decide +kernel)) ggX9_readAnd_X9_stepOn
set_option maxRecDepth 20000 in
theorem ggX9_readAnd_X9_lay : GoodIn wsX9_readAnd wsX9_lay := goodIn_r _ [91, 9, 92, 93, 94, 95, 142, 143, 144, 145, 146, 147, 148, 149, 150, 151, 152, 153, 154, 155, 156, 157, 158, 159, 160, 161, 162, 163, 164, 165, 166, 167, 168, 169, 170, 171, 172, 173, 174, 175, 176, 177, 178, 179, 180, 181, 182, 183, 184, 185, 186, 187, 188, 189, 190, 191, 192, 193, 194, 195, 196, 197, 198, 199, 200, 201, 202, 203, 204] (by decide +kernel) (by decide +kernel)
set_option maxRecDepth 20000 in
theorem gX9_readAnd_X9_lay : GoodIn wsX9_readAnd (wsV RX9 239 RX9 yX9_lay wsX9_lay) := goodIn_app (goodIn_of _ (by decide +kernel)) ggX9_readAnd_X9_lay
theorem dX9_readAnd_0 : decode cX9_readAnd 0 = .ok (.aload_n 0, 1) := by decide +kernel
theorem dX9_readAnd_1 : decode cX9_readAnd 1 = .ok (.iload_n 1, 1) := by decide +kernel
theorem dX9_readAnd_2 : decode cX9_readAnd 2 = .ok (.invokevirtual 263, 3) := by decide +kernel
theorem dX9_readAnd_5 : decode cX9_readAnd 5 = .ok (.aload_n 0, 1) := by decide +kernel
theorem dX9_readAnd_6 : decode cX9_readAnd 6 = .ok (.ldc_w 266, 3) := by decide +kernel
theorem dX9_readAnd_9 : decode cX9_readAnd 9 = .ok (.invokevirtual 215, 3) := by decide +kernel
theorem dX9_readAnd_12 : decode cX9_readAnd 12 = .ok (.ifCond .eq 21, 3) := by decide +kernel
theorem dX9_readAnd_15 : decode cX9_readAnd 15 = .ok (.aload_n 0, 1) := by decide +kernel
theorem dX9_readAnd_16 : decode cX9_readAnd 16 = .ok (.invokevirtual 226, 3) := by decide +kernel
theorem dX9_readAnd_19 : decode cX9_readAnd 19 = .ok (.aload_n 0, 1) := by decide +kernel
theorem dX9_readAnd_20 : decode cX9_readAnd 20 = .ok (.iload_n 1, 1) := by decide +kernel
theorem dX9_readAnd_21 : decode cX9_readAnd 21 = .ok (.invokevirtual 263, 3) := by decide +kernel
theorem dX9_readAnd_24 : decode cX9_readAnd 24 = .ok (.aload_n 0, 1) := by decide +kernel
theorem dX9_readAnd_25 : decode cX9_readAnd 25 = .ok (.bipush (-26), 2) := by decide +kernel
theorem dX9_readAnd_27 : decode cX9_readAnd 27 = .ok (.invokevirtual 239, 3) := by decide +kernel
theorem dX9_readAnd_30 : decode cX9_readAnd 30 = .ok (.goto (-25), 3) := by decide +kernel
theorem dX9_readAnd_33 : decode cX9_readAnd 33 = .ok (.return_, 1) := by decide +kernel
set_option maxRecDepth 20000 in
theorem ggX9_readExpression_X9_isMarked : GoodIn wsX9_readExpression wsX9_isMarked := goodIn_r _ [7, 1, 2, 8, 9, 142, 143, 144, 145, 146, 147, 148, 149, 150, 151, 152, 153, 154, 155, 156, 157, 158, 159, 160, 161, 162, 163, 164, 165, 166, 167, 168, 169, 170, 171, 172, 173, 174, 175, 176, 177, 178, 179, 180, 181, 182, 183, 184, 185, 186, 187, 188, 189, 190, 191, 192, 193, 194, 195, 196, 197, 198, 199, 200, 201, 202, 203, 204] (by decide +kernel) (by decide +kernel)
set_option maxRecDepth 20000 in
theorem gX9_readExpression_X9_isMarked : GoodIn wsX9_readExpression (wsV RX9 219 RX9 yX9_isMarked wsX9_isMarked) := goodIn_app (goodIn_of _ (by decide +kernel)) ggX9_readExpression_X9_isMarked
set_option maxRecDepth 20000 in
theorem ggX9_readExpression_X9_wrong : GoodIn wsX9_readExpression wsX9_wrong := goodIn_r _ [13, 1, 9, 14, 142, 143, 144, 145, 146, 147, 148, 149, 150, 151, 152, 153, 154, 155, 156, 157, 158, 159, 160, 161, 162, 163, 164, 165, 166, 167, 168, 169, 170, 171, 172, 173, 174, 175, 176, 177, 178, 179, 180, 181, 182, 183, 184, 185, 186, 187, 188, 189, 190, 191, 192, 193, 194, 195, 196, 197, 198, 199, 200, 201, 202, 203, 204] (by decide +kernel) (by decide +kernel)
set_option maxRecDepth 20000 in
theorem gX9_readExpression_X9_wrong : GoodIn wsX9_readExpression (wsV RX9 222 RX9 yX9_wrong wsX9_wrong) := goodIn_app (goodIn_of _ (by decide +kernel)) ggX9_readExpression_X9_wrong
set_option maxRecDepth 20000 in
theorem ggX9_readExpression_X9_readAnd : GoodIn wsX9_readExpression wsX9_readAnd := goodIn_r _ [105, 106, 107, 108, 6, 18, 19, 20, 21, 1, 2, 22, 9, 8, 23, 24, 25, 26, 27, 28, 29, 30, 31, 32, 33, 34, 35, 36, 37, 38, 39, 40, 41, 42, 43, 44, 45, 46, 47, 48, 49, 50, 51, 52, 53, 54, 55, 56, 57, 58, 59, 60, 61, 62, 63, 64, 65, 66, 67, 68, 69, 70, 71, 72, 73, 74, 75, 76, 77, 78, 79, 80, 81, 82, 83, 84, 85, 86, 87, 88, 89, 90, 91, 92, 93, 94, 95, 96, 97, 98, 99, 100, 101, 102, 103, 104, 0, 3, 4, 5, 7, 10, 11, 12, 13, 14, 15, 16, 17, 109, 110, 111, 112, 113, 114, 115, 116, 117, 118, 119, 120, 121, 122, 123, 124, 125, 126, 127, 128, 129, 130, 131, 132, 133, 134, 135, 136, 137, 138, 139, 140, 141, 142, 143, 144, 145, 146, 147, 148, 149, 150, 151, 152, 153, 154, 155, 156, 157, 158, 159, 160, 161, 162, 163, 164, 165, 166, 167, 168, 169, 170, 171, 172, 173, 174, 175, 176, 177, 178, 179, 180, 181, 182, 183, 184, 185, 186, 187, 188, 189, 190, 191, 192, 193, 194, 195, 196, 197, 198, 199, 200, 201, 202, 203, 204] (by decide +kernel) (by decide +kernel)
set_option maxRecDepth 20000 in
theorem gX9_readExpression_X9_readAnd : GoodIn wsX9_readExpression (wsV RX9 268 RX9 yX9_readAnd wsX9_readAnd) := goodIn_app (goodIn_of _ (by decide +kernel)) ggX9_readExpression_X9_readAnd
set_option maxRecDepth 20000 in
theorem ggX9_readExpression_X9_is : GoodIn wsX9_readExpression wsX9_is := goodIn_r _ [21, 1, 2, 22, 9, 8, 23, 24, 25, 26, 27, 28, 29, 30, 31, 32, 33, 34, 35, 36, 37, 38, 39, 40, 41, 42, 43, 44, 45, 46, 47, 48, 49, 50, 51, 52, 53, 54, 55, 56, 57, 58, 59, 60, 61, 62, 63, 64, 65, 66, 67, 68, 69, 70, 71, 142, 143, 144, 145, 146, 147, 148, 149, 150, 151, 152, 153, 154, 155, 156, 157, 158, 159, 160, 161, 162, 163, 164, 165, 166, 167, 168, 169, 170, 171, 172, 173, 174, 175, 176, 177, 178, 179, 180, 181, 182, 183, 184, 185, 186, 187, 188, 189, 190, 191, 192, 193, 194, 195, 196, 197, 198, 199, 200, 201, 202, 203, 204] (by decide +kernel) (by decide +kernel)
set_option maxRecDepth 20000 in
theorem gX9_readExpression_X9_is : GoodIn wsX9_readExpression (wsV RX9 215 RX9 yX9_is wsX9_is) := goodIn_app (goodIn_of _ (by decide +kernel)) ggX9_readExpression_X9_is
set_option maxRecDepth 20000 in
theorem ggX9_readExpression_X9_stepOn : GoodIn wsX9_readExpression wsX9_stepOn := goodIn_r _ [75, 76, 9, 2, 77, 78, 79, 80, 81, 82, 22, 83, 84, 85, 6, 86, 87, 8, 88, 89, 90, 91, 92, 93, 94, 95, 96, 142, 143, 144, 145, 146, 147, 148, 149, 150, 151, 152, 153, 154, 155, 156, 157, 158, 159, 160, 161, 162, 163, 164, 165, 166, 167, 168, 169, 170, 171, 172, 173, 174, 175, 176, 177, 178, 179, 180, 181, 182, 183, 184, 185, 186, 187, 188, 189, 190, 191, 192, 193, 194, 195, 196, 197, 198, 199, 200, 201, 202, 203, 204] (by decide +kernel) (by decide +kernel)
set_option maxRecDepth 20000 in
theorem gX9_readExpression_X9_stepOn : GoodIn wsX9_readExpression (wsV RX9 226 RX9 yX9_stepOn wsX9_stepOn) := goodIn_app (goodIn_of _ (by decide +kernel)) ggX9_readExpression_X9_stepOn
set_option maxRecDepth 20000 in
theorem ggX9_readExpression_X9_lay : GoodIn wsX9_readExpression wsX9_lay := goodIn_r _ [100, 1, 101, 102, 103, 104, 142, 143, 144, 145, 146, 147, 148, 149, 150, 151, 152, 153, 154, 155, 156, 157, 158, 159, 160, 161, 162, 163, 164, 165, 166, 167, 168, 169, 170, 171, 172, 173, 174, 175, 176, 177, 178, 179, 180, 181, 182, 183, 184, 185, 186, 187, 188, 189, 190, 191, 192, 193, 194, 195, 196, 197, 198, 199, 200, 201, 202, 203, 204] (by decide +kernel) (by decide +kernel)
set_option maxRecDepth 20000 in
theorem gX9_readExpression_X9_lay : GoodIn wsX9_readExpression (wsV RX9 239 RX9 yX9_lay wsX9_lay) := goodIn_app (goodIn_of _ (by decide +kernel)) ggX9_readExpression_X9_lay
theorem dX9_readExpression_0 : decode cX9_readExpression 0 = .ok (.aload_n 0, 1) := by decide +kernel
theorem dX9_readExpression_1 : decode cX9_readExpression 1 = .ok (.getfield 201, 3) := by decide +kernel
theorem dX9_readExpression_4 : decode cX9_readExpression 4 = .ok (.ifCond .eq 4, 3) := by decide +kernel
theorem dX9_readExpression_7 : decode cX9_readExpression 7 = .ok (.return_, 1) := by decide +kernel
theorem dX9_readExpression_8 : decode cX9_readExpression 8 = .ok (.aload_n 0, 1) := by decide +kernel
theorem dX9_readExpression_9 : decode cX9_readExpression 9 = .ok (.getfield 175, 3) := by decide +kernel
theorem dX9_readExpression_12 : decode cX9_readExpression 12 = .ok (.iconst 2, 1) := by decide +kernel
theorem dX9_readExpression_13 : decode cX9_readExpression 13 = .ok (.if_icmp .eq 20, 3) := by decide +kernel
theorem dX9_readExpression_16 : decode cX9_readExpression 16 = .ok (.aload_n 0, 1) := by decide +kernel
theorem dX9_readExpression_17 : decode cX9_readExpression 17 = .ok (.getfield 175, 3) := by decide +kernel
theorem dX9_readExpression_20 : decode cX9_readExpression 20 = .ok (.iconst 1, 1) := by decide +kernel
theorem dX9_readExpression_21 : decode cX9_readExpression 21 = .ok (.if_icmp .eq 12, 3) := by decide +kernel
theorem dX9_readExpression_24 : decode cX9_readExpression 24 = .ok (.aload_n 0, 1) := by decide +kernel
theorem dX9_readExpression_25 : decode cX9_readExpression 25 = .ok (.bipush 40, 2) := by decide +kernel
theorem dX9_readExpression_27 : decode cX9_readExpression 27 = .ok (.invokevirtual 219, 3) := by decide +kernel
theorem dX9_readExpression_30 : decode cX9_readExpression 30 = .ok (.ifCond .eq 7, 3) := by decide +kernel
theorem dX9_readExpression_33 : decode cX9_readExpression 33 = .ok (.iconst 1, 1) := by decide +kernel
theorem dX9_readExpression_34 : decode cX9_readExpression 34 = .ok (.goto 4, 3) := by decide +kernel
theorem dX9_readExpression_37 : decode cX9_readExpression 37 = .ok (.iconst 0, 1) := by decide +kernel
theorem dX9_readExpression_38 : decode cX9_readExpression 38 = .ok (.istore_n 2, 1) := by decide +kernel
theorem dX9_readExpression_39 : decode cX9_readExpression 39 = .ok (.iload_n 2, 1) := by decide +kernel
theorem dX9_readExpression_40 : decode cX9_readExpression 40 = .ok (.ifCond .ne 11, 3) := by decide +kernel
theorem dX9_readExpression_43 : decode cX9_readExpression 43 = .ok (.aload_n 0, 1) := by decide +kernel
theorem dX9_readExpression_44 : decode cX9_readExpression 44 = .ok (.iconst 1, 1) := by decide +kernel
theorem dX9_readExpression_45 : decode cX9_readExpression 45 = .ok (.invokevirtual 222, 3) := by decide +kernel
theorem dX9_readExpression_48 : decode cX9_readExpression 48 = .ok (.goto 14, 3) := by decide +kernel
theorem dX9_readExpression_51 : decode cX9_readExpression 51 = .ok (.iload_n 1, 1) := by decide +kernel
theorem dX9_readExpression_52 : decode cX9_readExpression 52 = .ok (.bipush 6, 2) := by decide +kernel
theorem dX9_readExpression_54 : decode cX9_readExpression 54 = .ok (.if_icmp .ne 8, 3) := by decide +kernel
theorem dX9_readExpression_57 : decode cX9_readExpression 57 = .ok (.aload_n 0, 1) := by decide +kernel
theorem dX9_readExpression_58 : decode cX9_readExpression 58 = .ok (.iconst 2, 1) := by decide +kernel
theorem dX9_readExpression_59 : decode cX9_readExpression 59 = .ok (.invokevirtual 222, 3) := by decide +kernel
theorem dX9_readExpression_62 : decode cX9_readExpression 62 = .ok (.aload_n 0, 1) := by decide +kernel
theorem dX9_readExpression_63 : decode cX9_readExpression 63 = .ok (.iload_n 1, 1) := by decide +kernel
theorem dX9_readExpression_64 : decode cX9_readExpression 64 = .ok (.invokevirtual 268, 3) := by decide +kernel
theorem dX9_readExpression_67 : decode cX9_readExpression 67 = .ok (.aload_n 0, 1) := by decide +kernel
theorem dX9_readExpression_68 : decode cX9_readExpression 68 = .ok (.ldc_w 271, 3) := by decide +kernel
theorem dX9_readExpression_71 : decode cX9_readExpression 71 = .ok (.invokevirtual 215, 3) := by decide +kernel
theorem dX9_readExpression_74 : decode cX9_readExpression 74 = .ok (.ifCond .eq 21, 3) := by decide +kernel
theorem dX9_readExpression_77 : decode cX9_readExpression 77 = .ok (.aload_n 0, 1) := by decide +kernel
theorem dX9_readExpression_78 : decode cX9_readExpression 78 = .ok (.invokevirtual 226, 3) := by decide +kernel
theorem dX9_readExpression_81 : decode cX9_readExpression 81 = .ok (.aload_n 0, 1) := by decide +kernel
theorem dX9_readExpression_82 : decode cX9_readExpression 82 = .ok (.iload_n 1, 1) := by decide +kernel
theorem dX9_readExpression_83 : decode cX9_readExpression 83 = .ok (.invokevirtual 268, 3) := by decide +kernel
theorem dX9_readExpression_86 : decode cX9_readExpression 86 = .ok (.aload_n 0, 1) := by decide +kernel
theorem dX9_readExpression_87 : decode cX9_readExpression 87 = .ok (.bipush (-27), 2) := by decide +kernel
theorem dX9_readExpression_89 : decode cX9_readExpression 89 = .ok (.invokevirtual 239, 3) := by decide +kernel
theorem dX9_readExpression_92 : decode cX9_readExpression 92 = .ok (.goto (-25), 3) := by decide +kernel
theorem dX9_readExpression_95 : decode cX9_readExpression 95 = .ok (.return_, 1) := by decide +kernel
set_option maxRecDepth 20000 in
theorem ggX9_another_X9_wrong : GoodIn wsX9_another wsX9_wrong := goodIn_r _ [7, 2, 8, 9, 38, 39, 40, 41, 42, 43, 44, 45, 46, 47, 48, 49, 50, 51, 52, 53, 54, 55, 56, 57, 58, 59, 60, 61, 62, 63, 64, 65, 66, 67, 68, 69, 70, 71, 72, 73, 74, 75, 76, 77, 78, 79, 80, 81, 82, 83, 84, 85, 86, 87, 88, 89, 90, 91, 92, 93, 94, 95, 96, 97, 98, 99, 100] (by decide +kernel) (by decide +kernel)
set_option maxRecDepth 20000 in
theorem gX9_another_X9_wrong : GoodIn wsX9_another (wsV RX9 222 RX9 yX9_wrong wsX9_wrong) := goodIn_app (goodIn_of _ (by decide +kernel)) ggX9_another_X9_wrong
set_option maxRecDepth 20000 in
theorem ggX9_another_X9_stepOn : GoodIn wsX9_another wsX9_stepOn := goodIn_r _ [13, 14, 8, 15, 16, 17, 18, 19, 20, 21, 22, 23, 24, 25, 6, 26, 27, 28, 29, 30, 31, 32, 33, 34, 35, 36, 37, 38, 39, 40, 41, 42, 43, 44, 45, 46, 47, 48, 49, 50, 51, 52, 53, 54, 55, 56, 57, 58, 59, 60, 61, 62, 63, 64, 65, 66, 67, 68, 69, 70, 71, 72, 73, 74, 75, 76, 77, 78, 79, 80, 81, 82, 83, 84, 85, 86, 87, 88, 89, 90, 91, 92, 93, 94, 95, 96, 97, 98, 99, 100] (by decide +kernel) (by decide +kernel)
set_option maxRecDepth 20000 in
theorem gX9_another_X9_stepOn : GoodIn wsX9_another (wsV RX9 226 RX9 yX9_stepOn wsX9_stepOn) := goodIn_app (goodIn_of _ (by decide +kernel)) ggX9_another_X9_stepOn
theorem dX9_another_0 : decode cX9_another 0 = .ok (.aload_n 0, 1) := by decide +kernel
theorem dX9_another_1 : decode cX9_another 1 = .ok (.getfield 50, 3) := by decide +kernel
theorem dX9_another_4 : decode cX9_another 4 = .ok (.bipush 7, 2) := by decide +kernel
theorem dX9_another_6 : decode cX9_another 6 = .ok (.iload_n 1, 1) := by decide +kernel
theorem dX9_another_7 : decode cX9_another 7 = .ok (.iadd, 1) := by decide +kernel
theorem dX9_another_8 : decode cX9_another 8 = .ok (.iaload, 1) := by decide +kernel
theorem dX9_another_9 : decode cX9_another 9 = .ok (.iload_n 2, 1) := by decide +kernel
theorem dX9_another_10 : decode cX9_another 10 = .ok (.if_icmp .ne 8, 3) := by decide +kernel
theorem dX9_another_13 : decode cX9_another 13 = .ok (.aload_n 0, 1) := by decide +kernel
theorem dX9_another_14 : decode cX9_another 14 = .ok (.iconst 2, 1) := by decide +kernel
theorem dX9_another_15 : decode cX9_another 15 = .ok (.invokevirtual 222, 3) := by decide +kernel
theorem dX9_another_18 : decode cX9_another 18 = .ok (.aload_n 0, 1) := by decide +kernel
theorem dX9_another_19 : decode cX9_another 19 = .ok (.getfield 201, 3) := by decide +kernel
theorem dX9_another_22 : decode cX9_another 22 = .ok (.ifCond .eq 5, 3) := by decide +kernel
theorem dX9_another_25 : decode cX9_another 25 = .ok (.iconst 0, 1) := by decide +kernel
theorem dX9_another_26 : decode cX9_another 26 = .ok (.ireturn, 1) := by decide +kernel
theorem dX9_another_27 : decode cX9_another 27 = .ok (.aload_n 0, 1) := by decide +kernel
theorem dX9_another_28 : decode cX9_another 28 = .ok (.invokevirtual 226, 3) := by decide +kernel
theorem dX9_another_31 : decode cX9_another 31 = .ok (.iconst 1, 1) := by decide +kernel
theorem dX9_another_32 : decode cX9_another 32 = .ok (.ireturn, 1) := by decide +kernel
set_option maxRecDepth 20000 in
theorem ggX9_sayAlderman_X9_another : GoodIn wsX9_sayAlderman wsX9_another := goodIn_r _ [8, 1, 9, 10, 11, 12, 7, 13, 14, 15, 16, 17, 18, 19, 20, 21, 22, 23, 24, 25, 26, 27, 28, 29, 30, 31, 32, 33, 34, 35, 36, 37, 38, 39, 40, 41, 42, 43, 60, 61, 62, 63, 64, 65, 66, 67, 68, 69, 70, 71, 72, 73, 74, 75, 76, 77, 78, 79, 80, 81, 82, 83, 84, 85, 86, 87, 88, 89, 90, 91, 92, 93, 94, 95, 96, 97, 98, 99, 100, 101, 102, 103, 104, 105, 106, 107, 108, 109, 110, 111, 112, 113, 114, 115, 116, 117, 118, 119, 120, 121, 122] (by decide +kernel) (by decide +kernel)
set_option maxRecDepth 20000 in
theorem gX9_sayAlderman_X9_another : GoodIn wsX9_sayAlderman (wsV RX9 273 RX9 yX9_another wsX9_another) := goodIn_app (goodIn_of _ (by decide +kernel)) ggX9_sayAlderman_X9_another
set_option maxRecDepth 20000 in
theorem ggX9_sayAlderman_X9_readSigned : GoodIn wsX9_sayAlderman wsX9_readSigned := goodIn_r _ [47, 48, 49, 50, 7, 51, 9, 21, 34, 14, 16, 17, 18, 19, 20, 22, 23, 24, 25, 26, 27, 28, 29, 30, 31, 32, 33, 35, 36, 37, 38, 39, 40, 41, 42, 43, 52, 53, 54, 55, 56, 57, 58, 59, 10, 11, 12, 13, 15, 60, 61, 62, 63, 64, 65, 66, 67, 68, 69, 70, 71, 72, 73, 74, 75, 76, 77, 78, 79, 80, 81, 82, 83, 84, 85, 86, 87, 88, 89, 90, 91, 92, 93, 94, 95, 96, 97, 98, 99, 100, 101, 102, 103, 104, 105, 106, 107, 108, 109, 110, 111, 112, 113, 114, 115, 116, 117, 118, 119, 120, 121, 122] (by decide +kernel) (by decide +kernel)
set_option maxRecDepth 20000 in
theorem gX9_sayAlderman_X9_readSigned : GoodIn wsX9_sayAlderman (wsV RX9 277 RX9 yX9_readSigned wsX9_readSigned) := goodIn_app (goodIn_of _ (by decide +kernel)) ggX9_sayAlderman_X9_readSigned
set_option maxRecDepth 20000 in
theorem ggX9_sayAlderman_X9_readNumber : GoodIn wsX9_sayAlderman wsX9_readNumber := goodIn_r _ [55, 9, 56, 57, 58, 7, 59, 21, 28, 14, 22, 10, 11, 12, 13, 15, 16, 17, 18, 19, 20, 23, 24, 25, 26, 27, 29, 30, 31, 32, 33, 34, 35, 36, 37, 38, 39, 40, 41, 42, 43, 60, 61, 62, 63, 64, 65, 66, 67, 68, 69, 70, 71, 72, 73, 74, 75, 76, 77, 78, 79, 80, 81, 82, 83, 84, 85, 86, 87, 88, 89, 90, 91, 92, 93, 94, 95, 96, 97, 98, 99, 100, 101, 102, 103, 104, 105, 106, 107, 108, 109, 110, 111, 112, 113, 114, 115, 116, 117, 118, 119, 120, 121, 122] (by decide +kernel) (by decide +kernel)
set_option maxRecDepth 20000 in
theorem gX9_sayAlderman_X9_readNumber : GoodIn wsX9_sayAlderman (wsV RX9 232 RX9 yX9_readNumber wsX9_readNumber) := goodIn_app (goodIn_of _ (by decide +kernel)) ggX9_sayAlderman_X9_readNumber
theorem dX9_sayAlderman_0 : decode cX9_sayAlderman 0 = .ok (.aload_n 0, 1) := by decide +kernel
theorem dX9_sayAlderman_1 : decode cX9_sayAlderman 1 = .ok (.iconst 3, 1) := by decide +kernel
theorem dX9_sayAlderman_2 : decode cX9_sayAlderman 2 = .ok (.bipush 7, 2) := by decide +kernel
theorem dX9_sayAlderman_4 : decode cX9_sayAlderman 4 = .ok (.invokevirtual 273, 3) := by decide +kernel
theorem dX9_sayAlderman_7 : decode cX9_sayAlderman 7 = .ok (.ifCond .ne 4, 3) := by decide +kernel
theorem dX9_sayAlderman_10 : decode cX9_sayAlderman 10 = .ok (.return_, 1) := by decide +kernel
theorem dX9_sayAlderman_11 : decode cX9_sayAlderman 11 = .ok (.bipush 7, 2) := by decide +kernel
theorem dX9_sayAlderman_13 : decode cX9_sayAlderman 13 = .ok (.aload_n 0, 1) := by decide +kernel
theorem dX9_sayAlderman_14 : decode cX9_sayAlderman 14 = .ok (.getfield 50, 3) := by decide +kernel
theorem dX9_sayAlderman_17 : decode cX9_sayAlderman 17 = .ok (.bipush 10, 2) := by decide +kernel
theorem dX9_sayAlderman_19 : decode cX9_sayAlderman 19 = .ok (.iaload, 1) := by decide +kernel
theorem dX9_sayAlderman_20 : decode cX9_sayAlderman 20 = .ok (.iadd, 1) := by decide +kernel
theorem dX9_sayAlderman_21 : decode cX9_sayAlderman 21 = .ok (.istore_n 1, 1) := by decide +kernel
theorem dX9_sayAlderman_22 : decode cX9_sayAlderman 22 = .ok (.aload_n 0, 1) := by decide +kernel
theorem dX9_sayAlderman_23 : decode cX9_sayAlderman 23 = .ok (.getfield 54, 3) := by decide +kernel
theorem dX9_sayAlderman_26 : decode cX9_sayAlderman 26 = .ok (.iload_n 1, 1) := by decide +kernel
theorem dX9_sayAlderman_27 : decode cX9_sayAlderman 27 = .ok (.aload_n 0, 1) := by decide +kernel
theorem dX9_sayAlderman_28 : decode cX9_sayAlderman 28 = .ok (.bipush 9, 2) := by decide +kernel
theorem dX9_sayAlderman_30 : decode cX9_sayAlderman 30 = .ok (.invokevirtual 277, 3) := by decide +kernel
theorem dX9_sayAlderman_33 : decode cX9_sayAlderman 33 = .ok (.iastore, 1) := by decide +kernel
theorem dX9_sayAlderman_34 : decode cX9_sayAlderman 34 = .ok (.aload_n 0, 1) := by decide +kernel
theorem dX9_sayAlderman_35 : decode cX9_sayAlderman 35 = .ok (.getfield 57, 3) := by decide +kernel
theorem dX9_sayAlderman_38 : decode cX9_sayAlderman 38 = .ok (.iload_n 1, 1) := by decide +kernel
theorem dX9_sayAlderman_39 : decode cX9_sayAlderman 39 = .ok (.aload_n 0, 1) := by decide +kernel
theorem dX9_sayAlderman_40 : decode cX9_sayAlderman 40 = .ok (.iconst 0, 1) := by decide +kernel
theorem dX9_sayAlderman_41 : decode cX9_sayAlderman 41 = .ok (.bipush 9, 2) := by decide +kernel
theorem dX9_sayAlderman_43 : decode cX9_sayAlderman 43 = .ok (.invokevirtual 232, 3) := by decide +kernel
theorem dX9_sayAlderman_46 : decode cX9_sayAlderman 46 = .ok (.iastore, 1) := by decide +kernel
theorem dX9_sayAlderman_47 : decode cX9_sayAlderman 47 = .ok (.aload_n 0, 1) := by decide +kernel
theorem dX9_sayAlderman_48 : decode cX9_sayAlderman 48 = .ok (.getfield 50, 3) := by decide +kernel
theorem dX9_sayAlderman_51 : decode cX9_sayAlderman 51 = .ok (.bipush 10, 2) := by decide +kernel
theorem dX9_sayAlderman_53 : decode cX9_sayAlderman 53 = .ok (.dup2, 1) := by decide +kernel
theorem dX9_sayAlderman_54 : decode cX9_sayAlderman 54 = .ok (.iaload, 1) := by decide +kernel
theorem dX9_sayAlderman_55 : decode cX9_sayAlderman 55 = .ok (.iconst 1, 1) := by decide +kernel
theorem dX9_sayAlderman_56 : decode cX9_sayAlderman 56 = .ok (.iadd, 1) := by decide +kernel
theorem dX9_sayAlderman_57 : decode cX9_sayAlderman 57 = .ok (.iastore, 1) := by decide +kernel
theorem dX9_sayAlderman_58 : decode cX9_sayAlderman 58 = .ok (.return_, 1) := by decide +kernel
set_option maxRecDepth 20000 in
theorem ggX9_sayMotion_X9_another : GoodIn wsX9_sayMotion wsX9_another := goodIn_r _ [12, 1, 7, 13, 14, 15, 11, 16, 17, 18, 19, 20, 21, 22, 23, 24, 25, 26, 27, 28, 29, 30, 31, 32, 33, 34, 35, 36, 37, 38, 39, 40, 41, 42, 43, 44, 45, 46, 116, 117, 118, 119, 120, 121, 122, 123, 124, 125, 126, 127, 128, 129, 130, 131, 132, 133, 134, 135, 136, 137, 138, 139, 140, 141, 142, 143, 144, 145, 146, 147, 148, 149, 150, 151, 152, 153, 154, 155, 156, 157, 158, 159, 160, 161, 162, 163, 164, 165, 166, 167, 168, 169, 170, 171, 172, 173, 174, 175, 176, 177, 178] (by decide +kernel) (by decide +kernel)
set_option maxRecDepth 20000 in
theorem gX9_sayMotion_X9_another : GoodIn wsX9_sayMotion (wsV RX9 273 RX9 yX9_another wsX9_another) := goodIn_app (goodIn_of _ (by decide +kernel)) ggX9_sayMotion_X9_another
set_option maxRecDepth 20000 in
theorem ggX9_sayMotion_X9_readNumber : GoodIn wsX9_sayMotion wsX9_readNumber := goodIn_r _ [50, 7, 51, 52, 53, 11, 54, 24, 31, 17, 25, 13, 14, 15, 16, 18, 19, 20, 21, 22, 23, 26, 27, 28, 29, 30, 32, 33, 34, 35, 36, 37, 38, 39, 40, 41, 42, 43, 44, 45, 46, 116, 117, 118, 119, 120, 121, 122, 123, 124, 125, 126, 127, 128, 129, 130, 131, 132, 133, 134, 135, 136, 137, 138, 139, 140, 141, 142, 143, 144, 145, 146, 147, 148, 149, 150, 151, 152, 153, 154, 155, 156, 157, 158, 159, 160, 161, 162, 163, 164, 165, 166, 167, 168, 169, 170, 171, 172, 173, 174, 175, 176, 177, 178] (by decide +kernel) (by decide +kernel)
set_option maxRecDepth 20000 in
theorem gX9_sayMotion_X9_readNumber : GoodIn wsX9_sayMotion (wsV RX9 232 RX9 yX9_readNumber wsX9_readNumber) := goodIn_app (goodIn_of _ (by decide +kernel)) ggX9_sayMotion_X9_readNumber
set_option maxRecDepth 20000 in
theorem ggX9_sayMotion_X9_readSigned : GoodIn wsX9_sayMotion wsX9_readSigned := goodIn_r _ [58, 59, 60, 61, 11, 62, 7, 24, 37, 17, 19, 20, 21, 22, 23, 25, 26, 27, 28, 29, 30, 31, 32, 33, 34, 35, 36, 38, 39, 40, 41, 42, 43, 44, 45, 46, 47, 48, 49, 50, 51, 52, 53, 54, 13, 14, 15, 16, 18, 116, 117, 118, 119, 120, 121, 122, 123, 124, 125, 126, 127, 128, 129, 130, 131, 132, 133, 134, 135, 136, 137, 138, 139, 140, 141, 142, 143, 144, 145, 146, 147, 148, 149, 150, 151, 152, 153, 154, 155, 156, 157, 158, 159, 160, 161, 162, 163, 164, 165, 166, 167, 168, 169, 170, 171, 172, 173, 174, 175, 176, 177, 178] (by decide +kernel) (by decide +kernel)
set_option maxRecDepth 20000 in
theorem gX9_sayMotion_X9_readSigned : GoodIn wsX9_sayMotion (wsV RX9 277 RX9 yX9_readSigned wsX9_readSigned) := goodIn_app (goodIn_of _ (by decide +kernel)) ggX9_sayMotion_X9_readSigned
set_option maxRecDepth 20000 in
theorem ggX9_sayMotion_X9_is : GoodIn wsX9_sayMotion wsX9_is := goodIn_r _ [66, 7, 24, 31, 17, 37, 67, 68, 69, 70, 71, 72, 73, 74, 75, 76, 77, 78, 79, 80, 81, 82, 83, 84, 85, 86, 87, 88, 89, 90, 91, 92, 93, 94, 95, 96, 97, 98, 99, 100, 101, 102, 103, 104, 105, 106, 107, 108, 109, 110, 111, 112, 113, 114, 115, 116, 117, 118, 119, 120, 121, 122, 123, 124, 125, 126, 127, 128, 129, 130, 131, 132, 133, 134, 135, 136, 137, 138, 139, 140, 141, 142, 143, 144, 145, 146, 147, 148, 149, 150, 151, 152, 153, 154, 155, 156, 157, 158, 159, 160, 161, 162, 163, 164, 165, 166, 167, 168, 169, 170, 171, 172, 173, 174, 175, 176, 177, 178] (by decide +kernel) (by decide +kernel)
set_option maxRecDepth 20000 in
theorem gX9_sayMotion_X9_is : GoodIn wsX9_sayMotion (wsV RX9 215 RX9 yX9_is wsX9_is) := goodIn_app (goodIn_of _ (by decide +kernel)) ggX9_sayMotion_X9_is
set_option maxRecDepth 20000 in
theorem ggX9_sayMotion_X9_stepOn : GoodIn wsX9_sayMotion wsX9_stepOn := goodIn_r _ [22, 23, 17, 24, 25, 26, 27, 28, 29, 30, 31, 32, 33, 34, 11, 35, 36, 37, 38, 39, 40, 41, 42, 43, 44, 45, 46, 116, 117, 118, 119, 120, 121, 122, 123, 124, 125, 126, 127, 128, 129, 130, 131, 132, 133, 134, 135, 136, 137, 138, 139, 140, 141, 142, 143, 144, 145, 146, 147, 148, 149, 150, 151, 152, 153, 154, 155, 156, 157, 158, 159, 160, 161, 162, 163, 164, 165, 166, 167, 168, 169, 170, 171, 172, 173, 174, 175, 176, 177, 178] (by decide +kernel) (by decide +kernel)
set_option maxRecDepth 20000 in
theorem gX9_sayMotion_X9_stepOn : GoodIn wsX9_sayMotion (wsV RX9 226 RX9 yX9_stepOn wsX9_stepOn) := goodIn_app (goodIn_of _ (by decide +kernel)) ggX9_sayMotion_X9_stepOn
set_option maxRecDepth 20000 in
theorem ggX9_sayMotion_X9_numberNow : GoodIn wsX9_sayMotion wsX9_numberNow := goodIn_r _ [54, 7, 24, 31, 17, 25, 13, 14, 15, 11, 16, 18, 116, 117, 118, 119, 120, 121, 122, 123, 124, 125, 126, 127, 128, 129, 130, 131, 132, 133, 134, 135, 136, 137, 138, 139, 140, 141, 142, 143, 144, 145, 146, 147, 148, 149, 150, 151, 152, 153, 154, 155, 156, 157, 158, 159, 160, 161, 162, 163, 164, 165, 166, 167, 168, 169, 170, 171, 172, 173, 174, 175, 176, 177, 178] (by decide +kernel) (by decide +kernel)
set_option maxRecDepth 20000 in
theorem gX9_sayMotion_X9_numberNow : GoodIn wsX9_sayMotion (wsV RX9 229 RX9 yX9_numberNow wsX9_numberNow) := goodIn_app (goodIn_of _ (by decide +kernel)) ggX9_sayMotion_X9_numberNow
set_option maxRecDepth 20000 in
theorem ggX9_sayMotion_X9_wrong : GoodIn wsX9_sayMotion wsX9_wrong := goodIn_r _ [16, 7, 17, 18, 116, 117, 118, 119, 120, 121, 122, 123, 124, 125, 126, 127, 128, 129, 130, 131, 132, 133, 134, 135, 136, 137, 138, 139, 140, 141, 142, 143, 144, 145, 146, 147, 148, 149, 150, 151, 152, 153, 154, 155, 156, 157, 158, 159, 160, 161, 162, 163, 164, 165, 166, 167, 168, 169, 170, 171, 172, 173, 174, 175, 176, 177, 178] (by decide +kernel) (by decide +kernel)
set_option maxRecDepth 20000 in
theorem gX9_sayMotion_X9_wrong : GoodIn wsX9_sayMotion (wsV RX9 222 RX9 yX9_wrong wsX9_wrong) := goodIn_app (goodIn_of _ (by decide +kernel)) ggX9_sayMotion_X9_wrong
theorem dX9_sayMotion_0 : decode cX9_sayMotion 0 = .ok (.aload_n 0, 1) := by decide +kernel
theorem dX9_sayMotion_1 : decode cX9_sayMotion 1 = .ok (.iconst 4, 1) := by decide +kernel
theorem dX9_sayMotion_2 : decode cX9_sayMotion 2 = .ok (.bipush 10, 2) := by decide +kernel
theorem dX9_sayMotion_4 : decode cX9_sayMotion 4 = .ok (.invokevirtual 273, 3) := by decide +kernel
theorem dX9_sayMotion_7 : decode cX9_sayMotion 7 = .ok (.ifCond .ne 4, 3) := by decide +kernel
theorem dX9_sayMotion_10 : decode cX9_sayMotion 10 = .ok (.return_, 1) := by decide +kernel
theorem dX9_sayMotion_11 : decode cX9_sayMotion 11 = .ok (.bipush 10, 2) := by decide +kernel
theorem dX9_sayMotion_13 : decode cX9_sayMotion 13 = .ok (.aload_n 0, 1) := by decide +kernel
theorem dX9_sayMotion_14 : decode cX9_sayMotion 14 = .ok (.getfield 50, 3) := by decide +kernel
theorem dX9_sayMotion_17 : decode cX9_sayMotion 17 = .ok (.bipush 11, 2) := by decide +kernel
theorem dX9_sayMotion_19 : decode cX9_sayMotion 19 = .ok (.iaload, 1) := by decide +kernel
theorem dX9_sayMotion_20 : decode cX9_sayMotion 20 = .ok (.iadd, 1) := by decide +kernel
theorem dX9_sayMotion_21 : decode cX9_sayMotion 21 = .ok (.istore_n 2, 1) := by decide +kernel
theorem dX9_sayMotion_22 : decode cX9_sayMotion 22 = .ok (.aload_n 0, 1) := by decide +kernel
theorem dX9_sayMotion_23 : decode cX9_sayMotion 23 = .ok (.getfield 60, 3) := by decide +kernel
theorem dX9_sayMotion_26 : decode cX9_sayMotion 26 = .ok (.iload_n 2, 1) := by decide +kernel
theorem dX9_sayMotion_27 : decode cX9_sayMotion 27 = .ok (.iload_n 1, 1) := by decide +kernel
theorem dX9_sayMotion_28 : decode cX9_sayMotion 28 = .ok (.iastore, 1) := by decide +kernel
theorem dX9_sayMotion_29 : decode cX9_sayMotion 29 = .ok (.aload_n 0, 1) := by decide +kernel
theorem dX9_sayMotion_30 : decode cX9_sayMotion 30 = .ok (.getfield 62, 3) := by decide +kernel
theorem dX9_sayMotion_33 : decode cX9_sayMotion 33 = .ok (.iload_n 2, 1) := by decide +kernel
theorem dX9_sayMotion_34 : decode cX9_sayMotion 34 = .ok (.aload_n 0, 1) := by decide +kernel
theorem dX9_sayMotion_35 : decode cX9_sayMotion 35 = .ok (.iconst 0, 1) := by decide +kernel
theorem dX9_sayMotion_36 : decode cX9_sayMotion 36 = .ok (.bipush 24, 2) := by decide +kernel
theorem dX9_sayMotion_38 : decode cX9_sayMotion 38 = .ok (.invokevirtual 232, 3) := by decide +kernel
theorem dX9_sayMotion_41 : decode cX9_sayMotion 41 = .ok (.iastore, 1) := by decide +kernel
theorem dX9_sayMotion_42 : decode cX9_sayMotion 42 = .ok (.aload_n 0, 1) := by decide +kernel
theorem dX9_sayMotion_43 : decode cX9_sayMotion 43 = .ok (.getfield 65, 3) := by decide +kernel
theorem dX9_sayMotion_46 : decode cX9_sayMotion 46 = .ok (.iload_n 2, 1) := by decide +kernel
theorem dX9_sayMotion_47 : decode cX9_sayMotion 47 = .ok (.aload_n 0, 1) := by decide +kernel
theorem dX9_sayMotion_48 : decode cX9_sayMotion 48 = .ok (.iconst 0, 1) := by decide +kernel
theorem dX9_sayMotion_49 : decode cX9_sayMotion 49 = .ok (.bipush 99, 2) := by decide +kernel
theorem dX9_sayMotion_51 : decode cX9_sayMotion 51 = .ok (.invokevirtual 232, 3) := by decide +kernel
theorem dX9_sayMotion_54 : decode cX9_sayMotion 54 = .ok (.iastore, 1) := by decide +kernel
theorem dX9_sayMotion_55 : decode cX9_sayMotion 55 = .ok (.aload_n 0, 1) := by decide +kernel
theorem dX9_sayMotion_56 : decode cX9_sayMotion 56 = .ok (.getfield 67, 3) := by decide +kernel
theorem dX9_sayMotion_59 : decode cX9_sayMotion 59 = .ok (.iload_n 2, 1) := by decide +kernel
theorem dX9_sayMotion_60 : decode cX9_sayMotion 60 = .ok (.aload_n 0, 1) := by decide +kernel
theorem dX9_sayMotion_61 : decode cX9_sayMotion 61 = .ok (.bipush 9, 2) := by decide +kernel
theorem dX9_sayMotion_63 : decode cX9_sayMotion 63 = .ok (.invokevirtual 277, 3) := by decide +kernel
theorem dX9_sayMotion_66 : decode cX9_sayMotion 66 = .ok (.iastore, 1) := by decide +kernel
theorem dX9_sayMotion_67 : decode cX9_sayMotion 67 = .ok (.aload_n 0, 1) := by decide +kernel
theorem dX9_sayMotion_68 : decode cX9_sayMotion 68 = .ok (.getfield 70, 3) := by decide +kernel
theorem dX9_sayMotion_71 : decode cX9_sayMotion 71 = .ok (.iload_n 2, 1) := by decide +kernel
theorem dX9_sayMotion_72 : decode cX9_sayMotion 72 = .ok (.iconst (-1), 1) := by decide +kernel
theorem dX9_sayMotion_73 : decode cX9_sayMotion 73 = .ok (.iastore, 1) := by decide +kernel
theorem dX9_sayMotion_74 : decode cX9_sayMotion 74 = .ok (.aload_n 0, 1) := by decide +kernel
theorem dX9_sayMotion_75 : decode cX9_sayMotion 75 = .ok (.ldc_w 280, 3) := by decide +kernel
theorem dX9_sayMotion_78 : decode cX9_sayMotion 78 = .ok (.invokevirtual 215, 3) := by decide +kernel
theorem dX9_sayMotion_81 : decode cX9_sayMotion 81 = .ok (.ifCond .eq 57, 3) := by decide +kernel
theorem dX9_sayMotion_84 : decode cX9_sayMotion 84 = .ok (.aload_n 0, 1) := by decide +kernel
theorem dX9_sayMotion_85 : decode cX9_sayMotion 85 = .ok (.invokevirtual 226, 3) := by decide +kernel
theorem dX9_sayMotion_88 : decode cX9_sayMotion 88 = .ok (.aload_n 0, 1) := by decide +kernel
theorem dX9_sayMotion_89 : decode cX9_sayMotion 89 = .ok (.iconst 0, 1) := by decide +kernel
theorem dX9_sayMotion_90 : decode cX9_sayMotion 90 = .ok (.sipush 9999, 3) := by decide +kernel
theorem dX9_sayMotion_93 : decode cX9_sayMotion 93 = .ok (.invokevirtual 229, 3) := by decide +kernel
theorem dX9_sayMotion_96 : decode cX9_sayMotion 96 = .ok (.istore_n 3, 1) := by decide +kernel
theorem dX9_sayMotion_97 : decode cX9_sayMotion 97 = .ok (.aload_n 0, 1) := by decide +kernel
theorem dX9_sayMotion_98 : decode cX9_sayMotion 98 = .ok (.getfield 201, 3) := by decide +kernel
theorem dX9_sayMotion_101 : decode cX9_sayMotion 101 = .ok (.ifCond .ne 19, 3) := by decide +kernel
theorem dX9_sayMotion_104 : decode cX9_sayMotion 104 = .ok (.iload_n 3, 1) := by decide +kernel
theorem dX9_sayMotion_105 : decode cX9_sayMotion 105 = .ok (.aload_n 0, 1) := by decide +kernel
theorem dX9_sayMotion_106 : decode cX9_sayMotion 106 = .ok (.getfield 50, 3) := by decide +kernel
theorem dX9_sayMotion_109 : decode cX9_sayMotion 109 = .ok (.bipush 11, 2) := by decide +kernel
theorem dX9_sayMotion_111 : decode cX9_sayMotion 111 = .ok (.iaload, 1) := by decide +kernel
theorem dX9_sayMotion_112 : decode cX9_sayMotion 112 = .ok (.if_icmp .lt 8, 3) := by decide +kernel
theorem dX9_sayMotion_115 : decode cX9_sayMotion 115 = .ok (.aload_n 0, 1) := by decide +kernel
theorem dX9_sayMotion_116 : decode cX9_sayMotion 116 = .ok (.iconst 3, 1) := by decide +kernel
theorem dX9_sayMotion_117 : decode cX9_sayMotion 117 = .ok (.invokevirtual 222, 3) := by decide +kernel
theorem dX9_sayMotion_120 : decode cX9_sayMotion 120 = .ok (.aload_n 0, 1) := by decide +kernel
theorem dX9_sayMotion_121 : decode cX9_sayMotion 121 = .ok (.getfield 201, 3) := by decide +kernel
theorem dX9_sayMotion_124 : decode cX9_sayMotion 124 = .ok (.ifCond .ne 7, 3) := by decide +kernel
theorem dX9_sayMotion_127 : decode cX9_sayMotion 127 = .ok (.aload_n 0, 1) := by decide +kernel
theorem dX9_sayMotion_128 : decode cX9_sayMotion 128 = .ok (.invokevirtual 226, 3) := by decide +kernel
theorem dX9_sayMotion_131 : decode cX9_sayMotion 131 = .ok (.aload_n 0, 1) := by decide +kernel
theorem dX9_sayMotion_132 : decode cX9_sayMotion 132 = .ok (.getfield 70, 3) := by decide +kernel
theorem dX9_sayMotion_135 : decode cX9_sayMotion 135 = .ok (.iload_n 2, 1) := by decide +kernel
theorem dX9_sayMotion_136 : decode cX9_sayMotion 136 = .ok (.iload_n 3, 1) := by decide +kernel
theorem dX9_sayMotion_137 : decode cX9_sayMotion 137 = .ok (.iastore, 1) := by decide +kernel
theorem dX9_sayMotion_138 : decode cX9_sayMotion 138 = .ok (.aload_n 0, 1) := by decide +kernel
theorem dX9_sayMotion_139 : decode cX9_sayMotion 139 = .ok (.getfield 50, 3) := by decide +kernel
theorem dX9_sayMotion_142 : decode cX9_sayMotion 142 = .ok (.bipush 11, 2) := by decide +kernel
theorem dX9_sayMotion_144 : decode cX9_sayMotion 144 = .ok (.dup2, 1) := by decide +kernel
theorem dX9_sayMotion_145 : decode cX9_sayMotion 145 = .ok (.iaload, 1) := by decide +kernel
theorem dX9_sayMotion_146 : decode cX9_sayMotion 146 = .ok (.iconst 1, 1) := by decide +kernel
theorem dX9_sayMotion_147 : decode cX9_sayMotion 147 = .ok (.iadd, 1) := by decide +kernel
theorem dX9_sayMotion_148 : decode cX9_sayMotion 148 = .ok (.iastore, 1) := by decide +kernel
theorem dX9_sayMotion_149 : decode cX9_sayMotion 149 = .ok (.return_, 1) := by decide +kernel
set_option maxRecDepth 20000 in
theorem ggX9_sayRule_X9_readExpression : GoodIn wsX9_sayRule wsX9_readExpression := goodIn_r _ [9, 10, 11, 12, 13, 14, 8, 15, 16, 17, 18, 19, 20, 21, 22, 23, 24, 25, 26, 27, 28, 29, 30, 31, 32, 33, 34, 35, 36, 37, 38, 39, 40, 41, 42, 43, 44, 45, 46, 47, 48, 49, 50, 51, 52, 53, 54, 55, 56, 57, 58, 59, 60, 61, 62, 63, 64, 65, 66, 67, 68, 69, 70, 71, 72, 73, 74, 75, 76, 77, 78, 79, 80, 81, 82, 83, 84, 85, 86, 87, 88, 89, 90, 91, 92, 93, 94, 95, 96, 97, 98, 99, 100, 101, 102, 103, 104, 105, 106, 107, 108, 1, 109, 110, 111, 112, 113, 114, 115, 116, 117, 118, 119, 120, 4, 121, 122, 123, 124, 125, 126, 127, 128, 129, 130, 131, 132, 133, 134, 135, 136, 5, 6, 7, 137, 138, 139, 140, 141, 142, 143, 144, 145, 146, 147, 148, 149, 150, 151, 152, 153, 154, 155, 156, 157, 158, 159, 160, 161, 162, 163, 164, 165, 166, 167, 168, 169, 170, 171, 172, 173, 174, 175, 176, 177, 178, 179, 180, 181, 182, 183, 184, 185, 186, 187, 188, 189, 190, 191, 192, 193, 194, 195, 196, 197, 198, 199, 200, 201, 202, 203, 204, 205, 206, 207] (by decide +kernel) (by decide +kernel)
set_option maxRecDepth 20000 in
theorem gX9_sayRule_X9_readExpression : GoodIn wsX9_sayRule (wsV RX9 249 RX9 yX9_readExpression wsX9_readExpression) := goodIn_app (goodIn_of _ (by decide +kernel)) ggX9_sayRule_X9_readExpression
theorem dX9_sayRule_0 : decode cX9_sayRule 0 = .ok (.aload_n 0, 1) := by decide +kernel
theorem dX9_sayRule_1 : decode cX9_sayRule 1 = .ok (.iload_n 1, 1) := by decide +kernel
theorem dX9_sayRule_2 : decode cX9_sayRule 2 = .ok (.putfield 235, 3) := by decide +kernel
theorem dX9_sayRule_5 : decode cX9_sayRule 5 = .ok (.aload_n 0, 1) := by decide +kernel
theorem dX9_sayRule_6 : decode cX9_sayRule 6 = .ok (.iload_n 1, 1) := by decide +kernel
theorem dX9_sayRule_7 : decode cX9_sayRule 7 = .ok (.ifCond .eq 10, 3) := by decide +kernel
theorem dX9_sayRule_10 : decode cX9_sayRule 10 = .ok (.aload_n 0, 1) := by decide +kernel
theorem dX9_sayRule_11 : decode cX9_sayRule 11 = .ok (.getfield 44, 3) := by decide +kernel
theorem dX9_sayRule_14 : decode cX9_sayRule 14 = .ok (.goto 7, 3) := by decide +kernel
theorem dX9_sayRule_17 : decode cX9_sayRule 17 = .ok (.aload_n 0, 1) := by decide +kernel
theorem dX9_sayRule_18 : decode cX9_sayRule 18 = .ok (.getfield 29, 3) := by decide +kernel
theorem dX9_sayRule_21 : decode cX9_sayRule 21 = .ok (.putfield 47, 3) := by decide +kernel
theorem dX9_sayRule_24 : decode cX9_sayRule 24 = .ok (.aload_n 0, 1) := by decide +kernel
theorem dX9_sayRule_25 : decode cX9_sayRule 25 = .ok (.iconst 0, 1) := by decide +kernel
theorem dX9_sayRule_26 : decode cX9_sayRule 26 = .ok (.invokevirtual 249, 3) := by decide +kernel
theorem dX9_sayRule_29 : decode cX9_sayRule 29 = .ok (.return_, 1) := by decide +kernel
set_option maxRecDepth 20000 in
theorem ggX9_readLine_X9_which : GoodIn wsX9_readLine wsX9_which := goodIn_r _ [8, 9, 10, 11, 7, 12, 2, 13, 14, 15, 16, 17, 18, 19, 20, 21, 22, 23, 24, 25, 26, 27, 28, 29, 30, 31, 32, 33, 34, 35, 36, 37, 38, 39, 40, 41, 42, 43, 44, 45, 46, 47, 48, 49, 50, 51, 52, 53, 54, 55, 56, 57, 58, 59, 60, 61, 62, 63, 64, 65, 173, 174, 175, 176, 177, 178, 179, 180, 181, 182, 183, 184, 185, 186, 187, 188, 189, 190, 191, 192, 193, 194, 195, 196, 197, 198, 199, 200, 201, 202, 203, 204, 205, 206, 207, 208, 209, 210, 211, 212, 213, 214, 215, 216, 217, 218, 219, 220, 221, 222, 223, 224, 225, 226, 227, 228, 229, 230, 231, 232, 233, 234, 235] (by decide +kernel) (by decide +kernel)
set_option maxRecDepth 20000 in
theorem gX9_readLine_X9_which : GoodIn wsX9_readLine (wsV RX9 242 RX9 yX9_which wsX9_which) := goodIn_app (goodIn_of _ (by decide +kernel)) ggX9_readLine_X9_which
set_option maxRecDepth 20000 in
theorem ggX9_readLine_X9_is : GoodIn wsX9_readLine wsX9_is := goodIn_r _ [12, 2, 13, 14, 15, 16, 17, 18, 19, 20, 21, 22, 23, 24, 25, 26, 27, 28, 29, 30, 31, 32, 33, 34, 35, 36, 37, 38, 39, 40, 41, 42, 43, 44, 45, 46, 47, 48, 49, 50, 51, 52, 53, 54, 55, 56, 57, 58, 59, 60, 61, 62, 63, 64, 65, 173, 174, 175, 176, 177, 178, 179, 180, 181, 182, 183, 184, 185, 186, 187, 188, 189, 190, 191, 192, 193, 194, 195, 196, 197, 198, 199, 200, 201, 202, 203, 204, 205, 206, 207, 208, 209, 210, 211, 212, 213, 214, 215, 216, 217, 218, 219, 220, 221, 222, 223, 224, 225, 226, 227, 228, 229, 230, 231, 232, 233, 234, 235] (by decide +kernel) (by decide +kernel)
set_option maxRecDepth 20000 in
theorem gX9_readLine_X9_is : GoodIn wsX9_readLine (wsV RX9 215 RX9 yX9_is wsX9_is) := goodIn_app (goodIn_of _ (by decide +kernel)) ggX9_readLine_X9_is
set_option maxRecDepth 20000 in
theorem ggX9_readLine_X9_wrong : GoodIn wsX9_readLine wsX9_wrong := goodIn_r _ [69, 2, 15, 70, 173, 174, 175, 176, 177, 178, 179, 180, 181, 182, 183, 184, 185, 186, 187, 188, 189, 190, 191, 192, 193, 194, 195, 196, 197, 198, 199, 200, 201, 202, 203, 204, 205, 206, 207, 208, 209, 210, 211, 212, 213, 214, 215, 216, 217, 218, 219, 220, 221, 222, 223, 224, 225, 226, 227, 228, 229, 230, 231, 232, 233, 234, 235] (by decide +kernel) (by decide +kernel)
set_option maxRecDepth 20000 in
theorem gX9_readLine_X9_wrong : GoodIn wsX9_readLine (wsV RX9 222 RX9 yX9_wrong wsX9_wrong) := goodIn_app (goodIn_of _ (by decide +kernel)) ggX9_readLine_X9_wrong
set_option maxRecDepth 20000 in
theorem ggX9_readLine_X9_stepOn : GoodIn wsX9_readLine wsX9_stepOn := goodIn_r _ [74, 75, 15, 13, 76, 77, 78, 79, 80, 81, 14, 82, 83, 84, 7, 85, 86, 16, 87, 88, 89, 90, 91, 92, 93, 94, 95, 173, 174, 175, 176, 177, 178, 179, 180, 181, 182, 183, 184, 185, 186, 187, 188, 189, 190, 191, 192, 193, 194, 195, 196, 197, 198, 199, 200, 201, 202, 203, 204, 205, 206, 207, 208, 209, 210, 211, 212, 213, 214, 215, 216, 217, 218, 219, 220, 221, 222, 223, 224, 225, 226, 227, 228, 229, 230, 231, 232, 233, 234, 235] (by decide +kernel) (by decide +kernel)
set_option maxRecDepth 20000 in
theorem gX9_readLine_X9_stepOn : GoodIn wsX9_readLine (wsV RX9 226 RX9 yX9_stepOn wsX9_stepOn) := goodIn_app (goodIn_of _ (by decide +kernel)) ggX9_readLine_X9_stepOn
set_option maxRecDepth 20000 in
theorem ggX9_readLine_X9_readNumber : GoodIn wsX9_readLine wsX9_readNumber := goodIn_r _ [99, 2, 100, 101, 102, 7, 103, 13, 14, 15, 76, 66, 67, 68, 69, 70, 71, 72, 73, 74, 75, 77, 78, 79, 80, 81, 82, 83, 84, 85, 86, 16, 87, 88, 89, 90, 91, 92, 93, 94, 95, 173, 174, 175, 176, 177, 178, 179, 180, 181, 182, 183, 184, 185, 186, 187, 188, 189, 190, 191, 192, 193, 194, 195, 196, 197, 198, 199, 200, 201, 202, 203, 204, 205, 206, 207, 208, 209, 210, 211, 212, 213, 214, 215, 216, 217, 218, 219, 220, 221, 222, 223, 224, 225, 226, 227, 228, 229, 230, 231, 232, 233, 234, 235] (by decide +kernel) (by decide +kernel)
set_option maxRecDepth 20000 in
theorem gX9_readLine_X9_readNumber : GoodIn wsX9_readLine (wsV RX9 232 RX9 yX9_readNumber wsX9_readNumber) := goodIn_app (goodIn_of _ (by decide +kernel)) ggX9_readLine_X9_readNumber
set_option maxRecDepth 20000 in
theorem ggX9_readLine_X9_sayRule : GoodIn wsX9_readLine wsX9_sayRule := goodIn_r _ [107, 108, 109, 110, 111, 112, 113, 114, 7, 115, 2, 13, 116, 117, 118, 119, 16, 15, 66, 67, 68, 69, 70, 120, 121, 122, 9, 10, 11, 12, 14, 17, 18, 19, 20, 21, 22, 23, 24, 25, 26, 27, 28, 29, 30, 31, 32, 33, 34, 35, 36, 37, 38, 39, 40, 41, 42, 43, 44, 45, 46, 47, 48, 49, 50, 51, 52, 53, 54, 55, 56, 57, 58, 59, 60, 61, 62, 63, 64, 65, 71, 72, 73, 74, 75, 76, 77, 78, 79, 80, 81, 82, 83, 84, 85, 86, 87, 88, 89, 90, 91, 92, 93, 94, 95, 123, 124, 125, 126, 127, 128, 3, 129, 130, 131, 132, 133, 134, 135, 136, 137, 96, 97, 98, 99, 100, 101, 102, 103, 4, 5, 6, 8, 138, 139, 140, 141, 142, 143, 144, 145, 146, 147, 148, 149, 173, 174, 175, 176, 177, 178, 179, 180, 181, 182, 183, 184, 185, 186, 187, 188, 189, 190, 191, 192, 193, 194, 195, 196, 197, 198, 199, 200, 201, 202, 203, 204, 205, 206, 207, 208, 209, 210, 211, 212, 213, 214, 215, 216, 217, 218, 219, 220, 221, 222, 223, 224, 225, 226, 227, 228, 229, 230, 231, 232, 233, 234, 235] (by decide +kernel) (by decide +kernel)
set_option maxRecDepth 20000 in
theorem gX9_readLine_X9_sayRule : GoodIn wsX9_readLine (wsV RX9 287 RX9 yX9_sayRule wsX9_sayRule) := goodIn_app (goodIn_of _ (by decide +kernel)) ggX9_readLine_X9_sayRule
set_option maxRecDepth 20000 in
theorem ggX9_readLine_X9_sayMotion : GoodIn wsX9_readLine wsX9_sayMotion := goodIn_r _ [153, 3, 154, 155, 156, 157, 158, 2, 159, 160, 161, 7, 162, 66, 67, 68, 69, 15, 70, 71, 72, 73, 74, 75, 13, 76, 77, 78, 79, 80, 81, 14, 82, 83, 84, 85, 86, 16, 87, 88, 89, 90, 91, 92, 93, 94, 95, 96, 97, 98, 99, 100, 101, 102, 103, 163, 164, 165, 166, 116, 117, 118, 119, 9, 10, 11, 12, 17, 18, 19, 20, 21, 22, 23, 24, 25, 26, 27, 28, 29, 30, 31, 32, 33, 34, 35, 36, 37, 38, 39, 40, 41, 42, 43, 44, 45, 46, 47, 48, 49, 50, 51, 52, 53, 54, 55, 56, 57, 58, 59, 60, 61, 62, 63, 64, 65, 173, 174, 175, 176, 177, 178, 179, 180, 181, 182, 183, 184, 185, 186, 187, 188, 189, 190, 191, 192, 193, 194, 195, 196, 197, 198, 199, 200, 201, 202, 203, 204, 205, 206, 207, 208, 209, 210, 211, 212, 213, 214, 215, 216, 217, 218, 219, 220, 221, 222, 223, 224, 225, 226, 227, 228, 229, 230, 231, 232, 233, 234, 235] (by decide +kernel) (by decide +kernel)
set_option maxRecDepth 20000 in
theorem gX9_readLine_X9_sayMotion : GoodIn wsX9_readLine (wsV RX9 291 RX9 yX9_sayMotion wsX9_sayMotion) := goodIn_app (goodIn_of _ (by decide +kernel)) ggX9_readLine_X9_sayMotion
set_option maxRecDepth 20000 in
theorem ggX9_readLine_X9_sayAlderman : GoodIn wsX9_readLine wsX9_sayAlderman := goodIn_r _ [170, 3, 171, 172, 159, 160, 161, 7, 162, 2, 66, 67, 68, 69, 15, 70, 71, 72, 73, 74, 75, 13, 76, 77, 78, 79, 80, 81, 14, 82, 83, 84, 85, 86, 16, 87, 88, 89, 90, 91, 92, 93, 94, 95, 163, 164, 165, 166, 116, 117, 118, 119, 96, 97, 98, 99, 100, 101, 102, 103, 173, 174, 175, 176, 177, 178, 179, 180, 181, 182, 183, 184, 185, 186, 187, 188, 189, 190, 191, 192, 193, 194, 195, 196, 197, 198, 199, 200, 201, 202, 203, 204, 205, 206, 207, 208, 209, 210, 211, 212, 213, 214, 215, 216, 217, 218, 219, 220, 221, 222, 223, 224, 225, 226, 227, 228, 229, 230, 231, 232, 233, 234, 235] (by decide +kernel) (by decide +kernel)
set_option maxRecDepth 20000 in
theorem gX9_readLine_X9_sayAlderman : GoodIn wsX9_readLine (wsV RX9 296 RX9 yX9_sayAlderman wsX9_sayAlderman) := goodIn_app (goodIn_of _ (by decide +kernel)) ggX9_readLine_X9_sayAlderman
set_option maxRecDepth 20000 in
theorem ggX9_readLine_X9_mark : GoodIn wsX9_readLine wsX9_mark := goodIn_r _ [141, 2, 116, 117, 118, 7, 119, 13, 16, 15, 66, 67, 68, 69, 70, 71, 72, 73, 74, 75, 76, 77, 78, 79, 80, 81, 14, 82, 83, 84, 85, 86, 87, 88, 89, 90, 91, 92, 93, 94, 95, 173, 174, 175, 176, 177, 178, 179, 180, 181, 182, 183, 184, 185, 186, 187, 188, 189, 190, 191, 192, 193, 194, 195, 196, 197, 198, 199, 200, 201, 202, 203, 204, 205, 206, 207, 208, 209, 210, 211, 212, 213, 214, 215, 216, 217, 218, 219, 220, 221, 222, 223, 224, 225, 226, 227, 228, 229, 230, 231, 232, 233, 234, 235] (by decide +kernel) (by decide +kernel)
set_option maxRecDepth 20000 in
theorem gX9_readLine_X9_mark : GoodIn wsX9_readLine (wsV RX9 246 RX9 yX9_mark wsX9_mark) := goodIn_app (goodIn_of _ (by decide +kernel)) ggX9_readLine_X9_mark
theorem dX9_readLine_0 : decode cX9_readLine 0 = .ok (.aload_n 0, 1) := by decide +kernel
theorem dX9_readLine_1 : decode cX9_readLine 1 = .ok (.aload_n 0, 1) := by decide +kernel
theorem dX9_readLine_2 : decode cX9_readLine 2 = .ok (.getfield 17, 3) := by decide +kernel
theorem dX9_readLine_5 : decode cX9_readLine 5 = .ok (.invokevirtual 242, 3) := by decide +kernel
theorem dX9_readLine_8 : decode cX9_readLine 8 = .ok (.istore_n 2, 1) := by decide +kernel
theorem dX9_readLine_9 : decode cX9_readLine 9 = .ok (.aload_n 0, 1) := by decide +kernel
theorem dX9_readLine_10 : decode cX9_readLine 10 = .ok (.ldc_w 281, 3) := by decide +kernel
theorem dX9_readLine_13 : decode cX9_readLine 13 = .ok (.invokevirtual 215, 3) := by decide +kernel
theorem dX9_readLine_16 : decode cX9_readLine 16 = .ok (.ifCond .eq 7, 3) := by decide +kernel
theorem dX9_readLine_19 : decode cX9_readLine 19 = .ok (.iconst 1, 1) := by decide +kernel
theorem dX9_readLine_20 : decode cX9_readLine 20 = .ok (.goto 32, 3) := by decide +kernel
theorem dX9_readLine_23 : decode cX9_readLine 23 = .ok (.aload_n 0, 1) := by decide +kernel
theorem dX9_readLine_24 : decode cX9_readLine 24 = .ok (.ldc_w 283, 3) := by decide +kernel
theorem dX9_readLine_27 : decode cX9_readLine 27 = .ok (.invokevirtual 215, 3) := by decide +kernel
theorem dX9_readLine_30 : decode cX9_readLine 30 = .ok (.ifCond .eq 7, 3) := by decide +kernel
theorem dX9_readLine_33 : decode cX9_readLine 33 = .ok (.iconst 2, 1) := by decide +kernel
theorem dX9_readLine_34 : decode cX9_readLine 34 = .ok (.goto 18, 3) := by decide +kernel
theorem dX9_readLine_37 : decode cX9_readLine 37 = .ok (.aload_n 0, 1) := by decide +kernel
theorem dX9_readLine_38 : decode cX9_readLine 38 = .ok (.ldc_w 285, 3) := by decide +kernel
theorem dX9_readLine_41 : decode cX9_readLine 41 = .ok (.invokevirtual 215, 3) := by decide +kernel
theorem dX9_readLine_44 : decode cX9_readLine 44 = .ok (.ifCond .eq 7, 3) := by decide +kernel
theorem dX9_readLine_47 : decode cX9_readLine 47 = .ok (.iconst 4, 1) := by decide +kernel
theorem dX9_readLine_48 : decode cX9_readLine 48 = .ok (.goto 4, 3) := by decide +kernel
theorem dX9_readLine_51 : decode cX9_readLine 51 = .ok (.iconst 0, 1) := by decide +kernel
theorem dX9_readLine_52 : decode cX9_readLine 52 = .ok (.istore_n 3, 1) := by decide +kernel
theorem dX9_readLine_53 : decode cX9_readLine 53 = .ok (.iload_n 3, 1) := by decide +kernel
theorem dX9_readLine_54 : decode cX9_readLine 54 = .ok (.iload_n 1, 1) := by decide +kernel
theorem dX9_readLine_55 : decode cX9_readLine 55 = .ok (.iand, 1) := by decide +kernel
theorem dX9_readLine_56 : decode cX9_readLine 56 = .ok (.ifCond .eq 8, 3) := by decide +kernel
theorem dX9_readLine_59 : decode cX9_readLine 59 = .ok (.aload_n 0, 1) := by decide +kernel
theorem dX9_readLine_60 : decode cX9_readLine 60 = .ok (.iconst 5, 1) := by decide +kernel
theorem dX9_readLine_61 : decode cX9_readLine 61 = .ok (.invokevirtual 222, 3) := by decide +kernel
theorem dX9_readLine_64 : decode cX9_readLine 64 = .ok (.iload_n 3, 1) := by decide +kernel
theorem dX9_readLine_65 : decode cX9_readLine 65 = .ok (.ifCond .le 82, 3) := by decide +kernel
theorem dX9_readLine_68 : decode cX9_readLine 68 = .ok (.aload_n 0, 1) := by decide +kernel
theorem dX9_readLine_69 : decode cX9_readLine 69 = .ok (.getfield 201, 3) := by decide +kernel
theorem dX9_readLine_72 : decode cX9_readLine 72 = .ok (.ifCond .ne 7, 3) := by decide +kernel
theorem dX9_readLine_75 : decode cX9_readLine 75 = .ok (.aload_n 0, 1) := by decide +kernel
theorem dX9_readLine_76 : decode cX9_readLine 76 = .ok (.invokevirtual 226, 3) := by decide +kernel
theorem dX9_readLine_79 : decode cX9_readLine 79 = .ok (.iload_n 3, 1) := by decide +kernel
theorem dX9_readLine_80 : decode cX9_readLine 80 = .ok (.iconst 1, 1) := by decide +kernel
theorem dX9_readLine_81 : decode cX9_readLine 81 = .ok (.if_icmp .ne 49, 3) := by decide +kernel
theorem dX9_readLine_84 : decode cX9_readLine 84 = .ok (.aload_n 0, 1) := by decide +kernel
theorem dX9_readLine_85 : decode cX9_readLine 85 = .ok (.getfield 50, 3) := by decide +kernel
theorem dX9_readLine_88 : decode cX9_readLine 88 = .ok (.bipush 7, 2) := by decide +kernel
theorem dX9_readLine_90 : decode cX9_readLine 90 = .ok (.aload_n 0, 1) := by decide +kernel
theorem dX9_readLine_91 : decode cX9_readLine 91 = .ok (.iconst 0, 1) := by decide +kernel
theorem dX9_readLine_92 : decode cX9_readLine 92 = .ok (.bipush 99, 2) := by decide +kernel
theorem dX9_readLine_94 : decode cX9_readLine 94 = .ok (.invokevirtual 232, 3) := by decide +kernel
theorem dX9_readLine_97 : decode cX9_readLine 97 = .ok (.iastore, 1) := by decide +kernel
theorem dX9_readLine_98 : decode cX9_readLine 98 = .ok (.aload_n 0, 1) := by decide +kernel
theorem dX9_readLine_99 : decode cX9_readLine 99 = .ok (.getfield 50, 3) := by decide +kernel
theorem dX9_readLine_102 : decode cX9_readLine 102 = .ok (.bipush 8, 2) := by decide +kernel
theorem dX9_readLine_104 : decode cX9_readLine 104 = .ok (.aload_n 0, 1) := by decide +kernel
theorem dX9_readLine_105 : decode cX9_readLine 105 = .ok (.iconst 0, 1) := by decide +kernel
theorem dX9_readLine_106 : decode cX9_readLine 106 = .ok (.bipush 99, 2) := by decide +kernel
theorem dX9_readLine_108 : decode cX9_readLine 108 = .ok (.invokevirtual 232, 3) := by decide +kernel
theorem dX9_readLine_111 : decode cX9_readLine 111 = .ok (.iastore, 1) := by decide +kernel
theorem dX9_readLine_112 : decode cX9_readLine 112 = .ok (.aload_n 0, 1) := by decide +kernel
theorem dX9_readLine_113 : decode cX9_readLine 113 = .ok (.getfield 50, 3) := by decide +kernel
theorem dX9_readLine_116 : decode cX9_readLine 116 = .ok (.bipush 9, 2) := by decide +kernel
theorem dX9_readLine_118 : decode cX9_readLine 118 = .ok (.aload_n 0, 1) := by decide +kernel
theorem dX9_readLine_119 : decode cX9_readLine 119 = .ok (.iconst 0, 1) := by decide +kernel
theorem dX9_readLine_120 : decode cX9_readLine 120 = .ok (.sipush 999, 3) := by decide +kernel
theorem dX9_readLine_123 : decode cX9_readLine 123 = .ok (.invokevirtual 232, 3) := by decide +kernel
theorem dX9_readLine_126 : decode cX9_readLine 126 = .ok (.iastore, 1) := by decide +kernel
theorem dX9_readLine_127 : decode cX9_readLine 127 = .ok (.goto 55, 3) := by decide +kernel
theorem dX9_readLine_130 : decode cX9_readLine 130 = .ok (.aload_n 0, 1) := by decide +kernel
theorem dX9_readLine_131 : decode cX9_readLine 131 = .ok (.iload_n 3, 1) := by decide +kernel
theorem dX9_readLine_132 : decode cX9_readLine 132 = .ok (.iconst 4, 1) := by decide +kernel
theorem dX9_readLine_133 : decode cX9_readLine 133 = .ok (.if_icmp .ne 7, 3) := by decide +kernel
theorem dX9_readLine_136 : decode cX9_readLine 136 = .ok (.iconst 1, 1) := by decide +kernel
theorem dX9_readLine_137 : decode cX9_readLine 137 = .ok (.goto 4, 3) := by decide +kernel
theorem dX9_readLine_140 : decode cX9_readLine 140 = .ok (.iconst 0, 1) := by decide +kernel
theorem dX9_readLine_141 : decode cX9_readLine 141 = .ok (.invokevirtual 287, 3) := by decide +kernel
theorem dX9_readLine_144 : decode cX9_readLine 144 = .ok (.goto 38, 3) := by decide +kernel
theorem dX9_readLine_147 : decode cX9_readLine 147 = .ok (.iload_n 2, 1) := by decide +kernel
theorem dX9_readLine_148 : decode cX9_readLine 148 = .ok (.iconst (-1), 1) := by decide +kernel
theorem dX9_readLine_149 : decode cX9_readLine 149 = .ok (.if_icmp .eq 11, 3) := by decide +kernel
theorem dX9_readLine_152 : decode cX9_readLine 152 = .ok (.aload_n 0, 1) := by decide +kernel
theorem dX9_readLine_153 : decode cX9_readLine 153 = .ok (.iload_n 2, 1) := by decide +kernel
theorem dX9_readLine_154 : decode cX9_readLine 154 = .ok (.invokevirtual 291, 3) := by decide +kernel
theorem dX9_readLine_157 : decode cX9_readLine 157 = .ok (.goto 25, 3) := by decide +kernel
theorem dX9_readLine_160 : decode cX9_readLine 160 = .ok (.aload_n 0, 1) := by decide +kernel
theorem dX9_readLine_161 : decode cX9_readLine 161 = .ok (.ldc_w 294, 3) := by decide +kernel
theorem dX9_readLine_164 : decode cX9_readLine 164 = .ok (.invokevirtual 215, 3) := by decide +kernel
theorem dX9_readLine_167 : decode cX9_readLine 167 = .ok (.ifCond .eq 10, 3) := by decide +kernel
theorem dX9_readLine_170 : decode cX9_readLine 170 = .ok (.aload_n 0, 1) := by decide +kernel
theorem dX9_readLine_171 : decode cX9_readLine 171 = .ok (.invokevirtual 296, 3) := by decide +kernel
theorem dX9_readLine_174 : decode cX9_readLine 174 = .ok (.goto 8, 3) := by decide +kernel
theorem dX9_readLine_177 : decode cX9_readLine 177 = .ok (.aload_n 0, 1) := by decide +kernel
theorem dX9_readLine_178 : decode cX9_readLine 178 = .ok (.iconst 1, 1) := by decide +kernel
theorem dX9_readLine_179 : decode cX9_readLine 179 = .ok (.invokevirtual 222, 3) := by decide +kernel
theorem dX9_readLine_182 : decode cX9_readLine 182 = .ok (.aload_n 0, 1) := by decide +kernel
theorem dX9_readLine_183 : decode cX9_readLine 183 = .ok (.bipush 59, 2) := by decide +kernel
theorem dX9_readLine_185 : decode cX9_readLine 185 = .ok (.invokevirtual 246, 3) := by decide +kernel
theorem dX9_readLine_188 : decode cX9_readLine 188 = .ok (.iload_n 1, 1) := by decide +kernel
theorem dX9_readLine_189 : decode cX9_readLine 189 = .ok (.iload_n 3, 1) := by decide +kernel
theorem dX9_readLine_190 : decode cX9_readLine 190 = .ok (.ior, 1) := by decide +kernel
theorem dX9_readLine_191 : decode cX9_readLine 191 = .ok (.ireturn, 1) := by decide +kernel
set_option maxRecDepth 20000 in
theorem ggX9_borough_X9_fail : GoodIn wsX9_borough wsX9_fail := goodIn_r _ [15, 1, 204, 205, 206, 207, 208, 209, 210, 211, 212, 213, 214, 215, 216, 217, 218, 219, 220, 221, 222, 223, 224, 225, 226, 227, 228, 229, 230, 231, 232, 233, 234, 235, 236, 237, 238, 239, 240, 241, 242, 243, 244, 245, 246, 247, 248, 249, 250, 251, 252, 253, 254, 255, 256, 257, 258, 259, 260, 261, 262, 263, 264, 265, 266] (by decide +kernel) (by decide +kernel)
set_option maxRecDepth 20000 in
theorem gX9_borough_X9_fail : GoodIn wsX9_borough (wsV RX9 299 RX9 yX9_fail wsX9_fail) := goodIn_app (goodIn_of _ (by decide +kernel)) ggX9_borough_X9_fail
set_option maxRecDepth 20000 in
theorem ggX9_borough_X9_stepOn : GoodIn wsX9_borough wsX9_stepOn := goodIn_r _ [19, 4, 20, 8, 21, 22, 23, 24, 25, 26, 27, 28, 29, 30, 14, 31, 3, 32, 33, 34, 35, 36, 37, 38, 39, 40, 41, 204, 205, 206, 207, 208, 209, 210, 211, 212, 213, 214, 215, 216, 217, 218, 219, 220, 221, 222, 223, 224, 225, 226, 227, 228, 229, 230, 231, 232, 233, 234, 235, 236, 237, 238, 239, 240, 241, 242, 243, 244, 245, 246, 247, 248, 249, 250, 251, 252, 253, 254, 255, 256, 257, 258, 259, 260, 261, 262, 263, 264, 265, 266] (by decide +kernel) (by decide +kernel)
set_option maxRecDepth 20000 in
theorem gX9_borough_X9_stepOn : GoodIn wsX9_borough (wsV RX9 226 RX9 yX9_stepOn wsX9_stepOn) := goodIn_app (goodIn_of _ (by decide +kernel)) ggX9_borough_X9_stepOn
set_option maxRecDepth 20000 in
theorem ggX9_borough_X9_readLine : GoodIn wsX9_borough wsX9_readLine := goodIn_r _ [45, 46, 5, 7, 47, 48, 49, 14, 50, 51, 52, 53, 54, 8, 27, 20, 32, 55, 56, 57, 58, 59, 60, 61, 62, 63, 64, 65, 66, 67, 68, 69, 70, 71, 72, 73, 74, 75, 76, 77, 78, 79, 80, 81, 82, 83, 84, 85, 86, 87, 88, 89, 90, 91, 92, 93, 94, 95, 96, 97, 98, 99, 100, 101, 102, 103, 104, 105, 106, 107, 9, 16, 17, 18, 19, 4, 21, 22, 23, 24, 25, 26, 28, 29, 30, 31, 3, 33, 34, 35, 36, 37, 38, 39, 40, 41, 108, 109, 110, 111, 112, 113, 114, 115, 116, 117, 118, 119, 120, 121, 122, 123, 124, 125, 126, 127, 128, 129, 130, 131, 132, 133, 134, 135, 136, 137, 138, 139, 140, 141, 142, 143, 144, 145, 146, 147, 148, 149, 150, 151, 152, 153, 154, 155, 156, 157, 158, 159, 160, 161, 162, 163, 164, 165, 166, 167, 168, 169, 170, 171, 172, 173, 174, 175, 176, 177, 178, 179, 180, 181, 182, 183, 184, 204, 205, 206, 207, 208, 209, 210, 211, 212, 213, 214, 215, 216, 217, 218, 219, 220, 221, 222, 223, 224, 225, 226, 227, 228, 229, 230, 231, 232, 233, 234, 235, 236, 237, 238, 239, 240, 241, 242, 243, 244, 245, 246, 247, 248, 249, 250, 251, 252, 253, 254, 255, 256, 257, 258, 259, 260, 261, 262, 263, 264, 265, 266] (by decide +kernel) (by decide +kernel)
set_option maxRecDepth 20000 in
theorem gX9_borough_X9_readLine : GoodIn wsX9_borough (wsV RX9 302 RX9 yX9_readLine wsX9_readLine) := goodIn_app (goodIn_of _ (by decide +kernel)) ggX9_borough_X9_readLine
set_option maxRecDepth 20000 in
theorem ggX9_borough_X9_takeOver : GoodIn wsX9_borough wsX9_takeOver := goodIn_r _ [188, 7, 183, 184, 166, 167, 168, 169, 170, 140, 139, 189, 190, 191, 192, 193, 194, 195, 196, 197, 198, 199, 200, 201, 202, 14, 203, 204, 205, 206, 207, 208, 209, 210, 211, 212, 213, 214, 215, 216, 217, 218, 219, 220, 221, 222, 223, 224, 225, 226, 227, 228, 229, 230, 231, 232, 233, 234, 235, 236, 237, 238, 239, 240, 241, 242, 243, 244, 245, 246, 247, 248, 249, 250, 251, 252, 253, 254, 255, 256, 257, 258, 259, 260, 261, 262, 263, 264, 265, 266] (by decide +kernel) (by decide +kernel)
set_option maxRecDepth 20000 in
theorem gX9_borough_X9_takeOver : GoodIn wsX9_borough (wsV RX9 305 RX9 yX9_takeOver wsX9_takeOver) := goodIn_app (goodIn_of _ (by decide +kernel)) ggX9_borough_X9_takeOver
theorem dX9_borough_0 : decode cX9_borough 0 = .ok (.aload_n 0, 1) := by decide +kernel
theorem dX9_borough_1 : decode cX9_borough 1 = .ok (.iconst 0, 1) := by decide +kernel
theorem dX9_borough_2 : decode cX9_borough 2 = .ok (.putfield 152, 3) := by decide +kernel
theorem dX9_borough_5 : decode cX9_borough 5 = .ok (.iload_n 1, 1) := by decide +kernel
theorem dX9_borough_6 : decode cX9_borough 6 = .ok (.ifCond .lt 11, 3) := by decide +kernel
theorem dX9_borough_9 : decode cX9_borough 9 = .ok (.iload_n 1, 1) := by decide +kernel
theorem dX9_borough_10 : decode cX9_borough 10 = .ok (.aload_n 0, 1) := by decide +kernel
theorem dX9_borough_11 : decode cX9_borough 11 = .ok (.getfield 159, 3) := by decide +kernel
theorem dX9_borough_14 : decode cX9_borough 14 = .ok (.if_icmp .le 9, 3) := by decide +kernel
theorem dX9_borough_17 : decode cX9_borough 17 = .ok (.aload_n 0, 1) := by decide +kernel
theorem dX9_borough_18 : decode cX9_borough 18 = .ok (.iconst 1, 1) := by decide +kernel
theorem dX9_borough_19 : decode cX9_borough 19 = .ok (.invokevirtual 299, 3) := by decide +kernel
theorem dX9_borough_22 : decode cX9_borough 22 = .ok (.ireturn, 1) := by decide +kernel
theorem dX9_borough_23 : decode cX9_borough 23 = .ok (.aload_n 0, 1) := by decide +kernel
theorem dX9_borough_24 : decode cX9_borough 24 = .ok (.iconst 0, 1) := by decide +kernel
theorem dX9_borough_25 : decode cX9_borough 25 = .ok (.putfield 159, 3) := by decide +kernel
theorem dX9_borough_28 : decode cX9_borough 28 = .ok (.aload_n 0, 1) := by decide +kernel
theorem dX9_borough_29 : decode cX9_borough 29 = .ok (.iload_n 1, 1) := by decide +kernel
theorem dX9_borough_30 : decode cX9_borough 30 = .ok (.putfield 162, 3) := by decide +kernel
theorem dX9_borough_33 : decode cX9_borough 33 = .ok (.aload_n 0, 1) := by decide +kernel
theorem dX9_borough_34 : decode cX9_borough 34 = .ok (.iconst 0, 1) := by decide +kernel
theorem dX9_borough_35 : decode cX9_borough 35 = .ok (.putfield 165, 3) := by decide +kernel
theorem dX9_borough_38 : decode cX9_borough 38 = .ok (.aload_n 0, 1) := by decide +kernel
theorem dX9_borough_39 : decode cX9_borough 39 = .ok (.iconst 0, 1) := by decide +kernel
theorem dX9_borough_40 : decode cX9_borough 40 = .ok (.putfield 201, 3) := by decide +kernel
theorem dX9_borough_43 : decode cX9_borough 43 = .ok (.aload_n 0, 1) := by decide +kernel
theorem dX9_borough_44 : decode cX9_borough 44 = .ok (.iconst (-1), 1) := by decide +kernel
theorem dX9_borough_45 : decode cX9_borough 45 = .ok (.putfield 85, 3) := by decide +kernel
theorem dX9_borough_48 : decode cX9_borough 48 = .ok (.iconst 0, 1) := by decide +kernel
theorem dX9_borough_49 : decode cX9_borough 49 = .ok (.istore_n 2, 1) := by decide +kernel
theorem dX9_borough_50 : decode cX9_borough 50 = .ok (.iload_n 2, 1) := by decide +kernel
theorem dX9_borough_51 : decode cX9_borough 51 = .ok (.bipush 7, 2) := by decide +kernel
theorem dX9_borough_53 : decode cX9_borough 53 = .ok (.if_icmp .ge 48, 3) := by decide +kernel
theorem dX9_borough_56 : decode cX9_borough 56 = .ok (.aload_n 0, 1) := by decide +kernel
theorem dX9_borough_57 : decode cX9_borough 57 = .ok (.getfield 50, 3) := by decide +kernel
theorem dX9_borough_60 : decode cX9_borough 60 = .ok (.bipush 7, 2) := by decide +kernel
theorem dX9_borough_62 : decode cX9_borough 62 = .ok (.iload_n 2, 1) := by decide +kernel
theorem dX9_borough_63 : decode cX9_borough 63 = .ok (.iadd, 1) := by decide +kernel
theorem dX9_borough_64 : decode cX9_borough 64 = .ok (.iload_n 2, 1) := by decide +kernel
theorem dX9_borough_65 : decode cX9_borough 65 = .ok (.ifCond .ne 8, 3) := by decide +kernel
theorem dX9_borough_68 : decode cX9_borough 68 = .ok (.bipush 20, 2) := by decide +kernel
theorem dX9_borough_70 : decode cX9_borough 70 = .ok (.goto 24, 3) := by decide +kernel
theorem dX9_borough_73 : decode cX9_borough 73 = .ok (.iload_n 2, 1) := by decide +kernel
theorem dX9_borough_74 : decode cX9_borough 74 = .ok (.iconst 1, 1) := by decide +kernel
theorem dX9_borough_75 : decode cX9_borough 75 = .ok (.if_icmp .ne 8, 3) := by decide +kernel
theorem dX9_borough_78 : decode cX9_borough 78 = .ok (.bipush 24, 2) := by decide +kernel
theorem dX9_borough_80 : decode cX9_borough 80 = .ok (.goto 14, 3) := by decide +kernel
theorem dX9_borough_83 : decode cX9_borough 83 = .ok (.iload_n 2, 1) := by decide +kernel
theorem dX9_borough_84 : decode cX9_borough 84 = .ok (.iconst 2, 1) := by decide +kernel
theorem dX9_borough_85 : decode cX9_borough 85 = .ok (.if_icmp .ne 8, 3) := by decide +kernel
theorem dX9_borough_88 : decode cX9_borough 88 = .ok (.bipush 100, 2) := by decide +kernel
theorem dX9_borough_90 : decode cX9_borough 90 = .ok (.goto 4, 3) := by decide +kernel
theorem dX9_borough_93 : decode cX9_borough 93 = .ok (.iconst 0, 1) := by decide +kernel
theorem dX9_borough_94 : decode cX9_borough 94 = .ok (.iastore, 1) := by decide +kernel
theorem dX9_borough_95 : decode cX9_borough 95 = .ok (.iinc 2 1, 3) := by decide +kernel
theorem dX9_borough_98 : decode cX9_borough 98 = .ok (.goto (-48), 3) := by decide +kernel
theorem dX9_borough_101 : decode cX9_borough 101 = .ok (.aload_n 0, 1) := by decide +kernel
theorem dX9_borough_102 : decode cX9_borough 102 = .ok (.invokevirtual 226, 3) := by decide +kernel
theorem dX9_borough_105 : decode cX9_borough 105 = .ok (.iconst 0, 1) := by decide +kernel
theorem dX9_borough_106 : decode cX9_borough 106 = .ok (.istore_n 2, 1) := by decide +kernel
theorem dX9_borough_107 : decode cX9_borough 107 = .ok (.aload_n 0, 1) := by decide +kernel
theorem dX9_borough_108 : decode cX9_borough 108 = .ok (.getfield 201, 3) := by decide +kernel
theorem dX9_borough_111 : decode cX9_borough 111 = .ok (.ifCond .ne 19, 3) := by decide +kernel
theorem dX9_borough_114 : decode cX9_borough 114 = .ok (.aload_n 0, 1) := by decide +kernel
theorem dX9_borough_115 : decode cX9_borough 115 = .ok (.getfield 175, 3) := by decide +kernel
theorem dX9_borough_118 : decode cX9_borough 118 = .ok (.ifCond .eq 12, 3) := by decide +kernel
theorem dX9_borough_121 : decode cX9_borough 121 = .ok (.aload_n 0, 1) := by decide +kernel
theorem dX9_borough_122 : decode cX9_borough 122 = .ok (.iload_n 2, 1) := by decide +kernel
theorem dX9_borough_123 : decode cX9_borough 123 = .ok (.invokevirtual 302, 3) := by decide +kernel
theorem dX9_borough_126 : decode cX9_borough 126 = .ok (.istore_n 2, 1) := by decide +kernel
theorem dX9_borough_127 : decode cX9_borough 127 = .ok (.goto (-20), 3) := by decide +kernel
theorem dX9_borough_130 : decode cX9_borough 130 = .ok (.aload_n 0, 1) := by decide +kernel
theorem dX9_borough_131 : decode cX9_borough 131 = .ok (.getfield 201, 3) := by decide +kernel
theorem dX9_borough_134 : decode cX9_borough 134 = .ok (.ifCond .eq 26, 3) := by decide +kernel
theorem dX9_borough_137 : decode cX9_borough 137 = .ok (.aload_n 0, 1) := by decide +kernel
theorem dX9_borough_138 : decode cX9_borough 138 = .ok (.aload_n 0, 1) := by decide +kernel
theorem dX9_borough_139 : decode cX9_borough 139 = .ok (.getfield 204, 3) := by decide +kernel
theorem dX9_borough_142 : decode cX9_borough 142 = .ok (.putfield 85, 3) := by decide +kernel
theorem dX9_borough_145 : decode cX9_borough 145 = .ok (.aload_n 0, 1) := by decide +kernel
theorem dX9_borough_146 : decode cX9_borough 146 = .ok (.getfield 79, 3) := by decide +kernel
theorem dX9_borough_149 : decode cX9_borough 149 = .ok (.iconst 0, 1) := by decide +kernel
theorem dX9_borough_150 : decode cX9_borough 150 = .ok (.dup2, 1) := by decide +kernel
theorem dX9_borough_151 : decode cX9_borough 151 = .ok (.iaload, 1) := by decide +kernel
theorem dX9_borough_152 : decode cX9_borough 152 = .ok (.iconst 1, 1) := by decide +kernel
theorem dX9_borough_153 : decode cX9_borough 153 = .ok (.iadd, 1) := by decide +kernel
theorem dX9_borough_154 : decode cX9_borough 154 = .ok (.iastore, 1) := by decide +kernel
theorem dX9_borough_155 : decode cX9_borough 155 = .ok (.aload_n 0, 1) := by decide +kernel
theorem dX9_borough_156 : decode cX9_borough 156 = .ok (.getfield 201, 3) := by decide +kernel
theorem dX9_borough_159 : decode cX9_borough 159 = .ok (.ireturn, 1) := by decide +kernel
theorem dX9_borough_160 : decode cX9_borough 160 = .ok (.aload_n 0, 1) := by decide +kernel
theorem dX9_borough_161 : decode cX9_borough 161 = .ok (.invokevirtual 305, 3) := by decide +kernel
theorem dX9_borough_164 : decode cX9_borough 164 = .ok (.iconst 0, 1) := by decide +kernel
theorem dX9_borough_165 : decode cX9_borough 165 = .ok (.ireturn, 1) := by decide +kernel
theorem dX9_takeHalf_0 : decode cX9_takeHalf 0 = .ok (.iconst 0, 1) := by decide +kernel
theorem dX9_takeHalf_1 : decode cX9_takeHalf 1 = .ok (.istore_n 1, 1) := by decide +kernel
theorem dX9_takeHalf_2 : decode cX9_takeHalf 2 = .ok (.iload_n 1, 1) := by decide +kernel
theorem dX9_takeHalf_3 : decode cX9_takeHalf 3 = .ok (.aload_n 0, 1) := by decide +kernel
theorem dX9_takeHalf_4 : decode cX9_takeHalf 4 = .ok (.arraylength, 1) := by decide +kernel
theorem dX9_takeHalf_5 : decode cX9_takeHalf 5 = .ok (.iconst 2, 1) := by decide +kernel
theorem dX9_takeHalf_6 : decode cX9_takeHalf 6 = .ok (.idiv, 1) := by decide +kernel
theorem dX9_takeHalf_7 : decode cX9_takeHalf 7 = .ok (.if_icmp .ge 20, 3) := by decide +kernel
theorem dX9_takeHalf_10 : decode cX9_takeHalf 10 = .ok (.aload_n 0, 1) := by decide +kernel
theorem dX9_takeHalf_11 : decode cX9_takeHalf 11 = .ok (.iload_n 1, 1) := by decide +kernel
theorem dX9_takeHalf_12 : decode cX9_takeHalf 12 = .ok (.aload_n 0, 1) := by decide +kernel
theorem dX9_takeHalf_13 : decode cX9_takeHalf 13 = .ok (.aload_n 0, 1) := by decide +kernel
theorem dX9_takeHalf_14 : decode cX9_takeHalf 14 = .ok (.arraylength, 1) := by decide +kernel
theorem dX9_takeHalf_15 : decode cX9_takeHalf 15 = .ok (.iconst 2, 1) := by decide +kernel
theorem dX9_takeHalf_16 : decode cX9_takeHalf 16 = .ok (.idiv, 1) := by decide +kernel
theorem dX9_takeHalf_17 : decode cX9_takeHalf 17 = .ok (.iload_n 1, 1) := by decide +kernel
theorem dX9_takeHalf_18 : decode cX9_takeHalf 18 = .ok (.iadd, 1) := by decide +kernel
theorem dX9_takeHalf_19 : decode cX9_takeHalf 19 = .ok (.iaload, 1) := by decide +kernel
theorem dX9_takeHalf_20 : decode cX9_takeHalf 20 = .ok (.iastore, 1) := by decide +kernel
theorem dX9_takeHalf_21 : decode cX9_takeHalf 21 = .ok (.iinc 1 1, 3) := by decide +kernel
theorem dX9_takeHalf_24 : decode cX9_takeHalf 24 = .ok (.goto (-22), 3) := by decide +kernel
theorem dX9_takeHalf_27 : decode cX9_takeHalf 27 = .ok (.return_, 1) := by decide +kernel
set_option maxRecDepth 20000 in
theorem ggX9_takeOver_X9_takeHalf : GoodIn wsX9_takeOver wsX9_takeHalf := goodIn_r _ [26] (by decide +kernel) (by decide +kernel)
set_option maxRecDepth 20000 in
theorem gX9_takeOver_X9_takeHalf : GoodIn wsX9_takeOver (va_wsS RX9 308 yX9_takeHalf wsX9_takeHalf) := goodIn_app (goodIn_of _ (by decide +kernel)) ggX9_takeOver_X9_takeHalf
theorem dX9_takeOver_0 : decode cX9_takeOver 0 = .ok (.aload_n 0, 1) := by decide +kernel
theorem dX9_takeOver_1 : decode cX9_takeOver 1 = .ok (.getfield 50, 3) := by decide +kernel
theorem dX9_takeOver_4 : decode cX9_takeOver 4 = .ok (.invokestatic 308, 3) := by decide +kernel
theorem dX9_takeOver_7 : decode cX9_takeOver 7 = .ok (.aload_n 0, 1) := by decide +kernel
theorem dX9_takeOver_8 : decode cX9_takeOver 8 = .ok (.getfield 54, 3) := by decide +kernel
theorem dX9_takeOver_11 : decode cX9_takeOver 11 = .ok (.invokestatic 308, 3) := by decide +kernel
theorem dX9_takeOver_14 : decode cX9_takeOver 14 = .ok (.aload_n 0, 1) := by decide +kernel
theorem dX9_takeOver_15 : decode cX9_takeOver 15 = .ok (.getfield 57, 3) := by decide +kernel
theorem dX9_takeOver_18 : decode cX9_takeOver 18 = .ok (.invokestatic 308, 3) := by decide +kernel
theorem dX9_takeOver_21 : decode cX9_takeOver 21 = .ok (.aload_n 0, 1) := by decide +kernel
theorem dX9_takeOver_22 : decode cX9_takeOver 22 = .ok (.getfield 60, 3) := by decide +kernel
theorem dX9_takeOver_25 : decode cX9_takeOver 25 = .ok (.invokestatic 308, 3) := by decide +kernel
theorem dX9_takeOver_28 : decode cX9_takeOver 28 = .ok (.aload_n 0, 1) := by decide +kernel
theorem dX9_takeOver_29 : decode cX9_takeOver 29 = .ok (.getfield 62, 3) := by decide +kernel
theorem dX9_takeOver_32 : decode cX9_takeOver 32 = .ok (.invokestatic 308, 3) := by decide +kernel
theorem dX9_takeOver_35 : decode cX9_takeOver 35 = .ok (.aload_n 0, 1) := by decide +kernel
theorem dX9_takeOver_36 : decode cX9_takeOver 36 = .ok (.getfield 65, 3) := by decide +kernel
theorem dX9_takeOver_39 : decode cX9_takeOver 39 = .ok (.invokestatic 308, 3) := by decide +kernel
theorem dX9_takeOver_42 : decode cX9_takeOver 42 = .ok (.aload_n 0, 1) := by decide +kernel
theorem dX9_takeOver_43 : decode cX9_takeOver 43 = .ok (.getfield 67, 3) := by decide +kernel
theorem dX9_takeOver_46 : decode cX9_takeOver 46 = .ok (.invokestatic 308, 3) := by decide +kernel
theorem dX9_takeOver_49 : decode cX9_takeOver 49 = .ok (.aload_n 0, 1) := by decide +kernel
theorem dX9_takeOver_50 : decode cX9_takeOver 50 = .ok (.getfield 70, 3) := by decide +kernel
theorem dX9_takeOver_53 : decode cX9_takeOver 53 = .ok (.invokestatic 308, 3) := by decide +kernel
theorem dX9_takeOver_56 : decode cX9_takeOver 56 = .ok (.aload_n 0, 1) := by decide +kernel
theorem dX9_takeOver_57 : decode cX9_takeOver 57 = .ok (.getfield 73, 3) := by decide +kernel
theorem dX9_takeOver_60 : decode cX9_takeOver 60 = .ok (.invokestatic 308, 3) := by decide +kernel
theorem dX9_takeOver_63 : decode cX9_takeOver 63 = .ok (.aload_n 0, 1) := by decide +kernel
theorem dX9_takeOver_64 : decode cX9_takeOver 64 = .ok (.getfield 76, 3) := by decide +kernel
theorem dX9_takeOver_67 : decode cX9_takeOver 67 = .ok (.invokestatic 308, 3) := by decide +kernel
theorem dX9_takeOver_70 : decode cX9_takeOver 70 = .ok (.aload_n 0, 1) := by decide +kernel
theorem dX9_takeOver_71 : decode cX9_takeOver 71 = .ok (.iconst 0, 1) := by decide +kernel
theorem dX9_takeOver_72 : decode cX9_takeOver 72 = .ok (.putfield 312, 3) := by decide +kernel
theorem dX9_takeOver_75 : decode cX9_takeOver 75 = .ok (.aload_n 0, 1) := by decide +kernel
theorem dX9_takeOver_76 : decode cX9_takeOver 76 = .ok (.aload_n 0, 1) := by decide +kernel
theorem dX9_takeOver_77 : decode cX9_takeOver 77 = .ok (.getfield 50, 3) := by decide +kernel
theorem dX9_takeOver_80 : decode cX9_takeOver 80 = .ok (.iconst 0, 1) := by decide +kernel
theorem dX9_takeOver_81 : decode cX9_takeOver 81 = .ok (.iaload, 1) := by decide +kernel
theorem dX9_takeOver_82 : decode cX9_takeOver 82 = .ok (.putfield 145, 3) := by decide +kernel
theorem dX9_takeOver_85 : decode cX9_takeOver 85 = .ok (.aload_n 0, 1) := by decide +kernel
theorem dX9_takeOver_86 : decode cX9_takeOver 86 = .ok (.aload_n 0, 1) := by decide +kernel
theorem dX9_takeOver_87 : decode cX9_takeOver 87 = .ok (.getfield 50, 3) := by decide +kernel
theorem dX9_takeOver_90 : decode cX9_takeOver 90 = .ok (.iconst 1, 1) := by decide +kernel
theorem dX9_takeOver_91 : decode cX9_takeOver 91 = .ok (.iaload, 1) := by decide +kernel
theorem dX9_takeOver_92 : decode cX9_takeOver 92 = .ok (.putfield 147, 3) := by decide +kernel
theorem dX9_takeOver_95 : decode cX9_takeOver 95 = .ok (.aload_n 0, 1) := by decide +kernel
theorem dX9_takeOver_96 : decode cX9_takeOver 96 = .ok (.aload_n 0, 1) := by decide +kernel
theorem dX9_takeOver_97 : decode cX9_takeOver 97 = .ok (.getfield 50, 3) := by decide +kernel
theorem dX9_takeOver_100 : decode cX9_takeOver 100 = .ok (.iconst 2, 1) := by decide +kernel
theorem dX9_takeOver_101 : decode cX9_takeOver 101 = .ok (.iaload, 1) := by decide +kernel
theorem dX9_takeOver_102 : decode cX9_takeOver 102 = .ok (.putfield 149, 3) := by decide +kernel
theorem dX9_takeOver_105 : decode cX9_takeOver 105 = .ok (.aload_n 0, 1) := by decide +kernel
theorem dX9_takeOver_106 : decode cX9_takeOver 106 = .ok (.iconst 0, 1) := by decide +kernel
theorem dX9_takeOver_107 : decode cX9_takeOver 107 = .ok (.putfield 314, 3) := by decide +kernel
theorem dX9_takeOver_110 : decode cX9_takeOver 110 = .ok (.aload_n 0, 1) := by decide +kernel
theorem dX9_takeOver_111 : decode cX9_takeOver 111 = .ok (.iconst 0, 1) := by decide +kernel
theorem dX9_takeOver_112 : decode cX9_takeOver 112 = .ok (.putfield 317, 3) := by decide +kernel
theorem dX9_takeOver_115 : decode cX9_takeOver 115 = .ok (.aload_n 0, 1) := by decide +kernel
theorem dX9_takeOver_116 : decode cX9_takeOver 116 = .ok (.iconst 0, 1) := by decide +kernel
theorem dX9_takeOver_117 : decode cX9_takeOver 117 = .ok (.putfield 319, 3) := by decide +kernel
theorem dX9_takeOver_120 : decode cX9_takeOver 120 = .ok (.iconst 0, 1) := by decide +kernel
theorem dX9_takeOver_121 : decode cX9_takeOver 121 = .ok (.istore_n 1, 1) := by decide +kernel
theorem dX9_takeOver_122 : decode cX9_takeOver 122 = .ok (.iload_n 1, 1) := by decide +kernel
theorem dX9_takeOver_123 : decode cX9_takeOver 123 = .ok (.bipush 7, 2) := by decide +kernel
theorem dX9_takeOver_125 : decode cX9_takeOver 125 = .ok (.if_icmp .ge 35, 3) := by decide +kernel
theorem dX9_takeOver_128 : decode cX9_takeOver 128 = .ok (.aload_n 0, 1) := by decide +kernel
theorem dX9_takeOver_129 : decode cX9_takeOver 129 = .ok (.getfield 89, 3) := by decide +kernel
theorem dX9_takeOver_132 : decode cX9_takeOver 132 = .ok (.iload_n 1, 1) := by decide +kernel
theorem dX9_takeOver_133 : decode cX9_takeOver 133 = .ok (.iload_n 1, 1) := by decide +kernel
theorem dX9_takeOver_134 : decode cX9_takeOver 134 = .ok (.aload_n 0, 1) := by decide +kernel
theorem dX9_takeOver_135 : decode cX9_takeOver 135 = .ok (.getfield 50, 3) := by decide +kernel
theorem dX9_takeOver_138 : decode cX9_takeOver 138 = .ok (.iconst 3, 1) := by decide +kernel
theorem dX9_takeOver_139 : decode cX9_takeOver 139 = .ok (.iaload, 1) := by decide +kernel
theorem dX9_takeOver_140 : decode cX9_takeOver 140 = .ok (.if_icmp .ge 12, 3) := by decide +kernel
theorem dX9_takeOver_143 : decode cX9_takeOver 143 = .ok (.aload_n 0, 1) := by decide +kernel
theorem dX9_takeOver_144 : decode cX9_takeOver 144 = .ok (.getfield 54, 3) := by decide +kernel
theorem dX9_takeOver_147 : decode cX9_takeOver 147 = .ok (.iload_n 1, 1) := by decide +kernel
theorem dX9_takeOver_148 : decode cX9_takeOver 148 = .ok (.iaload, 1) := by decide +kernel
theorem dX9_takeOver_149 : decode cX9_takeOver 149 = .ok (.goto 4, 3) := by decide +kernel
theorem dX9_takeOver_152 : decode cX9_takeOver 152 = .ok (.iconst 0, 1) := by decide +kernel
theorem dX9_takeOver_153 : decode cX9_takeOver 153 = .ok (.iastore, 1) := by decide +kernel
theorem dX9_takeOver_154 : decode cX9_takeOver 154 = .ok (.iinc 1 1, 3) := by decide +kernel
theorem dX9_takeOver_157 : decode cX9_takeOver 157 = .ok (.goto (-35), 3) := by decide +kernel
theorem dX9_takeOver_160 : decode cX9_takeOver 160 = .ok (.iconst 0, 1) := by decide +kernel
theorem dX9_takeOver_161 : decode cX9_takeOver 161 = .ok (.istore_n 1, 1) := by decide +kernel
theorem dX9_takeOver_162 : decode cX9_takeOver 162 = .ok (.iload_n 1, 1) := by decide +kernel
theorem dX9_takeOver_163 : decode cX9_takeOver 163 = .ok (.bipush 10, 2) := by decide +kernel
theorem dX9_takeOver_165 : decode cX9_takeOver 165 = .ok (.if_icmp .ge 35, 3) := by decide +kernel
theorem dX9_takeOver_168 : decode cX9_takeOver 168 = .ok (.aload_n 0, 1) := by decide +kernel
theorem dX9_takeOver_169 : decode cX9_takeOver 169 = .ok (.getfield 91, 3) := by decide +kernel
theorem dX9_takeOver_172 : decode cX9_takeOver 172 = .ok (.iload_n 1, 1) := by decide +kernel
theorem dX9_takeOver_173 : decode cX9_takeOver 173 = .ok (.iload_n 1, 1) := by decide +kernel
theorem dX9_takeOver_174 : decode cX9_takeOver 174 = .ok (.aload_n 0, 1) := by decide +kernel
theorem dX9_takeOver_175 : decode cX9_takeOver 175 = .ok (.getfield 50, 3) := by decide +kernel
theorem dX9_takeOver_178 : decode cX9_takeOver 178 = .ok (.iconst 4, 1) := by decide +kernel
theorem dX9_takeOver_179 : decode cX9_takeOver 179 = .ok (.iaload, 1) := by decide +kernel
theorem dX9_takeOver_180 : decode cX9_takeOver 180 = .ok (.if_icmp .ge 12, 3) := by decide +kernel
theorem dX9_takeOver_183 : decode cX9_takeOver 183 = .ok (.aload_n 0, 1) := by decide +kernel
theorem dX9_takeOver_184 : decode cX9_takeOver 184 = .ok (.getfield 62, 3) := by decide +kernel
theorem dX9_takeOver_187 : decode cX9_takeOver 187 = .ok (.iload_n 1, 1) := by decide +kernel
theorem dX9_takeOver_188 : decode cX9_takeOver 188 = .ok (.iaload, 1) := by decide +kernel
theorem dX9_takeOver_189 : decode cX9_takeOver 189 = .ok (.goto 4, 3) := by decide +kernel
theorem dX9_takeOver_192 : decode cX9_takeOver 192 = .ok (.iconst 0, 1) := by decide +kernel
theorem dX9_takeOver_193 : decode cX9_takeOver 193 = .ok (.iastore, 1) := by decide +kernel
theorem dX9_takeOver_194 : decode cX9_takeOver 194 = .ok (.iinc 1 1, 3) := by decide +kernel
theorem dX9_takeOver_197 : decode cX9_takeOver 197 = .ok (.goto (-35), 3) := by decide +kernel
theorem dX9_takeOver_200 : decode cX9_takeOver 200 = .ok (.aload_n 0, 1) := by decide +kernel
theorem dX9_takeOver_201 : decode cX9_takeOver 201 = .ok (.iconst 0, 1) := by decide +kernel
theorem dX9_takeOver_202 : decode cX9_takeOver 202 = .ok (.putfield 321, 3) := by decide +kernel
theorem dX9_takeOver_205 : decode cX9_takeOver 205 = .ok (.aload_n 0, 1) := by decide +kernel
theorem dX9_takeOver_206 : decode cX9_takeOver 206 = .ok (.iconst 0, 1) := by decide +kernel
theorem dX9_takeOver_207 : decode cX9_takeOver 207 = .ok (.putfield 324, 3) := by decide +kernel
theorem dX9_takeOver_210 : decode cX9_takeOver 210 = .ok (.aload_n 0, 1) := by decide +kernel
theorem dX9_takeOver_211 : decode cX9_takeOver 211 = .ok (.iconst 0, 1) := by decide +kernel
theorem dX9_takeOver_212 : decode cX9_takeOver 212 = .ok (.putfield 327, 3) := by decide +kernel
theorem dX9_takeOver_215 : decode cX9_takeOver 215 = .ok (.return_, 1) := by decide +kernel
theorem dX9_fault_0 : decode cX9_fault 0 = .ok (.aload_n 0, 1) := by decide +kernel
theorem dX9_fault_1 : decode cX9_fault 1 = .ok (.iconst 0, 1) := by decide +kernel
theorem dX9_fault_2 : decode cX9_fault 2 = .ok (.putfield 152, 3) := by decide +kernel
theorem dX9_fault_5 : decode cX9_fault 5 = .ok (.aload_n 0, 1) := by decide +kernel
theorem dX9_fault_6 : decode cX9_fault 6 = .ok (.getfield 85, 3) := by decide +kernel
theorem dX9_fault_9 : decode cX9_fault 9 = .ok (.ireturn, 1) := by decide +kernel
theorem dX9_pack_0 : decode cX9_pack 0 = .ok (.aload_n 1, 1) := by decide +kernel
theorem dX9_pack_1 : decode cX9_pack 1 = .ok (.iload_n 2, 1) := by decide +kernel
theorem dX9_pack_2 : decode cX9_pack 2 = .ok (.aload_n 0, 1) := by decide +kernel
theorem dX9_pack_3 : decode cX9_pack 3 = .ok (.getfield 312, 3) := by decide +kernel
theorem dX9_pack_6 : decode cX9_pack 6 = .ok (.iastore, 1) := by decide +kernel
theorem dX9_pack_7 : decode cX9_pack 7 = .ok (.aload_n 1, 1) := by decide +kernel
theorem dX9_pack_8 : decode cX9_pack 8 = .ok (.iload_n 2, 1) := by decide +kernel
theorem dX9_pack_9 : decode cX9_pack 9 = .ok (.iconst 1, 1) := by decide +kernel
theorem dX9_pack_10 : decode cX9_pack 10 = .ok (.iadd, 1) := by decide +kernel
theorem dX9_pack_11 : decode cX9_pack 11 = .ok (.aload_n 0, 1) := by decide +kernel
theorem dX9_pack_12 : decode cX9_pack 12 = .ok (.getfield 145, 3) := by decide +kernel
theorem dX9_pack_15 : decode cX9_pack 15 = .ok (.iastore, 1) := by decide +kernel
theorem dX9_pack_16 : decode cX9_pack 16 = .ok (.aload_n 1, 1) := by decide +kernel
theorem dX9_pack_17 : decode cX9_pack 17 = .ok (.iload_n 2, 1) := by decide +kernel
theorem dX9_pack_18 : decode cX9_pack 18 = .ok (.iconst 2, 1) := by decide +kernel
theorem dX9_pack_19 : decode cX9_pack 19 = .ok (.iadd, 1) := by decide +kernel
theorem dX9_pack_20 : decode cX9_pack 20 = .ok (.aload_n 0, 1) := by decide +kernel
theorem dX9_pack_21 : decode cX9_pack 21 = .ok (.getfield 147, 3) := by decide +kernel
theorem dX9_pack_24 : decode cX9_pack 24 = .ok (.iastore, 1) := by decide +kernel
theorem dX9_pack_25 : decode cX9_pack 25 = .ok (.aload_n 1, 1) := by decide +kernel
theorem dX9_pack_26 : decode cX9_pack 26 = .ok (.iload_n 2, 1) := by decide +kernel
theorem dX9_pack_27 : decode cX9_pack 27 = .ok (.iconst 3, 1) := by decide +kernel
theorem dX9_pack_28 : decode cX9_pack 28 = .ok (.iadd, 1) := by decide +kernel
theorem dX9_pack_29 : decode cX9_pack 29 = .ok (.aload_n 0, 1) := by decide +kernel
theorem dX9_pack_30 : decode cX9_pack 30 = .ok (.getfield 314, 3) := by decide +kernel
theorem dX9_pack_33 : decode cX9_pack 33 = .ok (.iastore, 1) := by decide +kernel
theorem dX9_pack_34 : decode cX9_pack 34 = .ok (.aload_n 1, 1) := by decide +kernel
theorem dX9_pack_35 : decode cX9_pack 35 = .ok (.iload_n 2, 1) := by decide +kernel
theorem dX9_pack_36 : decode cX9_pack 36 = .ok (.iconst 4, 1) := by decide +kernel
theorem dX9_pack_37 : decode cX9_pack 37 = .ok (.iadd, 1) := by decide +kernel
theorem dX9_pack_38 : decode cX9_pack 38 = .ok (.aload_n 0, 1) := by decide +kernel
theorem dX9_pack_39 : decode cX9_pack 39 = .ok (.getfield 149, 3) := by decide +kernel
theorem dX9_pack_42 : decode cX9_pack 42 = .ok (.iastore, 1) := by decide +kernel
theorem dX9_pack_43 : decode cX9_pack 43 = .ok (.aload_n 1, 1) := by decide +kernel
theorem dX9_pack_44 : decode cX9_pack 44 = .ok (.iload_n 2, 1) := by decide +kernel
theorem dX9_pack_45 : decode cX9_pack 45 = .ok (.iconst 5, 1) := by decide +kernel
theorem dX9_pack_46 : decode cX9_pack 46 = .ok (.iadd, 1) := by decide +kernel
theorem dX9_pack_47 : decode cX9_pack 47 = .ok (.aload_n 0, 1) := by decide +kernel
theorem dX9_pack_48 : decode cX9_pack 48 = .ok (.getfield 317, 3) := by decide +kernel
theorem dX9_pack_51 : decode cX9_pack 51 = .ok (.iastore, 1) := by decide +kernel
theorem dX9_pack_52 : decode cX9_pack 52 = .ok (.aload_n 1, 1) := by decide +kernel
theorem dX9_pack_53 : decode cX9_pack 53 = .ok (.iload_n 2, 1) := by decide +kernel
theorem dX9_pack_54 : decode cX9_pack 54 = .ok (.bipush 6, 2) := by decide +kernel
theorem dX9_pack_56 : decode cX9_pack 56 = .ok (.iadd, 1) := by decide +kernel
theorem dX9_pack_57 : decode cX9_pack 57 = .ok (.aload_n 0, 1) := by decide +kernel
theorem dX9_pack_58 : decode cX9_pack 58 = .ok (.getfield 319, 3) := by decide +kernel
theorem dX9_pack_61 : decode cX9_pack 61 = .ok (.iastore, 1) := by decide +kernel
theorem dX9_pack_62 : decode cX9_pack 62 = .ok (.iconst 0, 1) := by decide +kernel
theorem dX9_pack_63 : decode cX9_pack 63 = .ok (.istore_n 3, 1) := by decide +kernel
theorem dX9_pack_64 : decode cX9_pack 64 = .ok (.iload_n 3, 1) := by decide +kernel
theorem dX9_pack_65 : decode cX9_pack 65 = .ok (.bipush 7, 2) := by decide +kernel
theorem dX9_pack_67 : decode cX9_pack 67 = .ok (.if_icmp .ge 23, 3) := by decide +kernel
theorem dX9_pack_70 : decode cX9_pack 70 = .ok (.aload_n 1, 1) := by decide +kernel
theorem dX9_pack_71 : decode cX9_pack 71 = .ok (.iload_n 2, 1) := by decide +kernel
theorem dX9_pack_72 : decode cX9_pack 72 = .ok (.bipush 7, 2) := by decide +kernel
theorem dX9_pack_74 : decode cX9_pack 74 = .ok (.iadd, 1) := by decide +kernel
theorem dX9_pack_75 : decode cX9_pack 75 = .ok (.iload_n 3, 1) := by decide +kernel
theorem dX9_pack_76 : decode cX9_pack 76 = .ok (.iadd, 1) := by decide +kernel
theorem dX9_pack_77 : decode cX9_pack 77 = .ok (.aload_n 0, 1) := by decide +kernel
theorem dX9_pack_78 : decode cX9_pack 78 = .ok (.getfield 89, 3) := by decide +kernel
theorem dX9_pack_81 : decode cX9_pack 81 = .ok (.iload_n 3, 1) := by decide +kernel
theorem dX9_pack_82 : decode cX9_pack 82 = .ok (.iaload, 1) := by decide +kernel
theorem dX9_pack_83 : decode cX9_pack 83 = .ok (.iastore, 1) := by decide +kernel
theorem dX9_pack_84 : decode cX9_pack 84 = .ok (.iinc 3 1, 3) := by decide +kernel
theorem dX9_pack_87 : decode cX9_pack 87 = .ok (.goto (-23), 3) := by decide +kernel
theorem dX9_pack_90 : decode cX9_pack 90 = .ok (.iconst 0, 1) := by decide +kernel
theorem dX9_pack_91 : decode cX9_pack 91 = .ok (.istore_n 3, 1) := by decide +kernel
theorem dX9_pack_92 : decode cX9_pack 92 = .ok (.iload_n 3, 1) := by decide +kernel
theorem dX9_pack_93 : decode cX9_pack 93 = .ok (.bipush 10, 2) := by decide +kernel
theorem dX9_pack_95 : decode cX9_pack 95 = .ok (.if_icmp .ge 26, 3) := by decide +kernel
theorem dX9_pack_98 : decode cX9_pack 98 = .ok (.aload_n 1, 1) := by decide +kernel
theorem dX9_pack_99 : decode cX9_pack 99 = .ok (.iload_n 2, 1) := by decide +kernel
theorem dX9_pack_100 : decode cX9_pack 100 = .ok (.bipush 7, 2) := by decide +kernel
theorem dX9_pack_102 : decode cX9_pack 102 = .ok (.iadd, 1) := by decide +kernel
theorem dX9_pack_103 : decode cX9_pack 103 = .ok (.bipush 7, 2) := by decide +kernel
theorem dX9_pack_105 : decode cX9_pack 105 = .ok (.iadd, 1) := by decide +kernel
theorem dX9_pack_106 : decode cX9_pack 106 = .ok (.iload_n 3, 1) := by decide +kernel
theorem dX9_pack_107 : decode cX9_pack 107 = .ok (.iadd, 1) := by decide +kernel
theorem dX9_pack_108 : decode cX9_pack 108 = .ok (.aload_n 0, 1) := by decide +kernel
theorem dX9_pack_109 : decode cX9_pack 109 = .ok (.getfield 91, 3) := by decide +kernel
theorem dX9_pack_112 : decode cX9_pack 112 = .ok (.iload_n 3, 1) := by decide +kernel
theorem dX9_pack_113 : decode cX9_pack 113 = .ok (.iaload, 1) := by decide +kernel
theorem dX9_pack_114 : decode cX9_pack 114 = .ok (.iastore, 1) := by decide +kernel
theorem dX9_pack_115 : decode cX9_pack 115 = .ok (.iinc 3 1, 3) := by decide +kernel
theorem dX9_pack_118 : decode cX9_pack 118 = .ok (.goto (-26), 3) := by decide +kernel
theorem dX9_pack_121 : decode cX9_pack 121 = .ok (.return_, 1) := by decide +kernel
theorem dX9_unpack_0 : decode cX9_unpack 0 = .ok (.aload_n 0, 1) := by decide +kernel
theorem dX9_unpack_1 : decode cX9_unpack 1 = .ok (.aload_n 1, 1) := by decide +kernel
theorem dX9_unpack_2 : decode cX9_unpack 2 = .ok (.iload_n 2, 1) := by decide +kernel
theorem dX9_unpack_3 : decode cX9_unpack 3 = .ok (.iaload, 1) := by decide +kernel
theorem dX9_unpack_4 : decode cX9_unpack 4 = .ok (.putfield 312, 3) := by decide +kernel
theorem dX9_unpack_7 : decode cX9_unpack 7 = .ok (.aload_n 0, 1) := by decide +kernel
theorem dX9_unpack_8 : decode cX9_unpack 8 = .ok (.aload_n 1, 1) := by decide +kernel
theorem dX9_unpack_9 : decode cX9_unpack 9 = .ok (.iload_n 2, 1) := by decide +kernel
theorem dX9_unpack_10 : decode cX9_unpack 10 = .ok (.iconst 1, 1) := by decide +kernel
theorem dX9_unpack_11 : decode cX9_unpack 11 = .ok (.iadd, 1) := by decide +kernel
theorem dX9_unpack_12 : decode cX9_unpack 12 = .ok (.iaload, 1) := by decide +kernel
theorem dX9_unpack_13 : decode cX9_unpack 13 = .ok (.putfield 145, 3) := by decide +kernel
theorem dX9_unpack_16 : decode cX9_unpack 16 = .ok (.aload_n 0, 1) := by decide +kernel
theorem dX9_unpack_17 : decode cX9_unpack 17 = .ok (.aload_n 1, 1) := by decide +kernel
theorem dX9_unpack_18 : decode cX9_unpack 18 = .ok (.iload_n 2, 1) := by decide +kernel
theorem dX9_unpack_19 : decode cX9_unpack 19 = .ok (.iconst 2, 1) := by decide +kernel
theorem dX9_unpack_20 : decode cX9_unpack 20 = .ok (.iadd, 1) := by decide +kernel
theorem dX9_unpack_21 : decode cX9_unpack 21 = .ok (.iaload, 1) := by decide +kernel
theorem dX9_unpack_22 : decode cX9_unpack 22 = .ok (.putfield 147, 3) := by decide +kernel
theorem dX9_unpack_25 : decode cX9_unpack 25 = .ok (.aload_n 0, 1) := by decide +kernel
theorem dX9_unpack_26 : decode cX9_unpack 26 = .ok (.aload_n 1, 1) := by decide +kernel
theorem dX9_unpack_27 : decode cX9_unpack 27 = .ok (.iload_n 2, 1) := by decide +kernel
theorem dX9_unpack_28 : decode cX9_unpack 28 = .ok (.iconst 3, 1) := by decide +kernel
theorem dX9_unpack_29 : decode cX9_unpack 29 = .ok (.iadd, 1) := by decide +kernel
theorem dX9_unpack_30 : decode cX9_unpack 30 = .ok (.iaload, 1) := by decide +kernel
theorem dX9_unpack_31 : decode cX9_unpack 31 = .ok (.putfield 314, 3) := by decide +kernel
theorem dX9_unpack_34 : decode cX9_unpack 34 = .ok (.aload_n 0, 1) := by decide +kernel
theorem dX9_unpack_35 : decode cX9_unpack 35 = .ok (.aload_n 1, 1) := by decide +kernel
theorem dX9_unpack_36 : decode cX9_unpack 36 = .ok (.iload_n 2, 1) := by decide +kernel
theorem dX9_unpack_37 : decode cX9_unpack 37 = .ok (.iconst 4, 1) := by decide +kernel
theorem dX9_unpack_38 : decode cX9_unpack 38 = .ok (.iadd, 1) := by decide +kernel
theorem dX9_unpack_39 : decode cX9_unpack 39 = .ok (.iaload, 1) := by decide +kernel
theorem dX9_unpack_40 : decode cX9_unpack 40 = .ok (.putfield 149, 3) := by decide +kernel
theorem dX9_unpack_43 : decode cX9_unpack 43 = .ok (.aload_n 0, 1) := by decide +kernel
theorem dX9_unpack_44 : decode cX9_unpack 44 = .ok (.aload_n 1, 1) := by decide +kernel
theorem dX9_unpack_45 : decode cX9_unpack 45 = .ok (.iload_n 2, 1) := by decide +kernel
theorem dX9_unpack_46 : decode cX9_unpack 46 = .ok (.iconst 5, 1) := by decide +kernel
theorem dX9_unpack_47 : decode cX9_unpack 47 = .ok (.iadd, 1) := by decide +kernel
theorem dX9_unpack_48 : decode cX9_unpack 48 = .ok (.iaload, 1) := by decide +kernel
theorem dX9_unpack_49 : decode cX9_unpack 49 = .ok (.putfield 317, 3) := by decide +kernel
theorem dX9_unpack_52 : decode cX9_unpack 52 = .ok (.aload_n 0, 1) := by decide +kernel
theorem dX9_unpack_53 : decode cX9_unpack 53 = .ok (.aload_n 1, 1) := by decide +kernel
theorem dX9_unpack_54 : decode cX9_unpack 54 = .ok (.iload_n 2, 1) := by decide +kernel
theorem dX9_unpack_55 : decode cX9_unpack 55 = .ok (.bipush 6, 2) := by decide +kernel
theorem dX9_unpack_57 : decode cX9_unpack 57 = .ok (.iadd, 1) := by decide +kernel
theorem dX9_unpack_58 : decode cX9_unpack 58 = .ok (.iaload, 1) := by decide +kernel
theorem dX9_unpack_59 : decode cX9_unpack 59 = .ok (.putfield 319, 3) := by decide +kernel
theorem dX9_unpack_62 : decode cX9_unpack 62 = .ok (.iconst 0, 1) := by decide +kernel
theorem dX9_unpack_63 : decode cX9_unpack 63 = .ok (.istore_n 3, 1) := by decide +kernel
theorem dX9_unpack_64 : decode cX9_unpack 64 = .ok (.iload_n 3, 1) := by decide +kernel
theorem dX9_unpack_65 : decode cX9_unpack 65 = .ok (.bipush 7, 2) := by decide +kernel
theorem dX9_unpack_67 : decode cX9_unpack 67 = .ok (.if_icmp .ge 23, 3) := by decide +kernel
theorem dX9_unpack_70 : decode cX9_unpack 70 = .ok (.aload_n 0, 1) := by decide +kernel
theorem dX9_unpack_71 : decode cX9_unpack 71 = .ok (.getfield 89, 3) := by decide +kernel
theorem dX9_unpack_74 : decode cX9_unpack 74 = .ok (.iload_n 3, 1) := by decide +kernel
theorem dX9_unpack_75 : decode cX9_unpack 75 = .ok (.aload_n 1, 1) := by decide +kernel
theorem dX9_unpack_76 : decode cX9_unpack 76 = .ok (.iload_n 2, 1) := by decide +kernel
theorem dX9_unpack_77 : decode cX9_unpack 77 = .ok (.bipush 7, 2) := by decide +kernel
theorem dX9_unpack_79 : decode cX9_unpack 79 = .ok (.iadd, 1) := by decide +kernel
theorem dX9_unpack_80 : decode cX9_unpack 80 = .ok (.iload_n 3, 1) := by decide +kernel
theorem dX9_unpack_81 : decode cX9_unpack 81 = .ok (.iadd, 1) := by decide +kernel
theorem dX9_unpack_82 : decode cX9_unpack 82 = .ok (.iaload, 1) := by decide +kernel
theorem dX9_unpack_83 : decode cX9_unpack 83 = .ok (.iastore, 1) := by decide +kernel
theorem dX9_unpack_84 : decode cX9_unpack 84 = .ok (.iinc 3 1, 3) := by decide +kernel
theorem dX9_unpack_87 : decode cX9_unpack 87 = .ok (.goto (-23), 3) := by decide +kernel
theorem dX9_unpack_90 : decode cX9_unpack 90 = .ok (.iconst 0, 1) := by decide +kernel
theorem dX9_unpack_91 : decode cX9_unpack 91 = .ok (.istore_n 3, 1) := by decide +kernel
theorem dX9_unpack_92 : decode cX9_unpack 92 = .ok (.iload_n 3, 1) := by decide +kernel
theorem dX9_unpack_93 : decode cX9_unpack 93 = .ok (.bipush 10, 2) := by decide +kernel
theorem dX9_unpack_95 : decode cX9_unpack 95 = .ok (.if_icmp .ge 26, 3) := by decide +kernel
theorem dX9_unpack_98 : decode cX9_unpack 98 = .ok (.aload_n 0, 1) := by decide +kernel
theorem dX9_unpack_99 : decode cX9_unpack 99 = .ok (.getfield 91, 3) := by decide +kernel
theorem dX9_unpack_102 : decode cX9_unpack 102 = .ok (.iload_n 3, 1) := by decide +kernel
theorem dX9_unpack_103 : decode cX9_unpack 103 = .ok (.aload_n 1, 1) := by decide +kernel
theorem dX9_unpack_104 : decode cX9_unpack 104 = .ok (.iload_n 2, 1) := by decide +kernel
theorem dX9_unpack_105 : decode cX9_unpack 105 = .ok (.bipush 7, 2) := by decide +kernel
theorem dX9_unpack_107 : decode cX9_unpack 107 = .ok (.iadd, 1) := by decide +kernel
theorem dX9_unpack_108 : decode cX9_unpack 108 = .ok (.bipush 7, 2) := by decide +kernel
theorem dX9_unpack_110 : decode cX9_unpack 110 = .ok (.iadd, 1) := by decide +kernel
theorem dX9_unpack_111 : decode cX9_unpack 111 = .ok (.iload_n 3, 1) := by decide +kernel
theorem dX9_unpack_112 : decode cX9_unpack 112 = .ok (.iadd, 1) := by decide +kernel
theorem dX9_unpack_113 : decode cX9_unpack 113 = .ok (.iaload, 1) := by decide +kernel
theorem dX9_unpack_114 : decode cX9_unpack 114 = .ok (.iastore, 1) := by decide +kernel
theorem dX9_unpack_115 : decode cX9_unpack 115 = .ok (.iinc 3 1, 3) := by decide +kernel
theorem dX9_unpack_118 : decode cX9_unpack 118 = .ok (.goto (-26), 3) := by decide +kernel
theorem dX9_unpack_121 : decode cX9_unpack 121 = .ok (.return_, 1) := by decide +kernel
theorem dX9_reckon_0 : decode cX9_reckon 0 = .ok (.iload_n 0, 1) := by decide +kernel
theorem dX9_reckon_1 : decode cX9_reckon 1 = .ok (.tableswitch 103 (-26) (-20) #[89, 78, 67, 55, 51, 47, 43], 43) := by decide +kernel
theorem dX9_reckon_44 : decode cX9_reckon 44 = .ok (.iload_n 1, 1) := by decide +kernel
theorem dX9_reckon_45 : decode cX9_reckon 45 = .ok (.iload_n 2, 1) := by decide +kernel
theorem dX9_reckon_46 : decode cX9_reckon 46 = .ok (.iadd, 1) := by decide +kernel
theorem dX9_reckon_47 : decode cX9_reckon 47 = .ok (.ireturn, 1) := by decide +kernel
theorem dX9_reckon_48 : decode cX9_reckon 48 = .ok (.iload_n 1, 1) := by decide +kernel
theorem dX9_reckon_49 : decode cX9_reckon 49 = .ok (.iload_n 2, 1) := by decide +kernel
theorem dX9_reckon_50 : decode cX9_reckon 50 = .ok (.isub, 1) := by decide +kernel
theorem dX9_reckon_51 : decode cX9_reckon 51 = .ok (.ireturn, 1) := by decide +kernel
theorem dX9_reckon_52 : decode cX9_reckon 52 = .ok (.iload_n 1, 1) := by decide +kernel
theorem dX9_reckon_53 : decode cX9_reckon 53 = .ok (.iload_n 2, 1) := by decide +kernel
theorem dX9_reckon_54 : decode cX9_reckon 54 = .ok (.imul, 1) := by decide +kernel
theorem dX9_reckon_55 : decode cX9_reckon 55 = .ok (.ireturn, 1) := by decide +kernel
theorem dX9_reckon_56 : decode cX9_reckon 56 = .ok (.iload_n 2, 1) := by decide +kernel
theorem dX9_reckon_57 : decode cX9_reckon 57 = .ok (.ifCond .ne 7, 3) := by decide +kernel
theorem dX9_reckon_60 : decode cX9_reckon 60 = .ok (.iconst 0, 1) := by decide +kernel
theorem dX9_reckon_61 : decode cX9_reckon 61 = .ok (.goto 6, 3) := by decide +kernel
theorem dX9_reckon_64 : decode cX9_reckon 64 = .ok (.iload_n 1, 1) := by decide +kernel
theorem dX9_reckon_65 : decode cX9_reckon 65 = .ok (.iload_n 2, 1) := by decide +kernel
theorem dX9_reckon_66 : decode cX9_reckon 66 = .ok (.idiv, 1) := by decide +kernel
theorem dX9_reckon_67 : decode cX9_reckon 67 = .ok (.ireturn, 1) := by decide +kernel
theorem dX9_reckon_68 : decode cX9_reckon 68 = .ok (.iload_n 1, 1) := by decide +kernel
theorem dX9_reckon_69 : decode cX9_reckon 69 = .ok (.iload_n 2, 1) := by decide +kernel
theorem dX9_reckon_70 : decode cX9_reckon 70 = .ok (.if_icmp .ge 7, 3) := by decide +kernel
theorem dX9_reckon_73 : decode cX9_reckon 73 = .ok (.iconst 1, 1) := by decide +kernel
theorem dX9_reckon_74 : decode cX9_reckon 74 = .ok (.goto 4, 3) := by decide +kernel
theorem dX9_reckon_77 : decode cX9_reckon 77 = .ok (.iconst 0, 1) := by decide +kernel
theorem dX9_reckon_78 : decode cX9_reckon 78 = .ok (.ireturn, 1) := by decide +kernel
theorem dX9_reckon_79 : decode cX9_reckon 79 = .ok (.iload_n 1, 1) := by decide +kernel
theorem dX9_reckon_80 : decode cX9_reckon 80 = .ok (.iload_n 2, 1) := by decide +kernel
theorem dX9_reckon_81 : decode cX9_reckon 81 = .ok (.if_icmp .ne 7, 3) := by decide +kernel
theorem dX9_reckon_84 : decode cX9_reckon 84 = .ok (.iconst 1, 1) := by decide +kernel
theorem dX9_reckon_85 : decode cX9_reckon 85 = .ok (.goto 4, 3) := by decide +kernel
theorem dX9_reckon_88 : decode cX9_reckon 88 = .ok (.iconst 0, 1) := by decide +kernel
theorem dX9_reckon_89 : decode cX9_reckon 89 = .ok (.ireturn, 1) := by decide +kernel
theorem dX9_reckon_90 : decode cX9_reckon 90 = .ok (.iload_n 1, 1) := by decide +kernel
theorem dX9_reckon_91 : decode cX9_reckon 91 = .ok (.ifCond .eq 11, 3) := by decide +kernel
theorem dX9_reckon_94 : decode cX9_reckon 94 = .ok (.iload_n 2, 1) := by decide +kernel
theorem dX9_reckon_95 : decode cX9_reckon 95 = .ok (.ifCond .eq 7, 3) := by decide +kernel
theorem dX9_reckon_98 : decode cX9_reckon 98 = .ok (.iconst 1, 1) := by decide +kernel
theorem dX9_reckon_99 : decode cX9_reckon 99 = .ok (.goto 4, 3) := by decide +kernel
theorem dX9_reckon_102 : decode cX9_reckon 102 = .ok (.iconst 0, 1) := by decide +kernel
theorem dX9_reckon_103 : decode cX9_reckon 103 = .ok (.ireturn, 1) := by decide +kernel
theorem dX9_reckon_104 : decode cX9_reckon 104 = .ok (.iload_n 1, 1) := by decide +kernel
theorem dX9_reckon_105 : decode cX9_reckon 105 = .ok (.ifCond .ne 7, 3) := by decide +kernel
theorem dX9_reckon_108 : decode cX9_reckon 108 = .ok (.iload_n 2, 1) := by decide +kernel
theorem dX9_reckon_109 : decode cX9_reckon 109 = .ok (.ifCond .eq 7, 3) := by decide +kernel
theorem dX9_reckon_112 : decode cX9_reckon 112 = .ok (.iconst 1, 1) := by decide +kernel
theorem dX9_reckon_113 : decode cX9_reckon 113 = .ok (.goto 4, 3) := by decide +kernel
theorem dX9_reckon_116 : decode cX9_reckon 116 = .ok (.iconst 0, 1) := by decide +kernel
theorem dX9_reckon_117 : decode cX9_reckon 117 = .ok (.ireturn, 1) := by decide +kernel
set_option maxRecDepth 20000 in
theorem ggX9_valueNow_X9_reckon : GoodIn wsX9_valueNow wsX9_reckon := goodIn_r _ [6] (by decide +kernel) (by decide +kernel)
set_option maxRecDepth 20000 in
theorem gX9_valueNow_X9_reckon : GoodIn wsX9_valueNow (va_wsS RX9 330 yX9_reckon wsX9_reckon) := goodIn_app (goodIn_of _ (by decide +kernel)) ggX9_valueNow_X9_reckon
theorem dX9_valueNow_0 : decode cX9_valueNow 0 = .ok (.iconst 0, 1) := by decide +kernel
theorem dX9_valueNow_1 : decode cX9_valueNow 1 = .ok (.istore_n 3, 1) := by decide +kernel
theorem dX9_valueNow_2 : decode cX9_valueNow 2 = .ok (.iconst 0, 1) := by decide +kernel
theorem dX9_valueNow_3 : decode cX9_valueNow 3 = .ok (.istore 4, 2) := by decide +kernel
theorem dX9_valueNow_5 : decode cX9_valueNow 5 = .ok (.iload 4, 2) := by decide +kernel
theorem dX9_valueNow_7 : decode cX9_valueNow 7 = .ok (.iload_n 2, 1) := by decide +kernel
theorem dX9_valueNow_8 : decode cX9_valueNow 8 = .ok (.if_icmp .ge 117, 3) := by decide +kernel
theorem dX9_valueNow_11 : decode cX9_valueNow 11 = .ok (.aload_n 1, 1) := by decide +kernel
theorem dX9_valueNow_12 : decode cX9_valueNow 12 = .ok (.iload 4, 2) := by decide +kernel
theorem dX9_valueNow_14 : decode cX9_valueNow 14 = .ok (.iaload, 1) := by decide +kernel
theorem dX9_valueNow_15 : decode cX9_valueNow 15 = .ok (.istore 5, 2) := by decide +kernel
theorem dX9_valueNow_17 : decode cX9_valueNow 17 = .ok (.iload 5, 2) := by decide +kernel
theorem dX9_valueNow_19 : decode cX9_valueNow 19 = .ok (.bipush (-20), 2) := by decide +kernel
theorem dX9_valueNow_21 : decode cX9_valueNow 21 = .ok (.if_icmp .le 34, 3) := by decide +kernel
theorem dX9_valueNow_24 : decode cX9_valueNow 24 = .ok (.aload_n 0, 1) := by decide +kernel
theorem dX9_valueNow_25 : decode cX9_valueNow 25 = .ok (.getfield 100, 3) := by decide +kernel
theorem dX9_valueNow_28 : decode cX9_valueNow 28 = .ok (.iload_n 3, 1) := by decide +kernel
theorem dX9_valueNow_29 : decode cX9_valueNow 29 = .ok (.iload 5, 2) := by decide +kernel
theorem dX9_valueNow_31 : decode cX9_valueNow 31 = .ok (.ifCond .lt 8, 3) := by decide +kernel
theorem dX9_valueNow_34 : decode cX9_valueNow 34 = .ok (.iload 5, 2) := by decide +kernel
theorem dX9_valueNow_36 : decode cX9_valueNow 36 = .ok (.goto 12, 3) := by decide +kernel
theorem dX9_valueNow_39 : decode cX9_valueNow 39 = .ok (.aload_n 0, 1) := by decide +kernel
theorem dX9_valueNow_40 : decode cX9_valueNow 40 = .ok (.getfield 97, 3) := by decide +kernel
theorem dX9_valueNow_43 : decode cX9_valueNow 43 = .ok (.iconst (-1), 1) := by decide +kernel
theorem dX9_valueNow_44 : decode cX9_valueNow 44 = .ok (.iload 5, 2) := by decide +kernel
theorem dX9_valueNow_46 : decode cX9_valueNow 46 = .ok (.isub, 1) := by decide +kernel
theorem dX9_valueNow_47 : decode cX9_valueNow 47 = .ok (.iaload, 1) := by decide +kernel
theorem dX9_valueNow_48 : decode cX9_valueNow 48 = .ok (.iastore, 1) := by decide +kernel
theorem dX9_valueNow_49 : decode cX9_valueNow 49 = .ok (.iinc 3 1, 3) := by decide +kernel
theorem dX9_valueNow_52 : decode cX9_valueNow 52 = .ok (.goto 67, 3) := by decide +kernel
theorem dX9_valueNow_55 : decode cX9_valueNow 55 = .ok (.iload 5, 2) := by decide +kernel
theorem dX9_valueNow_57 : decode cX9_valueNow 57 = .ok (.bipush (-28), 2) := by decide +kernel
theorem dX9_valueNow_59 : decode cX9_valueNow 59 = .ok (.if_icmp .ne 30, 3) := by decide +kernel
theorem dX9_valueNow_62 : decode cX9_valueNow 62 = .ok (.aload_n 0, 1) := by decide +kernel
theorem dX9_valueNow_63 : decode cX9_valueNow 63 = .ok (.getfield 100, 3) := by decide +kernel
theorem dX9_valueNow_66 : decode cX9_valueNow 66 = .ok (.iload_n 3, 1) := by decide +kernel
theorem dX9_valueNow_67 : decode cX9_valueNow 67 = .ok (.iconst 1, 1) := by decide +kernel
theorem dX9_valueNow_68 : decode cX9_valueNow 68 = .ok (.isub, 1) := by decide +kernel
theorem dX9_valueNow_69 : decode cX9_valueNow 69 = .ok (.aload_n 0, 1) := by decide +kernel
theorem dX9_valueNow_70 : decode cX9_valueNow 70 = .ok (.getfield 100, 3) := by decide +kernel
theorem dX9_valueNow_73 : decode cX9_valueNow 73 = .ok (.iload_n 3, 1) := by decide +kernel
theorem dX9_valueNow_74 : decode cX9_valueNow 74 = .ok (.iconst 1, 1) := by decide +kernel
theorem dX9_valueNow_75 : decode cX9_valueNow 75 = .ok (.isub, 1) := by decide +kernel
theorem dX9_valueNow_76 : decode cX9_valueNow 76 = .ok (.iaload, 1) := by decide +kernel
theorem dX9_valueNow_77 : decode cX9_valueNow 77 = .ok (.ifCond .eq 7, 3) := by decide +kernel
theorem dX9_valueNow_80 : decode cX9_valueNow 80 = .ok (.iconst 0, 1) := by decide +kernel
theorem dX9_valueNow_81 : decode cX9_valueNow 81 = .ok (.goto 4, 3) := by decide +kernel
theorem dX9_valueNow_84 : decode cX9_valueNow 84 = .ok (.iconst 1, 1) := by decide +kernel
theorem dX9_valueNow_85 : decode cX9_valueNow 85 = .ok (.iastore, 1) := by decide +kernel
theorem dX9_valueNow_86 : decode cX9_valueNow 86 = .ok (.goto 33, 3) := by decide +kernel
theorem dX9_valueNow_89 : decode cX9_valueNow 89 = .ok (.iinc 3 (-1), 3) := by decide +kernel
theorem dX9_valueNow_92 : decode cX9_valueNow 92 = .ok (.aload_n 0, 1) := by decide +kernel
theorem dX9_valueNow_93 : decode cX9_valueNow 93 = .ok (.getfield 100, 3) := by decide +kernel
theorem dX9_valueNow_96 : decode cX9_valueNow 96 = .ok (.iload_n 3, 1) := by decide +kernel
theorem dX9_valueNow_97 : decode cX9_valueNow 97 = .ok (.iconst 1, 1) := by decide +kernel
theorem dX9_valueNow_98 : decode cX9_valueNow 98 = .ok (.isub, 1) := by decide +kernel
theorem dX9_valueNow_99 : decode cX9_valueNow 99 = .ok (.iload 5, 2) := by decide +kernel
theorem dX9_valueNow_101 : decode cX9_valueNow 101 = .ok (.aload_n 0, 1) := by decide +kernel
theorem dX9_valueNow_102 : decode cX9_valueNow 102 = .ok (.getfield 100, 3) := by decide +kernel
theorem dX9_valueNow_105 : decode cX9_valueNow 105 = .ok (.iload_n 3, 1) := by decide +kernel
theorem dX9_valueNow_106 : decode cX9_valueNow 106 = .ok (.iconst 1, 1) := by decide +kernel
theorem dX9_valueNow_107 : decode cX9_valueNow 107 = .ok (.isub, 1) := by decide +kernel
theorem dX9_valueNow_108 : decode cX9_valueNow 108 = .ok (.iaload, 1) := by decide +kernel
theorem dX9_valueNow_109 : decode cX9_valueNow 109 = .ok (.aload_n 0, 1) := by decide +kernel
theorem dX9_valueNow_110 : decode cX9_valueNow 110 = .ok (.getfield 100, 3) := by decide +kernel
theorem dX9_valueNow_113 : decode cX9_valueNow 113 = .ok (.iload_n 3, 1) := by decide +kernel
theorem dX9_valueNow_114 : decode cX9_valueNow 114 = .ok (.iaload, 1) := by decide +kernel
theorem dX9_valueNow_115 : decode cX9_valueNow 115 = .ok (.invokestatic 330, 3) := by decide +kernel
