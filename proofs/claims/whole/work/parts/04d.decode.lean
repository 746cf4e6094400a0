theorem dX8_bribe_0 : decode cX8_bribe 0 = .ok (.aload_n 0, 1) := by decide +kernel
theorem dX8_bribe_1 : decode cX8_bribe 1 = .ok (.iload_n 1, 1) := by decide +kernel
theorem dX8_bribe_2 : decode cX8_bribe 2 = .ok (.invokevirtual 163, 3) := by decide +kernel
theorem dX8_bribe_5 : decode cX8_bribe 5 = .ok (.iload_n 2, 1) := by decide +kernel
theorem dX8_bribe_6 : decode cX8_bribe 6 = .ok (.iconst 1, 1) := by decide +kernel
theorem dX8_bribe_7 : decode cX8_bribe 7 = .ok (.bipush 9, 2) := by decide +kernel
theorem dX8_bribe_9 : decode cX8_bribe 9 = .ok (.invokestatic 208, 3) := by decide +kernel
theorem dX8_bribe_12 : decode cX8_bribe 12 = .ok (.ifCond .ne 17, 3) := by decide +kernel
theorem dX8_bribe_15 : decode cX8_bribe 15 = .ok (.iload_n 2, 1) := by decide +kernel
theorem dX8_bribe_16 : decode cX8_bribe 16 = .ok (.aload_n 0, 1) := by decide +kernel
theorem dX8_bribe_17 : decode cX8_bribe 17 = .ok (.getfield 42, 3) := by decide +kernel
theorem dX8_bribe_20 : decode cX8_bribe 20 = .ok (.getfield 64, 3) := by decide +kernel
theorem dX8_bribe_23 : decode cX8_bribe 23 = .ok (.getfield 140, 3) := by decide +kernel
theorem dX8_bribe_26 : decode cX8_bribe 26 = .ok (.if_icmp .le 10, 3) := by decide +kernel
theorem dX8_bribe_29 : decode cX8_bribe 29 = .ok (.aload_n 0, 1) := by decide +kernel
theorem dX8_bribe_30 : decode cX8_bribe 30 = .ok (.bipush (-10), 2) := by decide +kernel
theorem dX8_bribe_32 : decode cX8_bribe 32 = .ok (.invokevirtual 212, 3) := by decide +kernel
theorem dX8_bribe_35 : decode cX8_bribe 35 = .ok (.ireturn, 1) := by decide +kernel
theorem dX8_bribe_36 : decode cX8_bribe 36 = .ok (.aload_n 0, 1) := by decide +kernel
theorem dX8_bribe_37 : decode cX8_bribe 37 = .ok (.getfield 42, 3) := by decide +kernel
theorem dX8_bribe_40 : decode cX8_bribe 40 = .ok (.invokevirtual 215, 3) := by decide +kernel
theorem dX8_bribe_43 : decode cX8_bribe 43 = .ok (.aload_n 0, 1) := by decide +kernel
theorem dX8_bribe_44 : decode cX8_bribe 44 = .ok (.getfield 42, 3) := by decide +kernel
theorem dX8_bribe_47 : decode cX8_bribe 47 = .ok (.getfield 64, 3) := by decide +kernel
theorem dX8_bribe_50 : decode cX8_bribe 50 = .ok (.dup, 1) := by decide +kernel
theorem dX8_bribe_51 : decode cX8_bribe 51 = .ok (.getfield 140, 3) := by decide +kernel
theorem dX8_bribe_54 : decode cX8_bribe 54 = .ok (.iload_n 2, 1) := by decide +kernel
theorem dX8_bribe_55 : decode cX8_bribe 55 = .ok (.isub, 1) := by decide +kernel
theorem dX8_bribe_56 : decode cX8_bribe 56 = .ok (.putfield 140, 3) := by decide +kernel
theorem dX8_bribe_59 : decode cX8_bribe 59 = .ok (.aload_n 0, 1) := by decide +kernel
theorem dX8_bribe_60 : decode cX8_bribe 60 = .ok (.getfield 42, 3) := by decide +kernel
theorem dX8_bribe_63 : decode cX8_bribe 63 = .ok (.getfield 64, 3) := by decide +kernel
theorem dX8_bribe_66 : decode cX8_bribe 66 = .ok (.getfield 166, 3) := by decide +kernel
theorem dX8_bribe_69 : decode cX8_bribe 69 = .ok (.iload_n 1, 1) := by decide +kernel
theorem dX8_bribe_70 : decode cX8_bribe 70 = .ok (.bipush 9, 2) := by decide +kernel
theorem dX8_bribe_72 : decode cX8_bribe 72 = .ok (.aload_n 0, 1) := by decide +kernel
theorem dX8_bribe_73 : decode cX8_bribe 73 = .ok (.getfield 42, 3) := by decide +kernel
theorem dX8_bribe_76 : decode cX8_bribe 76 = .ok (.getfield 64, 3) := by decide +kernel
theorem dX8_bribe_79 : decode cX8_bribe 79 = .ok (.getfield 166, 3) := by decide +kernel
theorem dX8_bribe_82 : decode cX8_bribe 82 = .ok (.iload_n 1, 1) := by decide +kernel
theorem dX8_bribe_83 : decode cX8_bribe 83 = .ok (.iaload, 1) := by decide +kernel
theorem dX8_bribe_84 : decode cX8_bribe 84 = .ok (.iload_n 2, 1) := by decide +kernel
theorem dX8_bribe_85 : decode cX8_bribe 85 = .ok (.iadd, 1) := by decide +kernel
theorem dX8_bribe_86 : decode cX8_bribe 86 = .ok (.invokestatic 222, 3) := by decide +kernel
theorem dX8_bribe_89 : decode cX8_bribe 89 = .ok (.iastore, 1) := by decide +kernel
theorem dX8_bribe_90 : decode cX8_bribe 90 = .ok (.aload_n 0, 1) := by decide +kernel
theorem dX8_bribe_91 : decode cX8_bribe 91 = .ok (.getfield 42, 3) := by decide +kernel
theorem dX8_bribe_94 : decode cX8_bribe 94 = .ok (.getfield 64, 3) := by decide +kernel
theorem dX8_bribe_97 : decode cX8_bribe 97 = .ok (.getfield 166, 3) := by decide +kernel
theorem dX8_bribe_100 : decode cX8_bribe 100 = .ok (.iload_n 1, 1) := by decide +kernel
theorem dX8_bribe_101 : decode cX8_bribe 101 = .ok (.iaload, 1) := by decide +kernel
theorem dX8_bribe_102 : decode cX8_bribe 102 = .ok (.ireturn, 1) := by decide +kernel
set_option maxRecDepth 20000 in
theorem ggX8_move_X8_checkMotion : GoodIn wsX8_move wsX8_checkMotion := goodIn_ca (goodIn_r _ [8, 9, 10, 11, 12, 52, 53, 54, 55, 56, 57, 58, 59, 60, 61, 62, 63, 64, 81, 82, 83, 84, 85, 86, 87, 88, 89, 90, 91, 92, 93, 94, 95, 96] (by decide +kernel) (by decide +kernel)) (goodIn_sub (fun _ h => List.mem_cons_of_mem _ (List.mem_append_right _ h)) (by decide +kernel))
set_option maxRecDepth 20000 in
theorem gX8_move_X8_checkMotion : GoodIn wsX8_move (wsV RX8 177 RX8 yX8_checkMotion wsX8_checkMotion) := goodIn_app (goodIn_of _ (by decide +kernel)) ggX8_move_X8_checkMotion
set_option maxRecDepth 20000 in
theorem ggX8_move_X7_isPassed : GoodIn wsX8_move wsX7_isPassed := goodIn_r _ [17, 18, 72, 73, 74, 75, 76, 77, 78, 79, 80] (by decide +kernel) (by decide +kernel)
set_option maxRecDepth 20000 in
theorem gX8_move_X7_isPassed : GoodIn wsX8_move (wsV RX8 194 RX7 yX7_isPassed wsX7_isPassed) := goodIn_app (goodIn_of _ (by decide +kernel)) ggX8_move_X7_isPassed
set_option maxRecDepth 20000 in
theorem ggX8_move_X8_isOutside : GoodIn wsX8_move wsX8_isOutside := goodIn_r _ [21] (by decide +kernel) (by decide +kernel)
set_option maxRecDepth 20000 in
theorem gX8_move_X8_isOutside : GoodIn wsX8_move (va_wsS RX8 208 yX8_isOutside wsX8_isOutside) := goodIn_app (goodIn_of _ (by decide +kernel)) ggX8_move_X8_isOutside
set_option maxRecDepth 20000 in
theorem ggX8_move_X8_refuseAct : GoodIn wsX8_move wsX8_refuseAct := goodIn_r _ [25, 1, 26, 52, 53, 54, 55, 56, 57, 58, 59, 60, 61, 62, 63, 64, 65, 66, 67, 68, 69, 70, 71] (by decide +kernel) (by decide +kernel)
set_option maxRecDepth 20000 in
theorem gX8_move_X8_refuseAct : GoodIn wsX8_move (wsV RX8 212 RX8 yX8_refuseAct wsX8_refuseAct) := goodIn_app (goodIn_of _ (by decide +kernel)) ggX8_move_X8_refuseAct
set_option maxRecDepth 20000 in
theorem ggX8_move_X0_keepAct : GoodIn wsX8_move wsX0_keepAct := goodIn_r _ [31, 32, 33, 34, 35, 36, 37, 38, 39, 40, 41, 16, 42, 43, 44, 45, 46, 47, 48, 18, 49, 50, 51, 65, 66, 67, 68, 69, 70, 71, 72, 73, 74, 75, 76, 77, 78, 79, 80] (by decide +kernel) (by decide +kernel)
set_option maxRecDepth 20000 in
theorem gX8_move_X0_keepAct : GoodIn wsX8_move (wsV RX8 215 RX0 yX0_keepAct wsX0_keepAct) := goodIn_app (goodIn_of _ (by decide +kernel)) ggX8_move_X0_keepAct
theorem dX8_move_0 : decode cX8_move 0 = .ok (.aload_n 0, 1) := by decide +kernel
theorem dX8_move_1 : decode cX8_move 1 = .ok (.iload_n 1, 1) := by decide +kernel
theorem dX8_move_2 : decode cX8_move 2 = .ok (.invokevirtual 177, 3) := by decide +kernel
theorem dX8_move_5 : decode cX8_move 5 = .ok (.aload_n 0, 1) := by decide +kernel
theorem dX8_move_6 : decode cX8_move 6 = .ok (.getfield 42, 3) := by decide +kernel
theorem dX8_move_9 : decode cX8_move 9 = .ok (.getfield 64, 3) := by decide +kernel
theorem dX8_move_12 : decode cX8_move 12 = .ok (.iload_n 1, 1) := by decide +kernel
theorem dX8_move_13 : decode cX8_move 13 = .ok (.invokevirtual 194, 3) := by decide +kernel
theorem dX8_move_16 : decode cX8_move 16 = .ok (.ifCond .ne 13, 3) := by decide +kernel
theorem dX8_move_19 : decode cX8_move 19 = .ok (.iload_n 2, 1) := by decide +kernel
theorem dX8_move_20 : decode cX8_move 20 = .ok (.iconst 0, 1) := by decide +kernel
theorem dX8_move_21 : decode cX8_move 21 = .ok (.bipush 24, 2) := by decide +kernel
theorem dX8_move_23 : decode cX8_move 23 = .ok (.invokestatic 208, 3) := by decide +kernel
theorem dX8_move_26 : decode cX8_move 26 = .ok (.ifCond .eq 9, 3) := by decide +kernel
theorem dX8_move_29 : decode cX8_move 29 = .ok (.aload_n 0, 1) := by decide +kernel
theorem dX8_move_30 : decode cX8_move 30 = .ok (.iconst (-1), 1) := by decide +kernel
theorem dX8_move_31 : decode cX8_move 31 = .ok (.invokevirtual 212, 3) := by decide +kernel
theorem dX8_move_34 : decode cX8_move 34 = .ok (.ireturn, 1) := by decide +kernel
theorem dX8_move_35 : decode cX8_move 35 = .ok (.aload_n 0, 1) := by decide +kernel
theorem dX8_move_36 : decode cX8_move 36 = .ok (.getfield 42, 3) := by decide +kernel
theorem dX8_move_39 : decode cX8_move 39 = .ok (.invokevirtual 215, 3) := by decide +kernel
theorem dX8_move_42 : decode cX8_move 42 = .ok (.aload_n 0, 1) := by decide +kernel
theorem dX8_move_43 : decode cX8_move 43 = .ok (.getfield 42, 3) := by decide +kernel
theorem dX8_move_46 : decode cX8_move 46 = .ok (.getfield 64, 3) := by decide +kernel
theorem dX8_move_49 : decode cX8_move 49 = .ok (.getfield 183, 3) := by decide +kernel
theorem dX8_move_52 : decode cX8_move 52 = .ok (.iload_n 1, 1) := by decide +kernel
theorem dX8_move_53 : decode cX8_move 53 = .ok (.iaload, 1) := by decide +kernel
theorem dX8_move_54 : decode cX8_move 54 = .ok (.istore_n 3, 1) := by decide +kernel
theorem dX8_move_55 : decode cX8_move 55 = .ok (.aload_n 0, 1) := by decide +kernel
theorem dX8_move_56 : decode cX8_move 56 = .ok (.getfield 42, 3) := by decide +kernel
theorem dX8_move_59 : decode cX8_move 59 = .ok (.getfield 64, 3) := by decide +kernel
theorem dX8_move_62 : decode cX8_move 62 = .ok (.getfield 183, 3) := by decide +kernel
theorem dX8_move_65 : decode cX8_move 65 = .ok (.iload_n 1, 1) := by decide +kernel
theorem dX8_move_66 : decode cX8_move 66 = .ok (.iload_n 2, 1) := by decide +kernel
theorem dX8_move_67 : decode cX8_move 67 = .ok (.iastore, 1) := by decide +kernel
theorem dX8_move_68 : decode cX8_move 68 = .ok (.iload_n 3, 1) := by decide +kernel
theorem dX8_move_69 : decode cX8_move 69 = .ok (.ireturn, 1) := by decide +kernel
set_option maxRecDepth 20000 in
theorem ggX8_undo_X0_takeBackAct : GoodIn wsX8_undo wsX0_takeBackAct := goodIn_r _ [7, 8, 9, 10, 11, 12, 13, 14, 15, 16, 17, 18, 19, 20, 21, 22, 23, 24, 25, 26, 27, 28, 42, 43, 44, 45, 46, 47, 48, 49, 50, 51, 52, 53, 54, 55, 56, 57] (by decide +kernel) (by decide +kernel)
set_option maxRecDepth 20000 in
theorem gX8_undo_X0_takeBackAct : GoodIn wsX8_undo (wsV RX8 228 RX0 yX0_takeBackAct wsX0_takeBackAct) := goodIn_app (goodIn_of _ (by decide +kernel)) ggX8_undo_X0_takeBackAct
theorem dX8_undo_0 : decode cX8_undo 0 = .ok (.aload_n 0, 1) := by decide +kernel
theorem dX8_undo_1 : decode cX8_undo 1 = .ok (.getfield 42, 3) := by decide +kernel
theorem dX8_undo_4 : decode cX8_undo 4 = .ok (.getfield 152, 3) := by decide +kernel
theorem dX8_undo_7 : decode cX8_undo 7 = .ok (.ifCond .ne 5, 3) := by decide +kernel
theorem dX8_undo_10 : decode cX8_undo 10 = .ok (.iconst (-1), 1) := by decide +kernel
theorem dX8_undo_11 : decode cX8_undo 11 = .ok (.ireturn, 1) := by decide +kernel
theorem dX8_undo_12 : decode cX8_undo 12 = .ok (.aload_n 0, 1) := by decide +kernel
theorem dX8_undo_13 : decode cX8_undo 13 = .ok (.getfield 42, 3) := by decide +kernel
theorem dX8_undo_16 : decode cX8_undo 16 = .ok (.invokevirtual 228, 3) := by decide +kernel
theorem dX8_undo_19 : decode cX8_undo 19 = .ok (.aload_n 0, 1) := by decide +kernel
theorem dX8_undo_20 : decode cX8_undo 20 = .ok (.getfield 42, 3) := by decide +kernel
theorem dX8_undo_23 : decode cX8_undo 23 = .ok (.getfield 152, 3) := by decide +kernel
theorem dX8_undo_26 : decode cX8_undo 26 = .ok (.ireturn, 1) := by decide +kernel
set_option maxRecDepth 20000 in
theorem ggX8_saying_X8_checkRange : GoodIn wsX8_saying wsX8_checkRange := goodIn_ca (goodIn_r _ [5, 6, 7, 8, 9, 4, 10] (by decide +kernel) (by decide +kernel)) (goodIn_sub (fun _ h => List.mem_cons_of_mem _ (List.mem_append_right _ h)) (by decide +kernel))
set_option maxRecDepth 20000 in
theorem gX8_saying_X8_checkRange : GoodIn wsX8_saying (va_wsS RX8 231 yX8_checkRange wsX8_checkRange) := goodIn_app (goodIn_of _ (by decide +kernel)) ggX8_saying_X8_checkRange
set_option maxRecDepth 20000 in
theorem ggX8_saying_X4_saidInHour : GoodIn wsX8_saying wsX4_saidInHour := goodIn_r _ [15, 16, 17, 18, 19, 20, 21, 22, 23, 24, 25, 26, 27, 28, 29, 30, 31, 32, 33, 34, 35, 36, 37, 38, 39, 40, 41, 42, 43, 44, 45, 46, 47, 48, 49, 50, 51, 52, 53, 54, 55, 56, 57, 58, 59, 60, 61, 62, 63, 64, 65, 66, 67, 68, 69, 70, 71, 72, 73, 74, 75, 76, 77, 91, 92, 93, 94, 95, 96, 97, 98, 99, 100, 101, 102, 103, 104, 105, 106, 107, 108, 109, 110, 111, 112, 113, 114, 115, 116, 117, 118, 119, 120, 121, 122, 123, 124] (by decide +kernel) (by decide +kernel)
set_option maxRecDepth 20000 in
theorem gX8_saying_X4_saidInHour : GoodIn wsX8_saying (wsV RX8 235 RX4 yX4_saidInHour wsX4_saidInHour) := goodIn_app (goodIn_of _ (by decide +kernel)) ggX8_saying_X4_saidInHour
theorem dX8_saying_0 : decode cX8_saying 0 = .ok (.iload_n 1, 1) := by decide +kernel
theorem dX8_saying_1 : decode cX8_saying 1 = .ok (.iconst 1, 1) := by decide +kernel
theorem dX8_saying_2 : decode cX8_saying 2 = .ok (.bipush 96, 2) := by decide +kernel
theorem dX8_saying_4 : decode cX8_saying 4 = .ok (.invokestatic 231, 3) := by decide +kernel
theorem dX8_saying_7 : decode cX8_saying 7 = .ok (.aload_n 0, 1) := by decide +kernel
theorem dX8_saying_8 : decode cX8_saying 8 = .ok (.getfield 78, 3) := by decide +kernel
theorem dX8_saying_11 : decode cX8_saying 11 = .ok (.iload_n 1, 1) := by decide +kernel
theorem dX8_saying_12 : decode cX8_saying 12 = .ok (.invokevirtual 235, 3) := by decide +kernel
theorem dX8_saying_15 : decode cX8_saying 15 = .ok (.ireturn, 1) := by decide +kernel
set_option maxRecDepth 20000 in
theorem ggX8_when_X8_checkMotion : GoodIn wsX8_when wsX8_checkMotion := goodIn_ca (goodIn_r _ [9, 10, 11, 12, 13, 147, 148, 149, 150, 151, 152, 153, 154, 155, 156, 157, 158, 159, 176, 177, 178, 179, 180, 181, 182, 183, 184, 185, 186, 187, 188, 189, 190, 191] (by decide +kernel) (by decide +kernel)) (goodIn_sub (fun _ h => List.mem_cons_of_mem _ (List.mem_append_right _ h)) (by decide +kernel))
set_option maxRecDepth 20000 in
theorem gX8_when_X8_checkMotion : GoodIn wsX8_when (wsV RX8 177 RX8 yX8_checkMotion wsX8_checkMotion) := goodIn_app (goodIn_of _ (by decide +kernel)) ggX8_when_X8_checkMotion
set_option maxRecDepth 20000 in
theorem ggX8_when_X7_isPassed : GoodIn wsX8_when wsX7_isPassed := goodIn_r _ [18, 19, 167, 168, 169, 170, 171, 172, 173, 174, 175] (by decide +kernel) (by decide +kernel)
set_option maxRecDepth 20000 in
theorem gX8_when_X7_isPassed : GoodIn wsX8_when (wsV RX8 194 RX7 yX7_isPassed wsX7_isPassed) := goodIn_app (goodIn_of _ (by decide +kernel)) ggX8_when_X7_isPassed
set_option maxRecDepth 20000 in
theorem ggX8_when_X4_hourOfPassing : GoodIn wsX8_when wsX4_hourOfPassing := goodIn_r _ [24, 25, 26, 27, 28, 29, 30, 31, 17, 32, 33, 34, 35, 36, 37, 38, 19, 39, 40, 41, 42, 43, 44, 45, 46, 47, 48, 49, 50, 51, 52, 53, 54, 55, 56, 57, 58, 59, 60, 61, 62, 63, 64, 65, 66, 67, 68, 69, 70, 71, 72, 73, 74, 75, 76, 77, 78, 79, 80, 81, 82, 83, 84, 85, 86, 87, 88, 89, 15, 16, 18, 90, 91, 92, 93, 94, 95, 96, 97, 98, 99, 100, 101, 102, 103, 104, 105, 106, 107, 108, 109, 110, 111, 112, 113, 114, 115, 116, 117, 118, 119, 120, 121, 122, 123, 124, 125, 126, 127, 128, 129, 130, 131, 132, 133, 134, 135, 136, 137, 138, 139, 140, 141, 142, 143, 144, 145, 146, 192, 193, 194, 195, 196, 197, 167, 168, 169, 170, 171, 172, 173, 174, 175, 198, 199, 200, 176, 177, 178, 179, 180, 181, 182, 183, 184, 185, 186, 187, 188, 189, 190, 191] (by decide +kernel) (by decide +kernel)
set_option maxRecDepth 20000 in
theorem gX8_when_X4_hourOfPassing : GoodIn wsX8_when (wsV RX8 238 RX4 yX4_hourOfPassing wsX4_hourOfPassing) := goodIn_app (goodIn_of _ (by decide +kernel)) ggX8_when_X4_hourOfPassing
theorem dX8_when_0 : decode cX8_when 0 = .ok (.aload_n 0, 1) := by decide +kernel
theorem dX8_when_1 : decode cX8_when 1 = .ok (.iload_n 1, 1) := by decide +kernel
theorem dX8_when_2 : decode cX8_when 2 = .ok (.invokevirtual 177, 3) := by decide +kernel
theorem dX8_when_5 : decode cX8_when 5 = .ok (.aload_n 0, 1) := by decide +kernel
theorem dX8_when_6 : decode cX8_when 6 = .ok (.getfield 42, 3) := by decide +kernel
theorem dX8_when_9 : decode cX8_when 9 = .ok (.getfield 64, 3) := by decide +kernel
theorem dX8_when_12 : decode cX8_when 12 = .ok (.iload_n 1, 1) := by decide +kernel
theorem dX8_when_13 : decode cX8_when 13 = .ok (.invokevirtual 194, 3) := by decide +kernel
theorem dX8_when_16 : decode cX8_when 16 = .ok (.ifCond .eq 5, 3) := by decide +kernel
theorem dX8_when_19 : decode cX8_when 19 = .ok (.iconst 0, 1) := by decide +kernel
theorem dX8_when_20 : decode cX8_when 20 = .ok (.ireturn, 1) := by decide +kernel
theorem dX8_when_21 : decode cX8_when 21 = .ok (.aload_n 0, 1) := by decide +kernel
theorem dX8_when_22 : decode cX8_when 22 = .ok (.getfield 78, 3) := by decide +kernel
theorem dX8_when_25 : decode cX8_when 25 = .ok (.iload_n 1, 1) := by decide +kernel
theorem dX8_when_26 : decode cX8_when 26 = .ok (.aload_n 0, 1) := by decide +kernel
theorem dX8_when_27 : decode cX8_when 27 = .ok (.getfield 42, 3) := by decide +kernel
theorem dX8_when_30 : decode cX8_when 30 = .ok (.getfield 64, 3) := by decide +kernel
theorem dX8_when_33 : decode cX8_when 33 = .ok (.getfield 183, 3) := by decide +kernel
theorem dX8_when_36 : decode cX8_when 36 = .ok (.iload_n 1, 1) := by decide +kernel
theorem dX8_when_37 : decode cX8_when 37 = .ok (.iaload, 1) := by decide +kernel
theorem dX8_when_38 : decode cX8_when 38 = .ok (.bipush 96, 2) := by decide +kernel
theorem dX8_when_40 : decode cX8_when 40 = .ok (.invokevirtual 238, 3) := by decide +kernel
theorem dX8_when_43 : decode cX8_when 43 = .ok (.ireturn, 1) := by decide +kernel
set_option maxRecDepth 20000 in
theorem ggX8_then_X8_checkWhat : GoodIn wsX8_then wsX8_checkWhat := goodIn_ca (goodIn_r _ [7, 8, 9, 10, 11, 6, 12] (by decide +kernel) (by decide +kernel)) (goodIn_sub (fun _ h => List.mem_cons_of_mem _ (List.mem_append_left _ (List.mem_append_right _ h))) (by decide +kernel))
set_option maxRecDepth 20000 in
theorem gX8_then_X8_checkWhat : GoodIn wsX8_then (va_wsS RX8 242 yX8_checkWhat wsX8_checkWhat) := goodIn_app (goodIn_of _ (by decide +kernel)) ggX8_then_X8_checkWhat
set_option maxRecDepth 20000 in
theorem ggX8_then_X8_checkRange : GoodIn wsX8_then wsX8_checkRange := goodIn_ca (goodIn_r _ [15, 16, 17, 10, 11, 6, 12] (by decide +kernel) (by decide +kernel)) (goodIn_sub (fun _ h => List.mem_cons_of_mem _ (List.mem_append_right _ h)) (by decide +kernel))
set_option maxRecDepth 20000 in
theorem gX8_then_X8_checkRange : GoodIn wsX8_then (va_wsS RX8 231 yX8_checkRange wsX8_checkRange) := goodIn_app (goodIn_of _ (by decide +kernel)) ggX8_then_X8_checkRange
set_option maxRecDepth 20000 in
theorem ggX8_then_X4_townAfter : GoodIn wsX8_then wsX4_townAfter := goodIn_r _ [22, 23, 24, 25, 26, 27, 28, 29, 30, 31, 32, 33, 34, 35, 36, 37, 38, 39, 40, 41, 42, 43, 44, 45, 46, 47, 48, 49, 50, 51, 52, 53, 54, 55, 56, 57, 58, 59, 60, 61, 62, 63, 64, 65, 66, 67, 68, 69, 70, 71, 72, 73, 74, 75, 76, 77, 78, 79, 80, 81, 82, 83, 84, 85, 86, 87, 88, 89, 90, 91, 92, 93, 94, 95, 96, 97, 98, 99, 100, 101, 102, 103, 104, 105, 106, 107, 108, 109, 110, 111, 112, 113, 114, 115, 116, 117, 118, 119, 120, 121, 122, 123, 124, 125, 126, 127, 128, 129, 130, 131, 132, 133, 134, 135, 136, 137, 138, 139, 140, 141, 142, 143, 144, 145, 146, 147, 170, 171, 172, 173, 174, 175, 161, 162, 163, 164, 165, 166, 167, 168, 169, 176, 177, 178, 179, 180, 181, 182, 183, 184, 185, 186, 187, 188, 189, 190, 191, 192, 193, 194] (by decide +kernel) (by decide +kernel)
set_option maxRecDepth 20000 in
theorem gX8_then_X4_townAfter : GoodIn wsX8_then (wsV RX8 246 RX4 yX4_townAfter wsX4_townAfter) := goodIn_app (goodIn_of _ (by decide +kernel)) ggX8_then_X4_townAfter
theorem dX8_then_0 : decode cX8_then 0 = .ok (.iload_n 2, 1) := by decide +kernel
theorem dX8_then_1 : decode cX8_then 1 = .ok (.iconst 1, 1) := by decide +kernel
theorem dX8_then_2 : decode cX8_then 2 = .ok (.invokestatic 242, 3) := by decide +kernel
theorem dX8_then_5 : decode cX8_then 5 = .ok (.iload_n 1, 1) := by decide +kernel
theorem dX8_then_6 : decode cX8_then 6 = .ok (.iconst 0, 1) := by decide +kernel
theorem dX8_then_7 : decode cX8_then 7 = .ok (.bipush 96, 2) := by decide +kernel
theorem dX8_then_9 : decode cX8_then 9 = .ok (.invokestatic 231, 3) := by decide +kernel
theorem dX8_then_12 : decode cX8_then 12 = .ok (.aload_n 0, 1) := by decide +kernel
theorem dX8_then_13 : decode cX8_then 13 = .ok (.getfield 78, 3) := by decide +kernel
theorem dX8_then_16 : decode cX8_then 16 = .ok (.iload_n 1, 1) := by decide +kernel
theorem dX8_then_17 : decode cX8_then 17 = .ok (.iconst (-1), 1) := by decide +kernel
theorem dX8_then_18 : decode cX8_then 18 = .ok (.invokevirtual 246, 3) := by decide +kernel
theorem dX8_then_21 : decode cX8_then 21 = .ok (.astore_n 3, 1) := by decide +kernel
theorem dX8_then_22 : decode cX8_then 22 = .ok (.iload_n 2, 1) := by decide +kernel
theorem dX8_then_23 : decode cX8_then 23 = .ok (.ifCond .ne 10, 3) := by decide +kernel
theorem dX8_then_26 : decode cX8_then 26 = .ok (.aload_n 3, 1) := by decide +kernel
theorem dX8_then_27 : decode cX8_then 27 = .ok (.getfield 140, 3) := by decide +kernel
theorem dX8_then_30 : decode cX8_then 30 = .ok (.goto 7, 3) := by decide +kernel
theorem dX8_then_33 : decode cX8_then 33 = .ok (.aload_n 3, 1) := by decide +kernel
theorem dX8_then_34 : decode cX8_then 34 = .ok (.getfield 143, 3) := by decide +kernel
theorem dX8_then_37 : decode cX8_then 37 = .ok (.ireturn, 1) := by decide +kernel
set_option maxRecDepth 20000 in
theorem ggX8_fails_X8_checkWhat : GoodIn wsX8_fails wsX8_checkWhat := goodIn_ca (goodIn_r _ [5, 6, 7, 8, 9, 4, 10] (by decide +kernel) (by decide +kernel)) (goodIn_sub (fun _ h => List.mem_cons_of_mem _ (List.mem_append_right _ h)) (by decide +kernel))
set_option maxRecDepth 20000 in
theorem gX8_fails_X8_checkWhat : GoodIn wsX8_fails (va_wsS RX8 242 yX8_checkWhat wsX8_checkWhat) := goodIn_app (goodIn_of _ (by decide +kernel)) ggX8_fails_X8_checkWhat
set_option maxRecDepth 20000 in
theorem ggX8_fails_X4_firstSilentHour : GoodIn wsX8_fails wsX4_firstSilentHour := goodIn_r _ [15, 16, 17, 18, 19, 20, 21, 22, 23, 24, 25, 26, 27, 28, 29, 30, 31, 32, 33, 34, 35, 36, 37, 38, 39, 40, 41, 42, 43, 44, 45, 46, 47, 48, 49, 50, 51, 52, 53, 54, 55, 56, 57, 58, 59, 60, 61, 62, 63, 64, 65, 66, 67, 68, 69, 70, 71, 72, 73, 74, 75, 76, 77, 96, 97, 98, 99, 100, 101, 102, 103, 104, 105, 106, 107, 108, 109, 110, 111, 112, 113, 114, 115, 116, 117, 118, 119, 120, 121, 122, 123, 124, 125, 126, 127, 128, 129] (by decide +kernel) (by decide +kernel)
set_option maxRecDepth 20000 in
theorem gX8_fails_X4_firstSilentHour : GoodIn wsX8_fails (wsV RX8 250 RX4 yX4_firstSilentHour wsX4_firstSilentHour) := goodIn_app (goodIn_of _ (by decide +kernel)) ggX8_fails_X4_firstSilentHour
set_option maxRecDepth 20000 in
theorem ggX8_fails_X4_firstHoarseHour : GoodIn wsX8_fails wsX4_firstHoarseHour := goodIn_r _ [81, 16, 17, 82, 18, 19, 20, 21, 22, 23, 24, 25, 26, 27, 28, 29, 30, 31, 32, 33, 34, 35, 36, 37, 38, 39, 40, 41, 42, 43, 44, 45, 46, 47, 48, 49, 50, 51, 52, 53, 54, 55, 56, 57, 58, 59, 60, 61, 62, 63, 64, 65, 66, 67, 68, 69, 70, 71, 72, 73, 74, 75, 76, 77, 96, 97, 98, 99, 100, 101, 102, 103, 104, 105, 106, 107, 108, 109, 110, 111, 112, 113, 114, 115, 116, 117, 118, 119, 120, 121, 122, 123, 124, 125, 126, 127, 128, 129] (by decide +kernel) (by decide +kernel)
set_option maxRecDepth 20000 in
theorem gX8_fails_X4_firstHoarseHour : GoodIn wsX8_fails (wsV RX8 253 RX4 yX4_firstHoarseHour wsX4_firstHoarseHour) := goodIn_app (goodIn_of _ (by decide +kernel)) ggX8_fails_X4_firstHoarseHour
theorem dX8_fails_0 : decode cX8_fails 0 = .ok (.iload_n 1, 1) := by decide +kernel
theorem dX8_fails_1 : decode cX8_fails 1 = .ok (.iconst 1, 1) := by decide +kernel
theorem dX8_fails_2 : decode cX8_fails 2 = .ok (.invokestatic 242, 3) := by decide +kernel
theorem dX8_fails_5 : decode cX8_fails 5 = .ok (.iload_n 1, 1) := by decide +kernel
theorem dX8_fails_6 : decode cX8_fails 6 = .ok (.ifCond .ne 13, 3) := by decide +kernel
theorem dX8_fails_9 : decode cX8_fails 9 = .ok (.aload_n 0, 1) := by decide +kernel
theorem dX8_fails_10 : decode cX8_fails 10 = .ok (.getfield 78, 3) := by decide +kernel
theorem dX8_fails_13 : decode cX8_fails 13 = .ok (.invokevirtual 250, 3) := by decide +kernel
theorem dX8_fails_16 : decode cX8_fails 16 = .ok (.goto 10, 3) := by decide +kernel
theorem dX8_fails_19 : decode cX8_fails 19 = .ok (.aload_n 0, 1) := by decide +kernel
theorem dX8_fails_20 : decode cX8_fails 20 = .ok (.getfield 78, 3) := by decide +kernel
theorem dX8_fails_23 : decode cX8_fails 23 = .ok (.invokevirtual 253, 3) := by decide +kernel
theorem dX8_fails_26 : decode cX8_fails 26 = .ok (.ireturn, 1) := by decide +kernel
set_option maxRecDepth 20000 in
theorem ggX8_calls_X8_checkRange : GoodIn wsX8_calls wsX8_checkRange := goodIn_ca (goodIn_r _ [5, 6, 7, 8, 9, 4, 10] (by decide +kernel) (by decide +kernel)) (goodIn_sub (fun _ h => List.mem_cons_of_mem _ (List.mem_append_right _ h)) (by decide +kernel))
set_option maxRecDepth 20000 in
theorem gX8_calls_X8_checkRange : GoodIn wsX8_calls (va_wsS RX8 231 yX8_checkRange wsX8_checkRange) := goodIn_app (goodIn_of _ (by decide +kernel)) ggX8_calls_X8_checkRange
set_option maxRecDepth 20000 in
theorem ggX8_calls_X4_timesSaid : GoodIn wsX8_calls wsX4_timesSaid := goodIn_r _ [15, 16, 17, 18, 19, 20, 21, 22, 23, 24, 25, 26, 27, 28, 29, 30, 31, 32, 33, 34, 35, 36, 37, 38, 39, 40, 41, 42, 43, 44, 45, 46, 47, 48, 49, 50, 51, 52, 53, 54, 55, 56, 57, 58, 59, 60, 61, 62, 63, 64, 65, 66, 67, 68, 69, 70, 71, 72, 73, 74, 75, 76, 77, 91, 92, 93, 94, 95, 96, 97, 98, 99, 100, 101, 102, 103, 104, 105, 106, 107, 108, 109, 110, 111, 112, 113, 114, 115, 116, 117, 118, 119, 120, 121, 122, 123, 124] (by decide +kernel) (by decide +kernel)
set_option maxRecDepth 20000 in
theorem gX8_calls_X4_timesSaid : GoodIn wsX8_calls (wsV RX8 256 RX4 yX4_timesSaid wsX4_timesSaid) := goodIn_app (goodIn_of _ (by decide +kernel)) ggX8_calls_X4_timesSaid
theorem dX8_calls_0 : decode cX8_calls 0 = .ok (.iload_n 1, 1) := by decide +kernel
theorem dX8_calls_1 : decode cX8_calls 1 = .ok (.iconst 0, 1) := by decide +kernel
theorem dX8_calls_2 : decode cX8_calls 2 = .ok (.bipush 24, 2) := by decide +kernel
theorem dX8_calls_4 : decode cX8_calls 4 = .ok (.invokestatic 231, 3) := by decide +kernel
theorem dX8_calls_7 : decode cX8_calls 7 = .ok (.iload_n 2, 1) := by decide +kernel
theorem dX8_calls_8 : decode cX8_calls 8 = .ok (.iconst 0, 1) := by decide +kernel
theorem dX8_calls_9 : decode cX8_calls 9 = .ok (.bipush 96, 2) := by decide +kernel
theorem dX8_calls_11 : decode cX8_calls 11 = .ok (.invokestatic 231, 3) := by decide +kernel
theorem dX8_calls_14 : decode cX8_calls 14 = .ok (.aload_n 0, 1) := by decide +kernel
theorem dX8_calls_15 : decode cX8_calls 15 = .ok (.getfield 78, 3) := by decide +kernel
theorem dX8_calls_18 : decode cX8_calls 18 = .ok (.iload_n 1, 1) := by decide +kernel
theorem dX8_calls_19 : decode cX8_calls 19 = .ok (.iload_n 2, 1) := by decide +kernel
theorem dX8_calls_20 : decode cX8_calls 20 = .ok (.invokevirtual 256, 3) := by decide +kernel
theorem dX8_calls_23 : decode cX8_calls 23 = .ok (.ireturn, 1) := by decide +kernel
set_option maxRecDepth 20000 in
theorem ggX8_toWind_X8_checkRange : GoodIn wsX8_toWind wsX8_checkRange := goodIn_ca (goodIn_r _ [11, 12, 13, 14, 15, 10, 16] (by decide +kernel) (by decide +kernel)) (goodIn_sub (fun _ h => List.mem_cons_of_mem _ (List.mem_append_right _ h)) (by decide +kernel))
set_option maxRecDepth 20000 in
theorem gX8_toWind_X8_checkRange : GoodIn wsX8_toWind (va_wsS RX8 231 yX8_checkRange wsX8_checkRange) := goodIn_app (goodIn_of _ (by decide +kernel)) ggX8_toWind_X8_checkRange
theorem dX8_toWind_0 : decode cX8_toWind 0 = .ok (.iload_n 1, 1) := by decide +kernel
theorem dX8_toWind_1 : decode cX8_toWind 1 = .ok (.iconst 1, 1) := by decide +kernel
theorem dX8_toWind_2 : decode cX8_toWind 2 = .ok (.bipush 96, 2) := by decide +kernel
theorem dX8_toWind_4 : decode cX8_toWind 4 = .ok (.invokestatic 231, 3) := by decide +kernel
theorem dX8_toWind_7 : decode cX8_toWind 7 = .ok (.iconst 0, 1) := by decide +kernel
theorem dX8_toWind_8 : decode cX8_toWind 8 = .ok (.iload_n 1, 1) := by decide +kernel
theorem dX8_toWind_9 : decode cX8_toWind 9 = .ok (.aload_n 0, 1) := by decide +kernel
theorem dX8_toWind_10 : decode cX8_toWind 10 = .ok (.getfield 42, 3) := by decide +kernel
theorem dX8_toWind_13 : decode cX8_toWind 13 = .ok (.getfield 64, 3) := by decide +kernel
theorem dX8_toWind_16 : decode cX8_toWind 16 = .ok (.getfield 134, 3) := by decide +kernel
theorem dX8_toWind_19 : decode cX8_toWind 19 = .ok (.isub, 1) := by decide +kernel
theorem dX8_toWind_20 : decode cX8_toWind 20 = .ok (.invokestatic 259, 3) := by decide +kernel
theorem dX8_toWind_23 : decode cX8_toWind 23 = .ok (.ireturn, 1) := by decide +kernel
set_option maxRecDepth 20000 in
theorem ggX8_moving_X8_checkMotion : GoodIn wsX8_moving wsX8_checkMotion := goodIn_ca (goodIn_r _ [8, 9, 10, 11, 12, 152, 153, 154, 155, 156, 157, 158, 159, 160, 161, 162, 163, 164, 172, 173, 174, 175, 176, 177, 178, 179, 180, 181, 182, 183, 184, 185, 186, 187] (by decide +kernel) (by decide +kernel)) (goodIn_sub (fun _ h => List.mem_cons_of_mem _ (List.mem_append_right _ h)) (by decide +kernel))
set_option maxRecDepth 20000 in
theorem gX8_moving_X8_checkMotion : GoodIn wsX8_moving (wsV RX8 177 RX8 yX8_checkMotion wsX8_checkMotion) := goodIn_app (goodIn_of _ (by decide +kernel)) ggX8_moving_X8_checkMotion
set_option maxRecDepth 20000 in
theorem ggX8_moving_X8_checkWhat : GoodIn wsX8_moving wsX8_checkWhat := goodIn_ca (goodIn_r _ [15, 9, 10, 16, 17, 7, 18] (by decide +kernel) (by decide +kernel)) (goodIn_sub (fun _ h => List.mem_cons_of_mem _ (List.mem_append_right _ h)) (by decide +kernel))
set_option maxRecDepth 20000 in
theorem gX8_moving_X8_checkWhat : GoodIn wsX8_moving (va_wsS RX8 242 yX8_checkWhat wsX8_checkWhat) := goodIn_app (goodIn_of _ (by decide +kernel)) ggX8_moving_X8_checkWhat
set_option maxRecDepth 20000 in
theorem ggX8_moving_X7_isPassed : GoodIn wsX8_moving wsX7_isPassed := goodIn_r _ [23, 24, 188, 189, 190, 191, 192, 193, 194, 195, 196] (by decide +kernel) (by decide +kernel)
set_option maxRecDepth 20000 in
theorem gX8_moving_X7_isPassed : GoodIn wsX8_moving (wsV RX8 194 RX7 yX7_isPassed wsX7_isPassed) := goodIn_app (goodIn_of _ (by decide +kernel)) ggX8_moving_X7_isPassed
set_option maxRecDepth 20000 in
theorem ggX8_moving_X4_hourOfPassing : GoodIn wsX8_moving wsX4_hourOfPassing := goodIn_r _ [29, 30, 31, 32, 33, 34, 35, 36, 22, 37, 38, 39, 40, 41, 42, 43, 24, 44, 45, 46, 47, 48, 49, 50, 51, 52, 53, 54, 55, 56, 57, 58, 59, 60, 61, 62, 63, 64, 65, 66, 67, 68, 69, 70, 71, 72, 73, 74, 75, 76, 77, 78, 79, 80, 81, 82, 83, 84, 85, 86, 87, 88, 89, 90, 91, 92, 93, 94, 20, 21, 23, 95, 96, 97, 98, 99, 100, 101, 102, 103, 104, 105, 106, 107, 108, 109, 110, 111, 112, 113, 114, 115, 116, 117, 118, 119, 120, 121, 122, 123, 124, 125, 126, 127, 128, 129, 130, 131, 132, 133, 134, 135, 136, 137, 138, 139, 140, 141, 142, 143, 144, 145, 146, 147, 148, 149, 150, 151, 197, 198, 199, 200, 201, 202, 188, 189, 190, 191, 192, 193, 194, 195, 196, 203, 204, 205, 172, 173, 174, 175, 176, 177, 178, 179, 180, 181, 182, 183, 184, 185, 186, 187] (by decide +kernel) (by decide +kernel)
set_option maxRecDepth 20000 in
theorem gX8_moving_X4_hourOfPassing : GoodIn wsX8_moving (wsV RX8 238 RX4 yX4_hourOfPassing wsX4_hourOfPassing) := goodIn_app (goodIn_of _ (by decide +kernel)) ggX8_moving_X4_hourOfPassing
theorem dX8_moving_0 : decode cX8_moving 0 = .ok (.aload_n 0, 1) := by decide +kernel
theorem dX8_moving_1 : decode cX8_moving 1 = .ok (.iload_n 1, 1) := by decide +kernel
theorem dX8_moving_2 : decode cX8_moving 2 = .ok (.invokevirtual 177, 3) := by decide +kernel
theorem dX8_moving_5 : decode cX8_moving 5 = .ok (.iload_n 2, 1) := by decide +kernel
theorem dX8_moving_6 : decode cX8_moving 6 = .ok (.iconst 1, 1) := by decide +kernel
theorem dX8_moving_7 : decode cX8_moving 7 = .ok (.invokestatic 242, 3) := by decide +kernel
theorem dX8_moving_10 : decode cX8_moving 10 = .ok (.aload_n 0, 1) := by decide +kernel
theorem dX8_moving_11 : decode cX8_moving 11 = .ok (.getfield 42, 3) := by decide +kernel
theorem dX8_moving_14 : decode cX8_moving 14 = .ok (.getfield 64, 3) := by decide +kernel
theorem dX8_moving_17 : decode cX8_moving 17 = .ok (.iload_n 1, 1) := by decide +kernel
theorem dX8_moving_18 : decode cX8_moving 18 = .ok (.invokevirtual 194, 3) := by decide +kernel
theorem dX8_moving_21 : decode cX8_moving 21 = .ok (.ifCond .eq 5, 3) := by decide +kernel
theorem dX8_moving_24 : decode cX8_moving 24 = .ok (.iconst (-1), 1) := by decide +kernel
theorem dX8_moving_25 : decode cX8_moving 25 = .ok (.ireturn, 1) := by decide +kernel
theorem dX8_moving_26 : decode cX8_moving 26 = .ok (.iconst (-1), 1) := by decide +kernel
theorem dX8_moving_27 : decode cX8_moving 27 = .ok (.istore_n 3, 1) := by decide +kernel
theorem dX8_moving_28 : decode cX8_moving 28 = .ok (.bipush 49, 2) := by decide +kernel
theorem dX8_moving_30 : decode cX8_moving 30 = .ok (.istore 4, 2) := by decide +kernel
theorem dX8_moving_32 : decode cX8_moving 32 = .ok (.iconst 0, 1) := by decide +kernel
theorem dX8_moving_33 : decode cX8_moving 33 = .ok (.istore 5, 2) := by decide +kernel
theorem dX8_moving_35 : decode cX8_moving 35 = .ok (.iload 5, 2) := by decide +kernel
theorem dX8_moving_37 : decode cX8_moving 37 = .ok (.bipush 24, 2) := by decide +kernel
theorem dX8_moving_39 : decode cX8_moving 39 = .ok (.if_icmp .gt 38, 3) := by decide +kernel
theorem dX8_moving_42 : decode cX8_moving 42 = .ok (.aload_n 0, 1) := by decide +kernel
theorem dX8_moving_43 : decode cX8_moving 43 = .ok (.getfield 78, 3) := by decide +kernel
theorem dX8_moving_46 : decode cX8_moving 46 = .ok (.iload_n 1, 1) := by decide +kernel
theorem dX8_moving_47 : decode cX8_moving 47 = .ok (.iload 5, 2) := by decide +kernel
theorem dX8_moving_49 : decode cX8_moving 49 = .ok (.iload 4, 2) := by decide +kernel
theorem dX8_moving_51 : decode cX8_moving 51 = .ok (.iconst 1, 1) := by decide +kernel
theorem dX8_moving_52 : decode cX8_moving 52 = .ok (.isub, 1) := by decide +kernel
theorem dX8_moving_53 : decode cX8_moving 53 = .ok (.invokevirtual 238, 3) := by decide +kernel
theorem dX8_moving_56 : decode cX8_moving 56 = .ok (.istore 6, 2) := by decide +kernel
theorem dX8_moving_58 : decode cX8_moving 58 = .ok (.iload 6, 2) := by decide +kernel
theorem dX8_moving_60 : decode cX8_moving 60 = .ok (.iconst (-1), 1) := by decide +kernel
theorem dX8_moving_61 : decode cX8_moving 61 = .ok (.if_icmp .eq 10, 3) := by decide +kernel
theorem dX8_moving_64 : decode cX8_moving 64 = .ok (.iload 5, 2) := by decide +kernel
theorem dX8_moving_66 : decode cX8_moving 66 = .ok (.istore_n 3, 1) := by decide +kernel
theorem dX8_moving_67 : decode cX8_moving 67 = .ok (.iload 6, 2) := by decide +kernel
theorem dX8_moving_69 : decode cX8_moving 69 = .ok (.istore 4, 2) := by decide +kernel
theorem dX8_moving_71 : decode cX8_moving 71 = .ok (.iinc 5 1, 3) := by decide +kernel
theorem dX8_moving_74 : decode cX8_moving 74 = .ok (.goto (-39), 3) := by decide +kernel
theorem dX8_moving_77 : decode cX8_moving 77 = .ok (.iload_n 2, 1) := by decide +kernel
theorem dX8_moving_78 : decode cX8_moving 78 = .ok (.iconst 1, 1) := by decide +kernel
theorem dX8_moving_79 : decode cX8_moving 79 = .ok (.if_icmp .ne 13, 3) := by decide +kernel
theorem dX8_moving_82 : decode cX8_moving 82 = .ok (.iload_n 3, 1) := by decide +kernel
theorem dX8_moving_83 : decode cX8_moving 83 = .ok (.iconst (-1), 1) := by decide +kernel
theorem dX8_moving_84 : decode cX8_moving 84 = .ok (.if_icmp .eq 8, 3) := by decide +kernel
theorem dX8_moving_87 : decode cX8_moving 87 = .ok (.iload 4, 2) := by decide +kernel
theorem dX8_moving_89 : decode cX8_moving 89 = .ok (.goto 4, 3) := by decide +kernel
theorem dX8_moving_92 : decode cX8_moving 92 = .ok (.iload_n 3, 1) := by decide +kernel
theorem dX8_moving_93 : decode cX8_moving 93 = .ok (.ireturn, 1) := by decide +kernel
set_option maxRecDepth 20000 in
theorem ggX8_votes_X8_checkMotion : GoodIn wsX8_votes wsX8_checkMotion := goodIn_ca (goodIn_r _ [8, 9, 10, 11, 12, 73, 74, 75, 76, 77, 78, 79, 80, 81, 82, 83, 84, 85, 93, 94, 95, 96, 97, 98, 99, 100, 101, 102, 103, 104, 105, 106, 107, 108] (by decide +kernel) (by decide +kernel)) (goodIn_sub (fun _ h => List.mem_cons_of_mem _ (List.mem_append_left _ (List.mem_append_right _ h))) (by decide +kernel))
set_option maxRecDepth 20000 in
theorem gX8_votes_X8_checkMotion : GoodIn wsX8_votes (wsV RX8 177 RX8 yX8_checkMotion wsX8_checkMotion) := goodIn_app (goodIn_of _ (by decide +kernel)) ggX8_votes_X8_checkMotion
set_option maxRecDepth 20000 in
theorem ggX8_votes_X8_checkRange : GoodIn wsX8_votes wsX8_checkRange := goodIn_ca (goodIn_r _ [15, 16, 17, 18, 19, 7, 20] (by decide +kernel) (by decide +kernel)) (goodIn_sub (fun _ h => List.mem_cons_of_mem _ (List.mem_append_right _ h)) (by decide +kernel))
set_option maxRecDepth 20000 in
theorem gX8_votes_X8_checkRange : GoodIn wsX8_votes (va_wsS RX8 231 yX8_checkRange wsX8_checkRange) := goodIn_app (goodIn_of _ (by decide +kernel)) ggX8_votes_X8_checkRange
set_option maxRecDepth 20000 in
theorem ggX8_votes_X2_supporters : GoodIn wsX8_votes wsX2_supporters := goodIn_r _ [25, 26, 27, 28, 29, 30, 31, 24, 32, 33, 34, 35, 36, 37, 38, 39, 40, 41, 42, 43, 44, 45, 46, 47, 48, 49, 50, 51, 52, 53, 54, 55, 56, 57, 58, 59, 60, 61, 62, 63, 64, 65, 66, 67, 68, 69, 70, 71, 72, 109, 110, 111, 93, 94, 95, 96, 97, 98, 99, 100, 101, 102, 103, 104, 105, 106, 107, 108, 112, 113, 114, 115, 116, 117, 118, 119, 120] (by decide +kernel) (by decide +kernel)
set_option maxRecDepth 20000 in
theorem gX8_votes_X2_supporters : GoodIn wsX8_votes (wsV RX8 262 RX2 yX2_supporters wsX2_supporters) := goodIn_app (goodIn_of _ (by decide +kernel)) ggX8_votes_X2_supporters
theorem dX8_votes_0 : decode cX8_votes 0 = .ok (.aload_n 0, 1) := by decide +kernel
theorem dX8_votes_1 : decode cX8_votes 1 = .ok (.iload_n 1, 1) := by decide +kernel
theorem dX8_votes_2 : decode cX8_votes 2 = .ok (.invokevirtual 177, 3) := by decide +kernel
theorem dX8_votes_5 : decode cX8_votes 5 = .ok (.iload_n 2, 1) := by decide +kernel
theorem dX8_votes_6 : decode cX8_votes 6 = .ok (.iconst 0, 1) := by decide +kernel
theorem dX8_votes_7 : decode cX8_votes 7 = .ok (.bipush 24, 2) := by decide +kernel
theorem dX8_votes_9 : decode cX8_votes 9 = .ok (.invokestatic 231, 3) := by decide +kernel
theorem dX8_votes_12 : decode cX8_votes 12 = .ok (.aload_n 0, 1) := by decide +kernel
theorem dX8_votes_13 : decode cX8_votes 13 = .ok (.getfield 58, 3) := by decide +kernel
theorem dX8_votes_16 : decode cX8_votes 16 = .ok (.aload_n 0, 1) := by decide +kernel
theorem dX8_votes_17 : decode cX8_votes 17 = .ok (.getfield 42, 3) := by decide +kernel
theorem dX8_votes_20 : decode cX8_votes 20 = .ok (.getfield 64, 3) := by decide +kernel
theorem dX8_votes_23 : decode cX8_votes 23 = .ok (.iload_n 1, 1) := by decide +kernel
theorem dX8_votes_24 : decode cX8_votes 24 = .ok (.iload_n 2, 1) := by decide +kernel
theorem dX8_votes_25 : decode cX8_votes 25 = .ok (.invokevirtual 262, 3) := by decide +kernel
theorem dX8_votes_28 : decode cX8_votes 28 = .ok (.ireturn, 1) := by decide +kernel
set_option maxRecDepth 20000 in
theorem ggX8_bought_X8_checkMotion : GoodIn wsX8_bought wsX8_checkMotion := goodIn_ca (goodIn_r _ [9, 10, 11, 12, 13, 83, 84, 85, 86, 87, 88, 89, 90, 91, 92, 93, 94, 95, 103, 104, 105, 106, 107, 108, 109, 110, 111, 112, 113, 114, 115, 116, 117, 118] (by decide +kernel) (by decide +kernel)) (goodIn_sub (fun _ h => List.mem_cons_of_mem _ (List.mem_append_left _ (List.mem_append_right _ h))) (by decide +kernel))
set_option maxRecDepth 20000 in
theorem gX8_bought_X8_checkMotion : GoodIn wsX8_bought (wsV RX8 177 RX8 yX8_checkMotion wsX8_checkMotion) := goodIn_app (goodIn_of _ (by decide +kernel)) ggX8_bought_X8_checkMotion
set_option maxRecDepth 20000 in
theorem ggX8_bought_X8_checkRange : GoodIn wsX8_bought wsX8_checkRange := goodIn_ca (goodIn_r _ [16, 17, 18, 19, 20, 8, 21] (by decide +kernel) (by decide +kernel)) (goodIn_sub (fun _ h => List.mem_cons_of_mem _ (List.mem_append_right _ h)) (by decide +kernel))
set_option maxRecDepth 20000 in
theorem gX8_bought_X8_checkRange : GoodIn wsX8_bought (va_wsS RX8 231 yX8_checkRange wsX8_checkRange) := goodIn_app (goodIn_of _ (by decide +kernel)) ggX8_bought_X8_checkRange
set_option maxRecDepth 20000 in
theorem ggX8_bought_X2_supporters : GoodIn wsX8_bought wsX2_supporters := goodIn_r _ [26, 27, 28, 29, 30, 31, 32, 25, 33, 34, 35, 36, 37, 38, 39, 40, 41, 42, 43, 44, 45, 46, 47, 48, 49, 50, 51, 52, 53, 54, 55, 56, 57, 58, 59, 60, 61, 62, 63, 64, 65, 66, 67, 68, 69, 70, 71, 72, 73, 119, 120, 121, 103, 104, 105, 106, 107, 108, 109, 110, 111, 112, 113, 114, 115, 116, 117, 118, 122, 123, 124, 125, 126, 127, 128, 129, 130] (by decide +kernel) (by decide +kernel)
set_option maxRecDepth 20000 in
theorem gX8_bought_X2_supporters : GoodIn wsX8_bought (wsV RX8 262 RX2 yX2_supporters wsX2_supporters) := goodIn_app (goodIn_of _ (by decide +kernel)) ggX8_bought_X2_supporters
set_option maxRecDepth 20000 in
theorem ggX8_bought_X3_votesLacking : GoodIn wsX8_bought wsX3_votesLacking := goodIn_r _ [78, 79, 80, 81, 38, 39, 40, 82, 57, 58, 59, 60, 61, 62, 131, 132, 133, 134, 103, 104, 105, 106, 107, 108, 109, 110, 111, 112, 113, 114, 115, 116, 117, 118] (by decide +kernel) (by decide +kernel)
set_option maxRecDepth 20000 in
theorem gX8_bought_X3_votesLacking : GoodIn wsX8_bought (wsV RX8 266 RX3 yX3_votesLacking wsX3_votesLacking) := goodIn_app (goodIn_of _ (by decide +kernel)) ggX8_bought_X3_votesLacking
theorem dX8_bought_0 : decode cX8_bought 0 = .ok (.aload_n 0, 1) := by decide +kernel
theorem dX8_bought_1 : decode cX8_bought 1 = .ok (.iload_n 1, 1) := by decide +kernel
theorem dX8_bought_2 : decode cX8_bought 2 = .ok (.invokevirtual 177, 3) := by decide +kernel
theorem dX8_bought_5 : decode cX8_bought 5 = .ok (.iload_n 2, 1) := by decide +kernel
theorem dX8_bought_6 : decode cX8_bought 6 = .ok (.iconst 0, 1) := by decide +kernel
theorem dX8_bought_7 : decode cX8_bought 7 = .ok (.bipush 24, 2) := by decide +kernel
theorem dX8_bought_9 : decode cX8_bought 9 = .ok (.invokestatic 231, 3) := by decide +kernel
theorem dX8_bought_12 : decode cX8_bought 12 = .ok (.aload_n 0, 1) := by decide +kernel
theorem dX8_bought_13 : decode cX8_bought 13 = .ok (.getfield 71, 3) := by decide +kernel
theorem dX8_bought_16 : decode cX8_bought 16 = .ok (.aload_n 0, 1) := by decide +kernel
theorem dX8_bought_17 : decode cX8_bought 17 = .ok (.getfield 58, 3) := by decide +kernel
theorem dX8_bought_20 : decode cX8_bought 20 = .ok (.aload_n 0, 1) := by decide +kernel
theorem dX8_bought_21 : decode cX8_bought 21 = .ok (.getfield 42, 3) := by decide +kernel
theorem dX8_bought_24 : decode cX8_bought 24 = .ok (.getfield 64, 3) := by decide +kernel
theorem dX8_bought_27 : decode cX8_bought 27 = .ok (.iload_n 1, 1) := by decide +kernel
theorem dX8_bought_28 : decode cX8_bought 28 = .ok (.iload_n 2, 1) := by decide +kernel
theorem dX8_bought_29 : decode cX8_bought 29 = .ok (.invokevirtual 262, 3) := by decide +kernel
theorem dX8_bought_32 : decode cX8_bought 32 = .ok (.invokevirtual 266, 3) := by decide +kernel
theorem dX8_bought_35 : decode cX8_bought 35 = .ok (.ireturn, 1) := by decide +kernel
set_option maxRecDepth 20000 in
theorem ggX8_order_X8_checkWhat : GoodIn wsX8_order wsX8_checkWhat := goodIn_ca (goodIn_r _ [5, 6, 7, 8, 9, 4, 10] (by decide +kernel) (by decide +kernel)) (goodIn_sub (fun _ h => List.mem_cons_of_mem _ (List.mem_append_right _ h)) (by decide +kernel))
set_option maxRecDepth 20000 in
theorem gX8_order_X8_checkWhat : GoodIn wsX8_order (va_wsS RX8 242 yX8_checkWhat wsX8_checkWhat) := goodIn_app (goodIn_of _ (by decide +kernel)) ggX8_order_X8_checkWhat
set_option maxRecDepth 20000 in
theorem ggX8_order_X3_bestOrder : GoodIn wsX8_order wsX3_bestOrder := goodIn_r _ [15, 16, 17, 18, 19, 20, 14, 21, 22, 23, 24, 25, 26, 27, 28, 29, 30, 31, 32, 33, 34, 35, 36, 37, 38, 39, 40, 41, 42, 43, 44, 45, 46, 47, 48, 49, 50, 51, 52, 53, 54, 55, 56, 57, 58, 73, 74, 75, 76, 77, 78, 79, 80, 81, 82, 83, 84, 85, 86, 87, 88, 89, 90, 91, 92, 93, 94, 95, 96, 97, 98, 99, 100, 101] (by decide +kernel) (by decide +kernel)
set_option maxRecDepth 20000 in
theorem gX8_order_X3_bestOrder : GoodIn wsX8_order (wsV RX8 269 RX3 yX3_bestOrder wsX3_bestOrder) := goodIn_app (goodIn_of _ (by decide +kernel)) ggX8_order_X3_bestOrder
set_option maxRecDepth 20000 in
theorem ggX8_order_X3_joyOf : GoodIn wsX8_order wsX3_joyOf := goodIn_r _ [46, 16, 17, 47, 48, 49, 35, 50, 37, 51, 73, 74, 75, 76, 77, 78, 79, 80, 81, 82, 83, 84, 85, 86, 87, 88, 89, 90, 91, 92] (by decide +kernel) (by decide +kernel)
set_option maxRecDepth 20000 in
theorem gX8_order_X3_joyOf : GoodIn wsX8_order (wsV RX8 272 RX3 yX3_joyOf wsX3_joyOf) := goodIn_app (goodIn_of _ (by decide +kernel)) ggX8_order_X3_joyOf
theorem dX8_order_0 : decode cX8_order 0 = .ok (.iload_n 1, 1) := by decide +kernel
theorem dX8_order_1 : decode cX8_order 1 = .ok (.iconst 1, 1) := by decide +kernel
theorem dX8_order_2 : decode cX8_order 2 = .ok (.invokestatic 242, 3) := by decide +kernel
theorem dX8_order_5 : decode cX8_order 5 = .ok (.aload_n 0, 1) := by decide +kernel
theorem dX8_order_6 : decode cX8_order 6 = .ok (.getfield 71, 3) := by decide +kernel
theorem dX8_order_9 : decode cX8_order 9 = .ok (.invokevirtual 269, 3) := by decide +kernel
theorem dX8_order_12 : decode cX8_order 12 = .ok (.istore_n 2, 1) := by decide +kernel
theorem dX8_order_13 : decode cX8_order 13 = .ok (.iload_n 1, 1) := by decide +kernel
theorem dX8_order_14 : decode cX8_order 14 = .ok (.ifCond .ne 14, 3) := by decide +kernel
theorem dX8_order_17 : decode cX8_order 17 = .ok (.aload_n 0, 1) := by decide +kernel
theorem dX8_order_18 : decode cX8_order 18 = .ok (.getfield 71, 3) := by decide +kernel
theorem dX8_order_21 : decode cX8_order 21 = .ok (.iload_n 2, 1) := by decide +kernel
theorem dX8_order_22 : decode cX8_order 22 = .ok (.invokevirtual 272, 3) := by decide +kernel
theorem dX8_order_25 : decode cX8_order 25 = .ok (.goto 4, 3) := by decide +kernel
theorem dX8_order_28 : decode cX8_order 28 = .ok (.iload_n 2, 1) := by decide +kernel
theorem dX8_order_29 : decode cX8_order 29 = .ok (.ireturn, 1) := by decide +kernel
set_option maxRecDepth 20000 in
theorem ggX8_bribery_X8_checkMotion : GoodIn wsX8_bribery wsX8_checkMotion := goodIn_ca (goodIn_r _ [6, 7, 8, 9, 10, 84, 85, 86, 87, 88, 89, 90, 91, 92, 93, 94, 95, 96, 97, 98, 99, 100, 101, 102, 103, 104, 105, 106, 107, 108, 109, 110, 111, 112] (by decide +kernel) (by decide +kernel)) (goodIn_sub (fun _ h => List.mem_cons_of_mem _ (List.mem_append_left _ (List.mem_append_right _ h))) (by decide +kernel))
set_option maxRecDepth 20000 in
theorem gX8_bribery_X8_checkMotion : GoodIn wsX8_bribery (wsV RX8 177 RX8 yX8_checkMotion wsX8_checkMotion) := goodIn_app (goodIn_of _ (by decide +kernel)) ggX8_bribery_X8_checkMotion
set_option maxRecDepth 20000 in
theorem ggX8_bribery_X8_checkRange : GoodIn wsX8_bribery wsX8_checkRange := goodIn_ca (goodIn_r _ [13, 14, 15, 16, 17, 5, 18] (by decide +kernel) (by decide +kernel)) (goodIn_sub (fun _ h => List.mem_cons_of_mem _ (List.mem_append_right _ h)) (by decide +kernel))
set_option maxRecDepth 20000 in
theorem gX8_bribery_X8_checkRange : GoodIn wsX8_bribery (va_wsS RX8 231 yX8_checkRange wsX8_checkRange) := goodIn_app (goodIn_of _ (by decide +kernel)) ggX8_bribery_X8_checkRange
set_option maxRecDepth 20000 in
theorem ggX8_bribery_X3_leastBribery : GoodIn wsX8_bribery wsX3_leastBribery := goodIn_r _ [23, 24, 25, 26, 27, 28, 29, 22, 30, 31, 32, 33, 34, 35, 36, 37, 38, 39, 40, 41, 42, 43, 44, 45, 46, 47, 48, 49, 50, 51, 52, 53, 54, 55, 56, 57, 58, 59, 60, 61, 62, 63, 64, 65, 66, 67, 68, 69, 70, 71, 72, 73, 74, 75, 76, 77, 78, 79, 80, 81, 82, 83, 113, 114, 115, 116, 97, 98, 99, 100, 101, 102, 103, 104, 105, 106, 107, 108, 109, 110, 111, 112, 117, 118, 119, 120, 121, 122, 123, 124, 125, 126, 127, 128] (by decide +kernel) (by decide +kernel)
set_option maxRecDepth 20000 in
theorem gX8_bribery_X3_leastBribery : GoodIn wsX8_bribery (wsV RX8 275 RX3 yX3_leastBribery wsX3_leastBribery) := goodIn_app (goodIn_of _ (by decide +kernel)) ggX8_bribery_X3_leastBribery
theorem dX8_bribery_0 : decode cX8_bribery 0 = .ok (.aload_n 0, 1) := by decide +kernel
theorem dX8_bribery_1 : decode cX8_bribery 1 = .ok (.iload_n 1, 1) := by decide +kernel
theorem dX8_bribery_2 : decode cX8_bribery 2 = .ok (.invokevirtual 177, 3) := by decide +kernel
theorem dX8_bribery_5 : decode cX8_bribery 5 = .ok (.iload_n 2, 1) := by decide +kernel
theorem dX8_bribery_6 : decode cX8_bribery 6 = .ok (.iconst 0, 1) := by decide +kernel
theorem dX8_bribery_7 : decode cX8_bribery 7 = .ok (.bipush 24, 2) := by decide +kernel
theorem dX8_bribery_9 : decode cX8_bribery 9 = .ok (.invokestatic 231, 3) := by decide +kernel
theorem dX8_bribery_12 : decode cX8_bribery 12 = .ok (.aload_n 0, 1) := by decide +kernel
theorem dX8_bribery_13 : decode cX8_bribery 13 = .ok (.getfield 71, 3) := by decide +kernel
theorem dX8_bribery_16 : decode cX8_bribery 16 = .ok (.iload_n 1, 1) := by decide +kernel
theorem dX8_bribery_17 : decode cX8_bribery 17 = .ok (.iload_n 2, 1) := by decide +kernel
theorem dX8_bribery_18 : decode cX8_bribery 18 = .ok (.invokevirtual 275, 3) := by decide +kernel
theorem dX8_bribery_21 : decode cX8_bribery 21 = .ok (.ireturn, 1) := by decide +kernel
set_option maxRecDepth 20000 in
theorem ggX8_needs_X8_checkMotion : GoodIn wsX8_needs wsX8_checkMotion := goodIn_ca (goodIn_r _ [9, 10, 11, 1, 12, 20, 21, 22, 23, 24, 25, 26, 27, 28, 29, 30, 31, 32, 49, 50, 51, 52, 53, 54, 55, 56, 57, 58, 59, 60, 61, 62, 63, 64] (by decide +kernel) (by decide +kernel)) (goodIn_sub (fun _ h => List.mem_cons_of_mem _ (List.mem_append_right _ h)) (by decide +kernel))
set_option maxRecDepth 20000 in
theorem gX8_needs_X8_checkMotion : GoodIn wsX8_needs (wsV RX8 177 RX8 yX8_checkMotion wsX8_checkMotion) := goodIn_app (goodIn_of _ (by decide +kernel)) ggX8_needs_X8_checkMotion
set_option maxRecDepth 20000 in
theorem ggX8_needs_X1_chainOf : GoodIn wsX8_needs wsX1_chainOf := goodIn_r _ [17, 18, 19, 49, 50, 51, 52, 53, 54, 55, 56, 57, 58, 59, 60, 61, 62, 63, 64] (by decide +kernel) (by decide +kernel)
set_option maxRecDepth 20000 in
theorem gX8_needs_X1_chainOf : GoodIn wsX8_needs (wsV RX8 198 RX1 yX1_chainOf wsX1_chainOf) := goodIn_app (goodIn_of _ (by decide +kernel)) ggX8_needs_X1_chainOf
theorem dX8_needs_0 : decode cX8_needs 0 = .ok (.aload_n 0, 1) := by decide +kernel
theorem dX8_needs_1 : decode cX8_needs 1 = .ok (.iload_n 1, 1) := by decide +kernel
theorem dX8_needs_2 : decode cX8_needs 2 = .ok (.invokevirtual 177, 3) := by decide +kernel
theorem dX8_needs_5 : decode cX8_needs 5 = .ok (.aload_n 0, 1) := by decide +kernel
theorem dX8_needs_6 : decode cX8_needs 6 = .ok (.getfield 23, 3) := by decide +kernel
theorem dX8_needs_9 : decode cX8_needs 9 = .ok (.iload_n 1, 1) := by decide +kernel
theorem dX8_needs_10 : decode cX8_needs 10 = .ok (.invokevirtual 198, 3) := by decide +kernel
theorem dX8_needs_13 : decode cX8_needs 13 = .ok (.aload_n 0, 1) := by decide +kernel
theorem dX8_needs_14 : decode cX8_needs 14 = .ok (.getfield 42, 3) := by decide +kernel
theorem dX8_needs_17 : decode cX8_needs 17 = .ok (.getfield 64, 3) := by decide +kernel
theorem dX8_needs_20 : decode cX8_needs 20 = .ok (.getfield 146, 3) := by decide +kernel
theorem dX8_needs_23 : decode cX8_needs 23 = .ok (.iconst (-1), 1) := by decide +kernel
theorem dX8_needs_24 : decode cX8_needs 24 = .ok (.ixor, 1) := by decide +kernel
theorem dX8_needs_25 : decode cX8_needs 25 = .ok (.iand, 1) := by decide +kernel
theorem dX8_needs_26 : decode cX8_needs 26 = .ok (.ireturn, 1) := by decide +kernel
set_option maxRecDepth 20000 in
theorem ggX8_allies_X8_checkAlderman : GoodIn wsX8_allies wsX8_checkAlderman := goodIn_ca (goodIn_r _ [6, 7, 8, 9, 10, 76, 77, 78, 79, 80, 81, 82, 83, 84, 85, 86, 87, 88, 89, 90, 91, 92, 93, 94, 95, 96, 97, 98, 99, 100, 101, 102, 103, 104] (by decide +kernel) (by decide +kernel)) (goodIn_sub (fun _ h => List.mem_cons_of_mem _ (List.mem_append_right _ h)) (by decide +kernel))
set_option maxRecDepth 20000 in
theorem gX8_allies_X8_checkAlderman : GoodIn wsX8_allies (wsV RX8 163 RX8 yX8_checkAlderman wsX8_checkAlderman) := goodIn_app (goodIn_of _ (by decide +kernel)) ggX8_allies_X8_checkAlderman
set_option maxRecDepth 20000 in
theorem ggX8_allies_X3_votesAlike : GoodIn wsX8_allies wsX3_votesAlike := goodIn_r _ [15, 16, 17, 18, 19, 20, 21, 22, 23, 24, 25, 26, 27, 14, 28, 29, 30, 31, 32, 33, 34, 35, 36, 37, 38, 39, 40, 41, 42, 43, 44, 45, 46, 47, 48, 49, 50, 51, 52, 53, 54, 55, 56, 57, 58, 59, 60, 61, 62, 63, 64, 65, 66, 67, 68, 69, 70, 71, 72, 73, 74, 75, 105, 106, 107, 108, 89, 90, 91, 92, 93, 94, 95, 96, 97, 98, 99, 100, 101, 102, 103, 104, 109, 110, 111, 112, 113, 114, 115, 116, 117, 118, 119, 120] (by decide +kernel) (by decide +kernel)
set_option maxRecDepth 20000 in
theorem gX8_allies_X3_votesAlike : GoodIn wsX8_allies (wsV RX8 278 RX3 yX3_votesAlike wsX3_votesAlike) := goodIn_app (goodIn_of _ (by decide +kernel)) ggX8_allies_X3_votesAlike
theorem dX8_allies_0 : decode cX8_allies 0 = .ok (.aload_n 0, 1) := by decide +kernel
theorem dX8_allies_1 : decode cX8_allies 1 = .ok (.iload_n 1, 1) := by decide +kernel
theorem dX8_allies_2 : decode cX8_allies 2 = .ok (.invokevirtual 163, 3) := by decide +kernel
theorem dX8_allies_5 : decode cX8_allies 5 = .ok (.aload_n 0, 1) := by decide +kernel
theorem dX8_allies_6 : decode cX8_allies 6 = .ok (.iload_n 2, 1) := by decide +kernel
theorem dX8_allies_7 : decode cX8_allies 7 = .ok (.invokevirtual 163, 3) := by decide +kernel
theorem dX8_allies_10 : decode cX8_allies 10 = .ok (.aload_n 0, 1) := by decide +kernel
theorem dX8_allies_11 : decode cX8_allies 11 = .ok (.getfield 71, 3) := by decide +kernel
theorem dX8_allies_14 : decode cX8_allies 14 = .ok (.iload_n 1, 1) := by decide +kernel
theorem dX8_allies_15 : decode cX8_allies 15 = .ok (.iload_n 2, 1) := by decide +kernel
theorem dX8_allies_16 : decode cX8_allies 16 = .ok (.invokevirtual 278, 3) := by decide +kernel
theorem dX8_allies_19 : decode cX8_allies 19 = .ok (.ireturn, 1) := by decide +kernel
set_option maxRecDepth 20000 in
theorem ggX8_passing_X8_checkRange : GoodIn wsX8_passing wsX8_checkRange := goodIn_ca (goodIn_r _ [6, 7, 8, 9, 10, 5, 11] (by decide +kernel) (by decide +kernel)) (goodIn_sub (fun _ h => List.mem_cons_of_mem _ (List.mem_append_right _ h)) (by decide +kernel))
set_option maxRecDepth 20000 in
theorem gX8_passing_X8_checkRange : GoodIn wsX8_passing (va_wsS RX8 231 yX8_checkRange wsX8_checkRange) := goodIn_app (goodIn_of _ (by decide +kernel)) ggX8_passing_X8_checkRange
set_option maxRecDepth 20000 in
theorem ggX8_passing_X4_townAfter : GoodIn wsX8_passing wsX4_townAfter := goodIn_r _ [16, 17, 18, 19, 20, 21, 22, 23, 24, 25, 26, 27, 28, 29, 30, 31, 32, 33, 34, 35, 36, 37, 38, 39, 40, 41, 42, 43, 44, 45, 46, 47, 48, 49, 50, 51, 52, 53, 54, 55, 56, 57, 58, 59, 60, 61, 62, 63, 64, 65, 66, 67, 68, 69, 70, 71, 72, 73, 74, 75, 76, 77, 78, 79, 80, 81, 82, 83, 84, 85, 86, 87, 88, 89, 90, 91, 92, 93, 94, 95, 96, 97, 98, 99, 100, 101, 102, 103, 104, 105, 106, 107, 108, 109, 110, 111, 112, 113, 114, 115, 116, 117, 118, 119, 120, 121, 122, 123, 124, 125, 126, 127, 128, 129, 130, 131, 132, 133, 134, 135, 136, 137, 138, 139, 140, 141, 164, 165, 166, 167, 168, 169, 155, 156, 157, 158, 159, 160, 161, 162, 163, 170, 171, 172, 173, 174, 175, 176, 177, 178, 179, 180, 181, 182, 183, 184, 185, 186, 187, 188] (by decide +kernel) (by decide +kernel)
set_option maxRecDepth 20000 in
theorem gX8_passing_X4_townAfter : GoodIn wsX8_passing (wsV RX8 246 RX4 yX4_townAfter wsX4_townAfter) := goodIn_app (goodIn_of _ (by decide +kernel)) ggX8_passing_X4_townAfter
theorem dX8_passing_0 : decode cX8_passing 0 = .ok (.iload_n 1, 1) := by decide +kernel
theorem dX8_passing_1 : decode cX8_passing 1 = .ok (.iconst 0, 1) := by decide +kernel
theorem dX8_passing_2 : decode cX8_passing 2 = .ok (.bipush 96, 2) := by decide +kernel
theorem dX8_passing_4 : decode cX8_passing 4 = .ok (.invokestatic 231, 3) := by decide +kernel
theorem dX8_passing_7 : decode cX8_passing 7 = .ok (.aload_n 0, 1) := by decide +kernel
theorem dX8_passing_8 : decode cX8_passing 8 = .ok (.getfield 78, 3) := by decide +kernel
theorem dX8_passing_11 : decode cX8_passing 11 = .ok (.iload_n 1, 1) := by decide +kernel
theorem dX8_passing_12 : decode cX8_passing 12 = .ok (.iconst (-1), 1) := by decide +kernel
theorem dX8_passing_13 : decode cX8_passing 13 = .ok (.invokevirtual 246, 3) := by decide +kernel
theorem dX8_passing_16 : decode cX8_passing 16 = .ok (.getfield 146, 3) := by decide +kernel
theorem dX8_passing_19 : decode cX8_passing 19 = .ok (.ireturn, 1) := by decide +kernel
set_option maxRecDepth 20000 in
theorem ggX8_toOil_X8_checkRange : GoodIn wsX8_toOil wsX8_checkRange := goodIn_ca (goodIn_r _ [12, 13, 14, 15, 16, 11, 17] (by decide +kernel) (by decide +kernel)) (goodIn_sub (fun _ h => List.mem_cons_of_mem _ (List.mem_append_right _ h)) (by decide +kernel))
set_option maxRecDepth 20000 in
theorem gX8_toOil_X8_checkRange : GoodIn wsX8_toOil (va_wsS RX8 231 yX8_checkRange wsX8_checkRange) := goodIn_app (goodIn_of _ (by decide +kernel)) ggX8_toOil_X8_checkRange
set_option maxRecDepth 20000 in
theorem ggX8_toOil_X4_timesSaid : GoodIn wsX8_toOil wsX4_timesSaid := goodIn_r _ [22, 23, 24, 25, 26, 27, 28, 29, 30, 31, 32, 33, 34, 35, 36, 37, 38, 39, 40, 41, 42, 43, 44, 45, 46, 47, 48, 49, 50, 51, 52, 53, 54, 55, 56, 57, 58, 59, 60, 7, 61, 62, 6, 8, 63, 64, 65, 66, 67, 68, 69, 70, 71, 72, 73, 74, 75, 76, 77, 78, 79, 80, 81, 111, 112, 113, 114, 115, 116, 102, 103, 104, 105, 106, 107, 108, 109, 110, 117, 118, 119, 120, 121, 122, 123, 124, 125, 126, 127, 128, 129, 130, 131, 132, 133, 134, 135] (by decide +kernel) (by decide +kernel)
set_option maxRecDepth 20000 in
theorem gX8_toOil_X4_timesSaid : GoodIn wsX8_toOil (wsV RX8 256 RX4 yX4_timesSaid wsX4_timesSaid) := goodIn_app (goodIn_of _ (by decide +kernel)) ggX8_toOil_X4_timesSaid
theorem dX8_toOil_0 : decode cX8_toOil 0 = .ok (.iload_n 1, 1) := by decide +kernel
theorem dX8_toOil_1 : decode cX8_toOil 1 = .ok (.iconst 1, 1) := by decide +kernel
theorem dX8_toOil_2 : decode cX8_toOil 2 = .ok (.bipush 96, 2) := by decide +kernel
theorem dX8_toOil_4 : decode cX8_toOil 4 = .ok (.invokestatic 231, 3) := by decide +kernel
theorem dX8_toOil_7 : decode cX8_toOil 7 = .ok (.iload_n 1, 1) := by decide +kernel
theorem dX8_toOil_8 : decode cX8_toOil 8 = .ok (.aload_n 0, 1) := by decide +kernel
theorem dX8_toOil_9 : decode cX8_toOil 9 = .ok (.getfield 78, 3) := by decide +kernel
theorem dX8_toOil_12 : decode cX8_toOil 12 = .ok (.iconst (-1), 1) := by decide +kernel
theorem dX8_toOil_13 : decode cX8_toOil 13 = .ok (.iload_n 1, 1) := by decide +kernel
theorem dX8_toOil_14 : decode cX8_toOil 14 = .ok (.invokevirtual 256, 3) := by decide +kernel
theorem dX8_toOil_17 : decode cX8_toOil 17 = .ok (.isub, 1) := by decide +kernel
theorem dX8_toOil_18 : decode cX8_toOil 18 = .ok (.istore_n 2, 1) := by decide +kernel
theorem dX8_toOil_19 : decode cX8_toOil 19 = .ok (.iload_n 2, 1) := by decide +kernel
theorem dX8_toOil_20 : decode cX8_toOil 20 = .ok (.bipush 99, 2) := by decide +kernel
theorem dX8_toOil_22 : decode cX8_toOil 22 = .ok (.if_icmp .le 7, 3) := by decide +kernel
theorem dX8_toOil_25 : decode cX8_toOil 25 = .ok (.iconst (-1), 1) := by decide +kernel
theorem dX8_toOil_26 : decode cX8_toOil 26 = .ok (.goto 19, 3) := by decide +kernel
theorem dX8_toOil_29 : decode cX8_toOil 29 = .ok (.iconst 0, 1) := by decide +kernel
theorem dX8_toOil_30 : decode cX8_toOil 30 = .ok (.iload_n 2, 1) := by decide +kernel
theorem dX8_toOil_31 : decode cX8_toOil 31 = .ok (.aload_n 0, 1) := by decide +kernel
theorem dX8_toOil_32 : decode cX8_toOil 32 = .ok (.getfield 42, 3) := by decide +kernel
theorem dX8_toOil_35 : decode cX8_toOil 35 = .ok (.getfield 64, 3) := by decide +kernel
theorem dX8_toOil_38 : decode cX8_toOil 38 = .ok (.getfield 131, 3) := by decide +kernel
theorem dX8_toOil_41 : decode cX8_toOil 41 = .ok (.isub, 1) := by decide +kernel
theorem dX8_toOil_42 : decode cX8_toOil 42 = .ok (.invokestatic 259, 3) := by decide +kernel
theorem dX8_toOil_45 : decode cX8_toOil 45 = .ok (.ireturn, 1) := by decide +kernel
set_option maxRecDepth 20000 in
theorem ggX8_hush_X8_checkWhat : GoodIn wsX8_hush wsX8_checkWhat := goodIn_ca (goodIn_r _ [5, 6, 7, 8, 9, 4, 10] (by decide +kernel) (by decide +kernel)) (goodIn_sub (fun _ h => List.mem_cons_of_mem _ (List.mem_append_left _ (List.mem_append_right _ h))) (by decide +kernel))
set_option maxRecDepth 20000 in
theorem gX8_hush_X8_checkWhat : GoodIn wsX8_hush (va_wsS RX8 242 yX8_checkWhat wsX8_checkWhat) := goodIn_app (goodIn_of _ (by decide +kernel)) ggX8_hush_X8_checkWhat
set_option maxRecDepth 20000 in
theorem ggX8_hush_X8_checkRange : GoodIn wsX8_hush wsX8_checkRange := goodIn_ca (goodIn_r _ [13, 14, 15, 8, 9, 4, 10] (by decide +kernel) (by decide +kernel)) (goodIn_sub (fun _ h => List.mem_cons_of_mem _ (List.mem_append_right _ h)) (by decide +kernel))
set_option maxRecDepth 20000 in
theorem gX8_hush_X8_checkRange : GoodIn wsX8_hush (va_wsS RX8 231 yX8_checkRange wsX8_checkRange) := goodIn_app (goodIn_of _ (by decide +kernel)) ggX8_hush_X8_checkRange
set_option maxRecDepth 20000 in
theorem ggX8_hush_X4_longestHush : GoodIn wsX8_hush wsX4_longestHush := goodIn_r _ [20, 21, 22, 23, 24, 25, 26, 27, 28, 29, 30, 31, 32, 33, 34, 35, 36, 37, 38, 39, 40, 41, 42, 43, 44, 45, 46, 47, 48, 49, 50, 51, 52, 53, 54, 55, 56, 57, 58, 59, 60, 61, 62, 63, 64, 65, 66, 67, 68, 69, 70, 71, 72, 73, 74, 75, 76, 77, 78, 79, 80, 81, 82, 96, 97, 98, 99, 100, 101, 102, 103, 104, 105, 106, 107, 108, 109, 110, 111, 112, 113, 114, 115, 116, 117, 118, 119, 120, 121, 122, 123, 124, 125, 126, 127, 128, 129] (by decide +kernel) (by decide +kernel)
set_option maxRecDepth 20000 in
theorem gX8_hush_X4_longestHush : GoodIn wsX8_hush (wsV RX8 281 RX4 yX4_longestHush wsX4_longestHush) := goodIn_app (goodIn_of _ (by decide +kernel)) ggX8_hush_X4_longestHush
theorem dX8_hush_0 : decode cX8_hush 0 = .ok (.iload_n 2, 1) := by decide +kernel
theorem dX8_hush_1 : decode cX8_hush 1 = .ok (.iconst 1, 1) := by decide +kernel
theorem dX8_hush_2 : decode cX8_hush 2 = .ok (.invokestatic 242, 3) := by decide +kernel
theorem dX8_hush_5 : decode cX8_hush 5 = .ok (.iload_n 1, 1) := by decide +kernel
theorem dX8_hush_6 : decode cX8_hush 6 = .ok (.iconst 0, 1) := by decide +kernel
theorem dX8_hush_7 : decode cX8_hush 7 = .ok (.bipush 96, 2) := by decide +kernel
theorem dX8_hush_9 : decode cX8_hush 9 = .ok (.invokestatic 231, 3) := by decide +kernel
theorem dX8_hush_12 : decode cX8_hush 12 = .ok (.aload_n 0, 1) := by decide +kernel
theorem dX8_hush_13 : decode cX8_hush 13 = .ok (.getfield 78, 3) := by decide +kernel
theorem dX8_hush_16 : decode cX8_hush 16 = .ok (.iload_n 1, 1) := by decide +kernel
theorem dX8_hush_17 : decode cX8_hush 17 = .ok (.iload_n 2, 1) := by decide +kernel
theorem dX8_hush_18 : decode cX8_hush 18 = .ok (.iconst 1, 1) := by decide +kernel
theorem dX8_hush_19 : decode cX8_hush 19 = .ok (.if_icmp .ne 7, 3) := by decide +kernel
theorem dX8_hush_22 : decode cX8_hush 22 = .ok (.iconst 1, 1) := by decide +kernel
theorem dX8_hush_23 : decode cX8_hush 23 = .ok (.goto 4, 3) := by decide +kernel
theorem dX8_hush_26 : decode cX8_hush 26 = .ok (.iconst 0, 1) := by decide +kernel
theorem dX8_hush_27 : decode cX8_hush 27 = .ok (.invokevirtual 281, 3) := by decide +kernel
theorem dX8_hush_30 : decode cX8_hush 30 = .ok (.ireturn, 1) := by decide +kernel
set_option maxRecDepth 20000 in
theorem ggX8_word_X8_checkRange : GoodIn wsX8_word wsX8_checkRange := goodIn_ca (goodIn_r _ [5, 6, 7, 8, 9, 4, 10] (by decide +kernel) (by decide +kernel)) (goodIn_sub (fun _ h => List.mem_cons_of_mem _ (List.mem_append_right _ h)) (by decide +kernel))
set_option maxRecDepth 20000 in
theorem gX8_word_X8_checkRange : GoodIn wsX8_word (va_wsS RX8 231 yX8_checkRange wsX8_checkRange) := goodIn_app (goodIn_of _ (by decide +kernel)) ggX8_word_X8_checkRange
set_option maxRecDepth 20000 in
theorem ggX8_word_X4_mostSaid : GoodIn wsX8_word wsX4_mostSaid := goodIn_r _ [15, 16, 17, 18, 19, 14, 20, 21, 22, 23, 24, 25, 26, 27, 28, 29, 30, 31, 32, 33, 34, 35, 36, 37, 38, 39, 40, 41, 42, 43, 44, 45, 46, 47, 48, 49, 50, 51, 52, 53, 54, 55, 56, 57, 58, 59, 60, 61, 62, 63, 64, 65, 66, 67, 68, 69, 70, 71, 72, 73, 74, 75, 76, 77, 78, 79, 80, 81, 82, 83, 84, 85, 86, 100, 101, 102, 103, 104, 105, 106, 107, 108, 109, 110, 111, 112, 113, 114, 115, 116, 117, 118, 119, 120, 121, 122, 123, 124, 125, 126, 127, 128, 129, 130, 131, 132, 133] (by decide +kernel) (by decide +kernel)
set_option maxRecDepth 20000 in
theorem gX8_word_X4_mostSaid : GoodIn wsX8_word (wsV RX8 285 RX4 yX4_mostSaid wsX4_mostSaid) := goodIn_app (goodIn_of _ (by decide +kernel)) ggX8_word_X4_mostSaid
theorem dX8_word_0 : decode cX8_word 0 = .ok (.iload_n 1, 1) := by decide +kernel
theorem dX8_word_1 : decode cX8_word 1 = .ok (.iconst 0, 1) := by decide +kernel
theorem dX8_word_2 : decode cX8_word 2 = .ok (.bipush 96, 2) := by decide +kernel
theorem dX8_word_4 : decode cX8_word 4 = .ok (.invokestatic 231, 3) := by decide +kernel
theorem dX8_word_7 : decode cX8_word 7 = .ok (.aload_n 0, 1) := by decide +kernel
theorem dX8_word_8 : decode cX8_word 8 = .ok (.getfield 78, 3) := by decide +kernel
theorem dX8_word_11 : decode cX8_word 11 = .ok (.iload_n 1, 1) := by decide +kernel
theorem dX8_word_12 : decode cX8_word 12 = .ok (.invokevirtual 285, 3) := by decide +kernel
theorem dX8_word_15 : decode cX8_word 15 = .ok (.ireturn, 1) := by decide +kernel
set_option maxRecDepth 20000 in
theorem ggX8_heldUp_X8_checkMotion : GoodIn wsX8_heldUp wsX8_checkMotion := goodIn_ca (goodIn_r _ [7, 8, 9, 10, 11, 142, 143, 144, 145, 146, 147, 148, 149, 150, 151, 152, 153, 154, 164, 165, 166, 167, 168, 169, 170, 171, 172, 173, 174, 175, 176, 177, 178, 179] (by decide +kernel) (by decide +kernel)) (goodIn_sub (fun _ h => List.mem_cons_of_mem _ (List.mem_append_right _ h)) (by decide +kernel))
set_option maxRecDepth 20000 in
theorem gX8_heldUp_X8_checkMotion : GoodIn wsX8_heldUp (wsV RX8 177 RX8 yX8_checkMotion wsX8_checkMotion) := goodIn_app (goodIn_of _ (by decide +kernel)) ggX8_heldUp_X8_checkMotion
set_option maxRecDepth 20000 in
theorem ggX8_heldUp_X4_townAfter : GoodIn wsX8_heldUp wsX4_townAfter := goodIn_r _ [16, 17, 18, 19, 20, 21, 22, 23, 24, 25, 26, 27, 28, 29, 30, 31, 32, 33, 34, 35, 36, 37, 38, 39, 40, 41, 42, 43, 44, 45, 46, 47, 48, 49, 50, 51, 52, 53, 54, 55, 56, 57, 58, 59, 60, 61, 62, 63, 64, 65, 66, 67, 68, 69, 70, 71, 72, 73, 74, 75, 76, 77, 78, 79, 80, 81, 82, 83, 84, 85, 86, 87, 88, 89, 90, 91, 92, 93, 94, 95, 96, 97, 98, 99, 100, 101, 102, 103, 104, 105, 106, 107, 108, 109, 110, 111, 112, 113, 114, 115, 116, 117, 118, 119, 120, 121, 122, 123, 124, 125, 126, 127, 128, 129, 130, 131, 132, 133, 134, 135, 136, 137, 138, 139, 140, 141, 180, 181, 182, 183, 184, 185, 155, 156, 157, 158, 159, 160, 161, 162, 163, 186, 187, 188, 164, 165, 166, 167, 168, 169, 170, 171, 172, 173, 174, 175, 176, 177, 178, 179] (by decide +kernel) (by decide +kernel)
set_option maxRecDepth 20000 in
theorem gX8_heldUp_X4_townAfter : GoodIn wsX8_heldUp (wsV RX8 246 RX4 yX4_townAfter wsX4_townAfter) := goodIn_app (goodIn_of _ (by decide +kernel)) ggX8_heldUp_X4_townAfter
theorem dX8_heldUp_0 : decode cX8_heldUp 0 = .ok (.aload_n 0, 1) := by decide +kernel
theorem dX8_heldUp_1 : decode cX8_heldUp 1 = .ok (.iload_n 1, 1) := by decide +kernel
theorem dX8_heldUp_2 : decode cX8_heldUp 2 = .ok (.invokevirtual 177, 3) := by decide +kernel
theorem dX8_heldUp_5 : decode cX8_heldUp 5 = .ok (.aload_n 0, 1) := by decide +kernel
theorem dX8_heldUp_6 : decode cX8_heldUp 6 = .ok (.getfield 78, 3) := by decide +kernel
theorem dX8_heldUp_9 : decode cX8_heldUp 9 = .ok (.bipush 48, 2) := by decide +kernel
theorem dX8_heldUp_11 : decode cX8_heldUp 11 = .ok (.iconst (-1), 1) := by decide +kernel
theorem dX8_heldUp_12 : decode cX8_heldUp 12 = .ok (.invokevirtual 246, 3) := by decide +kernel
theorem dX8_heldUp_15 : decode cX8_heldUp 15 = .ok (.getfield 146, 3) := by decide +kernel
theorem dX8_heldUp_18 : decode cX8_heldUp 18 = .ok (.istore_n 2, 1) := by decide +kernel
theorem dX8_heldUp_19 : decode cX8_heldUp 19 = .ok (.aload_n 0, 1) := by decide +kernel
theorem dX8_heldUp_20 : decode cX8_heldUp 20 = .ok (.getfield 78, 3) := by decide +kernel
theorem dX8_heldUp_23 : decode cX8_heldUp 23 = .ok (.bipush 48, 2) := by decide +kernel
theorem dX8_heldUp_25 : decode cX8_heldUp 25 = .ok (.iload_n 1, 1) := by decide +kernel
theorem dX8_heldUp_26 : decode cX8_heldUp 26 = .ok (.invokevirtual 246, 3) := by decide +kernel
theorem dX8_heldUp_29 : decode cX8_heldUp 29 = .ok (.getfield 146, 3) := by decide +kernel
theorem dX8_heldUp_32 : decode cX8_heldUp 32 = .ok (.istore_n 3, 1) := by decide +kernel
theorem dX8_heldUp_33 : decode cX8_heldUp 33 = .ok (.iload_n 3, 1) := by decide +kernel
theorem dX8_heldUp_34 : decode cX8_heldUp 34 = .ok (.iload_n 2, 1) := by decide +kernel
theorem dX8_heldUp_35 : decode cX8_heldUp 35 = .ok (.iconst (-1), 1) := by decide +kernel
theorem dX8_heldUp_36 : decode cX8_heldUp 36 = .ok (.ixor, 1) := by decide +kernel
theorem dX8_heldUp_37 : decode cX8_heldUp 37 = .ok (.iand, 1) := by decide +kernel
theorem dX8_heldUp_38 : decode cX8_heldUp 38 = .ok (.ireturn, 1) := by decide +kernel
set_option maxRecDepth 20000 in
theorem ggX8_idle_X3_unpassedMotions : GoodIn wsX8_idle wsX3_unpassedMotions := goodIn_r _ [7, 8, 9, 10, 11, 104, 105, 106, 107, 108, 109, 110, 111, 112, 113, 114, 115, 116, 117, 118, 119, 120, 121, 122, 123, 124, 125, 126, 127, 128, 129, 130, 131, 132] (by decide +kernel) (by decide +kernel)
set_option maxRecDepth 20000 in
theorem gX8_idle_X3_unpassedMotions : GoodIn wsX8_idle (wsV RX8 288 RX3 yX3_unpassedMotions wsX3_unpassedMotions) := goodIn_app (goodIn_of _ (by decide +kernel)) ggX8_idle_X3_unpassedMotions
set_option maxRecDepth 20000 in
theorem ggX8_idle_X4_motionsCalled : GoodIn wsX8_idle wsX4_motionsCalled := goodIn_r _ [16, 17, 18, 19, 20, 21, 22, 23, 24, 15, 25, 26, 27, 28, 29, 30, 31, 32, 33, 34, 35, 36, 37, 38, 39, 40, 41, 42, 43, 44, 45, 46, 47, 48, 49, 50, 51, 52, 53, 54, 55, 56, 57, 58, 59, 60, 61, 62, 63, 64, 65, 66, 67, 68, 69, 70, 71, 72, 73, 74, 75, 76, 77, 78, 79, 80, 81, 82, 83, 84, 85, 86, 87, 88, 89, 90, 133, 134, 135, 136, 137, 138, 108, 109, 110, 111, 112, 113, 114, 115, 116, 117, 118, 119, 120, 121, 122, 123, 124, 125, 126, 127, 128, 129, 130, 131, 132, 139, 140, 141] (by decide +kernel) (by decide +kernel)
set_option maxRecDepth 20000 in
theorem gX8_idle_X4_motionsCalled : GoodIn wsX8_idle (wsV RX8 291 RX4 yX4_motionsCalled wsX4_motionsCalled) := goodIn_app (goodIn_of _ (by decide +kernel)) ggX8_idle_X4_motionsCalled
theorem dX8_idle_0 : decode cX8_idle 0 = .ok (.aload_n 0, 1) := by decide +kernel
theorem dX8_idle_1 : decode cX8_idle 1 = .ok (.getfield 71, 3) := by decide +kernel
theorem dX8_idle_4 : decode cX8_idle 4 = .ok (.invokevirtual 288, 3) := by decide +kernel
theorem dX8_idle_7 : decode cX8_idle 7 = .ok (.aload_n 0, 1) := by decide +kernel
theorem dX8_idle_8 : decode cX8_idle 8 = .ok (.getfield 78, 3) := by decide +kernel
theorem dX8_idle_11 : decode cX8_idle 11 = .ok (.bipush 96, 2) := by decide +kernel
theorem dX8_idle_13 : decode cX8_idle 13 = .ok (.invokevirtual 291, 3) := by decide +kernel
theorem dX8_idle_16 : decode cX8_idle 16 = .ok (.iconst (-1), 1) := by decide +kernel
theorem dX8_idle_17 : decode cX8_idle 17 = .ok (.ixor, 1) := by decide +kernel
theorem dX8_idle_18 : decode cX8_idle 18 = .ok (.iand, 1) := by decide +kernel
theorem dX8_idle_19 : decode cX8_idle 19 = .ok (.ireturn, 1) := by decide +kernel
set_option maxRecDepth 20000 in
theorem ggX8_see_X8_isOutside : GoodIn wsX8_see wsX8_isOutside := goodIn_r _ [7] (by decide +kernel) (by decide +kernel)
set_option maxRecDepth 20000 in
theorem gX8_see_X8_isOutside : GoodIn wsX8_see (va_wsS RX8 208 yX8_isOutside wsX8_isOutside) := goodIn_app (goodIn_of _ (by decide +kernel)) ggX8_see_X8_isOutside
set_option maxRecDepth 20000 in
theorem ggX8_see_X0_addSeen : GoodIn wsX8_see wsX0_addSeen := goodIn_r _ [12, 13, 14, 15, 29, 30, 31, 32, 33, 34, 35] (by decide +kernel) (by decide +kernel)
set_option maxRecDepth 20000 in
theorem gX8_see_X0_addSeen : GoodIn wsX8_see (wsV RX8 294 RX0 yX0_addSeen wsX0_addSeen) := goodIn_app (goodIn_of _ (by decide +kernel)) ggX8_see_X0_addSeen
theorem dX8_see_0 : decode cX8_see 0 = .ok (.aload_n 0, 1) := by decide +kernel
theorem dX8_see_1 : decode cX8_see 1 = .ok (.getfield 42, 3) := by decide +kernel
theorem dX8_see_4 : decode cX8_see 4 = .ok (.getfield 155, 3) := by decide +kernel
theorem dX8_see_7 : decode cX8_see 7 = .ok (.bipush 8, 2) := by decide +kernel
theorem dX8_see_9 : decode cX8_see 9 = .ok (.if_icmp .ge 23, 3) := by decide +kernel
theorem dX8_see_12 : decode cX8_see 12 = .ok (.iload_n 1, 1) := by decide +kernel
theorem dX8_see_13 : decode cX8_see 13 = .ok (.iconst 1, 1) := by decide +kernel
theorem dX8_see_14 : decode cX8_see 14 = .ok (.bipush 48, 2) := by decide +kernel
theorem dX8_see_16 : decode cX8_see 16 = .ok (.invokestatic 208, 3) := by decide +kernel
theorem dX8_see_19 : decode cX8_see 19 = .ok (.ifCond .ne 13, 3) := by decide +kernel
theorem dX8_see_22 : decode cX8_see 22 = .ok (.iload_n 2, 1) := by decide +kernel
theorem dX8_see_23 : decode cX8_see 23 = .ok (.iconst (-1), 1) := by decide +kernel
theorem dX8_see_24 : decode cX8_see 24 = .ok (.bipush 24, 2) := by decide +kernel
theorem dX8_see_26 : decode cX8_see 26 = .ok (.invokestatic 208, 3) := by decide +kernel
theorem dX8_see_29 : decode cX8_see 29 = .ok (.ifCond .eq 18, 3) := by decide +kernel
theorem dX8_see_32 : decode cX8_see 32 = .ok (.aload_n 0, 1) := by decide +kernel
theorem dX8_see_33 : decode cX8_see 33 = .ok (.getfield 42, 3) := by decide +kernel
theorem dX8_see_36 : decode cX8_see 36 = .ok (.getfield 113, 3) := by decide +kernel
theorem dX8_see_39 : decode cX8_see 39 = .ok (.iconst 2, 1) := by decide +kernel
theorem dX8_see_40 : decode cX8_see 40 = .ok (.dup2, 1) := by decide +kernel
theorem dX8_see_41 : decode cX8_see 41 = .ok (.iaload, 1) := by decide +kernel
theorem dX8_see_42 : decode cX8_see 42 = .ok (.iconst 1, 1) := by decide +kernel
theorem dX8_see_43 : decode cX8_see 43 = .ok (.iadd, 1) := by decide +kernel
theorem dX8_see_44 : decode cX8_see 44 = .ok (.iastore, 1) := by decide +kernel
theorem dX8_see_45 : decode cX8_see 45 = .ok (.iconst (-1), 1) := by decide +kernel
theorem dX8_see_46 : decode cX8_see 46 = .ok (.ireturn, 1) := by decide +kernel
theorem dX8_see_47 : decode cX8_see 47 = .ok (.aload_n 0, 1) := by decide +kernel
theorem dX8_see_48 : decode cX8_see 48 = .ok (.getfield 42, 3) := by decide +kernel
theorem dX8_see_51 : decode cX8_see 51 = .ok (.iload_n 1, 1) := by decide +kernel
theorem dX8_see_52 : decode cX8_see 52 = .ok (.iload_n 2, 1) := by decide +kernel
theorem dX8_see_53 : decode cX8_see 53 = .ok (.invokevirtual 294, 3) := by decide +kernel
theorem dX8_see_56 : decode cX8_see 56 = .ok (.aload_n 0, 1) := by decide +kernel
theorem dX8_see_57 : decode cX8_see 57 = .ok (.getfield 42, 3) := by decide +kernel
theorem dX8_see_60 : decode cX8_see 60 = .ok (.getfield 155, 3) := by decide +kernel
theorem dX8_see_63 : decode cX8_see 63 = .ok (.ireturn, 1) := by decide +kernel
set_option maxRecDepth 20000 in
theorem ggX8_fouled_X8_checkWhat : GoodIn wsX8_fouled wsX8_checkWhat := goodIn_ca (goodIn_r _ [5, 6, 7, 8, 9, 4, 10] (by decide +kernel) (by decide +kernel)) (goodIn_sub (fun _ h => List.mem_cons_of_mem _ (List.mem_append_right _ h)) (by decide +kernel))
set_option maxRecDepth 20000 in
theorem gX8_fouled_X8_checkWhat : GoodIn wsX8_fouled (va_wsS RX8 242 yX8_checkWhat wsX8_checkWhat) := goodIn_app (goodIn_of _ (by decide +kernel)) ggX8_fouled_X8_checkWhat
set_option maxRecDepth 20000 in
theorem ggX8_fouled_X6_isSoWithout : GoodIn wsX8_fouled wsX6_isSoWithout := goodIn_r _ [15, 16, 17, 18, 19, 20, 21, 14, 22, 23, 24, 25, 26, 27, 28, 29, 30, 31, 32, 33, 34, 35, 36, 37, 38, 39, 40, 41, 42, 43, 44, 45, 46, 47, 48, 49, 50, 51, 52, 53, 54, 55, 56, 57, 58, 59, 60, 61, 62, 63, 64, 65, 66, 67, 68, 69, 70, 71, 72, 73, 74, 75, 76, 77, 78, 79, 80, 81, 82, 83, 84, 85, 86, 87, 88, 89, 90, 91, 92, 114, 115, 116, 117, 118, 119, 120, 121, 122, 123, 124, 125, 126, 127, 128, 129, 130, 131, 132, 133, 134, 135, 136, 137, 138, 139, 140, 141, 142, 143, 144, 145, 146, 147, 148, 149, 150, 151, 152, 153] (by decide +kernel) (by decide +kernel)
set_option maxRecDepth 20000 in
theorem gX8_fouled_X6_isSoWithout : GoodIn wsX8_fouled (wsV RX8 297 RX6 yX6_isSoWithout wsX6_isSoWithout) := goodIn_app (goodIn_of _ (by decide +kernel)) ggX8_fouled_X6_isSoWithout
set_option maxRecDepth 20000 in
theorem ggX8_fouled_X6_howManyOils : GoodIn wsX8_fouled wsX6_howManyOils := goodIn_r _ [96, 16, 17, 18, 19, 20, 21, 14, 22, 23, 24, 25, 26, 27, 28, 29, 30, 31, 32, 33, 34, 35, 36, 37, 38, 39, 40, 41, 42, 43, 44, 45, 46, 47, 48, 49, 50, 51, 52, 53, 54, 55, 56, 57, 58, 59, 60, 61, 62, 63, 64, 65, 66, 67, 68, 69, 70, 71, 72, 73, 74, 75, 76, 77, 78, 79, 80, 81, 82, 83, 84, 85, 86, 87, 88, 89, 90, 91, 92, 114, 115, 116, 117, 118, 119, 120, 121, 122, 123, 124, 125, 126, 127, 128, 129, 130, 131, 132, 133, 134, 135, 136, 137, 138, 139, 140, 141, 142, 143, 144, 145, 146, 147, 148, 149, 150, 151, 152, 153] (by decide +kernel) (by decide +kernel)
set_option maxRecDepth 20000 in
theorem gX8_fouled_X6_howManyOils : GoodIn wsX8_fouled (wsV RX8 301 RX6 yX6_howManyOils wsX6_howManyOils) := goodIn_app (goodIn_of _ (by decide +kernel)) ggX8_fouled_X6_howManyOils
set_option maxRecDepth 20000 in
theorem ggX8_fouled_X6_leastOil : GoodIn wsX8_fouled wsX6_leastOil := goodIn_r _ [100, 16, 17, 18, 19, 20, 21, 14, 22, 23, 24, 25, 26, 27, 28, 29, 30, 31, 32, 33, 34, 35, 36, 37, 38, 39, 40, 41, 42, 43, 44, 45, 46, 47, 48, 49, 50, 51, 52, 53, 54, 55, 56, 57, 58, 59, 60, 61, 62, 63, 64, 65, 66, 67, 68, 69, 70, 71, 72, 73, 74, 75, 76, 77, 78, 79, 80, 81, 82, 83, 84, 85, 86, 87, 88, 89, 90, 91, 92, 114, 115, 116, 117, 118, 119, 120, 121, 122, 123, 124, 125, 126, 127, 128, 129, 130, 131, 132, 133, 134, 135, 136, 137, 138, 139, 140, 141, 142, 143, 144, 145, 146, 147, 148, 149, 150, 151, 152, 153] (by decide +kernel) (by decide +kernel)
set_option maxRecDepth 20000 in
theorem gX8_fouled_X6_leastOil : GoodIn wsX8_fouled (wsV RX8 304 RX6 yX6_leastOil wsX6_leastOil) := goodIn_app (goodIn_of _ (by decide +kernel)) ggX8_fouled_X6_leastOil
theorem dX8_fouled_0 : decode cX8_fouled 0 = .ok (.iload_n 1, 1) := by decide +kernel
theorem dX8_fouled_1 : decode cX8_fouled 1 = .ok (.iconst 2, 1) := by decide +kernel
theorem dX8_fouled_2 : decode cX8_fouled 2 = .ok (.invokestatic 242, 3) := by decide +kernel
theorem dX8_fouled_5 : decode cX8_fouled 5 = .ok (.iload_n 1, 1) := by decide +kernel
theorem dX8_fouled_6 : decode cX8_fouled 6 = .ok (.iconst 2, 1) := by decide +kernel
theorem dX8_fouled_7 : decode cX8_fouled 7 = .ok (.if_icmp .ne 19, 3) := by decide +kernel
theorem dX8_fouled_10 : decode cX8_fouled 10 = .ok (.aload_n 0, 1) := by decide +kernel
theorem dX8_fouled_11 : decode cX8_fouled 11 = .ok (.getfield 87, 3) := by decide +kernel
theorem dX8_fouled_14 : decode cX8_fouled 14 = .ok (.invokevirtual 297, 3) := by decide +kernel
theorem dX8_fouled_17 : decode cX8_fouled 17 = .ok (.ifCond .eq 7, 3) := by decide +kernel
theorem dX8_fouled_20 : decode cX8_fouled 20 = .ok (.iconst 1, 1) := by decide +kernel
theorem dX8_fouled_21 : decode cX8_fouled 21 = .ok (.goto 4, 3) := by decide +kernel
theorem dX8_fouled_24 : decode cX8_fouled 24 = .ok (.iconst 0, 1) := by decide +kernel
theorem dX8_fouled_25 : decode cX8_fouled 25 = .ok (.ireturn, 1) := by decide +kernel
theorem dX8_fouled_26 : decode cX8_fouled 26 = .ok (.iload_n 1, 1) := by decide +kernel
theorem dX8_fouled_27 : decode cX8_fouled 27 = .ok (.ifCond .ne 13, 3) := by decide +kernel
theorem dX8_fouled_30 : decode cX8_fouled 30 = .ok (.aload_n 0, 1) := by decide +kernel
theorem dX8_fouled_31 : decode cX8_fouled 31 = .ok (.getfield 87, 3) := by decide +kernel
theorem dX8_fouled_34 : decode cX8_fouled 34 = .ok (.invokevirtual 301, 3) := by decide +kernel
theorem dX8_fouled_37 : decode cX8_fouled 37 = .ok (.goto 10, 3) := by decide +kernel
theorem dX8_fouled_40 : decode cX8_fouled 40 = .ok (.aload_n 0, 1) := by decide +kernel
theorem dX8_fouled_41 : decode cX8_fouled 41 = .ok (.getfield 87, 3) := by decide +kernel
theorem dX8_fouled_44 : decode cX8_fouled 44 = .ok (.invokevirtual 304, 3) := by decide +kernel
theorem dX8_fouled_47 : decode cX8_fouled 47 = .ok (.ireturn, 1) := by decide +kernel
set_option maxRecDepth 20000 in
theorem ggX8_listen_X8_checkWhat : GoodIn wsX8_listen wsX8_checkWhat := goodIn_ca (goodIn_r _ [5, 6, 7, 8, 9, 4, 10] (by decide +kernel) (by decide +kernel)) (goodIn_sub (fun _ h => List.mem_cons_of_mem _ (List.mem_append_right _ h)) (by decide +kernel))
set_option maxRecDepth 20000 in
theorem gX8_listen_X8_checkWhat : GoodIn wsX8_listen (va_wsS RX8 242 yX8_checkWhat wsX8_checkWhat) := goodIn_app (goodIn_of _ (by decide +kernel)) ggX8_listen_X8_checkWhat
set_option maxRecDepth 20000 in
theorem ggX8_listen_X6_mostUnlikeHour : GoodIn wsX8_listen wsX6_mostUnlikeHour := goodIn_r _ [15, 16, 17, 18, 19, 20, 21, 22, 23, 24, 25, 26, 14, 27, 28, 29, 30, 31, 32, 33, 34, 35, 36, 37, 38, 39, 40, 41, 42, 43, 44, 45, 46, 47, 48, 49, 50, 51, 52, 53, 54, 55, 56, 57, 58, 59, 60, 61, 62, 63, 64, 65, 66, 67, 68, 69, 70, 71, 72, 73, 74, 75, 76, 77, 78, 79, 80, 81, 82, 83, 84, 85, 86, 87, 88, 89, 90, 91, 92, 93, 94, 95, 96, 97, 98, 99, 100, 101, 102, 103, 117, 118, 119, 120, 121, 122, 123, 124, 125, 126, 127, 128, 129, 130, 131, 132, 133, 134, 135, 136, 137, 138, 139, 140, 141, 142, 143, 144, 145, 146, 147, 148, 149, 150, 151, 152, 153, 154, 155, 156] (by decide +kernel) (by decide +kernel)
set_option maxRecDepth 20000 in
theorem gX8_listen_X6_mostUnlikeHour : GoodIn wsX8_listen (wsV RX8 307 RX6 yX6_mostUnlikeHour wsX6_mostUnlikeHour) := goodIn_app (goodIn_of _ (by decide +kernel)) ggX8_listen_X6_mostUnlikeHour
theorem dX8_listen_0 : decode cX8_listen 0 = .ok (.iload_n 1, 1) := by decide +kernel
theorem dX8_listen_1 : decode cX8_listen 1 = .ok (.iconst 1, 1) := by decide +kernel
theorem dX8_listen_2 : decode cX8_listen 2 = .ok (.invokestatic 242, 3) := by decide +kernel
theorem dX8_listen_5 : decode cX8_listen 5 = .ok (.aload_n 0, 1) := by decide +kernel
theorem dX8_listen_6 : decode cX8_listen 6 = .ok (.getfield 87, 3) := by decide +kernel
theorem dX8_listen_9 : decode cX8_listen 9 = .ok (.iload_n 1, 1) := by decide +kernel
theorem dX8_listen_10 : decode cX8_listen 10 = .ok (.iconst 1, 1) := by decide +kernel
theorem dX8_listen_11 : decode cX8_listen 11 = .ok (.if_icmp .ne 7, 3) := by decide +kernel
theorem dX8_listen_14 : decode cX8_listen 14 = .ok (.iconst 1, 1) := by decide +kernel
theorem dX8_listen_15 : decode cX8_listen 15 = .ok (.goto 4, 3) := by decide +kernel
theorem dX8_listen_18 : decode cX8_listen 18 = .ok (.iconst 0, 1) := by decide +kernel
theorem dX8_listen_19 : decode cX8_listen 19 = .ok (.invokevirtual 307, 3) := by decide +kernel
theorem dX8_listen_22 : decode cX8_listen 22 = .ok (.ireturn, 1) := by decide +kernel
theorem dX8_forget_0 : decode cX8_forget 0 = .ok (.aload_n 0, 1) := by decide +kernel
theorem dX8_forget_1 : decode cX8_forget 1 = .ok (.getfield 42, 3) := by decide +kernel
theorem dX8_forget_4 : decode cX8_forget 4 = .ok (.iconst 0, 1) := by decide +kernel
theorem dX8_forget_5 : decode cX8_forget 5 = .ok (.putfield 155, 3) := by decide +kernel
theorem dX8_forget_8 : decode cX8_forget 8 = .ok (.return_, 1) := by decide +kernel
set_option maxRecDepth 20000 in
theorem ggX8_game_X8_checkMotion : GoodIn wsX8_game wsX8_checkMotion := goodIn_ca (goodIn_r _ [11, 12, 13, 14, 15, 146, 147, 148, 149, 150, 151, 152, 153, 154, 155, 156, 157, 158, 166, 167, 168, 169, 170, 171, 172, 173, 174, 175, 176, 177, 178, 179, 180, 181] (by decide +kernel) (by decide +kernel)) (goodIn_sub (fun _ h => List.mem_cons_of_mem _ (List.mem_append_right _ h)) (by decide +kernel))
set_option maxRecDepth 20000 in
theorem gX8_game_X8_checkMotion : GoodIn wsX8_game (wsV RX8 177 RX8 yX8_checkMotion wsX8_checkMotion) := goodIn_app (goodIn_of _ (by decide +kernel)) ggX8_game_X8_checkMotion
set_option maxRecDepth 20000 in
theorem ggX8_game_X8_checkWhat : GoodIn wsX8_game wsX8_checkWhat := goodIn_ca (goodIn_r _ [18, 12, 13, 19, 20, 10, 21] (by decide +kernel) (by decide +kernel)) (goodIn_sub (fun _ h => List.mem_cons_of_mem _ (List.mem_append_right _ h)) (by decide +kernel))
set_option maxRecDepth 20000 in
theorem gX8_game_X8_checkWhat : GoodIn wsX8_game (va_wsS RX8 242 yX8_checkWhat wsX8_checkWhat) := goodIn_app (goodIn_of _ (by decide +kernel)) ggX8_game_X8_checkWhat
set_option maxRecDepth 20000 in
theorem ggX8_game_X7_isPassed : GoodIn wsX8_game wsX7_isPassed := goodIn_r _ [26, 27, 182, 183, 184, 185, 186, 187, 188, 189, 190] (by decide +kernel) (by decide +kernel)
set_option maxRecDepth 20000 in
theorem gX8_game_X7_isPassed : GoodIn wsX8_game (wsV RX8 194 RX7 yX7_isPassed wsX7_isPassed) := goodIn_app (goodIn_of _ (by decide +kernel)) ggX8_game_X7_isPassed
set_option maxRecDepth 20000 in
theorem ggX8_game_X4_saidInHour : GoodIn wsX8_game wsX4_saidInHour := goodIn_r _ [32, 33, 34, 35, 36, 37, 38, 25, 39, 40, 41, 42, 43, 44, 45, 27, 46, 47, 48, 49, 50, 51, 52, 53, 54, 55, 56, 57, 58, 59, 60, 61, 62, 63, 64, 65, 66, 67, 68, 69, 70, 71, 72, 73, 74, 75, 76, 77, 78, 79, 80, 81, 82, 83, 84, 85, 86, 87, 88, 89, 90, 91, 92, 191, 192, 193, 194, 195, 196, 182, 183, 184, 185, 186, 187, 188, 189, 190, 197, 198, 199, 166, 167, 168, 169, 170, 171, 172, 173, 174, 175, 176, 177, 178, 179, 180, 181] (by decide +kernel) (by decide +kernel)
set_option maxRecDepth 20000 in
theorem gX8_game_X4_saidInHour : GoodIn wsX8_game (wsV RX8 235 RX4 yX4_saidInHour wsX4_saidInHour) := goodIn_app (goodIn_of _ (by decide +kernel)) ggX8_game_X4_saidInHour
set_option maxRecDepth 20000 in
theorem ggX8_game_X3_restingCouples : GoodIn wsX8_game wsX3_restingCouples := goodIn_r _ [97, 98, 99, 100, 101, 102, 103, 104, 55, 105, 64, 106, 107, 108, 109, 77, 110, 111, 112, 113, 114, 115, 116, 117, 118, 119, 120, 121, 122, 123, 65, 124, 71, 72, 69, 73, 125, 126, 74, 75, 76, 78, 79, 80, 127, 128, 129, 25, 130, 27, 131, 132, 133, 134, 135, 136, 137, 81, 82, 83, 84, 85, 86, 67, 68, 70, 87, 88, 138, 139, 140, 141, 142, 143, 144, 96, 145, 200, 201, 202, 203, 166, 167, 168, 169, 170, 171, 172, 173, 174, 175, 176, 177, 178, 179, 180, 181, 197, 198, 199, 182, 183, 184, 185, 186, 187, 188, 189, 190] (by decide +kernel) (by decide +kernel)
set_option maxRecDepth 20000 in
theorem gX8_game_X3_restingCouples : GoodIn wsX8_game (wsV RX8 315 RX3 yX3_restingCouples wsX3_restingCouples) := goodIn_app (goodIn_of _ (by decide +kernel)) ggX8_game_X3_restingCouples
theorem dX8_game_0 : decode cX8_game 0 = .ok (.aload_n 0, 1) := by decide +kernel
theorem dX8_game_1 : decode cX8_game 1 = .ok (.iload_n 1, 1) := by decide +kernel
theorem dX8_game_2 : decode cX8_game 2 = .ok (.invokevirtual 177, 3) := by decide +kernel
theorem dX8_game_5 : decode cX8_game 5 = .ok (.aload_n 0, 1) := by decide +kernel
theorem dX8_game_6 : decode cX8_game 6 = .ok (.iload_n 2, 1) := by decide +kernel
theorem dX8_game_7 : decode cX8_game 7 = .ok (.invokevirtual 177, 3) := by decide +kernel
theorem dX8_game_10 : decode cX8_game 10 = .ok (.iload_n 3, 1) := by decide +kernel
theorem dX8_game_11 : decode cX8_game 11 = .ok (.iconst 1, 1) := by decide +kernel
theorem dX8_game_12 : decode cX8_game 12 = .ok (.invokestatic 242, 3) := by decide +kernel
theorem dX8_game_15 : decode cX8_game 15 = .ok (.iload_n 1, 1) := by decide +kernel
theorem dX8_game_16 : decode cX8_game 16 = .ok (.iload_n 2, 1) := by decide +kernel
theorem dX8_game_17 : decode cX8_game 17 = .ok (.if_icmp .eq 31, 3) := by decide +kernel
theorem dX8_game_20 : decode cX8_game 20 = .ok (.aload_n 0, 1) := by decide +kernel
theorem dX8_game_21 : decode cX8_game 21 = .ok (.getfield 42, 3) := by decide +kernel
theorem dX8_game_24 : decode cX8_game 24 = .ok (.getfield 64, 3) := by decide +kernel
theorem dX8_game_27 : decode cX8_game 27 = .ok (.iload_n 1, 1) := by decide +kernel
theorem dX8_game_28 : decode cX8_game 28 = .ok (.invokevirtual 194, 3) := by decide +kernel
theorem dX8_game_31 : decode cX8_game 31 = .ok (.ifCond .ne 17, 3) := by decide +kernel
theorem dX8_game_34 : decode cX8_game 34 = .ok (.aload_n 0, 1) := by decide +kernel
theorem dX8_game_35 : decode cX8_game 35 = .ok (.getfield 42, 3) := by decide +kernel
theorem dX8_game_38 : decode cX8_game 38 = .ok (.getfield 64, 3) := by decide +kernel
theorem dX8_game_41 : decode cX8_game 41 = .ok (.iload_n 2, 1) := by decide +kernel
theorem dX8_game_42 : decode cX8_game 42 = .ok (.invokevirtual 194, 3) := by decide +kernel
theorem dX8_game_45 : decode cX8_game 45 = .ok (.ifCond .eq 14, 3) := by decide +kernel
theorem dX8_game_48 : decode cX8_game 48 = .ok (.new 98, 3) := by decide +kernel
theorem dX8_game_51 : decode cX8_game 51 = .ok (.dup, 1) := by decide +kernel
theorem dX8_game_52 : decode cX8_game 52 = .ok (.ldc_w 311, 3) := by decide +kernel
theorem dX8_game_55 : decode cX8_game 55 = .ok (.invokespecial 102, 3) := by decide +kernel
theorem dX8_game_58 : decode cX8_game 58 = .ok (.athrow, 1) := by decide +kernel
theorem dX8_game_59 : decode cX8_game 59 = .ok (.aload_n 0, 1) := by decide +kernel
theorem dX8_game_60 : decode cX8_game 60 = .ok (.getfield 78, 3) := by decide +kernel
theorem dX8_game_63 : decode cX8_game 63 = .ok (.iconst 1, 1) := by decide +kernel
theorem dX8_game_64 : decode cX8_game 64 = .ok (.invokevirtual 235, 3) := by decide +kernel
theorem dX8_game_67 : decode cX8_game 67 = .ok (.istore 4, 2) := by decide +kernel
theorem dX8_game_69 : decode cX8_game 69 = .ok (.iload 4, 2) := by decide +kernel
theorem dX8_game_71 : decode cX8_game 71 = .ok (.iconst (-1), 1) := by decide +kernel
theorem dX8_game_72 : decode cX8_game 72 = .ok (.if_icmp .ne 14, 3) := by decide +kernel
theorem dX8_game_75 : decode cX8_game 75 = .ok (.new 98, 3) := by decide +kernel
theorem dX8_game_78 : decode cX8_game 78 = .ok (.dup, 1) := by decide +kernel
theorem dX8_game_79 : decode cX8_game 79 = .ok (.ldc_w 313, 3) := by decide +kernel
theorem dX8_game_82 : decode cX8_game 82 = .ok (.invokespecial 102, 3) := by decide +kernel
theorem dX8_game_85 : decode cX8_game 85 = .ok (.athrow, 1) := by decide +kernel
theorem dX8_game_86 : decode cX8_game 86 = .ok (.aload_n 0, 1) := by decide +kernel
theorem dX8_game_87 : decode cX8_game 87 = .ok (.getfield 71, 3) := by decide +kernel
theorem dX8_game_90 : decode cX8_game 90 = .ok (.iload_n 1, 1) := by decide +kernel
theorem dX8_game_91 : decode cX8_game 91 = .ok (.iload_n 2, 1) := by decide +kernel
theorem dX8_game_92 : decode cX8_game 92 = .ok (.iload 4, 2) := by decide +kernel
theorem dX8_game_94 : decode cX8_game 94 = .ok (.iload_n 3, 1) := by decide +kernel
theorem dX8_game_95 : decode cX8_game 95 = .ok (.iconst 1, 1) := by decide +kernel
theorem dX8_game_96 : decode cX8_game 96 = .ok (.if_icmp .ne 7, 3) := by decide +kernel
theorem dX8_game_99 : decode cX8_game 99 = .ok (.iconst 1, 1) := by decide +kernel
theorem dX8_game_100 : decode cX8_game 100 = .ok (.goto 4, 3) := by decide +kernel
theorem dX8_game_103 : decode cX8_game 103 = .ok (.iconst 0, 1) := by decide +kernel
theorem dX8_game_104 : decode cX8_game 104 = .ok (.invokevirtual 315, 3) := by decide +kernel
theorem dX8_game_107 : decode cX8_game 107 = .ok (.ireturn, 1) := by decide +kernel
set_option maxRecDepth 20000 in
theorem ggX8_years_X8_checkWhat : GoodIn wsX8_years wsX8_checkWhat := goodIn_ca (goodIn_r _ [6, 7, 8, 9, 10, 5, 11] (by decide +kernel) (by decide +kernel)) (goodIn_sub (fun _ h => List.mem_cons_of_mem _ (List.mem_append_left _ (List.mem_append_right _ h))) (by decide +kernel))
set_option maxRecDepth 20000 in
theorem gX8_years_X8_checkWhat : GoodIn wsX8_years (va_wsS RX8 242 yX8_checkWhat wsX8_checkWhat) := goodIn_app (goodIn_of _ (by decide +kernel)) ggX8_years_X8_checkWhat
set_option maxRecDepth 20000 in
theorem ggX8_years_X8_checkRange : GoodIn wsX8_years wsX8_checkRange := goodIn_ca (goodIn_r _ [14, 15, 16, 9, 10, 5, 11] (by decide +kernel) (by decide +kernel)) (goodIn_sub (fun _ h => List.mem_cons_of_mem _ (List.mem_append_right _ h)) (by decide +kernel))
set_option maxRecDepth 20000 in
theorem gX8_years_X8_checkRange : GoodIn wsX8_years (va_wsS RX8 231 yX8_checkRange wsX8_checkRange) := goodIn_app (goodIn_of _ (by decide +kernel)) ggX8_years_X8_checkRange
set_option maxRecDepth 20000 in
theorem ggX8_years_X4_silentHoursBySeed : GoodIn wsX8_years wsX4_silentHoursBySeed := goodIn_r _ [21, 22, 23, 24, 25, 26, 27, 28, 29, 30, 31, 32, 33, 34, 35, 36, 37, 38, 39, 40, 41, 42, 43, 44, 45, 46, 20, 47, 48, 49, 50, 51, 52, 53, 54, 55, 56, 57, 58, 59, 60, 61, 62, 63, 64, 65, 66, 67, 68, 69, 70, 71, 72, 73, 74, 75, 76, 77, 78, 79, 80, 81, 82, 83, 84, 85, 86, 87, 88, 89, 90, 91, 92, 93, 94, 95, 96, 97, 98, 99, 100, 101, 102, 103, 104, 105, 106, 107, 108, 109, 110, 111, 112, 113, 114, 115, 116, 117, 118, 119, 120, 121, 122, 123, 124, 125, 126, 127, 128, 129, 130, 131, 132, 133, 134, 135, 136, 137, 138, 139, 140, 141, 142, 143, 144, 145, 146, 147, 148, 149, 150, 151, 152, 153, 154, 155, 156, 157, 158, 159, 160, 188, 189, 190, 191, 192, 193, 179, 180, 181, 182, 183, 184, 185, 186, 187, 194, 195, 196, 197, 198, 199, 200, 201, 202, 203, 204, 205, 206, 207, 208, 209, 210, 211, 212] (by decide +kernel) (by decide +kernel)
set_option maxRecDepth 20000 in
theorem gX8_years_X4_silentHoursBySeed : GoodIn wsX8_years (wsV RX8 319 RX4 yX4_silentHoursBySeed wsX4_silentHoursBySeed) := goodIn_app (goodIn_of _ (by decide +kernel)) ggX8_years_X4_silentHoursBySeed
set_option maxRecDepth 20000 in
theorem ggX8_years_X4_townForeseen : GoodIn wsX8_years wsX4_townForeseen := goodIn_r _ [164, 23, 188, 189, 190, 191, 192, 193] (by decide +kernel) (by decide +kernel)
set_option maxRecDepth 20000 in
theorem gX8_years_X4_townForeseen : GoodIn wsX8_years (wsV RX8 322 RX4 yX4_townForeseen wsX4_townForeseen) := goodIn_app (goodIn_of _ (by decide +kernel)) ggX8_years_X4_townForeseen
set_option maxRecDepth 20000 in
theorem ggX8_years_X7_howManyPassed : GoodIn wsX8_years wsX7_howManyPassed := goodIn_r _ [133, 37, 134, 135, 136, 137, 138, 139, 140, 179, 180, 181, 182, 183, 184, 185, 186, 187] (by decide +kernel) (by decide +kernel)
set_option maxRecDepth 20000 in
theorem gX8_years_X7_howManyPassed : GoodIn wsX8_years (wsV RX8 326 RX7 yX7_howManyPassed wsX7_howManyPassed) := goodIn_app (goodIn_of _ (by decide +kernel)) ggX8_years_X7_howManyPassed
theorem dX8_years_0 : decode cX8_years 0 = .ok (.iload_n 3, 1) := by decide +kernel
theorem dX8_years_1 : decode cX8_years 1 = .ok (.iconst 2, 1) := by decide +kernel
theorem dX8_years_2 : decode cX8_years 2 = .ok (.invokestatic 242, 3) := by decide +kernel
theorem dX8_years_5 : decode cX8_years 5 = .ok (.iload_n 2, 1) := by decide +kernel
theorem dX8_years_6 : decode cX8_years 6 = .ok (.iconst 0, 1) := by decide +kernel
theorem dX8_years_7 : decode cX8_years 7 = .ok (.bipush 96, 2) := by decide +kernel
theorem dX8_years_9 : decode cX8_years 9 = .ok (.invokestatic 231, 3) := by decide +kernel
theorem dX8_years_12 : decode cX8_years 12 = .ok (.aload_n 0, 1) := by decide +kernel
theorem dX8_years_13 : decode cX8_years 13 = .ok (.getfield 78, 3) := by decide +kernel
theorem dX8_years_16 : decode cX8_years 16 = .ok (.iload_n 1, 1) := by decide +kernel
theorem dX8_years_17 : decode cX8_years 17 = .ok (.iload_n 2, 1) := by decide +kernel
theorem dX8_years_18 : decode cX8_years 18 = .ok (.invokevirtual 319, 3) := by decide +kernel
theorem dX8_years_21 : decode cX8_years 21 = .ok (.istore 4, 2) := by decide +kernel
theorem dX8_years_23 : decode cX8_years 23 = .ok (.iload_n 3, 1) := by decide +kernel
theorem dX8_years_24 : decode cX8_years 24 = .ok (.iconst 2, 1) := by decide +kernel
theorem dX8_years_25 : decode cX8_years 25 = .ok (.if_icmp .ne 6, 3) := by decide +kernel
theorem dX8_years_28 : decode cX8_years 28 = .ok (.iload 4, 2) := by decide +kernel
theorem dX8_years_30 : decode cX8_years 30 = .ok (.ireturn, 1) := by decide +kernel
theorem dX8_years_31 : decode cX8_years 31 = .ok (.aload_n 0, 1) := by decide +kernel
theorem dX8_years_32 : decode cX8_years 32 = .ok (.getfield 78, 3) := by decide +kernel
theorem dX8_years_35 : decode cX8_years 35 = .ok (.invokevirtual 322, 3) := by decide +kernel
theorem dX8_years_38 : decode cX8_years 38 = .ok (.astore 5, 2) := by decide +kernel
theorem dX8_years_40 : decode cX8_years 40 = .ok (.iload_n 3, 1) := by decide +kernel
theorem dX8_years_41 : decode cX8_years 41 = .ok (.ifCond .ne 11, 3) := by decide +kernel
theorem dX8_years_44 : decode cX8_years 44 = .ok (.aload 5, 2) := by decide +kernel
theorem dX8_years_46 : decode cX8_years 46 = .ok (.invokevirtual 326, 3) := by decide +kernel
theorem dX8_years_49 : decode cX8_years 49 = .ok (.goto 8, 3) := by decide +kernel
theorem dX8_years_52 : decode cX8_years 52 = .ok (.aload 5, 2) := by decide +kernel
theorem dX8_years_54 : decode cX8_years 54 = .ok (.getfield 143, 3) := by decide +kernel
theorem dX8_years_57 : decode cX8_years 57 = .ok (.ireturn, 1) := by decide +kernel
set_option maxRecDepth 20000 in
theorem ggX8_image_X0_copyFrom : GoodIn wsX8_image wsX0_copyFrom := goodIn_r _ [8, 9, 10, 11, 12, 13, 14, 15, 16, 17, 18, 19, 20, 21, 22, 23, 24, 25, 26, 27, 28, 29, 30, 31, 32, 33, 34, 48, 49, 50, 51, 52, 53, 54, 55, 56, 57, 58, 59, 60, 61, 62, 63] (by decide +kernel) (by decide +kernel)
set_option maxRecDepth 20000 in
theorem gX8_image_X0_copyFrom : GoodIn wsX8_image (wsV RX8 329 RX0 yX0_copyFrom wsX0_copyFrom) := goodIn_app (goodIn_of _ (by decide +kernel)) ggX8_image_X0_copyFrom
theorem dX8_image_0 : decode cX8_image 0 = .ok (.aload_n 0, 1) := by decide +kernel
theorem dX8_image_1 : decode cX8_image 1 = .ok (.getfield 46, 3) := by decide +kernel
theorem dX8_image_4 : decode cX8_image 4 = .ok (.aload_n 0, 1) := by decide +kernel
theorem dX8_image_5 : decode cX8_image 5 = .ok (.getfield 42, 3) := by decide +kernel
theorem dX8_image_8 : decode cX8_image 8 = .ok (.invokevirtual 329, 3) := by decide +kernel
theorem dX8_image_11 : decode cX8_image 11 = .ok (.aload_n 0, 1) := by decide +kernel
theorem dX8_image_12 : decode cX8_image 12 = .ok (.iconst 1, 1) := by decide +kernel
theorem dX8_image_13 : decode cX8_image 13 = .ok (.putfield 49, 3) := by decide +kernel
theorem dX8_image_16 : decode cX8_image 16 = .ok (.return_, 1) := by decide +kernel
set_option maxRecDepth 20000 in
theorem ggX8_restore_X0_copyFrom : GoodIn wsX8_restore wsX0_copyFrom := goodIn_r _ [8, 9, 10, 11, 12, 13, 14, 15, 16, 17, 18, 19, 20, 21, 22, 23, 24, 25, 26, 27, 28, 29, 30, 31, 32, 33, 34, 48, 49, 50, 51, 52, 53, 54, 55, 56, 57, 58, 59, 60, 61, 62, 63] (by decide +kernel) (by decide +kernel)
set_option maxRecDepth 20000 in
theorem gX8_restore_X0_copyFrom : GoodIn wsX8_restore (wsV RX8 329 RX0 yX0_copyFrom wsX0_copyFrom) := goodIn_app (goodIn_of _ (by decide +kernel)) ggX8_restore_X0_copyFrom
theorem dX8_restore_0 : decode cX8_restore 0 = .ok (.aload_n 0, 1) := by decide +kernel
theorem dX8_restore_1 : decode cX8_restore 1 = .ok (.getfield 49, 3) := by decide +kernel
theorem dX8_restore_4 : decode cX8_restore 4 = .ok (.ifCond .ne 5, 3) := by decide +kernel
theorem dX8_restore_7 : decode cX8_restore 7 = .ok (.iconst 0, 1) := by decide +kernel
theorem dX8_restore_8 : decode cX8_restore 8 = .ok (.ireturn, 1) := by decide +kernel
theorem dX8_restore_9 : decode cX8_restore 9 = .ok (.aload_n 0, 1) := by decide +kernel
theorem dX8_restore_10 : decode cX8_restore 10 = .ok (.getfield 42, 3) := by decide +kernel
theorem dX8_restore_13 : decode cX8_restore 13 = .ok (.aload_n 0, 1) := by decide +kernel
theorem dX8_restore_14 : decode cX8_restore 14 = .ok (.getfield 46, 3) := by decide +kernel
theorem dX8_restore_17 : decode cX8_restore 17 = .ok (.invokevirtual 329, 3) := by decide +kernel
theorem dX8_restore_20 : decode cX8_restore 20 = .ok (.iconst 1, 1) := by decide +kernel
theorem dX8_restore_21 : decode cX8_restore 21 = .ok (.ireturn, 1) := by decide +kernel
theorem dX8_putOnTape_0 : decode cX8_putOnTape 0 = .ok (.bipush 24, 2) := by decide +kernel
theorem dX8_putOnTape_2 : decode cX8_putOnTape 2 = .ok (.istore_n 2, 1) := by decide +kernel
theorem dX8_putOnTape_3 : decode cX8_putOnTape 3 = .ok (.iload_n 2, 1) := by decide +kernel
theorem dX8_putOnTape_4 : decode cX8_putOnTape 4 = .ok (.ifCond .lt 51, 3) := by decide +kernel
theorem dX8_putOnTape_7 : decode cX8_putOnTape 7 = .ok (.aload_n 0, 1) := by decide +kernel
theorem dX8_putOnTape_8 : decode cX8_putOnTape 8 = .ok (.getfield 13, 3) := by decide +kernel
theorem dX8_putOnTape_11 : decode cX8_putOnTape 11 = .ok (.ifCond .lt 38, 3) := by decide +kernel
theorem dX8_putOnTape_14 : decode cX8_putOnTape 14 = .ok (.aload_n 0, 1) := by decide +kernel
theorem dX8_putOnTape_15 : decode cX8_putOnTape 15 = .ok (.getfield 13, 3) := by decide +kernel
theorem dX8_putOnTape_18 : decode cX8_putOnTape 18 = .ok (.aload_n 0, 1) := by decide +kernel
theorem dX8_putOnTape_19 : decode cX8_putOnTape 19 = .ok (.getfield 9, 3) := by decide +kernel
theorem dX8_putOnTape_22 : decode cX8_putOnTape 22 = .ok (.arraylength, 1) := by decide +kernel
theorem dX8_putOnTape_23 : decode cX8_putOnTape 23 = .ok (.if_icmp .ge 26, 3) := by decide +kernel
theorem dX8_putOnTape_26 : decode cX8_putOnTape 26 = .ok (.aload_n 0, 1) := by decide +kernel
theorem dX8_putOnTape_27 : decode cX8_putOnTape 27 = .ok (.getfield 9, 3) := by decide +kernel
theorem dX8_putOnTape_30 : decode cX8_putOnTape 30 = .ok (.aload_n 0, 1) := by decide +kernel
theorem dX8_putOnTape_31 : decode cX8_putOnTape 31 = .ok (.getfield 13, 3) := by decide +kernel
theorem dX8_putOnTape_34 : decode cX8_putOnTape 34 = .ok (.iload_n 1, 1) := by decide +kernel
theorem dX8_putOnTape_35 : decode cX8_putOnTape 35 = .ok (.iload_n 2, 1) := by decide +kernel
theorem dX8_putOnTape_36 : decode cX8_putOnTape 36 = .ok (.ishr, 1) := by decide +kernel
theorem dX8_putOnTape_37 : decode cX8_putOnTape 37 = .ok (.i2b, 1) := by decide +kernel
theorem dX8_putOnTape_38 : decode cX8_putOnTape 38 = .ok (.bastore, 1) := by decide +kernel
theorem dX8_putOnTape_39 : decode cX8_putOnTape 39 = .ok (.aload_n 0, 1) := by decide +kernel
theorem dX8_putOnTape_40 : decode cX8_putOnTape 40 = .ok (.dup, 1) := by decide +kernel
theorem dX8_putOnTape_41 : decode cX8_putOnTape 41 = .ok (.getfield 13, 3) := by decide +kernel
theorem dX8_putOnTape_44 : decode cX8_putOnTape 44 = .ok (.iconst 1, 1) := by decide +kernel
theorem dX8_putOnTape_45 : decode cX8_putOnTape 45 = .ok (.iadd, 1) := by decide +kernel
theorem dX8_putOnTape_46 : decode cX8_putOnTape 46 = .ok (.putfield 13, 3) := by decide +kernel
theorem dX8_putOnTape_49 : decode cX8_putOnTape 49 = .ok (.iinc 2 (-8), 3) := by decide +kernel
theorem dX8_putOnTape_52 : decode cX8_putOnTape 52 = .ok (.goto (-49), 3) := by decide +kernel
theorem dX8_putOnTape_55 : decode cX8_putOnTape 55 = .ok (.return_, 1) := by decide +kernel
theorem dX8_refuseAct_0 : decode cX8_refuseAct 0 = .ok (.aload_n 0, 1) := by decide +kernel
theorem dX8_refuseAct_1 : decode cX8_refuseAct 1 = .ok (.getfield 42, 3) := by decide +kernel
theorem dX8_refuseAct_4 : decode cX8_refuseAct 4 = .ok (.getfield 113, 3) := by decide +kernel
theorem dX8_refuseAct_7 : decode cX8_refuseAct 7 = .ok (.iconst 1, 1) := by decide +kernel
theorem dX8_refuseAct_8 : decode cX8_refuseAct 8 = .ok (.dup2, 1) := by decide +kernel
theorem dX8_refuseAct_9 : decode cX8_refuseAct 9 = .ok (.iaload, 1) := by decide +kernel
theorem dX8_refuseAct_10 : decode cX8_refuseAct 10 = .ok (.iconst 1, 1) := by decide +kernel
theorem dX8_refuseAct_11 : decode cX8_refuseAct 11 = .ok (.iadd, 1) := by decide +kernel
theorem dX8_refuseAct_12 : decode cX8_refuseAct 12 = .ok (.iastore, 1) := by decide +kernel
theorem dX8_refuseAct_13 : decode cX8_refuseAct 13 = .ok (.iload_n 1, 1) := by decide +kernel
theorem dX8_refuseAct_14 : decode cX8_refuseAct 14 = .ok (.ireturn, 1) := by decide +kernel
theorem dX8_checkAlderman_0 : decode cX8_checkAlderman 0 = .ok (.iload_n 1, 1) := by decide +kernel
theorem dX8_checkAlderman_1 : decode cX8_checkAlderman 1 = .ok (.ifCond .lt 14, 3) := by decide +kernel
theorem dX8_checkAlderman_4 : decode cX8_checkAlderman 4 = .ok (.iload_n 1, 1) := by decide +kernel
theorem dX8_checkAlderman_5 : decode cX8_checkAlderman 5 = .ok (.aload_n 0, 1) := by decide +kernel
theorem dX8_checkAlderman_6 : decode cX8_checkAlderman 6 = .ok (.getfield 23, 3) := by decide +kernel
theorem dX8_checkAlderman_9 : decode cX8_checkAlderman 9 = .ok (.getfield 120, 3) := by decide +kernel
theorem dX8_checkAlderman_12 : decode cX8_checkAlderman 12 = .ok (.if_icmp .lt 14, 3) := by decide +kernel
theorem dX8_checkAlderman_15 : decode cX8_checkAlderman 15 = .ok (.new 158, 3) := by decide +kernel
theorem dX8_checkAlderman_18 : decode cX8_checkAlderman 18 = .ok (.dup, 1) := by decide +kernel
theorem dX8_checkAlderman_19 : decode cX8_checkAlderman 19 = .ok (.ldc_w 332, 3) := by decide +kernel
theorem dX8_checkAlderman_22 : decode cX8_checkAlderman 22 = .ok (.invokespecial 162, 3) := by decide +kernel
theorem dX8_checkAlderman_25 : decode cX8_checkAlderman 25 = .ok (.athrow, 1) := by decide +kernel
theorem dX8_checkAlderman_26 : decode cX8_checkAlderman 26 = .ok (.return_, 1) := by decide +kernel
theorem dX8_checkMotion_0 : decode cX8_checkMotion 0 = .ok (.iload_n 1, 1) := by decide +kernel
theorem dX8_checkMotion_1 : decode cX8_checkMotion 1 = .ok (.ifCond .lt 14, 3) := by decide +kernel
theorem dX8_checkMotion_4 : decode cX8_checkMotion 4 = .ok (.iload_n 1, 1) := by decide +kernel
theorem dX8_checkMotion_5 : decode cX8_checkMotion 5 = .ok (.aload_n 0, 1) := by decide +kernel
theorem dX8_checkMotion_6 : decode cX8_checkMotion 6 = .ok (.getfield 23, 3) := by decide +kernel
theorem dX8_checkMotion_9 : decode cX8_checkMotion 9 = .ok (.getfield 123, 3) := by decide +kernel
theorem dX8_checkMotion_12 : decode cX8_checkMotion 12 = .ok (.if_icmp .lt 14, 3) := by decide +kernel
theorem dX8_checkMotion_15 : decode cX8_checkMotion 15 = .ok (.new 158, 3) := by decide +kernel
theorem dX8_checkMotion_18 : decode cX8_checkMotion 18 = .ok (.dup, 1) := by decide +kernel
theorem dX8_checkMotion_19 : decode cX8_checkMotion 19 = .ok (.ldc_w 334, 3) := by decide +kernel
theorem dX8_checkMotion_22 : decode cX8_checkMotion 22 = .ok (.invokespecial 162, 3) := by decide +kernel
theorem dX8_checkMotion_25 : decode cX8_checkMotion 25 = .ok (.athrow, 1) := by decide +kernel
theorem dX8_checkMotion_26 : decode cX8_checkMotion 26 = .ok (.return_, 1) := by decide +kernel
set_option maxRecDepth 20000 in
theorem ggX8_checkWhat_X8_isOutside : GoodIn wsX8_checkWhat wsX8_isOutside := goodIn_r _ [6] (by decide +kernel) (by decide +kernel)
set_option maxRecDepth 20000 in
theorem gX8_checkWhat_X8_isOutside : GoodIn wsX8_checkWhat (va_wsS RX8 208 yX8_isOutside wsX8_isOutside) := goodIn_app (goodIn_of _ (by decide +kernel)) ggX8_checkWhat_X8_isOutside
theorem dX8_checkWhat_0 : decode cX8_checkWhat 0 = .ok (.iload_n 0, 1) := by decide +kernel
theorem dX8_checkWhat_1 : decode cX8_checkWhat 1 = .ok (.iconst 0, 1) := by decide +kernel
theorem dX8_checkWhat_2 : decode cX8_checkWhat 2 = .ok (.iload_n 1, 1) := by decide +kernel
theorem dX8_checkWhat_3 : decode cX8_checkWhat 3 = .ok (.invokestatic 208, 3) := by decide +kernel
theorem dX8_checkWhat_6 : decode cX8_checkWhat 6 = .ok (.ifCond .eq 14, 3) := by decide +kernel
theorem dX8_checkWhat_9 : decode cX8_checkWhat 9 = .ok (.new 158, 3) := by decide +kernel
theorem dX8_checkWhat_12 : decode cX8_checkWhat 12 = .ok (.dup, 1) := by decide +kernel
theorem dX8_checkWhat_13 : decode cX8_checkWhat 13 = .ok (.ldc_w 336, 3) := by decide +kernel
theorem dX8_checkWhat_16 : decode cX8_checkWhat 16 = .ok (.invokespecial 162, 3) := by decide +kernel
theorem dX8_checkWhat_19 : decode cX8_checkWhat 19 = .ok (.athrow, 1) := by decide +kernel
theorem dX8_checkWhat_20 : decode cX8_checkWhat 20 = .ok (.return_, 1) := by decide +kernel
set_option maxRecDepth 20000 in
theorem ggX8_checkRange_X8_isOutside : GoodIn wsX8_checkRange wsX8_isOutside := goodIn_r _ [6] (by decide +kernel) (by decide +kernel)
set_option maxRecDepth 20000 in
theorem gX8_checkRange_X8_isOutside : GoodIn wsX8_checkRange (va_wsS RX8 208 yX8_isOutside wsX8_isOutside) := goodIn_app (goodIn_of _ (by decide +kernel)) ggX8_checkRange_X8_isOutside
theorem dX8_checkRange_0 : decode cX8_checkRange 0 = .ok (.iload_n 0, 1) := by decide +kernel
theorem dX8_checkRange_1 : decode cX8_checkRange 1 = .ok (.iload_n 1, 1) := by decide +kernel
theorem dX8_checkRange_2 : decode cX8_checkRange 2 = .ok (.iload_n 2, 1) := by decide +kernel
theorem dX8_checkRange_3 : decode cX8_checkRange 3 = .ok (.invokestatic 208, 3) := by decide +kernel
theorem dX8_checkRange_6 : decode cX8_checkRange 6 = .ok (.ifCond .eq 14, 3) := by decide +kernel
theorem dX8_checkRange_9 : decode cX8_checkRange 9 = .ok (.new 98, 3) := by decide +kernel
theorem dX8_checkRange_12 : decode cX8_checkRange 12 = .ok (.dup, 1) := by decide +kernel
theorem dX8_checkRange_13 : decode cX8_checkRange 13 = .ok (.ldc_w 338, 3) := by decide +kernel
theorem dX8_checkRange_16 : decode cX8_checkRange 16 = .ok (.invokespecial 102, 3) := by decide +kernel
theorem dX8_checkRange_19 : decode cX8_checkRange 19 = .ok (.athrow, 1) := by decide +kernel
theorem dX8_checkRange_20 : decode cX8_checkRange 20 = .ok (.return_, 1) := by decide +kernel
theorem dX8_isOutside_0 : decode cX8_isOutside 0 = .ok (.iload_n 0, 1) := by decide +kernel
theorem dX8_isOutside_1 : decode cX8_isOutside 1 = .ok (.iload_n 1, 1) := by decide +kernel
theorem dX8_isOutside_2 : decode cX8_isOutside 2 = .ok (.if_icmp .lt 8, 3) := by decide +kernel
theorem dX8_isOutside_5 : decode cX8_isOutside 5 = .ok (.iload_n 0, 1) := by decide +kernel
theorem dX8_isOutside_6 : decode cX8_isOutside 6 = .ok (.iload_n 2, 1) := by decide +kernel
theorem dX8_isOutside_7 : decode cX8_isOutside 7 = .ok (.if_icmp .le 7, 3) := by decide +kernel
theorem dX8_isOutside_10 : decode cX8_isOutside 10 = .ok (.iconst 1, 1) := by decide +kernel
theorem dX8_isOutside_11 : decode cX8_isOutside 11 = .ok (.goto 4, 3) := by decide +kernel
theorem dX8_isOutside_14 : decode cX8_isOutside 14 = .ok (.iconst 0, 1) := by decide +kernel
theorem dX8_isOutside_15 : decode cX8_isOutside 15 = .ok (.ireturn, 1) := by decide +kernel
theorem dX9_init_0 : decode cX9_init 0 = .ok (.aload_n 0, 1) := by decide +kernel
theorem dX9_init_1 : decode cX9_init 1 = .ok (.invokespecial 3, 3) := by decide +kernel
theorem dX9_init_4 : decode cX9_init 4 = .ok (.aload_n 0, 1) := by decide +kernel
theorem dX9_init_5 : decode cX9_init 5 = .ok (.iconst 3, 1) := by decide +kernel
theorem dX9_init_6 : decode cX9_init 6 = .ok (.anewarray 9, 3) := by decide +kernel
theorem dX9_init_9 : decode cX9_init 9 = .ok (.dup, 1) := by decide +kernel
theorem dX9_init_10 : decode cX9_init 10 = .ok (.iconst 0, 1) := by decide +kernel
theorem dX9_init_11 : decode cX9_init 11 = .ok (.ldc 11, 2) := by decide +kernel
theorem dX9_init_13 : decode cX9_init 13 = .ok (.aastore, 1) := by decide +kernel
theorem dX9_init_14 : decode cX9_init 14 = .ok (.dup, 1) := by decide +kernel
theorem dX9_init_15 : decode cX9_init 15 = .ok (.iconst 1, 1) := by decide +kernel
theorem dX9_init_16 : decode cX9_init 16 = .ok (.ldc 13, 2) := by decide +kernel
theorem dX9_init_18 : decode cX9_init 18 = .ok (.aastore, 1) := by decide +kernel
theorem dX9_init_19 : decode cX9_init 19 = .ok (.dup, 1) := by decide +kernel
theorem dX9_init_20 : decode cX9_init 20 = .ok (.iconst 2, 1) := by decide +kernel
theorem dX9_init_21 : decode cX9_init 21 = .ok (.ldc 15, 2) := by decide +kernel
theorem dX9_init_23 : decode cX9_init 23 = .ok (.aastore, 1) := by decide +kernel
theorem dX9_init_24 : decode cX9_init 24 = .ok (.putfield 17, 3) := by decide +kernel
theorem dX9_init_27 : decode cX9_init 27 = .ok (.aload_n 0, 1) := by decide +kernel
theorem dX9_init_28 : decode cX9_init 28 = .ok (.iconst 4, 1) := by decide +kernel
theorem dX9_init_29 : decode cX9_init 29 = .ok (.anewarray 9, 3) := by decide +kernel
theorem dX9_init_32 : decode cX9_init 32 = .ok (.dup, 1) := by decide +kernel
theorem dX9_init_33 : decode cX9_init 33 = .ok (.iconst 0, 1) := by decide +kernel
theorem dX9_init_34 : decode cX9_init 34 = .ok (.ldc 21, 2) := by decide +kernel
theorem dX9_init_36 : decode cX9_init 36 = .ok (.aastore, 1) := by decide +kernel
theorem dX9_init_37 : decode cX9_init 37 = .ok (.dup, 1) := by decide +kernel
theorem dX9_init_38 : decode cX9_init 38 = .ok (.iconst 1, 1) := by decide +kernel
theorem dX9_init_39 : decode cX9_init 39 = .ok (.ldc 23, 2) := by decide +kernel
theorem dX9_init_41 : decode cX9_init 41 = .ok (.aastore, 1) := by decide +kernel
theorem dX9_init_42 : decode cX9_init 42 = .ok (.dup, 1) := by decide +kernel
theorem dX9_init_43 : decode cX9_init 43 = .ok (.iconst 2, 1) := by decide +kernel
theorem dX9_init_44 : decode cX9_init 44 = .ok (.ldc 25, 2) := by decide +kernel
theorem dX9_init_46 : decode cX9_init 46 = .ok (.aastore, 1) := by decide +kernel
theorem dX9_init_47 : decode cX9_init 47 = .ok (.dup, 1) := by decide +kernel
theorem dX9_init_48 : decode cX9_init 48 = .ok (.iconst 3, 1) := by decide +kernel
theorem dX9_init_49 : decode cX9_init 49 = .ok (.ldc 27, 2) := by decide +kernel
theorem dX9_init_51 : decode cX9_init 51 = .ok (.aastore, 1) := by decide +kernel
theorem dX9_init_52 : decode cX9_init 52 = .ok (.putfield 29, 3) := by decide +kernel
theorem dX9_init_55 : decode cX9_init 55 = .ok (.aload_n 0, 1) := by decide +kernel
theorem dX9_init_56 : decode cX9_init 56 = .ok (.bipush 6, 2) := by decide +kernel
theorem dX9_init_58 : decode cX9_init 58 = .ok (.anewarray 9, 3) := by decide +kernel
theorem dX9_init_61 : decode cX9_init 61 = .ok (.dup, 1) := by decide +kernel
theorem dX9_init_62 : decode cX9_init 62 = .ok (.iconst 0, 1) := by decide +kernel
theorem dX9_init_63 : decode cX9_init 63 = .ok (.ldc 32, 2) := by decide +kernel
theorem dX9_init_65 : decode cX9_init 65 = .ok (.aastore, 1) := by decide +kernel
theorem dX9_init_66 : decode cX9_init 66 = .ok (.dup, 1) := by decide +kernel
theorem dX9_init_67 : decode cX9_init 67 = .ok (.iconst 1, 1) := by decide +kernel
theorem dX9_init_68 : decode cX9_init 68 = .ok (.ldc 34, 2) := by decide +kernel
theorem dX9_init_70 : decode cX9_init 70 = .ok (.aastore, 1) := by decide +kernel
theorem dX9_init_71 : decode cX9_init 71 = .ok (.dup, 1) := by decide +kernel
theorem dX9_init_72 : decode cX9_init 72 = .ok (.iconst 2, 1) := by decide +kernel
theorem dX9_init_73 : decode cX9_init 73 = .ok (.ldc 36, 2) := by decide +kernel
theorem dX9_init_75 : decode cX9_init 75 = .ok (.aastore, 1) := by decide +kernel
theorem dX9_init_76 : decode cX9_init 76 = .ok (.dup, 1) := by decide +kernel
theorem dX9_init_77 : decode cX9_init 77 = .ok (.iconst 3, 1) := by decide +kernel
theorem dX9_init_78 : decode cX9_init 78 = .ok (.ldc 38, 2) := by decide +kernel
theorem dX9_init_80 : decode cX9_init 80 = .ok (.aastore, 1) := by decide +kernel
theorem dX9_init_81 : decode cX9_init 81 = .ok (.dup, 1) := by decide +kernel
theorem dX9_init_82 : decode cX9_init 82 = .ok (.iconst 4, 1) := by decide +kernel
theorem dX9_init_83 : decode cX9_init 83 = .ok (.ldc 40, 2) := by decide +kernel
theorem dX9_init_85 : decode cX9_init 85 = .ok (.aastore, 1) := by decide +kernel
theorem dX9_init_86 : decode cX9_init 86 = .ok (.dup, 1) := by decide +kernel
theorem dX9_init_87 : decode cX9_init 87 = .ok (.iconst 5, 1) := by decide +kernel
theorem dX9_init_88 : decode cX9_init 88 = .ok (.ldc 42, 2) := by decide +kernel
theorem dX9_init_90 : decode cX9_init 90 = .ok (.aastore, 1) := by decide +kernel
theorem dX9_init_91 : decode cX9_init 91 = .ok (.putfield 44, 3) := by decide +kernel
theorem dX9_init_94 : decode cX9_init 94 = .ok (.aload_n 0, 1) := by decide +kernel
theorem dX9_init_95 : decode cX9_init 95 = .ok (.aload_n 0, 1) := by decide +kernel
theorem dX9_init_96 : decode cX9_init 96 = .ok (.getfield 29, 3) := by decide +kernel
theorem dX9_init_99 : decode cX9_init 99 = .ok (.putfield 47, 3) := by decide +kernel
theorem dX9_init_102 : decode cX9_init 102 = .ok (.aload_n 0, 1) := by decide +kernel
theorem dX9_init_103 : decode cX9_init 103 = .ok (.bipush 14, 2) := by decide +kernel
theorem dX9_init_105 : decode cX9_init 105 = .ok (.newarray .int, 2) := by decide +kernel
theorem dX9_init_107 : decode cX9_init 107 = .ok (.putfield 50, 3) := by decide +kernel
theorem dX9_init_110 : decode cX9_init 110 = .ok (.aload_n 0, 1) := by decide +kernel
theorem dX9_init_111 : decode cX9_init 111 = .ok (.bipush 14, 2) := by decide +kernel
theorem dX9_init_113 : decode cX9_init 113 = .ok (.newarray .int, 2) := by decide +kernel
theorem dX9_init_115 : decode cX9_init 115 = .ok (.putfield 54, 3) := by decide +kernel
theorem dX9_init_118 : decode cX9_init 118 = .ok (.aload_n 0, 1) := by decide +kernel
theorem dX9_init_119 : decode cX9_init 119 = .ok (.bipush 14, 2) := by decide +kernel
theorem dX9_init_121 : decode cX9_init 121 = .ok (.newarray .int, 2) := by decide +kernel
theorem dX9_init_123 : decode cX9_init 123 = .ok (.putfield 57, 3) := by decide +kernel
theorem dX9_init_126 : decode cX9_init 126 = .ok (.aload_n 0, 1) := by decide +kernel
theorem dX9_init_127 : decode cX9_init 127 = .ok (.bipush 20, 2) := by decide +kernel
theorem dX9_init_129 : decode cX9_init 129 = .ok (.newarray .int, 2) := by decide +kernel
theorem dX9_init_131 : decode cX9_init 131 = .ok (.putfield 60, 3) := by decide +kernel
theorem dX9_init_134 : decode cX9_init 134 = .ok (.aload_n 0, 1) := by decide +kernel
theorem dX9_init_135 : decode cX9_init 135 = .ok (.bipush 20, 2) := by decide +kernel
theorem dX9_init_137 : decode cX9_init 137 = .ok (.newarray .int, 2) := by decide +kernel
theorem dX9_init_139 : decode cX9_init 139 = .ok (.putfield 62, 3) := by decide +kernel
theorem dX9_init_142 : decode cX9_init 142 = .ok (.aload_n 0, 1) := by decide +kernel
theorem dX9_init_143 : decode cX9_init 143 = .ok (.bipush 20, 2) := by decide +kernel
theorem dX9_init_145 : decode cX9_init 145 = .ok (.newarray .int, 2) := by decide +kernel
theorem dX9_init_147 : decode cX9_init 147 = .ok (.putfield 65, 3) := by decide +kernel
theorem dX9_init_150 : decode cX9_init 150 = .ok (.aload_n 0, 1) := by decide +kernel
theorem dX9_init_151 : decode cX9_init 151 = .ok (.bipush 20, 2) := by decide +kernel
theorem dX9_init_153 : decode cX9_init 153 = .ok (.newarray .int, 2) := by decide +kernel
theorem dX9_init_155 : decode cX9_init 155 = .ok (.putfield 67, 3) := by decide +kernel
theorem dX9_init_158 : decode cX9_init 158 = .ok (.aload_n 0, 1) := by decide +kernel
theorem dX9_init_159 : decode cX9_init 159 = .ok (.bipush 20, 2) := by decide +kernel
theorem dX9_init_161 : decode cX9_init 161 = .ok (.newarray .int, 2) := by decide +kernel
theorem dX9_init_163 : decode cX9_init 163 = .ok (.putfield 70, 3) := by decide +kernel
theorem dX9_init_166 : decode cX9_init 166 = .ok (.aload_n 0, 1) := by decide +kernel
theorem dX9_init_167 : decode cX9_init 167 = .ok (.sipush 1400, 3) := by decide +kernel
theorem dX9_init_170 : decode cX9_init 170 = .ok (.newarray .int, 2) := by decide +kernel
theorem dX9_init_172 : decode cX9_init 172 = .ok (.putfield 73, 3) := by decide +kernel
theorem dX9_init_175 : decode cX9_init 175 = .ok (.aload_n 0, 1) := by decide +kernel
theorem dX9_init_176 : decode cX9_init 176 = .ok (.sipush 1400, 3) := by decide +kernel
theorem dX9_init_179 : decode cX9_init 179 = .ok (.newarray .int, 2) := by decide +kernel
theorem dX9_init_181 : decode cX9_init 181 = .ok (.putfield 76, 3) := by decide +kernel
theorem dX9_init_184 : decode cX9_init 184 = .ok (.aload_n 0, 1) := by decide +kernel
theorem dX9_init_185 : decode cX9_init 185 = .ok (.iconst 3, 1) := by decide +kernel
theorem dX9_init_186 : decode cX9_init 186 = .ok (.newarray .int, 2) := by decide +kernel
theorem dX9_init_188 : decode cX9_init 188 = .ok (.putfield 79, 3) := by decide +kernel
theorem dX9_init_191 : decode cX9_init 191 = .ok (.aload_n 0, 1) := by decide +kernel
theorem dX9_init_192 : decode cX9_init 192 = .ok (.sipush 700, 3) := by decide +kernel
theorem dX9_init_195 : decode cX9_init 195 = .ok (.newarray .int, 2) := by decide +kernel
theorem dX9_init_197 : decode cX9_init 197 = .ok (.putfield 82, 3) := by decide +kernel
theorem dX9_init_200 : decode cX9_init 200 = .ok (.aload_n 0, 1) := by decide +kernel
theorem dX9_init_201 : decode cX9_init 201 = .ok (.iconst (-1), 1) := by decide +kernel
theorem dX9_init_202 : decode cX9_init 202 = .ok (.putfield 85, 3) := by decide +kernel
theorem dX9_init_205 : decode cX9_init 205 = .ok (.aload_n 0, 1) := by decide +kernel
theorem dX9_init_206 : decode cX9_init 206 = .ok (.bipush 7, 2) := by decide +kernel
theorem dX9_init_208 : decode cX9_init 208 = .ok (.newarray .int, 2) := by decide +kernel
theorem dX9_init_210 : decode cX9_init 210 = .ok (.putfield 89, 3) := by decide +kernel
theorem dX9_init_213 : decode cX9_init 213 = .ok (.aload_n 0, 1) := by decide +kernel
theorem dX9_init_214 : decode cX9_init 214 = .ok (.bipush 10, 2) := by decide +kernel
theorem dX9_init_216 : decode cX9_init 216 = .ok (.newarray .int, 2) := by decide +kernel
theorem dX9_init_218 : decode cX9_init 218 = .ok (.putfield 91, 3) := by decide +kernel
theorem dX9_init_221 : decode cX9_init 221 = .ok (.aload_n 0, 1) := by decide +kernel
theorem dX9_init_222 : decode cX9_init 222 = .ok (.sipush 960, 3) := by decide +kernel
theorem dX9_init_225 : decode cX9_init 225 = .ok (.newarray .int, 2) := by decide +kernel
theorem dX9_init_227 : decode cX9_init 227 = .ok (.putfield 94, 3) := by decide +kernel
theorem dX9_init_230 : decode cX9_init 230 = .ok (.aload_n 0, 1) := by decide +kernel
theorem dX9_init_231 : decode cX9_init 231 = .ok (.bipush 6, 2) := by decide +kernel
theorem dX9_init_233 : decode cX9_init 233 = .ok (.newarray .int, 2) := by decide +kernel
theorem dX9_init_235 : decode cX9_init 235 = .ok (.putfield 97, 3) := by decide +kernel
theorem dX9_init_238 : decode cX9_init 238 = .ok (.aload_n 0, 1) := by decide +kernel
theorem dX9_init_239 : decode cX9_init 239 = .ok (.bipush 64, 2) := by decide +kernel
theorem dX9_init_241 : decode cX9_init 241 = .ok (.newarray .int, 2) := by decide +kernel
theorem dX9_init_243 : decode cX9_init 243 = .ok (.putfield 100, 3) := by decide +kernel
theorem dX9_init_246 : decode cX9_init 246 = .ok (.aload_n 0, 1) := by decide +kernel
theorem dX9_init_247 : decode cX9_init 247 = .ok (.iconst (-1), 1) := by decide +kernel
theorem dX9_init_248 : decode cX9_init 248 = .ok (.putfield 103, 3) := by decide +kernel
theorem dX9_init_251 : decode cX9_init 251 = .ok (.aload_n 0, 1) := by decide +kernel
theorem dX9_init_252 : decode cX9_init 252 = .ok (.bipush 24, 2) := by decide +kernel
theorem dX9_init_254 : decode cX9_init 254 = .ok (.newarray .int, 2) := by decide +kernel
theorem dX9_init_256 : decode cX9_init 256 = .ok (.putfield 106, 3) := by decide +kernel
theorem dX9_init_259 : decode cX9_init 259 = .ok (.aload_n 0, 1) := by decide +kernel
theorem dX9_init_260 : decode cX9_init 260 = .ok (.bipush 7, 2) := by decide +kernel
theorem dX9_init_262 : decode cX9_init 262 = .ok (.newarray .int, 2) := by decide +kernel
theorem dX9_init_264 : decode cX9_init 264 = .ok (.putfield 109, 3) := by decide +kernel
theorem dX9_init_267 : decode cX9_init 267 = .ok (.aload_n 0, 1) := by decide +kernel
theorem dX9_init_268 : decode cX9_init 268 = .ok (.bipush 25, 2) := by decide +kernel
theorem dX9_init_270 : decode cX9_init 270 = .ok (.newarray .int, 2) := by decide +kernel
theorem dX9_init_272 : decode cX9_init 272 = .ok (.putfield 112, 3) := by decide +kernel
theorem dX9_init_275 : decode cX9_init 275 = .ok (.aload_n 0, 1) := by decide +kernel
theorem dX9_init_276 : decode cX9_init 276 = .ok (.bipush 8, 2) := by decide +kernel
theorem dX9_init_278 : decode cX9_init 278 = .ok (.newarray .int, 2) := by decide +kernel
theorem dX9_init_280 : decode cX9_init 280 = .ok (.putfield 115, 3) := by decide +kernel
theorem dX9_init_283 : decode cX9_init 283 = .ok (.aload_n 0, 1) := by decide +kernel
theorem dX9_init_284 : decode cX9_init 284 = .ok (.bipush 8, 2) := by decide +kernel
theorem dX9_init_286 : decode cX9_init 286 = .ok (.newarray .int, 2) := by decide +kernel
theorem dX9_init_288 : decode cX9_init 288 = .ok (.putfield 118, 3) := by decide +kernel
theorem dX9_init_291 : decode cX9_init 291 = .ok (.aload_n 0, 1) := by decide +kernel
theorem dX9_init_292 : decode cX9_init 292 = .ok (.bipush 24, 2) := by decide +kernel
theorem dX9_init_294 : decode cX9_init 294 = .ok (.newarray .int, 2) := by decide +kernel
theorem dX9_init_296 : decode cX9_init 296 = .ok (.putfield 121, 3) := by decide +kernel
theorem dX9_init_299 : decode cX9_init 299 = .ok (.aload_n 0, 1) := by decide +kernel
theorem dX9_init_300 : decode cX9_init 300 = .ok (.bipush 100, 2) := by decide +kernel
theorem dX9_init_302 : decode cX9_init 302 = .ok (.newarray .int, 2) := by decide +kernel
theorem dX9_init_304 : decode cX9_init 304 = .ok (.putfield 124, 3) := by decide +kernel
theorem dX9_init_307 : decode cX9_init 307 = .ok (.aload_n 0, 1) := by decide +kernel
theorem dX9_init_308 : decode cX9_init 308 = .ok (.sipush 4800, 3) := by decide +kernel
theorem dX9_init_311 : decode cX9_init 311 = .ok (.newarray .int, 2) := by decide +kernel
theorem dX9_init_313 : decode cX9_init 313 = .ok (.putfield 127, 3) := by decide +kernel
theorem dX9_init_316 : decode cX9_init 316 = .ok (.aload_n 0, 1) := by decide +kernel
theorem dX9_init_317 : decode cX9_init 317 = .ok (.bipush 24, 2) := by decide +kernel
theorem dX9_init_319 : decode cX9_init 319 = .ok (.newarray .int, 2) := by decide +kernel
theorem dX9_init_321 : decode cX9_init 321 = .ok (.putfield 130, 3) := by decide +kernel
theorem dX9_init_324 : decode cX9_init 324 = .ok (.aload_n 0, 1) := by decide +kernel
theorem dX9_init_325 : decode cX9_init 325 = .ok (.sipush 960, 3) := by decide +kernel
theorem dX9_init_328 : decode cX9_init 328 = .ok (.newarray .int, 2) := by decide +kernel
theorem dX9_init_330 : decode cX9_init 330 = .ok (.putfield 133, 3) := by decide +kernel
theorem dX9_init_333 : decode cX9_init 333 = .ok (.aload_n 0, 1) := by decide +kernel
theorem dX9_init_334 : decode cX9_init 334 = .ok (.bipush 8, 2) := by decide +kernel
theorem dX9_init_336 : decode cX9_init 336 = .ok (.newarray .int, 2) := by decide +kernel
theorem dX9_init_338 : decode cX9_init 338 = .ok (.putfield 136, 3) := by decide +kernel
theorem dX9_init_341 : decode cX9_init 341 = .ok (.aload_n 0, 1) := by decide +kernel
theorem dX9_init_342 : decode cX9_init 342 = .ok (.bipush 8, 2) := by decide +kernel
theorem dX9_init_344 : decode cX9_init 344 = .ok (.newarray .int, 2) := by decide +kernel
theorem dX9_init_346 : decode cX9_init 346 = .ok (.putfield 139, 3) := by decide +kernel
theorem dX9_init_349 : decode cX9_init 349 = .ok (.aload_n 0, 1) := by decide +kernel
theorem dX9_init_350 : decode cX9_init 350 = .ok (.iconst 3, 1) := by decide +kernel
theorem dX9_init_351 : decode cX9_init 351 = .ok (.newarray .int, 2) := by decide +kernel
theorem dX9_init_353 : decode cX9_init 353 = .ok (.putfield 142, 3) := by decide +kernel
theorem dX9_init_356 : decode cX9_init 356 = .ok (.aload_n 0, 1) := by decide +kernel
theorem dX9_init_357 : decode cX9_init 357 = .ok (.getfield 50, 3) := by decide +kernel
theorem dX9_init_360 : decode cX9_init 360 = .ok (.iconst 0, 1) := by decide +kernel
theorem dX9_init_361 : decode cX9_init 361 = .ok (.bipush 20, 2) := by decide +kernel
theorem dX9_init_363 : decode cX9_init 363 = .ok (.iastore, 1) := by decide +kernel
theorem dX9_init_364 : decode cX9_init 364 = .ok (.aload_n 0, 1) := by decide +kernel
theorem dX9_init_365 : decode cX9_init 365 = .ok (.getfield 50, 3) := by decide +kernel
theorem dX9_init_368 : decode cX9_init 368 = .ok (.iconst 1, 1) := by decide +kernel
theorem dX9_init_369 : decode cX9_init 369 = .ok (.bipush 24, 2) := by decide +kernel
theorem dX9_init_371 : decode cX9_init 371 = .ok (.iastore, 1) := by decide +kernel
theorem dX9_init_372 : decode cX9_init 372 = .ok (.aload_n 0, 1) := by decide +kernel
theorem dX9_init_373 : decode cX9_init 373 = .ok (.getfield 50, 3) := by decide +kernel
theorem dX9_init_376 : decode cX9_init 376 = .ok (.iconst 2, 1) := by decide +kernel
theorem dX9_init_377 : decode cX9_init 377 = .ok (.bipush 100, 2) := by decide +kernel
theorem dX9_init_379 : decode cX9_init 379 = .ok (.iastore, 1) := by decide +kernel
theorem dX9_init_380 : decode cX9_init 380 = .ok (.aload_n 0, 1) := by decide +kernel
theorem dX9_init_381 : decode cX9_init 381 = .ok (.bipush 20, 2) := by decide +kernel
theorem dX9_init_383 : decode cX9_init 383 = .ok (.putfield 145, 3) := by decide +kernel
theorem dX9_init_386 : decode cX9_init 386 = .ok (.aload_n 0, 1) := by decide +kernel
theorem dX9_init_387 : decode cX9_init 387 = .ok (.bipush 24, 2) := by decide +kernel
theorem dX9_init_389 : decode cX9_init 389 = .ok (.putfield 147, 3) := by decide +kernel
theorem dX9_init_392 : decode cX9_init 392 = .ok (.aload_n 0, 1) := by decide +kernel
theorem dX9_init_393 : decode cX9_init 393 = .ok (.bipush 100, 2) := by decide +kernel
theorem dX9_init_395 : decode cX9_init 395 = .ok (.putfield 149, 3) := by decide +kernel
theorem dX9_init_398 : decode cX9_init 398 = .ok (.return_, 1) := by decide +kernel
theorem dX9_thrown_0 : decode cX9_thrown 0 = .ok (.aload_n 0, 1) := by decide +kernel
theorem dX9_thrown_1 : decode cX9_thrown 1 = .ok (.getfield 152, 3) := by decide +kernel
theorem dX9_thrown_4 : decode cX9_thrown 4 = .ok (.ireturn, 1) := by decide +kernel
theorem dX9_fail_0 : decode cX9_fail 0 = .ok (.aload_n 0, 1) := by decide +kernel
theorem dX9_fail_1 : decode cX9_fail 1 = .ok (.iload_n 1, 1) := by decide +kernel
theorem dX9_fail_2 : decode cX9_fail 2 = .ok (.putfield 152, 3) := by decide +kernel
theorem dX9_fail_5 : decode cX9_fail 5 = .ok (.iconst 0, 1) := by decide +kernel
theorem dX9_fail_6 : decode cX9_fail 6 = .ok (.ireturn, 1) := by decide +kernel
theorem dX9_isIn_0 : decode cX9_isIn 0 = .ok (.lload_n 0, 1) := by decide +kernel
theorem dX9_isIn_1 : decode cX9_isIn 1 = .ok (.lload_n 2, 1) := by decide +kernel
theorem dX9_isIn_2 : decode cX9_isIn 2 = .ok (.lcmp, 1) := by decide +kernel
theorem dX9_isIn_3 : decode cX9_isIn 3 = .ok (.ifCond .lt 14, 3) := by decide +kernel
theorem dX9_isIn_6 : decode cX9_isIn 6 = .ok (.lload_n 0, 1) := by decide +kernel
theorem dX9_isIn_7 : decode cX9_isIn 7 = .ok (.lload 4, 2) := by decide +kernel
theorem dX9_isIn_9 : decode cX9_isIn 9 = .ok (.lcmp, 1) := by decide +kernel
theorem dX9_isIn_10 : decode cX9_isIn 10 = .ok (.ifCond .gt 7, 3) := by decide +kernel
theorem dX9_isIn_13 : decode cX9_isIn 13 = .ok (.iconst 1, 1) := by decide +kernel
theorem dX9_isIn_14 : decode cX9_isIn 14 = .ok (.goto 4, 3) := by decide +kernel
theorem dX9_isIn_17 : decode cX9_isIn 17 = .ok (.iconst 0, 1) := by decide +kernel
theorem dX9_isIn_18 : decode cX9_isIn 18 = .ok (.ireturn, 1) := by decide +kernel
theorem dX9_isOf_0 : decode cX9_isOf 0 = .ok (.iload_n 0, 1) := by decide +kernel
theorem dX9_isOf_1 : decode cX9_isOf 1 = .ok (.iload_n 1, 1) := by decide +kernel
theorem dX9_isOf_2 : decode cX9_isOf 2 = .ok (.ishr, 1) := by decide +kernel
theorem dX9_isOf_3 : decode cX9_isOf 3 = .ok (.iconst 1, 1) := by decide +kernel
theorem dX9_isOf_4 : decode cX9_isOf 4 = .ok (.iand, 1) := by decide +kernel
theorem dX9_isOf_5 : decode cX9_isOf 5 = .ok (.iconst 1, 1) := by decide +kernel
theorem dX9_isOf_6 : decode cX9_isOf 6 = .ok (.if_icmp .ne 7, 3) := by decide +kernel
theorem dX9_isOf_9 : decode cX9_isOf 9 = .ok (.iconst 1, 1) := by decide +kernel
theorem dX9_isOf_10 : decode cX9_isOf 10 = .ok (.goto 4, 3) := by decide +kernel
theorem dX9_isOf_13 : decode cX9_isOf 13 = .ok (.iconst 0, 1) := by decide +kernel
theorem dX9_isOf_14 : decode cX9_isOf 14 = .ok (.ireturn, 1) := by decide +kernel
theorem dX9_bitsOf_0 : decode cX9_bitsOf 0 = .ok (.iconst 0, 1) := by decide +kernel
theorem dX9_bitsOf_1 : decode cX9_bitsOf 1 = .ok (.istore_n 1, 1) := by decide +kernel
theorem dX9_bitsOf_2 : decode cX9_bitsOf 2 = .ok (.iload_n 0, 1) := by decide +kernel
theorem dX9_bitsOf_3 : decode cX9_bitsOf 3 = .ok (.istore_n 2, 1) := by decide +kernel
theorem dX9_bitsOf_4 : decode cX9_bitsOf 4 = .ok (.iload_n 2, 1) := by decide +kernel
theorem dX9_bitsOf_5 : decode cX9_bitsOf 5 = .ok (.ifCond .eq 15, 3) := by decide +kernel
theorem dX9_bitsOf_8 : decode cX9_bitsOf 8 = .ok (.iinc 1 1, 3) := by decide +kernel
theorem dX9_bitsOf_11 : decode cX9_bitsOf 11 = .ok (.iload_n 2, 1) := by decide +kernel
theorem dX9_bitsOf_12 : decode cX9_bitsOf 12 = .ok (.iload_n 2, 1) := by decide +kernel
theorem dX9_bitsOf_13 : decode cX9_bitsOf 13 = .ok (.iconst 1, 1) := by decide +kernel
theorem dX9_bitsOf_14 : decode cX9_bitsOf 14 = .ok (.isub, 1) := by decide +kernel
theorem dX9_bitsOf_15 : decode cX9_bitsOf 15 = .ok (.iand, 1) := by decide +kernel
theorem dX9_bitsOf_16 : decode cX9_bitsOf 16 = .ok (.istore_n 2, 1) := by decide +kernel
theorem dX9_bitsOf_17 : decode cX9_bitsOf 17 = .ok (.goto (-13), 3) := by decide +kernel
theorem dX9_bitsOf_20 : decode cX9_bitsOf 20 = .ok (.iload_n 1, 1) := by decide +kernel
theorem dX9_bitsOf_21 : decode cX9_bitsOf 21 = .ok (.ireturn, 1) := by decide +kernel
set_option maxRecDepth 20000 in
theorem ggX9_isAlderman_X9_isIn : GoodIn wsX9_isAlderman wsX9_isIn := goodIn_r _ [5] (by decide +kernel) (by decide +kernel)
set_option maxRecDepth 20000 in
theorem gX9_isAlderman_X9_isIn : GoodIn wsX9_isAlderman (va_wsS RX9 155 yX9_isIn wsX9_isIn) := goodIn_app (goodIn_of _ (by decide +kernel)) ggX9_isAlderman_X9_isIn
theorem dX9_isAlderman_0 : decode cX9_isAlderman 0 = .ok (.iload_n 1, 1) := by decide +kernel
theorem dX9_isAlderman_1 : decode cX9_isAlderman 1 = .ok (.i2l, 1) := by decide +kernel
theorem dX9_isAlderman_2 : decode cX9_isAlderman 2 = .ok (.lconst 0, 1) := by decide +kernel
theorem dX9_isAlderman_3 : decode cX9_isAlderman 3 = .ok (.aload_n 0, 1) := by decide +kernel
theorem dX9_isAlderman_4 : decode cX9_isAlderman 4 = .ok (.getfield 50, 3) := by decide +kernel
theorem dX9_isAlderman_7 : decode cX9_isAlderman 7 = .ok (.iconst 3, 1) := by decide +kernel
theorem dX9_isAlderman_8 : decode cX9_isAlderman 8 = .ok (.iaload, 1) := by decide +kernel
theorem dX9_isAlderman_9 : decode cX9_isAlderman 9 = .ok (.iconst 1, 1) := by decide +kernel
theorem dX9_isAlderman_10 : decode cX9_isAlderman 10 = .ok (.isub, 1) := by decide +kernel
theorem dX9_isAlderman_11 : decode cX9_isAlderman 11 = .ok (.i2l, 1) := by decide +kernel
theorem dX9_isAlderman_12 : decode cX9_isAlderman 12 = .ok (.invokestatic 155, 3) := by decide +kernel
theorem dX9_isAlderman_15 : decode cX9_isAlderman 15 = .ok (.ireturn, 1) := by decide +kernel
set_option maxRecDepth 20000 in
theorem ggX9_isMotion_X9_isIn : GoodIn wsX9_isMotion wsX9_isIn := goodIn_r _ [5] (by decide +kernel) (by decide +kernel)
set_option maxRecDepth 20000 in
theorem gX9_isMotion_X9_isIn : GoodIn wsX9_isMotion (va_wsS RX9 155 yX9_isIn wsX9_isIn) := goodIn_app (goodIn_of _ (by decide +kernel)) ggX9_isMotion_X9_isIn
theorem dX9_isMotion_0 : decode cX9_isMotion 0 = .ok (.iload_n 1, 1) := by decide +kernel
theorem dX9_isMotion_1 : decode cX9_isMotion 1 = .ok (.i2l, 1) := by decide +kernel
theorem dX9_isMotion_2 : decode cX9_isMotion 2 = .ok (.lconst 0, 1) := by decide +kernel
theorem dX9_isMotion_3 : decode cX9_isMotion 3 = .ok (.aload_n 0, 1) := by decide +kernel
theorem dX9_isMotion_4 : decode cX9_isMotion 4 = .ok (.getfield 50, 3) := by decide +kernel
theorem dX9_isMotion_7 : decode cX9_isMotion 7 = .ok (.iconst 4, 1) := by decide +kernel
theorem dX9_isMotion_8 : decode cX9_isMotion 8 = .ok (.iaload, 1) := by decide +kernel
theorem dX9_isMotion_9 : decode cX9_isMotion 9 = .ok (.iconst 1, 1) := by decide +kernel
theorem dX9_isMotion_10 : decode cX9_isMotion 10 = .ok (.isub, 1) := by decide +kernel
theorem dX9_isMotion_11 : decode cX9_isMotion 11 = .ok (.i2l, 1) := by decide +kernel
theorem dX9_isMotion_12 : decode cX9_isMotion 12 = .ok (.invokestatic 155, 3) := by decide +kernel
theorem dX9_isMotion_15 : decode cX9_isMotion 15 = .ok (.ireturn, 1) := by decide +kernel
theorem dX9_feed_0 : decode cX9_feed 0 = .ok (.aload_n 0, 1) := by decide +kernel
theorem dX9_feed_1 : decode cX9_feed 1 = .ok (.iconst 0, 1) := by decide +kernel
theorem dX9_feed_2 : decode cX9_feed 2 = .ok (.putfield 152, 3) := by decide +kernel
theorem dX9_feed_5 : decode cX9_feed 5 = .ok (.aload_n 0, 1) := by decide +kernel
theorem dX9_feed_6 : decode cX9_feed 6 = .ok (.getfield 159, 3) := by decide +kernel
theorem dX9_feed_9 : decode cX9_feed 9 = .ok (.bipush 20, 2) := by decide +kernel
theorem dX9_feed_11 : decode cX9_feed 11 = .ok (.iadd, 1) := by decide +kernel
theorem dX9_feed_12 : decode cX9_feed 12 = .ok (.sipush 700, 3) := by decide +kernel
theorem dX9_feed_15 : decode cX9_feed 15 = .ok (.if_icmp .le 5, 3) := by decide +kernel
theorem dX9_feed_18 : decode cX9_feed 18 = .ok (.iconst (-1), 1) := by decide +kernel
theorem dX9_feed_19 : decode cX9_feed 19 = .ok (.ireturn, 1) := by decide +kernel
theorem dX9_feed_20 : decode cX9_feed 20 = .ok (.iconst 0, 1) := by decide +kernel
theorem dX9_feed_21 : decode cX9_feed 21 = .ok (.istore 6, 2) := by decide +kernel
theorem dX9_feed_23 : decode cX9_feed 23 = .ok (.iload 6, 2) := by decide +kernel
theorem dX9_feed_25 : decode cX9_feed 25 = .ok (.bipush 20, 2) := by decide +kernel
theorem dX9_feed_27 : decode cX9_feed 27 = .ok (.if_icmp .ge 93, 3) := by decide +kernel
theorem dX9_feed_30 : decode cX9_feed 30 = .ok (.iload 6, 2) := by decide +kernel
theorem dX9_feed_32 : decode cX9_feed 32 = .ok (.iconst 4, 1) := by decide +kernel
theorem dX9_feed_33 : decode cX9_feed 33 = .ok (.if_icmp .ge 7, 3) := by decide +kernel
theorem dX9_feed_36 : decode cX9_feed 36 = .ok (.iload_n 1, 1) := by decide +kernel
theorem dX9_feed_37 : decode cX9_feed 37 = .ok (.goto 39, 3) := by decide +kernel
theorem dX9_feed_40 : decode cX9_feed 40 = .ok (.iload 6, 2) := by decide +kernel
theorem dX9_feed_42 : decode cX9_feed 42 = .ok (.bipush 8, 2) := by decide +kernel
theorem dX9_feed_44 : decode cX9_feed 44 = .ok (.if_icmp .ge 7, 3) := by decide +kernel
theorem dX9_feed_47 : decode cX9_feed 47 = .ok (.iload_n 2, 1) := by decide +kernel
theorem dX9_feed_48 : decode cX9_feed 48 = .ok (.goto 28, 3) := by decide +kernel
theorem dX9_feed_51 : decode cX9_feed 51 = .ok (.iload 6, 2) := by decide +kernel
theorem dX9_feed_53 : decode cX9_feed 53 = .ok (.bipush 12, 2) := by decide +kernel
theorem dX9_feed_55 : decode cX9_feed 55 = .ok (.if_icmp .ge 7, 3) := by decide +kernel
theorem dX9_feed_58 : decode cX9_feed 58 = .ok (.iload_n 3, 1) := by decide +kernel
theorem dX9_feed_59 : decode cX9_feed 59 = .ok (.goto 17, 3) := by decide +kernel
theorem dX9_feed_62 : decode cX9_feed 62 = .ok (.iload 6, 2) := by decide +kernel
theorem dX9_feed_64 : decode cX9_feed 64 = .ok (.bipush 16, 2) := by decide +kernel
theorem dX9_feed_66 : decode cX9_feed 66 = .ok (.if_icmp .ge 8, 3) := by decide +kernel
theorem dX9_feed_69 : decode cX9_feed 69 = .ok (.iload 4, 2) := by decide +kernel
theorem dX9_feed_71 : decode cX9_feed 71 = .ok (.goto 5, 3) := by decide +kernel
theorem dX9_feed_74 : decode cX9_feed 74 = .ok (.iload 5, 2) := by decide +kernel
theorem dX9_feed_76 : decode cX9_feed 76 = .ok (.istore 7, 2) := by decide +kernel
theorem dX9_feed_78 : decode cX9_feed 78 = .ok (.aload_n 0, 1) := by decide +kernel
theorem dX9_feed_79 : decode cX9_feed 79 = .ok (.getfield 82, 3) := by decide +kernel
theorem dX9_feed_82 : decode cX9_feed 82 = .ok (.aload_n 0, 1) := by decide +kernel
theorem dX9_feed_83 : decode cX9_feed 83 = .ok (.getfield 159, 3) := by decide +kernel
theorem dX9_feed_86 : decode cX9_feed 86 = .ok (.iload 7, 2) := by decide +kernel
theorem dX9_feed_88 : decode cX9_feed 88 = .ok (.bipush 24, 2) := by decide +kernel
theorem dX9_feed_90 : decode cX9_feed 90 = .ok (.bipush 8, 2) := by decide +kernel
theorem dX9_feed_92 : decode cX9_feed 92 = .ok (.iload 6, 2) := by decide +kernel
theorem dX9_feed_94 : decode cX9_feed 94 = .ok (.iconst 4, 1) := by decide +kernel
theorem dX9_feed_95 : decode cX9_feed 95 = .ok (.irem, 1) := by decide +kernel
theorem dX9_feed_96 : decode cX9_feed 96 = .ok (.imul, 1) := by decide +kernel
theorem dX9_feed_97 : decode cX9_feed 97 = .ok (.isub, 1) := by decide +kernel
theorem dX9_feed_98 : decode cX9_feed 98 = .ok (.ishr, 1) := by decide +kernel
theorem dX9_feed_99 : decode cX9_feed 99 = .ok (.sipush 255, 3) := by decide +kernel
theorem dX9_feed_102 : decode cX9_feed 102 = .ok (.iand, 1) := by decide +kernel
theorem dX9_feed_103 : decode cX9_feed 103 = .ok (.iastore, 1) := by decide +kernel
theorem dX9_feed_104 : decode cX9_feed 104 = .ok (.aload_n 0, 1) := by decide +kernel
theorem dX9_feed_105 : decode cX9_feed 105 = .ok (.dup, 1) := by decide +kernel
theorem dX9_feed_106 : decode cX9_feed 106 = .ok (.getfield 159, 3) := by decide +kernel
theorem dX9_feed_109 : decode cX9_feed 109 = .ok (.iconst 1, 1) := by decide +kernel
theorem dX9_feed_110 : decode cX9_feed 110 = .ok (.iadd, 1) := by decide +kernel
theorem dX9_feed_111 : decode cX9_feed 111 = .ok (.putfield 159, 3) := by decide +kernel
theorem dX9_feed_114 : decode cX9_feed 114 = .ok (.iinc 6 1, 3) := by decide +kernel
theorem dX9_feed_117 : decode cX9_feed 117 = .ok (.goto (-94), 3) := by decide +kernel
theorem dX9_feed_120 : decode cX9_feed 120 = .ok (.aload_n 0, 1) := by decide +kernel
theorem dX9_feed_121 : decode cX9_feed 121 = .ok (.getfield 159, 3) := by decide +kernel
theorem dX9_feed_124 : decode cX9_feed 124 = .ok (.ireturn, 1) := by decide +kernel
theorem dX9_byteAt_0 : decode cX9_byteAt 0 = .ok (.iload_n 1, 1) := by decide +kernel
theorem dX9_byteAt_1 : decode cX9_byteAt 1 = .ok (.aload_n 0, 1) := by decide +kernel
theorem dX9_byteAt_2 : decode cX9_byteAt 2 = .ok (.getfield 162, 3) := by decide +kernel
theorem dX9_byteAt_5 : decode cX9_byteAt 5 = .ok (.if_icmp .ge 12, 3) := by decide +kernel
theorem dX9_byteAt_8 : decode cX9_byteAt 8 = .ok (.aload_n 0, 1) := by decide +kernel
theorem dX9_byteAt_9 : decode cX9_byteAt 9 = .ok (.getfield 82, 3) := by decide +kernel
theorem dX9_byteAt_12 : decode cX9_byteAt 12 = .ok (.iload_n 1, 1) := by decide +kernel
theorem dX9_byteAt_13 : decode cX9_byteAt 13 = .ok (.iaload, 1) := by decide +kernel
theorem dX9_byteAt_14 : decode cX9_byteAt 14 = .ok (.goto 4, 3) := by decide +kernel
theorem dX9_byteAt_17 : decode cX9_byteAt 17 = .ok (.iconst (-1), 1) := by decide +kernel
theorem dX9_byteAt_18 : decode cX9_byteAt 18 = .ok (.ireturn, 1) := by decide +kernel
theorem dX9_isLetter_0 : decode cX9_isLetter 0 = .ok (.iload_n 0, 1) := by decide +kernel
theorem dX9_isLetter_1 : decode cX9_isLetter 1 = .ok (.bipush 97, 2) := by decide +kernel
theorem dX9_isLetter_3 : decode cX9_isLetter 3 = .ok (.if_icmp .lt 13, 3) := by decide +kernel
theorem dX9_isLetter_6 : decode cX9_isLetter 6 = .ok (.iload_n 0, 1) := by decide +kernel
theorem dX9_isLetter_7 : decode cX9_isLetter 7 = .ok (.bipush 122, 2) := by decide +kernel
theorem dX9_isLetter_9 : decode cX9_isLetter 9 = .ok (.if_icmp .gt 7, 3) := by decide +kernel
theorem dX9_isLetter_12 : decode cX9_isLetter 12 = .ok (.iconst 1, 1) := by decide +kernel
theorem dX9_isLetter_13 : decode cX9_isLetter 13 = .ok (.goto 4, 3) := by decide +kernel
theorem dX9_isLetter_16 : decode cX9_isLetter 16 = .ok (.iconst 0, 1) := by decide +kernel
theorem dX9_isLetter_17 : decode cX9_isLetter 17 = .ok (.ireturn, 1) := by decide +kernel
theorem dX9_isDigit_0 : decode cX9_isDigit 0 = .ok (.iload_n 0, 1) := by decide +kernel
theorem dX9_isDigit_1 : decode cX9_isDigit 1 = .ok (.bipush 48, 2) := by decide +kernel
theorem dX9_isDigit_3 : decode cX9_isDigit 3 = .ok (.if_icmp .lt 13, 3) := by decide +kernel
theorem dX9_isDigit_6 : decode cX9_isDigit 6 = .ok (.iload_n 0, 1) := by decide +kernel
theorem dX9_isDigit_7 : decode cX9_isDigit 7 = .ok (.bipush 57, 2) := by decide +kernel
theorem dX9_isDigit_9 : decode cX9_isDigit 9 = .ok (.if_icmp .gt 7, 3) := by decide +kernel
theorem dX9_isDigit_12 : decode cX9_isDigit 12 = .ok (.iconst 1, 1) := by decide +kernel
theorem dX9_isDigit_13 : decode cX9_isDigit 13 = .ok (.goto 4, 3) := by decide +kernel
theorem dX9_isDigit_16 : decode cX9_isDigit 16 = .ok (.iconst 0, 1) := by decide +kernel
theorem dX9_isDigit_17 : decode cX9_isDigit 17 = .ok (.ireturn, 1) := by decide +kernel
theorem dX9_isMark_0 : decode cX9_isMark 0 = .ok (.iload_n 0, 1) := by decide +kernel
theorem dX9_isMark_1 : decode cX9_isMark 1 = .ok (.bipush 59, 2) := by decide +kernel
theorem dX9_isMark_3 : decode cX9_isMark 3 = .ok (.if_icmp .eq 51, 3) := by decide +kernel
theorem dX9_isMark_6 : decode cX9_isMark 6 = .ok (.iload_n 0, 1) := by decide +kernel
theorem dX9_isMark_7 : decode cX9_isMark 7 = .ok (.bipush 40, 2) := by decide +kernel
theorem dX9_isMark_9 : decode cX9_isMark 9 = .ok (.if_icmp .eq 45, 3) := by decide +kernel
theorem dX9_isMark_12 : decode cX9_isMark 12 = .ok (.iload_n 0, 1) := by decide +kernel
theorem dX9_isMark_13 : decode cX9_isMark 13 = .ok (.bipush 41, 2) := by decide +kernel
theorem dX9_isMark_15 : decode cX9_isMark 15 = .ok (.if_icmp .eq 39, 3) := by decide +kernel
theorem dX9_isMark_18 : decode cX9_isMark 18 = .ok (.iload_n 0, 1) := by decide +kernel
theorem dX9_isMark_19 : decode cX9_isMark 19 = .ok (.bipush 43, 2) := by decide +kernel
theorem dX9_isMark_21 : decode cX9_isMark 21 = .ok (.if_icmp .eq 33, 3) := by decide +kernel
theorem dX9_isMark_24 : decode cX9_isMark 24 = .ok (.iload_n 0, 1) := by decide +kernel
theorem dX9_isMark_25 : decode cX9_isMark 25 = .ok (.bipush 45, 2) := by decide +kernel
theorem dX9_isMark_27 : decode cX9_isMark 27 = .ok (.if_icmp .eq 27, 3) := by decide +kernel
theorem dX9_isMark_30 : decode cX9_isMark 30 = .ok (.iload_n 0, 1) := by decide +kernel
theorem dX9_isMark_31 : decode cX9_isMark 31 = .ok (.bipush 42, 2) := by decide +kernel
theorem dX9_isMark_33 : decode cX9_isMark 33 = .ok (.if_icmp .eq 21, 3) := by decide +kernel
theorem dX9_isMark_36 : decode cX9_isMark 36 = .ok (.iload_n 0, 1) := by decide +kernel
theorem dX9_isMark_37 : decode cX9_isMark 37 = .ok (.bipush 47, 2) := by decide +kernel
theorem dX9_isMark_39 : decode cX9_isMark 39 = .ok (.if_icmp .eq 15, 3) := by decide +kernel
theorem dX9_isMark_42 : decode cX9_isMark 42 = .ok (.iload_n 0, 1) := by decide +kernel
theorem dX9_isMark_43 : decode cX9_isMark 43 = .ok (.bipush 60, 2) := by decide +kernel
theorem dX9_isMark_45 : decode cX9_isMark 45 = .ok (.if_icmp .eq 9, 3) := by decide +kernel
theorem dX9_isMark_48 : decode cX9_isMark 48 = .ok (.iload_n 0, 1) := by decide +kernel
theorem dX9_isMark_49 : decode cX9_isMark 49 = .ok (.bipush 61, 2) := by decide +kernel
theorem dX9_isMark_51 : decode cX9_isMark 51 = .ok (.if_icmp .ne 7, 3) := by decide +kernel
theorem dX9_isMark_54 : decode cX9_isMark 54 = .ok (.iconst 1, 1) := by decide +kernel
theorem dX9_isMark_55 : decode cX9_isMark 55 = .ok (.goto 4, 3) := by decide +kernel
theorem dX9_isMark_58 : decode cX9_isMark 58 = .ok (.iconst 0, 1) := by decide +kernel
theorem dX9_isMark_59 : decode cX9_isMark 59 = .ok (.ireturn, 1) := by decide +kernel
set_option maxRecDepth 20000 in
theorem ggX9_stepOn_X9_byteAt : GoodIn wsX9_stepOn wsX9_byteAt := goodIn_r _ [15, 16, 17, 27, 28, 29, 30, 31, 32, 33, 34, 35, 36, 37, 38, 39, 40, 41, 42, 43, 44, 45, 46, 47, 48, 49, 50, 51, 52, 53, 54, 55, 56, 57, 58, 59, 60, 61, 62, 63, 64, 65, 66, 67, 68, 69, 70, 71, 72, 73, 74, 75, 76, 77, 78, 79, 80, 81, 82, 83, 84, 85, 86, 87, 88, 89] (by decide +kernel) (by decide +kernel)
set_option maxRecDepth 20000 in
theorem gX9_stepOn_X9_byteAt : GoodIn wsX9_stepOn (wsV RX9 168 RX9 yX9_byteAt wsX9_byteAt) := goodIn_app (goodIn_of _ (by decide +kernel)) ggX9_stepOn_X9_byteAt
set_option maxRecDepth 20000 in
theorem ggX9_stepOn_X9_isLetter : GoodIn wsX9_stepOn wsX9_isLetter := goodIn_r _ [20] (by decide +kernel) (by decide +kernel)
set_option maxRecDepth 20000 in
theorem gX9_stepOn_X9_isLetter : GoodIn wsX9_stepOn (va_wsS RX9 178 yX9_isLetter wsX9_isLetter) := goodIn_app (goodIn_of _ (by decide +kernel)) ggX9_stepOn_X9_isLetter
set_option maxRecDepth 20000 in
theorem ggX9_stepOn_X9_isDigit : GoodIn wsX9_stepOn wsX9_isDigit := goodIn_r _ [23] (by decide +kernel) (by decide +kernel)
set_option maxRecDepth 20000 in
theorem gX9_stepOn_X9_isDigit : GoodIn wsX9_stepOn (va_wsS RX9 182 yX9_isDigit wsX9_isDigit) := goodIn_app (goodIn_of _ (by decide +kernel)) ggX9_stepOn_X9_isDigit
set_option maxRecDepth 20000 in
theorem ggX9_stepOn_X9_isMark : GoodIn wsX9_stepOn wsX9_isMark := goodIn_r _ [26] (by decide +kernel) (by decide +kernel)
set_option maxRecDepth 20000 in
theorem gX9_stepOn_X9_isMark : GoodIn wsX9_stepOn (va_wsS RX9 195 yX9_isMark wsX9_isMark) := goodIn_app (goodIn_of _ (by decide +kernel)) ggX9_stepOn_X9_isMark
theorem dX9_stepOn_0 : decode cX9_stepOn 0 = .ok (.aload_n 0, 1) := by decide +kernel
theorem dX9_stepOn_1 : decode cX9_stepOn 1 = .ok (.aload_n 0, 1) := by decide +kernel
theorem dX9_stepOn_2 : decode cX9_stepOn 2 = .ok (.getfield 165, 3) := by decide +kernel
theorem dX9_stepOn_5 : decode cX9_stepOn 5 = .ok (.invokevirtual 168, 3) := by decide +kernel
theorem dX9_stepOn_8 : decode cX9_stepOn 8 = .ok (.bipush 32, 2) := by decide +kernel
theorem dX9_stepOn_10 : decode cX9_stepOn 10 = .ok (.if_icmp .eq 16, 3) := by decide +kernel
theorem dX9_stepOn_13 : decode cX9_stepOn 13 = .ok (.aload_n 0, 1) := by decide +kernel
theorem dX9_stepOn_14 : decode cX9_stepOn 14 = .ok (.aload_n 0, 1) := by decide +kernel
theorem dX9_stepOn_15 : decode cX9_stepOn 15 = .ok (.getfield 165, 3) := by decide +kernel
theorem dX9_stepOn_18 : decode cX9_stepOn 18 = .ok (.invokevirtual 168, 3) := by decide +kernel
theorem dX9_stepOn_21 : decode cX9_stepOn 21 = .ok (.bipush 10, 2) := by decide +kernel
theorem dX9_stepOn_23 : decode cX9_stepOn 23 = .ok (.if_icmp .ne 16, 3) := by decide +kernel
theorem dX9_stepOn_26 : decode cX9_stepOn 26 = .ok (.aload_n 0, 1) := by decide +kernel
theorem dX9_stepOn_27 : decode cX9_stepOn 27 = .ok (.dup, 1) := by decide +kernel
theorem dX9_stepOn_28 : decode cX9_stepOn 28 = .ok (.getfield 165, 3) := by decide +kernel
theorem dX9_stepOn_31 : decode cX9_stepOn 31 = .ok (.iconst 1, 1) := by decide +kernel
theorem dX9_stepOn_32 : decode cX9_stepOn 32 = .ok (.iadd, 1) := by decide +kernel
theorem dX9_stepOn_33 : decode cX9_stepOn 33 = .ok (.putfield 165, 3) := by decide +kernel
theorem dX9_stepOn_36 : decode cX9_stepOn 36 = .ok (.goto (-36), 3) := by decide +kernel
theorem dX9_stepOn_39 : decode cX9_stepOn 39 = .ok (.aload_n 0, 1) := by decide +kernel
theorem dX9_stepOn_40 : decode cX9_stepOn 40 = .ok (.aload_n 0, 1) := by decide +kernel
theorem dX9_stepOn_41 : decode cX9_stepOn 41 = .ok (.getfield 165, 3) := by decide +kernel
theorem dX9_stepOn_44 : decode cX9_stepOn 44 = .ok (.putfield 172, 3) := by decide +kernel
theorem dX9_stepOn_47 : decode cX9_stepOn 47 = .ok (.aload_n 0, 1) := by decide +kernel
theorem dX9_stepOn_48 : decode cX9_stepOn 48 = .ok (.aload_n 0, 1) := by decide +kernel
theorem dX9_stepOn_49 : decode cX9_stepOn 49 = .ok (.getfield 165, 3) := by decide +kernel
theorem dX9_stepOn_52 : decode cX9_stepOn 52 = .ok (.invokevirtual 168, 3) := by decide +kernel
theorem dX9_stepOn_55 : decode cX9_stepOn 55 = .ok (.istore_n 1, 1) := by decide +kernel
theorem dX9_stepOn_56 : decode cX9_stepOn 56 = .ok (.iload_n 1, 1) := by decide +kernel
theorem dX9_stepOn_57 : decode cX9_stepOn 57 = .ok (.iconst (-1), 1) := by decide +kernel
theorem dX9_stepOn_58 : decode cX9_stepOn 58 = .ok (.if_icmp .ne 11, 3) := by decide +kernel
theorem dX9_stepOn_61 : decode cX9_stepOn 61 = .ok (.aload_n 0, 1) := by decide +kernel
theorem dX9_stepOn_62 : decode cX9_stepOn 62 = .ok (.iconst 0, 1) := by decide +kernel
theorem dX9_stepOn_63 : decode cX9_stepOn 63 = .ok (.putfield 175, 3) := by decide +kernel
theorem dX9_stepOn_66 : decode cX9_stepOn 66 = .ok (.goto 146, 3) := by decide +kernel
theorem dX9_stepOn_69 : decode cX9_stepOn 69 = .ok (.iload_n 1, 1) := by decide +kernel
theorem dX9_stepOn_70 : decode cX9_stepOn 70 = .ok (.invokestatic 178, 3) := by decide +kernel
theorem dX9_stepOn_73 : decode cX9_stepOn 73 = .ok (.ifCond .eq 38, 3) := by decide +kernel
theorem dX9_stepOn_76 : decode cX9_stepOn 76 = .ok (.aload_n 0, 1) := by decide +kernel
theorem dX9_stepOn_77 : decode cX9_stepOn 77 = .ok (.aload_n 0, 1) := by decide +kernel
theorem dX9_stepOn_78 : decode cX9_stepOn 78 = .ok (.getfield 165, 3) := by decide +kernel
theorem dX9_stepOn_81 : decode cX9_stepOn 81 = .ok (.invokevirtual 168, 3) := by decide +kernel
theorem dX9_stepOn_84 : decode cX9_stepOn 84 = .ok (.invokestatic 178, 3) := by decide +kernel
theorem dX9_stepOn_87 : decode cX9_stepOn 87 = .ok (.ifCond .eq 16, 3) := by decide +kernel
theorem dX9_stepOn_90 : decode cX9_stepOn 90 = .ok (.aload_n 0, 1) := by decide +kernel
theorem dX9_stepOn_91 : decode cX9_stepOn 91 = .ok (.dup, 1) := by decide +kernel
theorem dX9_stepOn_92 : decode cX9_stepOn 92 = .ok (.getfield 165, 3) := by decide +kernel
theorem dX9_stepOn_95 : decode cX9_stepOn 95 = .ok (.iconst 1, 1) := by decide +kernel
theorem dX9_stepOn_96 : decode cX9_stepOn 96 = .ok (.iadd, 1) := by decide +kernel
theorem dX9_stepOn_97 : decode cX9_stepOn 97 = .ok (.putfield 165, 3) := by decide +kernel
theorem dX9_stepOn_100 : decode cX9_stepOn 100 = .ok (.goto (-24), 3) := by decide +kernel
theorem dX9_stepOn_103 : decode cX9_stepOn 103 = .ok (.aload_n 0, 1) := by decide +kernel
theorem dX9_stepOn_104 : decode cX9_stepOn 104 = .ok (.iconst 1, 1) := by decide +kernel
theorem dX9_stepOn_105 : decode cX9_stepOn 105 = .ok (.putfield 175, 3) := by decide +kernel
theorem dX9_stepOn_108 : decode cX9_stepOn 108 = .ok (.goto 104, 3) := by decide +kernel
theorem dX9_stepOn_111 : decode cX9_stepOn 111 = .ok (.iload_n 1, 1) := by decide +kernel
theorem dX9_stepOn_112 : decode cX9_stepOn 112 = .ok (.invokestatic 182, 3) := by decide +kernel
theorem dX9_stepOn_115 : decode cX9_stepOn 115 = .ok (.ifCond .eq 71, 3) := by decide +kernel
theorem dX9_stepOn_118 : decode cX9_stepOn 118 = .ok (.aload_n 0, 1) := by decide +kernel
theorem dX9_stepOn_119 : decode cX9_stepOn 119 = .ok (.iconst 0, 1) := by decide +kernel
theorem dX9_stepOn_120 : decode cX9_stepOn 120 = .ok (.putfield 185, 3) := by decide +kernel
theorem dX9_stepOn_123 : decode cX9_stepOn 123 = .ok (.aload_n 0, 1) := by decide +kernel
theorem dX9_stepOn_124 : decode cX9_stepOn 124 = .ok (.aload_n 0, 1) := by decide +kernel
theorem dX9_stepOn_125 : decode cX9_stepOn 125 = .ok (.getfield 165, 3) := by decide +kernel
theorem dX9_stepOn_128 : decode cX9_stepOn 128 = .ok (.invokevirtual 168, 3) := by decide +kernel
theorem dX9_stepOn_131 : decode cX9_stepOn 131 = .ok (.invokestatic 182, 3) := by decide +kernel
theorem dX9_stepOn_134 : decode cX9_stepOn 134 = .ok (.ifCond .eq 44, 3) := by decide +kernel
theorem dX9_stepOn_137 : decode cX9_stepOn 137 = .ok (.aload_n 0, 1) := by decide +kernel
theorem dX9_stepOn_138 : decode cX9_stepOn 138 = .ok (.ldc 188, 2) := by decide +kernel
theorem dX9_stepOn_140 : decode cX9_stepOn 140 = .ok (.bipush 10, 2) := by decide +kernel
theorem dX9_stepOn_142 : decode cX9_stepOn 142 = .ok (.aload_n 0, 1) := by decide +kernel
theorem dX9_stepOn_143 : decode cX9_stepOn 143 = .ok (.getfield 185, 3) := by decide +kernel
theorem dX9_stepOn_146 : decode cX9_stepOn 146 = .ok (.imul, 1) := by decide +kernel
theorem dX9_stepOn_147 : decode cX9_stepOn 147 = .ok (.aload_n 0, 1) := by decide +kernel
theorem dX9_stepOn_148 : decode cX9_stepOn 148 = .ok (.aload_n 0, 1) := by decide +kernel
theorem dX9_stepOn_149 : decode cX9_stepOn 149 = .ok (.getfield 165, 3) := by decide +kernel
theorem dX9_stepOn_152 : decode cX9_stepOn 152 = .ok (.invokevirtual 168, 3) := by decide +kernel
theorem dX9_stepOn_155 : decode cX9_stepOn 155 = .ok (.iadd, 1) := by decide +kernel
theorem dX9_stepOn_156 : decode cX9_stepOn 156 = .ok (.bipush 48, 2) := by decide +kernel
theorem dX9_stepOn_158 : decode cX9_stepOn 158 = .ok (.isub, 1) := by decide +kernel
theorem dX9_stepOn_159 : decode cX9_stepOn 159 = .ok (.invokestatic 189, 3) := by decide +kernel
theorem dX9_stepOn_162 : decode cX9_stepOn 162 = .ok (.putfield 185, 3) := by decide +kernel
theorem dX9_stepOn_165 : decode cX9_stepOn 165 = .ok (.aload_n 0, 1) := by decide +kernel
theorem dX9_stepOn_166 : decode cX9_stepOn 166 = .ok (.dup, 1) := by decide +kernel
theorem dX9_stepOn_167 : decode cX9_stepOn 167 = .ok (.getfield 165, 3) := by decide +kernel
theorem dX9_stepOn_170 : decode cX9_stepOn 170 = .ok (.iconst 1, 1) := by decide +kernel
theorem dX9_stepOn_171 : decode cX9_stepOn 171 = .ok (.iadd, 1) := by decide +kernel
theorem dX9_stepOn_172 : decode cX9_stepOn 172 = .ok (.putfield 165, 3) := by decide +kernel
theorem dX9_stepOn_175 : decode cX9_stepOn 175 = .ok (.goto (-52), 3) := by decide +kernel
theorem dX9_stepOn_178 : decode cX9_stepOn 178 = .ok (.aload_n 0, 1) := by decide +kernel
theorem dX9_stepOn_179 : decode cX9_stepOn 179 = .ok (.iconst 2, 1) := by decide +kernel
theorem dX9_stepOn_180 : decode cX9_stepOn 180 = .ok (.putfield 175, 3) := by decide +kernel
theorem dX9_stepOn_183 : decode cX9_stepOn 183 = .ok (.goto 29, 3) := by decide +kernel
theorem dX9_stepOn_186 : decode cX9_stepOn 186 = .ok (.aload_n 0, 1) := by decide +kernel
theorem dX9_stepOn_187 : decode cX9_stepOn 187 = .ok (.dup, 1) := by decide +kernel
theorem dX9_stepOn_188 : decode cX9_stepOn 188 = .ok (.getfield 165, 3) := by decide +kernel
theorem dX9_stepOn_191 : decode cX9_stepOn 191 = .ok (.iconst 1, 1) := by decide +kernel
theorem dX9_stepOn_192 : decode cX9_stepOn 192 = .ok (.iadd, 1) := by decide +kernel
theorem dX9_stepOn_193 : decode cX9_stepOn 193 = .ok (.putfield 165, 3) := by decide +kernel
