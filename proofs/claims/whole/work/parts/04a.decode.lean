theorem dX0_init_0 : decode cX0_init 0 = .ok (.aload_n 0, 1) := by decide +kernel
theorem dX0_init_1 : decode cX0_init 1 = .ok (.invokespecial 3, 3) := by decide +kernel
theorem dX0_init_4 : decode cX0_init 4 = .ok (.aload_n 0, 1) := by decide +kernel
theorem dX0_init_5 : decode cX0_init 5 = .ok (.new 9, 3) := by decide +kernel
theorem dX0_init_8 : decode cX0_init 8 = .ok (.dup, 1) := by decide +kernel
theorem dX0_init_9 : decode cX0_init 9 = .ok (.invokespecial 11, 3) := by decide +kernel
theorem dX0_init_12 : decode cX0_init 12 = .ok (.putfield 12, 3) := by decide +kernel
theorem dX0_init_15 : decode cX0_init 15 = .ok (.aload_n 0, 1) := by decide +kernel
theorem dX0_init_16 : decode cX0_init 16 = .ok (.sipush 960, 3) := by decide +kernel
theorem dX0_init_19 : decode cX0_init 19 = .ok (.newarray .int, 2) := by decide +kernel
theorem dX0_init_21 : decode cX0_init 21 = .ok (.putfield 18, 3) := by decide +kernel
theorem dX0_init_24 : decode cX0_init 24 = .ok (.aload_n 0, 1) := by decide +kernel
theorem dX0_init_25 : decode cX0_init 25 = .ok (.bipush 8, 2) := by decide +kernel
theorem dX0_init_27 : decode cX0_init 27 = .ok (.newarray .int, 2) := by decide +kernel
theorem dX0_init_29 : decode cX0_init 29 = .ok (.putfield 22, 3) := by decide +kernel
theorem dX0_init_32 : decode cX0_init 32 = .ok (.aload_n 0, 1) := by decide +kernel
theorem dX0_init_33 : decode cX0_init 33 = .ok (.bipush 8, 2) := by decide +kernel
theorem dX0_init_35 : decode cX0_init 35 = .ok (.newarray .int, 2) := by decide +kernel
theorem dX0_init_37 : decode cX0_init 37 = .ok (.putfield 25, 3) := by decide +kernel
theorem dX0_init_40 : decode cX0_init 40 = .ok (.aload_n 0, 1) := by decide +kernel
theorem dX0_init_41 : decode cX0_init 41 = .ok (.iconst 3, 1) := by decide +kernel
theorem dX0_init_42 : decode cX0_init 42 = .ok (.newarray .int, 2) := by decide +kernel
theorem dX0_init_44 : decode cX0_init 44 = .ok (.putfield 28, 3) := by decide +kernel
theorem dX0_init_47 : decode cX0_init 47 = .ok (.return_, 1) := by decide +kernel
theorem dX0_begin_0 : decode cX0_begin 0 = .ok (.aload_n 0, 1) := by decide +kernel
theorem dX0_begin_1 : decode cX0_begin 1 = .ok (.getfield 12, 3) := by decide +kernel
theorem dX0_begin_4 : decode cX0_begin 4 = .ok (.aload_n 1, 1) := by decide +kernel
theorem dX0_begin_5 : decode cX0_begin 5 = .ok (.invokevirtual 31, 3) := by decide +kernel
theorem dX0_begin_8 : decode cX0_begin 8 = .ok (.aload_n 0, 1) := by decide +kernel
theorem dX0_begin_9 : decode cX0_begin 9 = .ok (.iconst 0, 1) := by decide +kernel
theorem dX0_begin_10 : decode cX0_begin 10 = .ok (.putfield 35, 3) := by decide +kernel
theorem dX0_begin_13 : decode cX0_begin 13 = .ok (.aload_n 0, 1) := by decide +kernel
theorem dX0_begin_14 : decode cX0_begin 14 = .ok (.iconst 0, 1) := by decide +kernel
theorem dX0_begin_15 : decode cX0_begin 15 = .ok (.putfield 39, 3) := by decide +kernel
theorem dX0_begin_18 : decode cX0_begin 18 = .ok (.return_, 1) := by decide +kernel
theorem dX0_copyFrom_0 : decode cX0_copyFrom 0 = .ok (.aload_n 0, 1) := by decide +kernel
theorem dX0_copyFrom_1 : decode cX0_copyFrom 1 = .ok (.getfield 12, 3) := by decide +kernel
theorem dX0_copyFrom_4 : decode cX0_copyFrom 4 = .ok (.aload_n 1, 1) := by decide +kernel
theorem dX0_copyFrom_5 : decode cX0_copyFrom 5 = .ok (.getfield 12, 3) := by decide +kernel
theorem dX0_copyFrom_8 : decode cX0_copyFrom 8 = .ok (.invokevirtual 42, 3) := by decide +kernel
theorem dX0_copyFrom_11 : decode cX0_copyFrom 11 = .ok (.aload_n 1, 1) := by decide +kernel
theorem dX0_copyFrom_12 : decode cX0_copyFrom 12 = .ok (.getfield 18, 3) := by decide +kernel
theorem dX0_copyFrom_15 : decode cX0_copyFrom 15 = .ok (.iconst 0, 1) := by decide +kernel
theorem dX0_copyFrom_16 : decode cX0_copyFrom 16 = .ok (.aload_n 0, 1) := by decide +kernel
theorem dX0_copyFrom_17 : decode cX0_copyFrom 17 = .ok (.getfield 18, 3) := by decide +kernel
theorem dX0_copyFrom_20 : decode cX0_copyFrom 20 = .ok (.iconst 0, 1) := by decide +kernel
theorem dX0_copyFrom_21 : decode cX0_copyFrom 21 = .ok (.aload_n 0, 1) := by decide +kernel
theorem dX0_copyFrom_22 : decode cX0_copyFrom 22 = .ok (.getfield 18, 3) := by decide +kernel
theorem dX0_copyFrom_25 : decode cX0_copyFrom 25 = .ok (.arraylength, 1) := by decide +kernel
theorem dX0_copyFrom_26 : decode cX0_copyFrom 26 = .ok (.invokestatic 46, 3) := by decide +kernel
theorem dX0_copyFrom_29 : decode cX0_copyFrom 29 = .ok (.aload_n 0, 1) := by decide +kernel
theorem dX0_copyFrom_30 : decode cX0_copyFrom 30 = .ok (.aload_n 1, 1) := by decide +kernel
theorem dX0_copyFrom_31 : decode cX0_copyFrom 31 = .ok (.getfield 35, 3) := by decide +kernel
theorem dX0_copyFrom_34 : decode cX0_copyFrom 34 = .ok (.putfield 35, 3) := by decide +kernel
theorem dX0_copyFrom_37 : decode cX0_copyFrom 37 = .ok (.aload_n 1, 1) := by decide +kernel
theorem dX0_copyFrom_38 : decode cX0_copyFrom 38 = .ok (.getfield 22, 3) := by decide +kernel
theorem dX0_copyFrom_41 : decode cX0_copyFrom 41 = .ok (.iconst 0, 1) := by decide +kernel
theorem dX0_copyFrom_42 : decode cX0_copyFrom 42 = .ok (.aload_n 0, 1) := by decide +kernel
theorem dX0_copyFrom_43 : decode cX0_copyFrom 43 = .ok (.getfield 22, 3) := by decide +kernel
theorem dX0_copyFrom_46 : decode cX0_copyFrom 46 = .ok (.iconst 0, 1) := by decide +kernel
theorem dX0_copyFrom_47 : decode cX0_copyFrom 47 = .ok (.bipush 8, 2) := by decide +kernel
theorem dX0_copyFrom_49 : decode cX0_copyFrom 49 = .ok (.invokestatic 46, 3) := by decide +kernel
theorem dX0_copyFrom_52 : decode cX0_copyFrom 52 = .ok (.aload_n 1, 1) := by decide +kernel
theorem dX0_copyFrom_53 : decode cX0_copyFrom 53 = .ok (.getfield 25, 3) := by decide +kernel
theorem dX0_copyFrom_56 : decode cX0_copyFrom 56 = .ok (.iconst 0, 1) := by decide +kernel
theorem dX0_copyFrom_57 : decode cX0_copyFrom 57 = .ok (.aload_n 0, 1) := by decide +kernel
theorem dX0_copyFrom_58 : decode cX0_copyFrom 58 = .ok (.getfield 25, 3) := by decide +kernel
theorem dX0_copyFrom_61 : decode cX0_copyFrom 61 = .ok (.iconst 0, 1) := by decide +kernel
theorem dX0_copyFrom_62 : decode cX0_copyFrom 62 = .ok (.bipush 8, 2) := by decide +kernel
theorem dX0_copyFrom_64 : decode cX0_copyFrom 64 = .ok (.invokestatic 46, 3) := by decide +kernel
theorem dX0_copyFrom_67 : decode cX0_copyFrom 67 = .ok (.aload_n 0, 1) := by decide +kernel
theorem dX0_copyFrom_68 : decode cX0_copyFrom 68 = .ok (.aload_n 1, 1) := by decide +kernel
theorem dX0_copyFrom_69 : decode cX0_copyFrom 69 = .ok (.getfield 39, 3) := by decide +kernel
theorem dX0_copyFrom_72 : decode cX0_copyFrom 72 = .ok (.putfield 39, 3) := by decide +kernel
theorem dX0_copyFrom_75 : decode cX0_copyFrom 75 = .ok (.aload_n 1, 1) := by decide +kernel
theorem dX0_copyFrom_76 : decode cX0_copyFrom 76 = .ok (.getfield 28, 3) := by decide +kernel
theorem dX0_copyFrom_79 : decode cX0_copyFrom 79 = .ok (.iconst 0, 1) := by decide +kernel
theorem dX0_copyFrom_80 : decode cX0_copyFrom 80 = .ok (.aload_n 0, 1) := by decide +kernel
theorem dX0_copyFrom_81 : decode cX0_copyFrom 81 = .ok (.getfield 28, 3) := by decide +kernel
theorem dX0_copyFrom_84 : decode cX0_copyFrom 84 = .ok (.iconst 0, 1) := by decide +kernel
theorem dX0_copyFrom_85 : decode cX0_copyFrom 85 = .ok (.iconst 3, 1) := by decide +kernel
theorem dX0_copyFrom_86 : decode cX0_copyFrom 86 = .ok (.invokestatic 46, 3) := by decide +kernel
theorem dX0_copyFrom_89 : decode cX0_copyFrom 89 = .ok (.return_, 1) := by decide +kernel
theorem dX0_keepAct_0 : decode cX0_keepAct 0 = .ok (.aload_n 0, 1) := by decide +kernel
theorem dX0_keepAct_1 : decode cX0_keepAct 1 = .ok (.getfield 35, 3) := by decide +kernel
theorem dX0_keepAct_4 : decode cX0_keepAct 4 = .ok (.bipush 40, 2) := by decide +kernel
theorem dX0_keepAct_6 : decode cX0_keepAct 6 = .ok (.if_icmp .lt 31, 3) := by decide +kernel
theorem dX0_keepAct_9 : decode cX0_keepAct 9 = .ok (.aload_n 0, 1) := by decide +kernel
theorem dX0_keepAct_10 : decode cX0_keepAct 10 = .ok (.getfield 18, 3) := by decide +kernel
theorem dX0_keepAct_13 : decode cX0_keepAct 13 = .ok (.bipush 24, 2) := by decide +kernel
theorem dX0_keepAct_15 : decode cX0_keepAct 15 = .ok (.aload_n 0, 1) := by decide +kernel
theorem dX0_keepAct_16 : decode cX0_keepAct 16 = .ok (.getfield 18, 3) := by decide +kernel
theorem dX0_keepAct_19 : decode cX0_keepAct 19 = .ok (.iconst 0, 1) := by decide +kernel
theorem dX0_keepAct_20 : decode cX0_keepAct 20 = .ok (.aload_n 0, 1) := by decide +kernel
theorem dX0_keepAct_21 : decode cX0_keepAct 21 = .ok (.getfield 18, 3) := by decide +kernel
theorem dX0_keepAct_24 : decode cX0_keepAct 24 = .ok (.arraylength, 1) := by decide +kernel
theorem dX0_keepAct_25 : decode cX0_keepAct 25 = .ok (.bipush 24, 2) := by decide +kernel
theorem dX0_keepAct_27 : decode cX0_keepAct 27 = .ok (.isub, 1) := by decide +kernel
theorem dX0_keepAct_28 : decode cX0_keepAct 28 = .ok (.invokestatic 46, 3) := by decide +kernel
theorem dX0_keepAct_31 : decode cX0_keepAct 31 = .ok (.aload_n 0, 1) := by decide +kernel
theorem dX0_keepAct_32 : decode cX0_keepAct 32 = .ok (.bipush 39, 2) := by decide +kernel
theorem dX0_keepAct_34 : decode cX0_keepAct 34 = .ok (.putfield 35, 3) := by decide +kernel
theorem dX0_keepAct_37 : decode cX0_keepAct 37 = .ok (.aload_n 0, 1) := by decide +kernel
theorem dX0_keepAct_38 : decode cX0_keepAct 38 = .ok (.getfield 12, 3) := by decide +kernel
theorem dX0_keepAct_41 : decode cX0_keepAct 41 = .ok (.aload_n 0, 1) := by decide +kernel
theorem dX0_keepAct_42 : decode cX0_keepAct 42 = .ok (.getfield 18, 3) := by decide +kernel
theorem dX0_keepAct_45 : decode cX0_keepAct 45 = .ok (.aload_n 0, 1) := by decide +kernel
theorem dX0_keepAct_46 : decode cX0_keepAct 46 = .ok (.getfield 35, 3) := by decide +kernel
theorem dX0_keepAct_49 : decode cX0_keepAct 49 = .ok (.bipush 24, 2) := by decide +kernel
theorem dX0_keepAct_51 : decode cX0_keepAct 51 = .ok (.imul, 1) := by decide +kernel
theorem dX0_keepAct_52 : decode cX0_keepAct 52 = .ok (.invokevirtual 52, 3) := by decide +kernel
theorem dX0_keepAct_55 : decode cX0_keepAct 55 = .ok (.aload_n 0, 1) := by decide +kernel
theorem dX0_keepAct_56 : decode cX0_keepAct 56 = .ok (.dup, 1) := by decide +kernel
theorem dX0_keepAct_57 : decode cX0_keepAct 57 = .ok (.getfield 35, 3) := by decide +kernel
theorem dX0_keepAct_60 : decode cX0_keepAct 60 = .ok (.iconst 1, 1) := by decide +kernel
theorem dX0_keepAct_61 : decode cX0_keepAct 61 = .ok (.iadd, 1) := by decide +kernel
theorem dX0_keepAct_62 : decode cX0_keepAct 62 = .ok (.putfield 35, 3) := by decide +kernel
theorem dX0_keepAct_65 : decode cX0_keepAct 65 = .ok (.return_, 1) := by decide +kernel
theorem dX0_takeBackAct_0 : decode cX0_takeBackAct 0 = .ok (.aload_n 0, 1) := by decide +kernel
theorem dX0_takeBackAct_1 : decode cX0_takeBackAct 1 = .ok (.getfield 35, 3) := by decide +kernel
theorem dX0_takeBackAct_4 : decode cX0_takeBackAct 4 = .ok (.ifCond .le 31, 3) := by decide +kernel
theorem dX0_takeBackAct_7 : decode cX0_takeBackAct 7 = .ok (.aload_n 0, 1) := by decide +kernel
theorem dX0_takeBackAct_8 : decode cX0_takeBackAct 8 = .ok (.dup, 1) := by decide +kernel
theorem dX0_takeBackAct_9 : decode cX0_takeBackAct 9 = .ok (.getfield 35, 3) := by decide +kernel
theorem dX0_takeBackAct_12 : decode cX0_takeBackAct 12 = .ok (.iconst 1, 1) := by decide +kernel
theorem dX0_takeBackAct_13 : decode cX0_takeBackAct 13 = .ok (.isub, 1) := by decide +kernel
theorem dX0_takeBackAct_14 : decode cX0_takeBackAct 14 = .ok (.putfield 35, 3) := by decide +kernel
theorem dX0_takeBackAct_17 : decode cX0_takeBackAct 17 = .ok (.aload_n 0, 1) := by decide +kernel
theorem dX0_takeBackAct_18 : decode cX0_takeBackAct 18 = .ok (.getfield 12, 3) := by decide +kernel
theorem dX0_takeBackAct_21 : decode cX0_takeBackAct 21 = .ok (.aload_n 0, 1) := by decide +kernel
theorem dX0_takeBackAct_22 : decode cX0_takeBackAct 22 = .ok (.getfield 18, 3) := by decide +kernel
theorem dX0_takeBackAct_25 : decode cX0_takeBackAct 25 = .ok (.aload_n 0, 1) := by decide +kernel
theorem dX0_takeBackAct_26 : decode cX0_takeBackAct 26 = .ok (.getfield 35, 3) := by decide +kernel
theorem dX0_takeBackAct_29 : decode cX0_takeBackAct 29 = .ok (.bipush 24, 2) := by decide +kernel
theorem dX0_takeBackAct_31 : decode cX0_takeBackAct 31 = .ok (.imul, 1) := by decide +kernel
theorem dX0_takeBackAct_32 : decode cX0_takeBackAct 32 = .ok (.invokevirtual 56, 3) := by decide +kernel
theorem dX0_takeBackAct_35 : decode cX0_takeBackAct 35 = .ok (.return_, 1) := by decide +kernel
theorem dX0_addSeen_0 : decode cX0_addSeen 0 = .ok (.aload_n 0, 1) := by decide +kernel
theorem dX0_addSeen_1 : decode cX0_addSeen 1 = .ok (.getfield 39, 3) := by decide +kernel
theorem dX0_addSeen_4 : decode cX0_addSeen 4 = .ok (.ifCond .lt 42, 3) := by decide +kernel
theorem dX0_addSeen_7 : decode cX0_addSeen 7 = .ok (.aload_n 0, 1) := by decide +kernel
theorem dX0_addSeen_8 : decode cX0_addSeen 8 = .ok (.getfield 39, 3) := by decide +kernel
theorem dX0_addSeen_11 : decode cX0_addSeen 11 = .ok (.bipush 8, 2) := by decide +kernel
theorem dX0_addSeen_13 : decode cX0_addSeen 13 = .ok (.if_icmp .ge 33, 3) := by decide +kernel
theorem dX0_addSeen_16 : decode cX0_addSeen 16 = .ok (.aload_n 0, 1) := by decide +kernel
theorem dX0_addSeen_17 : decode cX0_addSeen 17 = .ok (.getfield 22, 3) := by decide +kernel
theorem dX0_addSeen_20 : decode cX0_addSeen 20 = .ok (.aload_n 0, 1) := by decide +kernel
theorem dX0_addSeen_21 : decode cX0_addSeen 21 = .ok (.getfield 39, 3) := by decide +kernel
theorem dX0_addSeen_24 : decode cX0_addSeen 24 = .ok (.iload_n 1, 1) := by decide +kernel
theorem dX0_addSeen_25 : decode cX0_addSeen 25 = .ok (.iastore, 1) := by decide +kernel
theorem dX0_addSeen_26 : decode cX0_addSeen 26 = .ok (.aload_n 0, 1) := by decide +kernel
theorem dX0_addSeen_27 : decode cX0_addSeen 27 = .ok (.getfield 25, 3) := by decide +kernel
theorem dX0_addSeen_30 : decode cX0_addSeen 30 = .ok (.aload_n 0, 1) := by decide +kernel
theorem dX0_addSeen_31 : decode cX0_addSeen 31 = .ok (.getfield 39, 3) := by decide +kernel
theorem dX0_addSeen_34 : decode cX0_addSeen 34 = .ok (.iload_n 2, 1) := by decide +kernel
theorem dX0_addSeen_35 : decode cX0_addSeen 35 = .ok (.iastore, 1) := by decide +kernel
theorem dX0_addSeen_36 : decode cX0_addSeen 36 = .ok (.aload_n 0, 1) := by decide +kernel
theorem dX0_addSeen_37 : decode cX0_addSeen 37 = .ok (.dup, 1) := by decide +kernel
theorem dX0_addSeen_38 : decode cX0_addSeen 38 = .ok (.getfield 39, 3) := by decide +kernel
theorem dX0_addSeen_41 : decode cX0_addSeen 41 = .ok (.iconst 1, 1) := by decide +kernel
theorem dX0_addSeen_42 : decode cX0_addSeen 42 = .ok (.iadd, 1) := by decide +kernel
theorem dX0_addSeen_43 : decode cX0_addSeen 43 = .ok (.putfield 39, 3) := by decide +kernel
theorem dX0_addSeen_46 : decode cX0_addSeen 46 = .ok (.return_, 1) := by decide +kernel
theorem dX1_init_0 : decode cX1_init 0 = .ok (.aload_n 0, 1) := by decide +kernel
theorem dX1_init_1 : decode cX1_init 1 = .ok (.invokespecial 3, 3) := by decide +kernel
theorem dX1_init_4 : decode cX1_init 4 = .ok (.aload_n 0, 1) := by decide +kernel
theorem dX1_init_5 : decode cX1_init 5 = .ok (.bipush 7, 2) := by decide +kernel
theorem dX1_init_7 : decode cX1_init 7 = .ok (.newarray .int, 2) := by decide +kernel
theorem dX1_init_9 : decode cX1_init 9 = .ok (.putfield 9, 3) := by decide +kernel
theorem dX1_init_12 : decode cX1_init 12 = .ok (.aload_n 0, 1) := by decide +kernel
theorem dX1_init_13 : decode cX1_init 13 = .ok (.bipush 7, 2) := by decide +kernel
theorem dX1_init_15 : decode cX1_init 15 = .ok (.newarray .int, 2) := by decide +kernel
theorem dX1_init_17 : decode cX1_init 17 = .ok (.putfield 15, 3) := by decide +kernel
theorem dX1_init_20 : decode cX1_init 20 = .ok (.aload_n 0, 1) := by decide +kernel
theorem dX1_init_21 : decode cX1_init 21 = .ok (.bipush 10, 2) := by decide +kernel
theorem dX1_init_23 : decode cX1_init 23 = .ok (.newarray .int, 2) := by decide +kernel
theorem dX1_init_25 : decode cX1_init 25 = .ok (.putfield 18, 3) := by decide +kernel
theorem dX1_init_28 : decode cX1_init 28 = .ok (.aload_n 0, 1) := by decide +kernel
theorem dX1_init_29 : decode cX1_init 29 = .ok (.bipush 10, 2) := by decide +kernel
theorem dX1_init_31 : decode cX1_init 31 = .ok (.newarray .int, 2) := by decide +kernel
theorem dX1_init_33 : decode cX1_init 33 = .ok (.putfield 21, 3) := by decide +kernel
theorem dX1_init_36 : decode cX1_init 36 = .ok (.aload_n 0, 1) := by decide +kernel
theorem dX1_init_37 : decode cX1_init 37 = .ok (.bipush 10, 2) := by decide +kernel
theorem dX1_init_39 : decode cX1_init 39 = .ok (.newarray .int, 2) := by decide +kernel
theorem dX1_init_41 : decode cX1_init 41 = .ok (.putfield 24, 3) := by decide +kernel
theorem dX1_init_44 : decode cX1_init 44 = .ok (.aload_n 0, 1) := by decide +kernel
theorem dX1_init_45 : decode cX1_init 45 = .ok (.bipush 10, 2) := by decide +kernel
theorem dX1_init_47 : decode cX1_init 47 = .ok (.newarray .int, 2) := by decide +kernel
theorem dX1_init_49 : decode cX1_init 49 = .ok (.putfield 27, 3) := by decide +kernel
theorem dX1_init_52 : decode cX1_init 52 = .ok (.aload_n 0, 1) := by decide +kernel
theorem dX1_init_53 : decode cX1_init 53 = .ok (.bipush 10, 2) := by decide +kernel
theorem dX1_init_55 : decode cX1_init 55 = .ok (.newarray .int, 2) := by decide +kernel
theorem dX1_init_57 : decode cX1_init 57 = .ok (.putfield 30, 3) := by decide +kernel
theorem dX1_init_60 : decode cX1_init 60 = .ok (.aload_n 0, 1) := by decide +kernel
theorem dX1_init_61 : decode cX1_init 61 = .ok (.sipush 700, 3) := by decide +kernel
theorem dX1_init_64 : decode cX1_init 64 = .ok (.newarray .int, 2) := by decide +kernel
theorem dX1_init_66 : decode cX1_init 66 = .ok (.putfield 33, 3) := by decide +kernel
theorem dX1_init_69 : decode cX1_init 69 = .ok (.aload_n 0, 1) := by decide +kernel
theorem dX1_init_70 : decode cX1_init 70 = .ok (.iconst 2, 1) := by decide +kernel
theorem dX1_init_71 : decode cX1_init 71 = .ok (.newarray .int, 2) := by decide +kernel
theorem dX1_init_73 : decode cX1_init 73 = .ok (.putfield 36, 3) := by decide +kernel
theorem dX1_init_76 : decode cX1_init 76 = .ok (.aload_n 0, 1) := by decide +kernel
theorem dX1_init_77 : decode cX1_init 77 = .ok (.iconst 2, 1) := by decide +kernel
theorem dX1_init_78 : decode cX1_init 78 = .ok (.newarray .int, 2) := by decide +kernel
theorem dX1_init_80 : decode cX1_init 80 = .ok (.putfield 39, 3) := by decide +kernel
theorem dX1_init_83 : decode cX1_init 83 = .ok (.aload_n 0, 1) := by decide +kernel
theorem dX1_init_84 : decode cX1_init 84 = .ok (.invokevirtual 42, 3) := by decide +kernel
theorem dX1_init_87 : decode cX1_init 87 = .ok (.return_, 1) := by decide +kernel
theorem dX1_clear_0 : decode cX1_clear 0 = .ok (.aload_n 0, 1) := by decide +kernel
theorem dX1_clear_1 : decode cX1_clear 1 = .ok (.bipush 20, 2) := by decide +kernel
theorem dX1_clear_3 : decode cX1_clear 3 = .ok (.putfield 45, 3) := by decide +kernel
theorem dX1_clear_6 : decode cX1_clear 6 = .ok (.aload_n 0, 1) := by decide +kernel
theorem dX1_clear_7 : decode cX1_clear 7 = .ok (.bipush 24, 2) := by decide +kernel
theorem dX1_clear_9 : decode cX1_clear 9 = .ok (.putfield 49, 3) := by decide +kernel
theorem dX1_clear_12 : decode cX1_clear 12 = .ok (.aload_n 0, 1) := by decide +kernel
theorem dX1_clear_13 : decode cX1_clear 13 = .ok (.bipush 100, 2) := by decide +kernel
theorem dX1_clear_15 : decode cX1_clear 15 = .ok (.putfield 52, 3) := by decide +kernel
theorem dX1_clear_18 : decode cX1_clear 18 = .ok (.aload_n 0, 1) := by decide +kernel
theorem dX1_clear_19 : decode cX1_clear 19 = .ok (.iconst 0, 1) := by decide +kernel
theorem dX1_clear_20 : decode cX1_clear 20 = .ok (.putfield 55, 3) := by decide +kernel
theorem dX1_clear_23 : decode cX1_clear 23 = .ok (.aload_n 0, 1) := by decide +kernel
theorem dX1_clear_24 : decode cX1_clear 24 = .ok (.iconst 0, 1) := by decide +kernel
theorem dX1_clear_25 : decode cX1_clear 25 = .ok (.putfield 58, 3) := by decide +kernel
theorem dX1_clear_28 : decode cX1_clear 28 = .ok (.aload_n 0, 1) := by decide +kernel
theorem dX1_clear_29 : decode cX1_clear 29 = .ok (.iconst 0, 1) := by decide +kernel
theorem dX1_clear_30 : decode cX1_clear 30 = .ok (.putfield 61, 3) := by decide +kernel
theorem dX1_clear_33 : decode cX1_clear 33 = .ok (.aload_n 0, 1) := by decide +kernel
theorem dX1_clear_34 : decode cX1_clear 34 = .ok (.getfield 36, 3) := by decide +kernel
theorem dX1_clear_37 : decode cX1_clear 37 = .ok (.iconst 0, 1) := by decide +kernel
theorem dX1_clear_38 : decode cX1_clear 38 = .ok (.invokestatic 64, 3) := by decide +kernel
theorem dX1_clear_41 : decode cX1_clear 41 = .ok (.aload_n 0, 1) := by decide +kernel
theorem dX1_clear_42 : decode cX1_clear 42 = .ok (.getfield 39, 3) := by decide +kernel
theorem dX1_clear_45 : decode cX1_clear 45 = .ok (.iconst 0, 1) := by decide +kernel
theorem dX1_clear_46 : decode cX1_clear 46 = .ok (.invokestatic 64, 3) := by decide +kernel
theorem dX1_clear_49 : decode cX1_clear 49 = .ok (.return_, 1) := by decide +kernel
theorem dX1_copyFrom_0 : decode cX1_copyFrom 0 = .ok (.aload_n 0, 1) := by decide +kernel
theorem dX1_copyFrom_1 : decode cX1_copyFrom 1 = .ok (.aload_n 1, 1) := by decide +kernel
theorem dX1_copyFrom_2 : decode cX1_copyFrom 2 = .ok (.getfield 45, 3) := by decide +kernel
theorem dX1_copyFrom_5 : decode cX1_copyFrom 5 = .ok (.putfield 45, 3) := by decide +kernel
theorem dX1_copyFrom_8 : decode cX1_copyFrom 8 = .ok (.aload_n 0, 1) := by decide +kernel
theorem dX1_copyFrom_9 : decode cX1_copyFrom 9 = .ok (.aload_n 1, 1) := by decide +kernel
theorem dX1_copyFrom_10 : decode cX1_copyFrom 10 = .ok (.getfield 49, 3) := by decide +kernel
theorem dX1_copyFrom_13 : decode cX1_copyFrom 13 = .ok (.putfield 49, 3) := by decide +kernel
theorem dX1_copyFrom_16 : decode cX1_copyFrom 16 = .ok (.aload_n 0, 1) := by decide +kernel
theorem dX1_copyFrom_17 : decode cX1_copyFrom 17 = .ok (.aload_n 1, 1) := by decide +kernel
theorem dX1_copyFrom_18 : decode cX1_copyFrom 18 = .ok (.getfield 52, 3) := by decide +kernel
theorem dX1_copyFrom_21 : decode cX1_copyFrom 21 = .ok (.putfield 52, 3) := by decide +kernel
theorem dX1_copyFrom_24 : decode cX1_copyFrom 24 = .ok (.aload_n 0, 1) := by decide +kernel
theorem dX1_copyFrom_25 : decode cX1_copyFrom 25 = .ok (.aload_n 1, 1) := by decide +kernel
theorem dX1_copyFrom_26 : decode cX1_copyFrom 26 = .ok (.getfield 55, 3) := by decide +kernel
theorem dX1_copyFrom_29 : decode cX1_copyFrom 29 = .ok (.putfield 55, 3) := by decide +kernel
theorem dX1_copyFrom_32 : decode cX1_copyFrom 32 = .ok (.aload_n 0, 1) := by decide +kernel
theorem dX1_copyFrom_33 : decode cX1_copyFrom 33 = .ok (.aload_n 1, 1) := by decide +kernel
theorem dX1_copyFrom_34 : decode cX1_copyFrom 34 = .ok (.getfield 58, 3) := by decide +kernel
theorem dX1_copyFrom_37 : decode cX1_copyFrom 37 = .ok (.putfield 58, 3) := by decide +kernel
theorem dX1_copyFrom_40 : decode cX1_copyFrom 40 = .ok (.aload_n 0, 1) := by decide +kernel
theorem dX1_copyFrom_41 : decode cX1_copyFrom 41 = .ok (.aload_n 1, 1) := by decide +kernel
theorem dX1_copyFrom_42 : decode cX1_copyFrom 42 = .ok (.getfield 61, 3) := by decide +kernel
theorem dX1_copyFrom_45 : decode cX1_copyFrom 45 = .ok (.putfield 61, 3) := by decide +kernel
theorem dX1_copyFrom_48 : decode cX1_copyFrom 48 = .ok (.aload_n 1, 1) := by decide +kernel
theorem dX1_copyFrom_49 : decode cX1_copyFrom 49 = .ok (.getfield 9, 3) := by decide +kernel
theorem dX1_copyFrom_52 : decode cX1_copyFrom 52 = .ok (.iconst 0, 1) := by decide +kernel
theorem dX1_copyFrom_53 : decode cX1_copyFrom 53 = .ok (.aload_n 0, 1) := by decide +kernel
theorem dX1_copyFrom_54 : decode cX1_copyFrom 54 = .ok (.getfield 9, 3) := by decide +kernel
theorem dX1_copyFrom_57 : decode cX1_copyFrom 57 = .ok (.iconst 0, 1) := by decide +kernel
theorem dX1_copyFrom_58 : decode cX1_copyFrom 58 = .ok (.bipush 7, 2) := by decide +kernel
theorem dX1_copyFrom_60 : decode cX1_copyFrom 60 = .ok (.invokestatic 70, 3) := by decide +kernel
theorem dX1_copyFrom_63 : decode cX1_copyFrom 63 = .ok (.aload_n 1, 1) := by decide +kernel
theorem dX1_copyFrom_64 : decode cX1_copyFrom 64 = .ok (.getfield 15, 3) := by decide +kernel
theorem dX1_copyFrom_67 : decode cX1_copyFrom 67 = .ok (.iconst 0, 1) := by decide +kernel
theorem dX1_copyFrom_68 : decode cX1_copyFrom 68 = .ok (.aload_n 0, 1) := by decide +kernel
theorem dX1_copyFrom_69 : decode cX1_copyFrom 69 = .ok (.getfield 15, 3) := by decide +kernel
theorem dX1_copyFrom_72 : decode cX1_copyFrom 72 = .ok (.iconst 0, 1) := by decide +kernel
theorem dX1_copyFrom_73 : decode cX1_copyFrom 73 = .ok (.bipush 7, 2) := by decide +kernel
theorem dX1_copyFrom_75 : decode cX1_copyFrom 75 = .ok (.invokestatic 70, 3) := by decide +kernel
theorem dX1_copyFrom_78 : decode cX1_copyFrom 78 = .ok (.aload_n 1, 1) := by decide +kernel
theorem dX1_copyFrom_79 : decode cX1_copyFrom 79 = .ok (.getfield 18, 3) := by decide +kernel
theorem dX1_copyFrom_82 : decode cX1_copyFrom 82 = .ok (.iconst 0, 1) := by decide +kernel
theorem dX1_copyFrom_83 : decode cX1_copyFrom 83 = .ok (.aload_n 0, 1) := by decide +kernel
theorem dX1_copyFrom_84 : decode cX1_copyFrom 84 = .ok (.getfield 18, 3) := by decide +kernel
theorem dX1_copyFrom_87 : decode cX1_copyFrom 87 = .ok (.iconst 0, 1) := by decide +kernel
theorem dX1_copyFrom_88 : decode cX1_copyFrom 88 = .ok (.bipush 10, 2) := by decide +kernel
theorem dX1_copyFrom_90 : decode cX1_copyFrom 90 = .ok (.invokestatic 70, 3) := by decide +kernel
theorem dX1_copyFrom_93 : decode cX1_copyFrom 93 = .ok (.aload_n 1, 1) := by decide +kernel
theorem dX1_copyFrom_94 : decode cX1_copyFrom 94 = .ok (.getfield 21, 3) := by decide +kernel
theorem dX1_copyFrom_97 : decode cX1_copyFrom 97 = .ok (.iconst 0, 1) := by decide +kernel
theorem dX1_copyFrom_98 : decode cX1_copyFrom 98 = .ok (.aload_n 0, 1) := by decide +kernel
theorem dX1_copyFrom_99 : decode cX1_copyFrom 99 = .ok (.getfield 21, 3) := by decide +kernel
theorem dX1_copyFrom_102 : decode cX1_copyFrom 102 = .ok (.iconst 0, 1) := by decide +kernel
theorem dX1_copyFrom_103 : decode cX1_copyFrom 103 = .ok (.bipush 10, 2) := by decide +kernel
theorem dX1_copyFrom_105 : decode cX1_copyFrom 105 = .ok (.invokestatic 70, 3) := by decide +kernel
theorem dX1_copyFrom_108 : decode cX1_copyFrom 108 = .ok (.aload_n 1, 1) := by decide +kernel
theorem dX1_copyFrom_109 : decode cX1_copyFrom 109 = .ok (.getfield 24, 3) := by decide +kernel
theorem dX1_copyFrom_112 : decode cX1_copyFrom 112 = .ok (.iconst 0, 1) := by decide +kernel
theorem dX1_copyFrom_113 : decode cX1_copyFrom 113 = .ok (.aload_n 0, 1) := by decide +kernel
theorem dX1_copyFrom_114 : decode cX1_copyFrom 114 = .ok (.getfield 24, 3) := by decide +kernel
theorem dX1_copyFrom_117 : decode cX1_copyFrom 117 = .ok (.iconst 0, 1) := by decide +kernel
theorem dX1_copyFrom_118 : decode cX1_copyFrom 118 = .ok (.bipush 10, 2) := by decide +kernel
theorem dX1_copyFrom_120 : decode cX1_copyFrom 120 = .ok (.invokestatic 70, 3) := by decide +kernel
theorem dX1_copyFrom_123 : decode cX1_copyFrom 123 = .ok (.aload_n 1, 1) := by decide +kernel
theorem dX1_copyFrom_124 : decode cX1_copyFrom 124 = .ok (.getfield 27, 3) := by decide +kernel
theorem dX1_copyFrom_127 : decode cX1_copyFrom 127 = .ok (.iconst 0, 1) := by decide +kernel
theorem dX1_copyFrom_128 : decode cX1_copyFrom 128 = .ok (.aload_n 0, 1) := by decide +kernel
theorem dX1_copyFrom_129 : decode cX1_copyFrom 129 = .ok (.getfield 27, 3) := by decide +kernel
theorem dX1_copyFrom_132 : decode cX1_copyFrom 132 = .ok (.iconst 0, 1) := by decide +kernel
theorem dX1_copyFrom_133 : decode cX1_copyFrom 133 = .ok (.bipush 10, 2) := by decide +kernel
theorem dX1_copyFrom_135 : decode cX1_copyFrom 135 = .ok (.invokestatic 70, 3) := by decide +kernel
theorem dX1_copyFrom_138 : decode cX1_copyFrom 138 = .ok (.aload_n 1, 1) := by decide +kernel
theorem dX1_copyFrom_139 : decode cX1_copyFrom 139 = .ok (.getfield 30, 3) := by decide +kernel
theorem dX1_copyFrom_142 : decode cX1_copyFrom 142 = .ok (.iconst 0, 1) := by decide +kernel
theorem dX1_copyFrom_143 : decode cX1_copyFrom 143 = .ok (.aload_n 0, 1) := by decide +kernel
theorem dX1_copyFrom_144 : decode cX1_copyFrom 144 = .ok (.getfield 30, 3) := by decide +kernel
theorem dX1_copyFrom_147 : decode cX1_copyFrom 147 = .ok (.iconst 0, 1) := by decide +kernel
theorem dX1_copyFrom_148 : decode cX1_copyFrom 148 = .ok (.bipush 10, 2) := by decide +kernel
theorem dX1_copyFrom_150 : decode cX1_copyFrom 150 = .ok (.invokestatic 70, 3) := by decide +kernel
theorem dX1_copyFrom_153 : decode cX1_copyFrom 153 = .ok (.aload_n 1, 1) := by decide +kernel
theorem dX1_copyFrom_154 : decode cX1_copyFrom 154 = .ok (.getfield 33, 3) := by decide +kernel
theorem dX1_copyFrom_157 : decode cX1_copyFrom 157 = .ok (.iconst 0, 1) := by decide +kernel
theorem dX1_copyFrom_158 : decode cX1_copyFrom 158 = .ok (.aload_n 0, 1) := by decide +kernel
theorem dX1_copyFrom_159 : decode cX1_copyFrom 159 = .ok (.getfield 33, 3) := by decide +kernel
theorem dX1_copyFrom_162 : decode cX1_copyFrom 162 = .ok (.iconst 0, 1) := by decide +kernel
theorem dX1_copyFrom_163 : decode cX1_copyFrom 163 = .ok (.sipush 700, 3) := by decide +kernel
theorem dX1_copyFrom_166 : decode cX1_copyFrom 166 = .ok (.invokestatic 70, 3) := by decide +kernel
theorem dX1_copyFrom_169 : decode cX1_copyFrom 169 = .ok (.aload_n 1, 1) := by decide +kernel
theorem dX1_copyFrom_170 : decode cX1_copyFrom 170 = .ok (.getfield 36, 3) := by decide +kernel
theorem dX1_copyFrom_173 : decode cX1_copyFrom 173 = .ok (.iconst 0, 1) := by decide +kernel
theorem dX1_copyFrom_174 : decode cX1_copyFrom 174 = .ok (.aload_n 0, 1) := by decide +kernel
theorem dX1_copyFrom_175 : decode cX1_copyFrom 175 = .ok (.getfield 36, 3) := by decide +kernel
theorem dX1_copyFrom_178 : decode cX1_copyFrom 178 = .ok (.iconst 0, 1) := by decide +kernel
theorem dX1_copyFrom_179 : decode cX1_copyFrom 179 = .ok (.iconst 2, 1) := by decide +kernel
theorem dX1_copyFrom_180 : decode cX1_copyFrom 180 = .ok (.invokestatic 70, 3) := by decide +kernel
theorem dX1_copyFrom_183 : decode cX1_copyFrom 183 = .ok (.aload_n 1, 1) := by decide +kernel
theorem dX1_copyFrom_184 : decode cX1_copyFrom 184 = .ok (.getfield 39, 3) := by decide +kernel
theorem dX1_copyFrom_187 : decode cX1_copyFrom 187 = .ok (.iconst 0, 1) := by decide +kernel
theorem dX1_copyFrom_188 : decode cX1_copyFrom 188 = .ok (.aload_n 0, 1) := by decide +kernel
theorem dX1_copyFrom_189 : decode cX1_copyFrom 189 = .ok (.getfield 39, 3) := by decide +kernel
theorem dX1_copyFrom_192 : decode cX1_copyFrom 192 = .ok (.iconst 0, 1) := by decide +kernel
theorem dX1_copyFrom_193 : decode cX1_copyFrom 193 = .ok (.iconst 2, 1) := by decide +kernel
theorem dX1_copyFrom_194 : decode cX1_copyFrom 194 = .ok (.invokestatic 70, 3) := by decide +kernel
theorem dX1_copyFrom_197 : decode cX1_copyFrom 197 = .ok (.return_, 1) := by decide +kernel
theorem dX1_hasRule_0 : decode cX1_hasRule 0 = .ok (.aload_n 0, 1) := by decide +kernel
theorem dX1_hasRule_1 : decode cX1_hasRule 1 = .ok (.getfield 39, 3) := by decide +kernel
theorem dX1_hasRule_4 : decode cX1_hasRule 4 = .ok (.iload_n 1, 1) := by decide +kernel
theorem dX1_hasRule_5 : decode cX1_hasRule 5 = .ok (.iaload, 1) := by decide +kernel
theorem dX1_hasRule_6 : decode cX1_hasRule 6 = .ok (.aload_n 0, 1) := by decide +kernel
theorem dX1_hasRule_7 : decode cX1_hasRule 7 = .ok (.getfield 36, 3) := by decide +kernel
theorem dX1_hasRule_10 : decode cX1_hasRule 10 = .ok (.iload_n 1, 1) := by decide +kernel
theorem dX1_hasRule_11 : decode cX1_hasRule 11 = .ok (.iaload, 1) := by decide +kernel
theorem dX1_hasRule_12 : decode cX1_hasRule 12 = .ok (.if_icmp .le 7, 3) := by decide +kernel
theorem dX1_hasRule_15 : decode cX1_hasRule 15 = .ok (.iconst 1, 1) := by decide +kernel
theorem dX1_hasRule_16 : decode cX1_hasRule 16 = .ok (.goto 4, 3) := by decide +kernel
theorem dX1_hasRule_19 : decode cX1_hasRule 19 = .ok (.iconst 0, 1) := by decide +kernel
theorem dX1_hasRule_20 : decode cX1_hasRule 20 = .ok (.ireturn, 1) := by decide +kernel
theorem dX1_chainOf_0 : decode cX1_chainOf 0 = .ok (.iconst 0, 1) := by decide +kernel
theorem dX1_chainOf_1 : decode cX1_chainOf 1 = .ok (.istore_n 2, 1) := by decide +kernel
theorem dX1_chainOf_2 : decode cX1_chainOf 2 = .ok (.aload_n 0, 1) := by decide +kernel
theorem dX1_chainOf_3 : decode cX1_chainOf 3 = .ok (.getfield 30, 3) := by decide +kernel
theorem dX1_chainOf_6 : decode cX1_chainOf 6 = .ok (.iload_n 1, 1) := by decide +kernel
theorem dX1_chainOf_7 : decode cX1_chainOf 7 = .ok (.iaload, 1) := by decide +kernel
theorem dX1_chainOf_8 : decode cX1_chainOf 8 = .ok (.istore_n 3, 1) := by decide +kernel
theorem dX1_chainOf_9 : decode cX1_chainOf 9 = .ok (.iconst 0, 1) := by decide +kernel
theorem dX1_chainOf_10 : decode cX1_chainOf 10 = .ok (.istore 4, 2) := by decide +kernel
theorem dX1_chainOf_12 : decode cX1_chainOf 12 = .ok (.iload 4, 2) := by decide +kernel
theorem dX1_chainOf_14 : decode cX1_chainOf 14 = .ok (.bipush 10, 2) := by decide +kernel
theorem dX1_chainOf_16 : decode cX1_chainOf 16 = .ok (.if_icmp .ge 34, 3) := by decide +kernel
theorem dX1_chainOf_19 : decode cX1_chainOf 19 = .ok (.iload_n 3, 1) := by decide +kernel
theorem dX1_chainOf_20 : decode cX1_chainOf 20 = .ok (.ifCond .lt 30, 3) := by decide +kernel
theorem dX1_chainOf_23 : decode cX1_chainOf 23 = .ok (.iload_n 3, 1) := by decide +kernel
theorem dX1_chainOf_24 : decode cX1_chainOf 24 = .ok (.aload_n 0, 1) := by decide +kernel
theorem dX1_chainOf_25 : decode cX1_chainOf 25 = .ok (.getfield 58, 3) := by decide +kernel
theorem dX1_chainOf_28 : decode cX1_chainOf 28 = .ok (.if_icmp .ge 22, 3) := by decide +kernel
theorem dX1_chainOf_31 : decode cX1_chainOf 31 = .ok (.iload_n 2, 1) := by decide +kernel
theorem dX1_chainOf_32 : decode cX1_chainOf 32 = .ok (.iconst 1, 1) := by decide +kernel
theorem dX1_chainOf_33 : decode cX1_chainOf 33 = .ok (.iload_n 3, 1) := by decide +kernel
theorem dX1_chainOf_34 : decode cX1_chainOf 34 = .ok (.ishl, 1) := by decide +kernel
theorem dX1_chainOf_35 : decode cX1_chainOf 35 = .ok (.ior, 1) := by decide +kernel
theorem dX1_chainOf_36 : decode cX1_chainOf 36 = .ok (.istore_n 2, 1) := by decide +kernel
theorem dX1_chainOf_37 : decode cX1_chainOf 37 = .ok (.aload_n 0, 1) := by decide +kernel
theorem dX1_chainOf_38 : decode cX1_chainOf 38 = .ok (.getfield 30, 3) := by decide +kernel
theorem dX1_chainOf_41 : decode cX1_chainOf 41 = .ok (.iload_n 3, 1) := by decide +kernel
theorem dX1_chainOf_42 : decode cX1_chainOf 42 = .ok (.iaload, 1) := by decide +kernel
theorem dX1_chainOf_43 : decode cX1_chainOf 43 = .ok (.istore_n 3, 1) := by decide +kernel
theorem dX1_chainOf_44 : decode cX1_chainOf 44 = .ok (.iinc 4 1, 3) := by decide +kernel
theorem dX1_chainOf_47 : decode cX1_chainOf 47 = .ok (.goto (-35), 3) := by decide +kernel
theorem dX1_chainOf_50 : decode cX1_chainOf 50 = .ok (.iload_n 2, 1) := by decide +kernel
theorem dX1_chainOf_51 : decode cX1_chainOf 51 = .ok (.ireturn, 1) := by decide +kernel
theorem dX1_pleasure_0 : decode cX1_pleasure 0 = .ok (.aload_n 0, 1) := by decide +kernel
theorem dX1_pleasure_1 : decode cX1_pleasure 1 = .ok (.getfield 18, 3) := by decide +kernel
theorem dX1_pleasure_4 : decode cX1_pleasure 4 = .ok (.iload_n 1, 1) := by decide +kernel
theorem dX1_pleasure_5 : decode cX1_pleasure 5 = .ok (.iaload, 1) := by decide +kernel
theorem dX1_pleasure_6 : decode cX1_pleasure 6 = .ok (.iconst 1, 1) := by decide +kernel
theorem dX1_pleasure_7 : decode cX1_pleasure 7 = .ok (.if_icmp .ne 14, 3) := by decide +kernel
theorem dX1_pleasure_10 : decode cX1_pleasure 10 = .ok (.iconst 2, 1) := by decide +kernel
theorem dX1_pleasure_11 : decode cX1_pleasure 11 = .ok (.aload_n 0, 1) := by decide +kernel
theorem dX1_pleasure_12 : decode cX1_pleasure 12 = .ok (.getfield 27, 3) := by decide +kernel
theorem dX1_pleasure_15 : decode cX1_pleasure 15 = .ok (.iload_n 1, 1) := by decide +kernel
theorem dX1_pleasure_16 : decode cX1_pleasure 16 = .ok (.iaload, 1) := by decide +kernel
theorem dX1_pleasure_17 : decode cX1_pleasure 17 = .ok (.imul, 1) := by decide +kernel
theorem dX1_pleasure_18 : decode cX1_pleasure 18 = .ok (.goto 9, 3) := by decide +kernel
theorem dX1_pleasure_21 : decode cX1_pleasure 21 = .ok (.aload_n 0, 1) := by decide +kernel
theorem dX1_pleasure_22 : decode cX1_pleasure 22 = .ok (.getfield 27, 3) := by decide +kernel
theorem dX1_pleasure_25 : decode cX1_pleasure 25 = .ok (.iload_n 1, 1) := by decide +kernel
theorem dX1_pleasure_26 : decode cX1_pleasure 26 = .ok (.iaload, 1) := by decide +kernel
theorem dX1_pleasure_27 : decode cX1_pleasure 27 = .ok (.ireturn, 1) := by decide +kernel
theorem dX1_expense_0 : decode cX1_expense 0 = .ok (.aload_n 0, 1) := by decide +kernel
theorem dX1_expense_1 : decode cX1_expense 1 = .ok (.getfield 18, 3) := by decide +kernel
theorem dX1_expense_4 : decode cX1_expense 4 = .ok (.iload_n 1, 1) := by decide +kernel
theorem dX1_expense_5 : decode cX1_expense 5 = .ok (.iaload, 1) := by decide +kernel
theorem dX1_expense_6 : decode cX1_expense 6 = .ok (.iconst 2, 1) := by decide +kernel
theorem dX1_expense_7 : decode cX1_expense 7 = .ok (.if_icmp .ne 13, 3) := by decide +kernel
theorem dX1_expense_10 : decode cX1_expense 10 = .ok (.aload_n 0, 1) := by decide +kernel
theorem dX1_expense_11 : decode cX1_expense 11 = .ok (.getfield 24, 3) := by decide +kernel
theorem dX1_expense_14 : decode cX1_expense 14 = .ok (.iload_n 1, 1) := by decide +kernel
theorem dX1_expense_15 : decode cX1_expense 15 = .ok (.iaload, 1) := by decide +kernel
theorem dX1_expense_16 : decode cX1_expense 16 = .ok (.ineg, 1) := by decide +kernel
theorem dX1_expense_17 : decode cX1_expense 17 = .ok (.goto 9, 3) := by decide +kernel
theorem dX1_expense_20 : decode cX1_expense 20 = .ok (.aload_n 0, 1) := by decide +kernel
theorem dX1_expense_21 : decode cX1_expense 21 = .ok (.getfield 24, 3) := by decide +kernel
theorem dX1_expense_24 : decode cX1_expense 24 = .ok (.iload_n 1, 1) := by decide +kernel
theorem dX1_expense_25 : decode cX1_expense 25 = .ok (.iaload, 1) := by decide +kernel
theorem dX1_expense_26 : decode cX1_expense 26 = .ok (.ireturn, 1) := by decide +kernel
theorem dX2_init_0 : decode cX2_init 0 = .ok (.aload_n 0, 1) := by decide +kernel
theorem dX2_init_1 : decode cX2_init 1 = .ok (.invokespecial 3, 3) := by decide +kernel
theorem dX2_init_4 : decode cX2_init 4 = .ok (.aload_n 0, 1) := by decide +kernel
theorem dX2_init_5 : decode cX2_init 5 = .ok (.bipush 6, 2) := by decide +kernel
theorem dX2_init_7 : decode cX2_init 7 = .ok (.newarray .int, 2) := by decide +kernel
theorem dX2_init_9 : decode cX2_init 9 = .ok (.putfield 9, 3) := by decide +kernel
theorem dX2_init_12 : decode cX2_init 12 = .ok (.aload_n 0, 1) := by decide +kernel
theorem dX2_init_13 : decode cX2_init 13 = .ok (.bipush 40, 2) := by decide +kernel
theorem dX2_init_15 : decode cX2_init 15 = .ok (.newarray .int, 2) := by decide +kernel
theorem dX2_init_17 : decode cX2_init 17 = .ok (.putfield 15, 3) := by decide +kernel
theorem dX2_init_20 : decode cX2_init 20 = .ok (.aload_n 0, 1) := by decide +kernel
theorem dX2_init_21 : decode cX2_init 21 = .ok (.aload_n 1, 1) := by decide +kernel
theorem dX2_init_22 : decode cX2_init 22 = .ok (.putfield 18, 3) := by decide +kernel
theorem dX2_init_25 : decode cX2_init 25 = .ok (.return_, 1) := by decide +kernel
theorem dX2_passHour_0 : decode cX2_passHour 0 = .ok (.aload_n 0, 1) := by decide +kernel
theorem dX2_passHour_1 : decode cX2_passHour 1 = .ok (.aload_n 1, 1) := by decide +kernel
theorem dX2_passHour_2 : decode cX2_passHour 2 = .ok (.invokevirtual 22, 3) := by decide +kernel
theorem dX2_passHour_5 : decode cX2_passHour 5 = .ok (.istore_n 3, 1) := by decide +kernel
theorem dX2_passHour_6 : decode cX2_passHour 6 = .ok (.iconst 0, 1) := by decide +kernel
theorem dX2_passHour_7 : decode cX2_passHour 7 = .ok (.istore 4, 2) := by decide +kernel
theorem dX2_passHour_9 : decode cX2_passHour 9 = .ok (.iload 4, 2) := by decide +kernel
theorem dX2_passHour_11 : decode cX2_passHour 11 = .ok (.aload_n 0, 1) := by decide +kernel
theorem dX2_passHour_12 : decode cX2_passHour 12 = .ok (.getfield 18, 3) := by decide +kernel
theorem dX2_passHour_15 : decode cX2_passHour 15 = .ok (.getfield 26, 3) := by decide +kernel
theorem dX2_passHour_18 : decode cX2_passHour 18 = .ok (.if_icmp .ge 59, 3) := by decide +kernel
theorem dX2_passHour_21 : decode cX2_passHour 21 = .ok (.iload_n 3, 1) := by decide +kernel
theorem dX2_passHour_22 : decode cX2_passHour 22 = .ok (.iconst (-1), 1) := by decide +kernel
theorem dX2_passHour_23 : decode cX2_passHour 23 = .ok (.if_icmp .eq 54, 3) := by decide +kernel
theorem dX2_passHour_26 : decode cX2_passHour 26 = .ok (.iload 4, 2) := by decide +kernel
theorem dX2_passHour_28 : decode cX2_passHour 28 = .ok (.iload_n 2, 1) := by decide +kernel
theorem dX2_passHour_29 : decode cX2_passHour 29 = .ok (.if_icmp .eq 42, 3) := by decide +kernel
theorem dX2_passHour_32 : decode cX2_passHour 32 = .ok (.aload_n 1, 1) := by decide +kernel
theorem dX2_passHour_33 : decode cX2_passHour 33 = .ok (.getfield 32, 3) := by decide +kernel
theorem dX2_passHour_36 : decode cX2_passHour 36 = .ok (.iload 4, 2) := by decide +kernel
theorem dX2_passHour_38 : decode cX2_passHour 38 = .ok (.iaload, 1) := by decide +kernel
theorem dX2_passHour_39 : decode cX2_passHour 39 = .ok (.iload_n 3, 1) := by decide +kernel
theorem dX2_passHour_40 : decode cX2_passHour 40 = .ok (.if_icmp .ne 31, 3) := by decide +kernel
theorem dX2_passHour_43 : decode cX2_passHour 43 = .ok (.aload_n 0, 1) := by decide +kernel
theorem dX2_passHour_44 : decode cX2_passHour 44 = .ok (.aload_n 1, 1) := by decide +kernel
theorem dX2_passHour_45 : decode cX2_passHour 45 = .ok (.iload 4, 2) := by decide +kernel
theorem dX2_passHour_47 : decode cX2_passHour 47 = .ok (.invokevirtual 37, 3) := by decide +kernel
theorem dX2_passHour_50 : decode cX2_passHour 50 = .ok (.ifCond .eq 21, 3) := by decide +kernel
theorem dX2_passHour_53 : decode cX2_passHour 53 = .ok (.aload_n 0, 1) := by decide +kernel
theorem dX2_passHour_54 : decode cX2_passHour 54 = .ok (.aload_n 1, 1) := by decide +kernel
theorem dX2_passHour_55 : decode cX2_passHour 55 = .ok (.iload 4, 2) := by decide +kernel
theorem dX2_passHour_57 : decode cX2_passHour 57 = .ok (.iload_n 3, 1) := by decide +kernel
theorem dX2_passHour_58 : decode cX2_passHour 58 = .ok (.invokevirtual 41, 3) := by decide +kernel
theorem dX2_passHour_61 : decode cX2_passHour 61 = .ok (.ifCond .eq 10, 3) := by decide +kernel
theorem dX2_passHour_64 : decode cX2_passHour 64 = .ok (.aload_n 0, 1) := by decide +kernel
theorem dX2_passHour_65 : decode cX2_passHour 65 = .ok (.aload_n 1, 1) := by decide +kernel
theorem dX2_passHour_66 : decode cX2_passHour 66 = .ok (.iload 4, 2) := by decide +kernel
theorem dX2_passHour_68 : decode cX2_passHour 68 = .ok (.invokevirtual 45, 3) := by decide +kernel
theorem dX2_passHour_71 : decode cX2_passHour 71 = .ok (.iinc 4 1, 3) := by decide +kernel
theorem dX2_passHour_74 : decode cX2_passHour 74 = .ok (.goto (-65), 3) := by decide +kernel
theorem dX2_passHour_77 : decode cX2_passHour 77 = .ok (.aload_n 0, 1) := by decide +kernel
theorem dX2_passHour_78 : decode cX2_passHour 78 = .ok (.aload_n 1, 1) := by decide +kernel
theorem dX2_passHour_79 : decode cX2_passHour 79 = .ok (.invokevirtual 49, 3) := by decide +kernel
theorem dX2_passHour_82 : decode cX2_passHour 82 = .ok (.iload_n 3, 1) := by decide +kernel
theorem dX2_passHour_83 : decode cX2_passHour 83 = .ok (.ireturn, 1) := by decide +kernel
theorem dX2_passHourUnheeded_0 : decode cX2_passHourUnheeded 0 = .ok (.aload_n 0, 1) := by decide +kernel
theorem dX2_passHourUnheeded_1 : decode cX2_passHourUnheeded 1 = .ok (.aload_n 1, 1) := by decide +kernel
theorem dX2_passHourUnheeded_2 : decode cX2_passHourUnheeded 2 = .ok (.invokevirtual 22, 3) := by decide +kernel
theorem dX2_passHourUnheeded_5 : decode cX2_passHourUnheeded 5 = .ok (.istore_n 2, 1) := by decide +kernel
theorem dX2_passHourUnheeded_6 : decode cX2_passHourUnheeded 6 = .ok (.aload_n 0, 1) := by decide +kernel
theorem dX2_passHourUnheeded_7 : decode cX2_passHourUnheeded 7 = .ok (.aload_n 1, 1) := by decide +kernel
theorem dX2_passHourUnheeded_8 : decode cX2_passHourUnheeded 8 = .ok (.invokevirtual 49, 3) := by decide +kernel
theorem dX2_passHourUnheeded_11 : decode cX2_passHourUnheeded 11 = .ok (.iload_n 2, 1) := by decide +kernel
theorem dX2_passHourUnheeded_12 : decode cX2_passHourUnheeded 12 = .ok (.ireturn, 1) := by decide +kernel
theorem dX2_say_0 : decode cX2_say 0 = .ok (.aload_n 0, 1) := by decide +kernel
theorem dX2_say_1 : decode cX2_say 1 = .ok (.aload_n 1, 1) := by decide +kernel
theorem dX2_say_2 : decode cX2_say 2 = .ok (.invokevirtual 53, 3) := by decide +kernel
theorem dX2_say_5 : decode cX2_say 5 = .ok (.istore_n 2, 1) := by decide +kernel
theorem dX2_say_6 : decode cX2_say 6 = .ok (.iload_n 2, 1) := by decide +kernel
theorem dX2_say_7 : decode cX2_say 7 = .ok (.iconst (-1), 1) := by decide +kernel
theorem dX2_say_8 : decode cX2_say 8 = .ok (.if_icmp .eq 17, 3) := by decide +kernel
theorem dX2_say_11 : decode cX2_say 11 = .ok (.aload_n 1, 1) := by decide +kernel
theorem dX2_say_12 : decode cX2_say 12 = .ok (.iconst 0, 1) := by decide +kernel
theorem dX2_say_13 : decode cX2_say 13 = .ok (.aload_n 1, 1) := by decide +kernel
theorem dX2_say_14 : decode cX2_say 14 = .ok (.getfield 56, 3) := by decide +kernel
theorem dX2_say_17 : decode cX2_say 17 = .ok (.iconst 1, 1) := by decide +kernel
theorem dX2_say_18 : decode cX2_say 18 = .ok (.isub, 1) := by decide +kernel
theorem dX2_say_19 : decode cX2_say 19 = .ok (.invokestatic 59, 3) := by decide +kernel
theorem dX2_say_22 : decode cX2_say 22 = .ok (.putfield 56, 3) := by decide +kernel
theorem dX2_say_25 : decode cX2_say 25 = .ok (.iload_n 2, 1) := by decide +kernel
theorem dX2_say_26 : decode cX2_say 26 = .ok (.ireturn, 1) := by decide +kernel
theorem dX2_nextSaid_0 : decode cX2_nextSaid 0 = .ok (.aload_n 1, 1) := by decide +kernel
theorem dX2_nextSaid_1 : decode cX2_nextSaid 1 = .ok (.getfield 65, 3) := by decide +kernel
theorem dX2_nextSaid_4 : decode cX2_nextSaid 4 = .ok (.ifCond .eq 10, 3) := by decide +kernel
theorem dX2_nextSaid_7 : decode cX2_nextSaid 7 = .ok (.aload_n 1, 1) := by decide +kernel
theorem dX2_nextSaid_8 : decode cX2_nextSaid 8 = .ok (.getfield 68, 3) := by decide +kernel
theorem dX2_nextSaid_11 : decode cX2_nextSaid 11 = .ok (.ifCond .le 5, 3) := by decide +kernel
theorem dX2_nextSaid_14 : decode cX2_nextSaid 14 = .ok (.iconst (-1), 1) := by decide +kernel
theorem dX2_nextSaid_15 : decode cX2_nextSaid 15 = .ok (.ireturn, 1) := by decide +kernel
theorem dX2_nextSaid_16 : decode cX2_nextSaid 16 = .ok (.aload_n 1, 1) := by decide +kernel
theorem dX2_nextSaid_17 : decode cX2_nextSaid 17 = .ok (.getfield 71, 3) := by decide +kernel
theorem dX2_nextSaid_20 : decode cX2_nextSaid 20 = .ok (.bipush 12, 2) := by decide +kernel
theorem dX2_nextSaid_22 : decode cX2_nextSaid 22 = .ok (.irem, 1) := by decide +kernel
theorem dX2_nextSaid_23 : decode cX2_nextSaid 23 = .ok (.ifCond .ne 8, 3) := by decide +kernel
theorem dX2_nextSaid_26 : decode cX2_nextSaid 26 = .ok (.bipush 12, 2) := by decide +kernel
theorem dX2_nextSaid_28 : decode cX2_nextSaid 28 = .ok (.goto 10, 3) := by decide +kernel
theorem dX2_nextSaid_31 : decode cX2_nextSaid 31 = .ok (.aload_n 1, 1) := by decide +kernel
theorem dX2_nextSaid_32 : decode cX2_nextSaid 32 = .ok (.getfield 71, 3) := by decide +kernel
theorem dX2_nextSaid_35 : decode cX2_nextSaid 35 = .ok (.bipush 12, 2) := by decide +kernel
theorem dX2_nextSaid_37 : decode cX2_nextSaid 37 = .ok (.irem, 1) := by decide +kernel
theorem dX2_nextSaid_38 : decode cX2_nextSaid 38 = .ok (.istore_n 2, 1) := by decide +kernel
theorem dX2_nextSaid_39 : decode cX2_nextSaid 39 = .ok (.aload_n 0, 1) := by decide +kernel
theorem dX2_nextSaid_40 : decode cX2_nextSaid 40 = .ok (.getfield 18, 3) := by decide +kernel
theorem dX2_nextSaid_43 : decode cX2_nextSaid 43 = .ok (.iconst 0, 1) := by decide +kernel
theorem dX2_nextSaid_44 : decode cX2_nextSaid 44 = .ok (.invokevirtual 74, 3) := by decide +kernel
theorem dX2_nextSaid_47 : decode cX2_nextSaid 47 = .ok (.ifCond .eq 58, 3) := by decide +kernel
theorem dX2_nextSaid_50 : decode cX2_nextSaid 50 = .ok (.aload_n 0, 1) := by decide +kernel
theorem dX2_nextSaid_51 : decode cX2_nextSaid 51 = .ok (.getfield 9, 3) := by decide +kernel
theorem dX2_nextSaid_54 : decode cX2_nextSaid 54 = .ok (.iconst 0, 1) := by decide +kernel
theorem dX2_nextSaid_55 : decode cX2_nextSaid 55 = .ok (.iload_n 2, 1) := by decide +kernel
theorem dX2_nextSaid_56 : decode cX2_nextSaid 56 = .ok (.iastore, 1) := by decide +kernel
theorem dX2_nextSaid_57 : decode cX2_nextSaid 57 = .ok (.aload_n 0, 1) := by decide +kernel
theorem dX2_nextSaid_58 : decode cX2_nextSaid 58 = .ok (.getfield 9, 3) := by decide +kernel
theorem dX2_nextSaid_61 : decode cX2_nextSaid 61 = .ok (.iconst 1, 1) := by decide +kernel
theorem dX2_nextSaid_62 : decode cX2_nextSaid 62 = .ok (.aload_n 1, 1) := by decide +kernel
theorem dX2_nextSaid_63 : decode cX2_nextSaid 63 = .ok (.getfield 56, 3) := by decide +kernel
theorem dX2_nextSaid_66 : decode cX2_nextSaid 66 = .ok (.iastore, 1) := by decide +kernel
theorem dX2_nextSaid_67 : decode cX2_nextSaid 67 = .ok (.aload_n 0, 1) := by decide +kernel
theorem dX2_nextSaid_68 : decode cX2_nextSaid 68 = .ok (.getfield 9, 3) := by decide +kernel
theorem dX2_nextSaid_71 : decode cX2_nextSaid 71 = .ok (.iconst 2, 1) := by decide +kernel
theorem dX2_nextSaid_72 : decode cX2_nextSaid 72 = .ok (.aload_n 1, 1) := by decide +kernel
theorem dX2_nextSaid_73 : decode cX2_nextSaid 73 = .ok (.getfield 65, 3) := by decide +kernel
theorem dX2_nextSaid_76 : decode cX2_nextSaid 76 = .ok (.iastore, 1) := by decide +kernel
theorem dX2_nextSaid_77 : decode cX2_nextSaid 77 = .ok (.aload_n 0, 1) := by decide +kernel
theorem dX2_nextSaid_78 : decode cX2_nextSaid 78 = .ok (.getfield 9, 3) := by decide +kernel
theorem dX2_nextSaid_81 : decode cX2_nextSaid 81 = .ok (.iconst 3, 1) := by decide +kernel
theorem dX2_nextSaid_82 : decode cX2_nextSaid 82 = .ok (.aload_n 1, 1) := by decide +kernel
theorem dX2_nextSaid_83 : decode cX2_nextSaid 83 = .ok (.getfield 71, 3) := by decide +kernel
theorem dX2_nextSaid_86 : decode cX2_nextSaid 86 = .ok (.bipush 24, 2) := by decide +kernel
theorem dX2_nextSaid_88 : decode cX2_nextSaid 88 = .ok (.idiv, 1) := by decide +kernel
theorem dX2_nextSaid_89 : decode cX2_nextSaid 89 = .ok (.iastore, 1) := by decide +kernel
theorem dX2_nextSaid_90 : decode cX2_nextSaid 90 = .ok (.iconst 0, 1) := by decide +kernel
theorem dX2_nextSaid_91 : decode cX2_nextSaid 91 = .ok (.bipush 24, 2) := by decide +kernel
theorem dX2_nextSaid_93 : decode cX2_nextSaid 93 = .ok (.aload_n 0, 1) := by decide +kernel
theorem dX2_nextSaid_94 : decode cX2_nextSaid 94 = .ok (.iconst 0, 1) := by decide +kernel
theorem dX2_nextSaid_95 : decode cX2_nextSaid 95 = .ok (.invokevirtual 78, 3) := by decide +kernel
theorem dX2_nextSaid_98 : decode cX2_nextSaid 98 = .ok (.invokestatic 82, 3) := by decide +kernel
theorem dX2_nextSaid_101 : decode cX2_nextSaid 101 = .ok (.invokestatic 59, 3) := by decide +kernel
theorem dX2_nextSaid_104 : decode cX2_nextSaid 104 = .ok (.istore_n 2, 1) := by decide +kernel
theorem dX2_nextSaid_105 : decode cX2_nextSaid 105 = .ok (.aload_n 1, 1) := by decide +kernel
theorem dX2_nextSaid_106 : decode cX2_nextSaid 106 = .ok (.getfield 56, 3) := by decide +kernel
theorem dX2_nextSaid_109 : decode cX2_nextSaid 109 = .ok (.ifCond .ne 9, 3) := by decide +kernel
theorem dX2_nextSaid_112 : decode cX2_nextSaid 112 = .ok (.iload_n 2, 1) := by decide +kernel
theorem dX2_nextSaid_113 : decode cX2_nextSaid 113 = .ok (.iconst 2, 1) := by decide +kernel
theorem dX2_nextSaid_114 : decode cX2_nextSaid 114 = .ok (.idiv, 1) := by decide +kernel
theorem dX2_nextSaid_115 : decode cX2_nextSaid 115 = .ok (.goto 4, 3) := by decide +kernel
theorem dX2_nextSaid_118 : decode cX2_nextSaid 118 = .ok (.iload_n 2, 1) := by decide +kernel
theorem dX2_nextSaid_119 : decode cX2_nextSaid 119 = .ok (.ireturn, 1) := by decide +kernel
theorem dX2_turn_0 : decode cX2_turn 0 = .ok (.aload_n 1, 1) := by decide +kernel
theorem dX2_turn_1 : decode cX2_turn 1 = .ok (.iconst 0, 1) := by decide +kernel
theorem dX2_turn_2 : decode cX2_turn 2 = .ok (.aload_n 1, 1) := by decide +kernel
theorem dX2_turn_3 : decode cX2_turn 3 = .ok (.getfield 65, 3) := by decide +kernel
theorem dX2_turn_6 : decode cX2_turn 6 = .ok (.iconst 1, 1) := by decide +kernel
theorem dX2_turn_7 : decode cX2_turn 7 = .ok (.isub, 1) := by decide +kernel
theorem dX2_turn_8 : decode cX2_turn 8 = .ok (.invokestatic 59, 3) := by decide +kernel
theorem dX2_turn_11 : decode cX2_turn 11 = .ok (.putfield 65, 3) := by decide +kernel
theorem dX2_turn_14 : decode cX2_turn 14 = .ok (.aload_n 1, 1) := by decide +kernel
theorem dX2_turn_15 : decode cX2_turn 15 = .ok (.iconst 0, 1) := by decide +kernel
theorem dX2_turn_16 : decode cX2_turn 16 = .ok (.aload_n 1, 1) := by decide +kernel
theorem dX2_turn_17 : decode cX2_turn 17 = .ok (.getfield 68, 3) := by decide +kernel
theorem dX2_turn_20 : decode cX2_turn 20 = .ok (.iconst 1, 1) := by decide +kernel
theorem dX2_turn_21 : decode cX2_turn 21 = .ok (.isub, 1) := by decide +kernel
theorem dX2_turn_22 : decode cX2_turn 22 = .ok (.invokestatic 59, 3) := by decide +kernel
theorem dX2_turn_25 : decode cX2_turn 25 = .ok (.putfield 68, 3) := by decide +kernel
theorem dX2_turn_28 : decode cX2_turn 28 = .ok (.aload_n 1, 1) := by decide +kernel
theorem dX2_turn_29 : decode cX2_turn 29 = .ok (.dup, 1) := by decide +kernel
theorem dX2_turn_30 : decode cX2_turn 30 = .ok (.getfield 71, 3) := by decide +kernel
theorem dX2_turn_33 : decode cX2_turn 33 = .ok (.iconst 1, 1) := by decide +kernel
theorem dX2_turn_34 : decode cX2_turn 34 = .ok (.iadd, 1) := by decide +kernel
theorem dX2_turn_35 : decode cX2_turn 35 = .ok (.putfield 71, 3) := by decide +kernel
theorem dX2_turn_38 : decode cX2_turn 38 = .ok (.return_, 1) := by decide +kernel
theorem dX2_mayBeVotedOn_0 : decode cX2_mayBeVotedOn 0 = .ok (.aload_n 0, 1) := by decide +kernel
theorem dX2_mayBeVotedOn_1 : decode cX2_mayBeVotedOn 1 = .ok (.getfield 18, 3) := by decide +kernel
theorem dX2_mayBeVotedOn_4 : decode cX2_mayBeVotedOn 4 = .ok (.getfield 85, 3) := by decide +kernel
theorem dX2_mayBeVotedOn_7 : decode cX2_mayBeVotedOn 7 = .ok (.iload_n 2, 1) := by decide +kernel
theorem dX2_mayBeVotedOn_8 : decode cX2_mayBeVotedOn 8 = .ok (.iaload, 1) := by decide +kernel
theorem dX2_mayBeVotedOn_9 : decode cX2_mayBeVotedOn 9 = .ok (.istore_n 3, 1) := by decide +kernel
theorem dX2_mayBeVotedOn_10 : decode cX2_mayBeVotedOn 10 = .ok (.aload_n 1, 1) := by decide +kernel
theorem dX2_mayBeVotedOn_11 : decode cX2_mayBeVotedOn 11 = .ok (.iload_n 2, 1) := by decide +kernel
theorem dX2_mayBeVotedOn_12 : decode cX2_mayBeVotedOn 12 = .ok (.invokevirtual 88, 3) := by decide +kernel
theorem dX2_mayBeVotedOn_15 : decode cX2_mayBeVotedOn 15 = .ok (.ifCond .ne 20, 3) := by decide +kernel
theorem dX2_mayBeVotedOn_18 : decode cX2_mayBeVotedOn 18 = .ok (.iload_n 3, 1) := by decide +kernel
theorem dX2_mayBeVotedOn_19 : decode cX2_mayBeVotedOn 19 = .ok (.iconst (-1), 1) := by decide +kernel
theorem dX2_mayBeVotedOn_20 : decode cX2_mayBeVotedOn 20 = .ok (.if_icmp .eq 11, 3) := by decide +kernel
theorem dX2_mayBeVotedOn_23 : decode cX2_mayBeVotedOn 23 = .ok (.aload_n 1, 1) := by decide +kernel
theorem dX2_mayBeVotedOn_24 : decode cX2_mayBeVotedOn 24 = .ok (.iload_n 3, 1) := by decide +kernel
theorem dX2_mayBeVotedOn_25 : decode cX2_mayBeVotedOn 25 = .ok (.invokevirtual 88, 3) := by decide +kernel
theorem dX2_mayBeVotedOn_28 : decode cX2_mayBeVotedOn 28 = .ok (.ifCond .eq 7, 3) := by decide +kernel
theorem dX2_mayBeVotedOn_31 : decode cX2_mayBeVotedOn 31 = .ok (.iconst 1, 1) := by decide +kernel
theorem dX2_mayBeVotedOn_32 : decode cX2_mayBeVotedOn 32 = .ok (.goto 4, 3) := by decide +kernel
theorem dX2_mayBeVotedOn_35 : decode cX2_mayBeVotedOn 35 = .ok (.iconst 0, 1) := by decide +kernel
theorem dX2_mayBeVotedOn_36 : decode cX2_mayBeVotedOn 36 = .ok (.ireturn, 1) := by decide +kernel
theorem dX2_wouldPass_0 : decode cX2_wouldPass 0 = .ok (.aload_n 0, 1) := by decide +kernel
theorem dX2_wouldPass_1 : decode cX2_wouldPass 1 = .ok (.getfield 18, 3) := by decide +kernel
theorem dX2_wouldPass_4 : decode cX2_wouldPass 4 = .ok (.iload_n 2, 1) := by decide +kernel
theorem dX2_wouldPass_5 : decode cX2_wouldPass 5 = .ok (.invokevirtual 91, 3) := by decide +kernel
theorem dX2_wouldPass_8 : decode cX2_wouldPass 8 = .ok (.aload_n 1, 1) := by decide +kernel
theorem dX2_wouldPass_9 : decode cX2_wouldPass 9 = .ok (.getfield 94, 3) := by decide +kernel
theorem dX2_wouldPass_12 : decode cX2_wouldPass 12 = .ok (.if_icmp .gt 21, 3) := by decide +kernel
theorem dX2_wouldPass_15 : decode cX2_wouldPass 15 = .ok (.aload_n 0, 1) := by decide +kernel
theorem dX2_wouldPass_16 : decode cX2_wouldPass 16 = .ok (.aload_n 0, 1) := by decide +kernel
theorem dX2_wouldPass_17 : decode cX2_wouldPass 17 = .ok (.aload_n 1, 1) := by decide +kernel
theorem dX2_wouldPass_18 : decode cX2_wouldPass 18 = .ok (.iload_n 2, 1) := by decide +kernel
theorem dX2_wouldPass_19 : decode cX2_wouldPass 19 = .ok (.iload_n 3, 1) := by decide +kernel
theorem dX2_wouldPass_20 : decode cX2_wouldPass 20 = .ok (.invokevirtual 97, 3) := by decide +kernel
theorem dX2_wouldPass_23 : decode cX2_wouldPass 23 = .ok (.invokevirtual 101, 3) := by decide +kernel
theorem dX2_wouldPass_26 : decode cX2_wouldPass 26 = .ok (.ifCond .eq 7, 3) := by decide +kernel
theorem dX2_wouldPass_29 : decode cX2_wouldPass 29 = .ok (.iconst 1, 1) := by decide +kernel
theorem dX2_wouldPass_30 : decode cX2_wouldPass 30 = .ok (.goto 4, 3) := by decide +kernel
theorem dX2_wouldPass_33 : decode cX2_wouldPass 33 = .ok (.iconst 0, 1) := by decide +kernel
theorem dX2_wouldPass_34 : decode cX2_wouldPass 34 = .ok (.ireturn, 1) := by decide +kernel
theorem dX2_pass_0 : decode cX2_pass 0 = .ok (.aload_n 1, 1) := by decide +kernel
theorem dX2_pass_1 : decode cX2_pass 1 = .ok (.dup, 1) := by decide +kernel
theorem dX2_pass_2 : decode cX2_pass 2 = .ok (.getfield 104, 3) := by decide +kernel
theorem dX2_pass_5 : decode cX2_pass 5 = .ok (.iconst 1, 1) := by decide +kernel
theorem dX2_pass_6 : decode cX2_pass 6 = .ok (.iload_n 2, 1) := by decide +kernel
theorem dX2_pass_7 : decode cX2_pass 7 = .ok (.ishl, 1) := by decide +kernel
theorem dX2_pass_8 : decode cX2_pass 8 = .ok (.ior, 1) := by decide +kernel
theorem dX2_pass_9 : decode cX2_pass 9 = .ok (.putfield 104, 3) := by decide +kernel
theorem dX2_pass_12 : decode cX2_pass 12 = .ok (.aload_n 1, 1) := by decide +kernel
theorem dX2_pass_13 : decode cX2_pass 13 = .ok (.sipush 9999, 3) := by decide +kernel
theorem dX2_pass_16 : decode cX2_pass 16 = .ok (.aload_n 1, 1) := by decide +kernel
theorem dX2_pass_17 : decode cX2_pass 17 = .ok (.getfield 94, 3) := by decide +kernel
theorem dX2_pass_20 : decode cX2_pass 20 = .ok (.aload_n 0, 1) := by decide +kernel
theorem dX2_pass_21 : decode cX2_pass 21 = .ok (.getfield 18, 3) := by decide +kernel
theorem dX2_pass_24 : decode cX2_pass 24 = .ok (.iload_n 2, 1) := by decide +kernel
theorem dX2_pass_25 : decode cX2_pass 25 = .ok (.invokevirtual 91, 3) := by decide +kernel
theorem dX2_pass_28 : decode cX2_pass 28 = .ok (.isub, 1) := by decide +kernel
theorem dX2_pass_29 : decode cX2_pass 29 = .ok (.invokestatic 82, 3) := by decide +kernel
theorem dX2_pass_32 : decode cX2_pass 32 = .ok (.putfield 94, 3) := by decide +kernel
theorem dX2_pass_35 : decode cX2_pass 35 = .ok (.aload_n 1, 1) := by decide +kernel
theorem dX2_pass_36 : decode cX2_pass 36 = .ok (.dup, 1) := by decide +kernel
theorem dX2_pass_37 : decode cX2_pass 37 = .ok (.getfield 107, 3) := by decide +kernel
theorem dX2_pass_40 : decode cX2_pass 40 = .ok (.aload_n 0, 1) := by decide +kernel
theorem dX2_pass_41 : decode cX2_pass 41 = .ok (.getfield 18, 3) := by decide +kernel
theorem dX2_pass_44 : decode cX2_pass 44 = .ok (.iload_n 2, 1) := by decide +kernel
theorem dX2_pass_45 : decode cX2_pass 45 = .ok (.invokevirtual 110, 3) := by decide +kernel
theorem dX2_pass_48 : decode cX2_pass 48 = .ok (.iadd, 1) := by decide +kernel
theorem dX2_pass_49 : decode cX2_pass 49 = .ok (.putfield 107, 3) := by decide +kernel
theorem dX2_pass_52 : decode cX2_pass 52 = .ok (.return_, 1) := by decide +kernel
theorem dX2_carries_0 : decode cX2_carries 0 = .ok (.iconst 2, 1) := by decide +kernel
theorem dX2_carries_1 : decode cX2_carries 1 = .ok (.iload_n 1, 1) := by decide +kernel
theorem dX2_carries_2 : decode cX2_carries 2 = .ok (.invokestatic 113, 3) := by decide +kernel
theorem dX2_carries_5 : decode cX2_carries 5 = .ok (.imul, 1) := by decide +kernel
theorem dX2_carries_6 : decode cX2_carries 6 = .ok (.aload_n 0, 1) := by decide +kernel
theorem dX2_carries_7 : decode cX2_carries 7 = .ok (.getfield 18, 3) := by decide +kernel
theorem dX2_carries_10 : decode cX2_carries 10 = .ok (.getfield 118, 3) := by decide +kernel
theorem dX2_carries_13 : decode cX2_carries 13 = .ok (.if_icmp .le 7, 3) := by decide +kernel
theorem dX2_carries_16 : decode cX2_carries 16 = .ok (.iconst 1, 1) := by decide +kernel
theorem dX2_carries_17 : decode cX2_carries 17 = .ok (.goto 4, 3) := by decide +kernel
theorem dX2_carries_20 : decode cX2_carries 20 = .ok (.iconst 0, 1) := by decide +kernel
theorem dX2_carries_21 : decode cX2_carries 21 = .ok (.ireturn, 1) := by decide +kernel
theorem dX2_supporters_0 : decode cX2_supporters 0 = .ok (.iconst 0, 1) := by decide +kernel
theorem dX2_supporters_1 : decode cX2_supporters 1 = .ok (.istore 4, 2) := by decide +kernel
theorem dX2_supporters_3 : decode cX2_supporters 3 = .ok (.iconst 0, 1) := by decide +kernel
theorem dX2_supporters_4 : decode cX2_supporters 4 = .ok (.istore 5, 2) := by decide +kernel
theorem dX2_supporters_6 : decode cX2_supporters 6 = .ok (.iload 5, 2) := by decide +kernel
theorem dX2_supporters_8 : decode cX2_supporters 8 = .ok (.aload_n 0, 1) := by decide +kernel
theorem dX2_supporters_9 : decode cX2_supporters 9 = .ok (.getfield 18, 3) := by decide +kernel
theorem dX2_supporters_12 : decode cX2_supporters 12 = .ok (.getfield 118, 3) := by decide +kernel
theorem dX2_supporters_15 : decode cX2_supporters 15 = .ok (.if_icmp .ge 37, 3) := by decide +kernel
theorem dX2_supporters_18 : decode cX2_supporters 18 = .ok (.aload_n 0, 1) := by decide +kernel
theorem dX2_supporters_19 : decode cX2_supporters 19 = .ok (.aload_n 1, 1) := by decide +kernel
theorem dX2_supporters_20 : decode cX2_supporters 20 = .ok (.iload 5, 2) := by decide +kernel
theorem dX2_supporters_22 : decode cX2_supporters 22 = .ok (.aload_n 1, 1) := by decide +kernel
theorem dX2_supporters_23 : decode cX2_supporters 23 = .ok (.getfield 121, 3) := by decide +kernel
theorem dX2_supporters_26 : decode cX2_supporters 26 = .ok (.iload 5, 2) := by decide +kernel
theorem dX2_supporters_28 : decode cX2_supporters 28 = .ok (.iaload, 1) := by decide +kernel
theorem dX2_supporters_29 : decode cX2_supporters 29 = .ok (.iload_n 2, 1) := by decide +kernel
theorem dX2_supporters_30 : decode cX2_supporters 30 = .ok (.iload_n 3, 1) := by decide +kernel
theorem dX2_supporters_31 : decode cX2_supporters 31 = .ok (.invokevirtual 124, 3) := by decide +kernel
theorem dX2_supporters_34 : decode cX2_supporters 34 = .ok (.ifCond .eq 12, 3) := by decide +kernel
theorem dX2_supporters_37 : decode cX2_supporters 37 = .ok (.iload 4, 2) := by decide +kernel
theorem dX2_supporters_39 : decode cX2_supporters 39 = .ok (.iconst 1, 1) := by decide +kernel
theorem dX2_supporters_40 : decode cX2_supporters 40 = .ok (.iload 5, 2) := by decide +kernel
theorem dX2_supporters_42 : decode cX2_supporters 42 = .ok (.ishl, 1) := by decide +kernel
theorem dX2_supporters_43 : decode cX2_supporters 43 = .ok (.ior, 1) := by decide +kernel
theorem dX2_supporters_44 : decode cX2_supporters 44 = .ok (.istore 4, 2) := by decide +kernel
theorem dX2_supporters_46 : decode cX2_supporters 46 = .ok (.iinc 5 1, 3) := by decide +kernel
theorem dX2_supporters_49 : decode cX2_supporters 49 = .ok (.goto (-43), 3) := by decide +kernel
theorem dX2_supporters_52 : decode cX2_supporters 52 = .ok (.iload 4, 2) := by decide +kernel
theorem dX2_supporters_54 : decode cX2_supporters 54 = .ok (.ireturn, 1) := by decide +kernel
theorem dX2_isFor_0 : decode cX2_isFor 0 = .ok (.aload_n 0, 1) := by decide +kernel
theorem dX2_isFor_1 : decode cX2_isFor 1 = .ok (.getfield 18, 3) := by decide +kernel
theorem dX2_isFor_4 : decode cX2_isFor 4 = .ok (.iconst 1, 1) := by decide +kernel
theorem dX2_isFor_5 : decode cX2_isFor 5 = .ok (.invokevirtual 74, 3) := by decide +kernel
theorem dX2_isFor_8 : decode cX2_isFor 8 = .ok (.ifCond .ne 24, 3) := by decide +kernel
theorem dX2_isFor_11 : decode cX2_isFor 11 = .ok (.iload_n 3, 1) := by decide +kernel
theorem dX2_isFor_12 : decode cX2_isFor 12 = .ok (.aload_n 0, 1) := by decide +kernel
theorem dX2_isFor_13 : decode cX2_isFor 13 = .ok (.getfield 18, 3) := by decide +kernel
theorem dX2_isFor_16 : decode cX2_isFor 16 = .ok (.getfield 128, 3) := by decide +kernel
theorem dX2_isFor_19 : decode cX2_isFor 19 = .ok (.iload 4, 2) := by decide +kernel
theorem dX2_isFor_21 : decode cX2_isFor 21 = .ok (.iaload, 1) := by decide +kernel
theorem dX2_isFor_22 : decode cX2_isFor 22 = .ok (.iadd, 1) := by decide +kernel
theorem dX2_isFor_23 : decode cX2_isFor 23 = .ok (.ifCond .le 7, 3) := by decide +kernel
theorem dX2_isFor_26 : decode cX2_isFor 26 = .ok (.iconst 1, 1) := by decide +kernel
theorem dX2_isFor_27 : decode cX2_isFor 27 = .ok (.goto 4, 3) := by decide +kernel
theorem dX2_isFor_30 : decode cX2_isFor 30 = .ok (.iconst 0, 1) := by decide +kernel
theorem dX2_isFor_31 : decode cX2_isFor 31 = .ok (.ireturn, 1) := by decide +kernel
theorem dX2_isFor_32 : decode cX2_isFor 32 = .ok (.aload_n 0, 1) := by decide +kernel
theorem dX2_isFor_33 : decode cX2_isFor 33 = .ok (.getfield 9, 3) := by decide +kernel
theorem dX2_isFor_36 : decode cX2_isFor 36 = .ok (.iconst 0, 1) := by decide +kernel
theorem dX2_isFor_37 : decode cX2_isFor 37 = .ok (.iconst 0, 1) := by decide +kernel
theorem dX2_isFor_38 : decode cX2_isFor 38 = .ok (.iload 5, 2) := by decide +kernel
theorem dX2_isFor_40 : decode cX2_isFor 40 = .ok (.aload_n 0, 1) := by decide +kernel
theorem dX2_isFor_41 : decode cX2_isFor 41 = .ok (.getfield 18, 3) := by decide +kernel
theorem dX2_isFor_44 : decode cX2_isFor 44 = .ok (.getfield 130, 3) := by decide +kernel
theorem dX2_isFor_47 : decode cX2_isFor 47 = .ok (.iload_n 2, 1) := by decide +kernel
theorem dX2_isFor_48 : decode cX2_isFor 48 = .ok (.iaload, 1) := by decide +kernel
theorem dX2_isFor_49 : decode cX2_isFor 49 = .ok (.isub, 1) := by decide +kernel
theorem dX2_isFor_50 : decode cX2_isFor 50 = .ok (.invokestatic 59, 3) := by decide +kernel
theorem dX2_isFor_53 : decode cX2_isFor 53 = .ok (.iastore, 1) := by decide +kernel
theorem dX2_isFor_54 : decode cX2_isFor 54 = .ok (.aload_n 0, 1) := by decide +kernel
theorem dX2_isFor_55 : decode cX2_isFor 55 = .ok (.getfield 9, 3) := by decide +kernel
theorem dX2_isFor_58 : decode cX2_isFor 58 = .ok (.iconst 1, 1) := by decide +kernel
theorem dX2_isFor_59 : decode cX2_isFor 59 = .ok (.iload_n 3, 1) := by decide +kernel
theorem dX2_isFor_60 : decode cX2_isFor 60 = .ok (.iastore, 1) := by decide +kernel
theorem dX2_isFor_61 : decode cX2_isFor 61 = .ok (.aload_n 0, 1) := by decide +kernel
theorem dX2_isFor_62 : decode cX2_isFor 62 = .ok (.getfield 9, 3) := by decide +kernel
theorem dX2_isFor_65 : decode cX2_isFor 65 = .ok (.iconst 2, 1) := by decide +kernel
theorem dX2_isFor_66 : decode cX2_isFor 66 = .ok (.aload_n 0, 1) := by decide +kernel
theorem dX2_isFor_67 : decode cX2_isFor 67 = .ok (.getfield 18, 3) := by decide +kernel
theorem dX2_isFor_70 : decode cX2_isFor 70 = .ok (.getfield 133, 3) := by decide +kernel
theorem dX2_isFor_73 : decode cX2_isFor 73 = .ok (.iload 4, 2) := by decide +kernel
theorem dX2_isFor_75 : decode cX2_isFor 75 = .ok (.iaload, 1) := by decide +kernel
theorem dX2_isFor_76 : decode cX2_isFor 76 = .ok (.iastore, 1) := by decide +kernel
theorem dX2_isFor_77 : decode cX2_isFor 77 = .ok (.aload_n 0, 1) := by decide +kernel
theorem dX2_isFor_78 : decode cX2_isFor 78 = .ok (.getfield 9, 3) := by decide +kernel
theorem dX2_isFor_81 : decode cX2_isFor 81 = .ok (.iconst 3, 1) := by decide +kernel
theorem dX2_isFor_82 : decode cX2_isFor 82 = .ok (.aload_n 0, 1) := by decide +kernel
theorem dX2_isFor_83 : decode cX2_isFor 83 = .ok (.getfield 18, 3) := by decide +kernel
theorem dX2_isFor_86 : decode cX2_isFor 86 = .ok (.getfield 128, 3) := by decide +kernel
theorem dX2_isFor_89 : decode cX2_isFor 89 = .ok (.iload 4, 2) := by decide +kernel
theorem dX2_isFor_91 : decode cX2_isFor 91 = .ok (.iaload, 1) := by decide +kernel
theorem dX2_isFor_92 : decode cX2_isFor 92 = .ok (.iastore, 1) := by decide +kernel
theorem dX2_isFor_93 : decode cX2_isFor 93 = .ok (.aload_n 0, 1) := by decide +kernel
theorem dX2_isFor_94 : decode cX2_isFor 94 = .ok (.getfield 9, 3) := by decide +kernel
theorem dX2_isFor_97 : decode cX2_isFor 97 = .ok (.iconst 4, 1) := by decide +kernel
theorem dX2_isFor_98 : decode cX2_isFor 98 = .ok (.aload_n 0, 1) := by decide +kernel
theorem dX2_isFor_99 : decode cX2_isFor 99 = .ok (.getfield 18, 3) := by decide +kernel
theorem dX2_isFor_102 : decode cX2_isFor 102 = .ok (.getfield 136, 3) := by decide +kernel
theorem dX2_isFor_105 : decode cX2_isFor 105 = .ok (.iload 4, 2) := by decide +kernel
theorem dX2_isFor_107 : decode cX2_isFor 107 = .ok (.iaload, 1) := by decide +kernel
theorem dX2_isFor_108 : decode cX2_isFor 108 = .ok (.iastore, 1) := by decide +kernel
theorem dX2_isFor_109 : decode cX2_isFor 109 = .ok (.aload_n 0, 1) := by decide +kernel
theorem dX2_isFor_110 : decode cX2_isFor 110 = .ok (.getfield 9, 3) := by decide +kernel
theorem dX2_isFor_113 : decode cX2_isFor 113 = .ok (.iconst 5, 1) := by decide +kernel
theorem dX2_isFor_114 : decode cX2_isFor 114 = .ok (.aload_n 1, 1) := by decide +kernel
theorem dX2_isFor_115 : decode cX2_isFor 115 = .ok (.invokevirtual 139, 3) := by decide +kernel
theorem dX2_isFor_118 : decode cX2_isFor 118 = .ok (.iastore, 1) := by decide +kernel
theorem dX2_isFor_119 : decode cX2_isFor 119 = .ok (.aload_n 0, 1) := by decide +kernel
theorem dX2_isFor_120 : decode cX2_isFor 120 = .ok (.iconst 1, 1) := by decide +kernel
theorem dX2_isFor_121 : decode cX2_isFor 121 = .ok (.invokevirtual 78, 3) := by decide +kernel
theorem dX2_isFor_124 : decode cX2_isFor 124 = .ok (.ifCond .le 7, 3) := by decide +kernel
theorem dX2_isFor_127 : decode cX2_isFor 127 = .ok (.iconst 1, 1) := by decide +kernel
theorem dX2_isFor_128 : decode cX2_isFor 128 = .ok (.goto 4, 3) := by decide +kernel
theorem dX2_isFor_131 : decode cX2_isFor 131 = .ok (.iconst 0, 1) := by decide +kernel
theorem dX2_isFor_132 : decode cX2_isFor 132 = .ok (.ireturn, 1) := by decide +kernel
theorem dX2_resultOf_0 : decode cX2_resultOf 0 = .ok (.iconst 0, 1) := by decide +kernel
theorem dX2_resultOf_1 : decode cX2_resultOf 1 = .ok (.istore_n 2, 1) := by decide +kernel
theorem dX2_resultOf_2 : decode cX2_resultOf 2 = .ok (.aload_n 0, 1) := by decide +kernel
theorem dX2_resultOf_3 : decode cX2_resultOf 3 = .ok (.getfield 18, 3) := by decide +kernel
theorem dX2_resultOf_6 : decode cX2_resultOf 6 = .ok (.getfield 143, 3) := by decide +kernel
theorem dX2_resultOf_9 : decode cX2_resultOf 9 = .ok (.iload_n 1, 1) := by decide +kernel
theorem dX2_resultOf_10 : decode cX2_resultOf 10 = .ok (.iaload, 1) := by decide +kernel
theorem dX2_resultOf_11 : decode cX2_resultOf 11 = .ok (.aload_n 0, 1) := by decide +kernel
theorem dX2_resultOf_12 : decode cX2_resultOf 12 = .ok (.getfield 18, 3) := by decide +kernel
theorem dX2_resultOf_15 : decode cX2_resultOf 15 = .ok (.getfield 146, 3) := by decide +kernel
theorem dX2_resultOf_18 : decode cX2_resultOf 18 = .ok (.arraylength, 1) := by decide +kernel
theorem dX2_resultOf_19 : decode cX2_resultOf 19 = .ok (.invokestatic 82, 3) := by decide +kernel
theorem dX2_resultOf_22 : decode cX2_resultOf 22 = .ok (.istore_n 3, 1) := by decide +kernel
theorem dX2_resultOf_23 : decode cX2_resultOf 23 = .ok (.iconst 0, 1) := by decide +kernel
theorem dX2_resultOf_24 : decode cX2_resultOf 24 = .ok (.aload_n 0, 1) := by decide +kernel
theorem dX2_resultOf_25 : decode cX2_resultOf 25 = .ok (.getfield 18, 3) := by decide +kernel
theorem dX2_resultOf_28 : decode cX2_resultOf 28 = .ok (.getfield 149, 3) := by decide +kernel
theorem dX2_resultOf_31 : decode cX2_resultOf 31 = .ok (.iload_n 1, 1) := by decide +kernel
theorem dX2_resultOf_32 : decode cX2_resultOf 32 = .ok (.iaload, 1) := by decide +kernel
theorem dX2_resultOf_33 : decode cX2_resultOf 33 = .ok (.invokestatic 59, 3) := by decide +kernel
theorem dX2_resultOf_36 : decode cX2_resultOf 36 = .ok (.istore 4, 2) := by decide +kernel
theorem dX2_resultOf_38 : decode cX2_resultOf 38 = .ok (.iload 4, 2) := by decide +kernel
theorem dX2_resultOf_40 : decode cX2_resultOf 40 = .ok (.iload_n 3, 1) := by decide +kernel
theorem dX2_resultOf_41 : decode cX2_resultOf 41 = .ok (.if_icmp .ge 307, 3) := by decide +kernel
theorem dX2_resultOf_44 : decode cX2_resultOf 44 = .ok (.aload_n 0, 1) := by decide +kernel
theorem dX2_resultOf_45 : decode cX2_resultOf 45 = .ok (.getfield 18, 3) := by decide +kernel
theorem dX2_resultOf_48 : decode cX2_resultOf 48 = .ok (.getfield 146, 3) := by decide +kernel
theorem dX2_resultOf_51 : decode cX2_resultOf 51 = .ok (.iload 4, 2) := by decide +kernel
theorem dX2_resultOf_53 : decode cX2_resultOf 53 = .ok (.iaload, 1) := by decide +kernel
theorem dX2_resultOf_54 : decode cX2_resultOf 54 = .ok (.istore 5, 2) := by decide +kernel
theorem dX2_resultOf_56 : decode cX2_resultOf 56 = .ok (.iload 5, 2) := by decide +kernel
theorem dX2_resultOf_58 : decode cX2_resultOf 58 = .ok (.bipush (-6), 2) := by decide +kernel
theorem dX2_resultOf_60 : decode cX2_resultOf 60 = .ok (.if_icmp .lt 43, 3) := by decide +kernel
theorem dX2_resultOf_63 : decode cX2_resultOf 63 = .ok (.iload_n 2, 1) := by decide +kernel
theorem dX2_resultOf_64 : decode cX2_resultOf 64 = .ok (.aload_n 0, 1) := by decide +kernel
theorem dX2_resultOf_65 : decode cX2_resultOf 65 = .ok (.getfield 15, 3) := by decide +kernel
theorem dX2_resultOf_68 : decode cX2_resultOf 68 = .ok (.arraylength, 1) := by decide +kernel
theorem dX2_resultOf_69 : decode cX2_resultOf 69 = .ok (.if_icmp .ge 273, 3) := by decide +kernel
theorem dX2_resultOf_72 : decode cX2_resultOf 72 = .ok (.aload_n 0, 1) := by decide +kernel
theorem dX2_resultOf_73 : decode cX2_resultOf 73 = .ok (.getfield 15, 3) := by decide +kernel
theorem dX2_resultOf_76 : decode cX2_resultOf 76 = .ok (.iload_n 2, 1) := by decide +kernel
theorem dX2_resultOf_77 : decode cX2_resultOf 77 = .ok (.iload 5, 2) := by decide +kernel
theorem dX2_resultOf_79 : decode cX2_resultOf 79 = .ok (.ifCond .lt 8, 3) := by decide +kernel
theorem dX2_resultOf_82 : decode cX2_resultOf 82 = .ok (.iload 5, 2) := by decide +kernel
theorem dX2_resultOf_84 : decode cX2_resultOf 84 = .ok (.goto 12, 3) := by decide +kernel
theorem dX2_resultOf_87 : decode cX2_resultOf 87 = .ok (.aload_n 0, 1) := by decide +kernel
theorem dX2_resultOf_88 : decode cX2_resultOf 88 = .ok (.getfield 9, 3) := by decide +kernel
theorem dX2_resultOf_91 : decode cX2_resultOf 91 = .ok (.iconst (-1), 1) := by decide +kernel
theorem dX2_resultOf_92 : decode cX2_resultOf 92 = .ok (.iload 5, 2) := by decide +kernel
theorem dX2_resultOf_94 : decode cX2_resultOf 94 = .ok (.isub, 1) := by decide +kernel
theorem dX2_resultOf_95 : decode cX2_resultOf 95 = .ok (.iaload, 1) := by decide +kernel
theorem dX2_resultOf_96 : decode cX2_resultOf 96 = .ok (.iastore, 1) := by decide +kernel
theorem dX2_resultOf_97 : decode cX2_resultOf 97 = .ok (.iinc 2 1, 3) := by decide +kernel
theorem dX2_resultOf_100 : decode cX2_resultOf 100 = .ok (.goto 242, 3) := by decide +kernel
theorem dX2_resultOf_103 : decode cX2_resultOf 103 = .ok (.iload 5, 2) := by decide +kernel
theorem dX2_resultOf_105 : decode cX2_resultOf 105 = .ok (.bipush (-7), 2) := by decide +kernel
theorem dX2_resultOf_107 : decode cX2_resultOf 107 = .ok (.if_icmp .ne 35, 3) := by decide +kernel
theorem dX2_resultOf_110 : decode cX2_resultOf 110 = .ok (.iload_n 2, 1) := by decide +kernel
theorem dX2_resultOf_111 : decode cX2_resultOf 111 = .ok (.iconst 1, 1) := by decide +kernel
theorem dX2_resultOf_112 : decode cX2_resultOf 112 = .ok (.if_icmp .lt 230, 3) := by decide +kernel
theorem dX2_resultOf_115 : decode cX2_resultOf 115 = .ok (.aload_n 0, 1) := by decide +kernel
theorem dX2_resultOf_116 : decode cX2_resultOf 116 = .ok (.getfield 15, 3) := by decide +kernel
theorem dX2_resultOf_119 : decode cX2_resultOf 119 = .ok (.iload_n 2, 1) := by decide +kernel
theorem dX2_resultOf_120 : decode cX2_resultOf 120 = .ok (.iconst 1, 1) := by decide +kernel
theorem dX2_resultOf_121 : decode cX2_resultOf 121 = .ok (.isub, 1) := by decide +kernel
theorem dX2_resultOf_122 : decode cX2_resultOf 122 = .ok (.aload_n 0, 1) := by decide +kernel
theorem dX2_resultOf_123 : decode cX2_resultOf 123 = .ok (.getfield 15, 3) := by decide +kernel
theorem dX2_resultOf_126 : decode cX2_resultOf 126 = .ok (.iload_n 2, 1) := by decide +kernel
theorem dX2_resultOf_127 : decode cX2_resultOf 127 = .ok (.iconst 1, 1) := by decide +kernel
theorem dX2_resultOf_128 : decode cX2_resultOf 128 = .ok (.isub, 1) := by decide +kernel
theorem dX2_resultOf_129 : decode cX2_resultOf 129 = .ok (.iaload, 1) := by decide +kernel
theorem dX2_resultOf_130 : decode cX2_resultOf 130 = .ok (.ifCond .ne 7, 3) := by decide +kernel
theorem dX2_resultOf_133 : decode cX2_resultOf 133 = .ok (.iconst 1, 1) := by decide +kernel
theorem dX2_resultOf_134 : decode cX2_resultOf 134 = .ok (.goto 4, 3) := by decide +kernel
theorem dX2_resultOf_137 : decode cX2_resultOf 137 = .ok (.iconst 0, 1) := by decide +kernel
theorem dX2_resultOf_138 : decode cX2_resultOf 138 = .ok (.iastore, 1) := by decide +kernel
theorem dX2_resultOf_139 : decode cX2_resultOf 139 = .ok (.goto 203, 3) := by decide +kernel
theorem dX2_resultOf_142 : decode cX2_resultOf 142 = .ok (.iload_n 2, 1) := by decide +kernel
theorem dX2_resultOf_143 : decode cX2_resultOf 143 = .ok (.iconst 2, 1) := by decide +kernel
theorem dX2_resultOf_144 : decode cX2_resultOf 144 = .ok (.if_icmp .lt 198, 3) := by decide +kernel
theorem dX2_resultOf_147 : decode cX2_resultOf 147 = .ok (.iinc 2 (-1), 3) := by decide +kernel
theorem dX2_resultOf_150 : decode cX2_resultOf 150 = .ok (.aload_n 0, 1) := by decide +kernel
theorem dX2_resultOf_151 : decode cX2_resultOf 151 = .ok (.getfield 15, 3) := by decide +kernel
theorem dX2_resultOf_154 : decode cX2_resultOf 154 = .ok (.iload_n 2, 1) := by decide +kernel
theorem dX2_resultOf_155 : decode cX2_resultOf 155 = .ok (.iconst 1, 1) := by decide +kernel
theorem dX2_resultOf_156 : decode cX2_resultOf 156 = .ok (.isub, 1) := by decide +kernel
theorem dX2_resultOf_157 : decode cX2_resultOf 157 = .ok (.iaload, 1) := by decide +kernel
theorem dX2_resultOf_158 : decode cX2_resultOf 158 = .ok (.istore 6, 2) := by decide +kernel
theorem dX2_resultOf_160 : decode cX2_resultOf 160 = .ok (.aload_n 0, 1) := by decide +kernel
theorem dX2_resultOf_161 : decode cX2_resultOf 161 = .ok (.getfield 15, 3) := by decide +kernel
theorem dX2_resultOf_164 : decode cX2_resultOf 164 = .ok (.iload_n 2, 1) := by decide +kernel
theorem dX2_resultOf_165 : decode cX2_resultOf 165 = .ok (.iaload, 1) := by decide +kernel
theorem dX2_resultOf_166 : decode cX2_resultOf 166 = .ok (.istore 7, 2) := by decide +kernel
theorem dX2_resultOf_168 : decode cX2_resultOf 168 = .ok (.iload 5, 2) := by decide +kernel
theorem dX2_resultOf_170 : decode cX2_resultOf 170 = .ok (.tableswitch 146 (-14) (-8) #[136, 126, 116, 99, 82, 62, 42], 42) := by decide +kernel
theorem dX2_resultOf_212 : decode cX2_resultOf 212 = .ok (.iload 6, 2) := by decide +kernel
theorem dX2_resultOf_214 : decode cX2_resultOf 214 = .ok (.ifCond .ne 8, 3) := by decide +kernel
theorem dX2_resultOf_217 : decode cX2_resultOf 217 = .ok (.iload 7, 2) := by decide +kernel
theorem dX2_resultOf_219 : decode cX2_resultOf 219 = .ok (.ifCond .eq 7, 3) := by decide +kernel
theorem dX2_resultOf_222 : decode cX2_resultOf 222 = .ok (.iconst 1, 1) := by decide +kernel
theorem dX2_resultOf_223 : decode cX2_resultOf 223 = .ok (.goto 4, 3) := by decide +kernel
theorem dX2_resultOf_226 : decode cX2_resultOf 226 = .ok (.iconst 0, 1) := by decide +kernel
theorem dX2_resultOf_227 : decode cX2_resultOf 227 = .ok (.istore 6, 2) := by decide +kernel
theorem dX2_resultOf_229 : decode cX2_resultOf 229 = .ok (.goto 103, 3) := by decide +kernel
theorem dX2_resultOf_232 : decode cX2_resultOf 232 = .ok (.iload 6, 2) := by decide +kernel
theorem dX2_resultOf_234 : decode cX2_resultOf 234 = .ok (.ifCond .eq 12, 3) := by decide +kernel
theorem dX2_resultOf_237 : decode cX2_resultOf 237 = .ok (.iload 7, 2) := by decide +kernel
theorem dX2_resultOf_239 : decode cX2_resultOf 239 = .ok (.ifCond .eq 7, 3) := by decide +kernel
theorem dX2_resultOf_242 : decode cX2_resultOf 242 = .ok (.iconst 1, 1) := by decide +kernel
theorem dX2_resultOf_243 : decode cX2_resultOf 243 = .ok (.goto 4, 3) := by decide +kernel
theorem dX2_resultOf_246 : decode cX2_resultOf 246 = .ok (.iconst 0, 1) := by decide +kernel
theorem dX2_resultOf_247 : decode cX2_resultOf 247 = .ok (.istore 6, 2) := by decide +kernel
theorem dX2_resultOf_249 : decode cX2_resultOf 249 = .ok (.goto 83, 3) := by decide +kernel
theorem dX2_resultOf_252 : decode cX2_resultOf 252 = .ok (.iload 6, 2) := by decide +kernel
theorem dX2_resultOf_254 : decode cX2_resultOf 254 = .ok (.iload 7, 2) := by decide +kernel
theorem dX2_resultOf_256 : decode cX2_resultOf 256 = .ok (.if_icmp .ge 7, 3) := by decide +kernel
theorem dX2_resultOf_259 : decode cX2_resultOf 259 = .ok (.iconst 1, 1) := by decide +kernel
theorem dX2_resultOf_260 : decode cX2_resultOf 260 = .ok (.goto 4, 3) := by decide +kernel
theorem dX2_resultOf_263 : decode cX2_resultOf 263 = .ok (.iconst 0, 1) := by decide +kernel
theorem dX2_resultOf_264 : decode cX2_resultOf 264 = .ok (.istore 6, 2) := by decide +kernel
theorem dX2_resultOf_266 : decode cX2_resultOf 266 = .ok (.goto 66, 3) := by decide +kernel
theorem dX2_resultOf_269 : decode cX2_resultOf 269 = .ok (.iload 6, 2) := by decide +kernel
theorem dX2_resultOf_271 : decode cX2_resultOf 271 = .ok (.iload 7, 2) := by decide +kernel
theorem dX2_resultOf_273 : decode cX2_resultOf 273 = .ok (.if_icmp .ne 7, 3) := by decide +kernel
theorem dX2_resultOf_276 : decode cX2_resultOf 276 = .ok (.iconst 1, 1) := by decide +kernel
theorem dX2_resultOf_277 : decode cX2_resultOf 277 = .ok (.goto 4, 3) := by decide +kernel
theorem dX2_resultOf_280 : decode cX2_resultOf 280 = .ok (.iconst 0, 1) := by decide +kernel
theorem dX2_resultOf_281 : decode cX2_resultOf 281 = .ok (.istore 6, 2) := by decide +kernel
theorem dX2_resultOf_283 : decode cX2_resultOf 283 = .ok (.goto 49, 3) := by decide +kernel
theorem dX2_resultOf_286 : decode cX2_resultOf 286 = .ok (.iload 6, 2) := by decide +kernel
theorem dX2_resultOf_288 : decode cX2_resultOf 288 = .ok (.iload 7, 2) := by decide +kernel
theorem dX2_resultOf_290 : decode cX2_resultOf 290 = .ok (.iadd, 1) := by decide +kernel
theorem dX2_resultOf_291 : decode cX2_resultOf 291 = .ok (.istore 6, 2) := by decide +kernel
theorem dX2_resultOf_293 : decode cX2_resultOf 293 = .ok (.goto 39, 3) := by decide +kernel
theorem dX2_resultOf_296 : decode cX2_resultOf 296 = .ok (.iload 6, 2) := by decide +kernel
theorem dX2_resultOf_298 : decode cX2_resultOf 298 = .ok (.iload 7, 2) := by decide +kernel
theorem dX2_resultOf_300 : decode cX2_resultOf 300 = .ok (.isub, 1) := by decide +kernel
theorem dX2_resultOf_301 : decode cX2_resultOf 301 = .ok (.istore 6, 2) := by decide +kernel
theorem dX2_resultOf_303 : decode cX2_resultOf 303 = .ok (.goto 29, 3) := by decide +kernel
theorem dX2_resultOf_306 : decode cX2_resultOf 306 = .ok (.iload 6, 2) := by decide +kernel
theorem dX2_resultOf_308 : decode cX2_resultOf 308 = .ok (.iload 7, 2) := by decide +kernel
theorem dX2_resultOf_310 : decode cX2_resultOf 310 = .ok (.imul, 1) := by decide +kernel
theorem dX2_resultOf_311 : decode cX2_resultOf 311 = .ok (.istore 6, 2) := by decide +kernel
theorem dX2_resultOf_313 : decode cX2_resultOf 313 = .ok (.goto 19, 3) := by decide +kernel
theorem dX2_resultOf_316 : decode cX2_resultOf 316 = .ok (.iload 7, 2) := by decide +kernel
theorem dX2_resultOf_318 : decode cX2_resultOf 318 = .ok (.ifCond .ne 7, 3) := by decide +kernel
theorem dX2_resultOf_321 : decode cX2_resultOf 321 = .ok (.iconst 0, 1) := by decide +kernel
theorem dX2_resultOf_322 : decode cX2_resultOf 322 = .ok (.goto 8, 3) := by decide +kernel
theorem dX2_resultOf_325 : decode cX2_resultOf 325 = .ok (.iload 6, 2) := by decide +kernel
theorem dX2_resultOf_327 : decode cX2_resultOf 327 = .ok (.iload 7, 2) := by decide +kernel
theorem dX2_resultOf_329 : decode cX2_resultOf 329 = .ok (.idiv, 1) := by decide +kernel
theorem dX2_resultOf_330 : decode cX2_resultOf 330 = .ok (.istore 6, 2) := by decide +kernel
theorem dX2_resultOf_332 : decode cX2_resultOf 332 = .ok (.aload_n 0, 1) := by decide +kernel
theorem dX2_resultOf_333 : decode cX2_resultOf 333 = .ok (.getfield 15, 3) := by decide +kernel
theorem dX2_resultOf_336 : decode cX2_resultOf 336 = .ok (.iload_n 2, 1) := by decide +kernel
theorem dX2_resultOf_337 : decode cX2_resultOf 337 = .ok (.iconst 1, 1) := by decide +kernel
theorem dX2_resultOf_338 : decode cX2_resultOf 338 = .ok (.isub, 1) := by decide +kernel
theorem dX2_resultOf_339 : decode cX2_resultOf 339 = .ok (.iload 6, 2) := by decide +kernel
theorem dX2_resultOf_341 : decode cX2_resultOf 341 = .ok (.iastore, 1) := by decide +kernel
theorem dX2_resultOf_342 : decode cX2_resultOf 342 = .ok (.iinc 4 1, 3) := by decide +kernel
theorem dX2_resultOf_345 : decode cX2_resultOf 345 = .ok (.goto (-307), 3) := by decide +kernel
theorem dX2_resultOf_348 : decode cX2_resultOf 348 = .ok (.aload_n 0, 1) := by decide +kernel
theorem dX2_resultOf_349 : decode cX2_resultOf 349 = .ok (.getfield 15, 3) := by decide +kernel
theorem dX2_resultOf_352 : decode cX2_resultOf 352 = .ok (.iconst 0, 1) := by decide +kernel
theorem dX2_resultOf_353 : decode cX2_resultOf 353 = .ok (.iaload, 1) := by decide +kernel
theorem dX2_resultOf_354 : decode cX2_resultOf 354 = .ok (.ireturn, 1) := by decide +kernel
theorem dX3_init_0 : decode cX3_init 0 = .ok (.aload_n 0, 1) := by decide +kernel
theorem dX3_init_1 : decode cX3_init 1 = .ok (.invokespecial 3, 3) := by decide +kernel
theorem dX3_init_4 : decode cX3_init 4 = .ok (.aload_n 0, 1) := by decide +kernel
theorem dX3_init_5 : decode cX3_init 5 = .ok (.bipush 7, 2) := by decide +kernel
theorem dX3_init_7 : decode cX3_init 7 = .ok (.newarray .int, 2) := by decide +kernel
theorem dX3_init_9 : decode cX3_init 9 = .ok (.putfield 9, 3) := by decide +kernel
theorem dX3_init_12 : decode cX3_init 12 = .ok (.aload_n 0, 1) := by decide +kernel
theorem dX3_init_13 : decode cX3_init 13 = .ok (.aload_n 1, 1) := by decide +kernel
theorem dX3_init_14 : decode cX3_init 14 = .ok (.putfield 15, 3) := by decide +kernel
theorem dX3_init_17 : decode cX3_init 17 = .ok (.aload_n 0, 1) := by decide +kernel
theorem dX3_init_18 : decode cX3_init 18 = .ok (.aload_n 2, 1) := by decide +kernel
theorem dX3_init_19 : decode cX3_init 19 = .ok (.putfield 19, 3) := by decide +kernel
theorem dX3_init_22 : decode cX3_init 22 = .ok (.aload_n 0, 1) := by decide +kernel
theorem dX3_init_23 : decode cX3_init 23 = .ok (.aload_n 3, 1) := by decide +kernel
theorem dX3_init_24 : decode cX3_init 24 = .ok (.putfield 23, 3) := by decide +kernel
theorem dX3_init_27 : decode cX3_init 27 = .ok (.return_, 1) := by decide +kernel
theorem dX3_unpassedMotions_0 : decode cX3_unpassedMotions 0 = .ok (.iconst 1, 1) := by decide +kernel
theorem dX3_unpassedMotions_1 : decode cX3_unpassedMotions 1 = .ok (.aload_n 0, 1) := by decide +kernel
theorem dX3_unpassedMotions_2 : decode cX3_unpassedMotions 2 = .ok (.getfield 15, 3) := by decide +kernel
theorem dX3_unpassedMotions_5 : decode cX3_unpassedMotions 5 = .ok (.getfield 27, 3) := by decide +kernel
theorem dX3_unpassedMotions_8 : decode cX3_unpassedMotions 8 = .ok (.ishl, 1) := by decide +kernel
theorem dX3_unpassedMotions_9 : decode cX3_unpassedMotions 9 = .ok (.iconst 1, 1) := by decide +kernel
theorem dX3_unpassedMotions_10 : decode cX3_unpassedMotions 10 = .ok (.isub, 1) := by decide +kernel
theorem dX3_unpassedMotions_11 : decode cX3_unpassedMotions 11 = .ok (.aload_n 0, 1) := by decide +kernel
theorem dX3_unpassedMotions_12 : decode cX3_unpassedMotions 12 = .ok (.getfield 23, 3) := by decide +kernel
theorem dX3_unpassedMotions_15 : decode cX3_unpassedMotions 15 = .ok (.getfield 33, 3) := by decide +kernel
theorem dX3_unpassedMotions_18 : decode cX3_unpassedMotions 18 = .ok (.iconst (-1), 1) := by decide +kernel
theorem dX3_unpassedMotions_19 : decode cX3_unpassedMotions 19 = .ok (.ixor, 1) := by decide +kernel
theorem dX3_unpassedMotions_20 : decode cX3_unpassedMotions 20 = .ok (.iand, 1) := by decide +kernel
theorem dX3_unpassedMotions_21 : decode cX3_unpassedMotions 21 = .ok (.ireturn, 1) := by decide +kernel
theorem dX3_blockedMotions_0 : decode cX3_blockedMotions 0 = .ok (.iconst 0, 1) := by decide +kernel
theorem dX3_blockedMotions_1 : decode cX3_blockedMotions 1 = .ok (.istore_n 1, 1) := by decide +kernel
theorem dX3_blockedMotions_2 : decode cX3_blockedMotions 2 = .ok (.iconst 0, 1) := by decide +kernel
theorem dX3_blockedMotions_3 : decode cX3_blockedMotions 3 = .ok (.istore_n 2, 1) := by decide +kernel
theorem dX3_blockedMotions_4 : decode cX3_blockedMotions 4 = .ok (.iload_n 2, 1) := by decide +kernel
theorem dX3_blockedMotions_5 : decode cX3_blockedMotions 5 = .ok (.aload_n 0, 1) := by decide +kernel
theorem dX3_blockedMotions_6 : decode cX3_blockedMotions 6 = .ok (.getfield 15, 3) := by decide +kernel
theorem dX3_blockedMotions_9 : decode cX3_blockedMotions 9 = .ok (.getfield 27, 3) := by decide +kernel
theorem dX3_blockedMotions_12 : decode cX3_blockedMotions 12 = .ok (.if_icmp .ge 52, 3) := by decide +kernel
theorem dX3_blockedMotions_15 : decode cX3_blockedMotions 15 = .ok (.aload_n 0, 1) := by decide +kernel
theorem dX3_blockedMotions_16 : decode cX3_blockedMotions 16 = .ok (.getfield 15, 3) := by decide +kernel
theorem dX3_blockedMotions_19 : decode cX3_blockedMotions 19 = .ok (.getfield 38, 3) := by decide +kernel
theorem dX3_blockedMotions_22 : decode cX3_blockedMotions 22 = .ok (.iload_n 2, 1) := by decide +kernel
theorem dX3_blockedMotions_23 : decode cX3_blockedMotions 23 = .ok (.iaload, 1) := by decide +kernel
theorem dX3_blockedMotions_24 : decode cX3_blockedMotions 24 = .ok (.istore_n 3, 1) := by decide +kernel
theorem dX3_blockedMotions_25 : decode cX3_blockedMotions 25 = .ok (.aload_n 0, 1) := by decide +kernel
theorem dX3_blockedMotions_26 : decode cX3_blockedMotions 26 = .ok (.getfield 23, 3) := by decide +kernel
theorem dX3_blockedMotions_29 : decode cX3_blockedMotions 29 = .ok (.iload_n 2, 1) := by decide +kernel
theorem dX3_blockedMotions_30 : decode cX3_blockedMotions 30 = .ok (.invokevirtual 41, 3) := by decide +kernel
theorem dX3_blockedMotions_33 : decode cX3_blockedMotions 33 = .ok (.ifCond .ne 25, 3) := by decide +kernel
theorem dX3_blockedMotions_36 : decode cX3_blockedMotions 36 = .ok (.iload_n 3, 1) := by decide +kernel
theorem dX3_blockedMotions_37 : decode cX3_blockedMotions 37 = .ok (.iconst (-1), 1) := by decide +kernel
theorem dX3_blockedMotions_38 : decode cX3_blockedMotions 38 = .ok (.if_icmp .eq 20, 3) := by decide +kernel
theorem dX3_blockedMotions_41 : decode cX3_blockedMotions 41 = .ok (.aload_n 0, 1) := by decide +kernel
theorem dX3_blockedMotions_42 : decode cX3_blockedMotions 42 = .ok (.getfield 23, 3) := by decide +kernel
theorem dX3_blockedMotions_45 : decode cX3_blockedMotions 45 = .ok (.iload_n 3, 1) := by decide +kernel
theorem dX3_blockedMotions_46 : decode cX3_blockedMotions 46 = .ok (.invokevirtual 41, 3) := by decide +kernel
theorem dX3_blockedMotions_49 : decode cX3_blockedMotions 49 = .ok (.ifCond .ne 9, 3) := by decide +kernel
theorem dX3_blockedMotions_52 : decode cX3_blockedMotions 52 = .ok (.iload_n 1, 1) := by decide +kernel
theorem dX3_blockedMotions_53 : decode cX3_blockedMotions 53 = .ok (.iconst 1, 1) := by decide +kernel
theorem dX3_blockedMotions_54 : decode cX3_blockedMotions 54 = .ok (.iload_n 2, 1) := by decide +kernel
theorem dX3_blockedMotions_55 : decode cX3_blockedMotions 55 = .ok (.ishl, 1) := by decide +kernel
theorem dX3_blockedMotions_56 : decode cX3_blockedMotions 56 = .ok (.ior, 1) := by decide +kernel
theorem dX3_blockedMotions_57 : decode cX3_blockedMotions 57 = .ok (.istore_n 1, 1) := by decide +kernel
theorem dX3_blockedMotions_58 : decode cX3_blockedMotions 58 = .ok (.iinc 2 1, 3) := by decide +kernel
theorem dX3_blockedMotions_61 : decode cX3_blockedMotions 61 = .ok (.goto (-57), 3) := by decide +kernel
theorem dX3_blockedMotions_64 : decode cX3_blockedMotions 64 = .ok (.iload_n 1, 1) := by decide +kernel
theorem dX3_blockedMotions_65 : decode cX3_blockedMotions 65 = .ok (.ireturn, 1) := by decide +kernel
theorem dX3_swayedBy_0 : decode cX3_swayedBy 0 = .ok (.iconst 0, 1) := by decide +kernel
theorem dX3_swayedBy_1 : decode cX3_swayedBy 1 = .ok (.istore_n 2, 1) := by decide +kernel
theorem dX3_swayedBy_2 : decode cX3_swayedBy 2 = .ok (.iconst 0, 1) := by decide +kernel
theorem dX3_swayedBy_3 : decode cX3_swayedBy 3 = .ok (.istore_n 3, 1) := by decide +kernel
theorem dX3_swayedBy_4 : decode cX3_swayedBy 4 = .ok (.iload_n 3, 1) := by decide +kernel
theorem dX3_swayedBy_5 : decode cX3_swayedBy 5 = .ok (.aload_n 0, 1) := by decide +kernel
theorem dX3_swayedBy_6 : decode cX3_swayedBy 6 = .ok (.getfield 15, 3) := by decide +kernel
theorem dX3_swayedBy_9 : decode cX3_swayedBy 9 = .ok (.getfield 27, 3) := by decide +kernel
theorem dX3_swayedBy_12 : decode cX3_swayedBy 12 = .ok (.if_icmp .ge 74, 3) := by decide +kernel
theorem dX3_swayedBy_15 : decode cX3_swayedBy 15 = .ok (.aload_n 0, 1) := by decide +kernel
theorem dX3_swayedBy_16 : decode cX3_swayedBy 16 = .ok (.getfield 23, 3) := by decide +kernel
theorem dX3_swayedBy_19 : decode cX3_swayedBy 19 = .ok (.iload_n 3, 1) := by decide +kernel
theorem dX3_swayedBy_20 : decode cX3_swayedBy 20 = .ok (.invokevirtual 41, 3) := by decide +kernel
theorem dX3_swayedBy_23 : decode cX3_swayedBy 23 = .ok (.ifCond .ne 57, 3) := by decide +kernel
theorem dX3_swayedBy_26 : decode cX3_swayedBy 26 = .ok (.aload_n 0, 1) := by decide +kernel
theorem dX3_swayedBy_27 : decode cX3_swayedBy 27 = .ok (.getfield 19, 3) := by decide +kernel
theorem dX3_swayedBy_30 : decode cX3_swayedBy 30 = .ok (.aload_n 0, 1) := by decide +kernel
theorem dX3_swayedBy_31 : decode cX3_swayedBy 31 = .ok (.getfield 23, 3) := by decide +kernel
theorem dX3_swayedBy_34 : decode cX3_swayedBy 34 = .ok (.iload_n 3, 1) := by decide +kernel
theorem dX3_swayedBy_35 : decode cX3_swayedBy 35 = .ok (.aload_n 0, 1) := by decide +kernel
theorem dX3_swayedBy_36 : decode cX3_swayedBy 36 = .ok (.getfield 23, 3) := by decide +kernel
theorem dX3_swayedBy_39 : decode cX3_swayedBy 39 = .ok (.getfield 45, 3) := by decide +kernel
theorem dX3_swayedBy_42 : decode cX3_swayedBy 42 = .ok (.iload_n 3, 1) := by decide +kernel
theorem dX3_swayedBy_43 : decode cX3_swayedBy 43 = .ok (.iaload, 1) := by decide +kernel
theorem dX3_swayedBy_44 : decode cX3_swayedBy 44 = .ok (.invokevirtual 48, 3) := by decide +kernel
theorem dX3_swayedBy_47 : decode cX3_swayedBy 47 = .ok (.istore 4, 2) := by decide +kernel
theorem dX3_swayedBy_49 : decode cX3_swayedBy 49 = .ok (.aload_n 0, 1) := by decide +kernel
theorem dX3_swayedBy_50 : decode cX3_swayedBy 50 = .ok (.getfield 19, 3) := by decide +kernel
theorem dX3_swayedBy_53 : decode cX3_swayedBy 53 = .ok (.iload 4, 2) := by decide +kernel
theorem dX3_swayedBy_55 : decode cX3_swayedBy 55 = .ok (.invokevirtual 54, 3) := by decide +kernel
theorem dX3_swayedBy_58 : decode cX3_swayedBy 58 = .ok (.aload_n 0, 1) := by decide +kernel
theorem dX3_swayedBy_59 : decode cX3_swayedBy 59 = .ok (.getfield 19, 3) := by decide +kernel
theorem dX3_swayedBy_62 : decode cX3_swayedBy 62 = .ok (.iload 4, 2) := by decide +kernel
theorem dX3_swayedBy_64 : decode cX3_swayedBy 64 = .ok (.iconst 1, 1) := by decide +kernel
theorem dX3_swayedBy_65 : decode cX3_swayedBy 65 = .ok (.iload_n 1, 1) := by decide +kernel
theorem dX3_swayedBy_66 : decode cX3_swayedBy 66 = .ok (.ishl, 1) := by decide +kernel
theorem dX3_swayedBy_67 : decode cX3_swayedBy 67 = .ok (.ixor, 1) := by decide +kernel
theorem dX3_swayedBy_68 : decode cX3_swayedBy 68 = .ok (.invokevirtual 54, 3) := by decide +kernel
theorem dX3_swayedBy_71 : decode cX3_swayedBy 71 = .ok (.if_icmp .eq 9, 3) := by decide +kernel
theorem dX3_swayedBy_74 : decode cX3_swayedBy 74 = .ok (.iload_n 2, 1) := by decide +kernel
theorem dX3_swayedBy_75 : decode cX3_swayedBy 75 = .ok (.iconst 1, 1) := by decide +kernel
theorem dX3_swayedBy_76 : decode cX3_swayedBy 76 = .ok (.iload_n 3, 1) := by decide +kernel
theorem dX3_swayedBy_77 : decode cX3_swayedBy 77 = .ok (.ishl, 1) := by decide +kernel
theorem dX3_swayedBy_78 : decode cX3_swayedBy 78 = .ok (.ior, 1) := by decide +kernel
theorem dX3_swayedBy_79 : decode cX3_swayedBy 79 = .ok (.istore_n 2, 1) := by decide +kernel
theorem dX3_swayedBy_80 : decode cX3_swayedBy 80 = .ok (.iinc 3 1, 3) := by decide +kernel
theorem dX3_swayedBy_83 : decode cX3_swayedBy 83 = .ok (.goto (-79), 3) := by decide +kernel
theorem dX3_swayedBy_86 : decode cX3_swayedBy 86 = .ok (.iload_n 2, 1) := by decide +kernel
theorem dX3_swayedBy_87 : decode cX3_swayedBy 87 = .ok (.ireturn, 1) := by decide +kernel
theorem dX3_votesAlike_0 : decode cX3_votesAlike 0 = .ok (.iconst 0, 1) := by decide +kernel
theorem dX3_votesAlike_1 : decode cX3_votesAlike 1 = .ok (.istore_n 3, 1) := by decide +kernel
theorem dX3_votesAlike_2 : decode cX3_votesAlike 2 = .ok (.iconst 0, 1) := by decide +kernel
theorem dX3_votesAlike_3 : decode cX3_votesAlike 3 = .ok (.istore 4, 2) := by decide +kernel
theorem dX3_votesAlike_5 : decode cX3_votesAlike 5 = .ok (.iload 4, 2) := by decide +kernel
theorem dX3_votesAlike_7 : decode cX3_votesAlike 7 = .ok (.aload_n 0, 1) := by decide +kernel
theorem dX3_votesAlike_8 : decode cX3_votesAlike 8 = .ok (.getfield 15, 3) := by decide +kernel
theorem dX3_votesAlike_11 : decode cX3_votesAlike 11 = .ok (.getfield 27, 3) := by decide +kernel
theorem dX3_votesAlike_14 : decode cX3_votesAlike 14 = .ok (.if_icmp .ge 41, 3) := by decide +kernel
theorem dX3_votesAlike_17 : decode cX3_votesAlike 17 = .ok (.aload_n 0, 1) := by decide +kernel
theorem dX3_votesAlike_18 : decode cX3_votesAlike 18 = .ok (.getfield 23, 3) := by decide +kernel
theorem dX3_votesAlike_21 : decode cX3_votesAlike 21 = .ok (.iload 4, 2) := by decide +kernel
theorem dX3_votesAlike_23 : decode cX3_votesAlike 23 = .ok (.invokevirtual 41, 3) := by decide +kernel
theorem dX3_votesAlike_26 : decode cX3_votesAlike 26 = .ok (.ifCond .ne 23, 3) := by decide +kernel
theorem dX3_votesAlike_29 : decode cX3_votesAlike 29 = .ok (.aload_n 0, 1) := by decide +kernel
theorem dX3_votesAlike_30 : decode cX3_votesAlike 30 = .ok (.iload_n 1, 1) := by decide +kernel
theorem dX3_votesAlike_31 : decode cX3_votesAlike 31 = .ok (.iload 4, 2) := by decide +kernel
theorem dX3_votesAlike_33 : decode cX3_votesAlike 33 = .ok (.invokevirtual 57, 3) := by decide +kernel
theorem dX3_votesAlike_36 : decode cX3_votesAlike 36 = .ok (.aload_n 0, 1) := by decide +kernel
theorem dX3_votesAlike_37 : decode cX3_votesAlike 37 = .ok (.iload_n 2, 1) := by decide +kernel
theorem dX3_votesAlike_38 : decode cX3_votesAlike 38 = .ok (.iload 4, 2) := by decide +kernel
theorem dX3_votesAlike_40 : decode cX3_votesAlike 40 = .ok (.invokevirtual 57, 3) := by decide +kernel
theorem dX3_votesAlike_43 : decode cX3_votesAlike 43 = .ok (.if_icmp .ne 6, 3) := by decide +kernel
theorem dX3_votesAlike_46 : decode cX3_votesAlike 46 = .ok (.iinc 3 1, 3) := by decide +kernel
theorem dX3_votesAlike_49 : decode cX3_votesAlike 49 = .ok (.iinc 4 1, 3) := by decide +kernel
theorem dX3_votesAlike_52 : decode cX3_votesAlike 52 = .ok (.goto (-47), 3) := by decide +kernel
theorem dX3_votesAlike_55 : decode cX3_votesAlike 55 = .ok (.iload_n 3, 1) := by decide +kernel
theorem dX3_votesAlike_56 : decode cX3_votesAlike 56 = .ok (.ireturn, 1) := by decide +kernel
theorem dX3_supports_0 : decode cX3_supports 0 = .ok (.aload_n 0, 1) := by decide +kernel
theorem dX3_supports_1 : decode cX3_supports 1 = .ok (.getfield 19, 3) := by decide +kernel
theorem dX3_supports_4 : decode cX3_supports 4 = .ok (.aload_n 0, 1) := by decide +kernel
theorem dX3_supports_5 : decode cX3_supports 5 = .ok (.getfield 23, 3) := by decide +kernel
theorem dX3_supports_8 : decode cX3_supports 8 = .ok (.iload_n 1, 1) := by decide +kernel
theorem dX3_supports_9 : decode cX3_supports 9 = .ok (.aload_n 0, 1) := by decide +kernel
theorem dX3_supports_10 : decode cX3_supports 10 = .ok (.getfield 23, 3) := by decide +kernel
theorem dX3_supports_13 : decode cX3_supports 13 = .ok (.getfield 61, 3) := by decide +kernel
theorem dX3_supports_16 : decode cX3_supports 16 = .ok (.iload_n 1, 1) := by decide +kernel
theorem dX3_supports_17 : decode cX3_supports 17 = .ok (.iaload, 1) := by decide +kernel
theorem dX3_supports_18 : decode cX3_supports 18 = .ok (.iload_n 2, 1) := by decide +kernel
theorem dX3_supports_19 : decode cX3_supports 19 = .ok (.aload_n 0, 1) := by decide +kernel
theorem dX3_supports_20 : decode cX3_supports 20 = .ok (.getfield 23, 3) := by decide +kernel
theorem dX3_supports_23 : decode cX3_supports 23 = .ok (.getfield 45, 3) := by decide +kernel
theorem dX3_supports_26 : decode cX3_supports 26 = .ok (.iload_n 2, 1) := by decide +kernel
theorem dX3_supports_27 : decode cX3_supports 27 = .ok (.iaload, 1) := by decide +kernel
theorem dX3_supports_28 : decode cX3_supports 28 = .ok (.invokevirtual 64, 3) := by decide +kernel
theorem dX3_supports_31 : decode cX3_supports 31 = .ok (.ireturn, 1) := by decide +kernel
theorem dX3_votesLacking_0 : decode cX3_votesLacking 0 = .ok (.aload_n 0, 1) := by decide +kernel
theorem dX3_votesLacking_1 : decode cX3_votesLacking 1 = .ok (.getfield 15, 3) := by decide +kernel
theorem dX3_votesLacking_4 : decode cX3_votesLacking 4 = .ok (.getfield 68, 3) := by decide +kernel
theorem dX3_votesLacking_7 : decode cX3_votesLacking 7 = .ok (.ifCond .ne 5, 3) := by decide +kernel
theorem dX3_votesLacking_10 : decode cX3_votesLacking 10 = .ok (.iconst 0, 1) := by decide +kernel
theorem dX3_votesLacking_11 : decode cX3_votesLacking 11 = .ok (.ireturn, 1) := by decide +kernel
theorem dX3_votesLacking_12 : decode cX3_votesLacking 12 = .ok (.iconst 0, 1) := by decide +kernel
theorem dX3_votesLacking_13 : decode cX3_votesLacking 13 = .ok (.aload_n 0, 1) := by decide +kernel
theorem dX3_votesLacking_14 : decode cX3_votesLacking 14 = .ok (.getfield 15, 3) := by decide +kernel
theorem dX3_votesLacking_17 : decode cX3_votesLacking 17 = .ok (.getfield 68, 3) := by decide +kernel
theorem dX3_votesLacking_20 : decode cX3_votesLacking 20 = .ok (.iconst 2, 1) := by decide +kernel
theorem dX3_votesLacking_21 : decode cX3_votesLacking 21 = .ok (.idiv, 1) := by decide +kernel
theorem dX3_votesLacking_22 : decode cX3_votesLacking 22 = .ok (.iconst 1, 1) := by decide +kernel
theorem dX3_votesLacking_23 : decode cX3_votesLacking 23 = .ok (.iadd, 1) := by decide +kernel
theorem dX3_votesLacking_24 : decode cX3_votesLacking 24 = .ok (.iload_n 1, 1) := by decide +kernel
theorem dX3_votesLacking_25 : decode cX3_votesLacking 25 = .ok (.invokestatic 71, 3) := by decide +kernel
theorem dX3_votesLacking_28 : decode cX3_votesLacking 28 = .ok (.isub, 1) := by decide +kernel
theorem dX3_votesLacking_29 : decode cX3_votesLacking 29 = .ok (.invokestatic 77, 3) := by decide +kernel
theorem dX3_votesLacking_32 : decode cX3_votesLacking 32 = .ok (.ireturn, 1) := by decide +kernel
theorem dX3_leastBribery_0 : decode cX3_leastBribery 0 = .ok (.aload_n 0, 1) := by decide +kernel
theorem dX3_leastBribery_1 : decode cX3_leastBribery 1 = .ok (.getfield 15, 3) := by decide +kernel
theorem dX3_leastBribery_4 : decode cX3_leastBribery 4 = .ok (.getfield 68, 3) := by decide +kernel
theorem dX3_leastBribery_7 : decode cX3_leastBribery 7 = .ok (.ifCond .ne 5, 3) := by decide +kernel
theorem dX3_leastBribery_10 : decode cX3_leastBribery 10 = .ok (.iconst (-1), 1) := by decide +kernel
theorem dX3_leastBribery_11 : decode cX3_leastBribery 11 = .ok (.ireturn, 1) := by decide +kernel
theorem dX3_leastBribery_12 : decode cX3_leastBribery 12 = .ok (.iconst 0, 1) := by decide +kernel
theorem dX3_leastBribery_13 : decode cX3_leastBribery 13 = .ok (.istore_n 3, 1) := by decide +kernel
theorem dX3_leastBribery_14 : decode cX3_leastBribery 14 = .ok (.iload_n 3, 1) := by decide +kernel
theorem dX3_leastBribery_15 : decode cX3_leastBribery 15 = .ok (.aload_n 0, 1) := by decide +kernel
theorem dX3_leastBribery_16 : decode cX3_leastBribery 16 = .ok (.getfield 15, 3) := by decide +kernel
theorem dX3_leastBribery_19 : decode cX3_leastBribery 19 = .ok (.getfield 68, 3) := by decide +kernel
theorem dX3_leastBribery_22 : decode cX3_leastBribery 22 = .ok (.if_icmp .ge 22, 3) := by decide +kernel
theorem dX3_leastBribery_25 : decode cX3_leastBribery 25 = .ok (.aload_n 0, 1) := by decide +kernel
theorem dX3_leastBribery_26 : decode cX3_leastBribery 26 = .ok (.getfield 9, 3) := by decide +kernel
theorem dX3_leastBribery_29 : decode cX3_leastBribery 29 = .ok (.iload_n 3, 1) := by decide +kernel
theorem dX3_leastBribery_30 : decode cX3_leastBribery 30 = .ok (.aload_n 0, 1) := by decide +kernel
theorem dX3_leastBribery_31 : decode cX3_leastBribery 31 = .ok (.iload_n 3, 1) := by decide +kernel
theorem dX3_leastBribery_32 : decode cX3_leastBribery 32 = .ok (.iload_n 1, 1) := by decide +kernel
theorem dX3_leastBribery_33 : decode cX3_leastBribery 33 = .ok (.iload_n 2, 1) := by decide +kernel
theorem dX3_leastBribery_34 : decode cX3_leastBribery 34 = .ok (.invokevirtual 83, 3) := by decide +kernel
theorem dX3_leastBribery_37 : decode cX3_leastBribery 37 = .ok (.iastore, 1) := by decide +kernel
theorem dX3_leastBribery_38 : decode cX3_leastBribery 38 = .ok (.iinc 3 1, 3) := by decide +kernel
theorem dX3_leastBribery_41 : decode cX3_leastBribery 41 = .ok (.goto (-27), 3) := by decide +kernel
theorem dX3_leastBribery_44 : decode cX3_leastBribery 44 = .ok (.iconst 0, 1) := by decide +kernel
theorem dX3_leastBribery_45 : decode cX3_leastBribery 45 = .ok (.istore_n 3, 1) := by decide +kernel
theorem dX3_leastBribery_46 : decode cX3_leastBribery 46 = .ok (.aload_n 0, 1) := by decide +kernel
theorem dX3_leastBribery_47 : decode cX3_leastBribery 47 = .ok (.getfield 15, 3) := by decide +kernel
theorem dX3_leastBribery_50 : decode cX3_leastBribery 50 = .ok (.getfield 68, 3) := by decide +kernel
theorem dX3_leastBribery_53 : decode cX3_leastBribery 53 = .ok (.iconst 2, 1) := by decide +kernel
theorem dX3_leastBribery_54 : decode cX3_leastBribery 54 = .ok (.idiv, 1) := by decide +kernel
theorem dX3_leastBribery_55 : decode cX3_leastBribery 55 = .ok (.iconst 1, 1) := by decide +kernel
theorem dX3_leastBribery_56 : decode cX3_leastBribery 56 = .ok (.iadd, 1) := by decide +kernel
theorem dX3_leastBribery_57 : decode cX3_leastBribery 57 = .ok (.istore 4, 2) := by decide +kernel
theorem dX3_leastBribery_59 : decode cX3_leastBribery 59 = .ok (.iload 4, 2) := by decide +kernel
theorem dX3_leastBribery_61 : decode cX3_leastBribery 61 = .ok (.ifCond .le 28, 3) := by decide +kernel
theorem dX3_leastBribery_64 : decode cX3_leastBribery 64 = .ok (.aload_n 0, 1) := by decide +kernel
theorem dX3_leastBribery_65 : decode cX3_leastBribery 65 = .ok (.invokevirtual 87, 3) := by decide +kernel
theorem dX3_leastBribery_68 : decode cX3_leastBribery 68 = .ok (.istore 5, 2) := by decide +kernel
theorem dX3_leastBribery_70 : decode cX3_leastBribery 70 = .ok (.iload 5, 2) := by decide +kernel
theorem dX3_leastBribery_72 : decode cX3_leastBribery 72 = .ok (.iconst (-1), 1) := by decide +kernel
theorem dX3_leastBribery_73 : decode cX3_leastBribery 73 = .ok (.if_icmp .ne 5, 3) := by decide +kernel
theorem dX3_leastBribery_76 : decode cX3_leastBribery 76 = .ok (.iconst (-1), 1) := by decide +kernel
theorem dX3_leastBribery_77 : decode cX3_leastBribery 77 = .ok (.ireturn, 1) := by decide +kernel
theorem dX3_leastBribery_78 : decode cX3_leastBribery 78 = .ok (.iload_n 3, 1) := by decide +kernel
theorem dX3_leastBribery_79 : decode cX3_leastBribery 79 = .ok (.iload 5, 2) := by decide +kernel
theorem dX3_leastBribery_81 : decode cX3_leastBribery 81 = .ok (.iadd, 1) := by decide +kernel
theorem dX3_leastBribery_82 : decode cX3_leastBribery 82 = .ok (.istore_n 3, 1) := by decide +kernel
theorem dX3_leastBribery_83 : decode cX3_leastBribery 83 = .ok (.iinc 4 (-1), 3) := by decide +kernel
theorem dX3_leastBribery_86 : decode cX3_leastBribery 86 = .ok (.goto (-27), 3) := by decide +kernel
theorem dX3_leastBribery_89 : decode cX3_leastBribery 89 = .ok (.iload_n 3, 1) := by decide +kernel
theorem dX3_leastBribery_90 : decode cX3_leastBribery 90 = .ok (.ireturn, 1) := by decide +kernel
theorem dX3_priceOf_0 : decode cX3_priceOf 0 = .ok (.aload_n 0, 1) := by decide +kernel
theorem dX3_priceOf_1 : decode cX3_priceOf 1 = .ok (.getfield 23, 3) := by decide +kernel
theorem dX3_priceOf_4 : decode cX3_priceOf 4 = .ok (.getfield 61, 3) := by decide +kernel
theorem dX3_priceOf_7 : decode cX3_priceOf 7 = .ok (.iload_n 1, 1) := by decide +kernel
theorem dX3_priceOf_8 : decode cX3_priceOf 8 = .ok (.iaload, 1) := by decide +kernel
theorem dX3_priceOf_9 : decode cX3_priceOf 9 = .ok (.istore 4, 2) := by decide +kernel
theorem dX3_priceOf_11 : decode cX3_priceOf 11 = .ok (.iconst 0, 1) := by decide +kernel
theorem dX3_priceOf_12 : decode cX3_priceOf 12 = .ok (.istore 5, 2) := by decide +kernel
theorem dX3_priceOf_14 : decode cX3_priceOf 14 = .ok (.iload 5, 2) := by decide +kernel
theorem dX3_priceOf_16 : decode cX3_priceOf 16 = .ok (.bipush 9, 2) := by decide +kernel
theorem dX3_priceOf_18 : decode cX3_priceOf 18 = .ok (.iload 4, 2) := by decide +kernel
theorem dX3_priceOf_20 : decode cX3_priceOf 20 = .ok (.isub, 1) := by decide +kernel
theorem dX3_priceOf_21 : decode cX3_priceOf 21 = .ok (.if_icmp .gt 34, 3) := by decide +kernel
theorem dX3_priceOf_24 : decode cX3_priceOf 24 = .ok (.aload_n 0, 1) := by decide +kernel
theorem dX3_priceOf_25 : decode cX3_priceOf 25 = .ok (.getfield 19, 3) := by decide +kernel
theorem dX3_priceOf_28 : decode cX3_priceOf 28 = .ok (.aload_n 0, 1) := by decide +kernel
theorem dX3_priceOf_29 : decode cX3_priceOf 29 = .ok (.getfield 23, 3) := by decide +kernel
theorem dX3_priceOf_32 : decode cX3_priceOf 32 = .ok (.iload_n 1, 1) := by decide +kernel
theorem dX3_priceOf_33 : decode cX3_priceOf 33 = .ok (.iload 4, 2) := by decide +kernel
theorem dX3_priceOf_35 : decode cX3_priceOf 35 = .ok (.iload 5, 2) := by decide +kernel
theorem dX3_priceOf_37 : decode cX3_priceOf 37 = .ok (.iadd, 1) := by decide +kernel
theorem dX3_priceOf_38 : decode cX3_priceOf 38 = .ok (.iload_n 2, 1) := by decide +kernel
theorem dX3_priceOf_39 : decode cX3_priceOf 39 = .ok (.iload_n 3, 1) := by decide +kernel
theorem dX3_priceOf_40 : decode cX3_priceOf 40 = .ok (.invokevirtual 64, 3) := by decide +kernel
theorem dX3_priceOf_43 : decode cX3_priceOf 43 = .ok (.ifCond .eq 6, 3) := by decide +kernel
theorem dX3_priceOf_46 : decode cX3_priceOf 46 = .ok (.iload 5, 2) := by decide +kernel
theorem dX3_priceOf_48 : decode cX3_priceOf 48 = .ok (.ireturn, 1) := by decide +kernel
theorem dX3_priceOf_49 : decode cX3_priceOf 49 = .ok (.iinc 5 1, 3) := by decide +kernel
theorem dX3_priceOf_52 : decode cX3_priceOf 52 = .ok (.goto (-38), 3) := by decide +kernel
theorem dX3_priceOf_55 : decode cX3_priceOf 55 = .ok (.iconst (-1), 1) := by decide +kernel
theorem dX3_priceOf_56 : decode cX3_priceOf 56 = .ok (.ireturn, 1) := by decide +kernel
theorem dX3_takeCheapest_0 : decode cX3_takeCheapest 0 = .ok (.iconst (-1), 1) := by decide +kernel
theorem dX3_takeCheapest_1 : decode cX3_takeCheapest 1 = .ok (.istore_n 1, 1) := by decide +kernel
theorem dX3_takeCheapest_2 : decode cX3_takeCheapest 2 = .ok (.iconst 0, 1) := by decide +kernel
theorem dX3_takeCheapest_3 : decode cX3_takeCheapest 3 = .ok (.istore_n 2, 1) := by decide +kernel
theorem dX3_takeCheapest_4 : decode cX3_takeCheapest 4 = .ok (.iload_n 2, 1) := by decide +kernel
theorem dX3_takeCheapest_5 : decode cX3_takeCheapest 5 = .ok (.aload_n 0, 1) := by decide +kernel
theorem dX3_takeCheapest_6 : decode cX3_takeCheapest 6 = .ok (.getfield 15, 3) := by decide +kernel
theorem dX3_takeCheapest_9 : decode cX3_takeCheapest 9 = .ok (.getfield 68, 3) := by decide +kernel
theorem dX3_takeCheapest_12 : decode cX3_takeCheapest 12 = .ok (.if_icmp .ge 41, 3) := by decide +kernel
theorem dX3_takeCheapest_15 : decode cX3_takeCheapest 15 = .ok (.aload_n 0, 1) := by decide +kernel
theorem dX3_takeCheapest_16 : decode cX3_takeCheapest 16 = .ok (.getfield 9, 3) := by decide +kernel
theorem dX3_takeCheapest_19 : decode cX3_takeCheapest 19 = .ok (.iload_n 2, 1) := by decide +kernel
theorem dX3_takeCheapest_20 : decode cX3_takeCheapest 20 = .ok (.iaload, 1) := by decide +kernel
theorem dX3_takeCheapest_21 : decode cX3_takeCheapest 21 = .ok (.iconst (-1), 1) := by decide +kernel
theorem dX3_takeCheapest_22 : decode cX3_takeCheapest 22 = .ok (.if_icmp .eq 25, 3) := by decide +kernel
theorem dX3_takeCheapest_25 : decode cX3_takeCheapest 25 = .ok (.iload_n 1, 1) := by decide +kernel
theorem dX3_takeCheapest_26 : decode cX3_takeCheapest 26 = .ok (.iconst (-1), 1) := by decide +kernel
theorem dX3_takeCheapest_27 : decode cX3_takeCheapest 27 = .ok (.if_icmp .eq 18, 3) := by decide +kernel
theorem dX3_takeCheapest_30 : decode cX3_takeCheapest 30 = .ok (.aload_n 0, 1) := by decide +kernel
theorem dX3_takeCheapest_31 : decode cX3_takeCheapest 31 = .ok (.getfield 9, 3) := by decide +kernel
theorem dX3_takeCheapest_34 : decode cX3_takeCheapest 34 = .ok (.iload_n 2, 1) := by decide +kernel
theorem dX3_takeCheapest_35 : decode cX3_takeCheapest 35 = .ok (.iaload, 1) := by decide +kernel
theorem dX3_takeCheapest_36 : decode cX3_takeCheapest 36 = .ok (.aload_n 0, 1) := by decide +kernel
theorem dX3_takeCheapest_37 : decode cX3_takeCheapest 37 = .ok (.getfield 9, 3) := by decide +kernel
theorem dX3_takeCheapest_40 : decode cX3_takeCheapest 40 = .ok (.iload_n 1, 1) := by decide +kernel
theorem dX3_takeCheapest_41 : decode cX3_takeCheapest 41 = .ok (.iaload, 1) := by decide +kernel
theorem dX3_takeCheapest_42 : decode cX3_takeCheapest 42 = .ok (.if_icmp .ge 5, 3) := by decide +kernel
theorem dX3_takeCheapest_45 : decode cX3_takeCheapest 45 = .ok (.iload_n 2, 1) := by decide +kernel
theorem dX3_takeCheapest_46 : decode cX3_takeCheapest 46 = .ok (.istore_n 1, 1) := by decide +kernel
theorem dX3_takeCheapest_47 : decode cX3_takeCheapest 47 = .ok (.iinc 2 1, 3) := by decide +kernel
theorem dX3_takeCheapest_50 : decode cX3_takeCheapest 50 = .ok (.goto (-46), 3) := by decide +kernel
theorem dX3_takeCheapest_53 : decode cX3_takeCheapest 53 = .ok (.iload_n 1, 1) := by decide +kernel
theorem dX3_takeCheapest_54 : decode cX3_takeCheapest 54 = .ok (.iconst (-1), 1) := by decide +kernel
theorem dX3_takeCheapest_55 : decode cX3_takeCheapest 55 = .ok (.if_icmp .ne 5, 3) := by decide +kernel
theorem dX3_takeCheapest_58 : decode cX3_takeCheapest 58 = .ok (.iconst (-1), 1) := by decide +kernel
theorem dX3_takeCheapest_59 : decode cX3_takeCheapest 59 = .ok (.ireturn, 1) := by decide +kernel
theorem dX3_takeCheapest_60 : decode cX3_takeCheapest 60 = .ok (.aload_n 0, 1) := by decide +kernel
theorem dX3_takeCheapest_61 : decode cX3_takeCheapest 61 = .ok (.getfield 9, 3) := by decide +kernel
theorem dX3_takeCheapest_64 : decode cX3_takeCheapest 64 = .ok (.iload_n 1, 1) := by decide +kernel
theorem dX3_takeCheapest_65 : decode cX3_takeCheapest 65 = .ok (.iaload, 1) := by decide +kernel
theorem dX3_takeCheapest_66 : decode cX3_takeCheapest 66 = .ok (.istore_n 2, 1) := by decide +kernel
theorem dX3_takeCheapest_67 : decode cX3_takeCheapest 67 = .ok (.aload_n 0, 1) := by decide +kernel
theorem dX3_takeCheapest_68 : decode cX3_takeCheapest 68 = .ok (.getfield 9, 3) := by decide +kernel
theorem dX3_takeCheapest_71 : decode cX3_takeCheapest 71 = .ok (.iload_n 1, 1) := by decide +kernel
theorem dX3_takeCheapest_72 : decode cX3_takeCheapest 72 = .ok (.iconst (-1), 1) := by decide +kernel
theorem dX3_takeCheapest_73 : decode cX3_takeCheapest 73 = .ok (.iastore, 1) := by decide +kernel
theorem dX3_takeCheapest_74 : decode cX3_takeCheapest 74 = .ok (.iload_n 2, 1) := by decide +kernel
theorem dX3_takeCheapest_75 : decode cX3_takeCheapest 75 = .ok (.ireturn, 1) := by decide +kernel
theorem dX3_bestOrder_0 : decode cX3_bestOrder 0 = .ok (.iconst 0, 1) := by decide +kernel
theorem dX3_bestOrder_1 : decode cX3_bestOrder 1 = .ok (.istore_n 1, 1) := by decide +kernel
theorem dX3_bestOrder_2 : decode cX3_bestOrder 2 = .ok (.iconst 1, 1) := by decide +kernel
theorem dX3_bestOrder_3 : decode cX3_bestOrder 3 = .ok (.istore_n 2, 1) := by decide +kernel
theorem dX3_bestOrder_4 : decode cX3_bestOrder 4 = .ok (.iload_n 2, 1) := by decide +kernel
theorem dX3_bestOrder_5 : decode cX3_bestOrder 5 = .ok (.iconst 1, 1) := by decide +kernel
theorem dX3_bestOrder_6 : decode cX3_bestOrder 6 = .ok (.aload_n 0, 1) := by decide +kernel
theorem dX3_bestOrder_7 : decode cX3_bestOrder 7 = .ok (.getfield 15, 3) := by decide +kernel
theorem dX3_bestOrder_10 : decode cX3_bestOrder 10 = .ok (.getfield 27, 3) := by decide +kernel
theorem dX3_bestOrder_13 : decode cX3_bestOrder 13 = .ok (.ishl, 1) := by decide +kernel
theorem dX3_bestOrder_14 : decode cX3_bestOrder 14 = .ok (.if_icmp .ge 28, 3) := by decide +kernel
theorem dX3_bestOrder_17 : decode cX3_bestOrder 17 = .ok (.aload_n 0, 1) := by decide +kernel
theorem dX3_bestOrder_18 : decode cX3_bestOrder 18 = .ok (.iload_n 2, 1) := by decide +kernel
theorem dX3_bestOrder_19 : decode cX3_bestOrder 19 = .ok (.invokevirtual 91, 3) := by decide +kernel
theorem dX3_bestOrder_22 : decode cX3_bestOrder 22 = .ok (.ifCond .eq 14, 3) := by decide +kernel
theorem dX3_bestOrder_25 : decode cX3_bestOrder 25 = .ok (.aload_n 0, 1) := by decide +kernel
theorem dX3_bestOrder_26 : decode cX3_bestOrder 26 = .ok (.iload_n 2, 1) := by decide +kernel
theorem dX3_bestOrder_27 : decode cX3_bestOrder 27 = .ok (.iload_n 1, 1) := by decide +kernel
theorem dX3_bestOrder_28 : decode cX3_bestOrder 28 = .ok (.invokevirtual 94, 3) := by decide +kernel
theorem dX3_bestOrder_31 : decode cX3_bestOrder 31 = .ok (.ifCond .eq 5, 3) := by decide +kernel
theorem dX3_bestOrder_34 : decode cX3_bestOrder 34 = .ok (.iload_n 2, 1) := by decide +kernel
theorem dX3_bestOrder_35 : decode cX3_bestOrder 35 = .ok (.istore_n 1, 1) := by decide +kernel
theorem dX3_bestOrder_36 : decode cX3_bestOrder 36 = .ok (.iinc 2 1, 3) := by decide +kernel
theorem dX3_bestOrder_39 : decode cX3_bestOrder 39 = .ok (.goto (-35), 3) := by decide +kernel
theorem dX3_bestOrder_42 : decode cX3_bestOrder 42 = .ok (.iload_n 1, 1) := by decide +kernel
theorem dX3_bestOrder_43 : decode cX3_bestOrder 43 = .ok (.ireturn, 1) := by decide +kernel
theorem dX3_isOrder_0 : decode cX3_isOrder 0 = .ok (.iconst 0, 1) := by decide +kernel
theorem dX3_isOrder_1 : decode cX3_isOrder 1 = .ok (.istore_n 2, 1) := by decide +kernel
theorem dX3_isOrder_2 : decode cX3_isOrder 2 = .ok (.iconst 0, 1) := by decide +kernel
theorem dX3_isOrder_3 : decode cX3_isOrder 3 = .ok (.istore_n 3, 1) := by decide +kernel
theorem dX3_isOrder_4 : decode cX3_isOrder 4 = .ok (.iload_n 3, 1) := by decide +kernel
theorem dX3_isOrder_5 : decode cX3_isOrder 5 = .ok (.aload_n 0, 1) := by decide +kernel
theorem dX3_isOrder_6 : decode cX3_isOrder 6 = .ok (.getfield 15, 3) := by decide +kernel
theorem dX3_isOrder_9 : decode cX3_isOrder 9 = .ok (.getfield 27, 3) := by decide +kernel
theorem dX3_isOrder_12 : decode cX3_isOrder 12 = .ok (.if_icmp .ge 76, 3) := by decide +kernel
theorem dX3_isOrder_15 : decode cX3_isOrder 15 = .ok (.iload_n 1, 1) := by decide +kernel
theorem dX3_isOrder_16 : decode cX3_isOrder 16 = .ok (.iload_n 3, 1) := by decide +kernel
theorem dX3_isOrder_17 : decode cX3_isOrder 17 = .ok (.ishr, 1) := by decide +kernel
theorem dX3_isOrder_18 : decode cX3_isOrder 18 = .ok (.iconst 1, 1) := by decide +kernel
theorem dX3_isOrder_19 : decode cX3_isOrder 19 = .ok (.iand, 1) := by decide +kernel
theorem dX3_isOrder_20 : decode cX3_isOrder 20 = .ok (.iconst 1, 1) := by decide +kernel
theorem dX3_isOrder_21 : decode cX3_isOrder 21 = .ok (.if_icmp .ne 61, 3) := by decide +kernel
theorem dX3_isOrder_24 : decode cX3_isOrder 24 = .ok (.aload_n 0, 1) := by decide +kernel
theorem dX3_isOrder_25 : decode cX3_isOrder 25 = .ok (.getfield 15, 3) := by decide +kernel
theorem dX3_isOrder_28 : decode cX3_isOrder 28 = .ok (.getfield 38, 3) := by decide +kernel
theorem dX3_isOrder_31 : decode cX3_isOrder 31 = .ok (.iload_n 3, 1) := by decide +kernel
theorem dX3_isOrder_32 : decode cX3_isOrder 32 = .ok (.iaload, 1) := by decide +kernel
theorem dX3_isOrder_33 : decode cX3_isOrder 33 = .ok (.istore 4, 2) := by decide +kernel
theorem dX3_isOrder_35 : decode cX3_isOrder 35 = .ok (.aload_n 0, 1) := by decide +kernel
theorem dX3_isOrder_36 : decode cX3_isOrder 36 = .ok (.getfield 23, 3) := by decide +kernel
theorem dX3_isOrder_39 : decode cX3_isOrder 39 = .ok (.iload_n 3, 1) := by decide +kernel
theorem dX3_isOrder_40 : decode cX3_isOrder 40 = .ok (.invokevirtual 41, 3) := by decide +kernel
theorem dX3_isOrder_43 : decode cX3_isOrder 43 = .ok (.ifCond .ne 26, 3) := by decide +kernel
theorem dX3_isOrder_46 : decode cX3_isOrder 46 = .ok (.iload 4, 2) := by decide +kernel
theorem dX3_isOrder_48 : decode cX3_isOrder 48 = .ok (.iconst (-1), 1) := by decide +kernel
theorem dX3_isOrder_49 : decode cX3_isOrder 49 = .ok (.if_icmp .eq 22, 3) := by decide +kernel
theorem dX3_isOrder_52 : decode cX3_isOrder 52 = .ok (.iload_n 1, 1) := by decide +kernel
theorem dX3_isOrder_53 : decode cX3_isOrder 53 = .ok (.aload_n 0, 1) := by decide +kernel
theorem dX3_isOrder_54 : decode cX3_isOrder 54 = .ok (.getfield 23, 3) := by decide +kernel
theorem dX3_isOrder_57 : decode cX3_isOrder 57 = .ok (.getfield 33, 3) := by decide +kernel
theorem dX3_isOrder_60 : decode cX3_isOrder 60 = .ok (.ior, 1) := by decide +kernel
theorem dX3_isOrder_61 : decode cX3_isOrder 61 = .ok (.iload 4, 2) := by decide +kernel
theorem dX3_isOrder_63 : decode cX3_isOrder 63 = .ok (.ishr, 1) := by decide +kernel
theorem dX3_isOrder_64 : decode cX3_isOrder 64 = .ok (.iconst 1, 1) := by decide +kernel
theorem dX3_isOrder_65 : decode cX3_isOrder 65 = .ok (.iand, 1) := by decide +kernel
theorem dX3_isOrder_66 : decode cX3_isOrder 66 = .ok (.ifCond .ne 5, 3) := by decide +kernel
theorem dX3_isOrder_69 : decode cX3_isOrder 69 = .ok (.iconst 0, 1) := by decide +kernel
theorem dX3_isOrder_70 : decode cX3_isOrder 70 = .ok (.ireturn, 1) := by decide +kernel
theorem dX3_isOrder_71 : decode cX3_isOrder 71 = .ok (.iload_n 2, 1) := by decide +kernel
theorem dX3_isOrder_72 : decode cX3_isOrder 72 = .ok (.aload_n 0, 1) := by decide +kernel
theorem dX3_isOrder_73 : decode cX3_isOrder 73 = .ok (.getfield 15, 3) := by decide +kernel
theorem dX3_isOrder_76 : decode cX3_isOrder 76 = .ok (.iload_n 3, 1) := by decide +kernel
theorem dX3_isOrder_77 : decode cX3_isOrder 77 = .ok (.invokevirtual 97, 3) := by decide +kernel
theorem dX3_isOrder_80 : decode cX3_isOrder 80 = .ok (.iadd, 1) := by decide +kernel
theorem dX3_isOrder_81 : decode cX3_isOrder 81 = .ok (.istore_n 2, 1) := by decide +kernel
theorem dX3_isOrder_82 : decode cX3_isOrder 82 = .ok (.iinc 3 1, 3) := by decide +kernel
theorem dX3_isOrder_85 : decode cX3_isOrder 85 = .ok (.goto (-81), 3) := by decide +kernel
theorem dX3_isOrder_88 : decode cX3_isOrder 88 = .ok (.iload_n 2, 1) := by decide +kernel
theorem dX3_isOrder_89 : decode cX3_isOrder 89 = .ok (.aload_n 0, 1) := by decide +kernel
theorem dX3_isOrder_90 : decode cX3_isOrder 90 = .ok (.getfield 23, 3) := by decide +kernel
theorem dX3_isOrder_93 : decode cX3_isOrder 93 = .ok (.getfield 100, 3) := by decide +kernel
theorem dX3_isOrder_96 : decode cX3_isOrder 96 = .ok (.if_icmp .gt 7, 3) := by decide +kernel
theorem dX3_isOrder_99 : decode cX3_isOrder 99 = .ok (.iconst 1, 1) := by decide +kernel
theorem dX3_isOrder_100 : decode cX3_isOrder 100 = .ok (.goto 4, 3) := by decide +kernel
theorem dX3_isOrder_103 : decode cX3_isOrder 103 = .ok (.iconst 0, 1) := by decide +kernel
theorem dX3_isOrder_104 : decode cX3_isOrder 104 = .ok (.ireturn, 1) := by decide +kernel
theorem dX3_isBetter_0 : decode cX3_isBetter 0 = .ok (.aload_n 0, 1) := by decide +kernel
theorem dX3_isBetter_1 : decode cX3_isBetter 1 = .ok (.iload_n 1, 1) := by decide +kernel
theorem dX3_isBetter_2 : decode cX3_isBetter 2 = .ok (.invokevirtual 103, 3) := by decide +kernel
theorem dX3_isBetter_5 : decode cX3_isBetter 5 = .ok (.aload_n 0, 1) := by decide +kernel
theorem dX3_isBetter_6 : decode cX3_isBetter 6 = .ok (.iload_n 2, 1) := by decide +kernel
theorem dX3_isBetter_7 : decode cX3_isBetter 7 = .ok (.invokevirtual 103, 3) := by decide +kernel
theorem dX3_isBetter_10 : decode cX3_isBetter 10 = .ok (.isub, 1) := by decide +kernel
theorem dX3_isBetter_11 : decode cX3_isBetter 11 = .ok (.istore_n 3, 1) := by decide +kernel
theorem dX3_isBetter_12 : decode cX3_isBetter 12 = .ok (.iload_n 3, 1) := by decide +kernel
theorem dX3_isBetter_13 : decode cX3_isBetter 13 = .ok (.ifCond .gt 18, 3) := by decide +kernel
theorem dX3_isBetter_16 : decode cX3_isBetter 16 = .ok (.iload_n 3, 1) := by decide +kernel
theorem dX3_isBetter_17 : decode cX3_isBetter 17 = .ok (.ifCond .ne 18, 3) := by decide +kernel
theorem dX3_isBetter_20 : decode cX3_isBetter 20 = .ok (.iload_n 1, 1) := by decide +kernel
theorem dX3_isBetter_21 : decode cX3_isBetter 21 = .ok (.invokestatic 71, 3) := by decide +kernel
theorem dX3_isBetter_24 : decode cX3_isBetter 24 = .ok (.iload_n 2, 1) := by decide +kernel
theorem dX3_isBetter_25 : decode cX3_isBetter 25 = .ok (.invokestatic 71, 3) := by decide +kernel
theorem dX3_isBetter_28 : decode cX3_isBetter 28 = .ok (.if_icmp .ge 7, 3) := by decide +kernel
theorem dX3_isBetter_31 : decode cX3_isBetter 31 = .ok (.iconst 1, 1) := by decide +kernel
theorem dX3_isBetter_32 : decode cX3_isBetter 32 = .ok (.goto 4, 3) := by decide +kernel
theorem dX3_isBetter_35 : decode cX3_isBetter 35 = .ok (.iconst 0, 1) := by decide +kernel
theorem dX3_isBetter_36 : decode cX3_isBetter 36 = .ok (.ireturn, 1) := by decide +kernel
theorem dX3_joyOf_0 : decode cX3_joyOf 0 = .ok (.iconst 0, 1) := by decide +kernel
theorem dX3_joyOf_1 : decode cX3_joyOf 1 = .ok (.istore_n 2, 1) := by decide +kernel
theorem dX3_joyOf_2 : decode cX3_joyOf 2 = .ok (.iconst 0, 1) := by decide +kernel
theorem dX3_joyOf_3 : decode cX3_joyOf 3 = .ok (.istore_n 3, 1) := by decide +kernel
theorem dX3_joyOf_4 : decode cX3_joyOf 4 = .ok (.iload_n 3, 1) := by decide +kernel
theorem dX3_joyOf_5 : decode cX3_joyOf 5 = .ok (.aload_n 0, 1) := by decide +kernel
theorem dX3_joyOf_6 : decode cX3_joyOf 6 = .ok (.getfield 15, 3) := by decide +kernel
theorem dX3_joyOf_9 : decode cX3_joyOf 9 = .ok (.getfield 27, 3) := by decide +kernel
theorem dX3_joyOf_12 : decode cX3_joyOf 12 = .ok (.if_icmp .ge 29, 3) := by decide +kernel
theorem dX3_joyOf_15 : decode cX3_joyOf 15 = .ok (.iload_n 1, 1) := by decide +kernel
theorem dX3_joyOf_16 : decode cX3_joyOf 16 = .ok (.iload_n 3, 1) := by decide +kernel
theorem dX3_joyOf_17 : decode cX3_joyOf 17 = .ok (.ishr, 1) := by decide +kernel
theorem dX3_joyOf_18 : decode cX3_joyOf 18 = .ok (.iconst 1, 1) := by decide +kernel
theorem dX3_joyOf_19 : decode cX3_joyOf 19 = .ok (.iand, 1) := by decide +kernel
theorem dX3_joyOf_20 : decode cX3_joyOf 20 = .ok (.iconst 1, 1) := by decide +kernel
theorem dX3_joyOf_21 : decode cX3_joyOf 21 = .ok (.if_icmp .ne 14, 3) := by decide +kernel
theorem dX3_joyOf_24 : decode cX3_joyOf 24 = .ok (.iload_n 2, 1) := by decide +kernel
theorem dX3_joyOf_25 : decode cX3_joyOf 25 = .ok (.aload_n 0, 1) := by decide +kernel
theorem dX3_joyOf_26 : decode cX3_joyOf 26 = .ok (.getfield 15, 3) := by decide +kernel
theorem dX3_joyOf_29 : decode cX3_joyOf 29 = .ok (.iload_n 3, 1) := by decide +kernel
theorem dX3_joyOf_30 : decode cX3_joyOf 30 = .ok (.invokevirtual 106, 3) := by decide +kernel
theorem dX3_joyOf_33 : decode cX3_joyOf 33 = .ok (.iadd, 1) := by decide +kernel
theorem dX3_joyOf_34 : decode cX3_joyOf 34 = .ok (.istore_n 2, 1) := by decide +kernel
theorem dX3_joyOf_35 : decode cX3_joyOf 35 = .ok (.iinc 3 1, 3) := by decide +kernel
theorem dX3_joyOf_38 : decode cX3_joyOf 38 = .ok (.goto (-34), 3) := by decide +kernel
theorem dX3_joyOf_41 : decode cX3_joyOf 41 = .ok (.iload_n 2, 1) := by decide +kernel
theorem dX3_joyOf_42 : decode cX3_joyOf 42 = .ok (.ireturn, 1) := by decide +kernel
theorem dX3_restingCouples_0 : decode cX3_restingCouples 0 = .ok (.aload_n 0, 1) := by decide +kernel
theorem dX3_restingCouples_1 : decode cX3_restingCouples 1 = .ok (.getfield 19, 3) := by decide +kernel
theorem dX3_restingCouples_4 : decode cX3_restingCouples 4 = .ok (.aload_n 0, 1) := by decide +kernel
theorem dX3_restingCouples_5 : decode cX3_restingCouples 5 = .ok (.getfield 23, 3) := by decide +kernel
