theorem dX9_heldUp_32 : decode cX9_heldUp 32 = .ok (.bipush 48, 2) := by decide +kernel
theorem dX9_heldUp_34 : decode cX9_heldUp 34 = .ok (.invokevirtual 434, 3) := by decide +kernel
theorem dX9_heldUp_37 : decode cX9_heldUp 37 = .ok (.istore_n 3, 1) := by decide +kernel
theorem dX9_heldUp_38 : decode cX9_heldUp 38 = .ok (.aload_n 0, 1) := by decide +kernel
theorem dX9_heldUp_39 : decode cX9_heldUp 39 = .ok (.iconst (-1), 1) := by decide +kernel
theorem dX9_heldUp_40 : decode cX9_heldUp 40 = .ok (.putfield 103, 3) := by decide +kernel
theorem dX9_heldUp_43 : decode cX9_heldUp 43 = .ok (.iload_n 3, 1) := by decide +kernel
theorem dX9_heldUp_44 : decode cX9_heldUp 44 = .ok (.iload_n 2, 1) := by decide +kernel
theorem dX9_heldUp_45 : decode cX9_heldUp 45 = .ok (.iconst (-1), 1) := by decide +kernel
theorem dX9_heldUp_46 : decode cX9_heldUp 46 = .ok (.ixor, 1) := by decide +kernel
theorem dX9_heldUp_47 : decode cX9_heldUp 47 = .ok (.iand, 1) := by decide +kernel
theorem dX9_heldUp_48 : decode cX9_heldUp 48 = .ok (.iconst 1, 1) := by decide +kernel
theorem dX9_heldUp_49 : decode cX9_heldUp 49 = .ok (.iload_n 1, 1) := by decide +kernel
theorem dX9_heldUp_50 : decode cX9_heldUp 50 = .ok (.ishl, 1) := by decide +kernel
theorem dX9_heldUp_51 : decode cX9_heldUp 51 = .ok (.iconst (-1), 1) := by decide +kernel
theorem dX9_heldUp_52 : decode cX9_heldUp 52 = .ok (.ixor, 1) := by decide +kernel
theorem dX9_heldUp_53 : decode cX9_heldUp 53 = .ok (.iand, 1) := by decide +kernel
theorem dX9_heldUp_54 : decode cX9_heldUp 54 = .ok (.ireturn, 1) := by decide +kernel
theorem dX9_idle_0 : decode cX9_idle 0 = .ok (.aload_n 0, 1) := by decide +kernel
theorem dX9_idle_1 : decode cX9_idle 1 = .ok (.iconst 0, 1) := by decide +kernel
theorem dX9_idle_2 : decode cX9_idle 2 = .ok (.putfield 152, 3) := by decide +kernel
theorem dX9_idle_5 : decode cX9_idle 5 = .ok (.iconst 1, 1) := by decide +kernel
theorem dX9_idle_6 : decode cX9_idle 6 = .ok (.aload_n 0, 1) := by decide +kernel
theorem dX9_idle_7 : decode cX9_idle 7 = .ok (.getfield 50, 3) := by decide +kernel
theorem dX9_idle_10 : decode cX9_idle 10 = .ok (.iconst 4, 1) := by decide +kernel
theorem dX9_idle_11 : decode cX9_idle 11 = .ok (.iaload, 1) := by decide +kernel
theorem dX9_idle_12 : decode cX9_idle 12 = .ok (.ishl, 1) := by decide +kernel
theorem dX9_idle_13 : decode cX9_idle 13 = .ok (.iconst 1, 1) := by decide +kernel
theorem dX9_idle_14 : decode cX9_idle 14 = .ok (.isub, 1) := by decide +kernel
theorem dX9_idle_15 : decode cX9_idle 15 = .ok (.aload_n 0, 1) := by decide +kernel
theorem dX9_idle_16 : decode cX9_idle 16 = .ok (.getfield 319, 3) := by decide +kernel
theorem dX9_idle_19 : decode cX9_idle 19 = .ok (.iconst (-1), 1) := by decide +kernel
theorem dX9_idle_20 : decode cX9_idle 20 = .ok (.ixor, 1) := by decide +kernel
theorem dX9_idle_21 : decode cX9_idle 21 = .ok (.iand, 1) := by decide +kernel
theorem dX9_idle_22 : decode cX9_idle 22 = .ok (.istore_n 1, 1) := by decide +kernel
theorem dX9_idle_23 : decode cX9_idle 23 = .ok (.aload_n 0, 1) := by decide +kernel
theorem dX9_idle_24 : decode cX9_idle 24 = .ok (.aload_n 0, 1) := by decide +kernel
theorem dX9_idle_25 : decode cX9_idle 25 = .ok (.getfield 106, 3) := by decide +kernel
theorem dX9_idle_28 : decode cX9_idle 28 = .ok (.iconst 0, 1) := by decide +kernel
theorem dX9_idle_29 : decode cX9_idle 29 = .ok (.invokevirtual 395, 3) := by decide +kernel
theorem dX9_idle_32 : decode cX9_idle 32 = .ok (.iconst 0, 1) := by decide +kernel
theorem dX9_idle_33 : decode cX9_idle 33 = .ok (.istore_n 2, 1) := by decide +kernel
theorem dX9_idle_34 : decode cX9_idle 34 = .ok (.iload_n 2, 1) := by decide +kernel
theorem dX9_idle_35 : decode cX9_idle 35 = .ok (.bipush 96, 2) := by decide +kernel
theorem dX9_idle_37 : decode cX9_idle 37 = .ok (.if_icmp .ge 52, 3) := by decide +kernel
theorem dX9_idle_40 : decode cX9_idle 40 = .ok (.aload_n 0, 1) := by decide +kernel
theorem dX9_idle_41 : decode cX9_idle 41 = .ok (.invokevirtual 375, 3) := by decide +kernel
theorem dX9_idle_44 : decode cX9_idle 44 = .ok (.iconst 0, 1) := by decide +kernel
theorem dX9_idle_45 : decode cX9_idle 45 = .ok (.istore_n 3, 1) := by decide +kernel
theorem dX9_idle_46 : decode cX9_idle 46 = .ok (.iload_n 3, 1) := by decide +kernel
theorem dX9_idle_47 : decode cX9_idle 47 = .ok (.aload_n 0, 1) := by decide +kernel
theorem dX9_idle_48 : decode cX9_idle 48 = .ok (.getfield 50, 3) := by decide +kernel
theorem dX9_idle_51 : decode cX9_idle 51 = .ok (.iconst 4, 1) := by decide +kernel
theorem dX9_idle_52 : decode cX9_idle 52 = .ok (.iaload, 1) := by decide +kernel
theorem dX9_idle_53 : decode cX9_idle 53 = .ok (.if_icmp .ge 30, 3) := by decide +kernel
theorem dX9_idle_56 : decode cX9_idle 56 = .ok (.aload_n 0, 1) := by decide +kernel
theorem dX9_idle_57 : decode cX9_idle 57 = .ok (.getfield 91, 3) := by decide +kernel
theorem dX9_idle_60 : decode cX9_idle 60 = .ok (.iload_n 3, 1) := by decide +kernel
theorem dX9_idle_61 : decode cX9_idle 61 = .ok (.iaload, 1) := by decide +kernel
theorem dX9_idle_62 : decode cX9_idle 62 = .ok (.aload_n 0, 1) := by decide +kernel
theorem dX9_idle_63 : decode cX9_idle 63 = .ok (.getfield 360, 3) := by decide +kernel
theorem dX9_idle_66 : decode cX9_idle 66 = .ok (.if_icmp .ne 11, 3) := by decide +kernel
theorem dX9_idle_69 : decode cX9_idle 69 = .ok (.iload_n 1, 1) := by decide +kernel
theorem dX9_idle_70 : decode cX9_idle 70 = .ok (.iconst 1, 1) := by decide +kernel
theorem dX9_idle_71 : decode cX9_idle 71 = .ok (.iload_n 3, 1) := by decide +kernel
theorem dX9_idle_72 : decode cX9_idle 72 = .ok (.ishl, 1) := by decide +kernel
theorem dX9_idle_73 : decode cX9_idle 73 = .ok (.iconst (-1), 1) := by decide +kernel
theorem dX9_idle_74 : decode cX9_idle 74 = .ok (.ixor, 1) := by decide +kernel
theorem dX9_idle_75 : decode cX9_idle 75 = .ok (.iand, 1) := by decide +kernel
theorem dX9_idle_76 : decode cX9_idle 76 = .ok (.istore_n 1, 1) := by decide +kernel
theorem dX9_idle_77 : decode cX9_idle 77 = .ok (.iinc 3 1, 3) := by decide +kernel
theorem dX9_idle_80 : decode cX9_idle 80 = .ok (.goto (-34), 3) := by decide +kernel
theorem dX9_idle_83 : decode cX9_idle 83 = .ok (.iinc 2 1, 3) := by decide +kernel
theorem dX9_idle_86 : decode cX9_idle 86 = .ok (.goto (-52), 3) := by decide +kernel
theorem dX9_idle_89 : decode cX9_idle 89 = .ok (.aload_n 0, 1) := by decide +kernel
theorem dX9_idle_90 : decode cX9_idle 90 = .ok (.aload_n 0, 1) := by decide +kernel
theorem dX9_idle_91 : decode cX9_idle 91 = .ok (.getfield 106, 3) := by decide +kernel
theorem dX9_idle_94 : decode cX9_idle 94 = .ok (.iconst 0, 1) := by decide +kernel
theorem dX9_idle_95 : decode cX9_idle 95 = .ok (.invokevirtual 416, 3) := by decide +kernel
theorem dX9_idle_98 : decode cX9_idle 98 = .ok (.iload_n 1, 1) := by decide +kernel
theorem dX9_idle_99 : decode cX9_idle 99 = .ok (.ireturn, 1) := by decide +kernel
theorem dX9_see_0 : decode cX9_see 0 = .ok (.aload_n 0, 1) := by decide +kernel
theorem dX9_see_1 : decode cX9_see 1 = .ok (.iconst 0, 1) := by decide +kernel
theorem dX9_see_2 : decode cX9_see 2 = .ok (.putfield 152, 3) := by decide +kernel
theorem dX9_see_5 : decode cX9_see 5 = .ok (.aload_n 0, 1) := by decide +kernel
theorem dX9_see_6 : decode cX9_see 6 = .ok (.getfield 324, 3) := by decide +kernel
theorem dX9_see_9 : decode cX9_see 9 = .ok (.bipush 8, 2) := by decide +kernel
theorem dX9_see_11 : decode cX9_see 11 = .ok (.if_icmp .eq 29, 3) := by decide +kernel
theorem dX9_see_14 : decode cX9_see 14 = .ok (.iload_n 1, 1) := by decide +kernel
theorem dX9_see_15 : decode cX9_see 15 = .ok (.i2l, 1) := by decide +kernel
theorem dX9_see_16 : decode cX9_see 16 = .ok (.lconst 1, 1) := by decide +kernel
theorem dX9_see_17 : decode cX9_see 17 = .ok (.ldc2_w 399, 3) := by decide +kernel
theorem dX9_see_20 : decode cX9_see 20 = .ok (.invokestatic 155, 3) := by decide +kernel
theorem dX9_see_23 : decode cX9_see 23 = .ok (.ifCond .eq 17, 3) := by decide +kernel
theorem dX9_see_26 : decode cX9_see 26 = .ok (.iload_n 2, 1) := by decide +kernel
theorem dX9_see_27 : decode cX9_see 27 = .ok (.i2l, 1) := by decide +kernel
theorem dX9_see_28 : decode cX9_see 28 = .ok (.ldc2_w 440, 3) := by decide +kernel
theorem dX9_see_31 : decode cX9_see 31 = .ok (.ldc2_w 412, 3) := by decide +kernel
theorem dX9_see_34 : decode cX9_see 34 = .ok (.invokestatic 155, 3) := by decide +kernel
theorem dX9_see_37 : decode cX9_see 37 = .ok (.ifCond .ne 9, 3) := by decide +kernel
theorem dX9_see_40 : decode cX9_see 40 = .ok (.aload_n 0, 1) := by decide +kernel
theorem dX9_see_41 : decode cX9_see 41 = .ok (.iconst 2, 1) := by decide +kernel
theorem dX9_see_42 : decode cX9_see 42 = .ok (.invokevirtual 401, 3) := by decide +kernel
theorem dX9_see_45 : decode cX9_see 45 = .ok (.ireturn, 1) := by decide +kernel
theorem dX9_see_46 : decode cX9_see 46 = .ok (.aload_n 0, 1) := by decide +kernel
theorem dX9_see_47 : decode cX9_see 47 = .ok (.getfield 115, 3) := by decide +kernel
theorem dX9_see_50 : decode cX9_see 50 = .ok (.aload_n 0, 1) := by decide +kernel
theorem dX9_see_51 : decode cX9_see 51 = .ok (.getfield 324, 3) := by decide +kernel
theorem dX9_see_54 : decode cX9_see 54 = .ok (.iload_n 1, 1) := by decide +kernel
theorem dX9_see_55 : decode cX9_see 55 = .ok (.iastore, 1) := by decide +kernel
theorem dX9_see_56 : decode cX9_see 56 = .ok (.aload_n 0, 1) := by decide +kernel
theorem dX9_see_57 : decode cX9_see 57 = .ok (.getfield 118, 3) := by decide +kernel
theorem dX9_see_60 : decode cX9_see 60 = .ok (.aload_n 0, 1) := by decide +kernel
theorem dX9_see_61 : decode cX9_see 61 = .ok (.getfield 324, 3) := by decide +kernel
theorem dX9_see_64 : decode cX9_see 64 = .ok (.iload_n 2, 1) := by decide +kernel
theorem dX9_see_65 : decode cX9_see 65 = .ok (.iastore, 1) := by decide +kernel
theorem dX9_see_66 : decode cX9_see 66 = .ok (.aload_n 0, 1) := by decide +kernel
theorem dX9_see_67 : decode cX9_see 67 = .ok (.dup, 1) := by decide +kernel
theorem dX9_see_68 : decode cX9_see 68 = .ok (.getfield 324, 3) := by decide +kernel
theorem dX9_see_71 : decode cX9_see 71 = .ok (.iconst 1, 1) := by decide +kernel
theorem dX9_see_72 : decode cX9_see 72 = .ok (.iadd, 1) := by decide +kernel
theorem dX9_see_73 : decode cX9_see 73 = .ok (.putfield 324, 3) := by decide +kernel
theorem dX9_see_76 : decode cX9_see 76 = .ok (.aload_n 0, 1) := by decide +kernel
theorem dX9_see_77 : decode cX9_see 77 = .ok (.getfield 324, 3) := by decide +kernel
theorem dX9_see_80 : decode cX9_see 80 = .ok (.ireturn, 1) := by decide +kernel
theorem dX9_isAsSeen_0 : decode cX9_isAsSeen 0 = .ok (.aload_n 0, 1) := by decide +kernel
theorem dX9_isAsSeen_1 : decode cX9_isAsSeen 1 = .ok (.aload_n 0, 1) := by decide +kernel
theorem dX9_isAsSeen_2 : decode cX9_isAsSeen 2 = .ok (.getfield 121, 3) := by decide +kernel
theorem dX9_isAsSeen_5 : decode cX9_isAsSeen 5 = .ok (.iconst 0, 1) := by decide +kernel
theorem dX9_isAsSeen_6 : decode cX9_isAsSeen 6 = .ok (.invokevirtual 395, 3) := by decide +kernel
theorem dX9_isAsSeen_9 : decode cX9_isAsSeen 9 = .ok (.iconst 1, 1) := by decide +kernel
theorem dX9_isAsSeen_10 : decode cX9_isAsSeen 10 = .ok (.istore_n 1, 1) := by decide +kernel
theorem dX9_isAsSeen_11 : decode cX9_isAsSeen 11 = .ok (.iconst 1, 1) := by decide +kernel
theorem dX9_isAsSeen_12 : decode cX9_isAsSeen 12 = .ok (.istore_n 2, 1) := by decide +kernel
theorem dX9_isAsSeen_13 : decode cX9_isAsSeen 13 = .ok (.iload_n 2, 1) := by decide +kernel
theorem dX9_isAsSeen_14 : decode cX9_isAsSeen 14 = .ok (.bipush 48, 2) := by decide +kernel
theorem dX9_isAsSeen_16 : decode cX9_isAsSeen 16 = .ok (.if_icmp .gt 66, 3) := by decide +kernel
theorem dX9_isAsSeen_19 : decode cX9_isAsSeen 19 = .ok (.iload_n 1, 1) := by decide +kernel
theorem dX9_isAsSeen_20 : decode cX9_isAsSeen 20 = .ok (.ifCond .eq 62, 3) := by decide +kernel
theorem dX9_isAsSeen_23 : decode cX9_isAsSeen 23 = .ok (.aload_n 0, 1) := by decide +kernel
theorem dX9_isAsSeen_24 : decode cX9_isAsSeen 24 = .ok (.invokevirtual 375, 3) := by decide +kernel
theorem dX9_isAsSeen_27 : decode cX9_isAsSeen 27 = .ok (.iconst 0, 1) := by decide +kernel
theorem dX9_isAsSeen_28 : decode cX9_isAsSeen 28 = .ok (.istore_n 3, 1) := by decide +kernel
theorem dX9_isAsSeen_29 : decode cX9_isAsSeen 29 = .ok (.iload_n 3, 1) := by decide +kernel
theorem dX9_isAsSeen_30 : decode cX9_isAsSeen 30 = .ok (.aload_n 0, 1) := by decide +kernel
theorem dX9_isAsSeen_31 : decode cX9_isAsSeen 31 = .ok (.getfield 324, 3) := by decide +kernel
theorem dX9_isAsSeen_34 : decode cX9_isAsSeen 34 = .ok (.if_icmp .ge 42, 3) := by decide +kernel
theorem dX9_isAsSeen_37 : decode cX9_isAsSeen 37 = .ok (.iload_n 1, 1) := by decide +kernel
theorem dX9_isAsSeen_38 : decode cX9_isAsSeen 38 = .ok (.ifCond .eq 30, 3) := by decide +kernel
theorem dX9_isAsSeen_41 : decode cX9_isAsSeen 41 = .ok (.aload_n 0, 1) := by decide +kernel
theorem dX9_isAsSeen_42 : decode cX9_isAsSeen 42 = .ok (.getfield 115, 3) := by decide +kernel
theorem dX9_isAsSeen_45 : decode cX9_isAsSeen 45 = .ok (.iload_n 3, 1) := by decide +kernel
theorem dX9_isAsSeen_46 : decode cX9_isAsSeen 46 = .ok (.iaload, 1) := by decide +kernel
theorem dX9_isAsSeen_47 : decode cX9_isAsSeen 47 = .ok (.iload_n 2, 1) := by decide +kernel
theorem dX9_isAsSeen_48 : decode cX9_isAsSeen 48 = .ok (.if_icmp .ne 16, 3) := by decide +kernel
theorem dX9_isAsSeen_51 : decode cX9_isAsSeen 51 = .ok (.aload_n 0, 1) := by decide +kernel
theorem dX9_isAsSeen_52 : decode cX9_isAsSeen 52 = .ok (.getfield 360, 3) := by decide +kernel
theorem dX9_isAsSeen_55 : decode cX9_isAsSeen 55 = .ok (.aload_n 0, 1) := by decide +kernel
theorem dX9_isAsSeen_56 : decode cX9_isAsSeen 56 = .ok (.getfield 118, 3) := by decide +kernel
theorem dX9_isAsSeen_59 : decode cX9_isAsSeen 59 = .ok (.iload_n 3, 1) := by decide +kernel
theorem dX9_isAsSeen_60 : decode cX9_isAsSeen 60 = .ok (.iaload, 1) := by decide +kernel
theorem dX9_isAsSeen_61 : decode cX9_isAsSeen 61 = .ok (.if_icmp .ne 7, 3) := by decide +kernel
theorem dX9_isAsSeen_64 : decode cX9_isAsSeen 64 = .ok (.iconst 1, 1) := by decide +kernel
theorem dX9_isAsSeen_65 : decode cX9_isAsSeen 65 = .ok (.goto 4, 3) := by decide +kernel
theorem dX9_isAsSeen_68 : decode cX9_isAsSeen 68 = .ok (.iconst 0, 1) := by decide +kernel
theorem dX9_isAsSeen_69 : decode cX9_isAsSeen 69 = .ok (.istore_n 1, 1) := by decide +kernel
theorem dX9_isAsSeen_70 : decode cX9_isAsSeen 70 = .ok (.iinc 3 1, 3) := by decide +kernel
theorem dX9_isAsSeen_73 : decode cX9_isAsSeen 73 = .ok (.goto (-44), 3) := by decide +kernel
theorem dX9_isAsSeen_76 : decode cX9_isAsSeen 76 = .ok (.iinc 2 1, 3) := by decide +kernel
theorem dX9_isAsSeen_79 : decode cX9_isAsSeen 79 = .ok (.goto (-66), 3) := by decide +kernel
theorem dX9_isAsSeen_82 : decode cX9_isAsSeen 82 = .ok (.aload_n 0, 1) := by decide +kernel
theorem dX9_isAsSeen_83 : decode cX9_isAsSeen 83 = .ok (.aload_n 0, 1) := by decide +kernel
theorem dX9_isAsSeen_84 : decode cX9_isAsSeen 84 = .ok (.getfield 121, 3) := by decide +kernel
theorem dX9_isAsSeen_87 : decode cX9_isAsSeen 87 = .ok (.iconst 0, 1) := by decide +kernel
theorem dX9_isAsSeen_88 : decode cX9_isAsSeen 88 = .ok (.invokevirtual 416, 3) := by decide +kernel
theorem dX9_isAsSeen_91 : decode cX9_isAsSeen 91 = .ok (.iload_n 1, 1) := by decide +kernel
theorem dX9_isAsSeen_92 : decode cX9_isAsSeen 92 = .ok (.ireturn, 1) := by decide +kernel
theorem dX9_tellFits_0 : decode cX9_tellFits 0 = .ok (.aload_n 0, 1) := by decide +kernel
theorem dX9_tellFits_1 : decode cX9_tellFits 1 = .ok (.iconst 0, 1) := by decide +kernel
theorem dX9_tellFits_2 : decode cX9_tellFits 2 = .ok (.putfield 442, 3) := by decide +kernel
theorem dX9_tellFits_5 : decode cX9_tellFits 5 = .ok (.aload_n 0, 1) := by decide +kernel
theorem dX9_tellFits_6 : decode cX9_tellFits 6 = .ok (.getfield 145, 3) := by decide +kernel
theorem dX9_tellFits_9 : decode cX9_tellFits 9 = .ok (.istore_n 1, 1) := by decide +kernel
theorem dX9_tellFits_10 : decode cX9_tellFits 10 = .ok (.iconst 0, 1) := by decide +kernel
theorem dX9_tellFits_11 : decode cX9_tellFits 11 = .ok (.istore_n 2, 1) := by decide +kernel
theorem dX9_tellFits_12 : decode cX9_tellFits 12 = .ok (.iload_n 2, 1) := by decide +kernel
theorem dX9_tellFits_13 : decode cX9_tellFits 13 = .ok (.bipush 99, 2) := by decide +kernel
theorem dX9_tellFits_15 : decode cX9_tellFits 15 = .ok (.if_icmp .gt 49, 3) := by decide +kernel
theorem dX9_tellFits_18 : decode cX9_tellFits 18 = .ok (.aload_n 0, 1) := by decide +kernel
theorem dX9_tellFits_19 : decode cX9_tellFits 19 = .ok (.iload_n 2, 1) := by decide +kernel
theorem dX9_tellFits_20 : decode cX9_tellFits 20 = .ok (.putfield 145, 3) := by decide +kernel
theorem dX9_tellFits_23 : decode cX9_tellFits 23 = .ok (.iload_n 2, 1) := by decide +kernel
theorem dX9_tellFits_24 : decode cX9_tellFits 24 = .ok (.iload_n 1, 1) := by decide +kernel
theorem dX9_tellFits_25 : decode cX9_tellFits 25 = .ok (.if_icmp .eq 33, 3) := by decide +kernel
theorem dX9_tellFits_28 : decode cX9_tellFits 28 = .ok (.aload_n 0, 1) := by decide +kernel
theorem dX9_tellFits_29 : decode cX9_tellFits 29 = .ok (.invokevirtual 445, 3) := by decide +kernel
theorem dX9_tellFits_32 : decode cX9_tellFits 32 = .ok (.ifCond .ne 6, 3) := by decide +kernel
theorem dX9_tellFits_35 : decode cX9_tellFits 35 = .ok (.goto 23, 3) := by decide +kernel
theorem dX9_tellFits_38 : decode cX9_tellFits 38 = .ok (.aload_n 0, 1) := by decide +kernel
theorem dX9_tellFits_39 : decode cX9_tellFits 39 = .ok (.getfield 124, 3) := by decide +kernel
theorem dX9_tellFits_42 : decode cX9_tellFits 42 = .ok (.aload_n 0, 1) := by decide +kernel
theorem dX9_tellFits_43 : decode cX9_tellFits 43 = .ok (.getfield 442, 3) := by decide +kernel
theorem dX9_tellFits_46 : decode cX9_tellFits 46 = .ok (.iload_n 2, 1) := by decide +kernel
theorem dX9_tellFits_47 : decode cX9_tellFits 47 = .ok (.iastore, 1) := by decide +kernel
theorem dX9_tellFits_48 : decode cX9_tellFits 48 = .ok (.aload_n 0, 1) := by decide +kernel
theorem dX9_tellFits_49 : decode cX9_tellFits 49 = .ok (.dup, 1) := by decide +kernel
theorem dX9_tellFits_50 : decode cX9_tellFits 50 = .ok (.getfield 442, 3) := by decide +kernel
theorem dX9_tellFits_53 : decode cX9_tellFits 53 = .ok (.iconst 1, 1) := by decide +kernel
theorem dX9_tellFits_54 : decode cX9_tellFits 54 = .ok (.iadd, 1) := by decide +kernel
theorem dX9_tellFits_55 : decode cX9_tellFits 55 = .ok (.putfield 442, 3) := by decide +kernel
theorem dX9_tellFits_58 : decode cX9_tellFits 58 = .ok (.iinc 2 1, 3) := by decide +kernel
theorem dX9_tellFits_61 : decode cX9_tellFits 61 = .ok (.goto (-49), 3) := by decide +kernel
theorem dX9_tellFits_64 : decode cX9_tellFits 64 = .ok (.aload_n 0, 1) := by decide +kernel
theorem dX9_tellFits_65 : decode cX9_tellFits 65 = .ok (.iload_n 1, 1) := by decide +kernel
theorem dX9_tellFits_66 : decode cX9_tellFits 66 = .ok (.putfield 145, 3) := by decide +kernel
theorem dX9_tellFits_69 : decode cX9_tellFits 69 = .ok (.return_, 1) := by decide +kernel
theorem dX9_fouled_0 : decode cX9_fouled 0 = .ok (.aload_n 0, 1) := by decide +kernel
theorem dX9_fouled_1 : decode cX9_fouled 1 = .ok (.iconst 0, 1) := by decide +kernel
theorem dX9_fouled_2 : decode cX9_fouled 2 = .ok (.putfield 152, 3) := by decide +kernel
theorem dX9_fouled_5 : decode cX9_fouled 5 = .ok (.iload_n 1, 1) := by decide +kernel
theorem dX9_fouled_6 : decode cX9_fouled 6 = .ok (.i2l, 1) := by decide +kernel
theorem dX9_fouled_7 : decode cX9_fouled 7 = .ok (.lconst 0, 1) := by decide +kernel
theorem dX9_fouled_8 : decode cX9_fouled 8 = .ok (.ldc2_w 384, 3) := by decide +kernel
theorem dX9_fouled_11 : decode cX9_fouled 11 = .ok (.invokestatic 155, 3) := by decide +kernel
theorem dX9_fouled_14 : decode cX9_fouled 14 = .ok (.ifCond .ne 9, 3) := by decide +kernel
theorem dX9_fouled_17 : decode cX9_fouled 17 = .ok (.aload_n 0, 1) := by decide +kernel
theorem dX9_fouled_18 : decode cX9_fouled 18 = .ok (.iconst 1, 1) := by decide +kernel
theorem dX9_fouled_19 : decode cX9_fouled 19 = .ok (.invokevirtual 299, 3) := by decide +kernel
theorem dX9_fouled_22 : decode cX9_fouled 22 = .ok (.ireturn, 1) := by decide +kernel
theorem dX9_fouled_23 : decode cX9_fouled 23 = .ok (.iload_n 1, 1) := by decide +kernel
theorem dX9_fouled_24 : decode cX9_fouled 24 = .ok (.iconst 2, 1) := by decide +kernel
theorem dX9_fouled_25 : decode cX9_fouled 25 = .ok (.if_icmp .ne 16, 3) := by decide +kernel
theorem dX9_fouled_28 : decode cX9_fouled 28 = .ok (.aload_n 0, 1) := by decide +kernel
theorem dX9_fouled_29 : decode cX9_fouled 29 = .ok (.invokevirtual 445, 3) := by decide +kernel
theorem dX9_fouled_32 : decode cX9_fouled 32 = .ok (.ifCond .eq 7, 3) := by decide +kernel
theorem dX9_fouled_35 : decode cX9_fouled 35 = .ok (.iconst 1, 1) := by decide +kernel
theorem dX9_fouled_36 : decode cX9_fouled 36 = .ok (.goto 4, 3) := by decide +kernel
theorem dX9_fouled_39 : decode cX9_fouled 39 = .ok (.iconst 0, 1) := by decide +kernel
theorem dX9_fouled_40 : decode cX9_fouled 40 = .ok (.ireturn, 1) := by decide +kernel
theorem dX9_fouled_41 : decode cX9_fouled 41 = .ok (.aload_n 0, 1) := by decide +kernel
theorem dX9_fouled_42 : decode cX9_fouled 42 = .ok (.invokevirtual 449, 3) := by decide +kernel
theorem dX9_fouled_45 : decode cX9_fouled 45 = .ok (.iload_n 1, 1) := by decide +kernel
theorem dX9_fouled_46 : decode cX9_fouled 46 = .ok (.ifCond .ne 10, 3) := by decide +kernel
theorem dX9_fouled_49 : decode cX9_fouled 49 = .ok (.aload_n 0, 1) := by decide +kernel
theorem dX9_fouled_50 : decode cX9_fouled 50 = .ok (.getfield 442, 3) := by decide +kernel
theorem dX9_fouled_53 : decode cX9_fouled 53 = .ok (.goto 20, 3) := by decide +kernel
theorem dX9_fouled_56 : decode cX9_fouled 56 = .ok (.aload_n 0, 1) := by decide +kernel
theorem dX9_fouled_57 : decode cX9_fouled 57 = .ok (.getfield 442, 3) := by decide +kernel
theorem dX9_fouled_60 : decode cX9_fouled 60 = .ok (.ifCond .ne 7, 3) := by decide +kernel
theorem dX9_fouled_63 : decode cX9_fouled 63 = .ok (.iconst (-1), 1) := by decide +kernel
theorem dX9_fouled_64 : decode cX9_fouled 64 = .ok (.goto 9, 3) := by decide +kernel
theorem dX9_fouled_67 : decode cX9_fouled 67 = .ok (.aload_n 0, 1) := by decide +kernel
theorem dX9_fouled_68 : decode cX9_fouled 68 = .ok (.getfield 124, 3) := by decide +kernel
theorem dX9_fouled_71 : decode cX9_fouled 71 = .ok (.iconst 0, 1) := by decide +kernel
theorem dX9_fouled_72 : decode cX9_fouled 72 = .ok (.iaload, 1) := by decide +kernel
theorem dX9_fouled_73 : decode cX9_fouled 73 = .ok (.ireturn, 1) := by decide +kernel
theorem dX9_unlike_0 : decode cX9_unlike 0 = .ok (.iconst 0, 1) := by decide +kernel
theorem dX9_unlike_1 : decode cX9_unlike 1 = .ok (.istore_n 2, 1) := by decide +kernel
theorem dX9_unlike_2 : decode cX9_unlike 2 = .ok (.iconst 0, 1) := by decide +kernel
theorem dX9_unlike_3 : decode cX9_unlike 3 = .ok (.istore_n 3, 1) := by decide +kernel
theorem dX9_unlike_4 : decode cX9_unlike 4 = .ok (.iload_n 3, 1) := by decide +kernel
theorem dX9_unlike_5 : decode cX9_unlike 5 = .ok (.aload_n 0, 1) := by decide +kernel
theorem dX9_unlike_6 : decode cX9_unlike 6 = .ok (.getfield 442, 3) := by decide +kernel
theorem dX9_unlike_9 : decode cX9_unlike 9 = .ok (.if_icmp .ge 78, 3) := by decide +kernel
theorem dX9_unlike_12 : decode cX9_unlike 12 = .ok (.iconst 1, 1) := by decide +kernel
theorem dX9_unlike_13 : decode cX9_unlike 13 = .ok (.istore 4, 2) := by decide +kernel
theorem dX9_unlike_15 : decode cX9_unlike 15 = .ok (.iconst 0, 1) := by decide +kernel
theorem dX9_unlike_16 : decode cX9_unlike 16 = .ok (.istore 5, 2) := by decide +kernel
theorem dX9_unlike_18 : decode cX9_unlike 18 = .ok (.iload 5, 2) := by decide +kernel
theorem dX9_unlike_20 : decode cX9_unlike 20 = .ok (.iload_n 3, 1) := by decide +kernel
theorem dX9_unlike_21 : decode cX9_unlike 21 = .ok (.if_icmp .ge 47, 3) := by decide +kernel
theorem dX9_unlike_24 : decode cX9_unlike 24 = .ok (.iload 4, 2) := by decide +kernel
theorem dX9_unlike_26 : decode cX9_unlike 26 = .ok (.ifCond .eq 42, 3) := by decide +kernel
theorem dX9_unlike_29 : decode cX9_unlike 29 = .ok (.aload_n 0, 1) := by decide +kernel
theorem dX9_unlike_30 : decode cX9_unlike 30 = .ok (.getfield 127, 3) := by decide +kernel
theorem dX9_unlike_33 : decode cX9_unlike 33 = .ok (.bipush 48, 2) := by decide +kernel
theorem dX9_unlike_35 : decode cX9_unlike 35 = .ok (.iload 5, 2) := by decide +kernel
theorem dX9_unlike_37 : decode cX9_unlike 37 = .ok (.imul, 1) := by decide +kernel
theorem dX9_unlike_38 : decode cX9_unlike 38 = .ok (.iload_n 1, 1) := by decide +kernel
theorem dX9_unlike_39 : decode cX9_unlike 39 = .ok (.iadd, 1) := by decide +kernel
theorem dX9_unlike_40 : decode cX9_unlike 40 = .ok (.iaload, 1) := by decide +kernel
theorem dX9_unlike_41 : decode cX9_unlike 41 = .ok (.aload_n 0, 1) := by decide +kernel
theorem dX9_unlike_42 : decode cX9_unlike 42 = .ok (.getfield 127, 3) := by decide +kernel
theorem dX9_unlike_45 : decode cX9_unlike 45 = .ok (.bipush 48, 2) := by decide +kernel
theorem dX9_unlike_47 : decode cX9_unlike 47 = .ok (.iload_n 3, 1) := by decide +kernel
theorem dX9_unlike_48 : decode cX9_unlike 48 = .ok (.imul, 1) := by decide +kernel
theorem dX9_unlike_49 : decode cX9_unlike 49 = .ok (.iload_n 1, 1) := by decide +kernel
theorem dX9_unlike_50 : decode cX9_unlike 50 = .ok (.iadd, 1) := by decide +kernel
theorem dX9_unlike_51 : decode cX9_unlike 51 = .ok (.iaload, 1) := by decide +kernel
theorem dX9_unlike_52 : decode cX9_unlike 52 = .ok (.if_icmp .eq 7, 3) := by decide +kernel
theorem dX9_unlike_55 : decode cX9_unlike 55 = .ok (.iconst 1, 1) := by decide +kernel
theorem dX9_unlike_56 : decode cX9_unlike 56 = .ok (.goto 4, 3) := by decide +kernel
theorem dX9_unlike_59 : decode cX9_unlike 59 = .ok (.iconst 0, 1) := by decide +kernel
theorem dX9_unlike_60 : decode cX9_unlike 60 = .ok (.istore 4, 2) := by decide +kernel
theorem dX9_unlike_62 : decode cX9_unlike 62 = .ok (.iinc 5 1, 3) := by decide +kernel
theorem dX9_unlike_65 : decode cX9_unlike 65 = .ok (.goto (-47), 3) := by decide +kernel
theorem dX9_unlike_68 : decode cX9_unlike 68 = .ok (.iload_n 2, 1) := by decide +kernel
theorem dX9_unlike_69 : decode cX9_unlike 69 = .ok (.iload 4, 2) := by decide +kernel
theorem dX9_unlike_71 : decode cX9_unlike 71 = .ok (.ifCond .eq 7, 3) := by decide +kernel
theorem dX9_unlike_74 : decode cX9_unlike 74 = .ok (.iconst 1, 1) := by decide +kernel
theorem dX9_unlike_75 : decode cX9_unlike 75 = .ok (.goto 4, 3) := by decide +kernel
theorem dX9_unlike_78 : decode cX9_unlike 78 = .ok (.iconst 0, 1) := by decide +kernel
theorem dX9_unlike_79 : decode cX9_unlike 79 = .ok (.iadd, 1) := by decide +kernel
theorem dX9_unlike_80 : decode cX9_unlike 80 = .ok (.istore_n 2, 1) := by decide +kernel
theorem dX9_unlike_81 : decode cX9_unlike 81 = .ok (.iinc 3 1, 3) := by decide +kernel
theorem dX9_unlike_84 : decode cX9_unlike 84 = .ok (.goto (-80), 3) := by decide +kernel
theorem dX9_unlike_87 : decode cX9_unlike 87 = .ok (.iload_n 2, 1) := by decide +kernel
theorem dX9_unlike_88 : decode cX9_unlike 88 = .ok (.ireturn, 1) := by decide +kernel
theorem dX9_listen_0 : decode cX9_listen 0 = .ok (.aload_n 0, 1) := by decide +kernel
theorem dX9_listen_1 : decode cX9_listen 1 = .ok (.iconst 0, 1) := by decide +kernel
theorem dX9_listen_2 : decode cX9_listen 2 = .ok (.putfield 152, 3) := by decide +kernel
theorem dX9_listen_5 : decode cX9_listen 5 = .ok (.iload_n 1, 1) := by decide +kernel
theorem dX9_listen_6 : decode cX9_listen 6 = .ok (.ifCond .lt 8, 3) := by decide +kernel
theorem dX9_listen_9 : decode cX9_listen 9 = .ok (.iload_n 1, 1) := by decide +kernel
theorem dX9_listen_10 : decode cX9_listen 10 = .ok (.iconst 1, 1) := by decide +kernel
theorem dX9_listen_11 : decode cX9_listen 11 = .ok (.if_icmp .le 9, 3) := by decide +kernel
theorem dX9_listen_14 : decode cX9_listen 14 = .ok (.aload_n 0, 1) := by decide +kernel
theorem dX9_listen_15 : decode cX9_listen 15 = .ok (.iconst 1, 1) := by decide +kernel
theorem dX9_listen_16 : decode cX9_listen 16 = .ok (.invokevirtual 299, 3) := by decide +kernel
theorem dX9_listen_19 : decode cX9_listen 19 = .ok (.ireturn, 1) := by decide +kernel
theorem dX9_listen_20 : decode cX9_listen 20 = .ok (.aload_n 0, 1) := by decide +kernel
theorem dX9_listen_21 : decode cX9_listen 21 = .ok (.invokevirtual 449, 3) := by decide +kernel
theorem dX9_listen_24 : decode cX9_listen 24 = .ok (.iconst 0, 1) := by decide +kernel
theorem dX9_listen_25 : decode cX9_listen 25 = .ok (.istore_n 2, 1) := by decide +kernel
theorem dX9_listen_26 : decode cX9_listen 26 = .ok (.iload_n 2, 1) := by decide +kernel
theorem dX9_listen_27 : decode cX9_listen 27 = .ok (.aload_n 0, 1) := by decide +kernel
theorem dX9_listen_28 : decode cX9_listen 28 = .ok (.getfield 442, 3) := by decide +kernel
theorem dX9_listen_31 : decode cX9_listen 31 = .ok (.if_icmp .ge 70, 3) := by decide +kernel
theorem dX9_listen_34 : decode cX9_listen 34 = .ok (.aload_n 0, 1) := by decide +kernel
theorem dX9_listen_35 : decode cX9_listen 35 = .ok (.aload_n 0, 1) := by decide +kernel
theorem dX9_listen_36 : decode cX9_listen 36 = .ok (.getfield 106, 3) := by decide +kernel
theorem dX9_listen_39 : decode cX9_listen 39 = .ok (.iconst 0, 1) := by decide +kernel
theorem dX9_listen_40 : decode cX9_listen 40 = .ok (.invokevirtual 395, 3) := by decide +kernel
theorem dX9_listen_43 : decode cX9_listen 43 = .ok (.aload_n 0, 1) := by decide +kernel
theorem dX9_listen_44 : decode cX9_listen 44 = .ok (.aload_n 0, 1) := by decide +kernel
theorem dX9_listen_45 : decode cX9_listen 45 = .ok (.getfield 124, 3) := by decide +kernel
theorem dX9_listen_48 : decode cX9_listen 48 = .ok (.iload_n 2, 1) := by decide +kernel
theorem dX9_listen_49 : decode cX9_listen 49 = .ok (.iaload, 1) := by decide +kernel
theorem dX9_listen_50 : decode cX9_listen 50 = .ok (.putfield 145, 3) := by decide +kernel
theorem dX9_listen_53 : decode cX9_listen 53 = .ok (.iconst 0, 1) := by decide +kernel
theorem dX9_listen_54 : decode cX9_listen 54 = .ok (.istore_n 3, 1) := by decide +kernel
theorem dX9_listen_55 : decode cX9_listen 55 = .ok (.iload_n 3, 1) := by decide +kernel
theorem dX9_listen_56 : decode cX9_listen 56 = .ok (.bipush 48, 2) := by decide +kernel
theorem dX9_listen_58 : decode cX9_listen 58 = .ok (.if_icmp .ge 28, 3) := by decide +kernel
theorem dX9_listen_61 : decode cX9_listen 61 = .ok (.aload_n 0, 1) := by decide +kernel
theorem dX9_listen_62 : decode cX9_listen 62 = .ok (.invokevirtual 375, 3) := by decide +kernel
theorem dX9_listen_65 : decode cX9_listen 65 = .ok (.aload_n 0, 1) := by decide +kernel
theorem dX9_listen_66 : decode cX9_listen 66 = .ok (.getfield 127, 3) := by decide +kernel
theorem dX9_listen_69 : decode cX9_listen 69 = .ok (.bipush 48, 2) := by decide +kernel
theorem dX9_listen_71 : decode cX9_listen 71 = .ok (.iload_n 2, 1) := by decide +kernel
theorem dX9_listen_72 : decode cX9_listen 72 = .ok (.imul, 1) := by decide +kernel
theorem dX9_listen_73 : decode cX9_listen 73 = .ok (.iload_n 3, 1) := by decide +kernel
theorem dX9_listen_74 : decode cX9_listen 74 = .ok (.iadd, 1) := by decide +kernel
theorem dX9_listen_75 : decode cX9_listen 75 = .ok (.aload_n 0, 1) := by decide +kernel
theorem dX9_listen_76 : decode cX9_listen 76 = .ok (.getfield 360, 3) := by decide +kernel
theorem dX9_listen_79 : decode cX9_listen 79 = .ok (.iastore, 1) := by decide +kernel
theorem dX9_listen_80 : decode cX9_listen 80 = .ok (.iinc 3 1, 3) := by decide +kernel
theorem dX9_listen_83 : decode cX9_listen 83 = .ok (.goto (-28), 3) := by decide +kernel
theorem dX9_listen_86 : decode cX9_listen 86 = .ok (.aload_n 0, 1) := by decide +kernel
theorem dX9_listen_87 : decode cX9_listen 87 = .ok (.aload_n 0, 1) := by decide +kernel
theorem dX9_listen_88 : decode cX9_listen 88 = .ok (.getfield 106, 3) := by decide +kernel
theorem dX9_listen_91 : decode cX9_listen 91 = .ok (.iconst 0, 1) := by decide +kernel
theorem dX9_listen_92 : decode cX9_listen 92 = .ok (.invokevirtual 416, 3) := by decide +kernel
theorem dX9_listen_95 : decode cX9_listen 95 = .ok (.iinc 2 1, 3) := by decide +kernel
theorem dX9_listen_98 : decode cX9_listen 98 = .ok (.goto (-72), 3) := by decide +kernel
theorem dX9_listen_101 : decode cX9_listen 101 = .ok (.iconst (-1), 1) := by decide +kernel
theorem dX9_listen_102 : decode cX9_listen 102 = .ok (.istore_n 2, 1) := by decide +kernel
theorem dX9_listen_103 : decode cX9_listen 103 = .ok (.iconst 0, 1) := by decide +kernel
theorem dX9_listen_104 : decode cX9_listen 104 = .ok (.istore_n 3, 1) := by decide +kernel
theorem dX9_listen_105 : decode cX9_listen 105 = .ok (.iconst 0, 1) := by decide +kernel
theorem dX9_listen_106 : decode cX9_listen 106 = .ok (.istore 4, 2) := by decide +kernel
theorem dX9_listen_108 : decode cX9_listen 108 = .ok (.iload 4, 2) := by decide +kernel
theorem dX9_listen_110 : decode cX9_listen 110 = .ok (.bipush 48, 2) := by decide +kernel
theorem dX9_listen_112 : decode cX9_listen 112 = .ok (.if_icmp .ge 34, 3) := by decide +kernel
theorem dX9_listen_115 : decode cX9_listen 115 = .ok (.aload_n 0, 1) := by decide +kernel
theorem dX9_listen_116 : decode cX9_listen 116 = .ok (.iload 4, 2) := by decide +kernel
theorem dX9_listen_118 : decode cX9_listen 118 = .ok (.invokevirtual 452, 3) := by decide +kernel
theorem dX9_listen_121 : decode cX9_listen 121 = .ok (.istore 5, 2) := by decide +kernel
theorem dX9_listen_123 : decode cX9_listen 123 = .ok (.iload 5, 2) := by decide +kernel
theorem dX9_listen_125 : decode cX9_listen 125 = .ok (.iload_n 3, 1) := by decide +kernel
theorem dX9_listen_126 : decode cX9_listen 126 = .ok (.if_icmp .gt 6, 3) := by decide +kernel
theorem dX9_listen_129 : decode cX9_listen 129 = .ok (.goto 11, 3) := by decide +kernel
theorem dX9_listen_132 : decode cX9_listen 132 = .ok (.iload 4, 2) := by decide +kernel
theorem dX9_listen_134 : decode cX9_listen 134 = .ok (.iconst 1, 1) := by decide +kernel
theorem dX9_listen_135 : decode cX9_listen 135 = .ok (.iadd, 1) := by decide +kernel
theorem dX9_listen_136 : decode cX9_listen 136 = .ok (.istore_n 2, 1) := by decide +kernel
theorem dX9_listen_137 : decode cX9_listen 137 = .ok (.iload 5, 2) := by decide +kernel
theorem dX9_listen_139 : decode cX9_listen 139 = .ok (.istore_n 3, 1) := by decide +kernel
theorem dX9_listen_140 : decode cX9_listen 140 = .ok (.iinc 4 1, 3) := by decide +kernel
theorem dX9_listen_143 : decode cX9_listen 143 = .ok (.goto (-35), 3) := by decide +kernel
theorem dX9_listen_146 : decode cX9_listen 146 = .ok (.iload_n 1, 1) := by decide +kernel
theorem dX9_listen_147 : decode cX9_listen 147 = .ok (.ifCond .ne 7, 3) := by decide +kernel
theorem dX9_listen_150 : decode cX9_listen 150 = .ok (.iload_n 2, 1) := by decide +kernel
theorem dX9_listen_151 : decode cX9_listen 151 = .ok (.goto 4, 3) := by decide +kernel
theorem dX9_listen_154 : decode cX9_listen 154 = .ok (.iload_n 3, 1) := by decide +kernel
theorem dX9_listen_155 : decode cX9_listen 155 = .ok (.ireturn, 1) := by decide +kernel
theorem dX9_forget_0 : decode cX9_forget 0 = .ok (.aload_n 0, 1) := by decide +kernel
theorem dX9_forget_1 : decode cX9_forget 1 = .ok (.iconst 0, 1) := by decide +kernel
theorem dX9_forget_2 : decode cX9_forget 2 = .ok (.putfield 152, 3) := by decide +kernel
theorem dX9_forget_5 : decode cX9_forget 5 = .ok (.aload_n 0, 1) := by decide +kernel
theorem dX9_forget_6 : decode cX9_forget 6 = .ok (.iconst 0, 1) := by decide +kernel
theorem dX9_forget_7 : decode cX9_forget 7 = .ok (.putfield 324, 3) := by decide +kernel
theorem dX9_forget_10 : decode cX9_forget 10 = .ok (.return_, 1) := by decide +kernel
theorem dX9_gain_0 : decode cX9_gain 0 = .ok (.iload_n 3, 1) := by decide +kernel
theorem dX9_gain_1 : decode cX9_gain 1 = .ok (.iconst 1, 1) := by decide +kernel
theorem dX9_gain_2 : decode cX9_gain 2 = .ok (.if_icmp .ne 5, 3) := by decide +kernel
theorem dX9_gain_5 : decode cX9_gain 5 = .ok (.iconst 0, 1) := by decide +kernel
theorem dX9_gain_6 : decode cX9_gain 6 = .ok (.ireturn, 1) := by decide +kernel
theorem dX9_gain_7 : decode cX9_gain 7 = .ok (.aload_n 0, 1) := by decide +kernel
theorem dX9_gain_8 : decode cX9_gain 8 = .ok (.iload_n 1, 1) := by decide +kernel
theorem dX9_gain_9 : decode cX9_gain 9 = .ok (.iload_n 2, 1) := by decide +kernel
theorem dX9_gain_10 : decode cX9_gain 10 = .ok (.invokevirtual 369, 3) := by decide +kernel
theorem dX9_gain_13 : decode cX9_gain 13 = .ok (.ifCond .ne 5, 3) := by decide +kernel
theorem dX9_gain_16 : decode cX9_gain 16 = .ok (.iconst (-1), 1) := by decide +kernel
theorem dX9_gain_17 : decode cX9_gain 17 = .ok (.ireturn, 1) := by decide +kernel
theorem dX9_gain_18 : decode cX9_gain 18 = .ok (.iload 4, 2) := by decide +kernel
theorem dX9_gain_20 : decode cX9_gain 20 = .ok (.iconst 1, 1) := by decide +kernel
theorem dX9_gain_21 : decode cX9_gain 21 = .ok (.if_icmp .ne 14, 3) := by decide +kernel
theorem dX9_gain_24 : decode cX9_gain 24 = .ok (.iconst 2, 1) := by decide +kernel
theorem dX9_gain_25 : decode cX9_gain 25 = .ok (.aload_n 0, 1) := by decide +kernel
theorem dX9_gain_26 : decode cX9_gain 26 = .ok (.getfield 67, 3) := by decide +kernel
theorem dX9_gain_29 : decode cX9_gain 29 = .ok (.iload_n 1, 1) := by decide +kernel
theorem dX9_gain_30 : decode cX9_gain 30 = .ok (.iaload, 1) := by decide +kernel
theorem dX9_gain_31 : decode cX9_gain 31 = .ok (.imul, 1) := by decide +kernel
theorem dX9_gain_32 : decode cX9_gain 32 = .ok (.goto 9, 3) := by decide +kernel
theorem dX9_gain_35 : decode cX9_gain 35 = .ok (.aload_n 0, 1) := by decide +kernel
theorem dX9_gain_36 : decode cX9_gain 36 = .ok (.getfield 67, 3) := by decide +kernel
theorem dX9_gain_39 : decode cX9_gain 39 = .ok (.iload_n 1, 1) := by decide +kernel
theorem dX9_gain_40 : decode cX9_gain 40 = .ok (.iaload, 1) := by decide +kernel
theorem dX9_gain_41 : decode cX9_gain 41 = .ok (.ireturn, 1) := by decide +kernel
theorem dX9_game_0 : decode cX9_game 0 = .ok (.aload_n 0, 1) := by decide +kernel
theorem dX9_game_1 : decode cX9_game 1 = .ok (.iconst 0, 1) := by decide +kernel
theorem dX9_game_2 : decode cX9_game 2 = .ok (.putfield 152, 3) := by decide +kernel
theorem dX9_game_5 : decode cX9_game 5 = .ok (.aload_n 0, 1) := by decide +kernel
theorem dX9_game_6 : decode cX9_game 6 = .ok (.iload_n 1, 1) := by decide +kernel
theorem dX9_game_7 : decode cX9_game 7 = .ok (.invokevirtual 389, 3) := by decide +kernel
theorem dX9_game_10 : decode cX9_game 10 = .ok (.ifCond .eq 20, 3) := by decide +kernel
theorem dX9_game_13 : decode cX9_game 13 = .ok (.aload_n 0, 1) := by decide +kernel
theorem dX9_game_14 : decode cX9_game 14 = .ok (.iload_n 2, 1) := by decide +kernel
theorem dX9_game_15 : decode cX9_game 15 = .ok (.invokevirtual 389, 3) := by decide +kernel
theorem dX9_game_18 : decode cX9_game 18 = .ok (.ifCond .eq 12, 3) := by decide +kernel
theorem dX9_game_21 : decode cX9_game 21 = .ok (.iload_n 3, 1) := by decide +kernel
theorem dX9_game_22 : decode cX9_game 22 = .ok (.ifCond .lt 8, 3) := by decide +kernel
theorem dX9_game_25 : decode cX9_game 25 = .ok (.iload_n 3, 1) := by decide +kernel
theorem dX9_game_26 : decode cX9_game 26 = .ok (.iconst 1, 1) := by decide +kernel
theorem dX9_game_27 : decode cX9_game 27 = .ok (.if_icmp .le 9, 3) := by decide +kernel
theorem dX9_game_30 : decode cX9_game 30 = .ok (.aload_n 0, 1) := by decide +kernel
theorem dX9_game_31 : decode cX9_game 31 = .ok (.iconst 1, 1) := by decide +kernel
theorem dX9_game_32 : decode cX9_game 32 = .ok (.invokevirtual 299, 3) := by decide +kernel
theorem dX9_game_35 : decode cX9_game 35 = .ok (.ireturn, 1) := by decide +kernel
theorem dX9_game_36 : decode cX9_game 36 = .ok (.aload_n 0, 1) := by decide +kernel
theorem dX9_game_37 : decode cX9_game 37 = .ok (.invokevirtual 357, 3) := by decide +kernel
theorem dX9_game_40 : decode cX9_game 40 = .ok (.istore 4, 2) := by decide +kernel
theorem dX9_game_42 : decode cX9_game 42 = .ok (.iload_n 1, 1) := by decide +kernel
theorem dX9_game_43 : decode cX9_game 43 = .ok (.iload_n 2, 1) := by decide +kernel
theorem dX9_game_44 : decode cX9_game 44 = .ok (.if_icmp .eq 31, 3) := by decide +kernel
theorem dX9_game_47 : decode cX9_game 47 = .ok (.aload_n 0, 1) := by decide +kernel
theorem dX9_game_48 : decode cX9_game 48 = .ok (.getfield 319, 3) := by decide +kernel
theorem dX9_game_51 : decode cX9_game 51 = .ok (.iload_n 1, 1) := by decide +kernel
theorem dX9_game_52 : decode cX9_game 52 = .ok (.invokestatic 354, 3) := by decide +kernel
theorem dX9_game_55 : decode cX9_game 55 = .ok (.ifCond .ne 20, 3) := by decide +kernel
theorem dX9_game_58 : decode cX9_game 58 = .ok (.aload_n 0, 1) := by decide +kernel
theorem dX9_game_59 : decode cX9_game 59 = .ok (.getfield 319, 3) := by decide +kernel
theorem dX9_game_62 : decode cX9_game 62 = .ok (.iload_n 2, 1) := by decide +kernel
theorem dX9_game_63 : decode cX9_game 63 = .ok (.invokestatic 354, 3) := by decide +kernel
theorem dX9_game_66 : decode cX9_game 66 = .ok (.ifCond .ne 9, 3) := by decide +kernel
theorem dX9_game_69 : decode cX9_game 69 = .ok (.iload 4, 2) := by decide +kernel
theorem dX9_game_71 : decode cX9_game 71 = .ok (.iconst (-1), 1) := by decide +kernel
theorem dX9_game_72 : decode cX9_game 72 = .ok (.if_icmp .ne 9, 3) := by decide +kernel
theorem dX9_game_75 : decode cX9_game 75 = .ok (.aload_n 0, 1) := by decide +kernel
theorem dX9_game_76 : decode cX9_game 76 = .ok (.iconst 2, 1) := by decide +kernel
theorem dX9_game_77 : decode cX9_game 77 = .ok (.invokevirtual 299, 3) := by decide +kernel
theorem dX9_game_80 : decode cX9_game 80 = .ok (.ireturn, 1) := by decide +kernel
theorem dX9_game_81 : decode cX9_game 81 = .ok (.iconst 0, 1) := by decide +kernel
theorem dX9_game_82 : decode cX9_game 82 = .ok (.istore 5, 2) := by decide +kernel
theorem dX9_game_84 : decode cX9_game 84 = .ok (.iconst (-1), 1) := by decide +kernel
theorem dX9_game_85 : decode cX9_game 85 = .ok (.istore 6, 2) := by decide +kernel
theorem dX9_game_87 : decode cX9_game 87 = .ok (.iconst 0, 1) := by decide +kernel
theorem dX9_game_88 : decode cX9_game 88 = .ok (.istore 7, 2) := by decide +kernel
theorem dX9_game_90 : decode cX9_game 90 = .ok (.iload 7, 2) := by decide +kernel
theorem dX9_game_92 : decode cX9_game 92 = .ok (.iconst 4, 1) := by decide +kernel
theorem dX9_game_93 : decode cX9_game 93 = .ok (.if_icmp .ge 102, 3) := by decide +kernel
theorem dX9_game_96 : decode cX9_game 96 = .ok (.iload 7, 2) := by decide +kernel
theorem dX9_game_98 : decode cX9_game 98 = .ok (.iconst 2, 1) := by decide +kernel
theorem dX9_game_99 : decode cX9_game 99 = .ok (.idiv, 1) := by decide +kernel
theorem dX9_game_100 : decode cX9_game 100 = .ok (.istore 8, 2) := by decide +kernel
theorem dX9_game_102 : decode cX9_game 102 = .ok (.iload 7, 2) := by decide +kernel
theorem dX9_game_104 : decode cX9_game 104 = .ok (.iconst 2, 1) := by decide +kernel
theorem dX9_game_105 : decode cX9_game 105 = .ok (.irem, 1) := by decide +kernel
theorem dX9_game_106 : decode cX9_game 106 = .ok (.istore 9, 2) := by decide +kernel
theorem dX9_game_108 : decode cX9_game 108 = .ok (.aload_n 0, 1) := by decide +kernel
theorem dX9_game_109 : decode cX9_game 109 = .ok (.iload_n 1, 1) := by decide +kernel
theorem dX9_game_110 : decode cX9_game 110 = .ok (.iload 4, 2) := by decide +kernel
theorem dX9_game_112 : decode cX9_game 112 = .ok (.iconst 1, 1) := by decide +kernel
theorem dX9_game_113 : decode cX9_game 113 = .ok (.iload 8, 2) := by decide +kernel
theorem dX9_game_115 : decode cX9_game 115 = .ok (.isub, 1) := by decide +kernel
theorem dX9_game_116 : decode cX9_game 116 = .ok (.iload 9, 2) := by decide +kernel
theorem dX9_game_118 : decode cX9_game 118 = .ok (.invokevirtual 455, 3) := by decide +kernel
theorem dX9_game_121 : decode cX9_game 121 = .ok (.aload_n 0, 1) := by decide +kernel
theorem dX9_game_122 : decode cX9_game 122 = .ok (.iload_n 1, 1) := by decide +kernel
theorem dX9_game_123 : decode cX9_game 123 = .ok (.iload 4, 2) := by decide +kernel
theorem dX9_game_125 : decode cX9_game 125 = .ok (.iload 8, 2) := by decide +kernel
theorem dX9_game_127 : decode cX9_game 127 = .ok (.iload 9, 2) := by decide +kernel
theorem dX9_game_129 : decode cX9_game 129 = .ok (.invokevirtual 455, 3) := by decide +kernel
theorem dX9_game_132 : decode cX9_game 132 = .ok (.if_icmp .gt 57, 3) := by decide +kernel
theorem dX9_game_135 : decode cX9_game 135 = .ok (.aload_n 0, 1) := by decide +kernel
theorem dX9_game_136 : decode cX9_game 136 = .ok (.iload_n 2, 1) := by decide +kernel
theorem dX9_game_137 : decode cX9_game 137 = .ok (.iload 4, 2) := by decide +kernel
theorem dX9_game_139 : decode cX9_game 139 = .ok (.iconst 1, 1) := by decide +kernel
theorem dX9_game_140 : decode cX9_game 140 = .ok (.iload 9, 2) := by decide +kernel
theorem dX9_game_142 : decode cX9_game 142 = .ok (.isub, 1) := by decide +kernel
theorem dX9_game_143 : decode cX9_game 143 = .ok (.iload 8, 2) := by decide +kernel
theorem dX9_game_145 : decode cX9_game 145 = .ok (.invokevirtual 455, 3) := by decide +kernel
theorem dX9_game_148 : decode cX9_game 148 = .ok (.aload_n 0, 1) := by decide +kernel
theorem dX9_game_149 : decode cX9_game 149 = .ok (.iload_n 2, 1) := by decide +kernel
theorem dX9_game_150 : decode cX9_game 150 = .ok (.iload 4, 2) := by decide +kernel
theorem dX9_game_152 : decode cX9_game 152 = .ok (.iload 9, 2) := by decide +kernel
theorem dX9_game_154 : decode cX9_game 154 = .ok (.iload 8, 2) := by decide +kernel
theorem dX9_game_156 : decode cX9_game 156 = .ok (.invokevirtual 455, 3) := by decide +kernel
theorem dX9_game_159 : decode cX9_game 159 = .ok (.if_icmp .le 6, 3) := by decide +kernel
theorem dX9_game_162 : decode cX9_game 162 = .ok (.goto 27, 3) := by decide +kernel
theorem dX9_game_165 : decode cX9_game 165 = .ok (.iinc 5 1, 3) := by decide +kernel
theorem dX9_game_168 : decode cX9_game 168 = .ok (.iload 6, 2) := by decide +kernel
theorem dX9_game_170 : decode cX9_game 170 = .ok (.iconst (-1), 1) := by decide +kernel
theorem dX9_game_171 : decode cX9_game 171 = .ok (.if_icmp .ne 14, 3) := by decide +kernel
theorem dX9_game_174 : decode cX9_game 174 = .ok (.bipush 10, 2) := by decide +kernel
theorem dX9_game_176 : decode cX9_game 176 = .ok (.iload 8, 2) := by decide +kernel
theorem dX9_game_178 : decode cX9_game 178 = .ok (.imul, 1) := by decide +kernel
theorem dX9_game_179 : decode cX9_game 179 = .ok (.iload 9, 2) := by decide +kernel
theorem dX9_game_181 : decode cX9_game 181 = .ok (.iadd, 1) := by decide +kernel
theorem dX9_game_182 : decode cX9_game 182 = .ok (.goto 5, 3) := by decide +kernel
theorem dX9_game_185 : decode cX9_game 185 = .ok (.iload 6, 2) := by decide +kernel
theorem dX9_game_187 : decode cX9_game 187 = .ok (.istore 6, 2) := by decide +kernel
theorem dX9_game_189 : decode cX9_game 189 = .ok (.iinc 7 1, 3) := by decide +kernel
theorem dX9_game_192 : decode cX9_game 192 = .ok (.goto (-102), 3) := by decide +kernel
theorem dX9_game_195 : decode cX9_game 195 = .ok (.iload_n 3, 1) := by decide +kernel
theorem dX9_game_196 : decode cX9_game 196 = .ok (.ifCond .ne 8, 3) := by decide +kernel
theorem dX9_game_199 : decode cX9_game 199 = .ok (.iload 5, 2) := by decide +kernel
theorem dX9_game_201 : decode cX9_game 201 = .ok (.goto 5, 3) := by decide +kernel
theorem dX9_game_204 : decode cX9_game 204 = .ok (.iload 6, 2) := by decide +kernel
theorem dX9_game_206 : decode cX9_game 206 = .ok (.ireturn, 1) := by decide +kernel
theorem dX9_drawOf_0 : decode cX9_drawOf 0 = .ok (.aload_n 0, 1) := by decide +kernel
theorem dX9_drawOf_1 : decode cX9_drawOf 1 = .ok (.aload_n 0, 1) := by decide +kernel
theorem dX9_drawOf_2 : decode cX9_drawOf 2 = .ok (.getfield 459, 3) := by decide +kernel
theorem dX9_drawOf_5 : decode cX9_drawOf 5 = .ok (.ldc_w 462, 3) := by decide +kernel
theorem dX9_drawOf_8 : decode cX9_drawOf 8 = .ok (.imul, 1) := by decide +kernel
theorem dX9_drawOf_9 : decode cX9_drawOf 9 = .ok (.sipush 12345, 3) := by decide +kernel
theorem dX9_drawOf_12 : decode cX9_drawOf 12 = .ok (.iadd, 1) := by decide +kernel
theorem dX9_drawOf_13 : decode cX9_drawOf 13 = .ok (.putfield 459, 3) := by decide +kernel
theorem dX9_drawOf_16 : decode cX9_drawOf 16 = .ok (.aload_n 0, 1) := by decide +kernel
theorem dX9_drawOf_17 : decode cX9_drawOf 17 = .ok (.getfield 459, 3) := by decide +kernel
theorem dX9_drawOf_20 : decode cX9_drawOf 20 = .ok (.bipush 16, 2) := by decide +kernel
theorem dX9_drawOf_22 : decode cX9_drawOf 22 = .ok (.ishr, 1) := by decide +kernel
theorem dX9_drawOf_23 : decode cX9_drawOf 23 = .ok (.sipush 32767, 3) := by decide +kernel
theorem dX9_drawOf_26 : decode cX9_drawOf 26 = .ok (.iand, 1) := by decide +kernel
theorem dX9_drawOf_27 : decode cX9_drawOf 27 = .ok (.iload_n 1, 1) := by decide +kernel
theorem dX9_drawOf_28 : decode cX9_drawOf 28 = .ok (.irem, 1) := by decide +kernel
theorem dX9_drawOf_29 : decode cX9_drawOf 29 = .ok (.ireturn, 1) := by decide +kernel
theorem dX9_something_0 : decode cX9_something 0 = .ok (.aload_n 0, 1) := by decide +kernel
theorem dX9_something_1 : decode cX9_something 1 = .ok (.bipush 12, 2) := by decide +kernel
theorem dX9_something_3 : decode cX9_something 3 = .ok (.invokevirtual 463, 3) := by decide +kernel
theorem dX9_something_6 : decode cX9_something 6 = .ok (.istore_n 1, 1) := by decide +kernel
theorem dX9_something_7 : decode cX9_something 7 = .ok (.iload_n 1, 1) := by decide +kernel
theorem dX9_something_8 : decode cX9_something 8 = .ok (.ifCond .ne 9, 3) := by decide +kernel
theorem dX9_something_11 : decode cX9_something 11 = .ok (.aload_n 0, 1) := by decide +kernel
theorem dX9_something_12 : decode cX9_something 12 = .ok (.bipush 24, 2) := by decide +kernel
theorem dX9_something_14 : decode cX9_something 14 = .ok (.putfield 147, 3) := by decide +kernel
theorem dX9_something_17 : decode cX9_something 17 = .ok (.iload_n 1, 1) := by decide +kernel
theorem dX9_something_18 : decode cX9_something 18 = .ok (.iconst 1, 1) := by decide +kernel
theorem dX9_something_19 : decode cX9_something 19 = .ok (.if_icmp .ne 19, 3) := by decide +kernel
theorem dX9_something_22 : decode cX9_something 22 = .ok (.aload_n 0, 1) := by decide +kernel
theorem dX9_something_23 : decode cX9_something 23 = .ok (.bipush 99, 2) := by decide +kernel
theorem dX9_something_25 : decode cX9_something 25 = .ok (.aload_n 0, 1) := by decide +kernel
theorem dX9_something_26 : decode cX9_something 26 = .ok (.getfield 145, 3) := by decide +kernel
theorem dX9_something_29 : decode cX9_something 29 = .ok (.bipush 9, 2) := by decide +kernel
theorem dX9_something_31 : decode cX9_something 31 = .ok (.iadd, 1) := by decide +kernel
theorem dX9_something_32 : decode cX9_something 32 = .ok (.invokestatic 189, 3) := by decide +kernel
theorem dX9_something_35 : decode cX9_something 35 = .ok (.putfield 145, 3) := by decide +kernel
theorem dX9_something_38 : decode cX9_something 38 = .ok (.iload_n 1, 1) := by decide +kernel
theorem dX9_something_39 : decode cX9_something 39 = .ok (.iconst 2, 1) := by decide +kernel
theorem dX9_something_40 : decode cX9_something 40 = .ok (.if_icmp .ne 14, 3) := by decide +kernel
theorem dX9_something_43 : decode cX9_something 43 = .ok (.aload_n 0, 1) := by decide +kernel
theorem dX9_something_44 : decode cX9_something 44 = .ok (.aload_n 0, 1) := by decide +kernel
theorem dX9_something_45 : decode cX9_something 45 = .ok (.iconst 5, 1) := by decide +kernel
theorem dX9_something_46 : decode cX9_something 46 = .ok (.invokevirtual 463, 3) := by decide +kernel
theorem dX9_something_49 : decode cX9_something 49 = .ok (.iconst 1, 1) := by decide +kernel
theorem dX9_something_50 : decode cX9_something 50 = .ok (.iadd, 1) := by decide +kernel
theorem dX9_something_51 : decode cX9_something 51 = .ok (.putfield 314, 3) := by decide +kernel
theorem dX9_something_54 : decode cX9_something 54 = .ok (.return_, 1) := by decide +kernel
theorem dX9_years_0 : decode cX9_years 0 = .ok (.aload_n 0, 1) := by decide +kernel
theorem dX9_years_1 : decode cX9_years 1 = .ok (.iconst 0, 1) := by decide +kernel
theorem dX9_years_2 : decode cX9_years 2 = .ok (.putfield 152, 3) := by decide +kernel
theorem dX9_years_5 : decode cX9_years 5 = .ok (.iload_n 3, 1) := by decide +kernel
theorem dX9_years_6 : decode cX9_years 6 = .ok (.i2l, 1) := by decide +kernel
theorem dX9_years_7 : decode cX9_years 7 = .ok (.lconst 0, 1) := by decide +kernel
theorem dX9_years_8 : decode cX9_years 8 = .ok (.ldc2_w 384, 3) := by decide +kernel
theorem dX9_years_11 : decode cX9_years 11 = .ok (.invokestatic 155, 3) := by decide +kernel
theorem dX9_years_14 : decode cX9_years 14 = .ok (.ifCond .ne 9, 3) := by decide +kernel
theorem dX9_years_17 : decode cX9_years 17 = .ok (.aload_n 0, 1) := by decide +kernel
theorem dX9_years_18 : decode cX9_years 18 = .ok (.iconst 1, 1) := by decide +kernel
theorem dX9_years_19 : decode cX9_years 19 = .ok (.invokevirtual 299, 3) := by decide +kernel
theorem dX9_years_22 : decode cX9_years 22 = .ok (.ireturn, 1) := by decide +kernel
theorem dX9_years_23 : decode cX9_years 23 = .ok (.iload_n 2, 1) := by decide +kernel
theorem dX9_years_24 : decode cX9_years 24 = .ok (.i2l, 1) := by decide +kernel
theorem dX9_years_25 : decode cX9_years 25 = .ok (.lconst 0, 1) := by decide +kernel
theorem dX9_years_26 : decode cX9_years 26 = .ok (.ldc2_w 419, 3) := by decide +kernel
theorem dX9_years_29 : decode cX9_years 29 = .ok (.invokestatic 155, 3) := by decide +kernel
theorem dX9_years_32 : decode cX9_years 32 = .ok (.ifCond .ne 9, 3) := by decide +kernel
theorem dX9_years_35 : decode cX9_years 35 = .ok (.aload_n 0, 1) := by decide +kernel
theorem dX9_years_36 : decode cX9_years 36 = .ok (.iconst 2, 1) := by decide +kernel
theorem dX9_years_37 : decode cX9_years 37 = .ok (.invokevirtual 299, 3) := by decide +kernel
theorem dX9_years_40 : decode cX9_years 40 = .ok (.ireturn, 1) := by decide +kernel
theorem dX9_years_41 : decode cX9_years 41 = .ok (.aload_n 0, 1) := by decide +kernel
theorem dX9_years_42 : decode cX9_years 42 = .ok (.aload_n 0, 1) := by decide +kernel
theorem dX9_years_43 : decode cX9_years 43 = .ok (.getfield 106, 3) := by decide +kernel
theorem dX9_years_46 : decode cX9_years 46 = .ok (.iconst 0, 1) := by decide +kernel
theorem dX9_years_47 : decode cX9_years 47 = .ok (.invokevirtual 395, 3) := by decide +kernel
theorem dX9_years_50 : decode cX9_years 50 = .ok (.aload_n 0, 1) := by decide +kernel
theorem dX9_years_51 : decode cX9_years 51 = .ok (.iload_n 1, 1) := by decide +kernel
theorem dX9_years_52 : decode cX9_years 52 = .ok (.putfield 459, 3) := by decide +kernel
theorem dX9_years_55 : decode cX9_years 55 = .ok (.iconst 0, 1) := by decide +kernel
theorem dX9_years_56 : decode cX9_years 56 = .ok (.istore 4, 2) := by decide +kernel
theorem dX9_years_58 : decode cX9_years 58 = .ok (.iconst 0, 1) := by decide +kernel
theorem dX9_years_59 : decode cX9_years 59 = .ok (.istore 5, 2) := by decide +kernel
theorem dX9_years_61 : decode cX9_years 61 = .ok (.iload 5, 2) := by decide +kernel
theorem dX9_years_63 : decode cX9_years 63 = .ok (.iload_n 2, 1) := by decide +kernel
theorem dX9_years_64 : decode cX9_years 64 = .ok (.if_icmp .ge 35, 3) := by decide +kernel
theorem dX9_years_67 : decode cX9_years 67 = .ok (.aload_n 0, 1) := by decide +kernel
theorem dX9_years_68 : decode cX9_years 68 = .ok (.invokevirtual 466, 3) := by decide +kernel
theorem dX9_years_71 : decode cX9_years 71 = .ok (.aload_n 0, 1) := by decide +kernel
theorem dX9_years_72 : decode cX9_years 72 = .ok (.invokevirtual 375, 3) := by decide +kernel
theorem dX9_years_75 : decode cX9_years 75 = .ok (.iload 4, 2) := by decide +kernel
theorem dX9_years_77 : decode cX9_years 77 = .ok (.aload_n 0, 1) := by decide +kernel
theorem dX9_years_78 : decode cX9_years 78 = .ok (.getfield 360, 3) := by decide +kernel
theorem dX9_years_81 : decode cX9_years 81 = .ok (.iconst (-1), 1) := by decide +kernel
theorem dX9_years_82 : decode cX9_years 82 = .ok (.if_icmp .ne 7, 3) := by decide +kernel
theorem dX9_years_85 : decode cX9_years 85 = .ok (.iconst 1, 1) := by decide +kernel
theorem dX9_years_86 : decode cX9_years 86 = .ok (.goto 4, 3) := by decide +kernel
theorem dX9_years_89 : decode cX9_years 89 = .ok (.iconst 0, 1) := by decide +kernel
theorem dX9_years_90 : decode cX9_years 90 = .ok (.iadd, 1) := by decide +kernel
theorem dX9_years_91 : decode cX9_years 91 = .ok (.istore 4, 2) := by decide +kernel
theorem dX9_years_93 : decode cX9_years 93 = .ok (.iinc 5 1, 3) := by decide +kernel
theorem dX9_years_96 : decode cX9_years 96 = .ok (.goto (-35), 3) := by decide +kernel
theorem dX9_years_99 : decode cX9_years 99 = .ok (.iload_n 3, 1) := by decide +kernel
theorem dX9_years_100 : decode cX9_years 100 = .ok (.ifCond .ne 13, 3) := by decide +kernel
theorem dX9_years_103 : decode cX9_years 103 = .ok (.aload_n 0, 1) := by decide +kernel
theorem dX9_years_104 : decode cX9_years 104 = .ok (.getfield 319, 3) := by decide +kernel
theorem dX9_years_107 : decode cX9_years 107 = .ok (.invokestatic 341, 3) := by decide +kernel
theorem dX9_years_110 : decode cX9_years 110 = .ok (.goto 17, 3) := by decide +kernel
theorem dX9_years_113 : decode cX9_years 113 = .ok (.iload_n 3, 1) := by decide +kernel
theorem dX9_years_114 : decode cX9_years 114 = .ok (.iconst 1, 1) := by decide +kernel
theorem dX9_years_115 : decode cX9_years 115 = .ok (.if_icmp .ne 10, 3) := by decide +kernel
theorem dX9_years_118 : decode cX9_years 118 = .ok (.aload_n 0, 1) := by decide +kernel
theorem dX9_years_119 : decode cX9_years 119 = .ok (.getfield 317, 3) := by decide +kernel
theorem dX9_years_122 : decode cX9_years 122 = .ok (.goto 5, 3) := by decide +kernel
theorem dX9_years_125 : decode cX9_years 125 = .ok (.iload 4, 2) := by decide +kernel
theorem dX9_years_127 : decode cX9_years 127 = .ok (.istore 5, 2) := by decide +kernel
theorem dX9_years_129 : decode cX9_years 129 = .ok (.aload_n 0, 1) := by decide +kernel
theorem dX9_years_130 : decode cX9_years 130 = .ok (.aload_n 0, 1) := by decide +kernel
theorem dX9_years_131 : decode cX9_years 131 = .ok (.getfield 106, 3) := by decide +kernel
theorem dX9_years_134 : decode cX9_years 134 = .ok (.iconst 0, 1) := by decide +kernel
theorem dX9_years_135 : decode cX9_years 135 = .ok (.invokevirtual 416, 3) := by decide +kernel
theorem dX9_years_138 : decode cX9_years 138 = .ok (.iload 5, 2) := by decide +kernel
theorem dX9_years_140 : decode cX9_years 140 = .ok (.ireturn, 1) := by decide +kernel
theorem dX9_copyTo_0 : decode cX9_copyTo 0 = .ok (.iconst 0, 1) := by decide +kernel
theorem dX9_copyTo_1 : decode cX9_copyTo 1 = .ok (.istore_n 2, 1) := by decide +kernel
theorem dX9_copyTo_2 : decode cX9_copyTo 2 = .ok (.iload_n 2, 1) := by decide +kernel
theorem dX9_copyTo_3 : decode cX9_copyTo 3 = .ok (.aload_n 0, 1) := by decide +kernel
theorem dX9_copyTo_4 : decode cX9_copyTo 4 = .ok (.arraylength, 1) := by decide +kernel
theorem dX9_copyTo_5 : decode cX9_copyTo 5 = .ok (.if_icmp .ge 15, 3) := by decide +kernel
theorem dX9_copyTo_8 : decode cX9_copyTo 8 = .ok (.aload_n 0, 1) := by decide +kernel
theorem dX9_copyTo_9 : decode cX9_copyTo 9 = .ok (.iload_n 2, 1) := by decide +kernel
theorem dX9_copyTo_10 : decode cX9_copyTo 10 = .ok (.aload_n 1, 1) := by decide +kernel
theorem dX9_copyTo_11 : decode cX9_copyTo 11 = .ok (.iload_n 2, 1) := by decide +kernel
theorem dX9_copyTo_12 : decode cX9_copyTo 12 = .ok (.iaload, 1) := by decide +kernel
theorem dX9_copyTo_13 : decode cX9_copyTo 13 = .ok (.iastore, 1) := by decide +kernel
theorem dX9_copyTo_14 : decode cX9_copyTo 14 = .ok (.iinc 2 1, 3) := by decide +kernel
theorem dX9_copyTo_17 : decode cX9_copyTo 17 = .ok (.goto (-15), 3) := by decide +kernel
theorem dX9_copyTo_20 : decode cX9_copyTo 20 = .ok (.return_, 1) := by decide +kernel
theorem dX9_image_0 : decode cX9_image 0 = .ok (.aload_n 0, 1) := by decide +kernel
theorem dX9_image_1 : decode cX9_image 1 = .ok (.iconst 0, 1) := by decide +kernel
theorem dX9_image_2 : decode cX9_image 2 = .ok (.putfield 152, 3) := by decide +kernel
theorem dX9_image_5 : decode cX9_image 5 = .ok (.aload_n 0, 1) := by decide +kernel
theorem dX9_image_6 : decode cX9_image 6 = .ok (.iconst 1, 1) := by decide +kernel
theorem dX9_image_7 : decode cX9_image 7 = .ok (.putfield 327, 3) := by decide +kernel
theorem dX9_image_10 : decode cX9_image 10 = .ok (.aload_n 0, 1) := by decide +kernel
theorem dX9_image_11 : decode cX9_image 11 = .ok (.aload_n 0, 1) := by decide +kernel
theorem dX9_image_12 : decode cX9_image 12 = .ok (.getfield 321, 3) := by decide +kernel
theorem dX9_image_15 : decode cX9_image 15 = .ok (.putfield 469, 3) := by decide +kernel
theorem dX9_image_18 : decode cX9_image 18 = .ok (.aload_n 0, 1) := by decide +kernel
theorem dX9_image_19 : decode cX9_image 19 = .ok (.aload_n 0, 1) := by decide +kernel
theorem dX9_image_20 : decode cX9_image 20 = .ok (.getfield 324, 3) := by decide +kernel
theorem dX9_image_23 : decode cX9_image 23 = .ok (.putfield 472, 3) := by decide +kernel
theorem dX9_image_26 : decode cX9_image 26 = .ok (.aload_n 0, 1) := by decide +kernel
theorem dX9_image_27 : decode cX9_image 27 = .ok (.aload_n 0, 1) := by decide +kernel
theorem dX9_image_28 : decode cX9_image 28 = .ok (.getfield 130, 3) := by decide +kernel
theorem dX9_image_31 : decode cX9_image 31 = .ok (.iconst 0, 1) := by decide +kernel
theorem dX9_image_32 : decode cX9_image 32 = .ok (.invokevirtual 395, 3) := by decide +kernel
theorem dX9_image_35 : decode cX9_image 35 = .ok (.aload_n 0, 1) := by decide +kernel
theorem dX9_image_36 : decode cX9_image 36 = .ok (.getfield 133, 3) := by decide +kernel
theorem dX9_image_39 : decode cX9_image 39 = .ok (.aload_n 0, 1) := by decide +kernel
theorem dX9_image_40 : decode cX9_image 40 = .ok (.getfield 94, 3) := by decide +kernel
theorem dX9_image_43 : decode cX9_image 43 = .ok (.invokestatic 475, 3) := by decide +kernel
theorem dX9_image_46 : decode cX9_image 46 = .ok (.aload_n 0, 1) := by decide +kernel
theorem dX9_image_47 : decode cX9_image 47 = .ok (.getfield 136, 3) := by decide +kernel
theorem dX9_image_50 : decode cX9_image 50 = .ok (.aload_n 0, 1) := by decide +kernel
theorem dX9_image_51 : decode cX9_image 51 = .ok (.getfield 115, 3) := by decide +kernel
theorem dX9_image_54 : decode cX9_image 54 = .ok (.invokestatic 475, 3) := by decide +kernel
theorem dX9_image_57 : decode cX9_image 57 = .ok (.aload_n 0, 1) := by decide +kernel
theorem dX9_image_58 : decode cX9_image 58 = .ok (.getfield 139, 3) := by decide +kernel
theorem dX9_image_61 : decode cX9_image 61 = .ok (.aload_n 0, 1) := by decide +kernel
theorem dX9_image_62 : decode cX9_image 62 = .ok (.getfield 118, 3) := by decide +kernel
theorem dX9_image_65 : decode cX9_image 65 = .ok (.invokestatic 475, 3) := by decide +kernel
theorem dX9_image_68 : decode cX9_image 68 = .ok (.aload_n 0, 1) := by decide +kernel
theorem dX9_image_69 : decode cX9_image 69 = .ok (.getfield 142, 3) := by decide +kernel
theorem dX9_image_72 : decode cX9_image 72 = .ok (.aload_n 0, 1) := by decide +kernel
theorem dX9_image_73 : decode cX9_image 73 = .ok (.getfield 79, 3) := by decide +kernel
theorem dX9_image_76 : decode cX9_image 76 = .ok (.invokestatic 475, 3) := by decide +kernel
theorem dX9_image_79 : decode cX9_image 79 = .ok (.return_, 1) := by decide +kernel
theorem dX9_restore_0 : decode cX9_restore 0 = .ok (.aload_n 0, 1) := by decide +kernel
theorem dX9_restore_1 : decode cX9_restore 1 = .ok (.iconst 0, 1) := by decide +kernel
theorem dX9_restore_2 : decode cX9_restore 2 = .ok (.putfield 152, 3) := by decide +kernel
theorem dX9_restore_5 : decode cX9_restore 5 = .ok (.aload_n 0, 1) := by decide +kernel
theorem dX9_restore_6 : decode cX9_restore 6 = .ok (.getfield 327, 3) := by decide +kernel
theorem dX9_restore_9 : decode cX9_restore 9 = .ok (.ifCond .ne 5, 3) := by decide +kernel
theorem dX9_restore_12 : decode cX9_restore 12 = .ok (.iconst 0, 1) := by decide +kernel
theorem dX9_restore_13 : decode cX9_restore 13 = .ok (.ireturn, 1) := by decide +kernel
theorem dX9_restore_14 : decode cX9_restore 14 = .ok (.aload_n 0, 1) := by decide +kernel
theorem dX9_restore_15 : decode cX9_restore 15 = .ok (.aload_n 0, 1) := by decide +kernel
theorem dX9_restore_16 : decode cX9_restore 16 = .ok (.getfield 469, 3) := by decide +kernel
theorem dX9_restore_19 : decode cX9_restore 19 = .ok (.putfield 321, 3) := by decide +kernel
theorem dX9_restore_22 : decode cX9_restore 22 = .ok (.aload_n 0, 1) := by decide +kernel
theorem dX9_restore_23 : decode cX9_restore 23 = .ok (.aload_n 0, 1) := by decide +kernel
theorem dX9_restore_24 : decode cX9_restore 24 = .ok (.getfield 472, 3) := by decide +kernel
theorem dX9_restore_27 : decode cX9_restore 27 = .ok (.putfield 324, 3) := by decide +kernel
theorem dX9_restore_30 : decode cX9_restore 30 = .ok (.aload_n 0, 1) := by decide +kernel
theorem dX9_restore_31 : decode cX9_restore 31 = .ok (.aload_n 0, 1) := by decide +kernel
theorem dX9_restore_32 : decode cX9_restore 32 = .ok (.getfield 130, 3) := by decide +kernel
theorem dX9_restore_35 : decode cX9_restore 35 = .ok (.iconst 0, 1) := by decide +kernel
theorem dX9_restore_36 : decode cX9_restore 36 = .ok (.invokevirtual 416, 3) := by decide +kernel
theorem dX9_restore_39 : decode cX9_restore 39 = .ok (.aload_n 0, 1) := by decide +kernel
theorem dX9_restore_40 : decode cX9_restore 40 = .ok (.getfield 94, 3) := by decide +kernel
theorem dX9_restore_43 : decode cX9_restore 43 = .ok (.aload_n 0, 1) := by decide +kernel
theorem dX9_restore_44 : decode cX9_restore 44 = .ok (.getfield 133, 3) := by decide +kernel
theorem dX9_restore_47 : decode cX9_restore 47 = .ok (.invokestatic 475, 3) := by decide +kernel
theorem dX9_restore_50 : decode cX9_restore 50 = .ok (.aload_n 0, 1) := by decide +kernel
theorem dX9_restore_51 : decode cX9_restore 51 = .ok (.getfield 115, 3) := by decide +kernel
theorem dX9_restore_54 : decode cX9_restore 54 = .ok (.aload_n 0, 1) := by decide +kernel
theorem dX9_restore_55 : decode cX9_restore 55 = .ok (.getfield 136, 3) := by decide +kernel
theorem dX9_restore_58 : decode cX9_restore 58 = .ok (.invokestatic 475, 3) := by decide +kernel
theorem dX9_restore_61 : decode cX9_restore 61 = .ok (.aload_n 0, 1) := by decide +kernel
theorem dX9_restore_62 : decode cX9_restore 62 = .ok (.getfield 118, 3) := by decide +kernel
theorem dX9_restore_65 : decode cX9_restore 65 = .ok (.aload_n 0, 1) := by decide +kernel
theorem dX9_restore_66 : decode cX9_restore 66 = .ok (.getfield 139, 3) := by decide +kernel
theorem dX9_restore_69 : decode cX9_restore 69 = .ok (.invokestatic 475, 3) := by decide +kernel
theorem dX9_restore_72 : decode cX9_restore 72 = .ok (.aload_n 0, 1) := by decide +kernel
theorem dX9_restore_73 : decode cX9_restore 73 = .ok (.getfield 79, 3) := by decide +kernel
theorem dX9_restore_76 : decode cX9_restore 76 = .ok (.aload_n 0, 1) := by decide +kernel
theorem dX9_restore_77 : decode cX9_restore 77 = .ok (.getfield 142, 3) := by decide +kernel
theorem dX9_restore_80 : decode cX9_restore 80 = .ok (.invokestatic 475, 3) := by decide +kernel
theorem dX9_restore_83 : decode cX9_restore 83 = .ok (.iconst 1, 1) := by decide +kernel
theorem dX9_restore_84 : decode cX9_restore 84 = .ok (.ireturn, 1) := by decide +kernel
theorem dJ11_isValidCodePoint_9a6ad_0 : decode cJ11_isValidCodePoint_9a6ad 0 = .ok (.iload_n 0, 1) := by decide +kernel
theorem dJ11_isValidCodePoint_9a6ad_1 : decode cJ11_isValidCodePoint_9a6ad 1 = .ok (.bipush 16, 2) := by decide +kernel
theorem dJ11_isValidCodePoint_9a6ad_3 : decode cJ11_isValidCodePoint_9a6ad 3 = .ok (.iushr, 1) := by decide +kernel
theorem dJ11_isValidCodePoint_9a6ad_4 : decode cJ11_isValidCodePoint_9a6ad 4 = .ok (.istore_n 1, 1) := by decide +kernel
theorem dJ11_isValidCodePoint_9a6ad_5 : decode cJ11_isValidCodePoint_9a6ad 5 = .ok (.iload_n 1, 1) := by decide +kernel
theorem dJ11_isValidCodePoint_9a6ad_6 : decode cJ11_isValidCodePoint_9a6ad 6 = .ok (.bipush 17, 2) := by decide +kernel
theorem dJ11_isValidCodePoint_9a6ad_8 : decode cJ11_isValidCodePoint_9a6ad 8 = .ok (.if_icmp .ge 7, 3) := by decide +kernel
theorem dJ11_isValidCodePoint_9a6ad_11 : decode cJ11_isValidCodePoint_9a6ad 11 = .ok (.iconst 1, 1) := by decide +kernel
theorem dJ11_isValidCodePoint_9a6ad_12 : decode cJ11_isValidCodePoint_9a6ad 12 = .ok (.goto 4, 3) := by decide +kernel
theorem dJ11_isValidCodePoint_9a6ad_15 : decode cJ11_isValidCodePoint_9a6ad 15 = .ok (.iconst 0, 1) := by decide +kernel
theorem dJ11_isValidCodePoint_9a6ad_16 : decode cJ11_isValidCodePoint_9a6ad 16 = .ok (.ireturn, 1) := by decide +kernel
theorem dJ11_highSurrogate_5068e_0 : decode cJ11_highSurrogate_5068e 0 = .ok (.iload_n 0, 1) := by decide +kernel
theorem dJ11_highSurrogate_5068e_1 : decode cJ11_highSurrogate_5068e 1 = .ok (.bipush 10, 2) := by decide +kernel
theorem dJ11_highSurrogate_5068e_3 : decode cJ11_highSurrogate_5068e 3 = .ok (.iushr, 1) := by decide +kernel
theorem dJ11_highSurrogate_5068e_4 : decode cJ11_highSurrogate_5068e 4 = .ok (.ldc 110, 2) := by decide +kernel
theorem dJ11_highSurrogate_5068e_6 : decode cJ11_highSurrogate_5068e 6 = .ok (.iadd, 1) := by decide +kernel
theorem dJ11_highSurrogate_5068e_7 : decode cJ11_highSurrogate_5068e 7 = .ok (.i2c, 1) := by decide +kernel
theorem dJ11_highSurrogate_5068e_8 : decode cJ11_highSurrogate_5068e 8 = .ok (.ireturn, 1) := by decide +kernel
theorem dJ11_lowSurrogate_5068e_0 : decode cJ11_lowSurrogate_5068e 0 = .ok (.iload_n 0, 1) := by decide +kernel
theorem dJ11_lowSurrogate_5068e_1 : decode cJ11_lowSurrogate_5068e 1 = .ok (.sipush 1023, 3) := by decide +kernel
theorem dJ11_lowSurrogate_5068e_4 : decode cJ11_lowSurrogate_5068e 4 = .ok (.iand, 1) := by decide +kernel
theorem dJ11_lowSurrogate_5068e_5 : decode cJ11_lowSurrogate_5068e 5 = .ok (.ldc 76, 2) := by decide +kernel
theorem dJ11_lowSurrogate_5068e_7 : decode cJ11_lowSurrogate_5068e 7 = .ok (.iadd, 1) := by decide +kernel
theorem dJ11_lowSurrogate_5068e_8 : decode cJ11_lowSurrogate_5068e 8 = .ok (.i2c, 1) := by decide +kernel
theorem dJ11_lowSurrogate_5068e_9 : decode cJ11_lowSurrogate_5068e 9 = .ok (.ireturn, 1) := by decide +kernel
theorem dJ6_bitCount_0f7a4_0 : decode cJ6_bitCount_0f7a4 0 = .ok (.iload_n 0, 1) := by decide +kernel
theorem dJ6_bitCount_0f7a4_1 : decode cJ6_bitCount_0f7a4 1 = .ok (.iload_n 0, 1) := by decide +kernel
theorem dJ6_bitCount_0f7a4_2 : decode cJ6_bitCount_0f7a4 2 = .ok (.iconst 1, 1) := by decide +kernel
theorem dJ6_bitCount_0f7a4_3 : decode cJ6_bitCount_0f7a4 3 = .ok (.iushr, 1) := by decide +kernel
theorem dJ6_bitCount_0f7a4_4 : decode cJ6_bitCount_0f7a4 4 = .ok (.ldc_w 265, 3) := by decide +kernel
theorem dJ6_bitCount_0f7a4_7 : decode cJ6_bitCount_0f7a4 7 = .ok (.iand, 1) := by decide +kernel
theorem dJ6_bitCount_0f7a4_8 : decode cJ6_bitCount_0f7a4 8 = .ok (.isub, 1) := by decide +kernel
theorem dJ6_bitCount_0f7a4_9 : decode cJ6_bitCount_0f7a4 9 = .ok (.istore_n 0, 1) := by decide +kernel
theorem dJ6_bitCount_0f7a4_10 : decode cJ6_bitCount_0f7a4 10 = .ok (.iload_n 0, 1) := by decide +kernel
theorem dJ6_bitCount_0f7a4_11 : decode cJ6_bitCount_0f7a4 11 = .ok (.ldc_w 266, 3) := by decide +kernel
theorem dJ6_bitCount_0f7a4_14 : decode cJ6_bitCount_0f7a4 14 = .ok (.iand, 1) := by decide +kernel
theorem dJ6_bitCount_0f7a4_15 : decode cJ6_bitCount_0f7a4 15 = .ok (.iload_n 0, 1) := by decide +kernel
theorem dJ6_bitCount_0f7a4_16 : decode cJ6_bitCount_0f7a4 16 = .ok (.iconst 2, 1) := by decide +kernel
theorem dJ6_bitCount_0f7a4_17 : decode cJ6_bitCount_0f7a4 17 = .ok (.iushr, 1) := by decide +kernel
theorem dJ6_bitCount_0f7a4_18 : decode cJ6_bitCount_0f7a4 18 = .ok (.ldc_w 266, 3) := by decide +kernel
theorem dJ6_bitCount_0f7a4_21 : decode cJ6_bitCount_0f7a4 21 = .ok (.iand, 1) := by decide +kernel
theorem dJ6_bitCount_0f7a4_22 : decode cJ6_bitCount_0f7a4 22 = .ok (.iadd, 1) := by decide +kernel
theorem dJ6_bitCount_0f7a4_23 : decode cJ6_bitCount_0f7a4 23 = .ok (.istore_n 0, 1) := by decide +kernel
theorem dJ6_bitCount_0f7a4_24 : decode cJ6_bitCount_0f7a4 24 = .ok (.iload_n 0, 1) := by decide +kernel
theorem dJ6_bitCount_0f7a4_25 : decode cJ6_bitCount_0f7a4 25 = .ok (.iload_n 0, 1) := by decide +kernel
theorem dJ6_bitCount_0f7a4_26 : decode cJ6_bitCount_0f7a4 26 = .ok (.iconst 4, 1) := by decide +kernel
theorem dJ6_bitCount_0f7a4_27 : decode cJ6_bitCount_0f7a4 27 = .ok (.iushr, 1) := by decide +kernel
theorem dJ6_bitCount_0f7a4_28 : decode cJ6_bitCount_0f7a4 28 = .ok (.iadd, 1) := by decide +kernel
theorem dJ6_bitCount_0f7a4_29 : decode cJ6_bitCount_0f7a4 29 = .ok (.ldc_w 267, 3) := by decide +kernel
theorem dJ6_bitCount_0f7a4_32 : decode cJ6_bitCount_0f7a4 32 = .ok (.iand, 1) := by decide +kernel
theorem dJ6_bitCount_0f7a4_33 : decode cJ6_bitCount_0f7a4 33 = .ok (.istore_n 0, 1) := by decide +kernel
theorem dJ6_bitCount_0f7a4_34 : decode cJ6_bitCount_0f7a4 34 = .ok (.iload_n 0, 1) := by decide +kernel
theorem dJ6_bitCount_0f7a4_35 : decode cJ6_bitCount_0f7a4 35 = .ok (.iload_n 0, 1) := by decide +kernel
theorem dJ6_bitCount_0f7a4_36 : decode cJ6_bitCount_0f7a4 36 = .ok (.bipush 8, 2) := by decide +kernel
theorem dJ6_bitCount_0f7a4_38 : decode cJ6_bitCount_0f7a4 38 = .ok (.iushr, 1) := by decide +kernel
theorem dJ6_bitCount_0f7a4_39 : decode cJ6_bitCount_0f7a4 39 = .ok (.iadd, 1) := by decide +kernel
theorem dJ6_bitCount_0f7a4_40 : decode cJ6_bitCount_0f7a4 40 = .ok (.istore_n 0, 1) := by decide +kernel
theorem dJ6_bitCount_0f7a4_41 : decode cJ6_bitCount_0f7a4 41 = .ok (.iload_n 0, 1) := by decide +kernel
theorem dJ6_bitCount_0f7a4_42 : decode cJ6_bitCount_0f7a4 42 = .ok (.iload_n 0, 1) := by decide +kernel
theorem dJ6_bitCount_0f7a4_43 : decode cJ6_bitCount_0f7a4 43 = .ok (.bipush 16, 2) := by decide +kernel
theorem dJ6_bitCount_0f7a4_45 : decode cJ6_bitCount_0f7a4 45 = .ok (.iushr, 1) := by decide +kernel
theorem dJ6_bitCount_0f7a4_46 : decode cJ6_bitCount_0f7a4 46 = .ok (.iadd, 1) := by decide +kernel
theorem dJ6_bitCount_0f7a4_47 : decode cJ6_bitCount_0f7a4 47 = .ok (.istore_n 0, 1) := by decide +kernel
theorem dJ6_bitCount_0f7a4_48 : decode cJ6_bitCount_0f7a4 48 = .ok (.iload_n 0, 1) := by decide +kernel
theorem dJ6_bitCount_0f7a4_49 : decode cJ6_bitCount_0f7a4 49 = .ok (.bipush 63, 2) := by decide +kernel
theorem dJ6_bitCount_0f7a4_51 : decode cJ6_bitCount_0f7a4 51 = .ok (.iand, 1) := by decide +kernel
theorem dJ6_bitCount_0f7a4_52 : decode cJ6_bitCount_0f7a4 52 = .ok (.ireturn, 1) := by decide +kernel
theorem dJ9_max_7cf53_0 : decode cJ9_max_7cf53 0 = .ok (.iload_n 0, 1) := by decide +kernel
theorem dJ9_max_7cf53_1 : decode cJ9_max_7cf53 1 = .ok (.iload_n 1, 1) := by decide +kernel
theorem dJ9_max_7cf53_2 : decode cJ9_max_7cf53 2 = .ok (.if_icmp .lt 7, 3) := by decide +kernel
theorem dJ9_max_7cf53_5 : decode cJ9_max_7cf53 5 = .ok (.iload_n 0, 1) := by decide +kernel
theorem dJ9_max_7cf53_6 : decode cJ9_max_7cf53 6 = .ok (.goto 4, 3) := by decide +kernel
theorem dJ9_max_7cf53_9 : decode cJ9_max_7cf53 9 = .ok (.iload_n 1, 1) := by decide +kernel
theorem dJ9_max_7cf53_10 : decode cJ9_max_7cf53 10 = .ok (.ireturn, 1) := by decide +kernel
theorem dJ9_min_7cf53_0 : decode cJ9_min_7cf53 0 = .ok (.iload_n 0, 1) := by decide +kernel
theorem dJ9_min_7cf53_1 : decode cJ9_min_7cf53 1 = .ok (.iload_n 1, 1) := by decide +kernel
theorem dJ9_min_7cf53_2 : decode cJ9_min_7cf53 2 = .ok (.if_icmp .gt 7, 3) := by decide +kernel
theorem dJ9_min_7cf53_5 : decode cJ9_min_7cf53 5 = .ok (.iload_n 0, 1) := by decide +kernel
theorem dJ9_min_7cf53_6 : decode cJ9_min_7cf53 6 = .ok (.goto 4, 3) := by decide +kernel
theorem dJ9_min_7cf53_9 : decode cJ9_min_7cf53 9 = .ok (.iload_n 1, 1) := by decide +kernel
theorem dJ9_min_7cf53_10 : decode cJ9_min_7cf53 10 = .ok (.ireturn, 1) := by decide +kernel
theorem dJ0_length_8abf5_0 : decode cJ0_length_8abf5 0 = .ok (.aload_n 0, 1) := by decide +kernel
theorem dJ0_length_8abf5_1 : decode cJ0_length_8abf5 1 = .ok (.getfield 9, 3) := by decide +kernel
theorem dJ0_length_8abf5_4 : decode cJ0_length_8abf5 4 = .ok (.arraylength, 1) := by decide +kernel
theorem dJ0_length_8abf5_5 : decode cJ0_length_8abf5 5 = .ok (.aload_n 0, 1) := by decide +kernel
theorem dJ0_length_8abf5_6 : decode cJ0_length_8abf5 6 = .ok (.invokevirtual 335, 3) := by decide +kernel
theorem dJ0_length_8abf5_9 : decode cJ0_length_8abf5 9 = .ok (.ishr, 1) := by decide +kernel
theorem dJ0_length_8abf5_10 : decode cJ0_length_8abf5 10 = .ok (.ireturn, 1) := by decide +kernel
theorem dJ0_charAt_5068e_0 : decode cJ0_charAt_5068e 0 = .ok (.aload_n 0, 1) := by decide +kernel
theorem dJ0_charAt_5068e_1 : decode cJ0_charAt_5068e 1 = .ok (.invokevirtual 492, 3) := by decide +kernel
theorem dJ0_charAt_5068e_4 : decode cJ0_charAt_5068e 4 = .ok (.ifCond .eq 12, 3) := by decide +kernel
theorem dJ0_charAt_5068e_7 : decode cJ0_charAt_5068e 7 = .ok (.aload_n 0, 1) := by decide +kernel
theorem dJ0_charAt_5068e_8 : decode cJ0_charAt_5068e 8 = .ok (.getfield 9, 3) := by decide +kernel
theorem dJ0_charAt_5068e_11 : decode cJ0_charAt_5068e 11 = .ok (.iload_n 1, 1) := by decide +kernel
theorem dJ0_charAt_5068e_12 : decode cJ0_charAt_5068e 12 = .ok (.invokestatic 495, 3) := by decide +kernel
theorem dJ0_charAt_5068e_15 : decode cJ0_charAt_5068e 15 = .ok (.ireturn, 1) := by decide +kernel
theorem dJ0_charAt_5068e_16 : decode cJ0_charAt_5068e 16 = .ok (.aload_n 0, 1) := by decide +kernel
theorem dJ0_charAt_5068e_17 : decode cJ0_charAt_5068e 17 = .ok (.getfield 9, 3) := by decide +kernel
theorem dJ0_charAt_5068e_20 : decode cJ0_charAt_5068e 20 = .ok (.iload_n 1, 1) := by decide +kernel
theorem dJ0_charAt_5068e_21 : decode cJ0_charAt_5068e 21 = .ok (.invokestatic 498, 3) := by decide +kernel
theorem dJ0_charAt_5068e_24 : decode cJ0_charAt_5068e 24 = .ok (.ireturn, 1) := by decide +kernel
theorem dJ0_indexOf_0f7a4_0 : decode cJ0_indexOf_0f7a4 0 = .ok (.aload_n 0, 1) := by decide +kernel
theorem dJ0_indexOf_0f7a4_1 : decode cJ0_indexOf_0f7a4 1 = .ok (.iload_n 1, 1) := by decide +kernel
theorem dJ0_indexOf_0f7a4_2 : decode cJ0_indexOf_0f7a4 2 = .ok (.iconst 0, 1) := by decide +kernel
theorem dJ0_indexOf_0f7a4_3 : decode cJ0_indexOf_0f7a4 3 = .ok (.invokevirtual 633, 3) := by decide +kernel
theorem dJ0_indexOf_0f7a4_6 : decode cJ0_indexOf_0f7a4 6 = .ok (.ireturn, 1) := by decide +kernel
theorem dJ0_indexOf_7cf53_0 : decode cJ0_indexOf_7cf53 0 = .ok (.aload_n 0, 1) := by decide +kernel
theorem dJ0_indexOf_7cf53_1 : decode cJ0_indexOf_7cf53 1 = .ok (.invokevirtual 492, 3) := by decide +kernel
theorem dJ0_indexOf_7cf53_4 : decode cJ0_indexOf_7cf53 4 = .ok (.ifCond .eq 19, 3) := by decide +kernel
theorem dJ0_indexOf_7cf53_7 : decode cJ0_indexOf_7cf53 7 = .ok (.aload_n 0, 1) := by decide +kernel
theorem dJ0_indexOf_7cf53_8 : decode cJ0_indexOf_7cf53 8 = .ok (.getfield 9, 3) := by decide +kernel
theorem dJ0_indexOf_7cf53_11 : decode cJ0_indexOf_7cf53 11 = .ok (.iload_n 1, 1) := by decide +kernel
theorem dJ0_indexOf_7cf53_12 : decode cJ0_indexOf_7cf53 12 = .ok (.iload_n 2, 1) := by decide +kernel
theorem dJ0_indexOf_7cf53_13 : decode cJ0_indexOf_7cf53 13 = .ok (.aload_n 0, 1) := by decide +kernel
theorem dJ0_indexOf_7cf53_14 : decode cJ0_indexOf_7cf53 14 = .ok (.invokevirtual 505, 3) := by decide +kernel
theorem dJ0_indexOf_7cf53_17 : decode cJ0_indexOf_7cf53 17 = .ok (.invokestatic 637, 3) := by decide +kernel
theorem dJ0_indexOf_7cf53_20 : decode cJ0_indexOf_7cf53 20 = .ok (.goto 16, 3) := by decide +kernel
theorem dJ0_indexOf_7cf53_23 : decode cJ0_indexOf_7cf53 23 = .ok (.aload_n 0, 1) := by decide +kernel
theorem dJ0_indexOf_7cf53_24 : decode cJ0_indexOf_7cf53 24 = .ok (.getfield 9, 3) := by decide +kernel
theorem dJ0_indexOf_7cf53_27 : decode cJ0_indexOf_7cf53 27 = .ok (.iload_n 1, 1) := by decide +kernel
theorem dJ0_indexOf_7cf53_28 : decode cJ0_indexOf_7cf53 28 = .ok (.iload_n 2, 1) := by decide +kernel
theorem dJ0_indexOf_7cf53_29 : decode cJ0_indexOf_7cf53 29 = .ok (.aload_n 0, 1) := by decide +kernel
theorem dJ0_indexOf_7cf53_30 : decode cJ0_indexOf_7cf53 30 = .ok (.invokevirtual 505, 3) := by decide +kernel
theorem dJ0_indexOf_7cf53_33 : decode cJ0_indexOf_7cf53 33 = .ok (.invokestatic 640, 3) := by decide +kernel
theorem dJ0_indexOf_7cf53_36 : decode cJ0_indexOf_7cf53 36 = .ok (.ireturn, 1) := by decide +kernel
theorem dJ0_coder_7d493_0 : decode cJ0_coder_7d493 0 = .ok (.getstatic 38, 3) := by decide +kernel
theorem dJ0_coder_7d493_3 : decode cJ0_coder_7d493 3 = .ok (.ifCond .eq 10, 3) := by decide +kernel
theorem dJ0_coder_7d493_6 : decode cJ0_coder_7d493 6 = .ok (.aload_n 0, 1) := by decide +kernel
theorem dJ0_coder_7d493_7 : decode cJ0_coder_7d493 7 = .ok (.getfield 15, 3) := by decide +kernel
theorem dJ0_coder_7d493_10 : decode cJ0_coder_7d493 10 = .ok (.goto 4, 3) := by decide +kernel
theorem dJ0_coder_7d493_13 : decode cJ0_coder_7d493 13 = .ok (.iconst 1, 1) := by decide +kernel
theorem dJ0_coder_7d493_14 : decode cJ0_coder_7d493 14 = .ok (.ireturn, 1) := by decide +kernel
theorem dJ0_isLatin1_aae02_0 : decode cJ0_isLatin1_aae02 0 = .ok (.getstatic 38, 3) := by decide +kernel
theorem dJ0_isLatin1_aae02_3 : decode cJ0_isLatin1_aae02 3 = .ok (.ifCond .eq 14, 3) := by decide +kernel
theorem dJ0_isLatin1_aae02_6 : decode cJ0_isLatin1_aae02 6 = .ok (.aload_n 0, 1) := by decide +kernel
theorem dJ0_isLatin1_aae02_7 : decode cJ0_isLatin1_aae02 7 = .ok (.getfield 15, 3) := by decide +kernel
theorem dJ0_isLatin1_aae02_10 : decode cJ0_isLatin1_aae02 10 = .ok (.ifCond .ne 7, 3) := by decide +kernel
theorem dJ0_isLatin1_aae02_13 : decode cJ0_isLatin1_aae02 13 = .ok (.iconst 1, 1) := by decide +kernel
theorem dJ0_isLatin1_aae02_14 : decode cJ0_isLatin1_aae02 14 = .ok (.goto 4, 3) := by decide +kernel
theorem dJ0_isLatin1_aae02_17 : decode cJ0_isLatin1_aae02 17 = .ok (.iconst 0, 1) := by decide +kernel
theorem dJ0_isLatin1_aae02_18 : decode cJ0_isLatin1_aae02 18 = .ok (.ireturn, 1) := by decide +kernel
theorem dJ0_checkIndex_df160_0 : decode cJ0_checkIndex_df160 0 = .ok (.iload_n 0, 1) := by decide +kernel
theorem dJ0_checkIndex_df160_1 : decode cJ0_checkIndex_df160 1 = .ok (.iload_n 1, 1) := by decide +kernel
theorem dJ0_checkIndex_df160_2 : decode cJ0_checkIndex_df160 2 = .ok (.getstatic 1053, 3) := by decide +kernel
theorem dJ0_checkIndex_df160_5 : decode cJ0_checkIndex_df160 5 = .ok (.invokestatic 1059, 3) := by decide +kernel
theorem dJ0_checkIndex_df160_8 : decode cJ0_checkIndex_df160 8 = .ok (.pop, 1) := by decide +kernel
theorem dJ0_checkIndex_df160_9 : decode cJ0_checkIndex_df160 9 = .ok (.return_, 1) := by decide +kernel
theorem dJ0_checkBoundsBeginEnd_23922_0 : decode cJ0_checkBoundsBeginEnd_23922 0 = .ok (.iload_n 0, 1) := by decide +kernel
theorem dJ0_checkBoundsBeginEnd_23922_1 : decode cJ0_checkBoundsBeginEnd_23922 1 = .ok (.iload_n 1, 1) := by decide +kernel
theorem dJ0_checkBoundsBeginEnd_23922_2 : decode cJ0_checkBoundsBeginEnd_23922 2 = .ok (.iload_n 2, 1) := by decide +kernel
theorem dJ0_checkBoundsBeginEnd_23922_3 : decode cJ0_checkBoundsBeginEnd_23922 3 = .ok (.getstatic 1053, 3) := by decide +kernel
theorem dJ0_checkBoundsBeginEnd_23922_6 : decode cJ0_checkBoundsBeginEnd_23922 6 = .ok (.invokestatic 1062, 3) := by decide +kernel
theorem dJ0_checkBoundsBeginEnd_23922_9 : decode cJ0_checkBoundsBeginEnd_23922 9 = .ok (.pop, 1) := by decide +kernel
theorem dJ0_checkBoundsBeginEnd_23922_10 : decode cJ0_checkBoundsBeginEnd_23922 10 = .ok (.return_, 1) := by decide +kernel
theorem dJ1_charAt_3b067_0 : decode cJ1_charAt_3b067 0 = .ok (.iload_n 1, 1) := by decide +kernel
theorem dJ1_charAt_3b067_1 : decode cJ1_charAt_3b067 1 = .ok (.aload_n 0, 1) := by decide +kernel
theorem dJ1_charAt_3b067_2 : decode cJ1_charAt_3b067 2 = .ok (.arraylength, 1) := by decide +kernel
theorem dJ1_charAt_3b067_3 : decode cJ1_charAt_3b067 3 = .ok (.invokestatic 9, 3) := by decide +kernel
theorem dJ1_charAt_3b067_6 : decode cJ1_charAt_3b067 6 = .ok (.aload_n 0, 1) := by decide +kernel
theorem dJ1_charAt_3b067_7 : decode cJ1_charAt_3b067 7 = .ok (.iload_n 1, 1) := by decide +kernel
theorem dJ1_charAt_3b067_8 : decode cJ1_charAt_3b067 8 = .ok (.baload, 1) := by decide +kernel
theorem dJ1_charAt_3b067_9 : decode cJ1_charAt_3b067 9 = .ok (.sipush 255, 3) := by decide +kernel
theorem dJ1_charAt_3b067_12 : decode cJ1_charAt_3b067 12 = .ok (.iand, 1) := by decide +kernel
theorem dJ1_charAt_3b067_13 : decode cJ1_charAt_3b067 13 = .ok (.i2c, 1) := by decide +kernel
theorem dJ1_charAt_3b067_14 : decode cJ1_charAt_3b067 14 = .ok (.ireturn, 1) := by decide +kernel
theorem dJ1_canEncode_9a6ad_0 : decode cJ1_canEncode_9a6ad 0 = .ok (.iload_n 0, 1) := by decide +kernel
theorem dJ1_canEncode_9a6ad_1 : decode cJ1_canEncode_9a6ad 1 = .ok (.ifCond .lt 14, 3) := by decide +kernel
theorem dJ1_canEncode_9a6ad_4 : decode cJ1_canEncode_9a6ad 4 = .ok (.iload_n 0, 1) := by decide +kernel
theorem dJ1_canEncode_9a6ad_5 : decode cJ1_canEncode_9a6ad 5 = .ok (.sipush 255, 3) := by decide +kernel
theorem dJ1_canEncode_9a6ad_8 : decode cJ1_canEncode_9a6ad 8 = .ok (.if_icmp .gt 7, 3) := by decide +kernel
theorem dJ1_canEncode_9a6ad_11 : decode cJ1_canEncode_9a6ad 11 = .ok (.iconst 1, 1) := by decide +kernel
theorem dJ1_canEncode_9a6ad_12 : decode cJ1_canEncode_9a6ad 12 = .ok (.goto 4, 3) := by decide +kernel
theorem dJ1_canEncode_9a6ad_15 : decode cJ1_canEncode_9a6ad 15 = .ok (.iconst 0, 1) := by decide +kernel
theorem dJ1_canEncode_9a6ad_16 : decode cJ1_canEncode_9a6ad 16 = .ok (.ireturn, 1) := by decide +kernel
theorem dJ1_indexOf_4cfef_0 : decode cJ1_indexOf_4cfef 0 = .ok (.iload_n 1, 1) := by decide +kernel
theorem dJ1_indexOf_4cfef_1 : decode cJ1_indexOf_4cfef 1 = .ok (.invokestatic 88, 3) := by decide +kernel
theorem dJ1_indexOf_4cfef_4 : decode cJ1_indexOf_4cfef 4 = .ok (.ifCond .ne 5, 3) := by decide +kernel
theorem dJ1_indexOf_4cfef_7 : decode cJ1_indexOf_4cfef 7 = .ok (.iconst (-1), 1) := by decide +kernel
theorem dJ1_indexOf_4cfef_8 : decode cJ1_indexOf_4cfef 8 = .ok (.ireturn, 1) := by decide +kernel
theorem dJ1_indexOf_4cfef_9 : decode cJ1_indexOf_4cfef 9 = .ok (.iload_n 2, 1) := by decide +kernel
theorem dJ1_indexOf_4cfef_10 : decode cJ1_indexOf_4cfef 10 = .ok (.iconst 0, 1) := by decide +kernel
theorem dJ1_indexOf_4cfef_11 : decode cJ1_indexOf_4cfef 11 = .ok (.invokestatic 92, 3) := by decide +kernel
theorem dJ1_indexOf_4cfef_14 : decode cJ1_indexOf_4cfef 14 = .ok (.istore_n 2, 1) := by decide +kernel
theorem dJ1_indexOf_4cfef_15 : decode cJ1_indexOf_4cfef 15 = .ok (.iload_n 3, 1) := by decide +kernel
theorem dJ1_indexOf_4cfef_16 : decode cJ1_indexOf_4cfef 16 = .ok (.aload_n 0, 1) := by decide +kernel
theorem dJ1_indexOf_4cfef_17 : decode cJ1_indexOf_4cfef 17 = .ok (.arraylength, 1) := by decide +kernel
theorem dJ1_indexOf_4cfef_18 : decode cJ1_indexOf_4cfef 18 = .ok (.invokestatic 38, 3) := by decide +kernel
theorem dJ1_indexOf_4cfef_21 : decode cJ1_indexOf_4cfef 21 = .ok (.istore_n 3, 1) := by decide +kernel
theorem dJ1_indexOf_4cfef_22 : decode cJ1_indexOf_4cfef 22 = .ok (.iload_n 2, 1) := by decide +kernel
theorem dJ1_indexOf_4cfef_23 : decode cJ1_indexOf_4cfef 23 = .ok (.iload_n 3, 1) := by decide +kernel
theorem dJ1_indexOf_4cfef_24 : decode cJ1_indexOf_4cfef 24 = .ok (.if_icmp .lt 5, 3) := by decide +kernel
theorem dJ1_indexOf_4cfef_27 : decode cJ1_indexOf_4cfef 27 = .ok (.iconst (-1), 1) := by decide +kernel
theorem dJ1_indexOf_4cfef_28 : decode cJ1_indexOf_4cfef 28 = .ok (.ireturn, 1) := by decide +kernel
theorem dJ1_indexOf_4cfef_29 : decode cJ1_indexOf_4cfef 29 = .ok (.aload_n 0, 1) := by decide +kernel
theorem dJ1_indexOf_4cfef_30 : decode cJ1_indexOf_4cfef 30 = .ok (.iload_n 1, 1) := by decide +kernel
theorem dJ1_indexOf_4cfef_31 : decode cJ1_indexOf_4cfef 31 = .ok (.iload_n 2, 1) := by decide +kernel
theorem dJ1_indexOf_4cfef_32 : decode cJ1_indexOf_4cfef 32 = .ok (.iload_n 3, 1) := by decide +kernel
theorem dJ1_indexOf_4cfef_33 : decode cJ1_indexOf_4cfef 33 = .ok (.invokestatic 95, 3) := by decide +kernel
theorem dJ1_indexOf_4cfef_36 : decode cJ1_indexOf_4cfef 36 = .ok (.ireturn, 1) := by decide +kernel
theorem dJ1_indexOfChar_4cfef_0 : decode cJ1_indexOfChar_4cfef 0 = .ok (.iload_n 1, 1) := by decide +kernel
theorem dJ1_indexOfChar_4cfef_1 : decode cJ1_indexOfChar_4cfef 1 = .ok (.i2b, 1) := by decide +kernel
theorem dJ1_indexOfChar_4cfef_2 : decode cJ1_indexOfChar_4cfef 2 = .ok (.istore 4, 2) := by decide +kernel
theorem dJ1_indexOfChar_4cfef_4 : decode cJ1_indexOfChar_4cfef 4 = .ok (.iload_n 2, 1) := by decide +kernel
theorem dJ1_indexOfChar_4cfef_5 : decode cJ1_indexOfChar_4cfef 5 = .ok (.istore 5, 2) := by decide +kernel
theorem dJ1_indexOfChar_4cfef_7 : decode cJ1_indexOfChar_4cfef 7 = .ok (.iload 5, 2) := by decide +kernel
theorem dJ1_indexOfChar_4cfef_9 : decode cJ1_indexOfChar_4cfef 9 = .ok (.iload_n 3, 1) := by decide +kernel
theorem dJ1_indexOfChar_4cfef_10 : decode cJ1_indexOfChar_4cfef 10 = .ok (.if_icmp .ge 21, 3) := by decide +kernel
theorem dJ1_indexOfChar_4cfef_13 : decode cJ1_indexOfChar_4cfef 13 = .ok (.aload_n 0, 1) := by decide +kernel
theorem dJ1_indexOfChar_4cfef_14 : decode cJ1_indexOfChar_4cfef 14 = .ok (.iload 5, 2) := by decide +kernel
theorem dJ1_indexOfChar_4cfef_16 : decode cJ1_indexOfChar_4cfef 16 = .ok (.baload, 1) := by decide +kernel
theorem dJ1_indexOfChar_4cfef_17 : decode cJ1_indexOfChar_4cfef 17 = .ok (.iload 4, 2) := by decide +kernel
theorem dJ1_indexOfChar_4cfef_19 : decode cJ1_indexOfChar_4cfef 19 = .ok (.if_icmp .ne 6, 3) := by decide +kernel
theorem dJ1_indexOfChar_4cfef_22 : decode cJ1_indexOfChar_4cfef 22 = .ok (.iload 5, 2) := by decide +kernel
theorem dJ1_indexOfChar_4cfef_24 : decode cJ1_indexOfChar_4cfef 24 = .ok (.ireturn, 1) := by decide +kernel
theorem dJ1_indexOfChar_4cfef_25 : decode cJ1_indexOfChar_4cfef 25 = .ok (.iinc 5 1, 3) := by decide +kernel
theorem dJ1_indexOfChar_4cfef_28 : decode cJ1_indexOfChar_4cfef 28 = .ok (.goto (-21), 3) := by decide +kernel
theorem dJ1_indexOfChar_4cfef_31 : decode cJ1_indexOfChar_4cfef 31 = .ok (.iconst (-1), 1) := by decide +kernel
theorem dJ1_indexOfChar_4cfef_32 : decode cJ1_indexOfChar_4cfef 32 = .ok (.ireturn, 1) := by decide +kernel
theorem dJ2_getChar_3b067_0 : decode cJ2_getChar_3b067 0 = .ok (.getstatic 44, 3) := by decide +kernel
theorem dJ2_getChar_3b067_3 : decode cJ2_getChar_3b067 3 = .ok (.ifCond .ne 25, 3) := by decide +kernel
theorem dJ2_getChar_3b067_6 : decode cJ2_getChar_3b067 6 = .ok (.iload_n 1, 1) := by decide +kernel
theorem dJ2_getChar_3b067_7 : decode cJ2_getChar_3b067 7 = .ok (.ifCond .lt 11, 3) := by decide +kernel
theorem dJ2_getChar_3b067_10 : decode cJ2_getChar_3b067 10 = .ok (.iload_n 1, 1) := by decide +kernel
theorem dJ2_getChar_3b067_11 : decode cJ2_getChar_3b067 11 = .ok (.aload_n 0, 1) := by decide +kernel
theorem dJ2_getChar_3b067_12 : decode cJ2_getChar_3b067 12 = .ok (.invokestatic 48, 3) := by decide +kernel
theorem dJ2_getChar_3b067_15 : decode cJ2_getChar_3b067 15 = .ok (.if_icmp .lt 13, 3) := by decide +kernel
theorem dJ2_getChar_3b067_18 : decode cJ2_getChar_3b067 18 = .ok (.new 52, 3) := by decide +kernel
theorem dJ2_getChar_3b067_21 : decode cJ2_getChar_3b067 21 = .ok (.dup, 1) := by decide +kernel
theorem dJ2_getChar_3b067_22 : decode cJ2_getChar_3b067 22 = .ok (.ldc 54, 2) := by decide +kernel
theorem dJ2_getChar_3b067_24 : decode cJ2_getChar_3b067 24 = .ok (.invokespecial 56, 3) := by decide +kernel
theorem dJ2_getChar_3b067_27 : decode cJ2_getChar_3b067 27 = .ok (.athrow, 1) := by decide +kernel
theorem dJ2_getChar_3b067_28 : decode cJ2_getChar_3b067 28 = .ok (.iload_n 1, 1) := by decide +kernel
theorem dJ2_getChar_3b067_29 : decode cJ2_getChar_3b067 29 = .ok (.iconst 1, 1) := by decide +kernel
theorem dJ2_getChar_3b067_30 : decode cJ2_getChar_3b067 30 = .ok (.ishl, 1) := by decide +kernel
theorem dJ2_getChar_3b067_31 : decode cJ2_getChar_3b067 31 = .ok (.istore_n 1, 1) := by decide +kernel
theorem dJ2_getChar_3b067_32 : decode cJ2_getChar_3b067 32 = .ok (.aload_n 0, 1) := by decide +kernel
theorem dJ2_getChar_3b067_33 : decode cJ2_getChar_3b067 33 = .ok (.iload_n 1, 1) := by decide +kernel
theorem dJ2_getChar_3b067_34 : decode cJ2_getChar_3b067 34 = .ok (.iinc 1 1, 3) := by decide +kernel
theorem dJ2_getChar_3b067_37 : decode cJ2_getChar_3b067 37 = .ok (.baload, 1) := by decide +kernel
theorem dJ2_getChar_3b067_38 : decode cJ2_getChar_3b067 38 = .ok (.sipush 255, 3) := by decide +kernel
theorem dJ2_getChar_3b067_41 : decode cJ2_getChar_3b067 41 = .ok (.iand, 1) := by decide +kernel
theorem dJ2_getChar_3b067_42 : decode cJ2_getChar_3b067 42 = .ok (.getstatic 59, 3) := by decide +kernel
theorem dJ2_getChar_3b067_45 : decode cJ2_getChar_3b067 45 = .ok (.ishl, 1) := by decide +kernel
theorem dJ2_getChar_3b067_46 : decode cJ2_getChar_3b067 46 = .ok (.aload_n 0, 1) := by decide +kernel
theorem dJ2_getChar_3b067_47 : decode cJ2_getChar_3b067 47 = .ok (.iload_n 1, 1) := by decide +kernel
theorem dJ2_getChar_3b067_48 : decode cJ2_getChar_3b067 48 = .ok (.baload, 1) := by decide +kernel
theorem dJ2_getChar_3b067_49 : decode cJ2_getChar_3b067 49 = .ok (.sipush 255, 3) := by decide +kernel
theorem dJ2_getChar_3b067_52 : decode cJ2_getChar_3b067 52 = .ok (.iand, 1) := by decide +kernel
theorem dJ2_getChar_3b067_53 : decode cJ2_getChar_3b067 53 = .ok (.getstatic 63, 3) := by decide +kernel
theorem dJ2_getChar_3b067_56 : decode cJ2_getChar_3b067 56 = .ok (.ishl, 1) := by decide +kernel
theorem dJ2_getChar_3b067_57 : decode cJ2_getChar_3b067 57 = .ok (.ior, 1) := by decide +kernel
theorem dJ2_getChar_3b067_58 : decode cJ2_getChar_3b067 58 = .ok (.i2c, 1) := by decide +kernel
theorem dJ2_getChar_3b067_59 : decode cJ2_getChar_3b067 59 = .ok (.ireturn, 1) := by decide +kernel
theorem dJ2_length_9d52b_0 : decode cJ2_length_9d52b 0 = .ok (.aload_n 0, 1) := by decide +kernel
theorem dJ2_length_9d52b_1 : decode cJ2_length_9d52b 1 = .ok (.arraylength, 1) := by decide +kernel
theorem dJ2_length_9d52b_2 : decode cJ2_length_9d52b 2 = .ok (.iconst 1, 1) := by decide +kernel
theorem dJ2_length_9d52b_3 : decode cJ2_length_9d52b 3 = .ok (.ishr, 1) := by decide +kernel
theorem dJ2_length_9d52b_4 : decode cJ2_length_9d52b 4 = .ok (.ireturn, 1) := by decide +kernel
theorem dJ2_indexOf_4cfef_0 : decode cJ2_indexOf_4cfef 0 = .ok (.iload_n 2, 1) := by decide +kernel
theorem dJ2_indexOf_4cfef_1 : decode cJ2_indexOf_4cfef 1 = .ok (.iconst 0, 1) := by decide +kernel
theorem dJ2_indexOf_4cfef_2 : decode cJ2_indexOf_4cfef 2 = .ok (.invokestatic 224, 3) := by decide +kernel
theorem dJ2_indexOf_4cfef_5 : decode cJ2_indexOf_4cfef 5 = .ok (.istore_n 2, 1) := by decide +kernel
theorem dJ2_indexOf_4cfef_6 : decode cJ2_indexOf_4cfef 6 = .ok (.iload_n 3, 1) := by decide +kernel
theorem dJ2_indexOf_4cfef_7 : decode cJ2_indexOf_4cfef 7 = .ok (.aload_n 0, 1) := by decide +kernel
theorem dJ2_indexOf_4cfef_8 : decode cJ2_indexOf_4cfef 8 = .ok (.arraylength, 1) := by decide +kernel
theorem dJ2_indexOf_4cfef_9 : decode cJ2_indexOf_4cfef 9 = .ok (.iconst 1, 1) := by decide +kernel
theorem dJ2_indexOf_4cfef_10 : decode cJ2_indexOf_4cfef 10 = .ok (.ishr, 1) := by decide +kernel
theorem dJ2_indexOf_4cfef_11 : decode cJ2_indexOf_4cfef 11 = .ok (.invokestatic 183, 3) := by decide +kernel
theorem dJ2_indexOf_4cfef_14 : decode cJ2_indexOf_4cfef 14 = .ok (.istore_n 3, 1) := by decide +kernel
theorem dJ2_indexOf_4cfef_15 : decode cJ2_indexOf_4cfef 15 = .ok (.iload_n 2, 1) := by decide +kernel
theorem dJ2_indexOf_4cfef_16 : decode cJ2_indexOf_4cfef 16 = .ok (.iload_n 3, 1) := by decide +kernel
theorem dJ2_indexOf_4cfef_17 : decode cJ2_indexOf_4cfef 17 = .ok (.if_icmp .lt 5, 3) := by decide +kernel
theorem dJ2_indexOf_4cfef_20 : decode cJ2_indexOf_4cfef 20 = .ok (.iconst (-1), 1) := by decide +kernel
theorem dJ2_indexOf_4cfef_21 : decode cJ2_indexOf_4cfef 21 = .ok (.ireturn, 1) := by decide +kernel
theorem dJ2_indexOf_4cfef_22 : decode cJ2_indexOf_4cfef 22 = .ok (.iload_n 1, 1) := by decide +kernel
theorem dJ2_indexOf_4cfef_23 : decode cJ2_indexOf_4cfef 23 = .ok (.ldc 227, 2) := by decide +kernel
theorem dJ2_indexOf_4cfef_25 : decode cJ2_indexOf_4cfef 25 = .ok (.if_icmp .ge 11, 3) := by decide +kernel
theorem dJ2_indexOf_4cfef_28 : decode cJ2_indexOf_4cfef 28 = .ok (.aload_n 0, 1) := by decide +kernel
theorem dJ2_indexOf_4cfef_29 : decode cJ2_indexOf_4cfef 29 = .ok (.iload_n 1, 1) := by decide +kernel
theorem dJ2_indexOf_4cfef_30 : decode cJ2_indexOf_4cfef 30 = .ok (.iload_n 2, 1) := by decide +kernel
theorem dJ2_indexOf_4cfef_31 : decode cJ2_indexOf_4cfef 31 = .ok (.iload_n 3, 1) := by decide +kernel
theorem dJ2_indexOf_4cfef_32 : decode cJ2_indexOf_4cfef 32 = .ok (.invokestatic 228, 3) := by decide +kernel
theorem dJ2_indexOf_4cfef_35 : decode cJ2_indexOf_4cfef 35 = .ok (.ireturn, 1) := by decide +kernel
theorem dJ2_indexOf_4cfef_36 : decode cJ2_indexOf_4cfef 36 = .ok (.aload_n 0, 1) := by decide +kernel
theorem dJ2_indexOf_4cfef_37 : decode cJ2_indexOf_4cfef 37 = .ok (.iload_n 1, 1) := by decide +kernel
theorem dJ2_indexOf_4cfef_38 : decode cJ2_indexOf_4cfef 38 = .ok (.iload_n 2, 1) := by decide +kernel
theorem dJ2_indexOf_4cfef_39 : decode cJ2_indexOf_4cfef 39 = .ok (.iload_n 3, 1) := by decide +kernel
theorem dJ2_indexOf_4cfef_40 : decode cJ2_indexOf_4cfef 40 = .ok (.invokestatic 232, 3) := by decide +kernel
theorem dJ2_indexOf_4cfef_43 : decode cJ2_indexOf_4cfef 43 = .ok (.ireturn, 1) := by decide +kernel
theorem dJ2_indexOfChar_4cfef_0 : decode cJ2_indexOfChar_4cfef 0 = .ok (.iload_n 2, 1) := by decide +kernel
theorem dJ2_indexOfChar_4cfef_1 : decode cJ2_indexOfChar_4cfef 1 = .ok (.iload_n 3, 1) := by decide +kernel
theorem dJ2_indexOfChar_4cfef_2 : decode cJ2_indexOfChar_4cfef 2 = .ok (.aload_n 0, 1) := by decide +kernel
theorem dJ2_indexOfChar_4cfef_3 : decode cJ2_indexOfChar_4cfef 3 = .ok (.invokestatic 96, 3) := by decide +kernel
theorem dJ2_indexOfChar_4cfef_6 : decode cJ2_indexOfChar_4cfef 6 = .ok (.aload_n 0, 1) := by decide +kernel
theorem dJ2_indexOfChar_4cfef_7 : decode cJ2_indexOfChar_4cfef 7 = .ok (.iload_n 1, 1) := by decide +kernel
theorem dJ2_indexOfChar_4cfef_8 : decode cJ2_indexOfChar_4cfef 8 = .ok (.iload_n 2, 1) := by decide +kernel
theorem dJ2_indexOfChar_4cfef_9 : decode cJ2_indexOfChar_4cfef 9 = .ok (.iload_n 3, 1) := by decide +kernel
theorem dJ2_indexOfChar_4cfef_10 : decode cJ2_indexOfChar_4cfef 10 = .ok (.invokestatic 244, 3) := by decide +kernel
theorem dJ2_indexOfChar_4cfef_13 : decode cJ2_indexOfChar_4cfef 13 = .ok (.ireturn, 1) := by decide +kernel
theorem dJ2_indexOfCharUnsafe_4cfef_0 : decode cJ2_indexOfCharUnsafe_4cfef 0 = .ok (.iload_n 2, 1) := by decide +kernel
theorem dJ2_indexOfCharUnsafe_4cfef_1 : decode cJ2_indexOfCharUnsafe_4cfef 1 = .ok (.istore 4, 2) := by decide +kernel
theorem dJ2_indexOfCharUnsafe_4cfef_3 : decode cJ2_indexOfCharUnsafe_4cfef 3 = .ok (.iload 4, 2) := by decide +kernel
theorem dJ2_indexOfCharUnsafe_4cfef_5 : decode cJ2_indexOfCharUnsafe_4cfef 5 = .ok (.iload_n 3, 1) := by decide +kernel
theorem dJ2_indexOfCharUnsafe_4cfef_6 : decode cJ2_indexOfCharUnsafe_4cfef 6 = .ok (.if_icmp .ge 22, 3) := by decide +kernel
theorem dJ2_indexOfCharUnsafe_4cfef_9 : decode cJ2_indexOfCharUnsafe_4cfef 9 = .ok (.aload_n 0, 1) := by decide +kernel
theorem dJ2_indexOfCharUnsafe_4cfef_10 : decode cJ2_indexOfCharUnsafe_4cfef 10 = .ok (.iload 4, 2) := by decide +kernel
theorem dJ2_indexOfCharUnsafe_4cfef_12 : decode cJ2_indexOfCharUnsafe_4cfef 12 = .ok (.invokestatic 71, 3) := by decide +kernel
theorem dJ2_indexOfCharUnsafe_4cfef_15 : decode cJ2_indexOfCharUnsafe_4cfef 15 = .ok (.iload_n 1, 1) := by decide +kernel
theorem dJ2_indexOfCharUnsafe_4cfef_16 : decode cJ2_indexOfCharUnsafe_4cfef 16 = .ok (.if_icmp .ne 6, 3) := by decide +kernel
theorem dJ2_indexOfCharUnsafe_4cfef_19 : decode cJ2_indexOfCharUnsafe_4cfef 19 = .ok (.iload 4, 2) := by decide +kernel
theorem dJ2_indexOfCharUnsafe_4cfef_21 : decode cJ2_indexOfCharUnsafe_4cfef 21 = .ok (.ireturn, 1) := by decide +kernel
theorem dJ2_indexOfCharUnsafe_4cfef_22 : decode cJ2_indexOfCharUnsafe_4cfef 22 = .ok (.iinc 4 1, 3) := by decide +kernel
theorem dJ2_indexOfCharUnsafe_4cfef_25 : decode cJ2_indexOfCharUnsafe_4cfef 25 = .ok (.goto (-22), 3) := by decide +kernel
theorem dJ2_indexOfCharUnsafe_4cfef_28 : decode cJ2_indexOfCharUnsafe_4cfef 28 = .ok (.iconst (-1), 1) := by decide +kernel
theorem dJ2_indexOfCharUnsafe_4cfef_29 : decode cJ2_indexOfCharUnsafe_4cfef 29 = .ok (.ireturn, 1) := by decide +kernel
theorem dJ2_indexOfSupplementary_4cfef_0 : decode cJ2_indexOfSupplementary_4cfef 0 = .ok (.iload_n 1, 1) := by decide +kernel
theorem dJ2_indexOfSupplementary_4cfef_1 : decode cJ2_indexOfSupplementary_4cfef 1 = .ok (.invokestatic 164, 3) := by decide +kernel
theorem dJ2_indexOfSupplementary_4cfef_4 : decode cJ2_indexOfSupplementary_4cfef 4 = .ok (.ifCond .eq 65, 3) := by decide +kernel
theorem dJ2_indexOfSupplementary_4cfef_7 : decode cJ2_indexOfSupplementary_4cfef 7 = .ok (.iload_n 1, 1) := by decide +kernel
theorem dJ2_indexOfSupplementary_4cfef_8 : decode cJ2_indexOfSupplementary_4cfef 8 = .ok (.invokestatic 157, 3) := by decide +kernel
theorem dJ2_indexOfSupplementary_4cfef_11 : decode cJ2_indexOfSupplementary_4cfef 11 = .ok (.istore 4, 2) := by decide +kernel
theorem dJ2_indexOfSupplementary_4cfef_13 : decode cJ2_indexOfSupplementary_4cfef 13 = .ok (.iload_n 1, 1) := by decide +kernel
theorem dJ2_indexOfSupplementary_4cfef_14 : decode cJ2_indexOfSupplementary_4cfef 14 = .ok (.invokestatic 161, 3) := by decide +kernel
theorem dJ2_indexOfSupplementary_4cfef_17 : decode cJ2_indexOfSupplementary_4cfef 17 = .ok (.istore 5, 2) := by decide +kernel
theorem dJ2_indexOfSupplementary_4cfef_19 : decode cJ2_indexOfSupplementary_4cfef 19 = .ok (.iload_n 2, 1) := by decide +kernel
theorem dJ2_indexOfSupplementary_4cfef_20 : decode cJ2_indexOfSupplementary_4cfef 20 = .ok (.iload_n 3, 1) := by decide +kernel
theorem dJ2_indexOfSupplementary_4cfef_21 : decode cJ2_indexOfSupplementary_4cfef 21 = .ok (.aload_n 0, 1) := by decide +kernel
theorem dJ2_indexOfSupplementary_4cfef_22 : decode cJ2_indexOfSupplementary_4cfef 22 = .ok (.invokestatic 96, 3) := by decide +kernel
theorem dJ2_indexOfSupplementary_4cfef_25 : decode cJ2_indexOfSupplementary_4cfef 25 = .ok (.iload_n 2, 1) := by decide +kernel
theorem dJ2_indexOfSupplementary_4cfef_26 : decode cJ2_indexOfSupplementary_4cfef 26 = .ok (.istore 6, 2) := by decide +kernel
theorem dJ2_indexOfSupplementary_4cfef_28 : decode cJ2_indexOfSupplementary_4cfef 28 = .ok (.iload 6, 2) := by decide +kernel
theorem dJ2_indexOfSupplementary_4cfef_30 : decode cJ2_indexOfSupplementary_4cfef 30 = .ok (.iload_n 3, 1) := by decide +kernel
theorem dJ2_indexOfSupplementary_4cfef_31 : decode cJ2_indexOfSupplementary_4cfef 31 = .ok (.iconst 1, 1) := by decide +kernel
theorem dJ2_indexOfSupplementary_4cfef_32 : decode cJ2_indexOfSupplementary_4cfef 32 = .ok (.isub, 1) := by decide +kernel
theorem dJ2_indexOfSupplementary_4cfef_33 : decode cJ2_indexOfSupplementary_4cfef 33 = .ok (.if_icmp .ge 36, 3) := by decide +kernel
theorem dJ2_indexOfSupplementary_4cfef_36 : decode cJ2_indexOfSupplementary_4cfef 36 = .ok (.aload_n 0, 1) := by decide +kernel
theorem dJ2_indexOfSupplementary_4cfef_37 : decode cJ2_indexOfSupplementary_4cfef 37 = .ok (.iload 6, 2) := by decide +kernel
theorem dJ2_indexOfSupplementary_4cfef_39 : decode cJ2_indexOfSupplementary_4cfef 39 = .ok (.invokestatic 71, 3) := by decide +kernel
theorem dJ2_indexOfSupplementary_4cfef_42 : decode cJ2_indexOfSupplementary_4cfef 42 = .ok (.iload 4, 2) := by decide +kernel
theorem dJ2_indexOfSupplementary_4cfef_44 : decode cJ2_indexOfSupplementary_4cfef 44 = .ok (.if_icmp .ne 19, 3) := by decide +kernel
theorem dJ2_indexOfSupplementary_4cfef_47 : decode cJ2_indexOfSupplementary_4cfef 47 = .ok (.aload_n 0, 1) := by decide +kernel
theorem dJ2_indexOfSupplementary_4cfef_48 : decode cJ2_indexOfSupplementary_4cfef 48 = .ok (.iload 6, 2) := by decide +kernel
theorem dJ2_indexOfSupplementary_4cfef_50 : decode cJ2_indexOfSupplementary_4cfef 50 = .ok (.iconst 1, 1) := by decide +kernel
theorem dJ2_indexOfSupplementary_4cfef_51 : decode cJ2_indexOfSupplementary_4cfef 51 = .ok (.iadd, 1) := by decide +kernel
theorem dJ2_indexOfSupplementary_4cfef_52 : decode cJ2_indexOfSupplementary_4cfef 52 = .ok (.invokestatic 71, 3) := by decide +kernel
theorem dJ2_indexOfSupplementary_4cfef_55 : decode cJ2_indexOfSupplementary_4cfef 55 = .ok (.iload 5, 2) := by decide +kernel
theorem dJ2_indexOfSupplementary_4cfef_57 : decode cJ2_indexOfSupplementary_4cfef 57 = .ok (.if_icmp .ne 6, 3) := by decide +kernel
theorem dJ2_indexOfSupplementary_4cfef_60 : decode cJ2_indexOfSupplementary_4cfef 60 = .ok (.iload 6, 2) := by decide +kernel
theorem dJ2_indexOfSupplementary_4cfef_62 : decode cJ2_indexOfSupplementary_4cfef 62 = .ok (.ireturn, 1) := by decide +kernel
theorem dJ2_indexOfSupplementary_4cfef_63 : decode cJ2_indexOfSupplementary_4cfef 63 = .ok (.iinc 6 1, 3) := by decide +kernel
theorem dJ2_indexOfSupplementary_4cfef_66 : decode cJ2_indexOfSupplementary_4cfef 66 = .ok (.goto (-38), 3) := by decide +kernel
theorem dJ2_indexOfSupplementary_4cfef_69 : decode cJ2_indexOfSupplementary_4cfef 69 = .ok (.iconst (-1), 1) := by decide +kernel
theorem dJ2_indexOfSupplementary_4cfef_70 : decode cJ2_indexOfSupplementary_4cfef 70 = .ok (.ireturn, 1) := by decide +kernel
theorem dJ2_charAt_3b067_0 : decode cJ2_charAt_3b067 0 = .ok (.iload_n 1, 1) := by decide +kernel
theorem dJ2_charAt_3b067_1 : decode cJ2_charAt_3b067 1 = .ok (.aload_n 0, 1) := by decide +kernel
theorem dJ2_charAt_3b067_2 : decode cJ2_charAt_3b067 2 = .ok (.invokestatic 67, 3) := by decide +kernel
theorem dJ2_charAt_3b067_5 : decode cJ2_charAt_3b067 5 = .ok (.aload_n 0, 1) := by decide +kernel
theorem dJ2_charAt_3b067_6 : decode cJ2_charAt_3b067 6 = .ok (.iload_n 1, 1) := by decide +kernel
theorem dJ2_charAt_3b067_7 : decode cJ2_charAt_3b067 7 = .ok (.invokestatic 71, 3) := by decide +kernel
theorem dJ2_charAt_3b067_10 : decode cJ2_charAt_3b067 10 = .ok (.ireturn, 1) := by decide +kernel
theorem dJ2_checkIndex_2214a_0 : decode cJ2_checkIndex_2214a 0 = .ok (.iload_n 0, 1) := by decide +kernel
theorem dJ2_checkIndex_2214a_1 : decode cJ2_checkIndex_2214a 1 = .ok (.aload_n 1, 1) := by decide +kernel
theorem dJ2_checkIndex_2214a_2 : decode cJ2_checkIndex_2214a 2 = .ok (.invokestatic 48, 3) := by decide +kernel
theorem dJ2_checkIndex_2214a_5 : decode cJ2_checkIndex_2214a 5 = .ok (.invokestatic 414, 3) := by decide +kernel
theorem dJ2_checkIndex_2214a_8 : decode cJ2_checkIndex_2214a 8 = .ok (.return_, 1) := by decide +kernel
theorem dJ2_checkBoundsBeginEnd_d044e_0 : decode cJ2_checkBoundsBeginEnd_d044e 0 = .ok (.iload_n 0, 1) := by decide +kernel
theorem dJ2_checkBoundsBeginEnd_d044e_1 : decode cJ2_checkBoundsBeginEnd_d044e 1 = .ok (.iload_n 1, 1) := by decide +kernel
theorem dJ2_checkBoundsBeginEnd_d044e_2 : decode cJ2_checkBoundsBeginEnd_d044e 2 = .ok (.aload_n 2, 1) := by decide +kernel
theorem dJ2_checkBoundsBeginEnd_d044e_3 : decode cJ2_checkBoundsBeginEnd_d044e 3 = .ok (.invokestatic 48, 3) := by decide +kernel
theorem dJ2_checkBoundsBeginEnd_d044e_6 : decode cJ2_checkBoundsBeginEnd_d044e 6 = .ok (.invokestatic 241, 3) := by decide +kernel
theorem dJ2_checkBoundsBeginEnd_d044e_9 : decode cJ2_checkBoundsBeginEnd_d044e 9 = .ok (.return_, 1) := by decide +kernel
theorem dJ7_fill_53178_0 : decode cJ7_fill_53178 0 = .ok (.iconst 0, 1) := by decide +kernel
theorem dJ7_fill_53178_1 : decode cJ7_fill_53178 1 = .ok (.istore_n 2, 1) := by decide +kernel
theorem dJ7_fill_53178_2 : decode cJ7_fill_53178 2 = .ok (.aload_n 0, 1) := by decide +kernel
theorem dJ7_fill_53178_3 : decode cJ7_fill_53178 3 = .ok (.arraylength, 1) := by decide +kernel
theorem dJ7_fill_53178_4 : decode cJ7_fill_53178 4 = .ok (.istore_n 3, 1) := by decide +kernel
theorem dJ7_fill_53178_5 : decode cJ7_fill_53178 5 = .ok (.iload_n 2, 1) := by decide +kernel
theorem dJ7_fill_53178_6 : decode cJ7_fill_53178 6 = .ok (.iload_n 3, 1) := by decide +kernel
theorem dJ7_fill_53178_7 : decode cJ7_fill_53178 7 = .ok (.if_icmp .ge 13, 3) := by decide +kernel
theorem dJ7_fill_53178_10 : decode cJ7_fill_53178 10 = .ok (.aload_n 0, 1) := by decide +kernel
theorem dJ7_fill_53178_11 : decode cJ7_fill_53178 11 = .ok (.iload_n 2, 1) := by decide +kernel
theorem dJ7_fill_53178_12 : decode cJ7_fill_53178 12 = .ok (.iload_n 1, 1) := by decide +kernel
theorem dJ7_fill_53178_13 : decode cJ7_fill_53178 13 = .ok (.iastore, 1) := by decide +kernel
theorem dJ7_fill_53178_14 : decode cJ7_fill_53178 14 = .ok (.iinc 2 1, 3) := by decide +kernel
theorem dJ7_fill_53178_17 : decode cJ7_fill_53178 17 = .ok (.goto (-12), 3) := by decide +kernel
theorem dJ7_fill_53178_20 : decode cJ7_fill_53178 20 = .ok (.return_, 1) := by decide +kernel
theorem dJ3_checkIndex_8e157_0 : decode cJ3_checkIndex_8e157 0 = .ok (.iload_n 0, 1) := by decide +kernel
theorem dJ3_checkIndex_8e157_1 : decode cJ3_checkIndex_8e157 1 = .ok (.ifCond .lt 8, 3) := by decide +kernel
theorem dJ3_checkIndex_8e157_4 : decode cJ3_checkIndex_8e157 4 = .ok (.iload_n 0, 1) := by decide +kernel
theorem dJ3_checkIndex_8e157_5 : decode cJ3_checkIndex_8e157 5 = .ok (.iload_n 1, 1) := by decide +kernel
theorem dJ3_checkIndex_8e157_6 : decode cJ3_checkIndex_8e157 6 = .ok (.if_icmp .lt 10, 3) := by decide +kernel
theorem dJ3_checkIndex_8e157_9 : decode cJ3_checkIndex_8e157 9 = .ok (.aload_n 2, 1) := by decide +kernel
theorem dJ3_checkIndex_8e157_10 : decode cJ3_checkIndex_8e157 10 = .ok (.iload_n 0, 1) := by decide +kernel
theorem dJ3_checkIndex_8e157_11 : decode cJ3_checkIndex_8e157 11 = .ok (.iload_n 1, 1) := by decide +kernel
theorem dJ3_checkIndex_8e157_12 : decode cJ3_checkIndex_8e157 12 = .ok (.invokestatic 95, 3) := by decide +kernel
theorem dJ3_checkIndex_8e157_15 : decode cJ3_checkIndex_8e157 15 = .ok (.athrow, 1) := by decide +kernel
theorem dJ3_checkIndex_8e157_16 : decode cJ3_checkIndex_8e157 16 = .ok (.iload_n 0, 1) := by decide +kernel
theorem dJ3_checkIndex_8e157_17 : decode cJ3_checkIndex_8e157 17 = .ok (.ireturn, 1) := by decide +kernel
theorem dJ3_checkFromToIndex_8c36e_0 : decode cJ3_checkFromToIndex_8c36e 0 = .ok (.iload_n 0, 1) := by decide +kernel
theorem dJ3_checkFromToIndex_8c36e_1 : decode cJ3_checkFromToIndex_8c36e 1 = .ok (.ifCond .lt 13, 3) := by decide +kernel
theorem dJ3_checkFromToIndex_8c36e_4 : decode cJ3_checkFromToIndex_8c36e 4 = .ok (.iload_n 0, 1) := by decide +kernel
theorem dJ3_checkFromToIndex_8c36e_5 : decode cJ3_checkFromToIndex_8c36e 5 = .ok (.iload_n 1, 1) := by decide +kernel
theorem dJ3_checkFromToIndex_8c36e_6 : decode cJ3_checkFromToIndex_8c36e 6 = .ok (.if_icmp .gt 8, 3) := by decide +kernel
theorem dJ3_checkFromToIndex_8c36e_9 : decode cJ3_checkFromToIndex_8c36e 9 = .ok (.iload_n 1, 1) := by decide +kernel
theorem dJ3_checkFromToIndex_8c36e_10 : decode cJ3_checkFromToIndex_8c36e 10 = .ok (.iload_n 2, 1) := by decide +kernel
theorem dJ3_checkFromToIndex_8c36e_11 : decode cJ3_checkFromToIndex_8c36e 11 = .ok (.if_icmp .le 11, 3) := by decide +kernel
theorem dJ3_checkFromToIndex_8c36e_14 : decode cJ3_checkFromToIndex_8c36e 14 = .ok (.aload_n 3, 1) := by decide +kernel
theorem dJ3_checkFromToIndex_8c36e_15 : decode cJ3_checkFromToIndex_8c36e 15 = .ok (.iload_n 0, 1) := by decide +kernel
theorem dJ3_checkFromToIndex_8c36e_16 : decode cJ3_checkFromToIndex_8c36e 16 = .ok (.iload_n 1, 1) := by decide +kernel
theorem dJ3_checkFromToIndex_8c36e_17 : decode cJ3_checkFromToIndex_8c36e 17 = .ok (.iload_n 2, 1) := by decide +kernel
theorem dJ3_checkFromToIndex_8c36e_18 : decode cJ3_checkFromToIndex_8c36e 18 = .ok (.invokestatic 99, 3) := by decide +kernel
theorem dJ3_checkFromToIndex_8c36e_21 : decode cJ3_checkFromToIndex_8c36e 21 = .ok (.athrow, 1) := by decide +kernel
theorem dJ3_checkFromToIndex_8c36e_22 : decode cJ3_checkFromToIndex_8c36e 22 = .ok (.iload_n 0, 1) := by decide +kernel
theorem dJ3_checkFromToIndex_8c36e_23 : decode cJ3_checkFromToIndex_8c36e 23 = .ok (.ireturn, 1) := by decide +kernel
theorem dL_borough_0 : decode cL_borough 0 = .ok (.aload_n 2, 1) := by decide +kernel
theorem dL_borough_1 : decode cL_borough 1 = .ok (.iconst 0, 1) := by decide +kernel
theorem dL_borough_2 : decode cL_borough 2 = .ok (.aload_n 0, 1) := by decide +kernel
theorem dL_borough_3 : decode cL_borough 3 = .ok (.iload_n 1, 1) := by decide +kernel
theorem dL_borough_4 : decode cL_borough 4 = .ok (.invokevirtual 7, 3) := by decide +kernel
theorem dL_borough_7 : decode cL_borough 7 = .ok (.i2l, 1) := by decide +kernel
theorem dL_borough_8 : decode cL_borough 8 = .ok (.lastore, 1) := by decide +kernel
theorem dL_borough_9 : decode cL_borough 9 = .ok (.goto 6, 3) := by decide +kernel
theorem dL_borough_12 : decode cL_borough 12 = .ok (.astore_n 3, 1) := by decide +kernel
theorem dL_borough_13 : decode cL_borough 13 = .ok (.iconst 1, 1) := by decide +kernel
theorem dL_borough_14 : decode cL_borough 14 = .ok (.ireturn, 1) := by decide +kernel
theorem dL_borough_15 : decode cL_borough 15 = .ok (.iconst 0, 1) := by decide +kernel
theorem dL_borough_16 : decode cL_borough 16 = .ok (.ireturn, 1) := by decide +kernel
theorem dL_count_0 : decode cL_count 0 = .ok (.aload_n 2, 1) := by decide +kernel
theorem dL_count_1 : decode cL_count 1 = .ok (.iconst 0, 1) := by decide +kernel
theorem dL_count_2 : decode cL_count 2 = .ok (.aload_n 0, 1) := by decide +kernel
theorem dL_count_3 : decode cL_count 3 = .ok (.iload_n 1, 1) := by decide +kernel
theorem dL_count_4 : decode cL_count 4 = .ok (.invokevirtual 15, 3) := by decide +kernel
theorem dL_count_7 : decode cL_count 7 = .ok (.i2l, 1) := by decide +kernel
theorem dL_count_8 : decode cL_count 8 = .ok (.lastore, 1) := by decide +kernel
theorem dL_count_9 : decode cL_count 9 = .ok (.goto 6, 3) := by decide +kernel
theorem dL_count_12 : decode cL_count 12 = .ok (.astore_n 3, 1) := by decide +kernel
theorem dL_count_13 : decode cL_count 13 = .ok (.iconst 1, 1) := by decide +kernel
theorem dL_count_14 : decode cL_count 14 = .ok (.ireturn, 1) := by decide +kernel
theorem dL_count_15 : decode cL_count 15 = .ok (.iconst 0, 1) := by decide +kernel
theorem dL_count_16 : decode cL_count 16 = .ok (.ireturn, 1) := by decide +kernel
theorem dL_alderman_0 : decode cL_alderman 0 = .ok (.aload_n 3, 1) := by decide +kernel
theorem dL_alderman_1 : decode cL_alderman 1 = .ok (.iconst 0, 1) := by decide +kernel
theorem dL_alderman_2 : decode cL_alderman 2 = .ok (.aload_n 0, 1) := by decide +kernel
theorem dL_alderman_3 : decode cL_alderman 3 = .ok (.iload_n 1, 1) := by decide +kernel
theorem dL_alderman_4 : decode cL_alderman 4 = .ok (.iload_n 2, 1) := by decide +kernel
theorem dL_alderman_5 : decode cL_alderman 5 = .ok (.invokevirtual 20, 3) := by decide +kernel
theorem dL_alderman_8 : decode cL_alderman 8 = .ok (.i2l, 1) := by decide +kernel
theorem dL_alderman_9 : decode cL_alderman 9 = .ok (.lastore, 1) := by decide +kernel
theorem dL_alderman_10 : decode cL_alderman 10 = .ok (.goto 7, 3) := by decide +kernel
theorem dL_alderman_13 : decode cL_alderman 13 = .ok (.astore 4, 2) := by decide +kernel
theorem dL_alderman_15 : decode cL_alderman 15 = .ok (.iconst 1, 1) := by decide +kernel
theorem dL_alderman_16 : decode cL_alderman 16 = .ok (.ireturn, 1) := by decide +kernel
theorem dL_alderman_17 : decode cL_alderman 17 = .ok (.iconst 0, 1) := by decide +kernel
theorem dL_alderman_18 : decode cL_alderman 18 = .ok (.ireturn, 1) := by decide +kernel
theorem dL_motion_0 : decode cL_motion 0 = .ok (.aload_n 3, 1) := by decide +kernel
theorem dL_motion_1 : decode cL_motion 1 = .ok (.iconst 0, 1) := by decide +kernel
theorem dL_motion_2 : decode cL_motion 2 = .ok (.aload_n 0, 1) := by decide +kernel
theorem dL_motion_3 : decode cL_motion 3 = .ok (.iload_n 1, 1) := by decide +kernel
theorem dL_motion_4 : decode cL_motion 4 = .ok (.iload_n 2, 1) := by decide +kernel
theorem dL_motion_5 : decode cL_motion 5 = .ok (.invokevirtual 24, 3) := by decide +kernel
theorem dL_motion_8 : decode cL_motion 8 = .ok (.i2l, 1) := by decide +kernel
theorem dL_motion_9 : decode cL_motion 9 = .ok (.lastore, 1) := by decide +kernel
theorem dL_motion_10 : decode cL_motion 10 = .ok (.goto 7, 3) := by decide +kernel
theorem dL_motion_13 : decode cL_motion 13 = .ok (.astore 4, 2) := by decide +kernel
theorem dL_motion_15 : decode cL_motion 15 = .ok (.iconst 1, 1) := by decide +kernel
theorem dL_motion_16 : decode cL_motion 16 = .ok (.ireturn, 1) := by decide +kernel
theorem dL_motion_17 : decode cL_motion 17 = .ok (.iconst 0, 1) := by decide +kernel
theorem dL_motion_18 : decode cL_motion 18 = .ok (.ireturn, 1) := by decide +kernel
theorem dL_bribe_0 : decode cL_bribe 0 = .ok (.aload_n 3, 1) := by decide +kernel
theorem dL_bribe_1 : decode cL_bribe 1 = .ok (.iconst 0, 1) := by decide +kernel
theorem dL_bribe_2 : decode cL_bribe 2 = .ok (.aload_n 0, 1) := by decide +kernel
theorem dL_bribe_3 : decode cL_bribe 3 = .ok (.iload_n 1, 1) := by decide +kernel
theorem dL_bribe_4 : decode cL_bribe 4 = .ok (.iload_n 2, 1) := by decide +kernel
theorem dL_bribe_5 : decode cL_bribe 5 = .ok (.invokevirtual 27, 3) := by decide +kernel
theorem dL_bribe_8 : decode cL_bribe 8 = .ok (.i2l, 1) := by decide +kernel
theorem dL_bribe_9 : decode cL_bribe 9 = .ok (.lastore, 1) := by decide +kernel
theorem dL_bribe_10 : decode cL_bribe 10 = .ok (.goto 7, 3) := by decide +kernel
theorem dL_bribe_13 : decode cL_bribe 13 = .ok (.astore 4, 2) := by decide +kernel
theorem dL_bribe_15 : decode cL_bribe 15 = .ok (.iconst 1, 1) := by decide +kernel
theorem dL_bribe_16 : decode cL_bribe 16 = .ok (.ireturn, 1) := by decide +kernel
theorem dL_bribe_17 : decode cL_bribe 17 = .ok (.iconst 0, 1) := by decide +kernel
theorem dL_bribe_18 : decode cL_bribe 18 = .ok (.ireturn, 1) := by decide +kernel
theorem dL_move_0 : decode cL_move 0 = .ok (.aload_n 3, 1) := by decide +kernel
theorem dL_move_1 : decode cL_move 1 = .ok (.iconst 0, 1) := by decide +kernel
theorem dL_move_2 : decode cL_move 2 = .ok (.aload_n 0, 1) := by decide +kernel
theorem dL_move_3 : decode cL_move 3 = .ok (.iload_n 1, 1) := by decide +kernel
theorem dL_move_4 : decode cL_move 4 = .ok (.iload_n 2, 1) := by decide +kernel
theorem dL_move_5 : decode cL_move 5 = .ok (.invokevirtual 30, 3) := by decide +kernel
theorem dL_move_8 : decode cL_move 8 = .ok (.i2l, 1) := by decide +kernel
theorem dL_move_9 : decode cL_move 9 = .ok (.lastore, 1) := by decide +kernel
theorem dL_move_10 : decode cL_move 10 = .ok (.goto 7, 3) := by decide +kernel
theorem dL_move_13 : decode cL_move 13 = .ok (.astore 4, 2) := by decide +kernel
theorem dL_move_15 : decode cL_move 15 = .ok (.iconst 1, 1) := by decide +kernel
theorem dL_move_16 : decode cL_move 16 = .ok (.ireturn, 1) := by decide +kernel
theorem dL_move_17 : decode cL_move 17 = .ok (.iconst 0, 1) := by decide +kernel
theorem dL_move_18 : decode cL_move 18 = .ok (.ireturn, 1) := by decide +kernel
theorem dL_saying_0 : decode cL_saying 0 = .ok (.aload_n 2, 1) := by decide +kernel
theorem dL_saying_1 : decode cL_saying 1 = .ok (.iconst 0, 1) := by decide +kernel
theorem dL_saying_2 : decode cL_saying 2 = .ok (.aload_n 0, 1) := by decide +kernel
theorem dL_saying_3 : decode cL_saying 3 = .ok (.iload_n 1, 1) := by decide +kernel
theorem dL_saying_4 : decode cL_saying 4 = .ok (.invokevirtual 33, 3) := by decide +kernel
theorem dL_saying_7 : decode cL_saying 7 = .ok (.i2l, 1) := by decide +kernel
theorem dL_saying_8 : decode cL_saying 8 = .ok (.lastore, 1) := by decide +kernel
theorem dL_saying_9 : decode cL_saying 9 = .ok (.goto 6, 3) := by decide +kernel
theorem dL_saying_12 : decode cL_saying 12 = .ok (.astore_n 3, 1) := by decide +kernel
theorem dL_saying_13 : decode cL_saying 13 = .ok (.iconst 1, 1) := by decide +kernel
theorem dL_saying_14 : decode cL_saying 14 = .ok (.ireturn, 1) := by decide +kernel
theorem dL_saying_15 : decode cL_saying 15 = .ok (.iconst 0, 1) := by decide +kernel
theorem dL_saying_16 : decode cL_saying 16 = .ok (.ireturn, 1) := by decide +kernel
theorem dL_when_0 : decode cL_when 0 = .ok (.aload_n 2, 1) := by decide +kernel
theorem dL_when_1 : decode cL_when 1 = .ok (.iconst 0, 1) := by decide +kernel
theorem dL_when_2 : decode cL_when 2 = .ok (.aload_n 0, 1) := by decide +kernel
theorem dL_when_3 : decode cL_when 3 = .ok (.iload_n 1, 1) := by decide +kernel
theorem dL_when_4 : decode cL_when 4 = .ok (.invokevirtual 36, 3) := by decide +kernel
theorem dL_when_7 : decode cL_when 7 = .ok (.i2l, 1) := by decide +kernel
theorem dL_when_8 : decode cL_when 8 = .ok (.lastore, 1) := by decide +kernel
theorem dL_when_9 : decode cL_when 9 = .ok (.goto 6, 3) := by decide +kernel
theorem dL_when_12 : decode cL_when 12 = .ok (.astore_n 3, 1) := by decide +kernel
theorem dL_when_13 : decode cL_when 13 = .ok (.iconst 1, 1) := by decide +kernel
theorem dL_when_14 : decode cL_when 14 = .ok (.ireturn, 1) := by decide +kernel
theorem dL_when_15 : decode cL_when 15 = .ok (.iconst 0, 1) := by decide +kernel
theorem dL_when_16 : decode cL_when 16 = .ok (.ireturn, 1) := by decide +kernel
theorem dL_then_0 : decode cL_then 0 = .ok (.aload_n 3, 1) := by decide +kernel
theorem dL_then_1 : decode cL_then 1 = .ok (.iconst 0, 1) := by decide +kernel
theorem dL_then_2 : decode cL_then 2 = .ok (.aload_n 0, 1) := by decide +kernel
theorem dL_then_3 : decode cL_then 3 = .ok (.iload_n 1, 1) := by decide +kernel
theorem dL_then_4 : decode cL_then 4 = .ok (.iload_n 2, 1) := by decide +kernel
theorem dL_then_5 : decode cL_then 5 = .ok (.invokevirtual 39, 3) := by decide +kernel
theorem dL_then_8 : decode cL_then 8 = .ok (.i2l, 1) := by decide +kernel
theorem dL_then_9 : decode cL_then 9 = .ok (.lastore, 1) := by decide +kernel
theorem dL_then_10 : decode cL_then 10 = .ok (.goto 11, 3) := by decide +kernel
theorem dL_then_13 : decode cL_then 13 = .ok (.astore 4, 2) := by decide +kernel
theorem dL_then_15 : decode cL_then 15 = .ok (.iconst 1, 1) := by decide +kernel
theorem dL_then_16 : decode cL_then 16 = .ok (.ireturn, 1) := by decide +kernel
theorem dL_then_17 : decode cL_then 17 = .ok (.astore 4, 2) := by decide +kernel
theorem dL_then_19 : decode cL_then 19 = .ok (.iconst 2, 1) := by decide +kernel
theorem dL_then_20 : decode cL_then 20 = .ok (.ireturn, 1) := by decide +kernel
theorem dL_then_21 : decode cL_then 21 = .ok (.iconst 0, 1) := by decide +kernel
theorem dL_then_22 : decode cL_then 22 = .ok (.ireturn, 1) := by decide +kernel
theorem dL_fails_0 : decode cL_fails 0 = .ok (.aload_n 2, 1) := by decide +kernel
theorem dL_fails_1 : decode cL_fails 1 = .ok (.iconst 0, 1) := by decide +kernel
theorem dL_fails_2 : decode cL_fails 2 = .ok (.aload_n 0, 1) := by decide +kernel
theorem dL_fails_3 : decode cL_fails 3 = .ok (.iload_n 1, 1) := by decide +kernel
theorem dL_fails_4 : decode cL_fails 4 = .ok (.invokevirtual 42, 3) := by decide +kernel
theorem dL_fails_7 : decode cL_fails 7 = .ok (.i2l, 1) := by decide +kernel
theorem dL_fails_8 : decode cL_fails 8 = .ok (.lastore, 1) := by decide +kernel
theorem dL_fails_9 : decode cL_fails 9 = .ok (.goto 6, 3) := by decide +kernel
theorem dL_fails_12 : decode cL_fails 12 = .ok (.astore_n 3, 1) := by decide +kernel
theorem dL_fails_13 : decode cL_fails 13 = .ok (.iconst 1, 1) := by decide +kernel
theorem dL_fails_14 : decode cL_fails 14 = .ok (.ireturn, 1) := by decide +kernel
theorem dL_fails_15 : decode cL_fails 15 = .ok (.iconst 0, 1) := by decide +kernel
theorem dL_fails_16 : decode cL_fails 16 = .ok (.ireturn, 1) := by decide +kernel
theorem dL_calls_0 : decode cL_calls 0 = .ok (.aload_n 3, 1) := by decide +kernel
theorem dL_calls_1 : decode cL_calls 1 = .ok (.iconst 0, 1) := by decide +kernel
theorem dL_calls_2 : decode cL_calls 2 = .ok (.aload_n 0, 1) := by decide +kernel
theorem dL_calls_3 : decode cL_calls 3 = .ok (.iload_n 1, 1) := by decide +kernel
theorem dL_calls_4 : decode cL_calls 4 = .ok (.iload_n 2, 1) := by decide +kernel
theorem dL_calls_5 : decode cL_calls 5 = .ok (.invokevirtual 45, 3) := by decide +kernel
theorem dL_calls_8 : decode cL_calls 8 = .ok (.i2l, 1) := by decide +kernel
theorem dL_calls_9 : decode cL_calls 9 = .ok (.lastore, 1) := by decide +kernel
theorem dL_calls_10 : decode cL_calls 10 = .ok (.goto 7, 3) := by decide +kernel
theorem dL_calls_13 : decode cL_calls 13 = .ok (.astore 4, 2) := by decide +kernel
theorem dL_calls_15 : decode cL_calls 15 = .ok (.iconst 1, 1) := by decide +kernel
theorem dL_calls_16 : decode cL_calls 16 = .ok (.ireturn, 1) := by decide +kernel
theorem dL_calls_17 : decode cL_calls 17 = .ok (.iconst 0, 1) := by decide +kernel
theorem dL_calls_18 : decode cL_calls 18 = .ok (.ireturn, 1) := by decide +kernel
theorem dL_toWind_0 : decode cL_toWind 0 = .ok (.aload_n 2, 1) := by decide +kernel
theorem dL_toWind_1 : decode cL_toWind 1 = .ok (.iconst 0, 1) := by decide +kernel
theorem dL_toWind_2 : decode cL_toWind 2 = .ok (.aload_n 0, 1) := by decide +kernel
theorem dL_toWind_3 : decode cL_toWind 3 = .ok (.iload_n 1, 1) := by decide +kernel
theorem dL_toWind_4 : decode cL_toWind 4 = .ok (.invokevirtual 48, 3) := by decide +kernel
theorem dL_toWind_7 : decode cL_toWind 7 = .ok (.i2l, 1) := by decide +kernel
theorem dL_toWind_8 : decode cL_toWind 8 = .ok (.lastore, 1) := by decide +kernel
theorem dL_toWind_9 : decode cL_toWind 9 = .ok (.goto 6, 3) := by decide +kernel
theorem dL_toWind_12 : decode cL_toWind 12 = .ok (.astore_n 3, 1) := by decide +kernel
theorem dL_toWind_13 : decode cL_toWind 13 = .ok (.iconst 1, 1) := by decide +kernel
theorem dL_toWind_14 : decode cL_toWind 14 = .ok (.ireturn, 1) := by decide +kernel
theorem dL_toWind_15 : decode cL_toWind 15 = .ok (.iconst 0, 1) := by decide +kernel
theorem dL_toWind_16 : decode cL_toWind 16 = .ok (.ireturn, 1) := by decide +kernel
theorem dL_moving_0 : decode cL_moving 0 = .ok (.aload_n 3, 1) := by decide +kernel
theorem dL_moving_1 : decode cL_moving 1 = .ok (.iconst 0, 1) := by decide +kernel
theorem dL_moving_2 : decode cL_moving 2 = .ok (.aload_n 0, 1) := by decide +kernel
theorem dL_moving_3 : decode cL_moving 3 = .ok (.iload_n 1, 1) := by decide +kernel
theorem dL_moving_4 : decode cL_moving 4 = .ok (.iload_n 2, 1) := by decide +kernel
theorem dL_moving_5 : decode cL_moving 5 = .ok (.invokevirtual 51, 3) := by decide +kernel
theorem dL_moving_8 : decode cL_moving 8 = .ok (.i2l, 1) := by decide +kernel
theorem dL_moving_9 : decode cL_moving 9 = .ok (.lastore, 1) := by decide +kernel
theorem dL_moving_10 : decode cL_moving 10 = .ok (.goto 7, 3) := by decide +kernel
theorem dL_moving_13 : decode cL_moving 13 = .ok (.astore 4, 2) := by decide +kernel
theorem dL_moving_15 : decode cL_moving 15 = .ok (.iconst 1, 1) := by decide +kernel
theorem dL_moving_16 : decode cL_moving 16 = .ok (.ireturn, 1) := by decide +kernel
theorem dL_moving_17 : decode cL_moving 17 = .ok (.iconst 0, 1) := by decide +kernel
theorem dL_moving_18 : decode cL_moving 18 = .ok (.ireturn, 1) := by decide +kernel
theorem dL_votes_0 : decode cL_votes 0 = .ok (.aload_n 3, 1) := by decide +kernel
theorem dL_votes_1 : decode cL_votes 1 = .ok (.iconst 0, 1) := by decide +kernel
theorem dL_votes_2 : decode cL_votes 2 = .ok (.aload_n 0, 1) := by decide +kernel
theorem dL_votes_3 : decode cL_votes 3 = .ok (.iload_n 1, 1) := by decide +kernel
theorem dL_votes_4 : decode cL_votes 4 = .ok (.iload_n 2, 1) := by decide +kernel
theorem dL_votes_5 : decode cL_votes 5 = .ok (.invokevirtual 54, 3) := by decide +kernel
theorem dL_votes_8 : decode cL_votes 8 = .ok (.i2l, 1) := by decide +kernel
theorem dL_votes_9 : decode cL_votes 9 = .ok (.lastore, 1) := by decide +kernel
theorem dL_votes_10 : decode cL_votes 10 = .ok (.goto 11, 3) := by decide +kernel
theorem dL_votes_13 : decode cL_votes 13 = .ok (.astore 4, 2) := by decide +kernel
theorem dL_votes_15 : decode cL_votes 15 = .ok (.iconst 1, 1) := by decide +kernel
theorem dL_votes_16 : decode cL_votes 16 = .ok (.ireturn, 1) := by decide +kernel
theorem dL_votes_17 : decode cL_votes 17 = .ok (.astore 4, 2) := by decide +kernel
theorem dL_votes_19 : decode cL_votes 19 = .ok (.iconst 2, 1) := by decide +kernel
theorem dL_votes_20 : decode cL_votes 20 = .ok (.ireturn, 1) := by decide +kernel
theorem dL_votes_21 : decode cL_votes 21 = .ok (.iconst 0, 1) := by decide +kernel
theorem dL_votes_22 : decode cL_votes 22 = .ok (.ireturn, 1) := by decide +kernel
theorem dL_bought_0 : decode cL_bought 0 = .ok (.aload_n 3, 1) := by decide +kernel
theorem dL_bought_1 : decode cL_bought 1 = .ok (.iconst 0, 1) := by decide +kernel
theorem dL_bought_2 : decode cL_bought 2 = .ok (.aload_n 0, 1) := by decide +kernel
theorem dL_bought_3 : decode cL_bought 3 = .ok (.iload_n 1, 1) := by decide +kernel
theorem dL_bought_4 : decode cL_bought 4 = .ok (.iload_n 2, 1) := by decide +kernel
theorem dL_bought_5 : decode cL_bought 5 = .ok (.invokevirtual 57, 3) := by decide +kernel
theorem dL_bought_8 : decode cL_bought 8 = .ok (.i2l, 1) := by decide +kernel
theorem dL_bought_9 : decode cL_bought 9 = .ok (.lastore, 1) := by decide +kernel
theorem dL_bought_10 : decode cL_bought 10 = .ok (.goto 11, 3) := by decide +kernel
theorem dL_bought_13 : decode cL_bought 13 = .ok (.astore 4, 2) := by decide +kernel
theorem dL_bought_15 : decode cL_bought 15 = .ok (.iconst 1, 1) := by decide +kernel
theorem dL_bought_16 : decode cL_bought 16 = .ok (.ireturn, 1) := by decide +kernel
theorem dL_bought_17 : decode cL_bought 17 = .ok (.astore 4, 2) := by decide +kernel
theorem dL_bought_19 : decode cL_bought 19 = .ok (.iconst 2, 1) := by decide +kernel
theorem dL_bought_20 : decode cL_bought 20 = .ok (.ireturn, 1) := by decide +kernel
theorem dL_bought_21 : decode cL_bought 21 = .ok (.iconst 0, 1) := by decide +kernel
theorem dL_bought_22 : decode cL_bought 22 = .ok (.ireturn, 1) := by decide +kernel
theorem dL_order_0 : decode cL_order 0 = .ok (.aload_n 2, 1) := by decide +kernel
theorem dL_order_1 : decode cL_order 1 = .ok (.iconst 0, 1) := by decide +kernel
theorem dL_order_2 : decode cL_order 2 = .ok (.aload_n 0, 1) := by decide +kernel
theorem dL_order_3 : decode cL_order 3 = .ok (.iload_n 1, 1) := by decide +kernel
theorem dL_order_4 : decode cL_order 4 = .ok (.invokevirtual 60, 3) := by decide +kernel
theorem dL_order_7 : decode cL_order 7 = .ok (.i2l, 1) := by decide +kernel
theorem dL_order_8 : decode cL_order 8 = .ok (.lastore, 1) := by decide +kernel
theorem dL_order_9 : decode cL_order 9 = .ok (.goto 6, 3) := by decide +kernel
theorem dL_order_12 : decode cL_order 12 = .ok (.astore_n 3, 1) := by decide +kernel
theorem dL_order_13 : decode cL_order 13 = .ok (.iconst 1, 1) := by decide +kernel
theorem dL_order_14 : decode cL_order 14 = .ok (.ireturn, 1) := by decide +kernel
