theorem dX9_motion_7 : decode cX9_motion 7 = .ok (.invokevirtual 389, 3) := by decide +kernel
theorem dX9_motion_10 : decode cX9_motion 10 = .ok (.ifCond .ne 9, 3) := by decide +kernel
theorem dX9_motion_13 : decode cX9_motion 13 = .ok (.aload_n 0, 1) := by decide +kernel
theorem dX9_motion_14 : decode cX9_motion 14 = .ok (.iconst 1, 1) := by decide +kernel
theorem dX9_motion_15 : decode cX9_motion 15 = .ok (.invokevirtual 299, 3) := by decide +kernel
theorem dX9_motion_18 : decode cX9_motion 18 = .ok (.ireturn, 1) := by decide +kernel
theorem dX9_motion_19 : decode cX9_motion 19 = .ok (.iload_n 2, 1) := by decide +kernel
theorem dX9_motion_20 : decode cX9_motion 20 = .ok (.tableswitch 94 0 6 #[44, 51, 58, 65, 72, 79, 88], 44) := by decide +kernel
theorem dX9_motion_64 : decode cX9_motion 64 = .ok (.aload_n 0, 1) := by decide +kernel
theorem dX9_motion_65 : decode cX9_motion 65 = .ok (.getfield 60, 3) := by decide +kernel
theorem dX9_motion_68 : decode cX9_motion 68 = .ok (.iload_n 1, 1) := by decide +kernel
theorem dX9_motion_69 : decode cX9_motion 69 = .ok (.iaload, 1) := by decide +kernel
theorem dX9_motion_70 : decode cX9_motion 70 = .ok (.ireturn, 1) := by decide +kernel
theorem dX9_motion_71 : decode cX9_motion 71 = .ok (.aload_n 0, 1) := by decide +kernel
theorem dX9_motion_72 : decode cX9_motion 72 = .ok (.getfield 91, 3) := by decide +kernel
theorem dX9_motion_75 : decode cX9_motion 75 = .ok (.iload_n 1, 1) := by decide +kernel
theorem dX9_motion_76 : decode cX9_motion 76 = .ok (.iaload, 1) := by decide +kernel
theorem dX9_motion_77 : decode cX9_motion 77 = .ok (.ireturn, 1) := by decide +kernel
theorem dX9_motion_78 : decode cX9_motion 78 = .ok (.aload_n 0, 1) := by decide +kernel
theorem dX9_motion_79 : decode cX9_motion 79 = .ok (.getfield 65, 3) := by decide +kernel
theorem dX9_motion_82 : decode cX9_motion 82 = .ok (.iload_n 1, 1) := by decide +kernel
theorem dX9_motion_83 : decode cX9_motion 83 = .ok (.iaload, 1) := by decide +kernel
theorem dX9_motion_84 : decode cX9_motion 84 = .ok (.ireturn, 1) := by decide +kernel
theorem dX9_motion_85 : decode cX9_motion 85 = .ok (.aload_n 0, 1) := by decide +kernel
theorem dX9_motion_86 : decode cX9_motion 86 = .ok (.getfield 67, 3) := by decide +kernel
theorem dX9_motion_89 : decode cX9_motion 89 = .ok (.iload_n 1, 1) := by decide +kernel
theorem dX9_motion_90 : decode cX9_motion 90 = .ok (.iaload, 1) := by decide +kernel
theorem dX9_motion_91 : decode cX9_motion 91 = .ok (.ireturn, 1) := by decide +kernel
theorem dX9_motion_92 : decode cX9_motion 92 = .ok (.aload_n 0, 1) := by decide +kernel
theorem dX9_motion_93 : decode cX9_motion 93 = .ok (.getfield 70, 3) := by decide +kernel
theorem dX9_motion_96 : decode cX9_motion 96 = .ok (.iload_n 1, 1) := by decide +kernel
theorem dX9_motion_97 : decode cX9_motion 97 = .ok (.iaload, 1) := by decide +kernel
theorem dX9_motion_98 : decode cX9_motion 98 = .ok (.ireturn, 1) := by decide +kernel
theorem dX9_motion_99 : decode cX9_motion 99 = .ok (.aload_n 0, 1) := by decide +kernel
theorem dX9_motion_100 : decode cX9_motion 100 = .ok (.getfield 319, 3) := by decide +kernel
theorem dX9_motion_103 : decode cX9_motion 103 = .ok (.iload_n 1, 1) := by decide +kernel
theorem dX9_motion_104 : decode cX9_motion 104 = .ok (.ishr, 1) := by decide +kernel
theorem dX9_motion_105 : decode cX9_motion 105 = .ok (.iconst 1, 1) := by decide +kernel
theorem dX9_motion_106 : decode cX9_motion 106 = .ok (.iand, 1) := by decide +kernel
theorem dX9_motion_107 : decode cX9_motion 107 = .ok (.ireturn, 1) := by decide +kernel
theorem dX9_motion_108 : decode cX9_motion 108 = .ok (.aload_n 0, 1) := by decide +kernel
theorem dX9_motion_109 : decode cX9_motion 109 = .ok (.iload_n 1, 1) := by decide +kernel
theorem dX9_motion_110 : decode cX9_motion 110 = .ok (.invokevirtual 392, 3) := by decide +kernel
theorem dX9_motion_113 : decode cX9_motion 113 = .ok (.ireturn, 1) := by decide +kernel
theorem dX9_motion_114 : decode cX9_motion 114 = .ok (.aload_n 0, 1) := by decide +kernel
theorem dX9_motion_115 : decode cX9_motion 115 = .ok (.iconst 1, 1) := by decide +kernel
theorem dX9_motion_116 : decode cX9_motion 116 = .ok (.invokevirtual 299, 3) := by decide +kernel
theorem dX9_motion_119 : decode cX9_motion 119 = .ok (.ireturn, 1) := by decide +kernel
theorem dX9_refuse_0 : decode cX9_refuse 0 = .ok (.aload_n 0, 1) := by decide +kernel
theorem dX9_refuse_1 : decode cX9_refuse 1 = .ok (.getfield 79, 3) := by decide +kernel
theorem dX9_refuse_4 : decode cX9_refuse 4 = .ok (.iload_n 1, 1) := by decide +kernel
theorem dX9_refuse_5 : decode cX9_refuse 5 = .ok (.dup2, 1) := by decide +kernel
theorem dX9_refuse_6 : decode cX9_refuse 6 = .ok (.iaload, 1) := by decide +kernel
theorem dX9_refuse_7 : decode cX9_refuse 7 = .ok (.iconst 1, 1) := by decide +kernel
theorem dX9_refuse_8 : decode cX9_refuse 8 = .ok (.iadd, 1) := by decide +kernel
theorem dX9_refuse_9 : decode cX9_refuse 9 = .ok (.iastore, 1) := by decide +kernel
theorem dX9_refuse_10 : decode cX9_refuse 10 = .ok (.iconst (-1), 1) := by decide +kernel
theorem dX9_refuse_11 : decode cX9_refuse 11 = .ok (.ireturn, 1) := by decide +kernel
theorem dX9_keep_0 : decode cX9_keep 0 = .ok (.aload_n 0, 1) := by decide +kernel
theorem dX9_keep_1 : decode cX9_keep 1 = .ok (.getfield 321, 3) := by decide +kernel
theorem dX9_keep_4 : decode cX9_keep 4 = .ok (.bipush 40, 2) := by decide +kernel
theorem dX9_keep_6 : decode cX9_keep 6 = .ok (.if_icmp .ne 46, 3) := by decide +kernel
theorem dX9_keep_9 : decode cX9_keep 9 = .ok (.bipush 24, 2) := by decide +kernel
theorem dX9_keep_11 : decode cX9_keep 11 = .ok (.istore_n 1, 1) := by decide +kernel
theorem dX9_keep_12 : decode cX9_keep 12 = .ok (.iload_n 1, 1) := by decide +kernel
theorem dX9_keep_13 : decode cX9_keep 13 = .ok (.aload_n 0, 1) := by decide +kernel
theorem dX9_keep_14 : decode cX9_keep 14 = .ok (.getfield 94, 3) := by decide +kernel
theorem dX9_keep_17 : decode cX9_keep 17 = .ok (.arraylength, 1) := by decide +kernel
theorem dX9_keep_18 : decode cX9_keep 18 = .ok (.if_icmp .ge 24, 3) := by decide +kernel
theorem dX9_keep_21 : decode cX9_keep 21 = .ok (.aload_n 0, 1) := by decide +kernel
theorem dX9_keep_22 : decode cX9_keep 22 = .ok (.getfield 94, 3) := by decide +kernel
theorem dX9_keep_25 : decode cX9_keep 25 = .ok (.iload_n 1, 1) := by decide +kernel
theorem dX9_keep_26 : decode cX9_keep 26 = .ok (.bipush 24, 2) := by decide +kernel
theorem dX9_keep_28 : decode cX9_keep 28 = .ok (.isub, 1) := by decide +kernel
theorem dX9_keep_29 : decode cX9_keep 29 = .ok (.aload_n 0, 1) := by decide +kernel
theorem dX9_keep_30 : decode cX9_keep 30 = .ok (.getfield 94, 3) := by decide +kernel
theorem dX9_keep_33 : decode cX9_keep 33 = .ok (.iload_n 1, 1) := by decide +kernel
theorem dX9_keep_34 : decode cX9_keep 34 = .ok (.iaload, 1) := by decide +kernel
theorem dX9_keep_35 : decode cX9_keep 35 = .ok (.iastore, 1) := by decide +kernel
theorem dX9_keep_36 : decode cX9_keep 36 = .ok (.iinc 1 1, 3) := by decide +kernel
theorem dX9_keep_39 : decode cX9_keep 39 = .ok (.goto (-27), 3) := by decide +kernel
theorem dX9_keep_42 : decode cX9_keep 42 = .ok (.aload_n 0, 1) := by decide +kernel
theorem dX9_keep_43 : decode cX9_keep 43 = .ok (.dup, 1) := by decide +kernel
theorem dX9_keep_44 : decode cX9_keep 44 = .ok (.getfield 321, 3) := by decide +kernel
theorem dX9_keep_47 : decode cX9_keep 47 = .ok (.iconst 1, 1) := by decide +kernel
theorem dX9_keep_48 : decode cX9_keep 48 = .ok (.isub, 1) := by decide +kernel
theorem dX9_keep_49 : decode cX9_keep 49 = .ok (.putfield 321, 3) := by decide +kernel
theorem dX9_keep_52 : decode cX9_keep 52 = .ok (.aload_n 0, 1) := by decide +kernel
theorem dX9_keep_53 : decode cX9_keep 53 = .ok (.aload_n 0, 1) := by decide +kernel
theorem dX9_keep_54 : decode cX9_keep 54 = .ok (.getfield 94, 3) := by decide +kernel
theorem dX9_keep_57 : decode cX9_keep 57 = .ok (.bipush 24, 2) := by decide +kernel
theorem dX9_keep_59 : decode cX9_keep 59 = .ok (.aload_n 0, 1) := by decide +kernel
theorem dX9_keep_60 : decode cX9_keep 60 = .ok (.getfield 321, 3) := by decide +kernel
theorem dX9_keep_63 : decode cX9_keep 63 = .ok (.imul, 1) := by decide +kernel
theorem dX9_keep_64 : decode cX9_keep 64 = .ok (.invokevirtual 395, 3) := by decide +kernel
theorem dX9_keep_67 : decode cX9_keep 67 = .ok (.aload_n 0, 1) := by decide +kernel
theorem dX9_keep_68 : decode cX9_keep 68 = .ok (.dup, 1) := by decide +kernel
theorem dX9_keep_69 : decode cX9_keep 69 = .ok (.getfield 321, 3) := by decide +kernel
theorem dX9_keep_72 : decode cX9_keep 72 = .ok (.iconst 1, 1) := by decide +kernel
theorem dX9_keep_73 : decode cX9_keep 73 = .ok (.iadd, 1) := by decide +kernel
theorem dX9_keep_74 : decode cX9_keep 74 = .ok (.putfield 321, 3) := by decide +kernel
theorem dX9_keep_77 : decode cX9_keep 77 = .ok (.return_, 1) := by decide +kernel
theorem dX9_hours_0 : decode cX9_hours 0 = .ok (.aload_n 0, 1) := by decide +kernel
theorem dX9_hours_1 : decode cX9_hours 1 = .ok (.iconst 0, 1) := by decide +kernel
theorem dX9_hours_2 : decode cX9_hours 2 = .ok (.putfield 152, 3) := by decide +kernel
theorem dX9_hours_5 : decode cX9_hours 5 = .ok (.iload_n 1, 1) := by decide +kernel
theorem dX9_hours_6 : decode cX9_hours 6 = .ok (.i2l, 1) := by decide +kernel
theorem dX9_hours_7 : decode cX9_hours 7 = .ok (.lconst 1, 1) := by decide +kernel
theorem dX9_hours_8 : decode cX9_hours 8 = .ok (.ldc2_w 399, 3) := by decide +kernel
theorem dX9_hours_11 : decode cX9_hours 11 = .ok (.invokestatic 155, 3) := by decide +kernel
theorem dX9_hours_14 : decode cX9_hours 14 = .ok (.ifCond .eq 15, 3) := by decide +kernel
theorem dX9_hours_17 : decode cX9_hours 17 = .ok (.aload_n 0, 1) := by decide +kernel
theorem dX9_hours_18 : decode cX9_hours 18 = .ok (.getfield 312, 3) := by decide +kernel
theorem dX9_hours_21 : decode cX9_hours 21 = .ok (.iload_n 1, 1) := by decide +kernel
theorem dX9_hours_22 : decode cX9_hours 22 = .ok (.iadd, 1) := by decide +kernel
theorem dX9_hours_23 : decode cX9_hours 23 = .ok (.sipush 9999, 3) := by decide +kernel
theorem dX9_hours_26 : decode cX9_hours 26 = .ok (.if_icmp .le 9, 3) := by decide +kernel
theorem dX9_hours_29 : decode cX9_hours 29 = .ok (.aload_n 0, 1) := by decide +kernel
theorem dX9_hours_30 : decode cX9_hours 30 = .ok (.iconst 1, 1) := by decide +kernel
theorem dX9_hours_31 : decode cX9_hours 31 = .ok (.invokevirtual 401, 3) := by decide +kernel
theorem dX9_hours_34 : decode cX9_hours 34 = .ok (.ireturn, 1) := by decide +kernel
theorem dX9_hours_35 : decode cX9_hours 35 = .ok (.aload_n 0, 1) := by decide +kernel
theorem dX9_hours_36 : decode cX9_hours 36 = .ok (.invokevirtual 404, 3) := by decide +kernel
theorem dX9_hours_39 : decode cX9_hours 39 = .ok (.aload_n 0, 1) := by decide +kernel
theorem dX9_hours_40 : decode cX9_hours 40 = .ok (.iload_n 1, 1) := by decide +kernel
theorem dX9_hours_41 : decode cX9_hours 41 = .ok (.invokevirtual 407, 3) := by decide +kernel
theorem dX9_hours_44 : decode cX9_hours 44 = .ok (.aload_n 0, 1) := by decide +kernel
theorem dX9_hours_45 : decode cX9_hours 45 = .ok (.getfield 312, 3) := by decide +kernel
theorem dX9_hours_48 : decode cX9_hours 48 = .ok (.ireturn, 1) := by decide +kernel
theorem dX9_wind_0 : decode cX9_wind 0 = .ok (.aload_n 0, 1) := by decide +kernel
theorem dX9_wind_1 : decode cX9_wind 1 = .ok (.iconst 0, 1) := by decide +kernel
theorem dX9_wind_2 : decode cX9_wind 2 = .ok (.putfield 152, 3) := by decide +kernel
theorem dX9_wind_5 : decode cX9_wind 5 = .ok (.iload_n 1, 1) := by decide +kernel
theorem dX9_wind_6 : decode cX9_wind 6 = .ok (.i2l, 1) := by decide +kernel
theorem dX9_wind_7 : decode cX9_wind 7 = .ok (.lconst 1, 1) := by decide +kernel
theorem dX9_wind_8 : decode cX9_wind 8 = .ok (.ldc2_w 410, 3) := by decide +kernel
theorem dX9_wind_11 : decode cX9_wind 11 = .ok (.invokestatic 155, 3) := by decide +kernel
theorem dX9_wind_14 : decode cX9_wind 14 = .ok (.ifCond .ne 9, 3) := by decide +kernel
theorem dX9_wind_17 : decode cX9_wind 17 = .ok (.aload_n 0, 1) := by decide +kernel
theorem dX9_wind_18 : decode cX9_wind 18 = .ok (.iconst 1, 1) := by decide +kernel
theorem dX9_wind_19 : decode cX9_wind 19 = .ok (.invokevirtual 401, 3) := by decide +kernel
theorem dX9_wind_22 : decode cX9_wind 22 = .ok (.ireturn, 1) := by decide +kernel
theorem dX9_wind_23 : decode cX9_wind 23 = .ok (.aload_n 0, 1) := by decide +kernel
theorem dX9_wind_24 : decode cX9_wind 24 = .ok (.invokevirtual 404, 3) := by decide +kernel
theorem dX9_wind_27 : decode cX9_wind 27 = .ok (.aload_n 0, 1) := by decide +kernel
theorem dX9_wind_28 : decode cX9_wind 28 = .ok (.bipush 99, 2) := by decide +kernel
theorem dX9_wind_30 : decode cX9_wind 30 = .ok (.aload_n 0, 1) := by decide +kernel
theorem dX9_wind_31 : decode cX9_wind 31 = .ok (.getfield 147, 3) := by decide +kernel
theorem dX9_wind_34 : decode cX9_wind 34 = .ok (.iload_n 1, 1) := by decide +kernel
theorem dX9_wind_35 : decode cX9_wind 35 = .ok (.iadd, 1) := by decide +kernel
theorem dX9_wind_36 : decode cX9_wind 36 = .ok (.invokestatic 189, 3) := by decide +kernel
theorem dX9_wind_39 : decode cX9_wind 39 = .ok (.putfield 147, 3) := by decide +kernel
theorem dX9_wind_42 : decode cX9_wind 42 = .ok (.aload_n 0, 1) := by decide +kernel
theorem dX9_wind_43 : decode cX9_wind 43 = .ok (.getfield 147, 3) := by decide +kernel
theorem dX9_wind_46 : decode cX9_wind 46 = .ok (.ireturn, 1) := by decide +kernel
theorem dX9_oil_0 : decode cX9_oil 0 = .ok (.aload_n 0, 1) := by decide +kernel
theorem dX9_oil_1 : decode cX9_oil 1 = .ok (.iconst 0, 1) := by decide +kernel
theorem dX9_oil_2 : decode cX9_oil 2 = .ok (.putfield 152, 3) := by decide +kernel
theorem dX9_oil_5 : decode cX9_oil 5 = .ok (.iload_n 1, 1) := by decide +kernel
theorem dX9_oil_6 : decode cX9_oil 6 = .ok (.i2l, 1) := by decide +kernel
theorem dX9_oil_7 : decode cX9_oil 7 = .ok (.lconst 1, 1) := by decide +kernel
theorem dX9_oil_8 : decode cX9_oil 8 = .ok (.ldc2_w 410, 3) := by decide +kernel
theorem dX9_oil_11 : decode cX9_oil 11 = .ok (.invokestatic 155, 3) := by decide +kernel
theorem dX9_oil_14 : decode cX9_oil 14 = .ok (.ifCond .ne 9, 3) := by decide +kernel
theorem dX9_oil_17 : decode cX9_oil 17 = .ok (.aload_n 0, 1) := by decide +kernel
theorem dX9_oil_18 : decode cX9_oil 18 = .ok (.iconst 1, 1) := by decide +kernel
theorem dX9_oil_19 : decode cX9_oil 19 = .ok (.invokevirtual 401, 3) := by decide +kernel
theorem dX9_oil_22 : decode cX9_oil 22 = .ok (.ireturn, 1) := by decide +kernel
theorem dX9_oil_23 : decode cX9_oil 23 = .ok (.aload_n 0, 1) := by decide +kernel
theorem dX9_oil_24 : decode cX9_oil 24 = .ok (.invokevirtual 404, 3) := by decide +kernel
theorem dX9_oil_27 : decode cX9_oil 27 = .ok (.aload_n 0, 1) := by decide +kernel
theorem dX9_oil_28 : decode cX9_oil 28 = .ok (.bipush 99, 2) := by decide +kernel
theorem dX9_oil_30 : decode cX9_oil 30 = .ok (.aload_n 0, 1) := by decide +kernel
theorem dX9_oil_31 : decode cX9_oil 31 = .ok (.getfield 145, 3) := by decide +kernel
theorem dX9_oil_34 : decode cX9_oil 34 = .ok (.iload_n 1, 1) := by decide +kernel
theorem dX9_oil_35 : decode cX9_oil 35 = .ok (.iadd, 1) := by decide +kernel
theorem dX9_oil_36 : decode cX9_oil 36 = .ok (.invokestatic 189, 3) := by decide +kernel
theorem dX9_oil_39 : decode cX9_oil 39 = .ok (.putfield 145, 3) := by decide +kernel
theorem dX9_oil_42 : decode cX9_oil 42 = .ok (.aload_n 0, 1) := by decide +kernel
theorem dX9_oil_43 : decode cX9_oil 43 = .ok (.getfield 145, 3) := by decide +kernel
theorem dX9_oil_46 : decode cX9_oil 46 = .ok (.ireturn, 1) := by decide +kernel
theorem dX9_spider_0 : decode cX9_spider 0 = .ok (.aload_n 0, 1) := by decide +kernel
theorem dX9_spider_1 : decode cX9_spider 1 = .ok (.iconst 0, 1) := by decide +kernel
theorem dX9_spider_2 : decode cX9_spider 2 = .ok (.putfield 152, 3) := by decide +kernel
theorem dX9_spider_5 : decode cX9_spider 5 = .ok (.iload_n 1, 1) := by decide +kernel
theorem dX9_spider_6 : decode cX9_spider 6 = .ok (.i2l, 1) := by decide +kernel
theorem dX9_spider_7 : decode cX9_spider 7 = .ok (.lconst 1, 1) := by decide +kernel
theorem dX9_spider_8 : decode cX9_spider 8 = .ok (.ldc2_w 412, 3) := by decide +kernel
theorem dX9_spider_11 : decode cX9_spider 11 = .ok (.invokestatic 155, 3) := by decide +kernel
theorem dX9_spider_14 : decode cX9_spider 14 = .ok (.ifCond .ne 9, 3) := by decide +kernel
theorem dX9_spider_17 : decode cX9_spider 17 = .ok (.aload_n 0, 1) := by decide +kernel
theorem dX9_spider_18 : decode cX9_spider 18 = .ok (.iconst 1, 1) := by decide +kernel
theorem dX9_spider_19 : decode cX9_spider 19 = .ok (.invokevirtual 401, 3) := by decide +kernel
theorem dX9_spider_22 : decode cX9_spider 22 = .ok (.ireturn, 1) := by decide +kernel
theorem dX9_spider_23 : decode cX9_spider 23 = .ok (.aload_n 0, 1) := by decide +kernel
theorem dX9_spider_24 : decode cX9_spider 24 = .ok (.invokevirtual 404, 3) := by decide +kernel
theorem dX9_spider_27 : decode cX9_spider 27 = .ok (.aload_n 0, 1) := by decide +kernel
theorem dX9_spider_28 : decode cX9_spider 28 = .ok (.getfield 314, 3) := by decide +kernel
theorem dX9_spider_31 : decode cX9_spider 31 = .ok (.istore_n 2, 1) := by decide +kernel
theorem dX9_spider_32 : decode cX9_spider 32 = .ok (.aload_n 0, 1) := by decide +kernel
theorem dX9_spider_33 : decode cX9_spider 33 = .ok (.iload_n 1, 1) := by decide +kernel
theorem dX9_spider_34 : decode cX9_spider 34 = .ok (.putfield 314, 3) := by decide +kernel
theorem dX9_spider_37 : decode cX9_spider 37 = .ok (.iload_n 2, 1) := by decide +kernel
theorem dX9_spider_38 : decode cX9_spider 38 = .ok (.ireturn, 1) := by decide +kernel
theorem dX9_bribe_0 : decode cX9_bribe 0 = .ok (.aload_n 0, 1) := by decide +kernel
theorem dX9_bribe_1 : decode cX9_bribe 1 = .ok (.iconst 0, 1) := by decide +kernel
theorem dX9_bribe_2 : decode cX9_bribe 2 = .ok (.putfield 152, 3) := by decide +kernel
theorem dX9_bribe_5 : decode cX9_bribe 5 = .ok (.aload_n 0, 1) := by decide +kernel
theorem dX9_bribe_6 : decode cX9_bribe 6 = .ok (.iload_n 1, 1) := by decide +kernel
theorem dX9_bribe_7 : decode cX9_bribe 7 = .ok (.invokevirtual 381, 3) := by decide +kernel
theorem dX9_bribe_10 : decode cX9_bribe 10 = .ok (.ifCond .ne 9, 3) := by decide +kernel
theorem dX9_bribe_13 : decode cX9_bribe 13 = .ok (.aload_n 0, 1) := by decide +kernel
theorem dX9_bribe_14 : decode cX9_bribe 14 = .ok (.iconst 1, 1) := by decide +kernel
theorem dX9_bribe_15 : decode cX9_bribe 15 = .ok (.invokevirtual 299, 3) := by decide +kernel
theorem dX9_bribe_18 : decode cX9_bribe 18 = .ok (.ireturn, 1) := by decide +kernel
theorem dX9_bribe_19 : decode cX9_bribe 19 = .ok (.iload_n 2, 1) := by decide +kernel
theorem dX9_bribe_20 : decode cX9_bribe 20 = .ok (.i2l, 1) := by decide +kernel
theorem dX9_bribe_21 : decode cX9_bribe 21 = .ok (.lconst 1, 1) := by decide +kernel
theorem dX9_bribe_22 : decode cX9_bribe 22 = .ok (.ldc2_w 414, 3) := by decide +kernel
theorem dX9_bribe_25 : decode cX9_bribe 25 = .ok (.invokestatic 155, 3) := by decide +kernel
theorem dX9_bribe_28 : decode cX9_bribe 28 = .ok (.ifCond .eq 11, 3) := by decide +kernel
theorem dX9_bribe_31 : decode cX9_bribe 31 = .ok (.iload_n 2, 1) := by decide +kernel
theorem dX9_bribe_32 : decode cX9_bribe 32 = .ok (.aload_n 0, 1) := by decide +kernel
theorem dX9_bribe_33 : decode cX9_bribe 33 = .ok (.getfield 149, 3) := by decide +kernel
theorem dX9_bribe_36 : decode cX9_bribe 36 = .ok (.if_icmp .le 16, 3) := by decide +kernel
theorem dX9_bribe_39 : decode cX9_bribe 39 = .ok (.aload_n 0, 1) := by decide +kernel
theorem dX9_bribe_40 : decode cX9_bribe 40 = .ok (.getfield 79, 3) := by decide +kernel
theorem dX9_bribe_43 : decode cX9_bribe 43 = .ok (.iconst 1, 1) := by decide +kernel
theorem dX9_bribe_44 : decode cX9_bribe 44 = .ok (.dup2, 1) := by decide +kernel
theorem dX9_bribe_45 : decode cX9_bribe 45 = .ok (.iaload, 1) := by decide +kernel
theorem dX9_bribe_46 : decode cX9_bribe 46 = .ok (.iconst 1, 1) := by decide +kernel
theorem dX9_bribe_47 : decode cX9_bribe 47 = .ok (.iadd, 1) := by decide +kernel
theorem dX9_bribe_48 : decode cX9_bribe 48 = .ok (.iastore, 1) := by decide +kernel
theorem dX9_bribe_49 : decode cX9_bribe 49 = .ok (.bipush (-10), 2) := by decide +kernel
theorem dX9_bribe_51 : decode cX9_bribe 51 = .ok (.ireturn, 1) := by decide +kernel
theorem dX9_bribe_52 : decode cX9_bribe 52 = .ok (.aload_n 0, 1) := by decide +kernel
theorem dX9_bribe_53 : decode cX9_bribe 53 = .ok (.invokevirtual 404, 3) := by decide +kernel
theorem dX9_bribe_56 : decode cX9_bribe 56 = .ok (.aload_n 0, 1) := by decide +kernel
theorem dX9_bribe_57 : decode cX9_bribe 57 = .ok (.getfield 89, 3) := by decide +kernel
theorem dX9_bribe_60 : decode cX9_bribe 60 = .ok (.iload_n 1, 1) := by decide +kernel
theorem dX9_bribe_61 : decode cX9_bribe 61 = .ok (.bipush 9, 2) := by decide +kernel
theorem dX9_bribe_63 : decode cX9_bribe 63 = .ok (.aload_n 0, 1) := by decide +kernel
theorem dX9_bribe_64 : decode cX9_bribe 64 = .ok (.getfield 89, 3) := by decide +kernel
theorem dX9_bribe_67 : decode cX9_bribe 67 = .ok (.iload_n 1, 1) := by decide +kernel
theorem dX9_bribe_68 : decode cX9_bribe 68 = .ok (.iaload, 1) := by decide +kernel
theorem dX9_bribe_69 : decode cX9_bribe 69 = .ok (.iload_n 2, 1) := by decide +kernel
theorem dX9_bribe_70 : decode cX9_bribe 70 = .ok (.iadd, 1) := by decide +kernel
theorem dX9_bribe_71 : decode cX9_bribe 71 = .ok (.invokestatic 189, 3) := by decide +kernel
theorem dX9_bribe_74 : decode cX9_bribe 74 = .ok (.iastore, 1) := by decide +kernel
theorem dX9_bribe_75 : decode cX9_bribe 75 = .ok (.aload_n 0, 1) := by decide +kernel
theorem dX9_bribe_76 : decode cX9_bribe 76 = .ok (.dup, 1) := by decide +kernel
theorem dX9_bribe_77 : decode cX9_bribe 77 = .ok (.getfield 149, 3) := by decide +kernel
theorem dX9_bribe_80 : decode cX9_bribe 80 = .ok (.iload_n 2, 1) := by decide +kernel
theorem dX9_bribe_81 : decode cX9_bribe 81 = .ok (.isub, 1) := by decide +kernel
theorem dX9_bribe_82 : decode cX9_bribe 82 = .ok (.putfield 149, 3) := by decide +kernel
theorem dX9_bribe_85 : decode cX9_bribe 85 = .ok (.aload_n 0, 1) := by decide +kernel
theorem dX9_bribe_86 : decode cX9_bribe 86 = .ok (.getfield 89, 3) := by decide +kernel
theorem dX9_bribe_89 : decode cX9_bribe 89 = .ok (.iload_n 1, 1) := by decide +kernel
theorem dX9_bribe_90 : decode cX9_bribe 90 = .ok (.iaload, 1) := by decide +kernel
theorem dX9_bribe_91 : decode cX9_bribe 91 = .ok (.ireturn, 1) := by decide +kernel
theorem dX9_move_0 : decode cX9_move 0 = .ok (.aload_n 0, 1) := by decide +kernel
theorem dX9_move_1 : decode cX9_move 1 = .ok (.iconst 0, 1) := by decide +kernel
theorem dX9_move_2 : decode cX9_move 2 = .ok (.putfield 152, 3) := by decide +kernel
theorem dX9_move_5 : decode cX9_move 5 = .ok (.aload_n 0, 1) := by decide +kernel
theorem dX9_move_6 : decode cX9_move 6 = .ok (.iload_n 1, 1) := by decide +kernel
theorem dX9_move_7 : decode cX9_move 7 = .ok (.invokevirtual 389, 3) := by decide +kernel
theorem dX9_move_10 : decode cX9_move 10 = .ok (.ifCond .ne 9, 3) := by decide +kernel
theorem dX9_move_13 : decode cX9_move 13 = .ok (.aload_n 0, 1) := by decide +kernel
theorem dX9_move_14 : decode cX9_move 14 = .ok (.iconst 1, 1) := by decide +kernel
theorem dX9_move_15 : decode cX9_move 15 = .ok (.invokevirtual 299, 3) := by decide +kernel
theorem dX9_move_18 : decode cX9_move 18 = .ok (.ireturn, 1) := by decide +kernel
theorem dX9_move_19 : decode cX9_move 19 = .ok (.aload_n 0, 1) := by decide +kernel
theorem dX9_move_20 : decode cX9_move 20 = .ok (.getfield 319, 3) := by decide +kernel
theorem dX9_move_23 : decode cX9_move 23 = .ok (.iload_n 1, 1) := by decide +kernel
theorem dX9_move_24 : decode cX9_move 24 = .ok (.invokestatic 354, 3) := by decide +kernel
theorem dX9_move_27 : decode cX9_move 27 = .ok (.ifCond .ne 15, 3) := by decide +kernel
theorem dX9_move_30 : decode cX9_move 30 = .ok (.iload_n 2, 1) := by decide +kernel
theorem dX9_move_31 : decode cX9_move 31 = .ok (.i2l, 1) := by decide +kernel
theorem dX9_move_32 : decode cX9_move 32 = .ok (.lconst 0, 1) := by decide +kernel
theorem dX9_move_33 : decode cX9_move 33 = .ok (.ldc2_w 412, 3) := by decide +kernel
theorem dX9_move_36 : decode cX9_move 36 = .ok (.invokestatic 155, 3) := by decide +kernel
theorem dX9_move_39 : decode cX9_move 39 = .ok (.ifCond .ne 9, 3) := by decide +kernel
theorem dX9_move_42 : decode cX9_move 42 = .ok (.aload_n 0, 1) := by decide +kernel
theorem dX9_move_43 : decode cX9_move 43 = .ok (.iconst 1, 1) := by decide +kernel
theorem dX9_move_44 : decode cX9_move 44 = .ok (.invokevirtual 401, 3) := by decide +kernel
theorem dX9_move_47 : decode cX9_move 47 = .ok (.ireturn, 1) := by decide +kernel
theorem dX9_move_48 : decode cX9_move 48 = .ok (.aload_n 0, 1) := by decide +kernel
theorem dX9_move_49 : decode cX9_move 49 = .ok (.invokevirtual 404, 3) := by decide +kernel
theorem dX9_move_52 : decode cX9_move 52 = .ok (.aload_n 0, 1) := by decide +kernel
theorem dX9_move_53 : decode cX9_move 53 = .ok (.getfield 91, 3) := by decide +kernel
theorem dX9_move_56 : decode cX9_move 56 = .ok (.iload_n 1, 1) := by decide +kernel
theorem dX9_move_57 : decode cX9_move 57 = .ok (.iaload, 1) := by decide +kernel
theorem dX9_move_58 : decode cX9_move 58 = .ok (.istore_n 3, 1) := by decide +kernel
theorem dX9_move_59 : decode cX9_move 59 = .ok (.aload_n 0, 1) := by decide +kernel
theorem dX9_move_60 : decode cX9_move 60 = .ok (.getfield 91, 3) := by decide +kernel
theorem dX9_move_63 : decode cX9_move 63 = .ok (.iload_n 1, 1) := by decide +kernel
theorem dX9_move_64 : decode cX9_move 64 = .ok (.iload_n 2, 1) := by decide +kernel
theorem dX9_move_65 : decode cX9_move 65 = .ok (.iastore, 1) := by decide +kernel
theorem dX9_move_66 : decode cX9_move 66 = .ok (.iload_n 3, 1) := by decide +kernel
theorem dX9_move_67 : decode cX9_move 67 = .ok (.ireturn, 1) := by decide +kernel
theorem dX9_undo_0 : decode cX9_undo 0 = .ok (.aload_n 0, 1) := by decide +kernel
theorem dX9_undo_1 : decode cX9_undo 1 = .ok (.iconst 0, 1) := by decide +kernel
theorem dX9_undo_2 : decode cX9_undo 2 = .ok (.putfield 152, 3) := by decide +kernel
theorem dX9_undo_5 : decode cX9_undo 5 = .ok (.aload_n 0, 1) := by decide +kernel
theorem dX9_undo_6 : decode cX9_undo 6 = .ok (.getfield 321, 3) := by decide +kernel
theorem dX9_undo_9 : decode cX9_undo 9 = .ok (.ifCond .ne 5, 3) := by decide +kernel
theorem dX9_undo_12 : decode cX9_undo 12 = .ok (.iconst (-1), 1) := by decide +kernel
theorem dX9_undo_13 : decode cX9_undo 13 = .ok (.ireturn, 1) := by decide +kernel
theorem dX9_undo_14 : decode cX9_undo 14 = .ok (.aload_n 0, 1) := by decide +kernel
theorem dX9_undo_15 : decode cX9_undo 15 = .ok (.dup, 1) := by decide +kernel
theorem dX9_undo_16 : decode cX9_undo 16 = .ok (.getfield 321, 3) := by decide +kernel
theorem dX9_undo_19 : decode cX9_undo 19 = .ok (.iconst 1, 1) := by decide +kernel
theorem dX9_undo_20 : decode cX9_undo 20 = .ok (.isub, 1) := by decide +kernel
theorem dX9_undo_21 : decode cX9_undo 21 = .ok (.putfield 321, 3) := by decide +kernel
theorem dX9_undo_24 : decode cX9_undo 24 = .ok (.aload_n 0, 1) := by decide +kernel
theorem dX9_undo_25 : decode cX9_undo 25 = .ok (.aload_n 0, 1) := by decide +kernel
theorem dX9_undo_26 : decode cX9_undo 26 = .ok (.getfield 94, 3) := by decide +kernel
theorem dX9_undo_29 : decode cX9_undo 29 = .ok (.bipush 24, 2) := by decide +kernel
theorem dX9_undo_31 : decode cX9_undo 31 = .ok (.aload_n 0, 1) := by decide +kernel
theorem dX9_undo_32 : decode cX9_undo 32 = .ok (.getfield 321, 3) := by decide +kernel
theorem dX9_undo_35 : decode cX9_undo 35 = .ok (.imul, 1) := by decide +kernel
theorem dX9_undo_36 : decode cX9_undo 36 = .ok (.invokevirtual 416, 3) := by decide +kernel
theorem dX9_undo_39 : decode cX9_undo 39 = .ok (.aload_n 0, 1) := by decide +kernel
theorem dX9_undo_40 : decode cX9_undo 40 = .ok (.getfield 321, 3) := by decide +kernel
theorem dX9_undo_43 : decode cX9_undo 43 = .ok (.ireturn, 1) := by decide +kernel
theorem dX9_saying_0 : decode cX9_saying 0 = .ok (.aload_n 0, 1) := by decide +kernel
theorem dX9_saying_1 : decode cX9_saying 1 = .ok (.iconst 0, 1) := by decide +kernel
theorem dX9_saying_2 : decode cX9_saying 2 = .ok (.putfield 152, 3) := by decide +kernel
theorem dX9_saying_5 : decode cX9_saying 5 = .ok (.iload_n 1, 1) := by decide +kernel
theorem dX9_saying_6 : decode cX9_saying 6 = .ok (.i2l, 1) := by decide +kernel
theorem dX9_saying_7 : decode cX9_saying 7 = .ok (.lconst 1, 1) := by decide +kernel
theorem dX9_saying_8 : decode cX9_saying 8 = .ok (.ldc2_w 419, 3) := by decide +kernel
theorem dX9_saying_11 : decode cX9_saying 11 = .ok (.invokestatic 155, 3) := by decide +kernel
theorem dX9_saying_14 : decode cX9_saying 14 = .ok (.ifCond .ne 9, 3) := by decide +kernel
theorem dX9_saying_17 : decode cX9_saying 17 = .ok (.aload_n 0, 1) := by decide +kernel
theorem dX9_saying_18 : decode cX9_saying 18 = .ok (.iconst 1, 1) := by decide +kernel
theorem dX9_saying_19 : decode cX9_saying 19 = .ok (.invokevirtual 299, 3) := by decide +kernel
theorem dX9_saying_22 : decode cX9_saying 22 = .ok (.ireturn, 1) := by decide +kernel
theorem dX9_saying_23 : decode cX9_saying 23 = .ok (.aload_n 0, 1) := by decide +kernel
theorem dX9_saying_24 : decode cX9_saying 24 = .ok (.aload_n 0, 1) := by decide +kernel
theorem dX9_saying_25 : decode cX9_saying 25 = .ok (.getfield 106, 3) := by decide +kernel
theorem dX9_saying_28 : decode cX9_saying 28 = .ok (.iconst 0, 1) := by decide +kernel
theorem dX9_saying_29 : decode cX9_saying 29 = .ok (.invokevirtual 395, 3) := by decide +kernel
theorem dX9_saying_32 : decode cX9_saying 32 = .ok (.aload_n 0, 1) := by decide +kernel
theorem dX9_saying_33 : decode cX9_saying 33 = .ok (.iload_n 1, 1) := by decide +kernel
theorem dX9_saying_34 : decode cX9_saying 34 = .ok (.invokevirtual 407, 3) := by decide +kernel
theorem dX9_saying_37 : decode cX9_saying 37 = .ok (.aload_n 0, 1) := by decide +kernel
theorem dX9_saying_38 : decode cX9_saying 38 = .ok (.aload_n 0, 1) := by decide +kernel
theorem dX9_saying_39 : decode cX9_saying 39 = .ok (.getfield 106, 3) := by decide +kernel
theorem dX9_saying_42 : decode cX9_saying 42 = .ok (.iconst 0, 1) := by decide +kernel
theorem dX9_saying_43 : decode cX9_saying 43 = .ok (.invokevirtual 416, 3) := by decide +kernel
theorem dX9_saying_46 : decode cX9_saying 46 = .ok (.aload_n 0, 1) := by decide +kernel
theorem dX9_saying_47 : decode cX9_saying 47 = .ok (.getfield 360, 3) := by decide +kernel
theorem dX9_saying_50 : decode cX9_saying 50 = .ok (.ireturn, 1) := by decide +kernel
theorem dX9_passedIn_0 : decode cX9_passedIn 0 = .ok (.aload_n 0, 1) := by decide +kernel
theorem dX9_passedIn_1 : decode cX9_passedIn 1 = .ok (.aload_n 0, 1) := by decide +kernel
theorem dX9_passedIn_2 : decode cX9_passedIn 2 = .ok (.getfield 106, 3) := by decide +kernel
theorem dX9_passedIn_5 : decode cX9_passedIn 5 = .ok (.iconst 0, 1) := by decide +kernel
theorem dX9_passedIn_6 : decode cX9_passedIn 6 = .ok (.invokevirtual 395, 3) := by decide +kernel
theorem dX9_passedIn_9 : decode cX9_passedIn 9 = .ok (.iconst (-1), 1) := by decide +kernel
theorem dX9_passedIn_10 : decode cX9_passedIn 10 = .ok (.istore_n 3, 1) := by decide +kernel
theorem dX9_passedIn_11 : decode cX9_passedIn 11 = .ok (.iconst 0, 1) := by decide +kernel
theorem dX9_passedIn_12 : decode cX9_passedIn 12 = .ok (.istore 4, 2) := by decide +kernel
theorem dX9_passedIn_14 : decode cX9_passedIn 14 = .ok (.iload 4, 2) := by decide +kernel
theorem dX9_passedIn_16 : decode cX9_passedIn 16 = .ok (.iload_n 2, 1) := by decide +kernel
theorem dX9_passedIn_17 : decode cX9_passedIn 17 = .ok (.if_icmp .gt 32, 3) := by decide +kernel
theorem dX9_passedIn_20 : decode cX9_passedIn 20 = .ok (.iload_n 3, 1) := by decide +kernel
theorem dX9_passedIn_21 : decode cX9_passedIn 21 = .ok (.iconst (-1), 1) := by decide +kernel
theorem dX9_passedIn_22 : decode cX9_passedIn 22 = .ok (.if_icmp .ne 27, 3) := by decide +kernel
theorem dX9_passedIn_25 : decode cX9_passedIn 25 = .ok (.aload_n 0, 1) := by decide +kernel
theorem dX9_passedIn_26 : decode cX9_passedIn 26 = .ok (.getfield 319, 3) := by decide +kernel
theorem dX9_passedIn_29 : decode cX9_passedIn 29 = .ok (.iload_n 1, 1) := by decide +kernel
theorem dX9_passedIn_30 : decode cX9_passedIn 30 = .ok (.invokestatic 354, 3) := by decide +kernel
theorem dX9_passedIn_33 : decode cX9_passedIn 33 = .ok (.ifCond .eq 6, 3) := by decide +kernel
theorem dX9_passedIn_36 : decode cX9_passedIn 36 = .ok (.iload 4, 2) := by decide +kernel
theorem dX9_passedIn_38 : decode cX9_passedIn 38 = .ok (.istore_n 3, 1) := by decide +kernel
theorem dX9_passedIn_39 : decode cX9_passedIn 39 = .ok (.aload_n 0, 1) := by decide +kernel
theorem dX9_passedIn_40 : decode cX9_passedIn 40 = .ok (.invokevirtual 375, 3) := by decide +kernel
theorem dX9_passedIn_43 : decode cX9_passedIn 43 = .ok (.iinc 4 1, 3) := by decide +kernel
theorem dX9_passedIn_46 : decode cX9_passedIn 46 = .ok (.goto (-32), 3) := by decide +kernel
theorem dX9_passedIn_49 : decode cX9_passedIn 49 = .ok (.aload_n 0, 1) := by decide +kernel
theorem dX9_passedIn_50 : decode cX9_passedIn 50 = .ok (.aload_n 0, 1) := by decide +kernel
theorem dX9_passedIn_51 : decode cX9_passedIn 51 = .ok (.getfield 106, 3) := by decide +kernel
theorem dX9_passedIn_54 : decode cX9_passedIn 54 = .ok (.iconst 0, 1) := by decide +kernel
theorem dX9_passedIn_55 : decode cX9_passedIn 55 = .ok (.invokevirtual 416, 3) := by decide +kernel
theorem dX9_passedIn_58 : decode cX9_passedIn 58 = .ok (.iload_n 3, 1) := by decide +kernel
theorem dX9_passedIn_59 : decode cX9_passedIn 59 = .ok (.ireturn, 1) := by decide +kernel
theorem dX9_when_0 : decode cX9_when 0 = .ok (.aload_n 0, 1) := by decide +kernel
theorem dX9_when_1 : decode cX9_when 1 = .ok (.iconst 0, 1) := by decide +kernel
theorem dX9_when_2 : decode cX9_when 2 = .ok (.putfield 152, 3) := by decide +kernel
theorem dX9_when_5 : decode cX9_when 5 = .ok (.aload_n 0, 1) := by decide +kernel
theorem dX9_when_6 : decode cX9_when 6 = .ok (.iload_n 1, 1) := by decide +kernel
theorem dX9_when_7 : decode cX9_when 7 = .ok (.invokevirtual 389, 3) := by decide +kernel
theorem dX9_when_10 : decode cX9_when 10 = .ok (.ifCond .eq 13, 3) := by decide +kernel
theorem dX9_when_13 : decode cX9_when 13 = .ok (.aload_n 0, 1) := by decide +kernel
theorem dX9_when_14 : decode cX9_when 14 = .ok (.iload_n 1, 1) := by decide +kernel
theorem dX9_when_15 : decode cX9_when 15 = .ok (.bipush 96, 2) := by decide +kernel
theorem dX9_when_17 : decode cX9_when 17 = .ok (.invokevirtual 421, 3) := by decide +kernel
theorem dX9_when_20 : decode cX9_when 20 = .ok (.goto 8, 3) := by decide +kernel
theorem dX9_when_23 : decode cX9_when 23 = .ok (.aload_n 0, 1) := by decide +kernel
theorem dX9_when_24 : decode cX9_when 24 = .ok (.iconst 1, 1) := by decide +kernel
theorem dX9_when_25 : decode cX9_when 25 = .ok (.invokevirtual 299, 3) := by decide +kernel
theorem dX9_when_28 : decode cX9_when 28 = .ok (.ireturn, 1) := by decide +kernel
theorem dX9_then_0 : decode cX9_then 0 = .ok (.aload_n 0, 1) := by decide +kernel
theorem dX9_then_1 : decode cX9_then 1 = .ok (.iconst 0, 1) := by decide +kernel
theorem dX9_then_2 : decode cX9_then 2 = .ok (.putfield 152, 3) := by decide +kernel
theorem dX9_then_5 : decode cX9_then 5 = .ok (.iload_n 2, 1) := by decide +kernel
theorem dX9_then_6 : decode cX9_then 6 = .ok (.ifCond .lt 8, 3) := by decide +kernel
theorem dX9_then_9 : decode cX9_then 9 = .ok (.iload_n 2, 1) := by decide +kernel
theorem dX9_then_10 : decode cX9_then 10 = .ok (.iconst 1, 1) := by decide +kernel
theorem dX9_then_11 : decode cX9_then 11 = .ok (.if_icmp .le 9, 3) := by decide +kernel
theorem dX9_then_14 : decode cX9_then 14 = .ok (.aload_n 0, 1) := by decide +kernel
theorem dX9_then_15 : decode cX9_then 15 = .ok (.iconst 1, 1) := by decide +kernel
theorem dX9_then_16 : decode cX9_then 16 = .ok (.invokevirtual 299, 3) := by decide +kernel
theorem dX9_then_19 : decode cX9_then 19 = .ok (.ireturn, 1) := by decide +kernel
theorem dX9_then_20 : decode cX9_then 20 = .ok (.iload_n 1, 1) := by decide +kernel
theorem dX9_then_21 : decode cX9_then 21 = .ok (.i2l, 1) := by decide +kernel
theorem dX9_then_22 : decode cX9_then 22 = .ok (.lconst 0, 1) := by decide +kernel
theorem dX9_then_23 : decode cX9_then 23 = .ok (.ldc2_w 419, 3) := by decide +kernel
theorem dX9_then_26 : decode cX9_then 26 = .ok (.invokestatic 155, 3) := by decide +kernel
theorem dX9_then_29 : decode cX9_then 29 = .ok (.ifCond .ne 9, 3) := by decide +kernel
theorem dX9_then_32 : decode cX9_then 32 = .ok (.aload_n 0, 1) := by decide +kernel
theorem dX9_then_33 : decode cX9_then 33 = .ok (.iconst 2, 1) := by decide +kernel
theorem dX9_then_34 : decode cX9_then 34 = .ok (.invokevirtual 299, 3) := by decide +kernel
theorem dX9_then_37 : decode cX9_then 37 = .ok (.ireturn, 1) := by decide +kernel
theorem dX9_then_38 : decode cX9_then 38 = .ok (.aload_n 0, 1) := by decide +kernel
theorem dX9_then_39 : decode cX9_then 39 = .ok (.aload_n 0, 1) := by decide +kernel
theorem dX9_then_40 : decode cX9_then 40 = .ok (.getfield 106, 3) := by decide +kernel
theorem dX9_then_43 : decode cX9_then 43 = .ok (.iconst 0, 1) := by decide +kernel
theorem dX9_then_44 : decode cX9_then 44 = .ok (.invokevirtual 395, 3) := by decide +kernel
theorem dX9_then_47 : decode cX9_then 47 = .ok (.aload_n 0, 1) := by decide +kernel
theorem dX9_then_48 : decode cX9_then 48 = .ok (.iload_n 1, 1) := by decide +kernel
theorem dX9_then_49 : decode cX9_then 49 = .ok (.invokevirtual 407, 3) := by decide +kernel
theorem dX9_then_52 : decode cX9_then 52 = .ok (.iload_n 2, 1) := by decide +kernel
theorem dX9_then_53 : decode cX9_then 53 = .ok (.ifCond .ne 10, 3) := by decide +kernel
theorem dX9_then_56 : decode cX9_then 56 = .ok (.aload_n 0, 1) := by decide +kernel
theorem dX9_then_57 : decode cX9_then 57 = .ok (.getfield 149, 3) := by decide +kernel
theorem dX9_then_60 : decode cX9_then 60 = .ok (.goto 7, 3) := by decide +kernel
theorem dX9_then_63 : decode cX9_then 63 = .ok (.aload_n 0, 1) := by decide +kernel
theorem dX9_then_64 : decode cX9_then 64 = .ok (.getfield 317, 3) := by decide +kernel
theorem dX9_then_67 : decode cX9_then 67 = .ok (.istore_n 3, 1) := by decide +kernel
theorem dX9_then_68 : decode cX9_then 68 = .ok (.aload_n 0, 1) := by decide +kernel
theorem dX9_then_69 : decode cX9_then 69 = .ok (.aload_n 0, 1) := by decide +kernel
theorem dX9_then_70 : decode cX9_then 70 = .ok (.getfield 106, 3) := by decide +kernel
theorem dX9_then_73 : decode cX9_then 73 = .ok (.iconst 0, 1) := by decide +kernel
theorem dX9_then_74 : decode cX9_then 74 = .ok (.invokevirtual 416, 3) := by decide +kernel
theorem dX9_then_77 : decode cX9_then 77 = .ok (.iload_n 3, 1) := by decide +kernel
theorem dX9_then_78 : decode cX9_then 78 = .ok (.ireturn, 1) := by decide +kernel
theorem dX9_fails_0 : decode cX9_fails 0 = .ok (.aload_n 0, 1) := by decide +kernel
theorem dX9_fails_1 : decode cX9_fails 1 = .ok (.iconst 0, 1) := by decide +kernel
theorem dX9_fails_2 : decode cX9_fails 2 = .ok (.putfield 152, 3) := by decide +kernel
theorem dX9_fails_5 : decode cX9_fails 5 = .ok (.iload_n 1, 1) := by decide +kernel
theorem dX9_fails_6 : decode cX9_fails 6 = .ok (.ifCond .lt 8, 3) := by decide +kernel
theorem dX9_fails_9 : decode cX9_fails 9 = .ok (.iload_n 1, 1) := by decide +kernel
theorem dX9_fails_10 : decode cX9_fails 10 = .ok (.iconst 1, 1) := by decide +kernel
theorem dX9_fails_11 : decode cX9_fails 11 = .ok (.if_icmp .le 9, 3) := by decide +kernel
theorem dX9_fails_14 : decode cX9_fails 14 = .ok (.aload_n 0, 1) := by decide +kernel
theorem dX9_fails_15 : decode cX9_fails 15 = .ok (.iconst 1, 1) := by decide +kernel
theorem dX9_fails_16 : decode cX9_fails 16 = .ok (.invokevirtual 299, 3) := by decide +kernel
theorem dX9_fails_19 : decode cX9_fails 19 = .ok (.ireturn, 1) := by decide +kernel
theorem dX9_fails_20 : decode cX9_fails 20 = .ok (.aload_n 0, 1) := by decide +kernel
theorem dX9_fails_21 : decode cX9_fails 21 = .ok (.aload_n 0, 1) := by decide +kernel
theorem dX9_fails_22 : decode cX9_fails 22 = .ok (.getfield 106, 3) := by decide +kernel
theorem dX9_fails_25 : decode cX9_fails 25 = .ok (.iconst 0, 1) := by decide +kernel
theorem dX9_fails_26 : decode cX9_fails 26 = .ok (.invokevirtual 395, 3) := by decide +kernel
theorem dX9_fails_29 : decode cX9_fails 29 = .ok (.iconst (-1), 1) := by decide +kernel
theorem dX9_fails_30 : decode cX9_fails 30 = .ok (.istore_n 2, 1) := by decide +kernel
theorem dX9_fails_31 : decode cX9_fails 31 = .ok (.iconst 1, 1) := by decide +kernel
theorem dX9_fails_32 : decode cX9_fails 32 = .ok (.istore_n 3, 1) := by decide +kernel
theorem dX9_fails_33 : decode cX9_fails 33 = .ok (.iload_n 3, 1) := by decide +kernel
theorem dX9_fails_34 : decode cX9_fails 34 = .ok (.bipush 96, 2) := by decide +kernel
theorem dX9_fails_36 : decode cX9_fails 36 = .ok (.if_icmp .gt 42, 3) := by decide +kernel
theorem dX9_fails_39 : decode cX9_fails 39 = .ok (.iload_n 2, 1) := by decide +kernel
theorem dX9_fails_40 : decode cX9_fails 40 = .ok (.iconst (-1), 1) := by decide +kernel
theorem dX9_fails_41 : decode cX9_fails 41 = .ok (.if_icmp .ne 37, 3) := by decide +kernel
theorem dX9_fails_44 : decode cX9_fails 44 = .ok (.aload_n 0, 1) := by decide +kernel
theorem dX9_fails_45 : decode cX9_fails 45 = .ok (.invokevirtual 375, 3) := by decide +kernel
theorem dX9_fails_48 : decode cX9_fails 48 = .ok (.iload_n 1, 1) := by decide +kernel
theorem dX9_fails_49 : decode cX9_fails 49 = .ok (.ifCond .ne 14, 3) := by decide +kernel
theorem dX9_fails_52 : decode cX9_fails 52 = .ok (.aload_n 0, 1) := by decide +kernel
theorem dX9_fails_53 : decode cX9_fails 53 = .ok (.getfield 360, 3) := by decide +kernel
theorem dX9_fails_56 : decode cX9_fails 56 = .ok (.iconst (-1), 1) := by decide +kernel
theorem dX9_fails_57 : decode cX9_fails 57 = .ok (.if_icmp .ne 15, 3) := by decide +kernel
theorem dX9_fails_60 : decode cX9_fails 60 = .ok (.goto 10, 3) := by decide +kernel
theorem dX9_fails_63 : decode cX9_fails 63 = .ok (.aload_n 0, 1) := by decide +kernel
theorem dX9_fails_64 : decode cX9_fails 64 = .ok (.getfield 363, 3) := by decide +kernel
theorem dX9_fails_67 : decode cX9_fails 67 = .ok (.ifCond .eq 5, 3) := by decide +kernel
theorem dX9_fails_70 : decode cX9_fails 70 = .ok (.iload_n 3, 1) := by decide +kernel
theorem dX9_fails_71 : decode cX9_fails 71 = .ok (.istore_n 2, 1) := by decide +kernel
theorem dX9_fails_72 : decode cX9_fails 72 = .ok (.iinc 3 1, 3) := by decide +kernel
theorem dX9_fails_75 : decode cX9_fails 75 = .ok (.goto (-42), 3) := by decide +kernel
theorem dX9_fails_78 : decode cX9_fails 78 = .ok (.aload_n 0, 1) := by decide +kernel
theorem dX9_fails_79 : decode cX9_fails 79 = .ok (.aload_n 0, 1) := by decide +kernel
theorem dX9_fails_80 : decode cX9_fails 80 = .ok (.getfield 106, 3) := by decide +kernel
theorem dX9_fails_83 : decode cX9_fails 83 = .ok (.iconst 0, 1) := by decide +kernel
theorem dX9_fails_84 : decode cX9_fails 84 = .ok (.invokevirtual 416, 3) := by decide +kernel
theorem dX9_fails_87 : decode cX9_fails 87 = .ok (.iload_n 2, 1) := by decide +kernel
theorem dX9_fails_88 : decode cX9_fails 88 = .ok (.ireturn, 1) := by decide +kernel
theorem dX9_calls_0 : decode cX9_calls 0 = .ok (.aload_n 0, 1) := by decide +kernel
theorem dX9_calls_1 : decode cX9_calls 1 = .ok (.iconst 0, 1) := by decide +kernel
theorem dX9_calls_2 : decode cX9_calls 2 = .ok (.putfield 152, 3) := by decide +kernel
theorem dX9_calls_5 : decode cX9_calls 5 = .ok (.iload_n 1, 1) := by decide +kernel
theorem dX9_calls_6 : decode cX9_calls 6 = .ok (.i2l, 1) := by decide +kernel
theorem dX9_calls_7 : decode cX9_calls 7 = .ok (.lconst 0, 1) := by decide +kernel
theorem dX9_calls_8 : decode cX9_calls 8 = .ok (.ldc2_w 412, 3) := by decide +kernel
theorem dX9_calls_11 : decode cX9_calls 11 = .ok (.invokestatic 155, 3) := by decide +kernel
theorem dX9_calls_14 : decode cX9_calls 14 = .ok (.ifCond .eq 15, 3) := by decide +kernel
theorem dX9_calls_17 : decode cX9_calls 17 = .ok (.iload_n 2, 1) := by decide +kernel
theorem dX9_calls_18 : decode cX9_calls 18 = .ok (.i2l, 1) := by decide +kernel
theorem dX9_calls_19 : decode cX9_calls 19 = .ok (.lconst 0, 1) := by decide +kernel
theorem dX9_calls_20 : decode cX9_calls 20 = .ok (.ldc2_w 419, 3) := by decide +kernel
theorem dX9_calls_23 : decode cX9_calls 23 = .ok (.invokestatic 155, 3) := by decide +kernel
theorem dX9_calls_26 : decode cX9_calls 26 = .ok (.ifCond .ne 9, 3) := by decide +kernel
theorem dX9_calls_29 : decode cX9_calls 29 = .ok (.aload_n 0, 1) := by decide +kernel
theorem dX9_calls_30 : decode cX9_calls 30 = .ok (.iconst 1, 1) := by decide +kernel
theorem dX9_calls_31 : decode cX9_calls 31 = .ok (.invokevirtual 299, 3) := by decide +kernel
theorem dX9_calls_34 : decode cX9_calls 34 = .ok (.ireturn, 1) := by decide +kernel
theorem dX9_calls_35 : decode cX9_calls 35 = .ok (.aload_n 0, 1) := by decide +kernel
theorem dX9_calls_36 : decode cX9_calls 36 = .ok (.aload_n 0, 1) := by decide +kernel
theorem dX9_calls_37 : decode cX9_calls 37 = .ok (.getfield 106, 3) := by decide +kernel
theorem dX9_calls_40 : decode cX9_calls 40 = .ok (.iconst 0, 1) := by decide +kernel
theorem dX9_calls_41 : decode cX9_calls 41 = .ok (.invokevirtual 395, 3) := by decide +kernel
theorem dX9_calls_44 : decode cX9_calls 44 = .ok (.iconst 0, 1) := by decide +kernel
theorem dX9_calls_45 : decode cX9_calls 45 = .ok (.istore_n 3, 1) := by decide +kernel
theorem dX9_calls_46 : decode cX9_calls 46 = .ok (.iconst 0, 1) := by decide +kernel
theorem dX9_calls_47 : decode cX9_calls 47 = .ok (.istore 4, 2) := by decide +kernel
theorem dX9_calls_49 : decode cX9_calls 49 = .ok (.iload 4, 2) := by decide +kernel
theorem dX9_calls_51 : decode cX9_calls 51 = .ok (.iload_n 2, 1) := by decide +kernel
theorem dX9_calls_52 : decode cX9_calls 52 = .ok (.if_icmp .ge 29, 3) := by decide +kernel
theorem dX9_calls_55 : decode cX9_calls 55 = .ok (.aload_n 0, 1) := by decide +kernel
theorem dX9_calls_56 : decode cX9_calls 56 = .ok (.invokevirtual 375, 3) := by decide +kernel
theorem dX9_calls_59 : decode cX9_calls 59 = .ok (.iload_n 3, 1) := by decide +kernel
theorem dX9_calls_60 : decode cX9_calls 60 = .ok (.aload_n 0, 1) := by decide +kernel
theorem dX9_calls_61 : decode cX9_calls 61 = .ok (.getfield 360, 3) := by decide +kernel
theorem dX9_calls_64 : decode cX9_calls 64 = .ok (.iload_n 1, 1) := by decide +kernel
theorem dX9_calls_65 : decode cX9_calls 65 = .ok (.if_icmp .ne 7, 3) := by decide +kernel
theorem dX9_calls_68 : decode cX9_calls 68 = .ok (.iconst 1, 1) := by decide +kernel
theorem dX9_calls_69 : decode cX9_calls 69 = .ok (.goto 4, 3) := by decide +kernel
theorem dX9_calls_72 : decode cX9_calls 72 = .ok (.iconst 0, 1) := by decide +kernel
theorem dX9_calls_73 : decode cX9_calls 73 = .ok (.iadd, 1) := by decide +kernel
theorem dX9_calls_74 : decode cX9_calls 74 = .ok (.istore_n 3, 1) := by decide +kernel
theorem dX9_calls_75 : decode cX9_calls 75 = .ok (.iinc 4 1, 3) := by decide +kernel
theorem dX9_calls_78 : decode cX9_calls 78 = .ok (.goto (-29), 3) := by decide +kernel
theorem dX9_calls_81 : decode cX9_calls 81 = .ok (.aload_n 0, 1) := by decide +kernel
theorem dX9_calls_82 : decode cX9_calls 82 = .ok (.aload_n 0, 1) := by decide +kernel
theorem dX9_calls_83 : decode cX9_calls 83 = .ok (.getfield 106, 3) := by decide +kernel
theorem dX9_calls_86 : decode cX9_calls 86 = .ok (.iconst 0, 1) := by decide +kernel
theorem dX9_calls_87 : decode cX9_calls 87 = .ok (.invokevirtual 416, 3) := by decide +kernel
theorem dX9_calls_90 : decode cX9_calls 90 = .ok (.iload_n 3, 1) := by decide +kernel
theorem dX9_calls_91 : decode cX9_calls 91 = .ok (.ireturn, 1) := by decide +kernel
theorem dX9_toWind_0 : decode cX9_toWind 0 = .ok (.aload_n 0, 1) := by decide +kernel
theorem dX9_toWind_1 : decode cX9_toWind 1 = .ok (.iconst 0, 1) := by decide +kernel
theorem dX9_toWind_2 : decode cX9_toWind 2 = .ok (.putfield 152, 3) := by decide +kernel
theorem dX9_toWind_5 : decode cX9_toWind 5 = .ok (.iload_n 1, 1) := by decide +kernel
theorem dX9_toWind_6 : decode cX9_toWind 6 = .ok (.i2l, 1) := by decide +kernel
theorem dX9_toWind_7 : decode cX9_toWind 7 = .ok (.lconst 1, 1) := by decide +kernel
theorem dX9_toWind_8 : decode cX9_toWind 8 = .ok (.ldc2_w 419, 3) := by decide +kernel
theorem dX9_toWind_11 : decode cX9_toWind 11 = .ok (.invokestatic 155, 3) := by decide +kernel
theorem dX9_toWind_14 : decode cX9_toWind 14 = .ok (.ifCond .eq 16, 3) := by decide +kernel
theorem dX9_toWind_17 : decode cX9_toWind 17 = .ok (.iconst 0, 1) := by decide +kernel
theorem dX9_toWind_18 : decode cX9_toWind 18 = .ok (.iload_n 1, 1) := by decide +kernel
theorem dX9_toWind_19 : decode cX9_toWind 19 = .ok (.aload_n 0, 1) := by decide +kernel
theorem dX9_toWind_20 : decode cX9_toWind 20 = .ok (.getfield 147, 3) := by decide +kernel
theorem dX9_toWind_23 : decode cX9_toWind 23 = .ok (.isub, 1) := by decide +kernel
theorem dX9_toWind_24 : decode cX9_toWind 24 = .ok (.invokestatic 338, 3) := by decide +kernel
theorem dX9_toWind_27 : decode cX9_toWind 27 = .ok (.goto 8, 3) := by decide +kernel
theorem dX9_toWind_30 : decode cX9_toWind 30 = .ok (.aload_n 0, 1) := by decide +kernel
theorem dX9_toWind_31 : decode cX9_toWind 31 = .ok (.iconst 1, 1) := by decide +kernel
theorem dX9_toWind_32 : decode cX9_toWind 32 = .ok (.invokevirtual 299, 3) := by decide +kernel
theorem dX9_toWind_35 : decode cX9_toWind 35 = .ok (.ireturn, 1) := by decide +kernel
theorem dX9_moving_0 : decode cX9_moving 0 = .ok (.aload_n 0, 1) := by decide +kernel
theorem dX9_moving_1 : decode cX9_moving 1 = .ok (.iconst 0, 1) := by decide +kernel
theorem dX9_moving_2 : decode cX9_moving 2 = .ok (.putfield 152, 3) := by decide +kernel
theorem dX9_moving_5 : decode cX9_moving 5 = .ok (.aload_n 0, 1) := by decide +kernel
theorem dX9_moving_6 : decode cX9_moving 6 = .ok (.iload_n 1, 1) := by decide +kernel
theorem dX9_moving_7 : decode cX9_moving 7 = .ok (.invokevirtual 389, 3) := by decide +kernel
theorem dX9_moving_10 : decode cX9_moving 10 = .ok (.ifCond .eq 12, 3) := by decide +kernel
theorem dX9_moving_13 : decode cX9_moving 13 = .ok (.iload_n 2, 1) := by decide +kernel
theorem dX9_moving_14 : decode cX9_moving 14 = .ok (.ifCond .lt 8, 3) := by decide +kernel
theorem dX9_moving_17 : decode cX9_moving 17 = .ok (.iload_n 2, 1) := by decide +kernel
theorem dX9_moving_18 : decode cX9_moving 18 = .ok (.iconst 1, 1) := by decide +kernel
theorem dX9_moving_19 : decode cX9_moving 19 = .ok (.if_icmp .le 9, 3) := by decide +kernel
theorem dX9_moving_22 : decode cX9_moving 22 = .ok (.aload_n 0, 1) := by decide +kernel
theorem dX9_moving_23 : decode cX9_moving 23 = .ok (.iconst 1, 1) := by decide +kernel
theorem dX9_moving_24 : decode cX9_moving 24 = .ok (.invokevirtual 299, 3) := by decide +kernel
theorem dX9_moving_27 : decode cX9_moving 27 = .ok (.ireturn, 1) := by decide +kernel
theorem dX9_moving_28 : decode cX9_moving 28 = .ok (.aload_n 0, 1) := by decide +kernel
theorem dX9_moving_29 : decode cX9_moving 29 = .ok (.getfield 319, 3) := by decide +kernel
theorem dX9_moving_32 : decode cX9_moving 32 = .ok (.iload_n 1, 1) := by decide +kernel
theorem dX9_moving_33 : decode cX9_moving 33 = .ok (.invokestatic 354, 3) := by decide +kernel
theorem dX9_moving_36 : decode cX9_moving 36 = .ok (.ifCond .eq 5, 3) := by decide +kernel
theorem dX9_moving_39 : decode cX9_moving 39 = .ok (.iconst (-1), 1) := by decide +kernel
theorem dX9_moving_40 : decode cX9_moving 40 = .ok (.ireturn, 1) := by decide +kernel
theorem dX9_moving_41 : decode cX9_moving 41 = .ok (.aload_n 0, 1) := by decide +kernel
theorem dX9_moving_42 : decode cX9_moving 42 = .ok (.getfield 91, 3) := by decide +kernel
theorem dX9_moving_45 : decode cX9_moving 45 = .ok (.iload_n 1, 1) := by decide +kernel
theorem dX9_moving_46 : decode cX9_moving 46 = .ok (.iaload, 1) := by decide +kernel
theorem dX9_moving_47 : decode cX9_moving 47 = .ok (.istore_n 3, 1) := by decide +kernel
theorem dX9_moving_48 : decode cX9_moving 48 = .ok (.iconst (-1), 1) := by decide +kernel
theorem dX9_moving_49 : decode cX9_moving 49 = .ok (.istore 4, 2) := by decide +kernel
theorem dX9_moving_51 : decode cX9_moving 51 = .ok (.iconst (-1), 1) := by decide +kernel
theorem dX9_moving_52 : decode cX9_moving 52 = .ok (.istore 5, 2) := by decide +kernel
theorem dX9_moving_54 : decode cX9_moving 54 = .ok (.iconst 0, 1) := by decide +kernel
theorem dX9_moving_55 : decode cX9_moving 55 = .ok (.istore 6, 2) := by decide +kernel
theorem dX9_moving_57 : decode cX9_moving 57 = .ok (.iload 6, 2) := by decide +kernel
theorem dX9_moving_59 : decode cX9_moving 59 = .ok (.bipush 24, 2) := by decide +kernel
theorem dX9_moving_61 : decode cX9_moving 61 = .ok (.if_icmp .gt 56, 3) := by decide +kernel
theorem dX9_moving_64 : decode cX9_moving 64 = .ok (.aload_n 0, 1) := by decide +kernel
theorem dX9_moving_65 : decode cX9_moving 65 = .ok (.getfield 91, 3) := by decide +kernel
theorem dX9_moving_68 : decode cX9_moving 68 = .ok (.iload_n 1, 1) := by decide +kernel
theorem dX9_moving_69 : decode cX9_moving 69 = .ok (.iload 6, 2) := by decide +kernel
theorem dX9_moving_71 : decode cX9_moving 71 = .ok (.iastore, 1) := by decide +kernel
theorem dX9_moving_72 : decode cX9_moving 72 = .ok (.aload_n 0, 1) := by decide +kernel
theorem dX9_moving_73 : decode cX9_moving 73 = .ok (.iload_n 1, 1) := by decide +kernel
theorem dX9_moving_74 : decode cX9_moving 74 = .ok (.bipush 48, 2) := by decide +kernel
theorem dX9_moving_76 : decode cX9_moving 76 = .ok (.invokevirtual 421, 3) := by decide +kernel
theorem dX9_moving_79 : decode cX9_moving 79 = .ok (.istore 7, 2) := by decide +kernel
theorem dX9_moving_81 : decode cX9_moving 81 = .ok (.iload 7, 2) := by decide +kernel
theorem dX9_moving_83 : decode cX9_moving 83 = .ok (.iconst (-1), 1) := by decide +kernel
theorem dX9_moving_84 : decode cX9_moving 84 = .ok (.if_icmp .eq 27, 3) := by decide +kernel
theorem dX9_moving_87 : decode cX9_moving 87 = .ok (.iload 5, 2) := by decide +kernel
theorem dX9_moving_89 : decode cX9_moving 89 = .ok (.iconst (-1), 1) := by decide +kernel
theorem dX9_moving_90 : decode cX9_moving 90 = .ok (.if_icmp .eq 13, 3) := by decide +kernel
theorem dX9_moving_93 : decode cX9_moving 93 = .ok (.iload 7, 2) := by decide +kernel
theorem dX9_moving_95 : decode cX9_moving 95 = .ok (.iload 5, 2) := by decide +kernel
theorem dX9_moving_97 : decode cX9_moving 97 = .ok (.if_icmp .lt 6, 3) := by decide +kernel
theorem dX9_moving_100 : decode cX9_moving 100 = .ok (.goto 11, 3) := by decide +kernel
theorem dX9_moving_103 : decode cX9_moving 103 = .ok (.iload 6, 2) := by decide +kernel
theorem dX9_moving_105 : decode cX9_moving 105 = .ok (.istore 4, 2) := by decide +kernel
theorem dX9_moving_107 : decode cX9_moving 107 = .ok (.iload 7, 2) := by decide +kernel
theorem dX9_moving_109 : decode cX9_moving 109 = .ok (.istore 5, 2) := by decide +kernel
theorem dX9_moving_111 : decode cX9_moving 111 = .ok (.iinc 6 1, 3) := by decide +kernel
theorem dX9_moving_114 : decode cX9_moving 114 = .ok (.goto (-57), 3) := by decide +kernel
theorem dX9_moving_117 : decode cX9_moving 117 = .ok (.aload_n 0, 1) := by decide +kernel
theorem dX9_moving_118 : decode cX9_moving 118 = .ok (.getfield 91, 3) := by decide +kernel
theorem dX9_moving_121 : decode cX9_moving 121 = .ok (.iload_n 1, 1) := by decide +kernel
theorem dX9_moving_122 : decode cX9_moving 122 = .ok (.iload_n 3, 1) := by decide +kernel
theorem dX9_moving_123 : decode cX9_moving 123 = .ok (.iastore, 1) := by decide +kernel
theorem dX9_moving_124 : decode cX9_moving 124 = .ok (.iload_n 2, 1) := by decide +kernel
theorem dX9_moving_125 : decode cX9_moving 125 = .ok (.ifCond .ne 8, 3) := by decide +kernel
theorem dX9_moving_128 : decode cX9_moving 128 = .ok (.iload 4, 2) := by decide +kernel
theorem dX9_moving_130 : decode cX9_moving 130 = .ok (.goto 5, 3) := by decide +kernel
theorem dX9_moving_133 : decode cX9_moving 133 = .ok (.iload 5, 2) := by decide +kernel
theorem dX9_moving_135 : decode cX9_moving 135 = .ok (.ireturn, 1) := by decide +kernel
theorem dX9_votes_0 : decode cX9_votes 0 = .ok (.aload_n 0, 1) := by decide +kernel
theorem dX9_votes_1 : decode cX9_votes 1 = .ok (.iconst 0, 1) := by decide +kernel
theorem dX9_votes_2 : decode cX9_votes 2 = .ok (.putfield 152, 3) := by decide +kernel
theorem dX9_votes_5 : decode cX9_votes 5 = .ok (.aload_n 0, 1) := by decide +kernel
theorem dX9_votes_6 : decode cX9_votes 6 = .ok (.iload_n 1, 1) := by decide +kernel
theorem dX9_votes_7 : decode cX9_votes 7 = .ok (.invokevirtual 389, 3) := by decide +kernel
theorem dX9_votes_10 : decode cX9_votes 10 = .ok (.ifCond .ne 9, 3) := by decide +kernel
theorem dX9_votes_13 : decode cX9_votes 13 = .ok (.aload_n 0, 1) := by decide +kernel
theorem dX9_votes_14 : decode cX9_votes 14 = .ok (.iconst 1, 1) := by decide +kernel
theorem dX9_votes_15 : decode cX9_votes 15 = .ok (.invokevirtual 299, 3) := by decide +kernel
theorem dX9_votes_18 : decode cX9_votes 18 = .ok (.ireturn, 1) := by decide +kernel
theorem dX9_votes_19 : decode cX9_votes 19 = .ok (.iload_n 2, 1) := by decide +kernel
theorem dX9_votes_20 : decode cX9_votes 20 = .ok (.i2l, 1) := by decide +kernel
theorem dX9_votes_21 : decode cX9_votes 21 = .ok (.lconst 0, 1) := by decide +kernel
theorem dX9_votes_22 : decode cX9_votes 22 = .ok (.ldc2_w 412, 3) := by decide +kernel
theorem dX9_votes_25 : decode cX9_votes 25 = .ok (.invokestatic 155, 3) := by decide +kernel
theorem dX9_votes_28 : decode cX9_votes 28 = .ok (.ifCond .eq 12, 3) := by decide +kernel
theorem dX9_votes_31 : decode cX9_votes 31 = .ok (.aload_n 0, 1) := by decide +kernel
theorem dX9_votes_32 : decode cX9_votes 32 = .ok (.iload_n 1, 1) := by decide +kernel
theorem dX9_votes_33 : decode cX9_votes 33 = .ok (.iload_n 2, 1) := by decide +kernel
theorem dX9_votes_34 : decode cX9_votes 34 = .ok (.invokevirtual 348, 3) := by decide +kernel
theorem dX9_votes_37 : decode cX9_votes 37 = .ok (.goto 8, 3) := by decide +kernel
theorem dX9_votes_40 : decode cX9_votes 40 = .ok (.aload_n 0, 1) := by decide +kernel
theorem dX9_votes_41 : decode cX9_votes 41 = .ok (.iconst 2, 1) := by decide +kernel
theorem dX9_votes_42 : decode cX9_votes 42 = .ok (.invokevirtual 299, 3) := by decide +kernel
theorem dX9_votes_45 : decode cX9_votes 45 = .ok (.ireturn, 1) := by decide +kernel
theorem dX9_bought_0 : decode cX9_bought 0 = .ok (.aload_n 0, 1) := by decide +kernel
theorem dX9_bought_1 : decode cX9_bought 1 = .ok (.iconst 0, 1) := by decide +kernel
theorem dX9_bought_2 : decode cX9_bought 2 = .ok (.putfield 152, 3) := by decide +kernel
theorem dX9_bought_5 : decode cX9_bought 5 = .ok (.aload_n 0, 1) := by decide +kernel
theorem dX9_bought_6 : decode cX9_bought 6 = .ok (.iload_n 1, 1) := by decide +kernel
theorem dX9_bought_7 : decode cX9_bought 7 = .ok (.invokevirtual 389, 3) := by decide +kernel
theorem dX9_bought_10 : decode cX9_bought 10 = .ok (.ifCond .ne 9, 3) := by decide +kernel
theorem dX9_bought_13 : decode cX9_bought 13 = .ok (.aload_n 0, 1) := by decide +kernel
theorem dX9_bought_14 : decode cX9_bought 14 = .ok (.iconst 1, 1) := by decide +kernel
theorem dX9_bought_15 : decode cX9_bought 15 = .ok (.invokevirtual 299, 3) := by decide +kernel
theorem dX9_bought_18 : decode cX9_bought 18 = .ok (.ireturn, 1) := by decide +kernel
theorem dX9_bought_19 : decode cX9_bought 19 = .ok (.iload_n 2, 1) := by decide +kernel
theorem dX9_bought_20 : decode cX9_bought 20 = .ok (.i2l, 1) := by decide +kernel
theorem dX9_bought_21 : decode cX9_bought 21 = .ok (.lconst 0, 1) := by decide +kernel
theorem dX9_bought_22 : decode cX9_bought 22 = .ok (.ldc2_w 412, 3) := by decide +kernel
theorem dX9_bought_25 : decode cX9_bought 25 = .ok (.invokestatic 155, 3) := by decide +kernel
theorem dX9_bought_28 : decode cX9_bought 28 = .ok (.ifCond .ne 9, 3) := by decide +kernel
theorem dX9_bought_31 : decode cX9_bought 31 = .ok (.aload_n 0, 1) := by decide +kernel
theorem dX9_bought_32 : decode cX9_bought 32 = .ok (.iconst 2, 1) := by decide +kernel
theorem dX9_bought_33 : decode cX9_bought 33 = .ok (.invokevirtual 299, 3) := by decide +kernel
theorem dX9_bought_36 : decode cX9_bought 36 = .ok (.ireturn, 1) := by decide +kernel
theorem dX9_bought_37 : decode cX9_bought 37 = .ok (.aload_n 0, 1) := by decide +kernel
theorem dX9_bought_38 : decode cX9_bought 38 = .ok (.iload_n 1, 1) := by decide +kernel
theorem dX9_bought_39 : decode cX9_bought 39 = .ok (.iload_n 2, 1) := by decide +kernel
theorem dX9_bought_40 : decode cX9_bought 40 = .ok (.invokevirtual 348, 3) := by decide +kernel
theorem dX9_bought_43 : decode cX9_bought 43 = .ok (.invokestatic 341, 3) := by decide +kernel
theorem dX9_bought_46 : decode cX9_bought 46 = .ok (.istore_n 3, 1) := by decide +kernel
theorem dX9_bought_47 : decode cX9_bought 47 = .ok (.iconst 0, 1) := by decide +kernel
theorem dX9_bought_48 : decode cX9_bought 48 = .ok (.istore 4, 2) := by decide +kernel
theorem dX9_bought_50 : decode cX9_bought 50 = .ok (.iload_n 3, 1) := by decide +kernel
theorem dX9_bought_51 : decode cX9_bought 51 = .ok (.iload 4, 2) := by decide +kernel
theorem dX9_bought_53 : decode cX9_bought 53 = .ok (.iadd, 1) := by decide +kernel
theorem dX9_bought_54 : decode cX9_bought 54 = .ok (.aload_n 0, 1) := by decide +kernel
theorem dX9_bought_55 : decode cX9_bought 55 = .ok (.getfield 50, 3) := by decide +kernel
theorem dX9_bought_58 : decode cX9_bought 58 = .ok (.iconst 3, 1) := by decide +kernel
theorem dX9_bought_59 : decode cX9_bought 59 = .ok (.iaload, 1) := by decide +kernel
theorem dX9_bought_60 : decode cX9_bought 60 = .ok (.if_icmp .ge 20, 3) := by decide +kernel
theorem dX9_bought_63 : decode cX9_bought 63 = .ok (.aload_n 0, 1) := by decide +kernel
theorem dX9_bought_64 : decode cX9_bought 64 = .ok (.iload_n 3, 1) := by decide +kernel
theorem dX9_bought_65 : decode cX9_bought 65 = .ok (.iload 4, 2) := by decide +kernel
theorem dX9_bought_67 : decode cX9_bought 67 = .ok (.iadd, 1) := by decide +kernel
theorem dX9_bought_68 : decode cX9_bought 68 = .ok (.invokevirtual 351, 3) := by decide +kernel
theorem dX9_bought_71 : decode cX9_bought 71 = .ok (.ifCond .ne 9, 3) := by decide +kernel
theorem dX9_bought_74 : decode cX9_bought 74 = .ok (.iinc 4 1, 3) := by decide +kernel
theorem dX9_bought_77 : decode cX9_bought 77 = .ok (.goto (-27), 3) := by decide +kernel
theorem dX9_bought_80 : decode cX9_bought 80 = .ok (.iload 4, 2) := by decide +kernel
theorem dX9_bought_82 : decode cX9_bought 82 = .ok (.ireturn, 1) := by decide +kernel
theorem dX9_isWhole_0 : decode cX9_isWhole 0 = .ok (.iload_n 1, 1) := by decide +kernel
theorem dX9_isWhole_1 : decode cX9_isWhole 1 = .ok (.aload_n 0, 1) := by decide +kernel
theorem dX9_isWhole_2 : decode cX9_isWhole 2 = .ok (.getfield 319, 3) := by decide +kernel
theorem dX9_isWhole_5 : decode cX9_isWhole 5 = .ok (.iand, 1) := by decide +kernel
theorem dX9_isWhole_6 : decode cX9_isWhole 6 = .ok (.ifCond .ne 7, 3) := by decide +kernel
theorem dX9_isWhole_9 : decode cX9_isWhole 9 = .ok (.iconst 1, 1) := by decide +kernel
theorem dX9_isWhole_10 : decode cX9_isWhole 10 = .ok (.goto 4, 3) := by decide +kernel
theorem dX9_isWhole_13 : decode cX9_isWhole 13 = .ok (.iconst 0, 1) := by decide +kernel
theorem dX9_isWhole_14 : decode cX9_isWhole 14 = .ok (.istore_n 2, 1) := by decide +kernel
theorem dX9_isWhole_15 : decode cX9_isWhole 15 = .ok (.iconst 0, 1) := by decide +kernel
theorem dX9_isWhole_16 : decode cX9_isWhole 16 = .ok (.istore_n 3, 1) := by decide +kernel
theorem dX9_isWhole_17 : decode cX9_isWhole 17 = .ok (.iload_n 3, 1) := by decide +kernel
theorem dX9_isWhole_18 : decode cX9_isWhole 18 = .ok (.aload_n 0, 1) := by decide +kernel
theorem dX9_isWhole_19 : decode cX9_isWhole 19 = .ok (.getfield 50, 3) := by decide +kernel
theorem dX9_isWhole_22 : decode cX9_isWhole 22 = .ok (.iconst 4, 1) := by decide +kernel
theorem dX9_isWhole_23 : decode cX9_isWhole 23 = .ok (.iaload, 1) := by decide +kernel
theorem dX9_isWhole_24 : decode cX9_isWhole 24 = .ok (.if_icmp .ge 55, 3) := by decide +kernel
theorem dX9_isWhole_27 : decode cX9_isWhole 27 = .ok (.iload_n 2, 1) := by decide +kernel
theorem dX9_isWhole_28 : decode cX9_isWhole 28 = .ok (.ifCond .eq 51, 3) := by decide +kernel
theorem dX9_isWhole_31 : decode cX9_isWhole 31 = .ok (.iload_n 1, 1) := by decide +kernel
theorem dX9_isWhole_32 : decode cX9_isWhole 32 = .ok (.iload_n 3, 1) := by decide +kernel
theorem dX9_isWhole_33 : decode cX9_isWhole 33 = .ok (.invokestatic 354, 3) := by decide +kernel
theorem dX9_isWhole_36 : decode cX9_isWhole 36 = .ok (.ifCond .eq 31, 3) := by decide +kernel
theorem dX9_isWhole_39 : decode cX9_isWhole 39 = .ok (.aload_n 0, 1) := by decide +kernel
theorem dX9_isWhole_40 : decode cX9_isWhole 40 = .ok (.getfield 70, 3) := by decide +kernel
theorem dX9_isWhole_43 : decode cX9_isWhole 43 = .ok (.iload_n 3, 1) := by decide +kernel
theorem dX9_isWhole_44 : decode cX9_isWhole 44 = .ok (.iaload, 1) := by decide +kernel
theorem dX9_isWhole_45 : decode cX9_isWhole 45 = .ok (.iconst (-1), 1) := by decide +kernel
theorem dX9_isWhole_46 : decode cX9_isWhole 46 = .ok (.if_icmp .eq 21, 3) := by decide +kernel
theorem dX9_isWhole_49 : decode cX9_isWhole 49 = .ok (.iload_n 1, 1) := by decide +kernel
theorem dX9_isWhole_50 : decode cX9_isWhole 50 = .ok (.aload_n 0, 1) := by decide +kernel
theorem dX9_isWhole_51 : decode cX9_isWhole 51 = .ok (.getfield 319, 3) := by decide +kernel
theorem dX9_isWhole_54 : decode cX9_isWhole 54 = .ok (.ior, 1) := by decide +kernel
theorem dX9_isWhole_55 : decode cX9_isWhole 55 = .ok (.aload_n 0, 1) := by decide +kernel
theorem dX9_isWhole_56 : decode cX9_isWhole 56 = .ok (.getfield 70, 3) := by decide +kernel
theorem dX9_isWhole_59 : decode cX9_isWhole 59 = .ok (.iload_n 3, 1) := by decide +kernel
theorem dX9_isWhole_60 : decode cX9_isWhole 60 = .ok (.iaload, 1) := by decide +kernel
theorem dX9_isWhole_61 : decode cX9_isWhole 61 = .ok (.invokestatic 354, 3) := by decide +kernel
theorem dX9_isWhole_64 : decode cX9_isWhole 64 = .ok (.ifCond .eq 7, 3) := by decide +kernel
theorem dX9_isWhole_67 : decode cX9_isWhole 67 = .ok (.iconst 1, 1) := by decide +kernel
theorem dX9_isWhole_68 : decode cX9_isWhole 68 = .ok (.goto 4, 3) := by decide +kernel
theorem dX9_isWhole_71 : decode cX9_isWhole 71 = .ok (.iconst 0, 1) := by decide +kernel
theorem dX9_isWhole_72 : decode cX9_isWhole 72 = .ok (.istore_n 2, 1) := by decide +kernel
theorem dX9_isWhole_73 : decode cX9_isWhole 73 = .ok (.iinc 3 1, 3) := by decide +kernel
theorem dX9_isWhole_76 : decode cX9_isWhole 76 = .ok (.goto (-59), 3) := by decide +kernel
theorem dX9_isWhole_79 : decode cX9_isWhole 79 = .ok (.iload_n 2, 1) := by decide +kernel
theorem dX9_isWhole_80 : decode cX9_isWhole 80 = .ok (.ireturn, 1) := by decide +kernel
theorem dX9_sumOf_0 : decode cX9_sumOf 0 = .ok (.iconst 0, 1) := by decide +kernel
theorem dX9_sumOf_1 : decode cX9_sumOf 1 = .ok (.istore_n 3, 1) := by decide +kernel
theorem dX9_sumOf_2 : decode cX9_sumOf 2 = .ok (.iconst 0, 1) := by decide +kernel
theorem dX9_sumOf_3 : decode cX9_sumOf 3 = .ok (.istore 4, 2) := by decide +kernel
theorem dX9_sumOf_5 : decode cX9_sumOf 5 = .ok (.iload 4, 2) := by decide +kernel
theorem dX9_sumOf_7 : decode cX9_sumOf 7 = .ok (.aload_n 0, 1) := by decide +kernel
theorem dX9_sumOf_8 : decode cX9_sumOf 8 = .ok (.getfield 50, 3) := by decide +kernel
theorem dX9_sumOf_11 : decode cX9_sumOf 11 = .ok (.iconst 4, 1) := by decide +kernel
theorem dX9_sumOf_12 : decode cX9_sumOf 12 = .ok (.iaload, 1) := by decide +kernel
theorem dX9_sumOf_13 : decode cX9_sumOf 13 = .ok (.if_icmp .ge 67, 3) := by decide +kernel
theorem dX9_sumOf_16 : decode cX9_sumOf 16 = .ok (.iload_n 3, 1) := by decide +kernel
theorem dX9_sumOf_17 : decode cX9_sumOf 17 = .ok (.iload_n 1, 1) := by decide +kernel
theorem dX9_sumOf_18 : decode cX9_sumOf 18 = .ok (.iload 4, 2) := by decide +kernel
theorem dX9_sumOf_20 : decode cX9_sumOf 20 = .ok (.invokestatic 354, 3) := by decide +kernel
theorem dX9_sumOf_23 : decode cX9_sumOf 23 = .ok (.ifCond .ne 7, 3) := by decide +kernel
theorem dX9_sumOf_26 : decode cX9_sumOf 26 = .ok (.iconst 0, 1) := by decide +kernel
theorem dX9_sumOf_27 : decode cX9_sumOf 27 = .ok (.goto 45, 3) := by decide +kernel
theorem dX9_sumOf_30 : decode cX9_sumOf 30 = .ok (.iload_n 2, 1) := by decide +kernel
theorem dX9_sumOf_31 : decode cX9_sumOf 31 = .ok (.ifCond .eq 12, 3) := by decide +kernel
theorem dX9_sumOf_34 : decode cX9_sumOf 34 = .ok (.aload_n 0, 1) := by decide +kernel
theorem dX9_sumOf_35 : decode cX9_sumOf 35 = .ok (.iload 4, 2) := by decide +kernel
theorem dX9_sumOf_37 : decode cX9_sumOf 37 = .ok (.invokevirtual 372, 3) := by decide +kernel
theorem dX9_sumOf_40 : decode cX9_sumOf 40 = .ok (.goto 32, 3) := by decide +kernel
theorem dX9_sumOf_43 : decode cX9_sumOf 43 = .ok (.aload_n 0, 1) := by decide +kernel
theorem dX9_sumOf_44 : decode cX9_sumOf 44 = .ok (.getfield 60, 3) := by decide +kernel
theorem dX9_sumOf_47 : decode cX9_sumOf 47 = .ok (.iload 4, 2) := by decide +kernel
theorem dX9_sumOf_49 : decode cX9_sumOf 49 = .ok (.iaload, 1) := by decide +kernel
theorem dX9_sumOf_50 : decode cX9_sumOf 50 = .ok (.iconst 2, 1) := by decide +kernel
theorem dX9_sumOf_51 : decode cX9_sumOf 51 = .ok (.if_icmp .ne 14, 3) := by decide +kernel
theorem dX9_sumOf_54 : decode cX9_sumOf 54 = .ok (.aload_n 0, 1) := by decide +kernel
theorem dX9_sumOf_55 : decode cX9_sumOf 55 = .ok (.getfield 65, 3) := by decide +kernel
theorem dX9_sumOf_58 : decode cX9_sumOf 58 = .ok (.iload 4, 2) := by decide +kernel
theorem dX9_sumOf_60 : decode cX9_sumOf 60 = .ok (.iaload, 1) := by decide +kernel
theorem dX9_sumOf_61 : decode cX9_sumOf 61 = .ok (.ineg, 1) := by decide +kernel
theorem dX9_sumOf_62 : decode cX9_sumOf 62 = .ok (.goto 10, 3) := by decide +kernel
theorem dX9_sumOf_65 : decode cX9_sumOf 65 = .ok (.aload_n 0, 1) := by decide +kernel
theorem dX9_sumOf_66 : decode cX9_sumOf 66 = .ok (.getfield 65, 3) := by decide +kernel
theorem dX9_sumOf_69 : decode cX9_sumOf 69 = .ok (.iload 4, 2) := by decide +kernel
theorem dX9_sumOf_71 : decode cX9_sumOf 71 = .ok (.iaload, 1) := by decide +kernel
theorem dX9_sumOf_72 : decode cX9_sumOf 72 = .ok (.iadd, 1) := by decide +kernel
theorem dX9_sumOf_73 : decode cX9_sumOf 73 = .ok (.istore_n 3, 1) := by decide +kernel
theorem dX9_sumOf_74 : decode cX9_sumOf 74 = .ok (.iinc 4 1, 3) := by decide +kernel
theorem dX9_sumOf_77 : decode cX9_sumOf 77 = .ok (.goto (-72), 3) := by decide +kernel
theorem dX9_sumOf_80 : decode cX9_sumOf 80 = .ok (.iload_n 3, 1) := by decide +kernel
theorem dX9_sumOf_81 : decode cX9_sumOf 81 = .ok (.ireturn, 1) := by decide +kernel
theorem dX9_order_0 : decode cX9_order 0 = .ok (.aload_n 0, 1) := by decide +kernel
theorem dX9_order_1 : decode cX9_order 1 = .ok (.iconst 0, 1) := by decide +kernel
theorem dX9_order_2 : decode cX9_order 2 = .ok (.putfield 152, 3) := by decide +kernel
theorem dX9_order_5 : decode cX9_order 5 = .ok (.iload_n 1, 1) := by decide +kernel
theorem dX9_order_6 : decode cX9_order 6 = .ok (.ifCond .lt 8, 3) := by decide +kernel
theorem dX9_order_9 : decode cX9_order 9 = .ok (.iload_n 1, 1) := by decide +kernel
theorem dX9_order_10 : decode cX9_order 10 = .ok (.iconst 1, 1) := by decide +kernel
theorem dX9_order_11 : decode cX9_order 11 = .ok (.if_icmp .le 9, 3) := by decide +kernel
theorem dX9_order_14 : decode cX9_order 14 = .ok (.aload_n 0, 1) := by decide +kernel
theorem dX9_order_15 : decode cX9_order 15 = .ok (.iconst 1, 1) := by decide +kernel
theorem dX9_order_16 : decode cX9_order 16 = .ok (.invokevirtual 299, 3) := by decide +kernel
theorem dX9_order_19 : decode cX9_order 19 = .ok (.ireturn, 1) := by decide +kernel
theorem dX9_order_20 : decode cX9_order 20 = .ok (.iconst 0, 1) := by decide +kernel
theorem dX9_order_21 : decode cX9_order 21 = .ok (.istore_n 2, 1) := by decide +kernel
theorem dX9_order_22 : decode cX9_order 22 = .ok (.iconst 1, 1) := by decide +kernel
theorem dX9_order_23 : decode cX9_order 23 = .ok (.istore_n 3, 1) := by decide +kernel
theorem dX9_order_24 : decode cX9_order 24 = .ok (.iload_n 3, 1) := by decide +kernel
theorem dX9_order_25 : decode cX9_order 25 = .ok (.iconst 1, 1) := by decide +kernel
theorem dX9_order_26 : decode cX9_order 26 = .ok (.aload_n 0, 1) := by decide +kernel
theorem dX9_order_27 : decode cX9_order 27 = .ok (.getfield 50, 3) := by decide +kernel
theorem dX9_order_30 : decode cX9_order 30 = .ok (.iconst 4, 1) := by decide +kernel
theorem dX9_order_31 : decode cX9_order 31 = .ok (.iaload, 1) := by decide +kernel
theorem dX9_order_32 : decode cX9_order 32 = .ok (.ishl, 1) := by decide +kernel
theorem dX9_order_33 : decode cX9_order 33 = .ok (.if_icmp .ge 71, 3) := by decide +kernel
theorem dX9_order_36 : decode cX9_order 36 = .ok (.aload_n 0, 1) := by decide +kernel
theorem dX9_order_37 : decode cX9_order 37 = .ok (.iload_n 3, 1) := by decide +kernel
theorem dX9_order_38 : decode cX9_order 38 = .ok (.invokevirtual 424, 3) := by decide +kernel
theorem dX9_order_41 : decode cX9_order 41 = .ok (.ifCond .eq 57, 3) := by decide +kernel
theorem dX9_order_44 : decode cX9_order 44 = .ok (.aload_n 0, 1) := by decide +kernel
theorem dX9_order_45 : decode cX9_order 45 = .ok (.iload_n 3, 1) := by decide +kernel
theorem dX9_order_46 : decode cX9_order 46 = .ok (.iconst 0, 1) := by decide +kernel
theorem dX9_order_47 : decode cX9_order 47 = .ok (.invokevirtual 427, 3) := by decide +kernel
theorem dX9_order_50 : decode cX9_order 50 = .ok (.aload_n 0, 1) := by decide +kernel
theorem dX9_order_51 : decode cX9_order 51 = .ok (.getfield 149, 3) := by decide +kernel
theorem dX9_order_54 : decode cX9_order 54 = .ok (.if_icmp .le 6, 3) := by decide +kernel
theorem dX9_order_57 : decode cX9_order 57 = .ok (.goto 41, 3) := by decide +kernel
theorem dX9_order_60 : decode cX9_order 60 = .ok (.aload_n 0, 1) := by decide +kernel
theorem dX9_order_61 : decode cX9_order 61 = .ok (.iload_n 3, 1) := by decide +kernel
theorem dX9_order_62 : decode cX9_order 62 = .ok (.iconst 1, 1) := by decide +kernel
theorem dX9_order_63 : decode cX9_order 63 = .ok (.invokevirtual 427, 3) := by decide +kernel
theorem dX9_order_66 : decode cX9_order 66 = .ok (.aload_n 0, 1) := by decide +kernel
theorem dX9_order_67 : decode cX9_order 67 = .ok (.iload_n 2, 1) := by decide +kernel
theorem dX9_order_68 : decode cX9_order 68 = .ok (.iconst 1, 1) := by decide +kernel
theorem dX9_order_69 : decode cX9_order 69 = .ok (.invokevirtual 427, 3) := by decide +kernel
theorem dX9_order_72 : decode cX9_order 72 = .ok (.isub, 1) := by decide +kernel
theorem dX9_order_73 : decode cX9_order 73 = .ok (.istore 4, 2) := by decide +kernel
theorem dX9_order_75 : decode cX9_order 75 = .ok (.iload 4, 2) := by decide +kernel
theorem dX9_order_77 : decode cX9_order 77 = .ok (.ifCond .gt 19, 3) := by decide +kernel
theorem dX9_order_80 : decode cX9_order 80 = .ok (.iload 4, 2) := by decide +kernel
theorem dX9_order_82 : decode cX9_order 82 = .ok (.ifCond .ne 16, 3) := by decide +kernel
theorem dX9_order_85 : decode cX9_order 85 = .ok (.iload_n 3, 1) := by decide +kernel
theorem dX9_order_86 : decode cX9_order 86 = .ok (.invokestatic 341, 3) := by decide +kernel
theorem dX9_order_89 : decode cX9_order 89 = .ok (.iload_n 2, 1) := by decide +kernel
theorem dX9_order_90 : decode cX9_order 90 = .ok (.invokestatic 341, 3) := by decide +kernel
theorem dX9_order_93 : decode cX9_order 93 = .ok (.if_icmp .ge 5, 3) := by decide +kernel
theorem dX9_order_96 : decode cX9_order 96 = .ok (.iload_n 3, 1) := by decide +kernel
theorem dX9_order_97 : decode cX9_order 97 = .ok (.istore_n 2, 1) := by decide +kernel
theorem dX9_order_98 : decode cX9_order 98 = .ok (.iinc 3 1, 3) := by decide +kernel
theorem dX9_order_101 : decode cX9_order 101 = .ok (.goto (-77), 3) := by decide +kernel
theorem dX9_order_104 : decode cX9_order 104 = .ok (.iload_n 1, 1) := by decide +kernel
theorem dX9_order_105 : decode cX9_order 105 = .ok (.ifCond .ne 12, 3) := by decide +kernel
theorem dX9_order_108 : decode cX9_order 108 = .ok (.aload_n 0, 1) := by decide +kernel
theorem dX9_order_109 : decode cX9_order 109 = .ok (.iload_n 2, 1) := by decide +kernel
theorem dX9_order_110 : decode cX9_order 110 = .ok (.iconst 1, 1) := by decide +kernel
theorem dX9_order_111 : decode cX9_order 111 = .ok (.invokevirtual 427, 3) := by decide +kernel
theorem dX9_order_114 : decode cX9_order 114 = .ok (.goto 4, 3) := by decide +kernel
theorem dX9_order_117 : decode cX9_order 117 = .ok (.iload_n 2, 1) := by decide +kernel
theorem dX9_order_118 : decode cX9_order 118 = .ok (.ireturn, 1) := by decide +kernel
theorem dX9_extraOf_0 : decode cX9_extraOf 0 = .ok (.iconst 0, 1) := by decide +kernel
theorem dX9_extraOf_1 : decode cX9_extraOf 1 = .ok (.istore 4, 2) := by decide +kernel
theorem dX9_extraOf_3 : decode cX9_extraOf 3 = .ok (.aload_n 0, 1) := by decide +kernel
theorem dX9_extraOf_4 : decode cX9_extraOf 4 = .ok (.getfield 89, 3) := by decide +kernel
theorem dX9_extraOf_7 : decode cX9_extraOf 7 = .ok (.iload_n 1, 1) := by decide +kernel
theorem dX9_extraOf_8 : decode cX9_extraOf 8 = .ok (.iaload, 1) := by decide +kernel
theorem dX9_extraOf_9 : decode cX9_extraOf 9 = .ok (.iload 4, 2) := by decide +kernel
theorem dX9_extraOf_11 : decode cX9_extraOf 11 = .ok (.iadd, 1) := by decide +kernel
theorem dX9_extraOf_12 : decode cX9_extraOf 12 = .ok (.bipush 9, 2) := by decide +kernel
theorem dX9_extraOf_14 : decode cX9_extraOf 14 = .ok (.if_icmp .gt 31, 3) := by decide +kernel
theorem dX9_extraOf_17 : decode cX9_extraOf 17 = .ok (.aload_n 0, 1) := by decide +kernel
theorem dX9_extraOf_18 : decode cX9_extraOf 18 = .ok (.iload_n 1, 1) := by decide +kernel
theorem dX9_extraOf_19 : decode cX9_extraOf 19 = .ok (.aload_n 0, 1) := by decide +kernel
theorem dX9_extraOf_20 : decode cX9_extraOf 20 = .ok (.getfield 89, 3) := by decide +kernel
theorem dX9_extraOf_23 : decode cX9_extraOf 23 = .ok (.iload_n 1, 1) := by decide +kernel
theorem dX9_extraOf_24 : decode cX9_extraOf 24 = .ok (.iaload, 1) := by decide +kernel
theorem dX9_extraOf_25 : decode cX9_extraOf 25 = .ok (.iload 4, 2) := by decide +kernel
theorem dX9_extraOf_27 : decode cX9_extraOf 27 = .ok (.iadd, 1) := by decide +kernel
theorem dX9_extraOf_28 : decode cX9_extraOf 28 = .ok (.iload_n 2, 1) := by decide +kernel
theorem dX9_extraOf_29 : decode cX9_extraOf 29 = .ok (.iload_n 3, 1) := by decide +kernel
theorem dX9_extraOf_30 : decode cX9_extraOf 30 = .ok (.invokevirtual 344, 3) := by decide +kernel
theorem dX9_extraOf_33 : decode cX9_extraOf 33 = .ok (.ifCond .eq 6, 3) := by decide +kernel
theorem dX9_extraOf_36 : decode cX9_extraOf 36 = .ok (.iload 4, 2) := by decide +kernel
theorem dX9_extraOf_38 : decode cX9_extraOf 38 = .ok (.ireturn, 1) := by decide +kernel
theorem dX9_extraOf_39 : decode cX9_extraOf 39 = .ok (.iinc 4 1, 3) := by decide +kernel
theorem dX9_extraOf_42 : decode cX9_extraOf 42 = .ok (.goto (-39), 3) := by decide +kernel
theorem dX9_extraOf_45 : decode cX9_extraOf 45 = .ok (.sipush 1000, 3) := by decide +kernel
theorem dX9_extraOf_48 : decode cX9_extraOf 48 = .ok (.ireturn, 1) := by decide +kernel
theorem dX9_bribery_0 : decode cX9_bribery 0 = .ok (.aload_n 0, 1) := by decide +kernel
theorem dX9_bribery_1 : decode cX9_bribery 1 = .ok (.iconst 0, 1) := by decide +kernel
theorem dX9_bribery_2 : decode cX9_bribery 2 = .ok (.putfield 152, 3) := by decide +kernel
theorem dX9_bribery_5 : decode cX9_bribery 5 = .ok (.aload_n 0, 1) := by decide +kernel
theorem dX9_bribery_6 : decode cX9_bribery 6 = .ok (.iload_n 1, 1) := by decide +kernel
theorem dX9_bribery_7 : decode cX9_bribery 7 = .ok (.invokevirtual 389, 3) := by decide +kernel
theorem dX9_bribery_10 : decode cX9_bribery 10 = .ok (.ifCond .ne 9, 3) := by decide +kernel
theorem dX9_bribery_13 : decode cX9_bribery 13 = .ok (.aload_n 0, 1) := by decide +kernel
theorem dX9_bribery_14 : decode cX9_bribery 14 = .ok (.iconst 1, 1) := by decide +kernel
theorem dX9_bribery_15 : decode cX9_bribery 15 = .ok (.invokevirtual 299, 3) := by decide +kernel
theorem dX9_bribery_18 : decode cX9_bribery 18 = .ok (.ireturn, 1) := by decide +kernel
theorem dX9_bribery_19 : decode cX9_bribery 19 = .ok (.iload_n 2, 1) := by decide +kernel
theorem dX9_bribery_20 : decode cX9_bribery 20 = .ok (.i2l, 1) := by decide +kernel
theorem dX9_bribery_21 : decode cX9_bribery 21 = .ok (.lconst 0, 1) := by decide +kernel
theorem dX9_bribery_22 : decode cX9_bribery 22 = .ok (.ldc2_w 412, 3) := by decide +kernel
theorem dX9_bribery_25 : decode cX9_bribery 25 = .ok (.invokestatic 155, 3) := by decide +kernel
theorem dX9_bribery_28 : decode cX9_bribery 28 = .ok (.ifCond .ne 9, 3) := by decide +kernel
theorem dX9_bribery_31 : decode cX9_bribery 31 = .ok (.aload_n 0, 1) := by decide +kernel
theorem dX9_bribery_32 : decode cX9_bribery 32 = .ok (.iconst 2, 1) := by decide +kernel
theorem dX9_bribery_33 : decode cX9_bribery 33 = .ok (.invokevirtual 299, 3) := by decide +kernel
theorem dX9_bribery_36 : decode cX9_bribery 36 = .ok (.ireturn, 1) := by decide +kernel
theorem dX9_bribery_37 : decode cX9_bribery 37 = .ok (.iconst 0, 1) := by decide +kernel
theorem dX9_bribery_38 : decode cX9_bribery 38 = .ok (.istore_n 3, 1) := by decide +kernel
theorem dX9_bribery_39 : decode cX9_bribery 39 = .ok (.iload_n 3, 1) := by decide +kernel
theorem dX9_bribery_40 : decode cX9_bribery 40 = .ok (.aload_n 0, 1) := by decide +kernel
theorem dX9_bribery_41 : decode cX9_bribery 41 = .ok (.getfield 50, 3) := by decide +kernel
theorem dX9_bribery_44 : decode cX9_bribery 44 = .ok (.iconst 3, 1) := by decide +kernel
theorem dX9_bribery_45 : decode cX9_bribery 45 = .ok (.iaload, 1) := by decide +kernel
theorem dX9_bribery_46 : decode cX9_bribery 46 = .ok (.if_icmp .ge 22, 3) := by decide +kernel
theorem dX9_bribery_49 : decode cX9_bribery 49 = .ok (.aload_n 0, 1) := by decide +kernel
theorem dX9_bribery_50 : decode cX9_bribery 50 = .ok (.getfield 109, 3) := by decide +kernel
theorem dX9_bribery_53 : decode cX9_bribery 53 = .ok (.iload_n 3, 1) := by decide +kernel
theorem dX9_bribery_54 : decode cX9_bribery 54 = .ok (.aload_n 0, 1) := by decide +kernel
theorem dX9_bribery_55 : decode cX9_bribery 55 = .ok (.iload_n 3, 1) := by decide +kernel
theorem dX9_bribery_56 : decode cX9_bribery 56 = .ok (.iload_n 1, 1) := by decide +kernel
theorem dX9_bribery_57 : decode cX9_bribery 57 = .ok (.iload_n 2, 1) := by decide +kernel
theorem dX9_bribery_58 : decode cX9_bribery 58 = .ok (.invokevirtual 431, 3) := by decide +kernel
theorem dX9_bribery_61 : decode cX9_bribery 61 = .ok (.iastore, 1) := by decide +kernel
theorem dX9_bribery_62 : decode cX9_bribery 62 = .ok (.iinc 3 1, 3) := by decide +kernel
theorem dX9_bribery_65 : decode cX9_bribery 65 = .ok (.goto (-26), 3) := by decide +kernel
theorem dX9_bribery_68 : decode cX9_bribery 68 = .ok (.iconst 0, 1) := by decide +kernel
theorem dX9_bribery_69 : decode cX9_bribery 69 = .ok (.istore_n 3, 1) := by decide +kernel
theorem dX9_bribery_70 : decode cX9_bribery 70 = .ok (.iconst 0, 1) := by decide +kernel
theorem dX9_bribery_71 : decode cX9_bribery 71 = .ok (.istore 4, 2) := by decide +kernel
theorem dX9_bribery_73 : decode cX9_bribery 73 = .ok (.aload_n 0, 1) := by decide +kernel
theorem dX9_bribery_74 : decode cX9_bribery 74 = .ok (.iload 4, 2) := by decide +kernel
theorem dX9_bribery_76 : decode cX9_bribery 76 = .ok (.invokevirtual 351, 3) := by decide +kernel
theorem dX9_bribery_79 : decode cX9_bribery 79 = .ok (.ifCond .ne 101, 3) := by decide +kernel
theorem dX9_bribery_82 : decode cX9_bribery 82 = .ok (.iload 4, 2) := by decide +kernel
theorem dX9_bribery_84 : decode cX9_bribery 84 = .ok (.aload_n 0, 1) := by decide +kernel
theorem dX9_bribery_85 : decode cX9_bribery 85 = .ok (.getfield 50, 3) := by decide +kernel
theorem dX9_bribery_88 : decode cX9_bribery 88 = .ok (.iconst 3, 1) := by decide +kernel
theorem dX9_bribery_89 : decode cX9_bribery 89 = .ok (.iaload, 1) := by decide +kernel
theorem dX9_bribery_90 : decode cX9_bribery 90 = .ok (.if_icmp .ne 5, 3) := by decide +kernel
theorem dX9_bribery_93 : decode cX9_bribery 93 = .ok (.iconst (-1), 1) := by decide +kernel
theorem dX9_bribery_94 : decode cX9_bribery 94 = .ok (.ireturn, 1) := by decide +kernel
theorem dX9_bribery_95 : decode cX9_bribery 95 = .ok (.iconst (-1), 1) := by decide +kernel
theorem dX9_bribery_96 : decode cX9_bribery 96 = .ok (.istore 5, 2) := by decide +kernel
theorem dX9_bribery_98 : decode cX9_bribery 98 = .ok (.iconst 0, 1) := by decide +kernel
theorem dX9_bribery_99 : decode cX9_bribery 99 = .ok (.istore 6, 2) := by decide +kernel
theorem dX9_bribery_101 : decode cX9_bribery 101 = .ok (.iload 6, 2) := by decide +kernel
theorem dX9_bribery_103 : decode cX9_bribery 103 = .ok (.aload_n 0, 1) := by decide +kernel
theorem dX9_bribery_104 : decode cX9_bribery 104 = .ok (.getfield 50, 3) := by decide +kernel
theorem dX9_bribery_107 : decode cX9_bribery 107 = .ok (.iconst 3, 1) := by decide +kernel
theorem dX9_bribery_108 : decode cX9_bribery 108 = .ok (.iaload, 1) := by decide +kernel
theorem dX9_bribery_109 : decode cX9_bribery 109 = .ok (.if_icmp .ge 47, 3) := by decide +kernel
theorem dX9_bribery_112 : decode cX9_bribery 112 = .ok (.aload_n 0, 1) := by decide +kernel
theorem dX9_bribery_113 : decode cX9_bribery 113 = .ok (.getfield 109, 3) := by decide +kernel
theorem dX9_bribery_116 : decode cX9_bribery 116 = .ok (.iload 6, 2) := by decide +kernel
theorem dX9_bribery_118 : decode cX9_bribery 118 = .ok (.iaload, 1) := by decide +kernel
theorem dX9_bribery_119 : decode cX9_bribery 119 = .ok (.iconst (-1), 1) := by decide +kernel
theorem dX9_bribery_120 : decode cX9_bribery 120 = .ok (.if_icmp .eq 30, 3) := by decide +kernel
theorem dX9_bribery_123 : decode cX9_bribery 123 = .ok (.iload 5, 2) := by decide +kernel
theorem dX9_bribery_125 : decode cX9_bribery 125 = .ok (.iconst (-1), 1) := by decide +kernel
theorem dX9_bribery_126 : decode cX9_bribery 126 = .ok (.if_icmp .eq 20, 3) := by decide +kernel
theorem dX9_bribery_129 : decode cX9_bribery 129 = .ok (.aload_n 0, 1) := by decide +kernel
theorem dX9_bribery_130 : decode cX9_bribery 130 = .ok (.getfield 109, 3) := by decide +kernel
theorem dX9_bribery_133 : decode cX9_bribery 133 = .ok (.iload 6, 2) := by decide +kernel
theorem dX9_bribery_135 : decode cX9_bribery 135 = .ok (.iaload, 1) := by decide +kernel
theorem dX9_bribery_136 : decode cX9_bribery 136 = .ok (.aload_n 0, 1) := by decide +kernel
theorem dX9_bribery_137 : decode cX9_bribery 137 = .ok (.getfield 109, 3) := by decide +kernel
theorem dX9_bribery_140 : decode cX9_bribery 140 = .ok (.iload 5, 2) := by decide +kernel
theorem dX9_bribery_142 : decode cX9_bribery 142 = .ok (.iaload, 1) := by decide +kernel
theorem dX9_bribery_143 : decode cX9_bribery 143 = .ok (.if_icmp .ge 7, 3) := by decide +kernel
theorem dX9_bribery_146 : decode cX9_bribery 146 = .ok (.iload 6, 2) := by decide +kernel
theorem dX9_bribery_148 : decode cX9_bribery 148 = .ok (.istore 5, 2) := by decide +kernel
theorem dX9_bribery_150 : decode cX9_bribery 150 = .ok (.iinc 6 1, 3) := by decide +kernel
theorem dX9_bribery_153 : decode cX9_bribery 153 = .ok (.goto (-52), 3) := by decide +kernel
theorem dX9_bribery_156 : decode cX9_bribery 156 = .ok (.iload_n 3, 1) := by decide +kernel
theorem dX9_bribery_157 : decode cX9_bribery 157 = .ok (.aload_n 0, 1) := by decide +kernel
theorem dX9_bribery_158 : decode cX9_bribery 158 = .ok (.getfield 109, 3) := by decide +kernel
theorem dX9_bribery_161 : decode cX9_bribery 161 = .ok (.iload 5, 2) := by decide +kernel
theorem dX9_bribery_163 : decode cX9_bribery 163 = .ok (.iaload, 1) := by decide +kernel
theorem dX9_bribery_164 : decode cX9_bribery 164 = .ok (.iadd, 1) := by decide +kernel
theorem dX9_bribery_165 : decode cX9_bribery 165 = .ok (.istore_n 3, 1) := by decide +kernel
theorem dX9_bribery_166 : decode cX9_bribery 166 = .ok (.aload_n 0, 1) := by decide +kernel
theorem dX9_bribery_167 : decode cX9_bribery 167 = .ok (.getfield 109, 3) := by decide +kernel
theorem dX9_bribery_170 : decode cX9_bribery 170 = .ok (.iload 5, 2) := by decide +kernel
theorem dX9_bribery_172 : decode cX9_bribery 172 = .ok (.iconst (-1), 1) := by decide +kernel
theorem dX9_bribery_173 : decode cX9_bribery 173 = .ok (.iastore, 1) := by decide +kernel
theorem dX9_bribery_174 : decode cX9_bribery 174 = .ok (.iinc 4 1, 3) := by decide +kernel
theorem dX9_bribery_177 : decode cX9_bribery 177 = .ok (.goto (-104), 3) := by decide +kernel
theorem dX9_bribery_180 : decode cX9_bribery 180 = .ok (.iload_n 3, 1) := by decide +kernel
theorem dX9_bribery_181 : decode cX9_bribery 181 = .ok (.sipush 1000, 3) := by decide +kernel
theorem dX9_bribery_184 : decode cX9_bribery 184 = .ok (.if_icmp .lt 7, 3) := by decide +kernel
theorem dX9_bribery_187 : decode cX9_bribery 187 = .ok (.iconst (-1), 1) := by decide +kernel
theorem dX9_bribery_188 : decode cX9_bribery 188 = .ok (.goto 4, 3) := by decide +kernel
theorem dX9_bribery_191 : decode cX9_bribery 191 = .ok (.iload_n 3, 1) := by decide +kernel
theorem dX9_bribery_192 : decode cX9_bribery 192 = .ok (.ireturn, 1) := by decide +kernel
theorem dX9_needs_0 : decode cX9_needs 0 = .ok (.aload_n 0, 1) := by decide +kernel
theorem dX9_needs_1 : decode cX9_needs 1 = .ok (.iconst 0, 1) := by decide +kernel
theorem dX9_needs_2 : decode cX9_needs 2 = .ok (.putfield 152, 3) := by decide +kernel
theorem dX9_needs_5 : decode cX9_needs 5 = .ok (.aload_n 0, 1) := by decide +kernel
theorem dX9_needs_6 : decode cX9_needs 6 = .ok (.iload_n 1, 1) := by decide +kernel
theorem dX9_needs_7 : decode cX9_needs 7 = .ok (.invokevirtual 389, 3) := by decide +kernel
theorem dX9_needs_10 : decode cX9_needs 10 = .ok (.ifCond .ne 9, 3) := by decide +kernel
theorem dX9_needs_13 : decode cX9_needs 13 = .ok (.aload_n 0, 1) := by decide +kernel
theorem dX9_needs_14 : decode cX9_needs 14 = .ok (.iconst 1, 1) := by decide +kernel
theorem dX9_needs_15 : decode cX9_needs 15 = .ok (.invokevirtual 299, 3) := by decide +kernel
theorem dX9_needs_18 : decode cX9_needs 18 = .ok (.ireturn, 1) := by decide +kernel
theorem dX9_needs_19 : decode cX9_needs 19 = .ok (.iconst 0, 1) := by decide +kernel
theorem dX9_needs_20 : decode cX9_needs 20 = .ok (.istore_n 2, 1) := by decide +kernel
theorem dX9_needs_21 : decode cX9_needs 21 = .ok (.aload_n 0, 1) := by decide +kernel
theorem dX9_needs_22 : decode cX9_needs 22 = .ok (.getfield 70, 3) := by decide +kernel
theorem dX9_needs_25 : decode cX9_needs 25 = .ok (.iload_n 1, 1) := by decide +kernel
theorem dX9_needs_26 : decode cX9_needs 26 = .ok (.iaload, 1) := by decide +kernel
theorem dX9_needs_27 : decode cX9_needs 27 = .ok (.istore_n 3, 1) := by decide +kernel
theorem dX9_needs_28 : decode cX9_needs 28 = .ok (.iload_n 3, 1) := by decide +kernel
theorem dX9_needs_29 : decode cX9_needs 29 = .ok (.iconst (-1), 1) := by decide +kernel
theorem dX9_needs_30 : decode cX9_needs 30 = .ok (.if_icmp .eq 19, 3) := by decide +kernel
theorem dX9_needs_33 : decode cX9_needs 33 = .ok (.iload_n 2, 1) := by decide +kernel
theorem dX9_needs_34 : decode cX9_needs 34 = .ok (.iconst 1, 1) := by decide +kernel
theorem dX9_needs_35 : decode cX9_needs 35 = .ok (.iload_n 3, 1) := by decide +kernel
theorem dX9_needs_36 : decode cX9_needs 36 = .ok (.ishl, 1) := by decide +kernel
theorem dX9_needs_37 : decode cX9_needs 37 = .ok (.ior, 1) := by decide +kernel
theorem dX9_needs_38 : decode cX9_needs 38 = .ok (.istore_n 2, 1) := by decide +kernel
theorem dX9_needs_39 : decode cX9_needs 39 = .ok (.aload_n 0, 1) := by decide +kernel
theorem dX9_needs_40 : decode cX9_needs 40 = .ok (.getfield 70, 3) := by decide +kernel
theorem dX9_needs_43 : decode cX9_needs 43 = .ok (.iload_n 3, 1) := by decide +kernel
theorem dX9_needs_44 : decode cX9_needs 44 = .ok (.iaload, 1) := by decide +kernel
theorem dX9_needs_45 : decode cX9_needs 45 = .ok (.istore_n 3, 1) := by decide +kernel
theorem dX9_needs_46 : decode cX9_needs 46 = .ok (.goto (-18), 3) := by decide +kernel
theorem dX9_needs_49 : decode cX9_needs 49 = .ok (.iload_n 2, 1) := by decide +kernel
theorem dX9_needs_50 : decode cX9_needs 50 = .ok (.aload_n 0, 1) := by decide +kernel
theorem dX9_needs_51 : decode cX9_needs 51 = .ok (.getfield 319, 3) := by decide +kernel
theorem dX9_needs_54 : decode cX9_needs 54 = .ok (.iconst (-1), 1) := by decide +kernel
theorem dX9_needs_55 : decode cX9_needs 55 = .ok (.ixor, 1) := by decide +kernel
theorem dX9_needs_56 : decode cX9_needs 56 = .ok (.iand, 1) := by decide +kernel
theorem dX9_needs_57 : decode cX9_needs 57 = .ok (.ireturn, 1) := by decide +kernel
theorem dX9_allies_0 : decode cX9_allies 0 = .ok (.aload_n 0, 1) := by decide +kernel
theorem dX9_allies_1 : decode cX9_allies 1 = .ok (.iconst 0, 1) := by decide +kernel
theorem dX9_allies_2 : decode cX9_allies 2 = .ok (.putfield 152, 3) := by decide +kernel
theorem dX9_allies_5 : decode cX9_allies 5 = .ok (.aload_n 0, 1) := by decide +kernel
theorem dX9_allies_6 : decode cX9_allies 6 = .ok (.iload_n 1, 1) := by decide +kernel
theorem dX9_allies_7 : decode cX9_allies 7 = .ok (.invokevirtual 381, 3) := by decide +kernel
theorem dX9_allies_10 : decode cX9_allies 10 = .ok (.ifCond .eq 11, 3) := by decide +kernel
theorem dX9_allies_13 : decode cX9_allies 13 = .ok (.aload_n 0, 1) := by decide +kernel
theorem dX9_allies_14 : decode cX9_allies 14 = .ok (.iload_n 2, 1) := by decide +kernel
theorem dX9_allies_15 : decode cX9_allies 15 = .ok (.invokevirtual 381, 3) := by decide +kernel
theorem dX9_allies_18 : decode cX9_allies 18 = .ok (.ifCond .ne 9, 3) := by decide +kernel
theorem dX9_allies_21 : decode cX9_allies 21 = .ok (.aload_n 0, 1) := by decide +kernel
theorem dX9_allies_22 : decode cX9_allies 22 = .ok (.iconst 1, 1) := by decide +kernel
theorem dX9_allies_23 : decode cX9_allies 23 = .ok (.invokevirtual 299, 3) := by decide +kernel
theorem dX9_allies_26 : decode cX9_allies 26 = .ok (.ireturn, 1) := by decide +kernel
theorem dX9_allies_27 : decode cX9_allies 27 = .ok (.iconst 0, 1) := by decide +kernel
theorem dX9_allies_28 : decode cX9_allies 28 = .ok (.istore_n 3, 1) := by decide +kernel
theorem dX9_allies_29 : decode cX9_allies 29 = .ok (.iconst 0, 1) := by decide +kernel
theorem dX9_allies_30 : decode cX9_allies 30 = .ok (.istore 4, 2) := by decide +kernel
theorem dX9_allies_32 : decode cX9_allies 32 = .ok (.iload 4, 2) := by decide +kernel
theorem dX9_allies_34 : decode cX9_allies 34 = .ok (.aload_n 0, 1) := by decide +kernel
theorem dX9_allies_35 : decode cX9_allies 35 = .ok (.getfield 50, 3) := by decide +kernel
theorem dX9_allies_38 : decode cX9_allies 38 = .ok (.iconst 4, 1) := by decide +kernel
theorem dX9_allies_39 : decode cX9_allies 39 = .ok (.iaload, 1) := by decide +kernel
theorem dX9_allies_40 : decode cX9_allies 40 = .ok (.if_icmp .ge 59, 3) := by decide +kernel
theorem dX9_allies_43 : decode cX9_allies 43 = .ok (.aload_n 0, 1) := by decide +kernel
theorem dX9_allies_44 : decode cX9_allies 44 = .ok (.iload 4, 2) := by decide +kernel
theorem dX9_allies_46 : decode cX9_allies 46 = .ok (.aload_n 0, 1) := by decide +kernel
theorem dX9_allies_47 : decode cX9_allies 47 = .ok (.getfield 91, 3) := by decide +kernel
theorem dX9_allies_50 : decode cX9_allies 50 = .ok (.iload 4, 2) := by decide +kernel
theorem dX9_allies_52 : decode cX9_allies 52 = .ok (.iaload, 1) := by decide +kernel
theorem dX9_allies_53 : decode cX9_allies 53 = .ok (.invokevirtual 348, 3) := by decide +kernel
theorem dX9_allies_56 : decode cX9_allies 56 = .ok (.istore 5, 2) := by decide +kernel
theorem dX9_allies_58 : decode cX9_allies 58 = .ok (.iload_n 3, 1) := by decide +kernel
theorem dX9_allies_59 : decode cX9_allies 59 = .ok (.aload_n 0, 1) := by decide +kernel
theorem dX9_allies_60 : decode cX9_allies 60 = .ok (.getfield 319, 3) := by decide +kernel
theorem dX9_allies_63 : decode cX9_allies 63 = .ok (.iload 4, 2) := by decide +kernel
theorem dX9_allies_65 : decode cX9_allies 65 = .ok (.invokestatic 354, 3) := by decide +kernel
theorem dX9_allies_68 : decode cX9_allies 68 = .ok (.ifCond .ne 22, 3) := by decide +kernel
theorem dX9_allies_71 : decode cX9_allies 71 = .ok (.iload 5, 2) := by decide +kernel
theorem dX9_allies_73 : decode cX9_allies 73 = .ok (.iload_n 1, 1) := by decide +kernel
theorem dX9_allies_74 : decode cX9_allies 74 = .ok (.invokestatic 354, 3) := by decide +kernel
theorem dX9_allies_77 : decode cX9_allies 77 = .ok (.iload 5, 2) := by decide +kernel
theorem dX9_allies_79 : decode cX9_allies 79 = .ok (.iload_n 2, 1) := by decide +kernel
theorem dX9_allies_80 : decode cX9_allies 80 = .ok (.invokestatic 354, 3) := by decide +kernel
theorem dX9_allies_83 : decode cX9_allies 83 = .ok (.if_icmp .ne 7, 3) := by decide +kernel
theorem dX9_allies_86 : decode cX9_allies 86 = .ok (.iconst 1, 1) := by decide +kernel
theorem dX9_allies_87 : decode cX9_allies 87 = .ok (.goto 4, 3) := by decide +kernel
theorem dX9_allies_90 : decode cX9_allies 90 = .ok (.iconst 0, 1) := by decide +kernel
theorem dX9_allies_91 : decode cX9_allies 91 = .ok (.iadd, 1) := by decide +kernel
theorem dX9_allies_92 : decode cX9_allies 92 = .ok (.istore_n 3, 1) := by decide +kernel
theorem dX9_allies_93 : decode cX9_allies 93 = .ok (.iinc 4 1, 3) := by decide +kernel
theorem dX9_allies_96 : decode cX9_allies 96 = .ok (.goto (-64), 3) := by decide +kernel
theorem dX9_allies_99 : decode cX9_allies 99 = .ok (.iload_n 3, 1) := by decide +kernel
theorem dX9_allies_100 : decode cX9_allies 100 = .ok (.ireturn, 1) := by decide +kernel
theorem dX9_passedBy_0 : decode cX9_passedBy 0 = .ok (.aload_n 0, 1) := by decide +kernel
theorem dX9_passedBy_1 : decode cX9_passedBy 1 = .ok (.aload_n 0, 1) := by decide +kernel
theorem dX9_passedBy_2 : decode cX9_passedBy 2 = .ok (.getfield 106, 3) := by decide +kernel
theorem dX9_passedBy_5 : decode cX9_passedBy 5 = .ok (.iconst 0, 1) := by decide +kernel
theorem dX9_passedBy_6 : decode cX9_passedBy 6 = .ok (.invokevirtual 395, 3) := by decide +kernel
theorem dX9_passedBy_9 : decode cX9_passedBy 9 = .ok (.aload_n 0, 1) := by decide +kernel
theorem dX9_passedBy_10 : decode cX9_passedBy 10 = .ok (.iload_n 1, 1) := by decide +kernel
theorem dX9_passedBy_11 : decode cX9_passedBy 11 = .ok (.invokevirtual 407, 3) := by decide +kernel
theorem dX9_passedBy_14 : decode cX9_passedBy 14 = .ok (.aload_n 0, 1) := by decide +kernel
theorem dX9_passedBy_15 : decode cX9_passedBy 15 = .ok (.getfield 319, 3) := by decide +kernel
theorem dX9_passedBy_18 : decode cX9_passedBy 18 = .ok (.istore_n 2, 1) := by decide +kernel
theorem dX9_passedBy_19 : decode cX9_passedBy 19 = .ok (.aload_n 0, 1) := by decide +kernel
theorem dX9_passedBy_20 : decode cX9_passedBy 20 = .ok (.aload_n 0, 1) := by decide +kernel
theorem dX9_passedBy_21 : decode cX9_passedBy 21 = .ok (.getfield 106, 3) := by decide +kernel
theorem dX9_passedBy_24 : decode cX9_passedBy 24 = .ok (.iconst 0, 1) := by decide +kernel
theorem dX9_passedBy_25 : decode cX9_passedBy 25 = .ok (.invokevirtual 416, 3) := by decide +kernel
theorem dX9_passedBy_28 : decode cX9_passedBy 28 = .ok (.iload_n 2, 1) := by decide +kernel
theorem dX9_passedBy_29 : decode cX9_passedBy 29 = .ok (.ireturn, 1) := by decide +kernel
theorem dX9_passing_0 : decode cX9_passing 0 = .ok (.aload_n 0, 1) := by decide +kernel
theorem dX9_passing_1 : decode cX9_passing 1 = .ok (.iconst 0, 1) := by decide +kernel
theorem dX9_passing_2 : decode cX9_passing 2 = .ok (.putfield 152, 3) := by decide +kernel
theorem dX9_passing_5 : decode cX9_passing 5 = .ok (.iload_n 1, 1) := by decide +kernel
theorem dX9_passing_6 : decode cX9_passing 6 = .ok (.i2l, 1) := by decide +kernel
theorem dX9_passing_7 : decode cX9_passing 7 = .ok (.lconst 0, 1) := by decide +kernel
theorem dX9_passing_8 : decode cX9_passing 8 = .ok (.ldc2_w 419, 3) := by decide +kernel
theorem dX9_passing_11 : decode cX9_passing 11 = .ok (.invokestatic 155, 3) := by decide +kernel
theorem dX9_passing_14 : decode cX9_passing 14 = .ok (.ifCond .eq 11, 3) := by decide +kernel
theorem dX9_passing_17 : decode cX9_passing 17 = .ok (.aload_n 0, 1) := by decide +kernel
theorem dX9_passing_18 : decode cX9_passing 18 = .ok (.iload_n 1, 1) := by decide +kernel
theorem dX9_passing_19 : decode cX9_passing 19 = .ok (.invokevirtual 434, 3) := by decide +kernel
theorem dX9_passing_22 : decode cX9_passing 22 = .ok (.goto 8, 3) := by decide +kernel
theorem dX9_passing_25 : decode cX9_passing 25 = .ok (.aload_n 0, 1) := by decide +kernel
theorem dX9_passing_26 : decode cX9_passing 26 = .ok (.iconst 1, 1) := by decide +kernel
theorem dX9_passing_27 : decode cX9_passing 27 = .ok (.invokevirtual 299, 3) := by decide +kernel
theorem dX9_passing_30 : decode cX9_passing 30 = .ok (.ireturn, 1) := by decide +kernel
theorem dX9_isClear_0 : decode cX9_isClear 0 = .ok (.aload_n 0, 1) := by decide +kernel
theorem dX9_isClear_1 : decode cX9_isClear 1 = .ok (.aload_n 0, 1) := by decide +kernel
theorem dX9_isClear_2 : decode cX9_isClear 2 = .ok (.getfield 106, 3) := by decide +kernel
theorem dX9_isClear_5 : decode cX9_isClear 5 = .ok (.iconst 0, 1) := by decide +kernel
theorem dX9_isClear_6 : decode cX9_isClear 6 = .ok (.invokevirtual 395, 3) := by decide +kernel
theorem dX9_isClear_9 : decode cX9_isClear 9 = .ok (.iconst 1, 1) := by decide +kernel
theorem dX9_isClear_10 : decode cX9_isClear 10 = .ok (.istore_n 2, 1) := by decide +kernel
theorem dX9_isClear_11 : decode cX9_isClear 11 = .ok (.iconst 0, 1) := by decide +kernel
theorem dX9_isClear_12 : decode cX9_isClear 12 = .ok (.istore_n 3, 1) := by decide +kernel
theorem dX9_isClear_13 : decode cX9_isClear 13 = .ok (.iload_n 3, 1) := by decide +kernel
theorem dX9_isClear_14 : decode cX9_isClear 14 = .ok (.iload_n 1, 1) := by decide +kernel
theorem dX9_isClear_15 : decode cX9_isClear 15 = .ok (.if_icmp .ge 30, 3) := by decide +kernel
theorem dX9_isClear_18 : decode cX9_isClear 18 = .ok (.iload_n 2, 1) := by decide +kernel
theorem dX9_isClear_19 : decode cX9_isClear 19 = .ok (.ifCond .eq 26, 3) := by decide +kernel
theorem dX9_isClear_22 : decode cX9_isClear 22 = .ok (.aload_n 0, 1) := by decide +kernel
theorem dX9_isClear_23 : decode cX9_isClear 23 = .ok (.invokevirtual 375, 3) := by decide +kernel
theorem dX9_isClear_26 : decode cX9_isClear 26 = .ok (.aload_n 0, 1) := by decide +kernel
theorem dX9_isClear_27 : decode cX9_isClear 27 = .ok (.getfield 363, 3) := by decide +kernel
theorem dX9_isClear_30 : decode cX9_isClear 30 = .ok (.ifCond .ne 7, 3) := by decide +kernel
theorem dX9_isClear_33 : decode cX9_isClear 33 = .ok (.iconst 1, 1) := by decide +kernel
theorem dX9_isClear_34 : decode cX9_isClear 34 = .ok (.goto 4, 3) := by decide +kernel
theorem dX9_isClear_37 : decode cX9_isClear 37 = .ok (.iconst 0, 1) := by decide +kernel
theorem dX9_isClear_38 : decode cX9_isClear 38 = .ok (.istore_n 2, 1) := by decide +kernel
theorem dX9_isClear_39 : decode cX9_isClear 39 = .ok (.iinc 3 1, 3) := by decide +kernel
theorem dX9_isClear_42 : decode cX9_isClear 42 = .ok (.goto (-29), 3) := by decide +kernel
theorem dX9_isClear_45 : decode cX9_isClear 45 = .ok (.aload_n 0, 1) := by decide +kernel
theorem dX9_isClear_46 : decode cX9_isClear 46 = .ok (.aload_n 0, 1) := by decide +kernel
theorem dX9_isClear_47 : decode cX9_isClear 47 = .ok (.getfield 106, 3) := by decide +kernel
theorem dX9_isClear_50 : decode cX9_isClear 50 = .ok (.iconst 0, 1) := by decide +kernel
theorem dX9_isClear_51 : decode cX9_isClear 51 = .ok (.invokevirtual 416, 3) := by decide +kernel
theorem dX9_isClear_54 : decode cX9_isClear 54 = .ok (.iload_n 2, 1) := by decide +kernel
theorem dX9_isClear_55 : decode cX9_isClear 55 = .ok (.ireturn, 1) := by decide +kernel
theorem dX9_toOil_0 : decode cX9_toOil 0 = .ok (.aload_n 0, 1) := by decide +kernel
theorem dX9_toOil_1 : decode cX9_toOil 1 = .ok (.iconst 0, 1) := by decide +kernel
theorem dX9_toOil_2 : decode cX9_toOil 2 = .ok (.putfield 152, 3) := by decide +kernel
theorem dX9_toOil_5 : decode cX9_toOil 5 = .ok (.iload_n 1, 1) := by decide +kernel
theorem dX9_toOil_6 : decode cX9_toOil 6 = .ok (.i2l, 1) := by decide +kernel
theorem dX9_toOil_7 : decode cX9_toOil 7 = .ok (.lconst 1, 1) := by decide +kernel
theorem dX9_toOil_8 : decode cX9_toOil 8 = .ok (.ldc2_w 419, 3) := by decide +kernel
theorem dX9_toOil_11 : decode cX9_toOil 11 = .ok (.invokestatic 155, 3) := by decide +kernel
theorem dX9_toOil_14 : decode cX9_toOil 14 = .ok (.ifCond .ne 9, 3) := by decide +kernel
theorem dX9_toOil_17 : decode cX9_toOil 17 = .ok (.aload_n 0, 1) := by decide +kernel
theorem dX9_toOil_18 : decode cX9_toOil 18 = .ok (.iconst 1, 1) := by decide +kernel
theorem dX9_toOil_19 : decode cX9_toOil 19 = .ok (.invokevirtual 299, 3) := by decide +kernel
theorem dX9_toOil_22 : decode cX9_toOil 22 = .ok (.ireturn, 1) := by decide +kernel
theorem dX9_toOil_23 : decode cX9_toOil 23 = .ok (.aload_n 0, 1) := by decide +kernel
theorem dX9_toOil_24 : decode cX9_toOil 24 = .ok (.getfield 145, 3) := by decide +kernel
theorem dX9_toOil_27 : decode cX9_toOil 27 = .ok (.istore_n 2, 1) := by decide +kernel
theorem dX9_toOil_28 : decode cX9_toOil 28 = .ok (.iconst (-1), 1) := by decide +kernel
theorem dX9_toOil_29 : decode cX9_toOil 29 = .ok (.istore_n 3, 1) := by decide +kernel
theorem dX9_toOil_30 : decode cX9_toOil 30 = .ok (.iload_n 2, 1) := by decide +kernel
theorem dX9_toOil_31 : decode cX9_toOil 31 = .ok (.istore 4, 2) := by decide +kernel
theorem dX9_toOil_33 : decode cX9_toOil 33 = .ok (.iload 4, 2) := by decide +kernel
theorem dX9_toOil_35 : decode cX9_toOil 35 = .ok (.bipush 99, 2) := by decide +kernel
theorem dX9_toOil_37 : decode cX9_toOil 37 = .ok (.if_icmp .gt 33, 3) := by decide +kernel
theorem dX9_toOil_40 : decode cX9_toOil 40 = .ok (.iload_n 3, 1) := by decide +kernel
theorem dX9_toOil_41 : decode cX9_toOil 41 = .ok (.iconst (-1), 1) := by decide +kernel
theorem dX9_toOil_42 : decode cX9_toOil 42 = .ok (.if_icmp .ne 28, 3) := by decide +kernel
theorem dX9_toOil_45 : decode cX9_toOil 45 = .ok (.aload_n 0, 1) := by decide +kernel
theorem dX9_toOil_46 : decode cX9_toOil 46 = .ok (.iload 4, 2) := by decide +kernel
theorem dX9_toOil_48 : decode cX9_toOil 48 = .ok (.putfield 145, 3) := by decide +kernel
theorem dX9_toOil_51 : decode cX9_toOil 51 = .ok (.aload_n 0, 1) := by decide +kernel
theorem dX9_toOil_52 : decode cX9_toOil 52 = .ok (.iload_n 1, 1) := by decide +kernel
theorem dX9_toOil_53 : decode cX9_toOil 53 = .ok (.invokevirtual 437, 3) := by decide +kernel
theorem dX9_toOil_56 : decode cX9_toOil 56 = .ok (.ifCond .eq 8, 3) := by decide +kernel
theorem dX9_toOil_59 : decode cX9_toOil 59 = .ok (.iload 4, 2) := by decide +kernel
theorem dX9_toOil_61 : decode cX9_toOil 61 = .ok (.iload_n 2, 1) := by decide +kernel
theorem dX9_toOil_62 : decode cX9_toOil 62 = .ok (.isub, 1) := by decide +kernel
theorem dX9_toOil_63 : decode cX9_toOil 63 = .ok (.istore_n 3, 1) := by decide +kernel
theorem dX9_toOil_64 : decode cX9_toOil 64 = .ok (.iinc 4 1, 3) := by decide +kernel
theorem dX9_toOil_67 : decode cX9_toOil 67 = .ok (.goto (-34), 3) := by decide +kernel
theorem dX9_toOil_70 : decode cX9_toOil 70 = .ok (.aload_n 0, 1) := by decide +kernel
theorem dX9_toOil_71 : decode cX9_toOil 71 = .ok (.iload_n 2, 1) := by decide +kernel
theorem dX9_toOil_72 : decode cX9_toOil 72 = .ok (.putfield 145, 3) := by decide +kernel
theorem dX9_toOil_75 : decode cX9_toOil 75 = .ok (.iload_n 3, 1) := by decide +kernel
theorem dX9_toOil_76 : decode cX9_toOil 76 = .ok (.ireturn, 1) := by decide +kernel
theorem dX9_hush_0 : decode cX9_hush 0 = .ok (.aload_n 0, 1) := by decide +kernel
theorem dX9_hush_1 : decode cX9_hush 1 = .ok (.iconst 0, 1) := by decide +kernel
theorem dX9_hush_2 : decode cX9_hush 2 = .ok (.putfield 152, 3) := by decide +kernel
theorem dX9_hush_5 : decode cX9_hush 5 = .ok (.iload_n 2, 1) := by decide +kernel
theorem dX9_hush_6 : decode cX9_hush 6 = .ok (.ifCond .lt 8, 3) := by decide +kernel
theorem dX9_hush_9 : decode cX9_hush 9 = .ok (.iload_n 2, 1) := by decide +kernel
theorem dX9_hush_10 : decode cX9_hush 10 = .ok (.iconst 1, 1) := by decide +kernel
theorem dX9_hush_11 : decode cX9_hush 11 = .ok (.if_icmp .le 9, 3) := by decide +kernel
theorem dX9_hush_14 : decode cX9_hush 14 = .ok (.aload_n 0, 1) := by decide +kernel
theorem dX9_hush_15 : decode cX9_hush 15 = .ok (.iconst 1, 1) := by decide +kernel
theorem dX9_hush_16 : decode cX9_hush 16 = .ok (.invokevirtual 299, 3) := by decide +kernel
theorem dX9_hush_19 : decode cX9_hush 19 = .ok (.ireturn, 1) := by decide +kernel
theorem dX9_hush_20 : decode cX9_hush 20 = .ok (.iload_n 1, 1) := by decide +kernel
theorem dX9_hush_21 : decode cX9_hush 21 = .ok (.i2l, 1) := by decide +kernel
theorem dX9_hush_22 : decode cX9_hush 22 = .ok (.lconst 0, 1) := by decide +kernel
theorem dX9_hush_23 : decode cX9_hush 23 = .ok (.ldc2_w 419, 3) := by decide +kernel
theorem dX9_hush_26 : decode cX9_hush 26 = .ok (.invokestatic 155, 3) := by decide +kernel
theorem dX9_hush_29 : decode cX9_hush 29 = .ok (.ifCond .ne 9, 3) := by decide +kernel
theorem dX9_hush_32 : decode cX9_hush 32 = .ok (.aload_n 0, 1) := by decide +kernel
theorem dX9_hush_33 : decode cX9_hush 33 = .ok (.iconst 2, 1) := by decide +kernel
theorem dX9_hush_34 : decode cX9_hush 34 = .ok (.invokevirtual 299, 3) := by decide +kernel
theorem dX9_hush_37 : decode cX9_hush 37 = .ok (.ireturn, 1) := by decide +kernel
theorem dX9_hush_38 : decode cX9_hush 38 = .ok (.aload_n 0, 1) := by decide +kernel
theorem dX9_hush_39 : decode cX9_hush 39 = .ok (.aload_n 0, 1) := by decide +kernel
theorem dX9_hush_40 : decode cX9_hush 40 = .ok (.getfield 106, 3) := by decide +kernel
theorem dX9_hush_43 : decode cX9_hush 43 = .ok (.iconst 0, 1) := by decide +kernel
theorem dX9_hush_44 : decode cX9_hush 44 = .ok (.invokevirtual 395, 3) := by decide +kernel
theorem dX9_hush_47 : decode cX9_hush 47 = .ok (.iconst 0, 1) := by decide +kernel
theorem dX9_hush_48 : decode cX9_hush 48 = .ok (.istore_n 3, 1) := by decide +kernel
theorem dX9_hush_49 : decode cX9_hush 49 = .ok (.iconst 0, 1) := by decide +kernel
theorem dX9_hush_50 : decode cX9_hush 50 = .ok (.istore 4, 2) := by decide +kernel
theorem dX9_hush_52 : decode cX9_hush 52 = .ok (.iconst (-1), 1) := by decide +kernel
theorem dX9_hush_53 : decode cX9_hush 53 = .ok (.istore 5, 2) := by decide +kernel
theorem dX9_hush_55 : decode cX9_hush 55 = .ok (.iconst 1, 1) := by decide +kernel
theorem dX9_hush_56 : decode cX9_hush 56 = .ok (.istore 6, 2) := by decide +kernel
theorem dX9_hush_58 : decode cX9_hush 58 = .ok (.iload 6, 2) := by decide +kernel
theorem dX9_hush_60 : decode cX9_hush 60 = .ok (.iload_n 1, 1) := by decide +kernel
theorem dX9_hush_61 : decode cX9_hush 61 = .ok (.if_icmp .gt 49, 3) := by decide +kernel
theorem dX9_hush_64 : decode cX9_hush 64 = .ok (.aload_n 0, 1) := by decide +kernel
theorem dX9_hush_65 : decode cX9_hush 65 = .ok (.invokevirtual 375, 3) := by decide +kernel
theorem dX9_hush_68 : decode cX9_hush 68 = .ok (.aload_n 0, 1) := by decide +kernel
theorem dX9_hush_69 : decode cX9_hush 69 = .ok (.getfield 360, 3) := by decide +kernel
theorem dX9_hush_72 : decode cX9_hush 72 = .ok (.iconst (-1), 1) := by decide +kernel
theorem dX9_hush_73 : decode cX9_hush 73 = .ok (.if_icmp .ne 9, 3) := by decide +kernel
theorem dX9_hush_76 : decode cX9_hush 76 = .ok (.iload_n 3, 1) := by decide +kernel
theorem dX9_hush_77 : decode cX9_hush 77 = .ok (.iconst 1, 1) := by decide +kernel
theorem dX9_hush_78 : decode cX9_hush 78 = .ok (.iadd, 1) := by decide +kernel
theorem dX9_hush_79 : decode cX9_hush 79 = .ok (.goto 4, 3) := by decide +kernel
theorem dX9_hush_82 : decode cX9_hush 82 = .ok (.iconst 0, 1) := by decide +kernel
theorem dX9_hush_83 : decode cX9_hush 83 = .ok (.istore_n 3, 1) := by decide +kernel
theorem dX9_hush_84 : decode cX9_hush 84 = .ok (.iload_n 3, 1) := by decide +kernel
theorem dX9_hush_85 : decode cX9_hush 85 = .ok (.iload 4, 2) := by decide +kernel
theorem dX9_hush_87 : decode cX9_hush 87 = .ok (.if_icmp .gt 6, 3) := by decide +kernel
theorem dX9_hush_90 : decode cX9_hush 90 = .ok (.goto 14, 3) := by decide +kernel
theorem dX9_hush_93 : decode cX9_hush 93 = .ok (.iload_n 3, 1) := by decide +kernel
theorem dX9_hush_94 : decode cX9_hush 94 = .ok (.istore 4, 2) := by decide +kernel
theorem dX9_hush_96 : decode cX9_hush 96 = .ok (.iload 6, 2) := by decide +kernel
theorem dX9_hush_98 : decode cX9_hush 98 = .ok (.iload_n 3, 1) := by decide +kernel
theorem dX9_hush_99 : decode cX9_hush 99 = .ok (.isub, 1) := by decide +kernel
theorem dX9_hush_100 : decode cX9_hush 100 = .ok (.iconst 1, 1) := by decide +kernel
theorem dX9_hush_101 : decode cX9_hush 101 = .ok (.iadd, 1) := by decide +kernel
theorem dX9_hush_102 : decode cX9_hush 102 = .ok (.istore 5, 2) := by decide +kernel
theorem dX9_hush_104 : decode cX9_hush 104 = .ok (.iinc 6 1, 3) := by decide +kernel
theorem dX9_hush_107 : decode cX9_hush 107 = .ok (.goto (-49), 3) := by decide +kernel
theorem dX9_hush_110 : decode cX9_hush 110 = .ok (.aload_n 0, 1) := by decide +kernel
theorem dX9_hush_111 : decode cX9_hush 111 = .ok (.aload_n 0, 1) := by decide +kernel
theorem dX9_hush_112 : decode cX9_hush 112 = .ok (.getfield 106, 3) := by decide +kernel
theorem dX9_hush_115 : decode cX9_hush 115 = .ok (.iconst 0, 1) := by decide +kernel
theorem dX9_hush_116 : decode cX9_hush 116 = .ok (.invokevirtual 416, 3) := by decide +kernel
theorem dX9_hush_119 : decode cX9_hush 119 = .ok (.iload_n 2, 1) := by decide +kernel
theorem dX9_hush_120 : decode cX9_hush 120 = .ok (.ifCond .ne 8, 3) := by decide +kernel
theorem dX9_hush_123 : decode cX9_hush 123 = .ok (.iload 4, 2) := by decide +kernel
theorem dX9_hush_125 : decode cX9_hush 125 = .ok (.goto 5, 3) := by decide +kernel
theorem dX9_hush_128 : decode cX9_hush 128 = .ok (.iload 5, 2) := by decide +kernel
theorem dX9_hush_130 : decode cX9_hush 130 = .ok (.ireturn, 1) := by decide +kernel
theorem dX9_word_0 : decode cX9_word 0 = .ok (.aload_n 0, 1) := by decide +kernel
theorem dX9_word_1 : decode cX9_word 1 = .ok (.iconst 0, 1) := by decide +kernel
theorem dX9_word_2 : decode cX9_word 2 = .ok (.putfield 152, 3) := by decide +kernel
theorem dX9_word_5 : decode cX9_word 5 = .ok (.iload_n 1, 1) := by decide +kernel
theorem dX9_word_6 : decode cX9_word 6 = .ok (.i2l, 1) := by decide +kernel
theorem dX9_word_7 : decode cX9_word 7 = .ok (.lconst 0, 1) := by decide +kernel
theorem dX9_word_8 : decode cX9_word 8 = .ok (.ldc2_w 419, 3) := by decide +kernel
theorem dX9_word_11 : decode cX9_word 11 = .ok (.invokestatic 155, 3) := by decide +kernel
theorem dX9_word_14 : decode cX9_word 14 = .ok (.ifCond .ne 9, 3) := by decide +kernel
theorem dX9_word_17 : decode cX9_word 17 = .ok (.aload_n 0, 1) := by decide +kernel
theorem dX9_word_18 : decode cX9_word 18 = .ok (.iconst 1, 1) := by decide +kernel
theorem dX9_word_19 : decode cX9_word 19 = .ok (.invokevirtual 299, 3) := by decide +kernel
theorem dX9_word_22 : decode cX9_word 22 = .ok (.ireturn, 1) := by decide +kernel
theorem dX9_word_23 : decode cX9_word 23 = .ok (.iconst 0, 1) := by decide +kernel
theorem dX9_word_24 : decode cX9_word 24 = .ok (.istore_n 2, 1) := by decide +kernel
theorem dX9_word_25 : decode cX9_word 25 = .ok (.iload_n 2, 1) := by decide +kernel
theorem dX9_word_26 : decode cX9_word 26 = .ok (.bipush 24, 2) := by decide +kernel
theorem dX9_word_28 : decode cX9_word 28 = .ok (.if_icmp .gt 16, 3) := by decide +kernel
theorem dX9_word_31 : decode cX9_word 31 = .ok (.aload_n 0, 1) := by decide +kernel
theorem dX9_word_32 : decode cX9_word 32 = .ok (.getfield 112, 3) := by decide +kernel
theorem dX9_word_35 : decode cX9_word 35 = .ok (.iload_n 2, 1) := by decide +kernel
theorem dX9_word_36 : decode cX9_word 36 = .ok (.iconst 0, 1) := by decide +kernel
theorem dX9_word_37 : decode cX9_word 37 = .ok (.iastore, 1) := by decide +kernel
theorem dX9_word_38 : decode cX9_word 38 = .ok (.iinc 2 1, 3) := by decide +kernel
theorem dX9_word_41 : decode cX9_word 41 = .ok (.goto (-16), 3) := by decide +kernel
theorem dX9_word_44 : decode cX9_word 44 = .ok (.aload_n 0, 1) := by decide +kernel
theorem dX9_word_45 : decode cX9_word 45 = .ok (.aload_n 0, 1) := by decide +kernel
theorem dX9_word_46 : decode cX9_word 46 = .ok (.getfield 106, 3) := by decide +kernel
theorem dX9_word_49 : decode cX9_word 49 = .ok (.iconst 0, 1) := by decide +kernel
theorem dX9_word_50 : decode cX9_word 50 = .ok (.invokevirtual 395, 3) := by decide +kernel
theorem dX9_word_53 : decode cX9_word 53 = .ok (.iconst 0, 1) := by decide +kernel
theorem dX9_word_54 : decode cX9_word 54 = .ok (.istore_n 2, 1) := by decide +kernel
theorem dX9_word_55 : decode cX9_word 55 = .ok (.iload_n 2, 1) := by decide +kernel
theorem dX9_word_56 : decode cX9_word 56 = .ok (.iload_n 1, 1) := by decide +kernel
theorem dX9_word_57 : decode cX9_word 57 = .ok (.if_icmp .ge 34, 3) := by decide +kernel
theorem dX9_word_60 : decode cX9_word 60 = .ok (.aload_n 0, 1) := by decide +kernel
theorem dX9_word_61 : decode cX9_word 61 = .ok (.invokevirtual 375, 3) := by decide +kernel
theorem dX9_word_64 : decode cX9_word 64 = .ok (.aload_n 0, 1) := by decide +kernel
theorem dX9_word_65 : decode cX9_word 65 = .ok (.getfield 360, 3) := by decide +kernel
theorem dX9_word_68 : decode cX9_word 68 = .ok (.iconst (-1), 1) := by decide +kernel
theorem dX9_word_69 : decode cX9_word 69 = .ok (.if_icmp .eq 16, 3) := by decide +kernel
theorem dX9_word_72 : decode cX9_word 72 = .ok (.aload_n 0, 1) := by decide +kernel
theorem dX9_word_73 : decode cX9_word 73 = .ok (.getfield 112, 3) := by decide +kernel
theorem dX9_word_76 : decode cX9_word 76 = .ok (.aload_n 0, 1) := by decide +kernel
theorem dX9_word_77 : decode cX9_word 77 = .ok (.getfield 360, 3) := by decide +kernel
theorem dX9_word_80 : decode cX9_word 80 = .ok (.dup2, 1) := by decide +kernel
theorem dX9_word_81 : decode cX9_word 81 = .ok (.iaload, 1) := by decide +kernel
theorem dX9_word_82 : decode cX9_word 82 = .ok (.iconst 1, 1) := by decide +kernel
theorem dX9_word_83 : decode cX9_word 83 = .ok (.iadd, 1) := by decide +kernel
theorem dX9_word_84 : decode cX9_word 84 = .ok (.iastore, 1) := by decide +kernel
theorem dX9_word_85 : decode cX9_word 85 = .ok (.iinc 2 1, 3) := by decide +kernel
theorem dX9_word_88 : decode cX9_word 88 = .ok (.goto (-33), 3) := by decide +kernel
theorem dX9_word_91 : decode cX9_word 91 = .ok (.aload_n 0, 1) := by decide +kernel
theorem dX9_word_92 : decode cX9_word 92 = .ok (.aload_n 0, 1) := by decide +kernel
theorem dX9_word_93 : decode cX9_word 93 = .ok (.getfield 106, 3) := by decide +kernel
theorem dX9_word_96 : decode cX9_word 96 = .ok (.iconst 0, 1) := by decide +kernel
theorem dX9_word_97 : decode cX9_word 97 = .ok (.invokevirtual 416, 3) := by decide +kernel
theorem dX9_word_100 : decode cX9_word 100 = .ok (.iconst (-1), 1) := by decide +kernel
theorem dX9_word_101 : decode cX9_word 101 = .ok (.istore_n 2, 1) := by decide +kernel
theorem dX9_word_102 : decode cX9_word 102 = .ok (.bipush 24, 2) := by decide +kernel
theorem dX9_word_104 : decode cX9_word 104 = .ok (.istore_n 3, 1) := by decide +kernel
theorem dX9_word_105 : decode cX9_word 105 = .ok (.iload_n 3, 1) := by decide +kernel
theorem dX9_word_106 : decode cX9_word 106 = .ok (.ifCond .lt 40, 3) := by decide +kernel
theorem dX9_word_109 : decode cX9_word 109 = .ok (.aload_n 0, 1) := by decide +kernel
theorem dX9_word_110 : decode cX9_word 110 = .ok (.getfield 112, 3) := by decide +kernel
theorem dX9_word_113 : decode cX9_word 113 = .ok (.iload_n 3, 1) := by decide +kernel
theorem dX9_word_114 : decode cX9_word 114 = .ok (.iaload, 1) := by decide +kernel
theorem dX9_word_115 : decode cX9_word 115 = .ok (.ifCond .le 25, 3) := by decide +kernel
theorem dX9_word_118 : decode cX9_word 118 = .ok (.iload_n 2, 1) := by decide +kernel
theorem dX9_word_119 : decode cX9_word 119 = .ok (.iconst (-1), 1) := by decide +kernel
theorem dX9_word_120 : decode cX9_word 120 = .ok (.if_icmp .eq 18, 3) := by decide +kernel
theorem dX9_word_123 : decode cX9_word 123 = .ok (.aload_n 0, 1) := by decide +kernel
theorem dX9_word_124 : decode cX9_word 124 = .ok (.getfield 112, 3) := by decide +kernel
theorem dX9_word_127 : decode cX9_word 127 = .ok (.iload_n 3, 1) := by decide +kernel
theorem dX9_word_128 : decode cX9_word 128 = .ok (.iaload, 1) := by decide +kernel
theorem dX9_word_129 : decode cX9_word 129 = .ok (.aload_n 0, 1) := by decide +kernel
theorem dX9_word_130 : decode cX9_word 130 = .ok (.getfield 112, 3) := by decide +kernel
theorem dX9_word_133 : decode cX9_word 133 = .ok (.iload_n 2, 1) := by decide +kernel
theorem dX9_word_134 : decode cX9_word 134 = .ok (.iaload, 1) := by decide +kernel
theorem dX9_word_135 : decode cX9_word 135 = .ok (.if_icmp .lt 5, 3) := by decide +kernel
theorem dX9_word_138 : decode cX9_word 138 = .ok (.iload_n 3, 1) := by decide +kernel
theorem dX9_word_139 : decode cX9_word 139 = .ok (.istore_n 2, 1) := by decide +kernel
theorem dX9_word_140 : decode cX9_word 140 = .ok (.iinc 3 (-1), 3) := by decide +kernel
theorem dX9_word_143 : decode cX9_word 143 = .ok (.goto (-38), 3) := by decide +kernel
theorem dX9_word_146 : decode cX9_word 146 = .ok (.iload_n 2, 1) := by decide +kernel
theorem dX9_word_147 : decode cX9_word 147 = .ok (.ireturn, 1) := by decide +kernel
theorem dX9_heldUp_0 : decode cX9_heldUp 0 = .ok (.aload_n 0, 1) := by decide +kernel
theorem dX9_heldUp_1 : decode cX9_heldUp 1 = .ok (.iconst 0, 1) := by decide +kernel
theorem dX9_heldUp_2 : decode cX9_heldUp 2 = .ok (.putfield 152, 3) := by decide +kernel
theorem dX9_heldUp_5 : decode cX9_heldUp 5 = .ok (.aload_n 0, 1) := by decide +kernel
theorem dX9_heldUp_6 : decode cX9_heldUp 6 = .ok (.iload_n 1, 1) := by decide +kernel
theorem dX9_heldUp_7 : decode cX9_heldUp 7 = .ok (.invokevirtual 389, 3) := by decide +kernel
theorem dX9_heldUp_10 : decode cX9_heldUp 10 = .ok (.ifCond .ne 9, 3) := by decide +kernel
theorem dX9_heldUp_13 : decode cX9_heldUp 13 = .ok (.aload_n 0, 1) := by decide +kernel
theorem dX9_heldUp_14 : decode cX9_heldUp 14 = .ok (.iconst 1, 1) := by decide +kernel
theorem dX9_heldUp_15 : decode cX9_heldUp 15 = .ok (.invokevirtual 299, 3) := by decide +kernel
theorem dX9_heldUp_18 : decode cX9_heldUp 18 = .ok (.ireturn, 1) := by decide +kernel
theorem dX9_heldUp_19 : decode cX9_heldUp 19 = .ok (.aload_n 0, 1) := by decide +kernel
theorem dX9_heldUp_20 : decode cX9_heldUp 20 = .ok (.bipush 48, 2) := by decide +kernel
theorem dX9_heldUp_22 : decode cX9_heldUp 22 = .ok (.invokevirtual 434, 3) := by decide +kernel
theorem dX9_heldUp_25 : decode cX9_heldUp 25 = .ok (.istore_n 2, 1) := by decide +kernel
theorem dX9_heldUp_26 : decode cX9_heldUp 26 = .ok (.aload_n 0, 1) := by decide +kernel
theorem dX9_heldUp_27 : decode cX9_heldUp 27 = .ok (.iload_n 1, 1) := by decide +kernel
theorem dX9_heldUp_28 : decode cX9_heldUp 28 = .ok (.putfield 103, 3) := by decide +kernel
theorem dX9_heldUp_31 : decode cX9_heldUp 31 = .ok (.aload_n 0, 1) := by decide +kernel
