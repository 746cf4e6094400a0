theorem dX8_bribery_6 : decode cX8_bribery 6 = .ok (.iconst 0, 1) := by decide +kernel
theorem dX8_bribery_7 : decode cX8_bribery 7 = .ok (.bipush 24, 2) := by decide +kernel
theorem dX8_bribery_9 : decode cX8_bribery 9 = .ok (.invokestatic 231, 3) := by decide +kernel
theorem dX8_bribery_12 : decode cX8_bribery 12 = .ok (.aload_n 0, 1) := by decide +kernel
theorem dX8_bribery_13 : decode cX8_bribery 13 = .ok (.getfield 71, 3) := by decide +kernel
theorem dX8_bribery_16 : decode cX8_bribery 16 = .ok (.iload_n 1, 1) := by decide +kernel
theorem dX8_bribery_17 : decode cX8_bribery 17 = .ok (.iload_n 2, 1) := by decide +kernel
theorem dX8_bribery_18 : decode cX8_bribery 18 = .ok (.invokevirtual 281, 3) := by decide +kernel
theorem dX8_bribery_21 : decode cX8_bribery 21 = .ok (.ireturn, 1) := by decide +kernel
theorem dX8_needs_0 : decode cX8_needs 0 = .ok (.aload_n 0, 1) := by decide +kernel
theorem dX8_needs_1 : decode cX8_needs 1 = .ok (.iload_n 1, 1) := by decide +kernel
theorem dX8_needs_2 : decode cX8_needs 2 = .ok (.invokevirtual 177, 3) := by decide +kernel
theorem dX8_needs_5 : decode cX8_needs 5 = .ok (.aload_n 0, 1) := by decide +kernel
theorem dX8_needs_6 : decode cX8_needs 6 = .ok (.getfield 23, 3) := by decide +kernel
theorem dX8_needs_9 : decode cX8_needs 9 = .ok (.iload_n 1, 1) := by decide +kernel
theorem dX8_needs_10 : decode cX8_needs 10 = .ok (.invokevirtual 198, 3) := by decide +kernel
theorem dX8_needs_13 : decode cX8_needs 13 = .ok (.aload_n 0, 1) := by decide +kernel
theorem dX8_needs_14 : decode cX8_needs 14 = .ok (.getfield 42, 3) := by decide +kernel
theorem dX8_needs_17 : decode cX8_needs 17 = .ok (.getfield 64, 3) := by decide +kernel
theorem dX8_needs_20 : decode cX8_needs 20 = .ok (.getfield 146, 3) := by decide +kernel
theorem dX8_needs_23 : decode cX8_needs 23 = .ok (.iconst (-1), 1) := by decide +kernel
theorem dX8_needs_24 : decode cX8_needs 24 = .ok (.ixor, 1) := by decide +kernel
theorem dX8_needs_25 : decode cX8_needs 25 = .ok (.iand, 1) := by decide +kernel
theorem dX8_needs_26 : decode cX8_needs 26 = .ok (.ireturn, 1) := by decide +kernel
theorem dX8_allies_0 : decode cX8_allies 0 = .ok (.aload_n 0, 1) := by decide +kernel
theorem dX8_allies_1 : decode cX8_allies 1 = .ok (.iload_n 1, 1) := by decide +kernel
theorem dX8_allies_2 : decode cX8_allies 2 = .ok (.invokevirtual 163, 3) := by decide +kernel
theorem dX8_allies_5 : decode cX8_allies 5 = .ok (.aload_n 0, 1) := by decide +kernel
theorem dX8_allies_6 : decode cX8_allies 6 = .ok (.iload_n 2, 1) := by decide +kernel
theorem dX8_allies_7 : decode cX8_allies 7 = .ok (.invokevirtual 163, 3) := by decide +kernel
theorem dX8_allies_10 : decode cX8_allies 10 = .ok (.aload_n 0, 1) := by decide +kernel
theorem dX8_allies_11 : decode cX8_allies 11 = .ok (.getfield 71, 3) := by decide +kernel
theorem dX8_allies_14 : decode cX8_allies 14 = .ok (.iload_n 1, 1) := by decide +kernel
theorem dX8_allies_15 : decode cX8_allies 15 = .ok (.iload_n 2, 1) := by decide +kernel
theorem dX8_allies_16 : decode cX8_allies 16 = .ok (.invokevirtual 284, 3) := by decide +kernel
theorem dX8_allies_19 : decode cX8_allies 19 = .ok (.ireturn, 1) := by decide +kernel
theorem dX8_passing_0 : decode cX8_passing 0 = .ok (.iload_n 1, 1) := by decide +kernel
theorem dX8_passing_1 : decode cX8_passing 1 = .ok (.iconst 0, 1) := by decide +kernel
theorem dX8_passing_2 : decode cX8_passing 2 = .ok (.bipush 96, 2) := by decide +kernel
theorem dX8_passing_4 : decode cX8_passing 4 = .ok (.invokestatic 231, 3) := by decide +kernel
theorem dX8_passing_7 : decode cX8_passing 7 = .ok (.aload_n 0, 1) := by decide +kernel
theorem dX8_passing_8 : decode cX8_passing 8 = .ok (.getfield 78, 3) := by decide +kernel
theorem dX8_passing_11 : decode cX8_passing 11 = .ok (.iload_n 1, 1) := by decide +kernel
theorem dX8_passing_12 : decode cX8_passing 12 = .ok (.iconst (-1), 1) := by decide +kernel
theorem dX8_passing_13 : decode cX8_passing 13 = .ok (.invokevirtual 245, 3) := by decide +kernel
theorem dX8_passing_16 : decode cX8_passing 16 = .ok (.getfield 146, 3) := by decide +kernel
theorem dX8_passing_19 : decode cX8_passing 19 = .ok (.ireturn, 1) := by decide +kernel
theorem dX8_toOil_0 : decode cX8_toOil 0 = .ok (.iload_n 1, 1) := by decide +kernel
theorem dX8_toOil_1 : decode cX8_toOil 1 = .ok (.iconst 1, 1) := by decide +kernel
theorem dX8_toOil_2 : decode cX8_toOil 2 = .ok (.bipush 96, 2) := by decide +kernel
theorem dX8_toOil_4 : decode cX8_toOil 4 = .ok (.invokestatic 231, 3) := by decide +kernel
theorem dX8_toOil_7 : decode cX8_toOil 7 = .ok (.iload_n 1, 1) := by decide +kernel
theorem dX8_toOil_8 : decode cX8_toOil 8 = .ok (.aload_n 0, 1) := by decide +kernel
theorem dX8_toOil_9 : decode cX8_toOil 9 = .ok (.getfield 78, 3) := by decide +kernel
theorem dX8_toOil_12 : decode cX8_toOil 12 = .ok (.iconst (-1), 1) := by decide +kernel
theorem dX8_toOil_13 : decode cX8_toOil 13 = .ok (.iload_n 1, 1) := by decide +kernel
theorem dX8_toOil_14 : decode cX8_toOil 14 = .ok (.invokevirtual 255, 3) := by decide +kernel
theorem dX8_toOil_17 : decode cX8_toOil 17 = .ok (.isub, 1) := by decide +kernel
theorem dX8_toOil_18 : decode cX8_toOil 18 = .ok (.istore_n 2, 1) := by decide +kernel
theorem dX8_toOil_19 : decode cX8_toOil 19 = .ok (.iload_n 2, 1) := by decide +kernel
theorem dX8_toOil_20 : decode cX8_toOil 20 = .ok (.bipush 99, 2) := by decide +kernel
theorem dX8_toOil_22 : decode cX8_toOil 22 = .ok (.if_icmp .le 7, 3) := by decide +kernel
theorem dX8_toOil_25 : decode cX8_toOil 25 = .ok (.iconst (-1), 1) := by decide +kernel
theorem dX8_toOil_26 : decode cX8_toOil 26 = .ok (.goto 19, 3) := by decide +kernel
theorem dX8_toOil_29 : decode cX8_toOil 29 = .ok (.iconst 0, 1) := by decide +kernel
theorem dX8_toOil_30 : decode cX8_toOil 30 = .ok (.iload_n 2, 1) := by decide +kernel
theorem dX8_toOil_31 : decode cX8_toOil 31 = .ok (.aload_n 0, 1) := by decide +kernel
theorem dX8_toOil_32 : decode cX8_toOil 32 = .ok (.getfield 42, 3) := by decide +kernel
theorem dX8_toOil_35 : decode cX8_toOil 35 = .ok (.getfield 64, 3) := by decide +kernel
theorem dX8_toOil_38 : decode cX8_toOil 38 = .ok (.getfield 131, 3) := by decide +kernel
theorem dX8_toOil_41 : decode cX8_toOil 41 = .ok (.isub, 1) := by decide +kernel
theorem dX8_toOil_42 : decode cX8_toOil 42 = .ok (.invokestatic 258, 3) := by decide +kernel
theorem dX8_toOil_45 : decode cX8_toOil 45 = .ok (.ireturn, 1) := by decide +kernel
theorem dX8_hush_0 : decode cX8_hush 0 = .ok (.iload_n 2, 1) := by decide +kernel
theorem dX8_hush_1 : decode cX8_hush 1 = .ok (.iconst 1, 1) := by decide +kernel
theorem dX8_hush_2 : decode cX8_hush 2 = .ok (.invokestatic 241, 3) := by decide +kernel
theorem dX8_hush_5 : decode cX8_hush 5 = .ok (.iload_n 1, 1) := by decide +kernel
theorem dX8_hush_6 : decode cX8_hush 6 = .ok (.iconst 0, 1) := by decide +kernel
theorem dX8_hush_7 : decode cX8_hush 7 = .ok (.bipush 96, 2) := by decide +kernel
theorem dX8_hush_9 : decode cX8_hush 9 = .ok (.invokestatic 231, 3) := by decide +kernel
theorem dX8_hush_12 : decode cX8_hush 12 = .ok (.aload_n 0, 1) := by decide +kernel
theorem dX8_hush_13 : decode cX8_hush 13 = .ok (.getfield 78, 3) := by decide +kernel
theorem dX8_hush_16 : decode cX8_hush 16 = .ok (.iload_n 1, 1) := by decide +kernel
theorem dX8_hush_17 : decode cX8_hush 17 = .ok (.iload_n 2, 1) := by decide +kernel
theorem dX8_hush_18 : decode cX8_hush 18 = .ok (.iconst 1, 1) := by decide +kernel
theorem dX8_hush_19 : decode cX8_hush 19 = .ok (.if_icmp .ne 7, 3) := by decide +kernel
theorem dX8_hush_22 : decode cX8_hush 22 = .ok (.iconst 1, 1) := by decide +kernel
theorem dX8_hush_23 : decode cX8_hush 23 = .ok (.goto 4, 3) := by decide +kernel
theorem dX8_hush_26 : decode cX8_hush 26 = .ok (.iconst 0, 1) := by decide +kernel
theorem dX8_hush_27 : decode cX8_hush 27 = .ok (.invokevirtual 287, 3) := by decide +kernel
theorem dX8_hush_30 : decode cX8_hush 30 = .ok (.ireturn, 1) := by decide +kernel
theorem dX8_word_0 : decode cX8_word 0 = .ok (.iload_n 1, 1) := by decide +kernel
theorem dX8_word_1 : decode cX8_word 1 = .ok (.iconst 0, 1) := by decide +kernel
theorem dX8_word_2 : decode cX8_word 2 = .ok (.bipush 96, 2) := by decide +kernel
theorem dX8_word_4 : decode cX8_word 4 = .ok (.invokestatic 231, 3) := by decide +kernel
theorem dX8_word_7 : decode cX8_word 7 = .ok (.aload_n 0, 1) := by decide +kernel
theorem dX8_word_8 : decode cX8_word 8 = .ok (.getfield 78, 3) := by decide +kernel
theorem dX8_word_11 : decode cX8_word 11 = .ok (.iload_n 1, 1) := by decide +kernel
theorem dX8_word_12 : decode cX8_word 12 = .ok (.invokevirtual 291, 3) := by decide +kernel
theorem dX8_word_15 : decode cX8_word 15 = .ok (.ireturn, 1) := by decide +kernel
theorem dX8_heldUp_0 : decode cX8_heldUp 0 = .ok (.aload_n 0, 1) := by decide +kernel
theorem dX8_heldUp_1 : decode cX8_heldUp 1 = .ok (.iload_n 1, 1) := by decide +kernel
theorem dX8_heldUp_2 : decode cX8_heldUp 2 = .ok (.invokevirtual 177, 3) := by decide +kernel
theorem dX8_heldUp_5 : decode cX8_heldUp 5 = .ok (.aload_n 0, 1) := by decide +kernel
theorem dX8_heldUp_6 : decode cX8_heldUp 6 = .ok (.getfield 78, 3) := by decide +kernel
theorem dX8_heldUp_9 : decode cX8_heldUp 9 = .ok (.bipush 48, 2) := by decide +kernel
theorem dX8_heldUp_11 : decode cX8_heldUp 11 = .ok (.iconst (-1), 1) := by decide +kernel
theorem dX8_heldUp_12 : decode cX8_heldUp 12 = .ok (.invokevirtual 245, 3) := by decide +kernel
theorem dX8_heldUp_15 : decode cX8_heldUp 15 = .ok (.getfield 146, 3) := by decide +kernel
theorem dX8_heldUp_18 : decode cX8_heldUp 18 = .ok (.istore_n 2, 1) := by decide +kernel
theorem dX8_heldUp_19 : decode cX8_heldUp 19 = .ok (.aload_n 0, 1) := by decide +kernel
theorem dX8_heldUp_20 : decode cX8_heldUp 20 = .ok (.getfield 78, 3) := by decide +kernel
theorem dX8_heldUp_23 : decode cX8_heldUp 23 = .ok (.bipush 48, 2) := by decide +kernel
theorem dX8_heldUp_25 : decode cX8_heldUp 25 = .ok (.iload_n 1, 1) := by decide +kernel
theorem dX8_heldUp_26 : decode cX8_heldUp 26 = .ok (.invokevirtual 245, 3) := by decide +kernel
theorem dX8_heldUp_29 : decode cX8_heldUp 29 = .ok (.getfield 146, 3) := by decide +kernel
theorem dX8_heldUp_32 : decode cX8_heldUp 32 = .ok (.istore_n 3, 1) := by decide +kernel
theorem dX8_heldUp_33 : decode cX8_heldUp 33 = .ok (.iload_n 3, 1) := by decide +kernel
theorem dX8_heldUp_34 : decode cX8_heldUp 34 = .ok (.iload_n 2, 1) := by decide +kernel
theorem dX8_heldUp_35 : decode cX8_heldUp 35 = .ok (.iconst (-1), 1) := by decide +kernel
theorem dX8_heldUp_36 : decode cX8_heldUp 36 = .ok (.ixor, 1) := by decide +kernel
theorem dX8_heldUp_37 : decode cX8_heldUp 37 = .ok (.iand, 1) := by decide +kernel
theorem dX8_heldUp_38 : decode cX8_heldUp 38 = .ok (.ireturn, 1) := by decide +kernel
theorem dX8_idle_0 : decode cX8_idle 0 = .ok (.aload_n 0, 1) := by decide +kernel
theorem dX8_idle_1 : decode cX8_idle 1 = .ok (.getfield 71, 3) := by decide +kernel
theorem dX8_idle_4 : decode cX8_idle 4 = .ok (.invokevirtual 294, 3) := by decide +kernel
theorem dX8_idle_7 : decode cX8_idle 7 = .ok (.aload_n 0, 1) := by decide +kernel
theorem dX8_idle_8 : decode cX8_idle 8 = .ok (.getfield 78, 3) := by decide +kernel
theorem dX8_idle_11 : decode cX8_idle 11 = .ok (.bipush 96, 2) := by decide +kernel
theorem dX8_idle_13 : decode cX8_idle 13 = .ok (.invokevirtual 297, 3) := by decide +kernel
theorem dX8_idle_16 : decode cX8_idle 16 = .ok (.iconst (-1), 1) := by decide +kernel
theorem dX8_idle_17 : decode cX8_idle 17 = .ok (.ixor, 1) := by decide +kernel
theorem dX8_idle_18 : decode cX8_idle 18 = .ok (.iand, 1) := by decide +kernel
theorem dX8_idle_19 : decode cX8_idle 19 = .ok (.ireturn, 1) := by decide +kernel
theorem dX8_see_0 : decode cX8_see 0 = .ok (.aload_n 0, 1) := by decide +kernel
theorem dX8_see_1 : decode cX8_see 1 = .ok (.getfield 42, 3) := by decide +kernel
theorem dX8_see_4 : decode cX8_see 4 = .ok (.getfield 155, 3) := by decide +kernel
theorem dX8_see_7 : decode cX8_see 7 = .ok (.bipush 8, 2) := by decide +kernel
theorem dX8_see_9 : decode cX8_see 9 = .ok (.if_icmp .ge 23, 3) := by decide +kernel
theorem dX8_see_12 : decode cX8_see 12 = .ok (.iload_n 1, 1) := by decide +kernel
theorem dX8_see_13 : decode cX8_see 13 = .ok (.iconst 1, 1) := by decide +kernel
theorem dX8_see_14 : decode cX8_see 14 = .ok (.bipush 48, 2) := by decide +kernel
theorem dX8_see_16 : decode cX8_see 16 = .ok (.invokestatic 208, 3) := by decide +kernel
theorem dX8_see_19 : decode cX8_see 19 = .ok (.ifCond .ne 13, 3) := by decide +kernel
theorem dX8_see_22 : decode cX8_see 22 = .ok (.iload_n 2, 1) := by decide +kernel
theorem dX8_see_23 : decode cX8_see 23 = .ok (.iconst (-1), 1) := by decide +kernel
theorem dX8_see_24 : decode cX8_see 24 = .ok (.bipush 24, 2) := by decide +kernel
theorem dX8_see_26 : decode cX8_see 26 = .ok (.invokestatic 208, 3) := by decide +kernel
theorem dX8_see_29 : decode cX8_see 29 = .ok (.ifCond .eq 18, 3) := by decide +kernel
theorem dX8_see_32 : decode cX8_see 32 = .ok (.aload_n 0, 1) := by decide +kernel
theorem dX8_see_33 : decode cX8_see 33 = .ok (.getfield 42, 3) := by decide +kernel
theorem dX8_see_36 : decode cX8_see 36 = .ok (.getfield 113, 3) := by decide +kernel
theorem dX8_see_39 : decode cX8_see 39 = .ok (.iconst 2, 1) := by decide +kernel
theorem dX8_see_40 : decode cX8_see 40 = .ok (.dup2, 1) := by decide +kernel
theorem dX8_see_41 : decode cX8_see 41 = .ok (.iaload, 1) := by decide +kernel
theorem dX8_see_42 : decode cX8_see 42 = .ok (.iconst 1, 1) := by decide +kernel
theorem dX8_see_43 : decode cX8_see 43 = .ok (.iadd, 1) := by decide +kernel
theorem dX8_see_44 : decode cX8_see 44 = .ok (.iastore, 1) := by decide +kernel
theorem dX8_see_45 : decode cX8_see 45 = .ok (.iconst (-1), 1) := by decide +kernel
theorem dX8_see_46 : decode cX8_see 46 = .ok (.ireturn, 1) := by decide +kernel
theorem dX8_see_47 : decode cX8_see 47 = .ok (.aload_n 0, 1) := by decide +kernel
theorem dX8_see_48 : decode cX8_see 48 = .ok (.getfield 42, 3) := by decide +kernel
theorem dX8_see_51 : decode cX8_see 51 = .ok (.iload_n 1, 1) := by decide +kernel
theorem dX8_see_52 : decode cX8_see 52 = .ok (.iload_n 2, 1) := by decide +kernel
theorem dX8_see_53 : decode cX8_see 53 = .ok (.invokevirtual 300, 3) := by decide +kernel
theorem dX8_see_56 : decode cX8_see 56 = .ok (.aload_n 0, 1) := by decide +kernel
theorem dX8_see_57 : decode cX8_see 57 = .ok (.getfield 42, 3) := by decide +kernel
theorem dX8_see_60 : decode cX8_see 60 = .ok (.getfield 155, 3) := by decide +kernel
theorem dX8_see_63 : decode cX8_see 63 = .ok (.ireturn, 1) := by decide +kernel
theorem dX8_fouled_0 : decode cX8_fouled 0 = .ok (.iload_n 1, 1) := by decide +kernel
theorem dX8_fouled_1 : decode cX8_fouled 1 = .ok (.iconst 2, 1) := by decide +kernel
theorem dX8_fouled_2 : decode cX8_fouled 2 = .ok (.invokestatic 241, 3) := by decide +kernel
theorem dX8_fouled_5 : decode cX8_fouled 5 = .ok (.iload_n 1, 1) := by decide +kernel
theorem dX8_fouled_6 : decode cX8_fouled 6 = .ok (.iconst 2, 1) := by decide +kernel
theorem dX8_fouled_7 : decode cX8_fouled 7 = .ok (.if_icmp .ne 19, 3) := by decide +kernel
theorem dX8_fouled_10 : decode cX8_fouled 10 = .ok (.aload_n 0, 1) := by decide +kernel
theorem dX8_fouled_11 : decode cX8_fouled 11 = .ok (.getfield 87, 3) := by decide +kernel
theorem dX8_fouled_14 : decode cX8_fouled 14 = .ok (.invokevirtual 303, 3) := by decide +kernel
theorem dX8_fouled_17 : decode cX8_fouled 17 = .ok (.ifCond .eq 7, 3) := by decide +kernel
theorem dX8_fouled_20 : decode cX8_fouled 20 = .ok (.iconst 1, 1) := by decide +kernel
theorem dX8_fouled_21 : decode cX8_fouled 21 = .ok (.goto 4, 3) := by decide +kernel
theorem dX8_fouled_24 : decode cX8_fouled 24 = .ok (.iconst 0, 1) := by decide +kernel
theorem dX8_fouled_25 : decode cX8_fouled 25 = .ok (.ireturn, 1) := by decide +kernel
theorem dX8_fouled_26 : decode cX8_fouled 26 = .ok (.iload_n 1, 1) := by decide +kernel
theorem dX8_fouled_27 : decode cX8_fouled 27 = .ok (.ifCond .ne 13, 3) := by decide +kernel
theorem dX8_fouled_30 : decode cX8_fouled 30 = .ok (.aload_n 0, 1) := by decide +kernel
theorem dX8_fouled_31 : decode cX8_fouled 31 = .ok (.getfield 87, 3) := by decide +kernel
theorem dX8_fouled_34 : decode cX8_fouled 34 = .ok (.invokevirtual 307, 3) := by decide +kernel
theorem dX8_fouled_37 : decode cX8_fouled 37 = .ok (.goto 10, 3) := by decide +kernel
theorem dX8_fouled_40 : decode cX8_fouled 40 = .ok (.aload_n 0, 1) := by decide +kernel
theorem dX8_fouled_41 : decode cX8_fouled 41 = .ok (.getfield 87, 3) := by decide +kernel
theorem dX8_fouled_44 : decode cX8_fouled 44 = .ok (.invokevirtual 310, 3) := by decide +kernel
theorem dX8_fouled_47 : decode cX8_fouled 47 = .ok (.ireturn, 1) := by decide +kernel
theorem dX8_listen_0 : decode cX8_listen 0 = .ok (.iload_n 1, 1) := by decide +kernel
theorem dX8_listen_1 : decode cX8_listen 1 = .ok (.iconst 1, 1) := by decide +kernel
theorem dX8_listen_2 : decode cX8_listen 2 = .ok (.invokestatic 241, 3) := by decide +kernel
theorem dX8_listen_5 : decode cX8_listen 5 = .ok (.aload_n 0, 1) := by decide +kernel
theorem dX8_listen_6 : decode cX8_listen 6 = .ok (.getfield 87, 3) := by decide +kernel
theorem dX8_listen_9 : decode cX8_listen 9 = .ok (.iload_n 1, 1) := by decide +kernel
theorem dX8_listen_10 : decode cX8_listen 10 = .ok (.iconst 1, 1) := by decide +kernel
theorem dX8_listen_11 : decode cX8_listen 11 = .ok (.if_icmp .ne 7, 3) := by decide +kernel
theorem dX8_listen_14 : decode cX8_listen 14 = .ok (.iconst 1, 1) := by decide +kernel
theorem dX8_listen_15 : decode cX8_listen 15 = .ok (.goto 4, 3) := by decide +kernel
theorem dX8_listen_18 : decode cX8_listen 18 = .ok (.iconst 0, 1) := by decide +kernel
theorem dX8_listen_19 : decode cX8_listen 19 = .ok (.invokevirtual 313, 3) := by decide +kernel
theorem dX8_listen_22 : decode cX8_listen 22 = .ok (.ireturn, 1) := by decide +kernel
theorem dX8_forget_0 : decode cX8_forget 0 = .ok (.aload_n 0, 1) := by decide +kernel
theorem dX8_forget_1 : decode cX8_forget 1 = .ok (.getfield 42, 3) := by decide +kernel
theorem dX8_forget_4 : decode cX8_forget 4 = .ok (.iconst 0, 1) := by decide +kernel
theorem dX8_forget_5 : decode cX8_forget 5 = .ok (.putfield 155, 3) := by decide +kernel
theorem dX8_forget_8 : decode cX8_forget 8 = .ok (.return_, 1) := by decide +kernel
theorem dX8_game_0 : decode cX8_game 0 = .ok (.aload_n 0, 1) := by decide +kernel
theorem dX8_game_1 : decode cX8_game 1 = .ok (.iload_n 1, 1) := by decide +kernel
theorem dX8_game_2 : decode cX8_game 2 = .ok (.invokevirtual 177, 3) := by decide +kernel
theorem dX8_game_5 : decode cX8_game 5 = .ok (.aload_n 0, 1) := by decide +kernel
theorem dX8_game_6 : decode cX8_game 6 = .ok (.iload_n 2, 1) := by decide +kernel
theorem dX8_game_7 : decode cX8_game 7 = .ok (.invokevirtual 177, 3) := by decide +kernel
theorem dX8_game_10 : decode cX8_game 10 = .ok (.iload_n 3, 1) := by decide +kernel
theorem dX8_game_11 : decode cX8_game 11 = .ok (.iconst 1, 1) := by decide +kernel
theorem dX8_game_12 : decode cX8_game 12 = .ok (.invokestatic 241, 3) := by decide +kernel
theorem dX8_game_15 : decode cX8_game 15 = .ok (.iload_n 1, 1) := by decide +kernel
theorem dX8_game_16 : decode cX8_game 16 = .ok (.iload_n 2, 1) := by decide +kernel
theorem dX8_game_17 : decode cX8_game 17 = .ok (.if_icmp .eq 31, 3) := by decide +kernel
theorem dX8_game_20 : decode cX8_game 20 = .ok (.aload_n 0, 1) := by decide +kernel
theorem dX8_game_21 : decode cX8_game 21 = .ok (.getfield 42, 3) := by decide +kernel
theorem dX8_game_24 : decode cX8_game 24 = .ok (.getfield 64, 3) := by decide +kernel
theorem dX8_game_27 : decode cX8_game 27 = .ok (.iload_n 1, 1) := by decide +kernel
theorem dX8_game_28 : decode cX8_game 28 = .ok (.invokevirtual 194, 3) := by decide +kernel
theorem dX8_game_31 : decode cX8_game 31 = .ok (.ifCond .ne 17, 3) := by decide +kernel
theorem dX8_game_34 : decode cX8_game 34 = .ok (.aload_n 0, 1) := by decide +kernel
theorem dX8_game_35 : decode cX8_game 35 = .ok (.getfield 42, 3) := by decide +kernel
theorem dX8_game_38 : decode cX8_game 38 = .ok (.getfield 64, 3) := by decide +kernel
theorem dX8_game_41 : decode cX8_game 41 = .ok (.iload_n 2, 1) := by decide +kernel
theorem dX8_game_42 : decode cX8_game 42 = .ok (.invokevirtual 194, 3) := by decide +kernel
theorem dX8_game_45 : decode cX8_game 45 = .ok (.ifCond .eq 14, 3) := by decide +kernel
theorem dX8_game_48 : decode cX8_game 48 = .ok (.new 98, 3) := by decide +kernel
theorem dX8_game_51 : decode cX8_game 51 = .ok (.dup, 1) := by decide +kernel
theorem dX8_game_52 : decode cX8_game 52 = .ok (.ldc_w 317, 3) := by decide +kernel
theorem dX8_game_55 : decode cX8_game 55 = .ok (.invokespecial 102, 3) := by decide +kernel
theorem dX8_game_58 : decode cX8_game 58 = .ok (.athrow, 1) := by decide +kernel
theorem dX8_game_59 : decode cX8_game 59 = .ok (.aload_n 0, 1) := by decide +kernel
theorem dX8_game_60 : decode cX8_game 60 = .ok (.getfield 58, 3) := by decide +kernel
theorem dX8_game_63 : decode cX8_game 63 = .ok (.aload_n 0, 1) := by decide +kernel
theorem dX8_game_64 : decode cX8_game 64 = .ok (.getfield 42, 3) := by decide +kernel
theorem dX8_game_67 : decode cX8_game 67 = .ok (.getfield 64, 3) := by decide +kernel
theorem dX8_game_70 : decode cX8_game 70 = .ok (.invokevirtual 319, 3) := by decide +kernel
theorem dX8_game_73 : decode cX8_game 73 = .ok (.istore 4, 2) := by decide +kernel
theorem dX8_game_75 : decode cX8_game 75 = .ok (.iload 4, 2) := by decide +kernel
theorem dX8_game_77 : decode cX8_game 77 = .ok (.iconst (-1), 1) := by decide +kernel
theorem dX8_game_78 : decode cX8_game 78 = .ok (.if_icmp .ne 14, 3) := by decide +kernel
theorem dX8_game_81 : decode cX8_game 81 = .ok (.new 98, 3) := by decide +kernel
theorem dX8_game_84 : decode cX8_game 84 = .ok (.dup, 1) := by decide +kernel
theorem dX8_game_85 : decode cX8_game 85 = .ok (.ldc_w 323, 3) := by decide +kernel
theorem dX8_game_88 : decode cX8_game 88 = .ok (.invokespecial 102, 3) := by decide +kernel
theorem dX8_game_91 : decode cX8_game 91 = .ok (.athrow, 1) := by decide +kernel
theorem dX8_game_92 : decode cX8_game 92 = .ok (.aload_n 0, 1) := by decide +kernel
theorem dX8_game_93 : decode cX8_game 93 = .ok (.getfield 71, 3) := by decide +kernel
theorem dX8_game_96 : decode cX8_game 96 = .ok (.iload_n 1, 1) := by decide +kernel
theorem dX8_game_97 : decode cX8_game 97 = .ok (.iload_n 2, 1) := by decide +kernel
theorem dX8_game_98 : decode cX8_game 98 = .ok (.iload 4, 2) := by decide +kernel
theorem dX8_game_100 : decode cX8_game 100 = .ok (.iload_n 3, 1) := by decide +kernel
theorem dX8_game_101 : decode cX8_game 101 = .ok (.iconst 1, 1) := by decide +kernel
theorem dX8_game_102 : decode cX8_game 102 = .ok (.if_icmp .ne 7, 3) := by decide +kernel
theorem dX8_game_105 : decode cX8_game 105 = .ok (.iconst 1, 1) := by decide +kernel
theorem dX8_game_106 : decode cX8_game 106 = .ok (.goto 4, 3) := by decide +kernel
theorem dX8_game_109 : decode cX8_game 109 = .ok (.iconst 0, 1) := by decide +kernel
theorem dX8_game_110 : decode cX8_game 110 = .ok (.invokevirtual 325, 3) := by decide +kernel
theorem dX8_game_113 : decode cX8_game 113 = .ok (.ireturn, 1) := by decide +kernel
theorem dX8_years_0 : decode cX8_years 0 = .ok (.iload_n 3, 1) := by decide +kernel
theorem dX8_years_1 : decode cX8_years 1 = .ok (.iconst 2, 1) := by decide +kernel
theorem dX8_years_2 : decode cX8_years 2 = .ok (.invokestatic 241, 3) := by decide +kernel
theorem dX8_years_5 : decode cX8_years 5 = .ok (.iload_n 2, 1) := by decide +kernel
theorem dX8_years_6 : decode cX8_years 6 = .ok (.iconst 0, 1) := by decide +kernel
theorem dX8_years_7 : decode cX8_years 7 = .ok (.bipush 96, 2) := by decide +kernel
theorem dX8_years_9 : decode cX8_years 9 = .ok (.invokestatic 231, 3) := by decide +kernel
theorem dX8_years_12 : decode cX8_years 12 = .ok (.aload_n 0, 1) := by decide +kernel
theorem dX8_years_13 : decode cX8_years 13 = .ok (.getfield 78, 3) := by decide +kernel
theorem dX8_years_16 : decode cX8_years 16 = .ok (.iload_n 1, 1) := by decide +kernel
theorem dX8_years_17 : decode cX8_years 17 = .ok (.iload_n 2, 1) := by decide +kernel
theorem dX8_years_18 : decode cX8_years 18 = .ok (.invokevirtual 329, 3) := by decide +kernel
theorem dX8_years_21 : decode cX8_years 21 = .ok (.istore 4, 2) := by decide +kernel
theorem dX8_years_23 : decode cX8_years 23 = .ok (.iload_n 3, 1) := by decide +kernel
theorem dX8_years_24 : decode cX8_years 24 = .ok (.iconst 2, 1) := by decide +kernel
theorem dX8_years_25 : decode cX8_years 25 = .ok (.if_icmp .ne 6, 3) := by decide +kernel
theorem dX8_years_28 : decode cX8_years 28 = .ok (.iload 4, 2) := by decide +kernel
theorem dX8_years_30 : decode cX8_years 30 = .ok (.ireturn, 1) := by decide +kernel
theorem dX8_years_31 : decode cX8_years 31 = .ok (.aload_n 0, 1) := by decide +kernel
theorem dX8_years_32 : decode cX8_years 32 = .ok (.getfield 78, 3) := by decide +kernel
theorem dX8_years_35 : decode cX8_years 35 = .ok (.invokevirtual 264, 3) := by decide +kernel
theorem dX8_years_38 : decode cX8_years 38 = .ok (.astore 5, 2) := by decide +kernel
theorem dX8_years_40 : decode cX8_years 40 = .ok (.iload_n 3, 1) := by decide +kernel
theorem dX8_years_41 : decode cX8_years 41 = .ok (.ifCond .ne 11, 3) := by decide +kernel
theorem dX8_years_44 : decode cX8_years 44 = .ok (.aload 5, 2) := by decide +kernel
theorem dX8_years_46 : decode cX8_years 46 = .ok (.invokevirtual 332, 3) := by decide +kernel
theorem dX8_years_49 : decode cX8_years 49 = .ok (.goto 8, 3) := by decide +kernel
theorem dX8_years_52 : decode cX8_years 52 = .ok (.aload 5, 2) := by decide +kernel
theorem dX8_years_54 : decode cX8_years 54 = .ok (.getfield 143, 3) := by decide +kernel
theorem dX8_years_57 : decode cX8_years 57 = .ok (.ireturn, 1) := by decide +kernel
theorem dX8_image_0 : decode cX8_image 0 = .ok (.aload_n 0, 1) := by decide +kernel
theorem dX8_image_1 : decode cX8_image 1 = .ok (.getfield 46, 3) := by decide +kernel
theorem dX8_image_4 : decode cX8_image 4 = .ok (.aload_n 0, 1) := by decide +kernel
theorem dX8_image_5 : decode cX8_image 5 = .ok (.getfield 42, 3) := by decide +kernel
theorem dX8_image_8 : decode cX8_image 8 = .ok (.invokevirtual 335, 3) := by decide +kernel
theorem dX8_image_11 : decode cX8_image 11 = .ok (.aload_n 0, 1) := by decide +kernel
theorem dX8_image_12 : decode cX8_image 12 = .ok (.iconst 1, 1) := by decide +kernel
theorem dX8_image_13 : decode cX8_image 13 = .ok (.putfield 49, 3) := by decide +kernel
theorem dX8_image_16 : decode cX8_image 16 = .ok (.return_, 1) := by decide +kernel
theorem dX8_restore_0 : decode cX8_restore 0 = .ok (.aload_n 0, 1) := by decide +kernel
theorem dX8_restore_1 : decode cX8_restore 1 = .ok (.getfield 49, 3) := by decide +kernel
theorem dX8_restore_4 : decode cX8_restore 4 = .ok (.ifCond .ne 5, 3) := by decide +kernel
theorem dX8_restore_7 : decode cX8_restore 7 = .ok (.iconst 0, 1) := by decide +kernel
theorem dX8_restore_8 : decode cX8_restore 8 = .ok (.ireturn, 1) := by decide +kernel
theorem dX8_restore_9 : decode cX8_restore 9 = .ok (.aload_n 0, 1) := by decide +kernel
theorem dX8_restore_10 : decode cX8_restore 10 = .ok (.getfield 42, 3) := by decide +kernel
theorem dX8_restore_13 : decode cX8_restore 13 = .ok (.aload_n 0, 1) := by decide +kernel
theorem dX8_restore_14 : decode cX8_restore 14 = .ok (.getfield 46, 3) := by decide +kernel
theorem dX8_restore_17 : decode cX8_restore 17 = .ok (.invokevirtual 335, 3) := by decide +kernel
theorem dX8_restore_20 : decode cX8_restore 20 = .ok (.iconst 1, 1) := by decide +kernel
theorem dX8_restore_21 : decode cX8_restore 21 = .ok (.ireturn, 1) := by decide +kernel
theorem dX8_putOnTape_0 : decode cX8_putOnTape 0 = .ok (.bipush 24, 2) := by decide +kernel
theorem dX8_putOnTape_2 : decode cX8_putOnTape 2 = .ok (.istore_n 2, 1) := by decide +kernel
theorem dX8_putOnTape_3 : decode cX8_putOnTape 3 = .ok (.iload_n 2, 1) := by decide +kernel
theorem dX8_putOnTape_4 : decode cX8_putOnTape 4 = .ok (.ifCond .lt 51, 3) := by decide +kernel
theorem dX8_putOnTape_7 : decode cX8_putOnTape 7 = .ok (.aload_n 0, 1) := by decide +kernel
theorem dX8_putOnTape_8 : decode cX8_putOnTape 8 = .ok (.getfield 13, 3) := by decide +kernel
theorem dX8_putOnTape_11 : decode cX8_putOnTape 11 = .ok (.ifCond .lt 38, 3) := by decide +kernel
theorem dX8_putOnTape_14 : decode cX8_putOnTape 14 = .ok (.aload_n 0, 1) := by decide +kernel
theorem dX8_putOnTape_15 : decode cX8_putOnTape 15 = .ok (.getfield 13, 3) := by decide +kernel
theorem dX8_putOnTape_18 : decode cX8_putOnTape 18 = .ok (.aload_n 0, 1) := by decide +kernel
theorem dX8_putOnTape_19 : decode cX8_putOnTape 19 = .ok (.getfield 9, 3) := by decide +kernel
theorem dX8_putOnTape_22 : decode cX8_putOnTape 22 = .ok (.arraylength, 1) := by decide +kernel
theorem dX8_putOnTape_23 : decode cX8_putOnTape 23 = .ok (.if_icmp .ge 26, 3) := by decide +kernel
theorem dX8_putOnTape_26 : decode cX8_putOnTape 26 = .ok (.aload_n 0, 1) := by decide +kernel
theorem dX8_putOnTape_27 : decode cX8_putOnTape 27 = .ok (.getfield 9, 3) := by decide +kernel
theorem dX8_putOnTape_30 : decode cX8_putOnTape 30 = .ok (.aload_n 0, 1) := by decide +kernel
theorem dX8_putOnTape_31 : decode cX8_putOnTape 31 = .ok (.getfield 13, 3) := by decide +kernel
theorem dX8_putOnTape_34 : decode cX8_putOnTape 34 = .ok (.iload_n 1, 1) := by decide +kernel
theorem dX8_putOnTape_35 : decode cX8_putOnTape 35 = .ok (.iload_n 2, 1) := by decide +kernel
theorem dX8_putOnTape_36 : decode cX8_putOnTape 36 = .ok (.ishr, 1) := by decide +kernel
theorem dX8_putOnTape_37 : decode cX8_putOnTape 37 = .ok (.i2b, 1) := by decide +kernel
theorem dX8_putOnTape_38 : decode cX8_putOnTape 38 = .ok (.bastore, 1) := by decide +kernel
theorem dX8_putOnTape_39 : decode cX8_putOnTape 39 = .ok (.aload_n 0, 1) := by decide +kernel
theorem dX8_putOnTape_40 : decode cX8_putOnTape 40 = .ok (.dup, 1) := by decide +kernel
theorem dX8_putOnTape_41 : decode cX8_putOnTape 41 = .ok (.getfield 13, 3) := by decide +kernel
theorem dX8_putOnTape_44 : decode cX8_putOnTape 44 = .ok (.iconst 1, 1) := by decide +kernel
theorem dX8_putOnTape_45 : decode cX8_putOnTape 45 = .ok (.iadd, 1) := by decide +kernel
theorem dX8_putOnTape_46 : decode cX8_putOnTape 46 = .ok (.putfield 13, 3) := by decide +kernel
theorem dX8_putOnTape_49 : decode cX8_putOnTape 49 = .ok (.iinc 2 (-8), 3) := by decide +kernel
theorem dX8_putOnTape_52 : decode cX8_putOnTape 52 = .ok (.goto (-49), 3) := by decide +kernel
theorem dX8_putOnTape_55 : decode cX8_putOnTape 55 = .ok (.return_, 1) := by decide +kernel
theorem dX8_refuseAct_0 : decode cX8_refuseAct 0 = .ok (.aload_n 0, 1) := by decide +kernel
theorem dX8_refuseAct_1 : decode cX8_refuseAct 1 = .ok (.getfield 42, 3) := by decide +kernel
theorem dX8_refuseAct_4 : decode cX8_refuseAct 4 = .ok (.getfield 113, 3) := by decide +kernel
theorem dX8_refuseAct_7 : decode cX8_refuseAct 7 = .ok (.iconst 1, 1) := by decide +kernel
theorem dX8_refuseAct_8 : decode cX8_refuseAct 8 = .ok (.dup2, 1) := by decide +kernel
theorem dX8_refuseAct_9 : decode cX8_refuseAct 9 = .ok (.iaload, 1) := by decide +kernel
theorem dX8_refuseAct_10 : decode cX8_refuseAct 10 = .ok (.iconst 1, 1) := by decide +kernel
theorem dX8_refuseAct_11 : decode cX8_refuseAct 11 = .ok (.iadd, 1) := by decide +kernel
theorem dX8_refuseAct_12 : decode cX8_refuseAct 12 = .ok (.iastore, 1) := by decide +kernel
theorem dX8_refuseAct_13 : decode cX8_refuseAct 13 = .ok (.iload_n 1, 1) := by decide +kernel
theorem dX8_refuseAct_14 : decode cX8_refuseAct 14 = .ok (.ireturn, 1) := by decide +kernel
theorem dX8_checkAlderman_0 : decode cX8_checkAlderman 0 = .ok (.iload_n 1, 1) := by decide +kernel
theorem dX8_checkAlderman_1 : decode cX8_checkAlderman 1 = .ok (.ifCond .lt 14, 3) := by decide +kernel
theorem dX8_checkAlderman_4 : decode cX8_checkAlderman 4 = .ok (.iload_n 1, 1) := by decide +kernel
theorem dX8_checkAlderman_5 : decode cX8_checkAlderman 5 = .ok (.aload_n 0, 1) := by decide +kernel
theorem dX8_checkAlderman_6 : decode cX8_checkAlderman 6 = .ok (.getfield 23, 3) := by decide +kernel
theorem dX8_checkAlderman_9 : decode cX8_checkAlderman 9 = .ok (.getfield 120, 3) := by decide +kernel
theorem dX8_checkAlderman_12 : decode cX8_checkAlderman 12 = .ok (.if_icmp .lt 14, 3) := by decide +kernel
theorem dX8_checkAlderman_15 : decode cX8_checkAlderman 15 = .ok (.new 158, 3) := by decide +kernel
theorem dX8_checkAlderman_18 : decode cX8_checkAlderman 18 = .ok (.dup, 1) := by decide +kernel
theorem dX8_checkAlderman_19 : decode cX8_checkAlderman 19 = .ok (.ldc_w 338, 3) := by decide +kernel
theorem dX8_checkAlderman_22 : decode cX8_checkAlderman 22 = .ok (.invokespecial 162, 3) := by decide +kernel
theorem dX8_checkAlderman_25 : decode cX8_checkAlderman 25 = .ok (.athrow, 1) := by decide +kernel
theorem dX8_checkAlderman_26 : decode cX8_checkAlderman 26 = .ok (.return_, 1) := by decide +kernel
theorem dX8_checkMotion_0 : decode cX8_checkMotion 0 = .ok (.iload_n 1, 1) := by decide +kernel
theorem dX8_checkMotion_1 : decode cX8_checkMotion 1 = .ok (.ifCond .lt 14, 3) := by decide +kernel
theorem dX8_checkMotion_4 : decode cX8_checkMotion 4 = .ok (.iload_n 1, 1) := by decide +kernel
theorem dX8_checkMotion_5 : decode cX8_checkMotion 5 = .ok (.aload_n 0, 1) := by decide +kernel
theorem dX8_checkMotion_6 : decode cX8_checkMotion 6 = .ok (.getfield 23, 3) := by decide +kernel
theorem dX8_checkMotion_9 : decode cX8_checkMotion 9 = .ok (.getfield 123, 3) := by decide +kernel
theorem dX8_checkMotion_12 : decode cX8_checkMotion 12 = .ok (.if_icmp .lt 14, 3) := by decide +kernel
theorem dX8_checkMotion_15 : decode cX8_checkMotion 15 = .ok (.new 158, 3) := by decide +kernel
theorem dX8_checkMotion_18 : decode cX8_checkMotion 18 = .ok (.dup, 1) := by decide +kernel
theorem dX8_checkMotion_19 : decode cX8_checkMotion 19 = .ok (.ldc_w 340, 3) := by decide +kernel
theorem dX8_checkMotion_22 : decode cX8_checkMotion 22 = .ok (.invokespecial 162, 3) := by decide +kernel
theorem dX8_checkMotion_25 : decode cX8_checkMotion 25 = .ok (.athrow, 1) := by decide +kernel
theorem dX8_checkMotion_26 : decode cX8_checkMotion 26 = .ok (.return_, 1) := by decide +kernel
theorem dX8_checkWhat_0 : decode cX8_checkWhat 0 = .ok (.iload_n 0, 1) := by decide +kernel
theorem dX8_checkWhat_1 : decode cX8_checkWhat 1 = .ok (.iconst 0, 1) := by decide +kernel
theorem dX8_checkWhat_2 : decode cX8_checkWhat 2 = .ok (.iload_n 1, 1) := by decide +kernel
theorem dX8_checkWhat_3 : decode cX8_checkWhat 3 = .ok (.invokestatic 208, 3) := by decide +kernel
theorem dX8_checkWhat_6 : decode cX8_checkWhat 6 = .ok (.ifCond .eq 14, 3) := by decide +kernel
theorem dX8_checkWhat_9 : decode cX8_checkWhat 9 = .ok (.new 158, 3) := by decide +kernel
theorem dX8_checkWhat_12 : decode cX8_checkWhat 12 = .ok (.dup, 1) := by decide +kernel
theorem dX8_checkWhat_13 : decode cX8_checkWhat 13 = .ok (.ldc_w 342, 3) := by decide +kernel
theorem dX8_checkWhat_16 : decode cX8_checkWhat 16 = .ok (.invokespecial 162, 3) := by decide +kernel
theorem dX8_checkWhat_19 : decode cX8_checkWhat 19 = .ok (.athrow, 1) := by decide +kernel
theorem dX8_checkWhat_20 : decode cX8_checkWhat 20 = .ok (.return_, 1) := by decide +kernel
theorem dX8_checkRange_0 : decode cX8_checkRange 0 = .ok (.iload_n 0, 1) := by decide +kernel
theorem dX8_checkRange_1 : decode cX8_checkRange 1 = .ok (.iload_n 1, 1) := by decide +kernel
theorem dX8_checkRange_2 : decode cX8_checkRange 2 = .ok (.iload_n 2, 1) := by decide +kernel
theorem dX8_checkRange_3 : decode cX8_checkRange 3 = .ok (.invokestatic 208, 3) := by decide +kernel
theorem dX8_checkRange_6 : decode cX8_checkRange 6 = .ok (.ifCond .eq 14, 3) := by decide +kernel
theorem dX8_checkRange_9 : decode cX8_checkRange 9 = .ok (.new 98, 3) := by decide +kernel
theorem dX8_checkRange_12 : decode cX8_checkRange 12 = .ok (.dup, 1) := by decide +kernel
theorem dX8_checkRange_13 : decode cX8_checkRange 13 = .ok (.ldc_w 344, 3) := by decide +kernel
theorem dX8_checkRange_16 : decode cX8_checkRange 16 = .ok (.invokespecial 102, 3) := by decide +kernel
theorem dX8_checkRange_19 : decode cX8_checkRange 19 = .ok (.athrow, 1) := by decide +kernel
theorem dX8_checkRange_20 : decode cX8_checkRange 20 = .ok (.return_, 1) := by decide +kernel
theorem dX8_isOutside_0 : decode cX8_isOutside 0 = .ok (.iload_n 0, 1) := by decide +kernel
theorem dX8_isOutside_1 : decode cX8_isOutside 1 = .ok (.iload_n 1, 1) := by decide +kernel
theorem dX8_isOutside_2 : decode cX8_isOutside 2 = .ok (.if_icmp .lt 8, 3) := by decide +kernel
theorem dX8_isOutside_5 : decode cX8_isOutside 5 = .ok (.iload_n 0, 1) := by decide +kernel
theorem dX8_isOutside_6 : decode cX8_isOutside 6 = .ok (.iload_n 2, 1) := by decide +kernel
theorem dX8_isOutside_7 : decode cX8_isOutside 7 = .ok (.if_icmp .le 7, 3) := by decide +kernel
theorem dX8_isOutside_10 : decode cX8_isOutside 10 = .ok (.iconst 1, 1) := by decide +kernel
theorem dX8_isOutside_11 : decode cX8_isOutside 11 = .ok (.goto 4, 3) := by decide +kernel
theorem dX8_isOutside_14 : decode cX8_isOutside 14 = .ok (.iconst 0, 1) := by decide +kernel
theorem dX8_isOutside_15 : decode cX8_isOutside 15 = .ok (.ireturn, 1) := by decide +kernel
theorem dX9_init_0 : decode cX9_init 0 = .ok (.aload_n 0, 1) := by decide +kernel
theorem dX9_init_1 : decode cX9_init 1 = .ok (.invokespecial 3, 3) := by decide +kernel
theorem dX9_init_4 : decode cX9_init 4 = .ok (.aload_n 0, 1) := by decide +kernel
theorem dX9_init_5 : decode cX9_init 5 = .ok (.iconst 3, 1) := by decide +kernel
theorem dX9_init_6 : decode cX9_init 6 = .ok (.anewarray 9, 3) := by decide +kernel
theorem dX9_init_9 : decode cX9_init 9 = .ok (.dup, 1) := by decide +kernel
theorem dX9_init_10 : decode cX9_init 10 = .ok (.iconst 0, 1) := by decide +kernel
theorem dX9_init_11 : decode cX9_init 11 = .ok (.ldc 11, 2) := by decide +kernel
theorem dX9_init_13 : decode cX9_init 13 = .ok (.aastore, 1) := by decide +kernel
theorem dX9_init_14 : decode cX9_init 14 = .ok (.dup, 1) := by decide +kernel
theorem dX9_init_15 : decode cX9_init 15 = .ok (.iconst 1, 1) := by decide +kernel
theorem dX9_init_16 : decode cX9_init 16 = .ok (.ldc 13, 2) := by decide +kernel
theorem dX9_init_18 : decode cX9_init 18 = .ok (.aastore, 1) := by decide +kernel
theorem dX9_init_19 : decode cX9_init 19 = .ok (.dup, 1) := by decide +kernel
theorem dX9_init_20 : decode cX9_init 20 = .ok (.iconst 2, 1) := by decide +kernel
theorem dX9_init_21 : decode cX9_init 21 = .ok (.ldc 15, 2) := by decide +kernel
theorem dX9_init_23 : decode cX9_init 23 = .ok (.aastore, 1) := by decide +kernel
theorem dX9_init_24 : decode cX9_init 24 = .ok (.putfield 17, 3) := by decide +kernel
theorem dX9_init_27 : decode cX9_init 27 = .ok (.aload_n 0, 1) := by decide +kernel
theorem dX9_init_28 : decode cX9_init 28 = .ok (.iconst 4, 1) := by decide +kernel
theorem dX9_init_29 : decode cX9_init 29 = .ok (.anewarray 9, 3) := by decide +kernel
theorem dX9_init_32 : decode cX9_init 32 = .ok (.dup, 1) := by decide +kernel
theorem dX9_init_33 : decode cX9_init 33 = .ok (.iconst 0, 1) := by decide +kernel
theorem dX9_init_34 : decode cX9_init 34 = .ok (.ldc 21, 2) := by decide +kernel
theorem dX9_init_36 : decode cX9_init 36 = .ok (.aastore, 1) := by decide +kernel
theorem dX9_init_37 : decode cX9_init 37 = .ok (.dup, 1) := by decide +kernel
theorem dX9_init_38 : decode cX9_init 38 = .ok (.iconst 1, 1) := by decide +kernel
theorem dX9_init_39 : decode cX9_init 39 = .ok (.ldc 23, 2) := by decide +kernel
theorem dX9_init_41 : decode cX9_init 41 = .ok (.aastore, 1) := by decide +kernel
theorem dX9_init_42 : decode cX9_init 42 = .ok (.dup, 1) := by decide +kernel
theorem dX9_init_43 : decode cX9_init 43 = .ok (.iconst 2, 1) := by decide +kernel
theorem dX9_init_44 : decode cX9_init 44 = .ok (.ldc 25, 2) := by decide +kernel
theorem dX9_init_46 : decode cX9_init 46 = .ok (.aastore, 1) := by decide +kernel
theorem dX9_init_47 : decode cX9_init 47 = .ok (.dup, 1) := by decide +kernel
theorem dX9_init_48 : decode cX9_init 48 = .ok (.iconst 3, 1) := by decide +kernel
theorem dX9_init_49 : decode cX9_init 49 = .ok (.ldc 27, 2) := by decide +kernel
theorem dX9_init_51 : decode cX9_init 51 = .ok (.aastore, 1) := by decide +kernel
theorem dX9_init_52 : decode cX9_init 52 = .ok (.putfield 29, 3) := by decide +kernel
theorem dX9_init_55 : decode cX9_init 55 = .ok (.aload_n 0, 1) := by decide +kernel
theorem dX9_init_56 : decode cX9_init 56 = .ok (.bipush 6, 2) := by decide +kernel
theorem dX9_init_58 : decode cX9_init 58 = .ok (.anewarray 9, 3) := by decide +kernel
theorem dX9_init_61 : decode cX9_init 61 = .ok (.dup, 1) := by decide +kernel
theorem dX9_init_62 : decode cX9_init 62 = .ok (.iconst 0, 1) := by decide +kernel
theorem dX9_init_63 : decode cX9_init 63 = .ok (.ldc 32, 2) := by decide +kernel
theorem dX9_init_65 : decode cX9_init 65 = .ok (.aastore, 1) := by decide +kernel
theorem dX9_init_66 : decode cX9_init 66 = .ok (.dup, 1) := by decide +kernel
theorem dX9_init_67 : decode cX9_init 67 = .ok (.iconst 1, 1) := by decide +kernel
theorem dX9_init_68 : decode cX9_init 68 = .ok (.ldc 34, 2) := by decide +kernel
theorem dX9_init_70 : decode cX9_init 70 = .ok (.aastore, 1) := by decide +kernel
theorem dX9_init_71 : decode cX9_init 71 = .ok (.dup, 1) := by decide +kernel
theorem dX9_init_72 : decode cX9_init 72 = .ok (.iconst 2, 1) := by decide +kernel
theorem dX9_init_73 : decode cX9_init 73 = .ok (.ldc 36, 2) := by decide +kernel
theorem dX9_init_75 : decode cX9_init 75 = .ok (.aastore, 1) := by decide +kernel
theorem dX9_init_76 : decode cX9_init 76 = .ok (.dup, 1) := by decide +kernel
theorem dX9_init_77 : decode cX9_init 77 = .ok (.iconst 3, 1) := by decide +kernel
theorem dX9_init_78 : decode cX9_init 78 = .ok (.ldc 38, 2) := by decide +kernel
theorem dX9_init_80 : decode cX9_init 80 = .ok (.aastore, 1) := by decide +kernel
theorem dX9_init_81 : decode cX9_init 81 = .ok (.dup, 1) := by decide +kernel
theorem dX9_init_82 : decode cX9_init 82 = .ok (.iconst 4, 1) := by decide +kernel
theorem dX9_init_83 : decode cX9_init 83 = .ok (.ldc 40, 2) := by decide +kernel
theorem dX9_init_85 : decode cX9_init 85 = .ok (.aastore, 1) := by decide +kernel
theorem dX9_init_86 : decode cX9_init 86 = .ok (.dup, 1) := by decide +kernel
theorem dX9_init_87 : decode cX9_init 87 = .ok (.iconst 5, 1) := by decide +kernel
theorem dX9_init_88 : decode cX9_init 88 = .ok (.ldc 42, 2) := by decide +kernel
theorem dX9_init_90 : decode cX9_init 90 = .ok (.aastore, 1) := by decide +kernel
theorem dX9_init_91 : decode cX9_init 91 = .ok (.putfield 44, 3) := by decide +kernel
theorem dX9_init_94 : decode cX9_init 94 = .ok (.aload_n 0, 1) := by decide +kernel
theorem dX9_init_95 : decode cX9_init 95 = .ok (.aload_n 0, 1) := by decide +kernel
theorem dX9_init_96 : decode cX9_init 96 = .ok (.getfield 29, 3) := by decide +kernel
theorem dX9_init_99 : decode cX9_init 99 = .ok (.putfield 47, 3) := by decide +kernel
theorem dX9_init_102 : decode cX9_init 102 = .ok (.aload_n 0, 1) := by decide +kernel
theorem dX9_init_103 : decode cX9_init 103 = .ok (.bipush 14, 2) := by decide +kernel
theorem dX9_init_105 : decode cX9_init 105 = .ok (.newarray .int, 2) := by decide +kernel
theorem dX9_init_107 : decode cX9_init 107 = .ok (.putfield 50, 3) := by decide +kernel
theorem dX9_init_110 : decode cX9_init 110 = .ok (.aload_n 0, 1) := by decide +kernel
theorem dX9_init_111 : decode cX9_init 111 = .ok (.bipush 14, 2) := by decide +kernel
theorem dX9_init_113 : decode cX9_init 113 = .ok (.newarray .int, 2) := by decide +kernel
theorem dX9_init_115 : decode cX9_init 115 = .ok (.putfield 54, 3) := by decide +kernel
theorem dX9_init_118 : decode cX9_init 118 = .ok (.aload_n 0, 1) := by decide +kernel
theorem dX9_init_119 : decode cX9_init 119 = .ok (.bipush 14, 2) := by decide +kernel
theorem dX9_init_121 : decode cX9_init 121 = .ok (.newarray .int, 2) := by decide +kernel
theorem dX9_init_123 : decode cX9_init 123 = .ok (.putfield 57, 3) := by decide +kernel
theorem dX9_init_126 : decode cX9_init 126 = .ok (.aload_n 0, 1) := by decide +kernel
theorem dX9_init_127 : decode cX9_init 127 = .ok (.bipush 20, 2) := by decide +kernel
theorem dX9_init_129 : decode cX9_init 129 = .ok (.newarray .int, 2) := by decide +kernel
theorem dX9_init_131 : decode cX9_init 131 = .ok (.putfield 60, 3) := by decide +kernel
theorem dX9_init_134 : decode cX9_init 134 = .ok (.aload_n 0, 1) := by decide +kernel
theorem dX9_init_135 : decode cX9_init 135 = .ok (.bipush 20, 2) := by decide +kernel
theorem dX9_init_137 : decode cX9_init 137 = .ok (.newarray .int, 2) := by decide +kernel
theorem dX9_init_139 : decode cX9_init 139 = .ok (.putfield 62, 3) := by decide +kernel
theorem dX9_init_142 : decode cX9_init 142 = .ok (.aload_n 0, 1) := by decide +kernel
theorem dX9_init_143 : decode cX9_init 143 = .ok (.bipush 20, 2) := by decide +kernel
theorem dX9_init_145 : decode cX9_init 145 = .ok (.newarray .int, 2) := by decide +kernel
theorem dX9_init_147 : decode cX9_init 147 = .ok (.putfield 65, 3) := by decide +kernel
theorem dX9_init_150 : decode cX9_init 150 = .ok (.aload_n 0, 1) := by decide +kernel
theorem dX9_init_151 : decode cX9_init 151 = .ok (.bipush 20, 2) := by decide +kernel
theorem dX9_init_153 : decode cX9_init 153 = .ok (.newarray .int, 2) := by decide +kernel
theorem dX9_init_155 : decode cX9_init 155 = .ok (.putfield 67, 3) := by decide +kernel
theorem dX9_init_158 : decode cX9_init 158 = .ok (.aload_n 0, 1) := by decide +kernel
theorem dX9_init_159 : decode cX9_init 159 = .ok (.bipush 20, 2) := by decide +kernel
theorem dX9_init_161 : decode cX9_init 161 = .ok (.newarray .int, 2) := by decide +kernel
theorem dX9_init_163 : decode cX9_init 163 = .ok (.putfield 70, 3) := by decide +kernel
theorem dX9_init_166 : decode cX9_init 166 = .ok (.aload_n 0, 1) := by decide +kernel
theorem dX9_init_167 : decode cX9_init 167 = .ok (.sipush 1400, 3) := by decide +kernel
theorem dX9_init_170 : decode cX9_init 170 = .ok (.newarray .int, 2) := by decide +kernel
theorem dX9_init_172 : decode cX9_init 172 = .ok (.putfield 73, 3) := by decide +kernel
theorem dX9_init_175 : decode cX9_init 175 = .ok (.aload_n 0, 1) := by decide +kernel
theorem dX9_init_176 : decode cX9_init 176 = .ok (.sipush 1400, 3) := by decide +kernel
theorem dX9_init_179 : decode cX9_init 179 = .ok (.newarray .int, 2) := by decide +kernel
theorem dX9_init_181 : decode cX9_init 181 = .ok (.putfield 76, 3) := by decide +kernel
theorem dX9_init_184 : decode cX9_init 184 = .ok (.aload_n 0, 1) := by decide +kernel
theorem dX9_init_185 : decode cX9_init 185 = .ok (.iconst 3, 1) := by decide +kernel
theorem dX9_init_186 : decode cX9_init 186 = .ok (.newarray .int, 2) := by decide +kernel
theorem dX9_init_188 : decode cX9_init 188 = .ok (.putfield 79, 3) := by decide +kernel
theorem dX9_init_191 : decode cX9_init 191 = .ok (.aload_n 0, 1) := by decide +kernel
theorem dX9_init_192 : decode cX9_init 192 = .ok (.sipush 700, 3) := by decide +kernel
theorem dX9_init_195 : decode cX9_init 195 = .ok (.newarray .int, 2) := by decide +kernel
theorem dX9_init_197 : decode cX9_init 197 = .ok (.putfield 82, 3) := by decide +kernel
theorem dX9_init_200 : decode cX9_init 200 = .ok (.aload_n 0, 1) := by decide +kernel
theorem dX9_init_201 : decode cX9_init 201 = .ok (.iconst (-1), 1) := by decide +kernel
theorem dX9_init_202 : decode cX9_init 202 = .ok (.putfield 85, 3) := by decide +kernel
theorem dX9_init_205 : decode cX9_init 205 = .ok (.aload_n 0, 1) := by decide +kernel
theorem dX9_init_206 : decode cX9_init 206 = .ok (.bipush 7, 2) := by decide +kernel
theorem dX9_init_208 : decode cX9_init 208 = .ok (.newarray .int, 2) := by decide +kernel
theorem dX9_init_210 : decode cX9_init 210 = .ok (.putfield 89, 3) := by decide +kernel
theorem dX9_init_213 : decode cX9_init 213 = .ok (.aload_n 0, 1) := by decide +kernel
theorem dX9_init_214 : decode cX9_init 214 = .ok (.bipush 10, 2) := by decide +kernel
theorem dX9_init_216 : decode cX9_init 216 = .ok (.newarray .int, 2) := by decide +kernel
theorem dX9_init_218 : decode cX9_init 218 = .ok (.putfield 91, 3) := by decide +kernel
theorem dX9_init_221 : decode cX9_init 221 = .ok (.aload_n 0, 1) := by decide +kernel
theorem dX9_init_222 : decode cX9_init 222 = .ok (.sipush 960, 3) := by decide +kernel
theorem dX9_init_225 : decode cX9_init 225 = .ok (.newarray .int, 2) := by decide +kernel
theorem dX9_init_227 : decode cX9_init 227 = .ok (.putfield 94, 3) := by decide +kernel
theorem dX9_init_230 : decode cX9_init 230 = .ok (.aload_n 0, 1) := by decide +kernel
theorem dX9_init_231 : decode cX9_init 231 = .ok (.bipush 6, 2) := by decide +kernel
theorem dX9_init_233 : decode cX9_init 233 = .ok (.newarray .int, 2) := by decide +kernel
theorem dX9_init_235 : decode cX9_init 235 = .ok (.putfield 97, 3) := by decide +kernel
theorem dX9_init_238 : decode cX9_init 238 = .ok (.aload_n 0, 1) := by decide +kernel
theorem dX9_init_239 : decode cX9_init 239 = .ok (.bipush 64, 2) := by decide +kernel
theorem dX9_init_241 : decode cX9_init 241 = .ok (.newarray .int, 2) := by decide +kernel
theorem dX9_init_243 : decode cX9_init 243 = .ok (.putfield 100, 3) := by decide +kernel
theorem dX9_init_246 : decode cX9_init 246 = .ok (.aload_n 0, 1) := by decide +kernel
theorem dX9_init_247 : decode cX9_init 247 = .ok (.iconst (-1), 1) := by decide +kernel
theorem dX9_init_248 : decode cX9_init 248 = .ok (.putfield 103, 3) := by decide +kernel
theorem dX9_init_251 : decode cX9_init 251 = .ok (.aload_n 0, 1) := by decide +kernel
theorem dX9_init_252 : decode cX9_init 252 = .ok (.bipush 24, 2) := by decide +kernel
theorem dX9_init_254 : decode cX9_init 254 = .ok (.newarray .int, 2) := by decide +kernel
theorem dX9_init_256 : decode cX9_init 256 = .ok (.putfield 106, 3) := by decide +kernel
theorem dX9_init_259 : decode cX9_init 259 = .ok (.aload_n 0, 1) := by decide +kernel
theorem dX9_init_260 : decode cX9_init 260 = .ok (.bipush 7, 2) := by decide +kernel
theorem dX9_init_262 : decode cX9_init 262 = .ok (.newarray .int, 2) := by decide +kernel
theorem dX9_init_264 : decode cX9_init 264 = .ok (.putfield 109, 3) := by decide +kernel
theorem dX9_init_267 : decode cX9_init 267 = .ok (.aload_n 0, 1) := by decide +kernel
theorem dX9_init_268 : decode cX9_init 268 = .ok (.bipush 25, 2) := by decide +kernel
theorem dX9_init_270 : decode cX9_init 270 = .ok (.newarray .int, 2) := by decide +kernel
theorem dX9_init_272 : decode cX9_init 272 = .ok (.putfield 112, 3) := by decide +kernel
theorem dX9_init_275 : decode cX9_init 275 = .ok (.aload_n 0, 1) := by decide +kernel
theorem dX9_init_276 : decode cX9_init 276 = .ok (.bipush 8, 2) := by decide +kernel
theorem dX9_init_278 : decode cX9_init 278 = .ok (.newarray .int, 2) := by decide +kernel
theorem dX9_init_280 : decode cX9_init 280 = .ok (.putfield 115, 3) := by decide +kernel
theorem dX9_init_283 : decode cX9_init 283 = .ok (.aload_n 0, 1) := by decide +kernel
theorem dX9_init_284 : decode cX9_init 284 = .ok (.bipush 8, 2) := by decide +kernel
theorem dX9_init_286 : decode cX9_init 286 = .ok (.newarray .int, 2) := by decide +kernel
theorem dX9_init_288 : decode cX9_init 288 = .ok (.putfield 118, 3) := by decide +kernel
theorem dX9_init_291 : decode cX9_init 291 = .ok (.aload_n 0, 1) := by decide +kernel
theorem dX9_init_292 : decode cX9_init 292 = .ok (.bipush 24, 2) := by decide +kernel
theorem dX9_init_294 : decode cX9_init 294 = .ok (.newarray .int, 2) := by decide +kernel
theorem dX9_init_296 : decode cX9_init 296 = .ok (.putfield 121, 3) := by decide +kernel
theorem dX9_init_299 : decode cX9_init 299 = .ok (.aload_n 0, 1) := by decide +kernel
theorem dX9_init_300 : decode cX9_init 300 = .ok (.bipush 100, 2) := by decide +kernel
theorem dX9_init_302 : decode cX9_init 302 = .ok (.newarray .int, 2) := by decide +kernel
theorem dX9_init_304 : decode cX9_init 304 = .ok (.putfield 124, 3) := by decide +kernel
theorem dX9_init_307 : decode cX9_init 307 = .ok (.aload_n 0, 1) := by decide +kernel
theorem dX9_init_308 : decode cX9_init 308 = .ok (.sipush 4800, 3) := by decide +kernel
theorem dX9_init_311 : decode cX9_init 311 = .ok (.newarray .int, 2) := by decide +kernel
theorem dX9_init_313 : decode cX9_init 313 = .ok (.putfield 127, 3) := by decide +kernel
theorem dX9_init_316 : decode cX9_init 316 = .ok (.aload_n 0, 1) := by decide +kernel
theorem dX9_init_317 : decode cX9_init 317 = .ok (.bipush 24, 2) := by decide +kernel
theorem dX9_init_319 : decode cX9_init 319 = .ok (.newarray .int, 2) := by decide +kernel
theorem dX9_init_321 : decode cX9_init 321 = .ok (.putfield 130, 3) := by decide +kernel
theorem dX9_init_324 : decode cX9_init 324 = .ok (.aload_n 0, 1) := by decide +kernel
theorem dX9_init_325 : decode cX9_init 325 = .ok (.sipush 960, 3) := by decide +kernel
theorem dX9_init_328 : decode cX9_init 328 = .ok (.newarray .int, 2) := by decide +kernel
theorem dX9_init_330 : decode cX9_init 330 = .ok (.putfield 133, 3) := by decide +kernel
theorem dX9_init_333 : decode cX9_init 333 = .ok (.aload_n 0, 1) := by decide +kernel
theorem dX9_init_334 : decode cX9_init 334 = .ok (.bipush 8, 2) := by decide +kernel
theorem dX9_init_336 : decode cX9_init 336 = .ok (.newarray .int, 2) := by decide +kernel
theorem dX9_init_338 : decode cX9_init 338 = .ok (.putfield 136, 3) := by decide +kernel
theorem dX9_init_341 : decode cX9_init 341 = .ok (.aload_n 0, 1) := by decide +kernel
theorem dX9_init_342 : decode cX9_init 342 = .ok (.bipush 8, 2) := by decide +kernel
theorem dX9_init_344 : decode cX9_init 344 = .ok (.newarray .int, 2) := by decide +kernel
theorem dX9_init_346 : decode cX9_init 346 = .ok (.putfield 139, 3) := by decide +kernel
theorem dX9_init_349 : decode cX9_init 349 = .ok (.aload_n 0, 1) := by decide +kernel
theorem dX9_init_350 : decode cX9_init 350 = .ok (.iconst 3, 1) := by decide +kernel
theorem dX9_init_351 : decode cX9_init 351 = .ok (.newarray .int, 2) := by decide +kernel
theorem dX9_init_353 : decode cX9_init 353 = .ok (.putfield 142, 3) := by decide +kernel
theorem dX9_init_356 : decode cX9_init 356 = .ok (.aload_n 0, 1) := by decide +kernel
theorem dX9_init_357 : decode cX9_init 357 = .ok (.getfield 50, 3) := by decide +kernel
theorem dX9_init_360 : decode cX9_init 360 = .ok (.iconst 0, 1) := by decide +kernel
theorem dX9_init_361 : decode cX9_init 361 = .ok (.bipush 20, 2) := by decide +kernel
theorem dX9_init_363 : decode cX9_init 363 = .ok (.iastore, 1) := by decide +kernel
theorem dX9_init_364 : decode cX9_init 364 = .ok (.aload_n 0, 1) := by decide +kernel
theorem dX9_init_365 : decode cX9_init 365 = .ok (.getfield 50, 3) := by decide +kernel
theorem dX9_init_368 : decode cX9_init 368 = .ok (.iconst 1, 1) := by decide +kernel
theorem dX9_init_369 : decode cX9_init 369 = .ok (.bipush 24, 2) := by decide +kernel
theorem dX9_init_371 : decode cX9_init 371 = .ok (.iastore, 1) := by decide +kernel
theorem dX9_init_372 : decode cX9_init 372 = .ok (.aload_n 0, 1) := by decide +kernel
theorem dX9_init_373 : decode cX9_init 373 = .ok (.getfield 50, 3) := by decide +kernel
theorem dX9_init_376 : decode cX9_init 376 = .ok (.iconst 2, 1) := by decide +kernel
theorem dX9_init_377 : decode cX9_init 377 = .ok (.bipush 100, 2) := by decide +kernel
theorem dX9_init_379 : decode cX9_init 379 = .ok (.iastore, 1) := by decide +kernel
theorem dX9_init_380 : decode cX9_init 380 = .ok (.aload_n 0, 1) := by decide +kernel
theorem dX9_init_381 : decode cX9_init 381 = .ok (.bipush 20, 2) := by decide +kernel
theorem dX9_init_383 : decode cX9_init 383 = .ok (.putfield 145, 3) := by decide +kernel
theorem dX9_init_386 : decode cX9_init 386 = .ok (.aload_n 0, 1) := by decide +kernel
theorem dX9_init_387 : decode cX9_init 387 = .ok (.bipush 24, 2) := by decide +kernel
theorem dX9_init_389 : decode cX9_init 389 = .ok (.putfield 147, 3) := by decide +kernel
theorem dX9_init_392 : decode cX9_init 392 = .ok (.aload_n 0, 1) := by decide +kernel
theorem dX9_init_393 : decode cX9_init 393 = .ok (.bipush 100, 2) := by decide +kernel
theorem dX9_init_395 : decode cX9_init 395 = .ok (.putfield 149, 3) := by decide +kernel
theorem dX9_init_398 : decode cX9_init 398 = .ok (.return_, 1) := by decide +kernel
theorem dX9_thrown_0 : decode cX9_thrown 0 = .ok (.aload_n 0, 1) := by decide +kernel
theorem dX9_thrown_1 : decode cX9_thrown 1 = .ok (.getfield 152, 3) := by decide +kernel
theorem dX9_thrown_4 : decode cX9_thrown 4 = .ok (.ireturn, 1) := by decide +kernel
theorem dX9_fail_0 : decode cX9_fail 0 = .ok (.aload_n 0, 1) := by decide +kernel
theorem dX9_fail_1 : decode cX9_fail 1 = .ok (.iload_n 1, 1) := by decide +kernel
theorem dX9_fail_2 : decode cX9_fail 2 = .ok (.putfield 152, 3) := by decide +kernel
theorem dX9_fail_5 : decode cX9_fail 5 = .ok (.iconst 0, 1) := by decide +kernel
theorem dX9_fail_6 : decode cX9_fail 6 = .ok (.ireturn, 1) := by decide +kernel
theorem dX9_isIn_0 : decode cX9_isIn 0 = .ok (.lload_n 0, 1) := by decide +kernel
theorem dX9_isIn_1 : decode cX9_isIn 1 = .ok (.lload_n 2, 1) := by decide +kernel
theorem dX9_isIn_2 : decode cX9_isIn 2 = .ok (.lcmp, 1) := by decide +kernel
theorem dX9_isIn_3 : decode cX9_isIn 3 = .ok (.ifCond .lt 14, 3) := by decide +kernel
theorem dX9_isIn_6 : decode cX9_isIn 6 = .ok (.lload_n 0, 1) := by decide +kernel
theorem dX9_isIn_7 : decode cX9_isIn 7 = .ok (.lload 4, 2) := by decide +kernel
theorem dX9_isIn_9 : decode cX9_isIn 9 = .ok (.lcmp, 1) := by decide +kernel
theorem dX9_isIn_10 : decode cX9_isIn 10 = .ok (.ifCond .gt 7, 3) := by decide +kernel
theorem dX9_isIn_13 : decode cX9_isIn 13 = .ok (.iconst 1, 1) := by decide +kernel
theorem dX9_isIn_14 : decode cX9_isIn 14 = .ok (.goto 4, 3) := by decide +kernel
theorem dX9_isIn_17 : decode cX9_isIn 17 = .ok (.iconst 0, 1) := by decide +kernel
theorem dX9_isIn_18 : decode cX9_isIn 18 = .ok (.ireturn, 1) := by decide +kernel
theorem dX9_isOf_0 : decode cX9_isOf 0 = .ok (.iload_n 0, 1) := by decide +kernel
theorem dX9_isOf_1 : decode cX9_isOf 1 = .ok (.iload_n 1, 1) := by decide +kernel
theorem dX9_isOf_2 : decode cX9_isOf 2 = .ok (.ishr, 1) := by decide +kernel
theorem dX9_isOf_3 : decode cX9_isOf 3 = .ok (.iconst 1, 1) := by decide +kernel
theorem dX9_isOf_4 : decode cX9_isOf 4 = .ok (.iand, 1) := by decide +kernel
theorem dX9_isOf_5 : decode cX9_isOf 5 = .ok (.iconst 1, 1) := by decide +kernel
theorem dX9_isOf_6 : decode cX9_isOf 6 = .ok (.if_icmp .ne 7, 3) := by decide +kernel
theorem dX9_isOf_9 : decode cX9_isOf 9 = .ok (.iconst 1, 1) := by decide +kernel
theorem dX9_isOf_10 : decode cX9_isOf 10 = .ok (.goto 4, 3) := by decide +kernel
theorem dX9_isOf_13 : decode cX9_isOf 13 = .ok (.iconst 0, 1) := by decide +kernel
theorem dX9_isOf_14 : decode cX9_isOf 14 = .ok (.ireturn, 1) := by decide +kernel
theorem dX9_bitsOf_0 : decode cX9_bitsOf 0 = .ok (.iconst 0, 1) := by decide +kernel
theorem dX9_bitsOf_1 : decode cX9_bitsOf 1 = .ok (.istore_n 1, 1) := by decide +kernel
theorem dX9_bitsOf_2 : decode cX9_bitsOf 2 = .ok (.iload_n 0, 1) := by decide +kernel
theorem dX9_bitsOf_3 : decode cX9_bitsOf 3 = .ok (.istore_n 2, 1) := by decide +kernel
theorem dX9_bitsOf_4 : decode cX9_bitsOf 4 = .ok (.iload_n 2, 1) := by decide +kernel
theorem dX9_bitsOf_5 : decode cX9_bitsOf 5 = .ok (.ifCond .eq 15, 3) := by decide +kernel
theorem dX9_bitsOf_8 : decode cX9_bitsOf 8 = .ok (.iinc 1 1, 3) := by decide +kernel
theorem dX9_bitsOf_11 : decode cX9_bitsOf 11 = .ok (.iload_n 2, 1) := by decide +kernel
theorem dX9_bitsOf_12 : decode cX9_bitsOf 12 = .ok (.iload_n 2, 1) := by decide +kernel
theorem dX9_bitsOf_13 : decode cX9_bitsOf 13 = .ok (.iconst 1, 1) := by decide +kernel
theorem dX9_bitsOf_14 : decode cX9_bitsOf 14 = .ok (.isub, 1) := by decide +kernel
theorem dX9_bitsOf_15 : decode cX9_bitsOf 15 = .ok (.iand, 1) := by decide +kernel
theorem dX9_bitsOf_16 : decode cX9_bitsOf 16 = .ok (.istore_n 2, 1) := by decide +kernel
theorem dX9_bitsOf_17 : decode cX9_bitsOf 17 = .ok (.goto (-13), 3) := by decide +kernel
theorem dX9_bitsOf_20 : decode cX9_bitsOf 20 = .ok (.iload_n 1, 1) := by decide +kernel
theorem dX9_bitsOf_21 : decode cX9_bitsOf 21 = .ok (.ireturn, 1) := by decide +kernel
theorem dX9_isAlderman_0 : decode cX9_isAlderman 0 = .ok (.iload_n 1, 1) := by decide +kernel
theorem dX9_isAlderman_1 : decode cX9_isAlderman 1 = .ok (.i2l, 1) := by decide +kernel
theorem dX9_isAlderman_2 : decode cX9_isAlderman 2 = .ok (.lconst 0, 1) := by decide +kernel
theorem dX9_isAlderman_3 : decode cX9_isAlderman 3 = .ok (.aload_n 0, 1) := by decide +kernel
theorem dX9_isAlderman_4 : decode cX9_isAlderman 4 = .ok (.getfield 50, 3) := by decide +kernel
theorem dX9_isAlderman_7 : decode cX9_isAlderman 7 = .ok (.iconst 3, 1) := by decide +kernel
theorem dX9_isAlderman_8 : decode cX9_isAlderman 8 = .ok (.iaload, 1) := by decide +kernel
theorem dX9_isAlderman_9 : decode cX9_isAlderman 9 = .ok (.iconst 1, 1) := by decide +kernel
theorem dX9_isAlderman_10 : decode cX9_isAlderman 10 = .ok (.isub, 1) := by decide +kernel
theorem dX9_isAlderman_11 : decode cX9_isAlderman 11 = .ok (.i2l, 1) := by decide +kernel
theorem dX9_isAlderman_12 : decode cX9_isAlderman 12 = .ok (.invokestatic 155, 3) := by decide +kernel
theorem dX9_isAlderman_15 : decode cX9_isAlderman 15 = .ok (.ireturn, 1) := by decide +kernel
theorem dX9_isMotion_0 : decode cX9_isMotion 0 = .ok (.iload_n 1, 1) := by decide +kernel
theorem dX9_isMotion_1 : decode cX9_isMotion 1 = .ok (.i2l, 1) := by decide +kernel
theorem dX9_isMotion_2 : decode cX9_isMotion 2 = .ok (.lconst 0, 1) := by decide +kernel
theorem dX9_isMotion_3 : decode cX9_isMotion 3 = .ok (.aload_n 0, 1) := by decide +kernel
theorem dX9_isMotion_4 : decode cX9_isMotion 4 = .ok (.getfield 50, 3) := by decide +kernel
theorem dX9_isMotion_7 : decode cX9_isMotion 7 = .ok (.iconst 4, 1) := by decide +kernel
theorem dX9_isMotion_8 : decode cX9_isMotion 8 = .ok (.iaload, 1) := by decide +kernel
theorem dX9_isMotion_9 : decode cX9_isMotion 9 = .ok (.iconst 1, 1) := by decide +kernel
theorem dX9_isMotion_10 : decode cX9_isMotion 10 = .ok (.isub, 1) := by decide +kernel
theorem dX9_isMotion_11 : decode cX9_isMotion 11 = .ok (.i2l, 1) := by decide +kernel
theorem dX9_isMotion_12 : decode cX9_isMotion 12 = .ok (.invokestatic 155, 3) := by decide +kernel
theorem dX9_isMotion_15 : decode cX9_isMotion 15 = .ok (.ireturn, 1) := by decide +kernel
theorem dX9_feed_0 : decode cX9_feed 0 = .ok (.aload_n 0, 1) := by decide +kernel
theorem dX9_feed_1 : decode cX9_feed 1 = .ok (.iconst 0, 1) := by decide +kernel
theorem dX9_feed_2 : decode cX9_feed 2 = .ok (.putfield 152, 3) := by decide +kernel
theorem dX9_feed_5 : decode cX9_feed 5 = .ok (.aload_n 0, 1) := by decide +kernel
theorem dX9_feed_6 : decode cX9_feed 6 = .ok (.getfield 159, 3) := by decide +kernel
theorem dX9_feed_9 : decode cX9_feed 9 = .ok (.bipush 20, 2) := by decide +kernel
theorem dX9_feed_11 : decode cX9_feed 11 = .ok (.iadd, 1) := by decide +kernel
theorem dX9_feed_12 : decode cX9_feed 12 = .ok (.sipush 700, 3) := by decide +kernel
theorem dX9_feed_15 : decode cX9_feed 15 = .ok (.if_icmp .le 5, 3) := by decide +kernel
theorem dX9_feed_18 : decode cX9_feed 18 = .ok (.iconst (-1), 1) := by decide +kernel
theorem dX9_feed_19 : decode cX9_feed 19 = .ok (.ireturn, 1) := by decide +kernel
theorem dX9_feed_20 : decode cX9_feed 20 = .ok (.iconst 0, 1) := by decide +kernel
theorem dX9_feed_21 : decode cX9_feed 21 = .ok (.istore 6, 2) := by decide +kernel
theorem dX9_feed_23 : decode cX9_feed 23 = .ok (.iload 6, 2) := by decide +kernel
theorem dX9_feed_25 : decode cX9_feed 25 = .ok (.bipush 20, 2) := by decide +kernel
theorem dX9_feed_27 : decode cX9_feed 27 = .ok (.if_icmp .ge 93, 3) := by decide +kernel
theorem dX9_feed_30 : decode cX9_feed 30 = .ok (.iload 6, 2) := by decide +kernel
theorem dX9_feed_32 : decode cX9_feed 32 = .ok (.iconst 4, 1) := by decide +kernel
theorem dX9_feed_33 : decode cX9_feed 33 = .ok (.if_icmp .ge 7, 3) := by decide +kernel
theorem dX9_feed_36 : decode cX9_feed 36 = .ok (.iload_n 1, 1) := by decide +kernel
theorem dX9_feed_37 : decode cX9_feed 37 = .ok (.goto 39, 3) := by decide +kernel
theorem dX9_feed_40 : decode cX9_feed 40 = .ok (.iload 6, 2) := by decide +kernel
theorem dX9_feed_42 : decode cX9_feed 42 = .ok (.bipush 8, 2) := by decide +kernel
theorem dX9_feed_44 : decode cX9_feed 44 = .ok (.if_icmp .ge 7, 3) := by decide +kernel
theorem dX9_feed_47 : decode cX9_feed 47 = .ok (.iload_n 2, 1) := by decide +kernel
theorem dX9_feed_48 : decode cX9_feed 48 = .ok (.goto 28, 3) := by decide +kernel
theorem dX9_feed_51 : decode cX9_feed 51 = .ok (.iload 6, 2) := by decide +kernel
theorem dX9_feed_53 : decode cX9_feed 53 = .ok (.bipush 12, 2) := by decide +kernel
theorem dX9_feed_55 : decode cX9_feed 55 = .ok (.if_icmp .ge 7, 3) := by decide +kernel
theorem dX9_feed_58 : decode cX9_feed 58 = .ok (.iload_n 3, 1) := by decide +kernel
theorem dX9_feed_59 : decode cX9_feed 59 = .ok (.goto 17, 3) := by decide +kernel
theorem dX9_feed_62 : decode cX9_feed 62 = .ok (.iload 6, 2) := by decide +kernel
theorem dX9_feed_64 : decode cX9_feed 64 = .ok (.bipush 16, 2) := by decide +kernel
theorem dX9_feed_66 : decode cX9_feed 66 = .ok (.if_icmp .ge 8, 3) := by decide +kernel
theorem dX9_feed_69 : decode cX9_feed 69 = .ok (.iload 4, 2) := by decide +kernel
theorem dX9_feed_71 : decode cX9_feed 71 = .ok (.goto 5, 3) := by decide +kernel
theorem dX9_feed_74 : decode cX9_feed 74 = .ok (.iload 5, 2) := by decide +kernel
theorem dX9_feed_76 : decode cX9_feed 76 = .ok (.istore 7, 2) := by decide +kernel
theorem dX9_feed_78 : decode cX9_feed 78 = .ok (.aload_n 0, 1) := by decide +kernel
theorem dX9_feed_79 : decode cX9_feed 79 = .ok (.getfield 82, 3) := by decide +kernel
theorem dX9_feed_82 : decode cX9_feed 82 = .ok (.aload_n 0, 1) := by decide +kernel
theorem dX9_feed_83 : decode cX9_feed 83 = .ok (.getfield 159, 3) := by decide +kernel
theorem dX9_feed_86 : decode cX9_feed 86 = .ok (.iload 7, 2) := by decide +kernel
theorem dX9_feed_88 : decode cX9_feed 88 = .ok (.bipush 24, 2) := by decide +kernel
theorem dX9_feed_90 : decode cX9_feed 90 = .ok (.bipush 8, 2) := by decide +kernel
theorem dX9_feed_92 : decode cX9_feed 92 = .ok (.iload 6, 2) := by decide +kernel
theorem dX9_feed_94 : decode cX9_feed 94 = .ok (.iconst 4, 1) := by decide +kernel
theorem dX9_feed_95 : decode cX9_feed 95 = .ok (.irem, 1) := by decide +kernel
theorem dX9_feed_96 : decode cX9_feed 96 = .ok (.imul, 1) := by decide +kernel
theorem dX9_feed_97 : decode cX9_feed 97 = .ok (.isub, 1) := by decide +kernel
theorem dX9_feed_98 : decode cX9_feed 98 = .ok (.ishr, 1) := by decide +kernel
theorem dX9_feed_99 : decode cX9_feed 99 = .ok (.sipush 255, 3) := by decide +kernel
theorem dX9_feed_102 : decode cX9_feed 102 = .ok (.iand, 1) := by decide +kernel
theorem dX9_feed_103 : decode cX9_feed 103 = .ok (.iastore, 1) := by decide +kernel
theorem dX9_feed_104 : decode cX9_feed 104 = .ok (.aload_n 0, 1) := by decide +kernel
theorem dX9_feed_105 : decode cX9_feed 105 = .ok (.dup, 1) := by decide +kernel
theorem dX9_feed_106 : decode cX9_feed 106 = .ok (.getfield 159, 3) := by decide +kernel
theorem dX9_feed_109 : decode cX9_feed 109 = .ok (.iconst 1, 1) := by decide +kernel
theorem dX9_feed_110 : decode cX9_feed 110 = .ok (.iadd, 1) := by decide +kernel
theorem dX9_feed_111 : decode cX9_feed 111 = .ok (.putfield 159, 3) := by decide +kernel
theorem dX9_feed_114 : decode cX9_feed 114 = .ok (.iinc 6 1, 3) := by decide +kernel
theorem dX9_feed_117 : decode cX9_feed 117 = .ok (.goto (-94), 3) := by decide +kernel
theorem dX9_feed_120 : decode cX9_feed 120 = .ok (.aload_n 0, 1) := by decide +kernel
theorem dX9_feed_121 : decode cX9_feed 121 = .ok (.getfield 159, 3) := by decide +kernel
theorem dX9_feed_124 : decode cX9_feed 124 = .ok (.ireturn, 1) := by decide +kernel
theorem dX9_byteAt_0 : decode cX9_byteAt 0 = .ok (.iload_n 1, 1) := by decide +kernel
theorem dX9_byteAt_1 : decode cX9_byteAt 1 = .ok (.aload_n 0, 1) := by decide +kernel
theorem dX9_byteAt_2 : decode cX9_byteAt 2 = .ok (.getfield 162, 3) := by decide +kernel
theorem dX9_byteAt_5 : decode cX9_byteAt 5 = .ok (.if_icmp .ge 12, 3) := by decide +kernel
theorem dX9_byteAt_8 : decode cX9_byteAt 8 = .ok (.aload_n 0, 1) := by decide +kernel
theorem dX9_byteAt_9 : decode cX9_byteAt 9 = .ok (.getfield 82, 3) := by decide +kernel
theorem dX9_byteAt_12 : decode cX9_byteAt 12 = .ok (.iload_n 1, 1) := by decide +kernel
theorem dX9_byteAt_13 : decode cX9_byteAt 13 = .ok (.iaload, 1) := by decide +kernel
theorem dX9_byteAt_14 : decode cX9_byteAt 14 = .ok (.goto 4, 3) := by decide +kernel
theorem dX9_byteAt_17 : decode cX9_byteAt 17 = .ok (.iconst (-1), 1) := by decide +kernel
theorem dX9_byteAt_18 : decode cX9_byteAt 18 = .ok (.ireturn, 1) := by decide +kernel
theorem dX9_isLetter_0 : decode cX9_isLetter 0 = .ok (.iload_n 0, 1) := by decide +kernel
theorem dX9_isLetter_1 : decode cX9_isLetter 1 = .ok (.bipush 97, 2) := by decide +kernel
theorem dX9_isLetter_3 : decode cX9_isLetter 3 = .ok (.if_icmp .lt 13, 3) := by decide +kernel
theorem dX9_isLetter_6 : decode cX9_isLetter 6 = .ok (.iload_n 0, 1) := by decide +kernel
theorem dX9_isLetter_7 : decode cX9_isLetter 7 = .ok (.bipush 122, 2) := by decide +kernel
theorem dX9_isLetter_9 : decode cX9_isLetter 9 = .ok (.if_icmp .gt 7, 3) := by decide +kernel
theorem dX9_isLetter_12 : decode cX9_isLetter 12 = .ok (.iconst 1, 1) := by decide +kernel
theorem dX9_isLetter_13 : decode cX9_isLetter 13 = .ok (.goto 4, 3) := by decide +kernel
theorem dX9_isLetter_16 : decode cX9_isLetter 16 = .ok (.iconst 0, 1) := by decide +kernel
theorem dX9_isLetter_17 : decode cX9_isLetter 17 = .ok (.ireturn, 1) := by decide +kernel
theorem dX9_isDigit_0 : decode cX9_isDigit 0 = .ok (.iload_n 0, 1) := by decide +kernel
theorem dX9_isDigit_1 : decode cX9_isDigit 1 = .ok (.bipush 48, 2) := by decide +kernel
theorem dX9_isDigit_3 : decode cX9_isDigit 3 = .ok (.if_icmp .lt 13, 3) := by decide +kernel
theorem dX9_isDigit_6 : decode cX9_isDigit 6 = .ok (.iload_n 0, 1) := by decide +kernel
theorem dX9_isDigit_7 : decode cX9_isDigit 7 = .ok (.bipush 57, 2) := by decide +kernel
theorem dX9_isDigit_9 : decode cX9_isDigit 9 = .ok (.if_icmp .gt 7, 3) := by decide +kernel
theorem dX9_isDigit_12 : decode cX9_isDigit 12 = .ok (.iconst 1, 1) := by decide +kernel
theorem dX9_isDigit_13 : decode cX9_isDigit 13 = .ok (.goto 4, 3) := by decide +kernel
theorem dX9_isDigit_16 : decode cX9_isDigit 16 = .ok (.iconst 0, 1) := by decide +kernel
theorem dX9_isDigit_17 : decode cX9_isDigit 17 = .ok (.ireturn, 1) := by decide +kernel
theorem dX9_isMark_0 : decode cX9_isMark 0 = .ok (.iload_n 0, 1) := by decide +kernel
theorem dX9_isMark_1 : decode cX9_isMark 1 = .ok (.bipush 59, 2) := by decide +kernel
theorem dX9_isMark_3 : decode cX9_isMark 3 = .ok (.if_icmp .eq 51, 3) := by decide +kernel
theorem dX9_isMark_6 : decode cX9_isMark 6 = .ok (.iload_n 0, 1) := by decide +kernel
theorem dX9_isMark_7 : decode cX9_isMark 7 = .ok (.bipush 40, 2) := by decide +kernel
theorem dX9_isMark_9 : decode cX9_isMark 9 = .ok (.if_icmp .eq 45, 3) := by decide +kernel
theorem dX9_isMark_12 : decode cX9_isMark 12 = .ok (.iload_n 0, 1) := by decide +kernel
theorem dX9_isMark_13 : decode cX9_isMark 13 = .ok (.bipush 41, 2) := by decide +kernel
theorem dX9_isMark_15 : decode cX9_isMark 15 = .ok (.if_icmp .eq 39, 3) := by decide +kernel
theorem dX9_isMark_18 : decode cX9_isMark 18 = .ok (.iload_n 0, 1) := by decide +kernel
theorem dX9_isMark_19 : decode cX9_isMark 19 = .ok (.bipush 43, 2) := by decide +kernel
theorem dX9_isMark_21 : decode cX9_isMark 21 = .ok (.if_icmp .eq 33, 3) := by decide +kernel
theorem dX9_isMark_24 : decode cX9_isMark 24 = .ok (.iload_n 0, 1) := by decide +kernel
theorem dX9_isMark_25 : decode cX9_isMark 25 = .ok (.bipush 45, 2) := by decide +kernel
theorem dX9_isMark_27 : decode cX9_isMark 27 = .ok (.if_icmp .eq 27, 3) := by decide +kernel
theorem dX9_isMark_30 : decode cX9_isMark 30 = .ok (.iload_n 0, 1) := by decide +kernel
theorem dX9_isMark_31 : decode cX9_isMark 31 = .ok (.bipush 42, 2) := by decide +kernel
theorem dX9_isMark_33 : decode cX9_isMark 33 = .ok (.if_icmp .eq 21, 3) := by decide +kernel
theorem dX9_isMark_36 : decode cX9_isMark 36 = .ok (.iload_n 0, 1) := by decide +kernel
theorem dX9_isMark_37 : decode cX9_isMark 37 = .ok (.bipush 47, 2) := by decide +kernel
theorem dX9_isMark_39 : decode cX9_isMark 39 = .ok (.if_icmp .eq 15, 3) := by decide +kernel
theorem dX9_isMark_42 : decode cX9_isMark 42 = .ok (.iload_n 0, 1) := by decide +kernel
theorem dX9_isMark_43 : decode cX9_isMark 43 = .ok (.bipush 60, 2) := by decide +kernel
theorem dX9_isMark_45 : decode cX9_isMark 45 = .ok (.if_icmp .eq 9, 3) := by decide +kernel
theorem dX9_isMark_48 : decode cX9_isMark 48 = .ok (.iload_n 0, 1) := by decide +kernel
theorem dX9_isMark_49 : decode cX9_isMark 49 = .ok (.bipush 61, 2) := by decide +kernel
theorem dX9_isMark_51 : decode cX9_isMark 51 = .ok (.if_icmp .ne 7, 3) := by decide +kernel
theorem dX9_isMark_54 : decode cX9_isMark 54 = .ok (.iconst 1, 1) := by decide +kernel
theorem dX9_isMark_55 : decode cX9_isMark 55 = .ok (.goto 4, 3) := by decide +kernel
theorem dX9_isMark_58 : decode cX9_isMark 58 = .ok (.iconst 0, 1) := by decide +kernel
theorem dX9_isMark_59 : decode cX9_isMark 59 = .ok (.ireturn, 1) := by decide +kernel
theorem dX9_stepOn_0 : decode cX9_stepOn 0 = .ok (.aload_n 0, 1) := by decide +kernel
theorem dX9_stepOn_1 : decode cX9_stepOn 1 = .ok (.aload_n 0, 1) := by decide +kernel
theorem dX9_stepOn_2 : decode cX9_stepOn 2 = .ok (.getfield 165, 3) := by decide +kernel
theorem dX9_stepOn_5 : decode cX9_stepOn 5 = .ok (.invokevirtual 168, 3) := by decide +kernel
theorem dX9_stepOn_8 : decode cX9_stepOn 8 = .ok (.bipush 32, 2) := by decide +kernel
theorem dX9_stepOn_10 : decode cX9_stepOn 10 = .ok (.if_icmp .eq 16, 3) := by decide +kernel
theorem dX9_stepOn_13 : decode cX9_stepOn 13 = .ok (.aload_n 0, 1) := by decide +kernel
theorem dX9_stepOn_14 : decode cX9_stepOn 14 = .ok (.aload_n 0, 1) := by decide +kernel
theorem dX9_stepOn_15 : decode cX9_stepOn 15 = .ok (.getfield 165, 3) := by decide +kernel
theorem dX9_stepOn_18 : decode cX9_stepOn 18 = .ok (.invokevirtual 168, 3) := by decide +kernel
theorem dX9_stepOn_21 : decode cX9_stepOn 21 = .ok (.bipush 10, 2) := by decide +kernel
theorem dX9_stepOn_23 : decode cX9_stepOn 23 = .ok (.if_icmp .ne 16, 3) := by decide +kernel
theorem dX9_stepOn_26 : decode cX9_stepOn 26 = .ok (.aload_n 0, 1) := by decide +kernel
theorem dX9_stepOn_27 : decode cX9_stepOn 27 = .ok (.dup, 1) := by decide +kernel
theorem dX9_stepOn_28 : decode cX9_stepOn 28 = .ok (.getfield 165, 3) := by decide +kernel
theorem dX9_stepOn_31 : decode cX9_stepOn 31 = .ok (.iconst 1, 1) := by decide +kernel
theorem dX9_stepOn_32 : decode cX9_stepOn 32 = .ok (.iadd, 1) := by decide +kernel
theorem dX9_stepOn_33 : decode cX9_stepOn 33 = .ok (.putfield 165, 3) := by decide +kernel
theorem dX9_stepOn_36 : decode cX9_stepOn 36 = .ok (.goto (-36), 3) := by decide +kernel
theorem dX9_stepOn_39 : decode cX9_stepOn 39 = .ok (.aload_n 0, 1) := by decide +kernel
theorem dX9_stepOn_40 : decode cX9_stepOn 40 = .ok (.aload_n 0, 1) := by decide +kernel
theorem dX9_stepOn_41 : decode cX9_stepOn 41 = .ok (.getfield 165, 3) := by decide +kernel
theorem dX9_stepOn_44 : decode cX9_stepOn 44 = .ok (.putfield 172, 3) := by decide +kernel
theorem dX9_stepOn_47 : decode cX9_stepOn 47 = .ok (.aload_n 0, 1) := by decide +kernel
theorem dX9_stepOn_48 : decode cX9_stepOn 48 = .ok (.aload_n 0, 1) := by decide +kernel
theorem dX9_stepOn_49 : decode cX9_stepOn 49 = .ok (.getfield 165, 3) := by decide +kernel
theorem dX9_stepOn_52 : decode cX9_stepOn 52 = .ok (.invokevirtual 168, 3) := by decide +kernel
theorem dX9_stepOn_55 : decode cX9_stepOn 55 = .ok (.istore_n 1, 1) := by decide +kernel
theorem dX9_stepOn_56 : decode cX9_stepOn 56 = .ok (.iload_n 1, 1) := by decide +kernel
theorem dX9_stepOn_57 : decode cX9_stepOn 57 = .ok (.iconst (-1), 1) := by decide +kernel
theorem dX9_stepOn_58 : decode cX9_stepOn 58 = .ok (.if_icmp .ne 11, 3) := by decide +kernel
theorem dX9_stepOn_61 : decode cX9_stepOn 61 = .ok (.aload_n 0, 1) := by decide +kernel
theorem dX9_stepOn_62 : decode cX9_stepOn 62 = .ok (.iconst 0, 1) := by decide +kernel
theorem dX9_stepOn_63 : decode cX9_stepOn 63 = .ok (.putfield 175, 3) := by decide +kernel
theorem dX9_stepOn_66 : decode cX9_stepOn 66 = .ok (.goto 146, 3) := by decide +kernel
theorem dX9_stepOn_69 : decode cX9_stepOn 69 = .ok (.iload_n 1, 1) := by decide +kernel
theorem dX9_stepOn_70 : decode cX9_stepOn 70 = .ok (.invokestatic 178, 3) := by decide +kernel
theorem dX9_stepOn_73 : decode cX9_stepOn 73 = .ok (.ifCond .eq 38, 3) := by decide +kernel
theorem dX9_stepOn_76 : decode cX9_stepOn 76 = .ok (.aload_n 0, 1) := by decide +kernel
theorem dX9_stepOn_77 : decode cX9_stepOn 77 = .ok (.aload_n 0, 1) := by decide +kernel
theorem dX9_stepOn_78 : decode cX9_stepOn 78 = .ok (.getfield 165, 3) := by decide +kernel
theorem dX9_stepOn_81 : decode cX9_stepOn 81 = .ok (.invokevirtual 168, 3) := by decide +kernel
theorem dX9_stepOn_84 : decode cX9_stepOn 84 = .ok (.invokestatic 178, 3) := by decide +kernel
theorem dX9_stepOn_87 : decode cX9_stepOn 87 = .ok (.ifCond .eq 16, 3) := by decide +kernel
theorem dX9_stepOn_90 : decode cX9_stepOn 90 = .ok (.aload_n 0, 1) := by decide +kernel
theorem dX9_stepOn_91 : decode cX9_stepOn 91 = .ok (.dup, 1) := by decide +kernel
theorem dX9_stepOn_92 : decode cX9_stepOn 92 = .ok (.getfield 165, 3) := by decide +kernel
theorem dX9_stepOn_95 : decode cX9_stepOn 95 = .ok (.iconst 1, 1) := by decide +kernel
theorem dX9_stepOn_96 : decode cX9_stepOn 96 = .ok (.iadd, 1) := by decide +kernel
theorem dX9_stepOn_97 : decode cX9_stepOn 97 = .ok (.putfield 165, 3) := by decide +kernel
theorem dX9_stepOn_100 : decode cX9_stepOn 100 = .ok (.goto (-24), 3) := by decide +kernel
theorem dX9_stepOn_103 : decode cX9_stepOn 103 = .ok (.aload_n 0, 1) := by decide +kernel
theorem dX9_stepOn_104 : decode cX9_stepOn 104 = .ok (.iconst 1, 1) := by decide +kernel
theorem dX9_stepOn_105 : decode cX9_stepOn 105 = .ok (.putfield 175, 3) := by decide +kernel
theorem dX9_stepOn_108 : decode cX9_stepOn 108 = .ok (.goto 104, 3) := by decide +kernel
theorem dX9_stepOn_111 : decode cX9_stepOn 111 = .ok (.iload_n 1, 1) := by decide +kernel
theorem dX9_stepOn_112 : decode cX9_stepOn 112 = .ok (.invokestatic 182, 3) := by decide +kernel
theorem dX9_stepOn_115 : decode cX9_stepOn 115 = .ok (.ifCond .eq 71, 3) := by decide +kernel
theorem dX9_stepOn_118 : decode cX9_stepOn 118 = .ok (.aload_n 0, 1) := by decide +kernel
theorem dX9_stepOn_119 : decode cX9_stepOn 119 = .ok (.iconst 0, 1) := by decide +kernel
theorem dX9_stepOn_120 : decode cX9_stepOn 120 = .ok (.putfield 185, 3) := by decide +kernel
theorem dX9_stepOn_123 : decode cX9_stepOn 123 = .ok (.aload_n 0, 1) := by decide +kernel
theorem dX9_stepOn_124 : decode cX9_stepOn 124 = .ok (.aload_n 0, 1) := by decide +kernel
theorem dX9_stepOn_125 : decode cX9_stepOn 125 = .ok (.getfield 165, 3) := by decide +kernel
theorem dX9_stepOn_128 : decode cX9_stepOn 128 = .ok (.invokevirtual 168, 3) := by decide +kernel
theorem dX9_stepOn_131 : decode cX9_stepOn 131 = .ok (.invokestatic 182, 3) := by decide +kernel
theorem dX9_stepOn_134 : decode cX9_stepOn 134 = .ok (.ifCond .eq 44, 3) := by decide +kernel
theorem dX9_stepOn_137 : decode cX9_stepOn 137 = .ok (.aload_n 0, 1) := by decide +kernel
theorem dX9_stepOn_138 : decode cX9_stepOn 138 = .ok (.ldc 188, 2) := by decide +kernel
theorem dX9_stepOn_140 : decode cX9_stepOn 140 = .ok (.bipush 10, 2) := by decide +kernel
theorem dX9_stepOn_142 : decode cX9_stepOn 142 = .ok (.aload_n 0, 1) := by decide +kernel
theorem dX9_stepOn_143 : decode cX9_stepOn 143 = .ok (.getfield 185, 3) := by decide +kernel
theorem dX9_stepOn_146 : decode cX9_stepOn 146 = .ok (.imul, 1) := by decide +kernel
theorem dX9_stepOn_147 : decode cX9_stepOn 147 = .ok (.aload_n 0, 1) := by decide +kernel
theorem dX9_stepOn_148 : decode cX9_stepOn 148 = .ok (.aload_n 0, 1) := by decide +kernel
theorem dX9_stepOn_149 : decode cX9_stepOn 149 = .ok (.getfield 165, 3) := by decide +kernel
theorem dX9_stepOn_152 : decode cX9_stepOn 152 = .ok (.invokevirtual 168, 3) := by decide +kernel
theorem dX9_stepOn_155 : decode cX9_stepOn 155 = .ok (.iadd, 1) := by decide +kernel
theorem dX9_stepOn_156 : decode cX9_stepOn 156 = .ok (.bipush 48, 2) := by decide +kernel
theorem dX9_stepOn_158 : decode cX9_stepOn 158 = .ok (.isub, 1) := by decide +kernel
theorem dX9_stepOn_159 : decode cX9_stepOn 159 = .ok (.invokestatic 189, 3) := by decide +kernel
theorem dX9_stepOn_162 : decode cX9_stepOn 162 = .ok (.putfield 185, 3) := by decide +kernel
theorem dX9_stepOn_165 : decode cX9_stepOn 165 = .ok (.aload_n 0, 1) := by decide +kernel
theorem dX9_stepOn_166 : decode cX9_stepOn 166 = .ok (.dup, 1) := by decide +kernel
theorem dX9_stepOn_167 : decode cX9_stepOn 167 = .ok (.getfield 165, 3) := by decide +kernel
theorem dX9_stepOn_170 : decode cX9_stepOn 170 = .ok (.iconst 1, 1) := by decide +kernel
theorem dX9_stepOn_171 : decode cX9_stepOn 171 = .ok (.iadd, 1) := by decide +kernel
theorem dX9_stepOn_172 : decode cX9_stepOn 172 = .ok (.putfield 165, 3) := by decide +kernel
theorem dX9_stepOn_175 : decode cX9_stepOn 175 = .ok (.goto (-52), 3) := by decide +kernel
theorem dX9_stepOn_178 : decode cX9_stepOn 178 = .ok (.aload_n 0, 1) := by decide +kernel
theorem dX9_stepOn_179 : decode cX9_stepOn 179 = .ok (.iconst 2, 1) := by decide +kernel
theorem dX9_stepOn_180 : decode cX9_stepOn 180 = .ok (.putfield 175, 3) := by decide +kernel
theorem dX9_stepOn_183 : decode cX9_stepOn 183 = .ok (.goto 29, 3) := by decide +kernel
theorem dX9_stepOn_186 : decode cX9_stepOn 186 = .ok (.aload_n 0, 1) := by decide +kernel
theorem dX9_stepOn_187 : decode cX9_stepOn 187 = .ok (.dup, 1) := by decide +kernel
theorem dX9_stepOn_188 : decode cX9_stepOn 188 = .ok (.getfield 165, 3) := by decide +kernel
theorem dX9_stepOn_191 : decode cX9_stepOn 191 = .ok (.iconst 1, 1) := by decide +kernel
theorem dX9_stepOn_192 : decode cX9_stepOn 192 = .ok (.iadd, 1) := by decide +kernel
theorem dX9_stepOn_193 : decode cX9_stepOn 193 = .ok (.putfield 165, 3) := by decide +kernel
theorem dX9_stepOn_196 : decode cX9_stepOn 196 = .ok (.aload_n 0, 1) := by decide +kernel
theorem dX9_stepOn_197 : decode cX9_stepOn 197 = .ok (.iload_n 1, 1) := by decide +kernel
theorem dX9_stepOn_198 : decode cX9_stepOn 198 = .ok (.invokestatic 195, 3) := by decide +kernel
theorem dX9_stepOn_201 : decode cX9_stepOn 201 = .ok (.ifCond .eq 7, 3) := by decide +kernel
theorem dX9_stepOn_204 : decode cX9_stepOn 204 = .ok (.iconst 3, 1) := by decide +kernel
theorem dX9_stepOn_205 : decode cX9_stepOn 205 = .ok (.goto 4, 3) := by decide +kernel
theorem dX9_stepOn_208 : decode cX9_stepOn 208 = .ok (.iconst 4, 1) := by decide +kernel
theorem dX9_stepOn_209 : decode cX9_stepOn 209 = .ok (.putfield 175, 3) := by decide +kernel
theorem dX9_stepOn_212 : decode cX9_stepOn 212 = .ok (.aload_n 0, 1) := by decide +kernel
theorem dX9_stepOn_213 : decode cX9_stepOn 213 = .ok (.aload_n 0, 1) := by decide +kernel
theorem dX9_stepOn_214 : decode cX9_stepOn 214 = .ok (.getfield 165, 3) := by decide +kernel
theorem dX9_stepOn_217 : decode cX9_stepOn 217 = .ok (.putfield 198, 3) := by decide +kernel
theorem dX9_stepOn_220 : decode cX9_stepOn 220 = .ok (.return_, 1) := by decide +kernel
theorem dX9_wrong_0 : decode cX9_wrong 0 = .ok (.aload_n 0, 1) := by decide +kernel
theorem dX9_wrong_1 : decode cX9_wrong 1 = .ok (.getfield 201, 3) := by decide +kernel
theorem dX9_wrong_4 : decode cX9_wrong 4 = .ok (.ifCond .eq 4, 3) := by decide +kernel
theorem dX9_wrong_7 : decode cX9_wrong 7 = .ok (.return_, 1) := by decide +kernel
theorem dX9_wrong_8 : decode cX9_wrong 8 = .ok (.aload_n 0, 1) := by decide +kernel
theorem dX9_wrong_9 : decode cX9_wrong 9 = .ok (.iload_n 1, 1) := by decide +kernel
theorem dX9_wrong_10 : decode cX9_wrong 10 = .ok (.putfield 201, 3) := by decide +kernel
theorem dX9_wrong_13 : decode cX9_wrong 13 = .ok (.aload_n 0, 1) := by decide +kernel
theorem dX9_wrong_14 : decode cX9_wrong 14 = .ok (.aload_n 0, 1) := by decide +kernel
theorem dX9_wrong_15 : decode cX9_wrong 15 = .ok (.getfield 172, 3) := by decide +kernel
theorem dX9_wrong_18 : decode cX9_wrong 18 = .ok (.putfield 204, 3) := by decide +kernel
theorem dX9_wrong_21 : decode cX9_wrong 21 = .ok (.return_, 1) := by decide +kernel
theorem dX9_is_0 : decode cX9_is 0 = .ok (.aload_n 0, 1) := by decide +kernel
theorem dX9_is_1 : decode cX9_is 1 = .ok (.getfield 201, 3) := by decide +kernel
theorem dX9_is_4 : decode cX9_is 4 = .ok (.ifCond .ne 31, 3) := by decide +kernel
theorem dX9_is_7 : decode cX9_is 7 = .ok (.aload_n 0, 1) := by decide +kernel
theorem dX9_is_8 : decode cX9_is 8 = .ok (.getfield 175, 3) := by decide +kernel
theorem dX9_is_11 : decode cX9_is 11 = .ok (.iconst 1, 1) := by decide +kernel
theorem dX9_is_12 : decode cX9_is 12 = .ok (.if_icmp .ne 23, 3) := by decide +kernel
theorem dX9_is_15 : decode cX9_is 15 = .ok (.aload_n 1, 1) := by decide +kernel
theorem dX9_is_16 : decode cX9_is 16 = .ok (.invokevirtual 207, 3) := by decide +kernel
theorem dX9_is_19 : decode cX9_is 19 = .ok (.aload_n 0, 1) := by decide +kernel
theorem dX9_is_20 : decode cX9_is 20 = .ok (.getfield 198, 3) := by decide +kernel
theorem dX9_is_23 : decode cX9_is 23 = .ok (.aload_n 0, 1) := by decide +kernel
theorem dX9_is_24 : decode cX9_is 24 = .ok (.getfield 172, 3) := by decide +kernel
theorem dX9_is_27 : decode cX9_is 27 = .ok (.isub, 1) := by decide +kernel
theorem dX9_is_28 : decode cX9_is 28 = .ok (.if_icmp .ne 7, 3) := by decide +kernel
theorem dX9_is_31 : decode cX9_is 31 = .ok (.iconst 1, 1) := by decide +kernel
theorem dX9_is_32 : decode cX9_is 32 = .ok (.goto 4, 3) := by decide +kernel
theorem dX9_is_35 : decode cX9_is 35 = .ok (.iconst 0, 1) := by decide +kernel
theorem dX9_is_36 : decode cX9_is 36 = .ok (.istore_n 2, 1) := by decide +kernel
theorem dX9_is_37 : decode cX9_is 37 = .ok (.iconst 0, 1) := by decide +kernel
theorem dX9_is_38 : decode cX9_is 38 = .ok (.istore_n 3, 1) := by decide +kernel
theorem dX9_is_39 : decode cX9_is 39 = .ok (.iload_n 2, 1) := by decide +kernel
theorem dX9_is_40 : decode cX9_is 40 = .ok (.ifCond .eq 42, 3) := by decide +kernel
theorem dX9_is_43 : decode cX9_is 43 = .ok (.iload_n 3, 1) := by decide +kernel
theorem dX9_is_44 : decode cX9_is 44 = .ok (.aload_n 1, 1) := by decide +kernel
theorem dX9_is_45 : decode cX9_is 45 = .ok (.invokevirtual 207, 3) := by decide +kernel
theorem dX9_is_48 : decode cX9_is 48 = .ok (.if_icmp .ge 34, 3) := by decide +kernel
theorem dX9_is_51 : decode cX9_is 51 = .ok (.aload_n 1, 1) := by decide +kernel
theorem dX9_is_52 : decode cX9_is 52 = .ok (.iload_n 3, 1) := by decide +kernel
theorem dX9_is_53 : decode cX9_is 53 = .ok (.invokevirtual 211, 3) := by decide +kernel
theorem dX9_is_56 : decode cX9_is 56 = .ok (.aload_n 0, 1) := by decide +kernel
theorem dX9_is_57 : decode cX9_is 57 = .ok (.getfield 82, 3) := by decide +kernel
theorem dX9_is_60 : decode cX9_is 60 = .ok (.aload_n 0, 1) := by decide +kernel
theorem dX9_is_61 : decode cX9_is 61 = .ok (.getfield 172, 3) := by decide +kernel
theorem dX9_is_64 : decode cX9_is 64 = .ok (.iload_n 3, 1) := by decide +kernel
theorem dX9_is_65 : decode cX9_is 65 = .ok (.iadd, 1) := by decide +kernel
theorem dX9_is_66 : decode cX9_is 66 = .ok (.iaload, 1) := by decide +kernel
theorem dX9_is_67 : decode cX9_is 67 = .ok (.if_icmp .ne 7, 3) := by decide +kernel
theorem dX9_is_70 : decode cX9_is 70 = .ok (.iconst 1, 1) := by decide +kernel
theorem dX9_is_71 : decode cX9_is 71 = .ok (.goto 4, 3) := by decide +kernel
theorem dX9_is_74 : decode cX9_is 74 = .ok (.iconst 0, 1) := by decide +kernel
theorem dX9_is_75 : decode cX9_is 75 = .ok (.istore_n 2, 1) := by decide +kernel
theorem dX9_is_76 : decode cX9_is 76 = .ok (.iinc 3 1, 3) := by decide +kernel
theorem dX9_is_79 : decode cX9_is 79 = .ok (.goto (-40), 3) := by decide +kernel
theorem dX9_is_82 : decode cX9_is 82 = .ok (.iload_n 2, 1) := by decide +kernel
theorem dX9_is_83 : decode cX9_is 83 = .ok (.ireturn, 1) := by decide +kernel
theorem dX9_which_0 : decode cX9_which 0 = .ok (.iconst 0, 1) := by decide +kernel
theorem dX9_which_1 : decode cX9_which 1 = .ok (.istore_n 2, 1) := by decide +kernel
theorem dX9_which_2 : decode cX9_which 2 = .ok (.iload_n 2, 1) := by decide +kernel
theorem dX9_which_3 : decode cX9_which 3 = .ok (.aload_n 1, 1) := by decide +kernel
theorem dX9_which_4 : decode cX9_which 4 = .ok (.arraylength, 1) := by decide +kernel
theorem dX9_which_5 : decode cX9_which 5 = .ok (.if_icmp .ge 21, 3) := by decide +kernel
theorem dX9_which_8 : decode cX9_which 8 = .ok (.aload_n 0, 1) := by decide +kernel
theorem dX9_which_9 : decode cX9_which 9 = .ok (.aload_n 1, 1) := by decide +kernel
theorem dX9_which_10 : decode cX9_which 10 = .ok (.iload_n 2, 1) := by decide +kernel
theorem dX9_which_11 : decode cX9_which 11 = .ok (.aaload, 1) := by decide +kernel
theorem dX9_which_12 : decode cX9_which 12 = .ok (.invokevirtual 215, 3) := by decide +kernel
theorem dX9_which_15 : decode cX9_which 15 = .ok (.ifCond .eq 5, 3) := by decide +kernel
theorem dX9_which_18 : decode cX9_which 18 = .ok (.iload_n 2, 1) := by decide +kernel
theorem dX9_which_19 : decode cX9_which 19 = .ok (.ireturn, 1) := by decide +kernel
theorem dX9_which_20 : decode cX9_which 20 = .ok (.iinc 2 1, 3) := by decide +kernel
theorem dX9_which_23 : decode cX9_which 23 = .ok (.goto (-21), 3) := by decide +kernel
theorem dX9_which_26 : decode cX9_which 26 = .ok (.iconst (-1), 1) := by decide +kernel
theorem dX9_which_27 : decode cX9_which 27 = .ok (.ireturn, 1) := by decide +kernel
theorem dX9_isMarked_0 : decode cX9_isMarked 0 = .ok (.aload_n 0, 1) := by decide +kernel
theorem dX9_isMarked_1 : decode cX9_isMarked 1 = .ok (.getfield 201, 3) := by decide +kernel
theorem dX9_isMarked_4 : decode cX9_isMarked 4 = .ok (.ifCond .ne 28, 3) := by decide +kernel
theorem dX9_isMarked_7 : decode cX9_isMarked 7 = .ok (.aload_n 0, 1) := by decide +kernel
theorem dX9_isMarked_8 : decode cX9_isMarked 8 = .ok (.getfield 175, 3) := by decide +kernel
theorem dX9_isMarked_11 : decode cX9_isMarked 11 = .ok (.iconst 3, 1) := by decide +kernel
theorem dX9_isMarked_12 : decode cX9_isMarked 12 = .ok (.if_icmp .ne 20, 3) := by decide +kernel
theorem dX9_isMarked_15 : decode cX9_isMarked 15 = .ok (.aload_n 0, 1) := by decide +kernel
theorem dX9_isMarked_16 : decode cX9_isMarked 16 = .ok (.getfield 82, 3) := by decide +kernel
theorem dX9_isMarked_19 : decode cX9_isMarked 19 = .ok (.aload_n 0, 1) := by decide +kernel
theorem dX9_isMarked_20 : decode cX9_isMarked 20 = .ok (.getfield 172, 3) := by decide +kernel
theorem dX9_isMarked_23 : decode cX9_isMarked 23 = .ok (.iaload, 1) := by decide +kernel
theorem dX9_isMarked_24 : decode cX9_isMarked 24 = .ok (.iload_n 1, 1) := by decide +kernel
theorem dX9_isMarked_25 : decode cX9_isMarked 25 = .ok (.if_icmp .ne 7, 3) := by decide +kernel
theorem dX9_isMarked_28 : decode cX9_isMarked 28 = .ok (.iconst 1, 1) := by decide +kernel
theorem dX9_isMarked_29 : decode cX9_isMarked 29 = .ok (.goto 4, 3) := by decide +kernel
theorem dX9_isMarked_32 : decode cX9_isMarked 32 = .ok (.iconst 0, 1) := by decide +kernel
theorem dX9_isMarked_33 : decode cX9_isMarked 33 = .ok (.ireturn, 1) := by decide +kernel
theorem dX9_mark_0 : decode cX9_mark 0 = .ok (.aload_n 0, 1) := by decide +kernel
theorem dX9_mark_1 : decode cX9_mark 1 = .ok (.getfield 201, 3) := by decide +kernel
theorem dX9_mark_4 : decode cX9_mark 4 = .ok (.ifCond .ne 16, 3) := by decide +kernel
theorem dX9_mark_7 : decode cX9_mark 7 = .ok (.aload_n 0, 1) := by decide +kernel
theorem dX9_mark_8 : decode cX9_mark 8 = .ok (.iload_n 1, 1) := by decide +kernel
theorem dX9_mark_9 : decode cX9_mark 9 = .ok (.invokevirtual 219, 3) := by decide +kernel
theorem dX9_mark_12 : decode cX9_mark 12 = .ok (.ifCond .ne 8, 3) := by decide +kernel
theorem dX9_mark_15 : decode cX9_mark 15 = .ok (.aload_n 0, 1) := by decide +kernel
theorem dX9_mark_16 : decode cX9_mark 16 = .ok (.iconst 1, 1) := by decide +kernel
theorem dX9_mark_17 : decode cX9_mark 17 = .ok (.invokevirtual 222, 3) := by decide +kernel
theorem dX9_mark_20 : decode cX9_mark 20 = .ok (.aload_n 0, 1) := by decide +kernel
theorem dX9_mark_21 : decode cX9_mark 21 = .ok (.getfield 201, 3) := by decide +kernel
theorem dX9_mark_24 : decode cX9_mark 24 = .ok (.ifCond .ne 7, 3) := by decide +kernel
theorem dX9_mark_27 : decode cX9_mark 27 = .ok (.aload_n 0, 1) := by decide +kernel
theorem dX9_mark_28 : decode cX9_mark 28 = .ok (.invokevirtual 226, 3) := by decide +kernel
theorem dX9_mark_31 : decode cX9_mark 31 = .ok (.return_, 1) := by decide +kernel
theorem dX9_numberNow_0 : decode cX9_numberNow 0 = .ok (.aload_n 0, 1) := by decide +kernel
theorem dX9_numberNow_1 : decode cX9_numberNow 1 = .ok (.getfield 201, 3) := by decide +kernel
theorem dX9_numberNow_4 : decode cX9_numberNow 4 = .ok (.ifCond .eq 5, 3) := by decide +kernel
theorem dX9_numberNow_7 : decode cX9_numberNow 7 = .ok (.iconst 0, 1) := by decide +kernel
theorem dX9_numberNow_8 : decode cX9_numberNow 8 = .ok (.ireturn, 1) := by decide +kernel
theorem dX9_numberNow_9 : decode cX9_numberNow 9 = .ok (.aload_n 0, 1) := by decide +kernel
theorem dX9_numberNow_10 : decode cX9_numberNow 10 = .ok (.getfield 175, 3) := by decide +kernel
theorem dX9_numberNow_13 : decode cX9_numberNow 13 = .ok (.iconst 2, 1) := by decide +kernel
theorem dX9_numberNow_14 : decode cX9_numberNow 14 = .ok (.if_icmp .eq 11, 3) := by decide +kernel
theorem dX9_numberNow_17 : decode cX9_numberNow 17 = .ok (.aload_n 0, 1) := by decide +kernel
theorem dX9_numberNow_18 : decode cX9_numberNow 18 = .ok (.iconst 1, 1) := by decide +kernel
theorem dX9_numberNow_19 : decode cX9_numberNow 19 = .ok (.invokevirtual 222, 3) := by decide +kernel
theorem dX9_numberNow_22 : decode cX9_numberNow 22 = .ok (.goto 37, 3) := by decide +kernel
theorem dX9_numberNow_25 : decode cX9_numberNow 25 = .ok (.aload_n 0, 1) := by decide +kernel
theorem dX9_numberNow_26 : decode cX9_numberNow 26 = .ok (.getfield 198, 3) := by decide +kernel
theorem dX9_numberNow_29 : decode cX9_numberNow 29 = .ok (.aload_n 0, 1) := by decide +kernel
theorem dX9_numberNow_30 : decode cX9_numberNow 30 = .ok (.getfield 172, 3) := by decide +kernel
theorem dX9_numberNow_33 : decode cX9_numberNow 33 = .ok (.isub, 1) := by decide +kernel
theorem dX9_numberNow_34 : decode cX9_numberNow 34 = .ok (.iconst 4, 1) := by decide +kernel
theorem dX9_numberNow_35 : decode cX9_numberNow 35 = .ok (.if_icmp .gt 19, 3) := by decide +kernel
theorem dX9_numberNow_38 : decode cX9_numberNow 38 = .ok (.aload_n 0, 1) := by decide +kernel
theorem dX9_numberNow_39 : decode cX9_numberNow 39 = .ok (.getfield 185, 3) := by decide +kernel
theorem dX9_numberNow_42 : decode cX9_numberNow 42 = .ok (.iload_n 1, 1) := by decide +kernel
theorem dX9_numberNow_43 : decode cX9_numberNow 43 = .ok (.if_icmp .lt 11, 3) := by decide +kernel
theorem dX9_numberNow_46 : decode cX9_numberNow 46 = .ok (.aload_n 0, 1) := by decide +kernel
theorem dX9_numberNow_47 : decode cX9_numberNow 47 = .ok (.getfield 185, 3) := by decide +kernel
theorem dX9_numberNow_50 : decode cX9_numberNow 50 = .ok (.iload_n 2, 1) := by decide +kernel
theorem dX9_numberNow_51 : decode cX9_numberNow 51 = .ok (.if_icmp .le 8, 3) := by decide +kernel
theorem dX9_numberNow_54 : decode cX9_numberNow 54 = .ok (.aload_n 0, 1) := by decide +kernel
theorem dX9_numberNow_55 : decode cX9_numberNow 55 = .ok (.iconst 2, 1) := by decide +kernel
theorem dX9_numberNow_56 : decode cX9_numberNow 56 = .ok (.invokevirtual 222, 3) := by decide +kernel
theorem dX9_numberNow_59 : decode cX9_numberNow 59 = .ok (.aload_n 0, 1) := by decide +kernel
theorem dX9_numberNow_60 : decode cX9_numberNow 60 = .ok (.getfield 201, 3) := by decide +kernel
theorem dX9_numberNow_63 : decode cX9_numberNow 63 = .ok (.ifCond .ne 10, 3) := by decide +kernel
theorem dX9_numberNow_66 : decode cX9_numberNow 66 = .ok (.aload_n 0, 1) := by decide +kernel
theorem dX9_numberNow_67 : decode cX9_numberNow 67 = .ok (.getfield 185, 3) := by decide +kernel
theorem dX9_numberNow_70 : decode cX9_numberNow 70 = .ok (.goto 4, 3) := by decide +kernel
theorem dX9_numberNow_73 : decode cX9_numberNow 73 = .ok (.iconst 0, 1) := by decide +kernel
theorem dX9_numberNow_74 : decode cX9_numberNow 74 = .ok (.ireturn, 1) := by decide +kernel
theorem dX9_readNumber_0 : decode cX9_readNumber 0 = .ok (.aload_n 0, 1) := by decide +kernel
theorem dX9_readNumber_1 : decode cX9_readNumber 1 = .ok (.iload_n 1, 1) := by decide +kernel
theorem dX9_readNumber_2 : decode cX9_readNumber 2 = .ok (.iload_n 2, 1) := by decide +kernel
theorem dX9_readNumber_3 : decode cX9_readNumber 3 = .ok (.invokevirtual 229, 3) := by decide +kernel
theorem dX9_readNumber_6 : decode cX9_readNumber 6 = .ok (.istore_n 3, 1) := by decide +kernel
theorem dX9_readNumber_7 : decode cX9_readNumber 7 = .ok (.aload_n 0, 1) := by decide +kernel
theorem dX9_readNumber_8 : decode cX9_readNumber 8 = .ok (.getfield 201, 3) := by decide +kernel
theorem dX9_readNumber_11 : decode cX9_readNumber 11 = .ok (.ifCond .ne 7, 3) := by decide +kernel
theorem dX9_readNumber_14 : decode cX9_readNumber 14 = .ok (.aload_n 0, 1) := by decide +kernel
theorem dX9_readNumber_15 : decode cX9_readNumber 15 = .ok (.invokevirtual 226, 3) := by decide +kernel
theorem dX9_readNumber_18 : decode cX9_readNumber 18 = .ok (.iload_n 3, 1) := by decide +kernel
theorem dX9_readNumber_19 : decode cX9_readNumber 19 = .ok (.ireturn, 1) := by decide +kernel
theorem dX9_readSigned_0 : decode cX9_readSigned 0 = .ok (.aload_n 0, 1) := by decide +kernel
theorem dX9_readSigned_1 : decode cX9_readSigned 1 = .ok (.bipush 45, 2) := by decide +kernel
theorem dX9_readSigned_3 : decode cX9_readSigned 3 = .ok (.invokevirtual 219, 3) := by decide +kernel
theorem dX9_readSigned_6 : decode cX9_readSigned 6 = .ok (.istore_n 2, 1) := by decide +kernel
theorem dX9_readSigned_7 : decode cX9_readSigned 7 = .ok (.iload_n 2, 1) := by decide +kernel
theorem dX9_readSigned_8 : decode cX9_readSigned 8 = .ok (.ifCond .eq 7, 3) := by decide +kernel
theorem dX9_readSigned_11 : decode cX9_readSigned 11 = .ok (.aload_n 0, 1) := by decide +kernel
theorem dX9_readSigned_12 : decode cX9_readSigned 12 = .ok (.invokevirtual 226, 3) := by decide +kernel
theorem dX9_readSigned_15 : decode cX9_readSigned 15 = .ok (.aload_n 0, 1) := by decide +kernel
theorem dX9_readSigned_16 : decode cX9_readSigned 16 = .ok (.iconst 0, 1) := by decide +kernel
theorem dX9_readSigned_17 : decode cX9_readSigned 17 = .ok (.iload_n 1, 1) := by decide +kernel
theorem dX9_readSigned_18 : decode cX9_readSigned 18 = .ok (.invokevirtual 232, 3) := by decide +kernel
theorem dX9_readSigned_21 : decode cX9_readSigned 21 = .ok (.istore_n 3, 1) := by decide +kernel
theorem dX9_readSigned_22 : decode cX9_readSigned 22 = .ok (.iload_n 2, 1) := by decide +kernel
theorem dX9_readSigned_23 : decode cX9_readSigned 23 = .ok (.ifCond .eq 8, 3) := by decide +kernel
theorem dX9_readSigned_26 : decode cX9_readSigned 26 = .ok (.iload_n 3, 1) := by decide +kernel
theorem dX9_readSigned_27 : decode cX9_readSigned 27 = .ok (.ineg, 1) := by decide +kernel
theorem dX9_readSigned_28 : decode cX9_readSigned 28 = .ok (.goto 4, 3) := by decide +kernel
theorem dX9_readSigned_31 : decode cX9_readSigned 31 = .ok (.iload_n 3, 1) := by decide +kernel
theorem dX9_readSigned_32 : decode cX9_readSigned 32 = .ok (.ireturn, 1) := by decide +kernel
theorem dX9_lay_0 : decode cX9_lay 0 = .ok (.aload_n 0, 1) := by decide +kernel
theorem dX9_lay_1 : decode cX9_lay 1 = .ok (.getfield 201, 3) := by decide +kernel
theorem dX9_lay_4 : decode cX9_lay 4 = .ok (.ifCond .eq 4, 3) := by decide +kernel
theorem dX9_lay_7 : decode cX9_lay 7 = .ok (.return_, 1) := by decide +kernel
theorem dX9_lay_8 : decode cX9_lay 8 = .ok (.bipush 7, 2) := by decide +kernel
theorem dX9_lay_10 : decode cX9_lay 10 = .ok (.aload_n 0, 1) := by decide +kernel
theorem dX9_lay_11 : decode cX9_lay 11 = .ok (.getfield 235, 3) := by decide +kernel
theorem dX9_lay_14 : decode cX9_lay 14 = .ok (.ifCond .eq 8, 3) := by decide +kernel
theorem dX9_lay_17 : decode cX9_lay 17 = .ok (.bipush 6, 2) := by decide +kernel
theorem dX9_lay_19 : decode cX9_lay 19 = .ok (.goto 4, 3) := by decide +kernel
theorem dX9_lay_22 : decode cX9_lay 22 = .ok (.iconst 5, 1) := by decide +kernel
theorem dX9_lay_23 : decode cX9_lay 23 = .ok (.iadd, 1) := by decide +kernel
theorem dX9_lay_24 : decode cX9_lay 24 = .ok (.istore_n 2, 1) := by decide +kernel
theorem dX9_lay_25 : decode cX9_lay 25 = .ok (.aload_n 0, 1) := by decide +kernel
theorem dX9_lay_26 : decode cX9_lay 26 = .ok (.getfield 235, 3) := by decide +kernel
theorem dX9_lay_29 : decode cX9_lay 29 = .ok (.ifCond .eq 10, 3) := by decide +kernel
theorem dX9_lay_32 : decode cX9_lay 32 = .ok (.aload_n 0, 1) := by decide +kernel
theorem dX9_lay_33 : decode cX9_lay 33 = .ok (.getfield 76, 3) := by decide +kernel
theorem dX9_lay_36 : decode cX9_lay 36 = .ok (.goto 7, 3) := by decide +kernel
theorem dX9_lay_39 : decode cX9_lay 39 = .ok (.aload_n 0, 1) := by decide +kernel
theorem dX9_lay_40 : decode cX9_lay 40 = .ok (.getfield 73, 3) := by decide +kernel
theorem dX9_lay_43 : decode cX9_lay 43 = .ok (.astore_n 3, 1) := by decide +kernel
theorem dX9_lay_44 : decode cX9_lay 44 = .ok (.aload_n 3, 1) := by decide +kernel
theorem dX9_lay_45 : decode cX9_lay 45 = .ok (.sipush 700, 3) := by decide +kernel
theorem dX9_lay_48 : decode cX9_lay 48 = .ok (.aload_n 0, 1) := by decide +kernel
theorem dX9_lay_49 : decode cX9_lay 49 = .ok (.getfield 50, 3) := by decide +kernel
theorem dX9_lay_52 : decode cX9_lay 52 = .ok (.iload_n 2, 1) := by decide +kernel
theorem dX9_lay_53 : decode cX9_lay 53 = .ok (.iaload, 1) := by decide +kernel
theorem dX9_lay_54 : decode cX9_lay 54 = .ok (.iadd, 1) := by decide +kernel
theorem dX9_lay_55 : decode cX9_lay 55 = .ok (.iload_n 1, 1) := by decide +kernel
theorem dX9_lay_56 : decode cX9_lay 56 = .ok (.iastore, 1) := by decide +kernel
theorem dX9_lay_57 : decode cX9_lay 57 = .ok (.aload_n 0, 1) := by decide +kernel
theorem dX9_lay_58 : decode cX9_lay 58 = .ok (.getfield 50, 3) := by decide +kernel
theorem dX9_lay_61 : decode cX9_lay 61 = .ok (.iload_n 2, 1) := by decide +kernel
theorem dX9_lay_62 : decode cX9_lay 62 = .ok (.dup2, 1) := by decide +kernel
theorem dX9_lay_63 : decode cX9_lay 63 = .ok (.iaload, 1) := by decide +kernel
theorem dX9_lay_64 : decode cX9_lay 64 = .ok (.iconst 1, 1) := by decide +kernel
theorem dX9_lay_65 : decode cX9_lay 65 = .ok (.iadd, 1) := by decide +kernel
theorem dX9_lay_66 : decode cX9_lay 66 = .ok (.iastore, 1) := by decide +kernel
theorem dX9_lay_67 : decode cX9_lay 67 = .ok (.return_, 1) := by decide +kernel
theorem dX9_readPart_0 : decode cX9_readPart 0 = .ok (.aload_n 0, 1) := by decide +kernel
theorem dX9_readPart_1 : decode cX9_readPart 1 = .ok (.getfield 201, 3) := by decide +kernel
theorem dX9_readPart_4 : decode cX9_readPart 4 = .ok (.ifCond .eq 4, 3) := by decide +kernel
theorem dX9_readPart_7 : decode cX9_readPart 7 = .ok (.return_, 1) := by decide +kernel
theorem dX9_readPart_8 : decode cX9_readPart 8 = .ok (.aload_n 0, 1) := by decide +kernel
theorem dX9_readPart_9 : decode cX9_readPart 9 = .ok (.getfield 175, 3) := by decide +kernel
theorem dX9_readPart_12 : decode cX9_readPart 12 = .ok (.iconst 2, 1) := by decide +kernel
theorem dX9_readPart_13 : decode cX9_readPart 13 = .ok (.if_icmp .ne 16, 3) := by decide +kernel
theorem dX9_readPart_16 : decode cX9_readPart 16 = .ok (.aload_n 0, 1) := by decide +kernel
theorem dX9_readPart_17 : decode cX9_readPart 17 = .ok (.aload_n 0, 1) := by decide +kernel
theorem dX9_readPart_18 : decode cX9_readPart 18 = .ok (.iconst 0, 1) := by decide +kernel
theorem dX9_readPart_19 : decode cX9_readPart 19 = .ok (.sipush 9999, 3) := by decide +kernel
theorem dX9_readPart_22 : decode cX9_readPart 22 = .ok (.invokevirtual 232, 3) := by decide +kernel
theorem dX9_readPart_25 : decode cX9_readPart 25 = .ok (.invokevirtual 239, 3) := by decide +kernel
theorem dX9_readPart_28 : decode cX9_readPart 28 = .ok (.return_, 1) := by decide +kernel
theorem dX9_readPart_29 : decode cX9_readPart 29 = .ok (.aload_n 0, 1) := by decide +kernel
theorem dX9_readPart_30 : decode cX9_readPart 30 = .ok (.getfield 175, 3) := by decide +kernel
theorem dX9_readPart_33 : decode cX9_readPart 33 = .ok (.iconst 1, 1) := by decide +kernel
theorem dX9_readPart_34 : decode cX9_readPart 34 = .ok (.if_icmp .ne 41, 3) := by decide +kernel
theorem dX9_readPart_37 : decode cX9_readPart 37 = .ok (.aload_n 0, 1) := by decide +kernel
theorem dX9_readPart_38 : decode cX9_readPart 38 = .ok (.aload_n 0, 1) := by decide +kernel
theorem dX9_readPart_39 : decode cX9_readPart 39 = .ok (.getfield 47, 3) := by decide +kernel
theorem dX9_readPart_42 : decode cX9_readPart 42 = .ok (.invokevirtual 242, 3) := by decide +kernel
theorem dX9_readPart_45 : decode cX9_readPart 45 = .ok (.istore_n 2, 1) := by decide +kernel
theorem dX9_readPart_46 : decode cX9_readPart 46 = .ok (.iload_n 2, 1) := by decide +kernel
theorem dX9_readPart_47 : decode cX9_readPart 47 = .ok (.iconst (-1), 1) := by decide +kernel
theorem dX9_readPart_48 : decode cX9_readPart 48 = .ok (.if_icmp .ne 8, 3) := by decide +kernel
theorem dX9_readPart_51 : decode cX9_readPart 51 = .ok (.aload_n 0, 1) := by decide +kernel
theorem dX9_readPart_52 : decode cX9_readPart 52 = .ok (.iconst 3, 1) := by decide +kernel
theorem dX9_readPart_53 : decode cX9_readPart 53 = .ok (.invokevirtual 222, 3) := by decide +kernel
theorem dX9_readPart_56 : decode cX9_readPart 56 = .ok (.aload_n 0, 1) := by decide +kernel
theorem dX9_readPart_57 : decode cX9_readPart 57 = .ok (.iconst (-1), 1) := by decide +kernel
theorem dX9_readPart_58 : decode cX9_readPart 58 = .ok (.iload_n 2, 1) := by decide +kernel
theorem dX9_readPart_59 : decode cX9_readPart 59 = .ok (.isub, 1) := by decide +kernel
theorem dX9_readPart_60 : decode cX9_readPart 60 = .ok (.invokevirtual 239, 3) := by decide +kernel
theorem dX9_readPart_63 : decode cX9_readPart 63 = .ok (.aload_n 0, 1) := by decide +kernel
theorem dX9_readPart_64 : decode cX9_readPart 64 = .ok (.getfield 201, 3) := by decide +kernel
theorem dX9_readPart_67 : decode cX9_readPart 67 = .ok (.ifCond .ne 7, 3) := by decide +kernel
theorem dX9_readPart_70 : decode cX9_readPart 70 = .ok (.aload_n 0, 1) := by decide +kernel
theorem dX9_readPart_71 : decode cX9_readPart 71 = .ok (.invokevirtual 226, 3) := by decide +kernel
theorem dX9_readPart_74 : decode cX9_readPart 74 = .ok (.return_, 1) := by decide +kernel
theorem dX9_readPart_75 : decode cX9_readPart 75 = .ok (.aload_n 0, 1) := by decide +kernel
theorem dX9_readPart_76 : decode cX9_readPart 76 = .ok (.bipush 40, 2) := by decide +kernel
theorem dX9_readPart_78 : decode cX9_readPart 78 = .ok (.invokevirtual 246, 3) := by decide +kernel
theorem dX9_readPart_81 : decode cX9_readPart 81 = .ok (.aload_n 0, 1) := by decide +kernel
theorem dX9_readPart_82 : decode cX9_readPart 82 = .ok (.iload_n 1, 1) := by decide +kernel
theorem dX9_readPart_83 : decode cX9_readPart 83 = .ok (.iconst 1, 1) := by decide +kernel
theorem dX9_readPart_84 : decode cX9_readPart 84 = .ok (.iadd, 1) := by decide +kernel
theorem dX9_readPart_85 : decode cX9_readPart 85 = .ok (.invokevirtual 249, 3) := by decide +kernel
theorem dX9_readPart_88 : decode cX9_readPart 88 = .ok (.aload_n 0, 1) := by decide +kernel
theorem dX9_readPart_89 : decode cX9_readPart 89 = .ok (.bipush 41, 2) := by decide +kernel
theorem dX9_readPart_91 : decode cX9_readPart 91 = .ok (.invokevirtual 246, 3) := by decide +kernel
theorem dX9_readPart_94 : decode cX9_readPart 94 = .ok (.return_, 1) := by decide +kernel
theorem dX9_readProduct_0 : decode cX9_readProduct 0 = .ok (.aload_n 0, 1) := by decide +kernel
theorem dX9_readProduct_1 : decode cX9_readProduct 1 = .ok (.iload_n 1, 1) := by decide +kernel
theorem dX9_readProduct_2 : decode cX9_readProduct 2 = .ok (.invokevirtual 252, 3) := by decide +kernel
theorem dX9_readProduct_5 : decode cX9_readProduct 5 = .ok (.aload_n 0, 1) := by decide +kernel
theorem dX9_readProduct_6 : decode cX9_readProduct 6 = .ok (.bipush 42, 2) := by decide +kernel
theorem dX9_readProduct_8 : decode cX9_readProduct 8 = .ok (.invokevirtual 219, 3) := by decide +kernel
theorem dX9_readProduct_11 : decode cX9_readProduct 11 = .ok (.ifCond .ne 12, 3) := by decide +kernel
theorem dX9_readProduct_14 : decode cX9_readProduct 14 = .ok (.aload_n 0, 1) := by decide +kernel
theorem dX9_readProduct_15 : decode cX9_readProduct 15 = .ok (.bipush 47, 2) := by decide +kernel
theorem dX9_readProduct_17 : decode cX9_readProduct 17 = .ok (.invokevirtual 219, 3) := by decide +kernel
theorem dX9_readProduct_20 : decode cX9_readProduct 20 = .ok (.ifCond .eq 37, 3) := by decide +kernel
theorem dX9_readProduct_23 : decode cX9_readProduct 23 = .ok (.aload_n 0, 1) := by decide +kernel
theorem dX9_readProduct_24 : decode cX9_readProduct 24 = .ok (.bipush 42, 2) := by decide +kernel
theorem dX9_readProduct_26 : decode cX9_readProduct 26 = .ok (.invokevirtual 219, 3) := by decide +kernel
theorem dX9_readProduct_29 : decode cX9_readProduct 29 = .ok (.ifCond .eq 8, 3) := by decide +kernel
theorem dX9_readProduct_32 : decode cX9_readProduct 32 = .ok (.bipush (-22), 2) := by decide +kernel
theorem dX9_readProduct_34 : decode cX9_readProduct 34 = .ok (.goto 5, 3) := by decide +kernel
theorem dX9_readProduct_37 : decode cX9_readProduct 37 = .ok (.bipush (-23), 2) := by decide +kernel
theorem dX9_readProduct_39 : decode cX9_readProduct 39 = .ok (.istore_n 2, 1) := by decide +kernel
theorem dX9_readProduct_40 : decode cX9_readProduct 40 = .ok (.aload_n 0, 1) := by decide +kernel
theorem dX9_readProduct_41 : decode cX9_readProduct 41 = .ok (.invokevirtual 226, 3) := by decide +kernel
theorem dX9_readProduct_44 : decode cX9_readProduct 44 = .ok (.aload_n 0, 1) := by decide +kernel
theorem dX9_readProduct_45 : decode cX9_readProduct 45 = .ok (.iload_n 1, 1) := by decide +kernel
theorem dX9_readProduct_46 : decode cX9_readProduct 46 = .ok (.invokevirtual 252, 3) := by decide +kernel
theorem dX9_readProduct_49 : decode cX9_readProduct 49 = .ok (.aload_n 0, 1) := by decide +kernel
theorem dX9_readProduct_50 : decode cX9_readProduct 50 = .ok (.iload_n 2, 1) := by decide +kernel
theorem dX9_readProduct_51 : decode cX9_readProduct 51 = .ok (.invokevirtual 239, 3) := by decide +kernel
theorem dX9_readProduct_54 : decode cX9_readProduct 54 = .ok (.goto (-49), 3) := by decide +kernel
theorem dX9_readProduct_57 : decode cX9_readProduct 57 = .ok (.return_, 1) := by decide +kernel
theorem dX9_readSum_0 : decode cX9_readSum 0 = .ok (.aload_n 0, 1) := by decide +kernel
theorem dX9_readSum_1 : decode cX9_readSum 1 = .ok (.iload_n 1, 1) := by decide +kernel
theorem dX9_readSum_2 : decode cX9_readSum 2 = .ok (.invokevirtual 255, 3) := by decide +kernel
theorem dX9_readSum_5 : decode cX9_readSum 5 = .ok (.aload_n 0, 1) := by decide +kernel
theorem dX9_readSum_6 : decode cX9_readSum 6 = .ok (.bipush 43, 2) := by decide +kernel
theorem dX9_readSum_8 : decode cX9_readSum 8 = .ok (.invokevirtual 219, 3) := by decide +kernel
theorem dX9_readSum_11 : decode cX9_readSum 11 = .ok (.ifCond .ne 12, 3) := by decide +kernel
theorem dX9_readSum_14 : decode cX9_readSum 14 = .ok (.aload_n 0, 1) := by decide +kernel
theorem dX9_readSum_15 : decode cX9_readSum 15 = .ok (.bipush 45, 2) := by decide +kernel
theorem dX9_readSum_17 : decode cX9_readSum 17 = .ok (.invokevirtual 219, 3) := by decide +kernel
theorem dX9_readSum_20 : decode cX9_readSum 20 = .ok (.ifCond .eq 37, 3) := by decide +kernel
theorem dX9_readSum_23 : decode cX9_readSum 23 = .ok (.aload_n 0, 1) := by decide +kernel
theorem dX9_readSum_24 : decode cX9_readSum 24 = .ok (.bipush 43, 2) := by decide +kernel
theorem dX9_readSum_26 : decode cX9_readSum 26 = .ok (.invokevirtual 219, 3) := by decide +kernel
theorem dX9_readSum_29 : decode cX9_readSum 29 = .ok (.ifCond .eq 8, 3) := by decide +kernel
theorem dX9_readSum_32 : decode cX9_readSum 32 = .ok (.bipush (-20), 2) := by decide +kernel
theorem dX9_readSum_34 : decode cX9_readSum 34 = .ok (.goto 5, 3) := by decide +kernel
theorem dX9_readSum_37 : decode cX9_readSum 37 = .ok (.bipush (-21), 2) := by decide +kernel
theorem dX9_readSum_39 : decode cX9_readSum 39 = .ok (.istore_n 2, 1) := by decide +kernel
theorem dX9_readSum_40 : decode cX9_readSum 40 = .ok (.aload_n 0, 1) := by decide +kernel
theorem dX9_readSum_41 : decode cX9_readSum 41 = .ok (.invokevirtual 226, 3) := by decide +kernel
theorem dX9_readSum_44 : decode cX9_readSum 44 = .ok (.aload_n 0, 1) := by decide +kernel
theorem dX9_readSum_45 : decode cX9_readSum 45 = .ok (.iload_n 1, 1) := by decide +kernel
theorem dX9_readSum_46 : decode cX9_readSum 46 = .ok (.invokevirtual 255, 3) := by decide +kernel
theorem dX9_readSum_49 : decode cX9_readSum 49 = .ok (.aload_n 0, 1) := by decide +kernel
theorem dX9_readSum_50 : decode cX9_readSum 50 = .ok (.iload_n 2, 1) := by decide +kernel
theorem dX9_readSum_51 : decode cX9_readSum 51 = .ok (.invokevirtual 239, 3) := by decide +kernel
theorem dX9_readSum_54 : decode cX9_readSum 54 = .ok (.goto (-49), 3) := by decide +kernel
theorem dX9_readSum_57 : decode cX9_readSum 57 = .ok (.return_, 1) := by decide +kernel
theorem dX9_readNot_0 : decode cX9_readNot 0 = .ok (.iconst 0, 1) := by decide +kernel
theorem dX9_readNot_1 : decode cX9_readNot 1 = .ok (.istore_n 2, 1) := by decide +kernel
theorem dX9_readNot_2 : decode cX9_readNot 2 = .ok (.aload_n 0, 1) := by decide +kernel
theorem dX9_readNot_3 : decode cX9_readNot 3 = .ok (.ldc_w 258, 3) := by decide +kernel
theorem dX9_readNot_6 : decode cX9_readNot 6 = .ok (.invokevirtual 215, 3) := by decide +kernel
theorem dX9_readNot_9 : decode cX9_readNot 9 = .ok (.ifCond .eq 31, 3) := by decide +kernel
theorem dX9_readNot_12 : decode cX9_readNot 12 = .ok (.iload_n 2, 1) := by decide +kernel
theorem dX9_readNot_13 : decode cX9_readNot 13 = .ok (.bipush 6, 2) := by decide +kernel
theorem dX9_readNot_15 : decode cX9_readNot 15 = .ok (.if_icmp .ne 8, 3) := by decide +kernel
theorem dX9_readNot_18 : decode cX9_readNot 18 = .ok (.aload_n 0, 1) := by decide +kernel
theorem dX9_readNot_19 : decode cX9_readNot 19 = .ok (.iconst 2, 1) := by decide +kernel
theorem dX9_readNot_20 : decode cX9_readNot 20 = .ok (.invokevirtual 222, 3) := by decide +kernel
theorem dX9_readNot_23 : decode cX9_readNot 23 = .ok (.iinc 2 1, 3) := by decide +kernel
theorem dX9_readNot_26 : decode cX9_readNot 26 = .ok (.aload_n 0, 1) := by decide +kernel
theorem dX9_readNot_27 : decode cX9_readNot 27 = .ok (.getfield 201, 3) := by decide +kernel
theorem dX9_readNot_30 : decode cX9_readNot 30 = .ok (.ifCond .ne (-28), 3) := by decide +kernel
theorem dX9_readNot_33 : decode cX9_readNot 33 = .ok (.aload_n 0, 1) := by decide +kernel
theorem dX9_readNot_34 : decode cX9_readNot 34 = .ok (.invokevirtual 226, 3) := by decide +kernel
theorem dX9_readNot_37 : decode cX9_readNot 37 = .ok (.goto (-35), 3) := by decide +kernel
theorem dX9_readNot_40 : decode cX9_readNot 40 = .ok (.aload_n 0, 1) := by decide +kernel
theorem dX9_readNot_41 : decode cX9_readNot 41 = .ok (.iload_n 1, 1) := by decide +kernel
theorem dX9_readNot_42 : decode cX9_readNot 42 = .ok (.invokevirtual 260, 3) := by decide +kernel
theorem dX9_readNot_45 : decode cX9_readNot 45 = .ok (.aload_n 0, 1) := by decide +kernel
theorem dX9_readNot_46 : decode cX9_readNot 46 = .ok (.bipush 60, 2) := by decide +kernel
theorem dX9_readNot_48 : decode cX9_readNot 48 = .ok (.invokevirtual 219, 3) := by decide +kernel
theorem dX9_readNot_51 : decode cX9_readNot 51 = .ok (.ifCond .ne 12, 3) := by decide +kernel
theorem dX9_readNot_54 : decode cX9_readNot 54 = .ok (.aload_n 0, 1) := by decide +kernel
theorem dX9_readNot_55 : decode cX9_readNot 55 = .ok (.bipush 61, 2) := by decide +kernel
theorem dX9_readNot_57 : decode cX9_readNot 57 = .ok (.invokevirtual 219, 3) := by decide +kernel
theorem dX9_readNot_60 : decode cX9_readNot 60 = .ok (.ifCond .eq 34, 3) := by decide +kernel
theorem dX9_readNot_63 : decode cX9_readNot 63 = .ok (.aload_n 0, 1) := by decide +kernel
theorem dX9_readNot_64 : decode cX9_readNot 64 = .ok (.bipush 60, 2) := by decide +kernel
theorem dX9_readNot_66 : decode cX9_readNot 66 = .ok (.invokevirtual 219, 3) := by decide +kernel
theorem dX9_readNot_69 : decode cX9_readNot 69 = .ok (.ifCond .eq 8, 3) := by decide +kernel
theorem dX9_readNot_72 : decode cX9_readNot 72 = .ok (.bipush (-24), 2) := by decide +kernel
theorem dX9_readNot_74 : decode cX9_readNot 74 = .ok (.goto 5, 3) := by decide +kernel
theorem dX9_readNot_77 : decode cX9_readNot 77 = .ok (.bipush (-25), 2) := by decide +kernel
theorem dX9_readNot_79 : decode cX9_readNot 79 = .ok (.istore_n 3, 1) := by decide +kernel
theorem dX9_readNot_80 : decode cX9_readNot 80 = .ok (.aload_n 0, 1) := by decide +kernel
theorem dX9_readNot_81 : decode cX9_readNot 81 = .ok (.invokevirtual 226, 3) := by decide +kernel
theorem dX9_readNot_84 : decode cX9_readNot 84 = .ok (.aload_n 0, 1) := by decide +kernel
theorem dX9_readNot_85 : decode cX9_readNot 85 = .ok (.iload_n 1, 1) := by decide +kernel
theorem dX9_readNot_86 : decode cX9_readNot 86 = .ok (.invokevirtual 260, 3) := by decide +kernel
theorem dX9_readNot_89 : decode cX9_readNot 89 = .ok (.aload_n 0, 1) := by decide +kernel
theorem dX9_readNot_90 : decode cX9_readNot 90 = .ok (.iload_n 3, 1) := by decide +kernel
theorem dX9_readNot_91 : decode cX9_readNot 91 = .ok (.invokevirtual 239, 3) := by decide +kernel
theorem dX9_readNot_94 : decode cX9_readNot 94 = .ok (.iconst 0, 1) := by decide +kernel
theorem dX9_readNot_95 : decode cX9_readNot 95 = .ok (.istore_n 3, 1) := by decide +kernel
theorem dX9_readNot_96 : decode cX9_readNot 96 = .ok (.iload_n 3, 1) := by decide +kernel
theorem dX9_readNot_97 : decode cX9_readNot 97 = .ok (.iload_n 2, 1) := by decide +kernel
theorem dX9_readNot_98 : decode cX9_readNot 98 = .ok (.if_icmp .ge 15, 3) := by decide +kernel
theorem dX9_readNot_101 : decode cX9_readNot 101 = .ok (.aload_n 0, 1) := by decide +kernel
theorem dX9_readNot_102 : decode cX9_readNot 102 = .ok (.bipush (-28), 2) := by decide +kernel
theorem dX9_readNot_104 : decode cX9_readNot 104 = .ok (.invokevirtual 239, 3) := by decide +kernel
theorem dX9_readNot_107 : decode cX9_readNot 107 = .ok (.iinc 3 1, 3) := by decide +kernel
theorem dX9_readNot_110 : decode cX9_readNot 110 = .ok (.goto (-14), 3) := by decide +kernel
theorem dX9_readNot_113 : decode cX9_readNot 113 = .ok (.return_, 1) := by decide +kernel
theorem dX9_readAnd_0 : decode cX9_readAnd 0 = .ok (.aload_n 0, 1) := by decide +kernel
theorem dX9_readAnd_1 : decode cX9_readAnd 1 = .ok (.iload_n 1, 1) := by decide +kernel
theorem dX9_readAnd_2 : decode cX9_readAnd 2 = .ok (.invokevirtual 263, 3) := by decide +kernel
theorem dX9_readAnd_5 : decode cX9_readAnd 5 = .ok (.aload_n 0, 1) := by decide +kernel
theorem dX9_readAnd_6 : decode cX9_readAnd 6 = .ok (.ldc_w 266, 3) := by decide +kernel
theorem dX9_readAnd_9 : decode cX9_readAnd 9 = .ok (.invokevirtual 215, 3) := by decide +kernel
theorem dX9_readAnd_12 : decode cX9_readAnd 12 = .ok (.ifCond .eq 21, 3) := by decide +kernel
theorem dX9_readAnd_15 : decode cX9_readAnd 15 = .ok (.aload_n 0, 1) := by decide +kernel
theorem dX9_readAnd_16 : decode cX9_readAnd 16 = .ok (.invokevirtual 226, 3) := by decide +kernel
theorem dX9_readAnd_19 : decode cX9_readAnd 19 = .ok (.aload_n 0, 1) := by decide +kernel
theorem dX9_readAnd_20 : decode cX9_readAnd 20 = .ok (.iload_n 1, 1) := by decide +kernel
theorem dX9_readAnd_21 : decode cX9_readAnd 21 = .ok (.invokevirtual 263, 3) := by decide +kernel
theorem dX9_readAnd_24 : decode cX9_readAnd 24 = .ok (.aload_n 0, 1) := by decide +kernel
theorem dX9_readAnd_25 : decode cX9_readAnd 25 = .ok (.bipush (-26), 2) := by decide +kernel
theorem dX9_readAnd_27 : decode cX9_readAnd 27 = .ok (.invokevirtual 239, 3) := by decide +kernel
theorem dX9_readAnd_30 : decode cX9_readAnd 30 = .ok (.goto (-25), 3) := by decide +kernel
theorem dX9_readAnd_33 : decode cX9_readAnd 33 = .ok (.return_, 1) := by decide +kernel
theorem dX9_readExpression_0 : decode cX9_readExpression 0 = .ok (.aload_n 0, 1) := by decide +kernel
theorem dX9_readExpression_1 : decode cX9_readExpression 1 = .ok (.getfield 201, 3) := by decide +kernel
theorem dX9_readExpression_4 : decode cX9_readExpression 4 = .ok (.ifCond .eq 4, 3) := by decide +kernel
theorem dX9_readExpression_7 : decode cX9_readExpression 7 = .ok (.return_, 1) := by decide +kernel
theorem dX9_readExpression_8 : decode cX9_readExpression 8 = .ok (.aload_n 0, 1) := by decide +kernel
theorem dX9_readExpression_9 : decode cX9_readExpression 9 = .ok (.getfield 175, 3) := by decide +kernel
theorem dX9_readExpression_12 : decode cX9_readExpression 12 = .ok (.iconst 2, 1) := by decide +kernel
theorem dX9_readExpression_13 : decode cX9_readExpression 13 = .ok (.if_icmp .eq 20, 3) := by decide +kernel
theorem dX9_readExpression_16 : decode cX9_readExpression 16 = .ok (.aload_n 0, 1) := by decide +kernel
theorem dX9_readExpression_17 : decode cX9_readExpression 17 = .ok (.getfield 175, 3) := by decide +kernel
theorem dX9_readExpression_20 : decode cX9_readExpression 20 = .ok (.iconst 1, 1) := by decide +kernel
theorem dX9_readExpression_21 : decode cX9_readExpression 21 = .ok (.if_icmp .eq 12, 3) := by decide +kernel
theorem dX9_readExpression_24 : decode cX9_readExpression 24 = .ok (.aload_n 0, 1) := by decide +kernel
theorem dX9_readExpression_25 : decode cX9_readExpression 25 = .ok (.bipush 40, 2) := by decide +kernel
theorem dX9_readExpression_27 : decode cX9_readExpression 27 = .ok (.invokevirtual 219, 3) := by decide +kernel
theorem dX9_readExpression_30 : decode cX9_readExpression 30 = .ok (.ifCond .eq 7, 3) := by decide +kernel
theorem dX9_readExpression_33 : decode cX9_readExpression 33 = .ok (.iconst 1, 1) := by decide +kernel
theorem dX9_readExpression_34 : decode cX9_readExpression 34 = .ok (.goto 4, 3) := by decide +kernel
theorem dX9_readExpression_37 : decode cX9_readExpression 37 = .ok (.iconst 0, 1) := by decide +kernel
theorem dX9_readExpression_38 : decode cX9_readExpression 38 = .ok (.istore_n 2, 1) := by decide +kernel
theorem dX9_readExpression_39 : decode cX9_readExpression 39 = .ok (.iload_n 2, 1) := by decide +kernel
theorem dX9_readExpression_40 : decode cX9_readExpression 40 = .ok (.ifCond .ne 11, 3) := by decide +kernel
theorem dX9_readExpression_43 : decode cX9_readExpression 43 = .ok (.aload_n 0, 1) := by decide +kernel
theorem dX9_readExpression_44 : decode cX9_readExpression 44 = .ok (.iconst 1, 1) := by decide +kernel
theorem dX9_readExpression_45 : decode cX9_readExpression 45 = .ok (.invokevirtual 222, 3) := by decide +kernel
theorem dX9_readExpression_48 : decode cX9_readExpression 48 = .ok (.goto 14, 3) := by decide +kernel
theorem dX9_readExpression_51 : decode cX9_readExpression 51 = .ok (.iload_n 1, 1) := by decide +kernel
theorem dX9_readExpression_52 : decode cX9_readExpression 52 = .ok (.bipush 6, 2) := by decide +kernel
theorem dX9_readExpression_54 : decode cX9_readExpression 54 = .ok (.if_icmp .ne 8, 3) := by decide +kernel
theorem dX9_readExpression_57 : decode cX9_readExpression 57 = .ok (.aload_n 0, 1) := by decide +kernel
theorem dX9_readExpression_58 : decode cX9_readExpression 58 = .ok (.iconst 2, 1) := by decide +kernel
theorem dX9_readExpression_59 : decode cX9_readExpression 59 = .ok (.invokevirtual 222, 3) := by decide +kernel
theorem dX9_readExpression_62 : decode cX9_readExpression 62 = .ok (.aload_n 0, 1) := by decide +kernel
theorem dX9_readExpression_63 : decode cX9_readExpression 63 = .ok (.iload_n 1, 1) := by decide +kernel
theorem dX9_readExpression_64 : decode cX9_readExpression 64 = .ok (.invokevirtual 268, 3) := by decide +kernel
theorem dX9_readExpression_67 : decode cX9_readExpression 67 = .ok (.aload_n 0, 1) := by decide +kernel
theorem dX9_readExpression_68 : decode cX9_readExpression 68 = .ok (.ldc_w 271, 3) := by decide +kernel
theorem dX9_readExpression_71 : decode cX9_readExpression 71 = .ok (.invokevirtual 215, 3) := by decide +kernel
theorem dX9_readExpression_74 : decode cX9_readExpression 74 = .ok (.ifCond .eq 21, 3) := by decide +kernel
theorem dX9_readExpression_77 : decode cX9_readExpression 77 = .ok (.aload_n 0, 1) := by decide +kernel
theorem dX9_readExpression_78 : decode cX9_readExpression 78 = .ok (.invokevirtual 226, 3) := by decide +kernel
theorem dX9_readExpression_81 : decode cX9_readExpression 81 = .ok (.aload_n 0, 1) := by decide +kernel
theorem dX9_readExpression_82 : decode cX9_readExpression 82 = .ok (.iload_n 1, 1) := by decide +kernel
theorem dX9_readExpression_83 : decode cX9_readExpression 83 = .ok (.invokevirtual 268, 3) := by decide +kernel
