theorem dL_order_15 : decode cL_order 15 = .ok (.iconst 0, 1) := by decide +kernel
theorem dL_order_16 : decode cL_order 16 = .ok (.ireturn, 1) := by decide +kernel
theorem dL_bribery_0 : decode cL_bribery 0 = .ok (.aload_n 3, 1) := by decide +kernel
theorem dL_bribery_1 : decode cL_bribery 1 = .ok (.iconst 0, 1) := by decide +kernel
theorem dL_bribery_2 : decode cL_bribery 2 = .ok (.aload_n 0, 1) := by decide +kernel
theorem dL_bribery_3 : decode cL_bribery 3 = .ok (.iload_n 1, 1) := by decide +kernel
theorem dL_bribery_4 : decode cL_bribery 4 = .ok (.iload_n 2, 1) := by decide +kernel
theorem dL_bribery_5 : decode cL_bribery 5 = .ok (.invokevirtual 63, 3) := by decide +kernel
theorem dL_bribery_8 : decode cL_bribery 8 = .ok (.i2l, 1) := by decide +kernel
theorem dL_bribery_9 : decode cL_bribery 9 = .ok (.lastore, 1) := by decide +kernel
theorem dL_bribery_10 : decode cL_bribery 10 = .ok (.goto 11, 3) := by decide +kernel
theorem dL_bribery_13 : decode cL_bribery 13 = .ok (.astore 4, 2) := by decide +kernel
theorem dL_bribery_15 : decode cL_bribery 15 = .ok (.iconst 1, 1) := by decide +kernel
theorem dL_bribery_16 : decode cL_bribery 16 = .ok (.ireturn, 1) := by decide +kernel
theorem dL_bribery_17 : decode cL_bribery 17 = .ok (.astore 4, 2) := by decide +kernel
theorem dL_bribery_19 : decode cL_bribery 19 = .ok (.iconst 2, 1) := by decide +kernel
theorem dL_bribery_20 : decode cL_bribery 20 = .ok (.ireturn, 1) := by decide +kernel
theorem dL_bribery_21 : decode cL_bribery 21 = .ok (.iconst 0, 1) := by decide +kernel
theorem dL_bribery_22 : decode cL_bribery 22 = .ok (.ireturn, 1) := by decide +kernel
theorem dL_needs_0 : decode cL_needs 0 = .ok (.aload_n 2, 1) := by decide +kernel
theorem dL_needs_1 : decode cL_needs 1 = .ok (.iconst 0, 1) := by decide +kernel
theorem dL_needs_2 : decode cL_needs 2 = .ok (.aload_n 0, 1) := by decide +kernel
theorem dL_needs_3 : decode cL_needs 3 = .ok (.iload_n 1, 1) := by decide +kernel
theorem dL_needs_4 : decode cL_needs 4 = .ok (.invokevirtual 66, 3) := by decide +kernel
theorem dL_needs_7 : decode cL_needs 7 = .ok (.i2l, 1) := by decide +kernel
theorem dL_needs_8 : decode cL_needs 8 = .ok (.lastore, 1) := by decide +kernel
theorem dL_needs_9 : decode cL_needs 9 = .ok (.goto 6, 3) := by decide +kernel
theorem dL_needs_12 : decode cL_needs 12 = .ok (.astore_n 3, 1) := by decide +kernel
theorem dL_needs_13 : decode cL_needs 13 = .ok (.iconst 1, 1) := by decide +kernel
theorem dL_needs_14 : decode cL_needs 14 = .ok (.ireturn, 1) := by decide +kernel
theorem dL_needs_15 : decode cL_needs 15 = .ok (.iconst 0, 1) := by decide +kernel
theorem dL_needs_16 : decode cL_needs 16 = .ok (.ireturn, 1) := by decide +kernel
theorem dL_allies_0 : decode cL_allies 0 = .ok (.aload_n 3, 1) := by decide +kernel
theorem dL_allies_1 : decode cL_allies 1 = .ok (.iconst 0, 1) := by decide +kernel
theorem dL_allies_2 : decode cL_allies 2 = .ok (.aload_n 0, 1) := by decide +kernel
theorem dL_allies_3 : decode cL_allies 3 = .ok (.iload_n 1, 1) := by decide +kernel
theorem dL_allies_4 : decode cL_allies 4 = .ok (.iload_n 2, 1) := by decide +kernel
theorem dL_allies_5 : decode cL_allies 5 = .ok (.invokevirtual 69, 3) := by decide +kernel
theorem dL_allies_8 : decode cL_allies 8 = .ok (.i2l, 1) := by decide +kernel
theorem dL_allies_9 : decode cL_allies 9 = .ok (.lastore, 1) := by decide +kernel
theorem dL_allies_10 : decode cL_allies 10 = .ok (.goto 7, 3) := by decide +kernel
theorem dL_allies_13 : decode cL_allies 13 = .ok (.astore 4, 2) := by decide +kernel
theorem dL_allies_15 : decode cL_allies 15 = .ok (.iconst 1, 1) := by decide +kernel
theorem dL_allies_16 : decode cL_allies 16 = .ok (.ireturn, 1) := by decide +kernel
theorem dL_allies_17 : decode cL_allies 17 = .ok (.iconst 0, 1) := by decide +kernel
theorem dL_allies_18 : decode cL_allies 18 = .ok (.ireturn, 1) := by decide +kernel
theorem dL_passing_0 : decode cL_passing 0 = .ok (.aload_n 2, 1) := by decide +kernel
theorem dL_passing_1 : decode cL_passing 1 = .ok (.iconst 0, 1) := by decide +kernel
theorem dL_passing_2 : decode cL_passing 2 = .ok (.aload_n 0, 1) := by decide +kernel
theorem dL_passing_3 : decode cL_passing 3 = .ok (.iload_n 1, 1) := by decide +kernel
theorem dL_passing_4 : decode cL_passing 4 = .ok (.invokevirtual 72, 3) := by decide +kernel
theorem dL_passing_7 : decode cL_passing 7 = .ok (.i2l, 1) := by decide +kernel
theorem dL_passing_8 : decode cL_passing 8 = .ok (.lastore, 1) := by decide +kernel
theorem dL_passing_9 : decode cL_passing 9 = .ok (.goto 6, 3) := by decide +kernel
theorem dL_passing_12 : decode cL_passing 12 = .ok (.astore_n 3, 1) := by decide +kernel
theorem dL_passing_13 : decode cL_passing 13 = .ok (.iconst 1, 1) := by decide +kernel
theorem dL_passing_14 : decode cL_passing 14 = .ok (.ireturn, 1) := by decide +kernel
theorem dL_passing_15 : decode cL_passing 15 = .ok (.iconst 0, 1) := by decide +kernel
theorem dL_passing_16 : decode cL_passing 16 = .ok (.ireturn, 1) := by decide +kernel
theorem dL_toOil_0 : decode cL_toOil 0 = .ok (.aload_n 2, 1) := by decide +kernel
theorem dL_toOil_1 : decode cL_toOil 1 = .ok (.iconst 0, 1) := by decide +kernel
theorem dL_toOil_2 : decode cL_toOil 2 = .ok (.aload_n 0, 1) := by decide +kernel
theorem dL_toOil_3 : decode cL_toOil 3 = .ok (.iload_n 1, 1) := by decide +kernel
theorem dL_toOil_4 : decode cL_toOil 4 = .ok (.invokevirtual 75, 3) := by decide +kernel
theorem dL_toOil_7 : decode cL_toOil 7 = .ok (.i2l, 1) := by decide +kernel
theorem dL_toOil_8 : decode cL_toOil 8 = .ok (.lastore, 1) := by decide +kernel
theorem dL_toOil_9 : decode cL_toOil 9 = .ok (.goto 6, 3) := by decide +kernel
theorem dL_toOil_12 : decode cL_toOil 12 = .ok (.astore_n 3, 1) := by decide +kernel
theorem dL_toOil_13 : decode cL_toOil 13 = .ok (.iconst 1, 1) := by decide +kernel
theorem dL_toOil_14 : decode cL_toOil 14 = .ok (.ireturn, 1) := by decide +kernel
theorem dL_toOil_15 : decode cL_toOil 15 = .ok (.iconst 0, 1) := by decide +kernel
theorem dL_toOil_16 : decode cL_toOil 16 = .ok (.ireturn, 1) := by decide +kernel
theorem dL_hush_0 : decode cL_hush 0 = .ok (.aload_n 3, 1) := by decide +kernel
theorem dL_hush_1 : decode cL_hush 1 = .ok (.iconst 0, 1) := by decide +kernel
theorem dL_hush_2 : decode cL_hush 2 = .ok (.aload_n 0, 1) := by decide +kernel
theorem dL_hush_3 : decode cL_hush 3 = .ok (.iload_n 1, 1) := by decide +kernel
theorem dL_hush_4 : decode cL_hush 4 = .ok (.iload_n 2, 1) := by decide +kernel
theorem dL_hush_5 : decode cL_hush 5 = .ok (.invokevirtual 78, 3) := by decide +kernel
theorem dL_hush_8 : decode cL_hush 8 = .ok (.i2l, 1) := by decide +kernel
theorem dL_hush_9 : decode cL_hush 9 = .ok (.lastore, 1) := by decide +kernel
theorem dL_hush_10 : decode cL_hush 10 = .ok (.goto 11, 3) := by decide +kernel
theorem dL_hush_13 : decode cL_hush 13 = .ok (.astore 4, 2) := by decide +kernel
theorem dL_hush_15 : decode cL_hush 15 = .ok (.iconst 1, 1) := by decide +kernel
theorem dL_hush_16 : decode cL_hush 16 = .ok (.ireturn, 1) := by decide +kernel
theorem dL_hush_17 : decode cL_hush 17 = .ok (.astore 4, 2) := by decide +kernel
theorem dL_hush_19 : decode cL_hush 19 = .ok (.iconst 2, 1) := by decide +kernel
theorem dL_hush_20 : decode cL_hush 20 = .ok (.ireturn, 1) := by decide +kernel
theorem dL_hush_21 : decode cL_hush 21 = .ok (.iconst 0, 1) := by decide +kernel
theorem dL_hush_22 : decode cL_hush 22 = .ok (.ireturn, 1) := by decide +kernel
theorem dL_word_0 : decode cL_word 0 = .ok (.aload_n 2, 1) := by decide +kernel
theorem dL_word_1 : decode cL_word 1 = .ok (.iconst 0, 1) := by decide +kernel
theorem dL_word_2 : decode cL_word 2 = .ok (.aload_n 0, 1) := by decide +kernel
theorem dL_word_3 : decode cL_word 3 = .ok (.iload_n 1, 1) := by decide +kernel
theorem dL_word_4 : decode cL_word 4 = .ok (.invokevirtual 81, 3) := by decide +kernel
theorem dL_word_7 : decode cL_word 7 = .ok (.i2l, 1) := by decide +kernel
theorem dL_word_8 : decode cL_word 8 = .ok (.lastore, 1) := by decide +kernel
theorem dL_word_9 : decode cL_word 9 = .ok (.goto 6, 3) := by decide +kernel
theorem dL_word_12 : decode cL_word 12 = .ok (.astore_n 3, 1) := by decide +kernel
theorem dL_word_13 : decode cL_word 13 = .ok (.iconst 1, 1) := by decide +kernel
theorem dL_word_14 : decode cL_word 14 = .ok (.ireturn, 1) := by decide +kernel
theorem dL_word_15 : decode cL_word 15 = .ok (.iconst 0, 1) := by decide +kernel
theorem dL_word_16 : decode cL_word 16 = .ok (.ireturn, 1) := by decide +kernel
theorem dL_heldUp_0 : decode cL_heldUp 0 = .ok (.aload_n 2, 1) := by decide +kernel
theorem dL_heldUp_1 : decode cL_heldUp 1 = .ok (.iconst 0, 1) := by decide +kernel
theorem dL_heldUp_2 : decode cL_heldUp 2 = .ok (.aload_n 0, 1) := by decide +kernel
theorem dL_heldUp_3 : decode cL_heldUp 3 = .ok (.iload_n 1, 1) := by decide +kernel
theorem dL_heldUp_4 : decode cL_heldUp 4 = .ok (.invokevirtual 84, 3) := by decide +kernel
theorem dL_heldUp_7 : decode cL_heldUp 7 = .ok (.i2l, 1) := by decide +kernel
theorem dL_heldUp_8 : decode cL_heldUp 8 = .ok (.lastore, 1) := by decide +kernel
theorem dL_heldUp_9 : decode cL_heldUp 9 = .ok (.goto 6, 3) := by decide +kernel
theorem dL_heldUp_12 : decode cL_heldUp 12 = .ok (.astore_n 3, 1) := by decide +kernel
theorem dL_heldUp_13 : decode cL_heldUp 13 = .ok (.iconst 1, 1) := by decide +kernel
theorem dL_heldUp_14 : decode cL_heldUp 14 = .ok (.ireturn, 1) := by decide +kernel
theorem dL_heldUp_15 : decode cL_heldUp 15 = .ok (.iconst 0, 1) := by decide +kernel
theorem dL_heldUp_16 : decode cL_heldUp 16 = .ok (.ireturn, 1) := by decide +kernel
theorem dL_fouled_0 : decode cL_fouled 0 = .ok (.aload_n 2, 1) := by decide +kernel
theorem dL_fouled_1 : decode cL_fouled 1 = .ok (.iconst 0, 1) := by decide +kernel
theorem dL_fouled_2 : decode cL_fouled 2 = .ok (.aload_n 0, 1) := by decide +kernel
theorem dL_fouled_3 : decode cL_fouled 3 = .ok (.iload_n 1, 1) := by decide +kernel
theorem dL_fouled_4 : decode cL_fouled 4 = .ok (.invokevirtual 87, 3) := by decide +kernel
theorem dL_fouled_7 : decode cL_fouled 7 = .ok (.i2l, 1) := by decide +kernel
theorem dL_fouled_8 : decode cL_fouled 8 = .ok (.lastore, 1) := by decide +kernel
theorem dL_fouled_9 : decode cL_fouled 9 = .ok (.goto 6, 3) := by decide +kernel
theorem dL_fouled_12 : decode cL_fouled 12 = .ok (.astore_n 3, 1) := by decide +kernel
theorem dL_fouled_13 : decode cL_fouled 13 = .ok (.iconst 1, 1) := by decide +kernel
theorem dL_fouled_14 : decode cL_fouled 14 = .ok (.ireturn, 1) := by decide +kernel
theorem dL_fouled_15 : decode cL_fouled 15 = .ok (.iconst 0, 1) := by decide +kernel
theorem dL_fouled_16 : decode cL_fouled 16 = .ok (.ireturn, 1) := by decide +kernel
theorem dL_listen_0 : decode cL_listen 0 = .ok (.aload_n 2, 1) := by decide +kernel
theorem dL_listen_1 : decode cL_listen 1 = .ok (.iconst 0, 1) := by decide +kernel
theorem dL_listen_2 : decode cL_listen 2 = .ok (.aload_n 0, 1) := by decide +kernel
theorem dL_listen_3 : decode cL_listen 3 = .ok (.iload_n 1, 1) := by decide +kernel
theorem dL_listen_4 : decode cL_listen 4 = .ok (.invokevirtual 90, 3) := by decide +kernel
theorem dL_listen_7 : decode cL_listen 7 = .ok (.i2l, 1) := by decide +kernel
theorem dL_listen_8 : decode cL_listen 8 = .ok (.lastore, 1) := by decide +kernel
theorem dL_listen_9 : decode cL_listen 9 = .ok (.goto 6, 3) := by decide +kernel
theorem dL_listen_12 : decode cL_listen 12 = .ok (.astore_n 3, 1) := by decide +kernel
theorem dL_listen_13 : decode cL_listen 13 = .ok (.iconst 1, 1) := by decide +kernel
theorem dL_listen_14 : decode cL_listen 14 = .ok (.ireturn, 1) := by decide +kernel
theorem dL_listen_15 : decode cL_listen 15 = .ok (.iconst 0, 1) := by decide +kernel
theorem dL_listen_16 : decode cL_listen 16 = .ok (.ireturn, 1) := by decide +kernel
theorem dL_game_0 : decode cL_game 0 = .ok (.aload 4, 2) := by decide +kernel
theorem dL_game_2 : decode cL_game 2 = .ok (.iconst 0, 1) := by decide +kernel
theorem dL_game_3 : decode cL_game 3 = .ok (.aload_n 0, 1) := by decide +kernel
theorem dL_game_4 : decode cL_game 4 = .ok (.iload_n 1, 1) := by decide +kernel
theorem dL_game_5 : decode cL_game 5 = .ok (.iload_n 2, 1) := by decide +kernel
theorem dL_game_6 : decode cL_game 6 = .ok (.iload_n 3, 1) := by decide +kernel
theorem dL_game_7 : decode cL_game 7 = .ok (.invokevirtual 93, 3) := by decide +kernel
theorem dL_game_10 : decode cL_game 10 = .ok (.i2l, 1) := by decide +kernel
theorem dL_game_11 : decode cL_game 11 = .ok (.lastore, 1) := by decide +kernel
theorem dL_game_12 : decode cL_game 12 = .ok (.goto 11, 3) := by decide +kernel
theorem dL_game_15 : decode cL_game 15 = .ok (.astore 5, 2) := by decide +kernel
theorem dL_game_17 : decode cL_game 17 = .ok (.iconst 1, 1) := by decide +kernel
theorem dL_game_18 : decode cL_game 18 = .ok (.ireturn, 1) := by decide +kernel
theorem dL_game_19 : decode cL_game 19 = .ok (.astore 5, 2) := by decide +kernel
theorem dL_game_21 : decode cL_game 21 = .ok (.iconst 2, 1) := by decide +kernel
theorem dL_game_22 : decode cL_game 22 = .ok (.ireturn, 1) := by decide +kernel
theorem dL_game_23 : decode cL_game 23 = .ok (.iconst 0, 1) := by decide +kernel
theorem dL_game_24 : decode cL_game 24 = .ok (.ireturn, 1) := by decide +kernel
theorem dL_years_0 : decode cL_years 0 = .ok (.aload 4, 2) := by decide +kernel
theorem dL_years_2 : decode cL_years 2 = .ok (.iconst 0, 1) := by decide +kernel
theorem dL_years_3 : decode cL_years 3 = .ok (.aload_n 0, 1) := by decide +kernel
theorem dL_years_4 : decode cL_years 4 = .ok (.iload_n 1, 1) := by decide +kernel
theorem dL_years_5 : decode cL_years 5 = .ok (.iload_n 2, 1) := by decide +kernel
theorem dL_years_6 : decode cL_years 6 = .ok (.iload_n 3, 1) := by decide +kernel
theorem dL_years_7 : decode cL_years 7 = .ok (.invokevirtual 97, 3) := by decide +kernel
theorem dL_years_10 : decode cL_years 10 = .ok (.i2l, 1) := by decide +kernel
theorem dL_years_11 : decode cL_years 11 = .ok (.lastore, 1) := by decide +kernel
theorem dL_years_12 : decode cL_years 12 = .ok (.goto 11, 3) := by decide +kernel
theorem dL_years_15 : decode cL_years 15 = .ok (.astore 5, 2) := by decide +kernel
theorem dL_years_17 : decode cL_years 17 = .ok (.iconst 1, 1) := by decide +kernel
theorem dL_years_18 : decode cL_years 18 = .ok (.ireturn, 1) := by decide +kernel
theorem dL_years_19 : decode cL_years 19 = .ok (.astore 5, 2) := by decide +kernel
theorem dL_years_21 : decode cL_years 21 = .ok (.iconst 2, 1) := by decide +kernel
theorem dL_years_22 : decode cL_years 22 = .ok (.ireturn, 1) := by decide +kernel
theorem dL_years_23 : decode cL_years 23 = .ok (.iconst 0, 1) := by decide +kernel
theorem dL_years_24 : decode cL_years 24 = .ok (.ireturn, 1) := by decide +kernel
theorem dL_law_0 : decode cL_law 0 = .ok (.new 8, 3) := by decide +kernel
theorem dL_law_3 : decode cL_law 3 = .ok (.dup, 1) := by decide +kernel
theorem dL_law_4 : decode cL_law 4 = .ok (.invokespecial 100, 3) := by decide +kernel
theorem dL_law_7 : decode cL_law 7 = .ok (.astore_n 1, 1) := by decide +kernel
theorem dL_law_8 : decode cL_law 8 = .ok (.new 101, 3) := by decide +kernel
theorem dL_law_11 : decode cL_law 11 = .ok (.dup, 1) := by decide +kernel
theorem dL_law_12 : decode cL_law 12 = .ok (.invokespecial 103, 3) := by decide +kernel
theorem dL_law_15 : decode cL_law 15 = .ok (.astore_n 2, 1) := by decide +kernel
theorem dL_law_16 : decode cL_law 16 = .ok (.iconst 1, 1) := by decide +kernel
theorem dL_law_17 : decode cL_law 17 = .ok (.newarray .long, 2) := by decide +kernel
theorem dL_law_19 : decode cL_law 19 = .ok (.astore_n 3, 1) := by decide +kernel
theorem dL_law_20 : decode cL_law 20 = .ok (.iconst 0, 1) := by decide +kernel
theorem dL_law_21 : decode cL_law 21 = .ok (.istore 4, 2) := by decide +kernel
theorem dL_law_23 : decode cL_law 23 = .ok (.iload 4, 2) := by decide +kernel
theorem dL_law_25 : decode cL_law 25 = .ok (.aload_n 0, 1) := by decide +kernel
theorem dL_law_26 : decode cL_law 26 = .ok (.arraylength, 1) := by decide +kernel
theorem dL_law_27 : decode cL_law 27 = .ok (.bipush 6, 2) := by decide +kernel
theorem dL_law_29 : decode cL_law 29 = .ok (.isub, 1) := by decide +kernel
theorem dL_law_30 : decode cL_law 30 = .ok (.if_icmp .gt 2236, 3) := by decide +kernel
theorem dL_law_33 : decode cL_law 33 = .ok (.aload_n 0, 1) := by decide +kernel
theorem dL_law_34 : decode cL_law 34 = .ok (.iload 4, 2) := by decide +kernel
theorem dL_law_36 : decode cL_law 36 = .ok (.iaload, 1) := by decide +kernel
theorem dL_law_37 : decode cL_law 37 = .ok (.bipush 63, 2) := by decide +kernel
theorem dL_law_39 : decode cL_law 39 = .ok (.iand, 1) := by decide +kernel
theorem dL_law_40 : decode cL_law 40 = .ok (.tableswitch 2220 0 39 #[176, 249, 305, 318, 374, 442, 510, 535, 560, 585, 610, 678, 746, 759, 815, 871, 939, 995, 1063, 1119, 1187, 1255, 1323, 1379, 1447, 1503, 1571, 1627, 1683, 1751, 1807, 1863, 1876, 1913, 1969, 2025, 2036, 2116, 2196, 2207], 176) := by decide +kernel
theorem dL_law_216 : decode cL_law 216 = .ok (.aload_n 1, 1) := by decide +kernel
theorem dL_law_217 : decode cL_law 217 = .ok (.aload_n 0, 1) := by decide +kernel
theorem dL_law_218 : decode cL_law 218 = .ok (.iload 4, 2) := by decide +kernel
theorem dL_law_220 : decode cL_law 220 = .ok (.iconst 1, 1) := by decide +kernel
theorem dL_law_221 : decode cL_law 221 = .ok (.iadd, 1) := by decide +kernel
theorem dL_law_222 : decode cL_law 222 = .ok (.iaload, 1) := by decide +kernel
theorem dL_law_223 : decode cL_law 223 = .ok (.aload_n 0, 1) := by decide +kernel
theorem dL_law_224 : decode cL_law 224 = .ok (.iload 4, 2) := by decide +kernel
theorem dL_law_226 : decode cL_law 226 = .ok (.iconst 2, 1) := by decide +kernel
theorem dL_law_227 : decode cL_law 227 = .ok (.iadd, 1) := by decide +kernel
theorem dL_law_228 : decode cL_law 228 = .ok (.iaload, 1) := by decide +kernel
theorem dL_law_229 : decode cL_law 229 = .ok (.aload_n 0, 1) := by decide +kernel
theorem dL_law_230 : decode cL_law 230 = .ok (.iload 4, 2) := by decide +kernel
theorem dL_law_232 : decode cL_law 232 = .ok (.iconst 3, 1) := by decide +kernel
theorem dL_law_233 : decode cL_law 233 = .ok (.iadd, 1) := by decide +kernel
theorem dL_law_234 : decode cL_law 234 = .ok (.iaload, 1) := by decide +kernel
theorem dL_law_235 : decode cL_law 235 = .ok (.aload_n 0, 1) := by decide +kernel
theorem dL_law_236 : decode cL_law 236 = .ok (.iload 4, 2) := by decide +kernel
theorem dL_law_238 : decode cL_law 238 = .ok (.iconst 4, 1) := by decide +kernel
theorem dL_law_239 : decode cL_law 239 = .ok (.iadd, 1) := by decide +kernel
theorem dL_law_240 : decode cL_law 240 = .ok (.iaload, 1) := by decide +kernel
theorem dL_law_241 : decode cL_law 241 = .ok (.aload_n 0, 1) := by decide +kernel
theorem dL_law_242 : decode cL_law 242 = .ok (.iload 4, 2) := by decide +kernel
theorem dL_law_244 : decode cL_law 244 = .ok (.iconst 5, 1) := by decide +kernel
theorem dL_law_245 : decode cL_law 245 = .ok (.iadd, 1) := by decide +kernel
theorem dL_law_246 : decode cL_law 246 = .ok (.iaload, 1) := by decide +kernel
theorem dL_law_247 : decode cL_law 247 = .ok (.invokevirtual 104, 3) := by decide +kernel
theorem dL_law_250 : decode cL_law 250 = .ok (.aload_n 2, 1) := by decide +kernel
theorem dL_law_251 : decode cL_law 251 = .ok (.aload_n 0, 1) := by decide +kernel
theorem dL_law_252 : decode cL_law 252 = .ok (.iload 4, 2) := by decide +kernel
theorem dL_law_254 : decode cL_law 254 = .ok (.iconst 1, 1) := by decide +kernel
theorem dL_law_255 : decode cL_law 255 = .ok (.iadd, 1) := by decide +kernel
theorem dL_law_256 : decode cL_law 256 = .ok (.iaload, 1) := by decide +kernel
theorem dL_law_257 : decode cL_law 257 = .ok (.aload_n 0, 1) := by decide +kernel
theorem dL_law_258 : decode cL_law 258 = .ok (.iload 4, 2) := by decide +kernel
theorem dL_law_260 : decode cL_law 260 = .ok (.iconst 2, 1) := by decide +kernel
theorem dL_law_261 : decode cL_law 261 = .ok (.iadd, 1) := by decide +kernel
theorem dL_law_262 : decode cL_law 262 = .ok (.iaload, 1) := by decide +kernel
theorem dL_law_263 : decode cL_law 263 = .ok (.aload_n 0, 1) := by decide +kernel
theorem dL_law_264 : decode cL_law 264 = .ok (.iload 4, 2) := by decide +kernel
theorem dL_law_266 : decode cL_law 266 = .ok (.iconst 3, 1) := by decide +kernel
theorem dL_law_267 : decode cL_law 267 = .ok (.iadd, 1) := by decide +kernel
theorem dL_law_268 : decode cL_law 268 = .ok (.iaload, 1) := by decide +kernel
theorem dL_law_269 : decode cL_law 269 = .ok (.aload_n 0, 1) := by decide +kernel
theorem dL_law_270 : decode cL_law 270 = .ok (.iload 4, 2) := by decide +kernel
theorem dL_law_272 : decode cL_law 272 = .ok (.iconst 4, 1) := by decide +kernel
theorem dL_law_273 : decode cL_law 273 = .ok (.iadd, 1) := by decide +kernel
theorem dL_law_274 : decode cL_law 274 = .ok (.iaload, 1) := by decide +kernel
theorem dL_law_275 : decode cL_law 275 = .ok (.aload_n 0, 1) := by decide +kernel
theorem dL_law_276 : decode cL_law 276 = .ok (.iload 4, 2) := by decide +kernel
theorem dL_law_278 : decode cL_law 278 = .ok (.iconst 5, 1) := by decide +kernel
theorem dL_law_279 : decode cL_law 279 = .ok (.iadd, 1) := by decide +kernel
theorem dL_law_280 : decode cL_law 280 = .ok (.iaload, 1) := by decide +kernel
theorem dL_law_281 : decode cL_law 281 = .ok (.invokevirtual 108, 3) := by decide +kernel
theorem dL_law_284 : decode cL_law 284 = .ok (.if_icmp .eq 1976, 3) := by decide +kernel
theorem dL_law_287 : decode cL_law 287 = .ok (.iconst 0, 1) := by decide +kernel
theorem dL_law_288 : decode cL_law 288 = .ok (.ireturn, 1) := by decide +kernel
theorem dL_law_289 : decode cL_law 289 = .ok (.aload_n 1, 1) := by decide +kernel
theorem dL_law_290 : decode cL_law 290 = .ok (.aload_n 0, 1) := by decide +kernel
theorem dL_law_291 : decode cL_law 291 = .ok (.iload 4, 2) := by decide +kernel
theorem dL_law_293 : decode cL_law 293 = .ok (.iconst 1, 1) := by decide +kernel
theorem dL_law_294 : decode cL_law 294 = .ok (.iadd, 1) := by decide +kernel
theorem dL_law_295 : decode cL_law 295 = .ok (.iaload, 1) := by decide +kernel
theorem dL_law_296 : decode cL_law 296 = .ok (.aload_n 3, 1) := by decide +kernel
theorem dL_law_297 : decode cL_law 297 = .ok (.invokestatic 109, 3) := by decide +kernel
theorem dL_law_300 : decode cL_law 300 = .ok (.istore 5, 2) := by decide +kernel
theorem dL_law_302 : decode cL_law 302 = .ok (.aload_n 2, 1) := by decide +kernel
theorem dL_law_303 : decode cL_law 303 = .ok (.aload_n 0, 1) := by decide +kernel
theorem dL_law_304 : decode cL_law 304 = .ok (.iload 4, 2) := by decide +kernel
theorem dL_law_306 : decode cL_law 306 = .ok (.iconst 1, 1) := by decide +kernel
theorem dL_law_307 : decode cL_law 307 = .ok (.iadd, 1) := by decide +kernel
theorem dL_law_308 : decode cL_law 308 = .ok (.iaload, 1) := by decide +kernel
theorem dL_law_309 : decode cL_law 309 = .ok (.invokevirtual 114, 3) := by decide +kernel
theorem dL_law_312 : decode cL_law 312 = .ok (.istore 6, 2) := by decide +kernel
theorem dL_law_314 : decode cL_law 314 = .ok (.aload_n 2, 1) := by decide +kernel
theorem dL_law_315 : decode cL_law 315 = .ok (.invokevirtual 115, 3) := by decide +kernel
theorem dL_law_318 : decode cL_law 318 = .ok (.iload 5, 2) := by decide +kernel
theorem dL_law_320 : decode cL_law 320 = .ok (.if_icmp .eq 5, 3) := by decide +kernel
theorem dL_law_323 : decode cL_law 323 = .ok (.iconst 0, 1) := by decide +kernel
theorem dL_law_324 : decode cL_law 324 = .ok (.ireturn, 1) := by decide +kernel
theorem dL_law_325 : decode cL_law 325 = .ok (.iload 5, 2) := by decide +kernel
theorem dL_law_327 : decode cL_law 327 = .ok (.ifCond .ne 15, 3) := by decide +kernel
theorem dL_law_330 : decode cL_law 330 = .ok (.aload_n 3, 1) := by decide +kernel
theorem dL_law_331 : decode cL_law 331 = .ok (.iconst 0, 1) := by decide +kernel
theorem dL_law_332 : decode cL_law 332 = .ok (.laload, 1) := by decide +kernel
theorem dL_law_333 : decode cL_law 333 = .ok (.iload 6, 2) := by decide +kernel
theorem dL_law_335 : decode cL_law 335 = .ok (.i2l, 1) := by decide +kernel
theorem dL_law_336 : decode cL_law 336 = .ok (.lcmp, 1) := by decide +kernel
theorem dL_law_337 : decode cL_law 337 = .ok (.ifCond .eq 5, 3) := by decide +kernel
theorem dL_law_340 : decode cL_law 340 = .ok (.iconst 0, 1) := by decide +kernel
theorem dL_law_341 : decode cL_law 341 = .ok (.ireturn, 1) := by decide +kernel
theorem dL_law_342 : decode cL_law 342 = .ok (.goto 1918, 3) := by decide +kernel
theorem dL_law_345 : decode cL_law 345 = .ok (.aload_n 1, 1) := by decide +kernel
theorem dL_law_346 : decode cL_law 346 = .ok (.invokevirtual 119, 3) := by decide +kernel
theorem dL_law_349 : decode cL_law 349 = .ok (.aload_n 2, 1) := by decide +kernel
theorem dL_law_350 : decode cL_law 350 = .ok (.invokevirtual 122, 3) := by decide +kernel
theorem dL_law_353 : decode cL_law 353 = .ok (.if_icmp .eq 1907, 3) := by decide +kernel
theorem dL_law_356 : decode cL_law 356 = .ok (.iconst 0, 1) := by decide +kernel
theorem dL_law_357 : decode cL_law 357 = .ok (.ireturn, 1) := by decide +kernel
theorem dL_law_358 : decode cL_law 358 = .ok (.aload_n 1, 1) := by decide +kernel
theorem dL_law_359 : decode cL_law 359 = .ok (.aload_n 0, 1) := by decide +kernel
theorem dL_law_360 : decode cL_law 360 = .ok (.iload 4, 2) := by decide +kernel
theorem dL_law_362 : decode cL_law 362 = .ok (.iconst 1, 1) := by decide +kernel
theorem dL_law_363 : decode cL_law 363 = .ok (.iadd, 1) := by decide +kernel
theorem dL_law_364 : decode cL_law 364 = .ok (.iaload, 1) := by decide +kernel
theorem dL_law_365 : decode cL_law 365 = .ok (.aload_n 3, 1) := by decide +kernel
theorem dL_law_366 : decode cL_law 366 = .ok (.invokestatic 123, 3) := by decide +kernel
theorem dL_law_369 : decode cL_law 369 = .ok (.istore 5, 2) := by decide +kernel
theorem dL_law_371 : decode cL_law 371 = .ok (.aload_n 2, 1) := by decide +kernel
theorem dL_law_372 : decode cL_law 372 = .ok (.aload_n 0, 1) := by decide +kernel
theorem dL_law_373 : decode cL_law 373 = .ok (.iload 4, 2) := by decide +kernel
theorem dL_law_375 : decode cL_law 375 = .ok (.iconst 1, 1) := by decide +kernel
theorem dL_law_376 : decode cL_law 376 = .ok (.iadd, 1) := by decide +kernel
theorem dL_law_377 : decode cL_law 377 = .ok (.iaload, 1) := by decide +kernel
theorem dL_law_378 : decode cL_law 378 = .ok (.invokevirtual 125, 3) := by decide +kernel
theorem dL_law_381 : decode cL_law 381 = .ok (.istore 6, 2) := by decide +kernel
theorem dL_law_383 : decode cL_law 383 = .ok (.aload_n 2, 1) := by decide +kernel
theorem dL_law_384 : decode cL_law 384 = .ok (.invokevirtual 115, 3) := by decide +kernel
theorem dL_law_387 : decode cL_law 387 = .ok (.iload 5, 2) := by decide +kernel
theorem dL_law_389 : decode cL_law 389 = .ok (.if_icmp .eq 5, 3) := by decide +kernel
theorem dL_law_392 : decode cL_law 392 = .ok (.iconst 0, 1) := by decide +kernel
theorem dL_law_393 : decode cL_law 393 = .ok (.ireturn, 1) := by decide +kernel
theorem dL_law_394 : decode cL_law 394 = .ok (.iload 5, 2) := by decide +kernel
theorem dL_law_396 : decode cL_law 396 = .ok (.ifCond .ne 15, 3) := by decide +kernel
theorem dL_law_399 : decode cL_law 399 = .ok (.aload_n 3, 1) := by decide +kernel
theorem dL_law_400 : decode cL_law 400 = .ok (.iconst 0, 1) := by decide +kernel
theorem dL_law_401 : decode cL_law 401 = .ok (.laload, 1) := by decide +kernel
theorem dL_law_402 : decode cL_law 402 = .ok (.iload 6, 2) := by decide +kernel
theorem dL_law_404 : decode cL_law 404 = .ok (.i2l, 1) := by decide +kernel
theorem dL_law_405 : decode cL_law 405 = .ok (.lcmp, 1) := by decide +kernel
theorem dL_law_406 : decode cL_law 406 = .ok (.ifCond .eq 5, 3) := by decide +kernel
theorem dL_law_409 : decode cL_law 409 = .ok (.iconst 0, 1) := by decide +kernel
theorem dL_law_410 : decode cL_law 410 = .ok (.ireturn, 1) := by decide +kernel
theorem dL_law_411 : decode cL_law 411 = .ok (.goto 1849, 3) := by decide +kernel
theorem dL_law_414 : decode cL_law 414 = .ok (.aload_n 1, 1) := by decide +kernel
theorem dL_law_415 : decode cL_law 415 = .ok (.aload_n 0, 1) := by decide +kernel
theorem dL_law_416 : decode cL_law 416 = .ok (.iload 4, 2) := by decide +kernel
theorem dL_law_418 : decode cL_law 418 = .ok (.iconst 1, 1) := by decide +kernel
theorem dL_law_419 : decode cL_law 419 = .ok (.iadd, 1) := by decide +kernel
theorem dL_law_420 : decode cL_law 420 = .ok (.iaload, 1) := by decide +kernel
theorem dL_law_421 : decode cL_law 421 = .ok (.aload_n 0, 1) := by decide +kernel
theorem dL_law_422 : decode cL_law 422 = .ok (.iload 4, 2) := by decide +kernel
theorem dL_law_424 : decode cL_law 424 = .ok (.iconst 2, 1) := by decide +kernel
theorem dL_law_425 : decode cL_law 425 = .ok (.iadd, 1) := by decide +kernel
theorem dL_law_426 : decode cL_law 426 = .ok (.iaload, 1) := by decide +kernel
theorem dL_law_427 : decode cL_law 427 = .ok (.aload_n 3, 1) := by decide +kernel
theorem dL_law_428 : decode cL_law 428 = .ok (.invokestatic 126, 3) := by decide +kernel
theorem dL_law_431 : decode cL_law 431 = .ok (.istore 5, 2) := by decide +kernel
theorem dL_law_433 : decode cL_law 433 = .ok (.aload_n 2, 1) := by decide +kernel
theorem dL_law_434 : decode cL_law 434 = .ok (.aload_n 0, 1) := by decide +kernel
theorem dL_law_435 : decode cL_law 435 = .ok (.iload 4, 2) := by decide +kernel
theorem dL_law_437 : decode cL_law 437 = .ok (.iconst 1, 1) := by decide +kernel
theorem dL_law_438 : decode cL_law 438 = .ok (.iadd, 1) := by decide +kernel
theorem dL_law_439 : decode cL_law 439 = .ok (.iaload, 1) := by decide +kernel
theorem dL_law_440 : decode cL_law 440 = .ok (.aload_n 0, 1) := by decide +kernel
theorem dL_law_441 : decode cL_law 441 = .ok (.iload 4, 2) := by decide +kernel
theorem dL_law_443 : decode cL_law 443 = .ok (.iconst 2, 1) := by decide +kernel
theorem dL_law_444 : decode cL_law 444 = .ok (.iadd, 1) := by decide +kernel
theorem dL_law_445 : decode cL_law 445 = .ok (.iaload, 1) := by decide +kernel
theorem dL_law_446 : decode cL_law 446 = .ok (.invokevirtual 129, 3) := by decide +kernel
theorem dL_law_449 : decode cL_law 449 = .ok (.istore 6, 2) := by decide +kernel
theorem dL_law_451 : decode cL_law 451 = .ok (.aload_n 2, 1) := by decide +kernel
theorem dL_law_452 : decode cL_law 452 = .ok (.invokevirtual 115, 3) := by decide +kernel
theorem dL_law_455 : decode cL_law 455 = .ok (.iload 5, 2) := by decide +kernel
theorem dL_law_457 : decode cL_law 457 = .ok (.if_icmp .eq 5, 3) := by decide +kernel
theorem dL_law_460 : decode cL_law 460 = .ok (.iconst 0, 1) := by decide +kernel
theorem dL_law_461 : decode cL_law 461 = .ok (.ireturn, 1) := by decide +kernel
theorem dL_law_462 : decode cL_law 462 = .ok (.iload 5, 2) := by decide +kernel
theorem dL_law_464 : decode cL_law 464 = .ok (.ifCond .ne 15, 3) := by decide +kernel
theorem dL_law_467 : decode cL_law 467 = .ok (.aload_n 3, 1) := by decide +kernel
theorem dL_law_468 : decode cL_law 468 = .ok (.iconst 0, 1) := by decide +kernel
theorem dL_law_469 : decode cL_law 469 = .ok (.laload, 1) := by decide +kernel
theorem dL_law_470 : decode cL_law 470 = .ok (.iload 6, 2) := by decide +kernel
theorem dL_law_472 : decode cL_law 472 = .ok (.i2l, 1) := by decide +kernel
theorem dL_law_473 : decode cL_law 473 = .ok (.lcmp, 1) := by decide +kernel
theorem dL_law_474 : decode cL_law 474 = .ok (.ifCond .eq 5, 3) := by decide +kernel
theorem dL_law_477 : decode cL_law 477 = .ok (.iconst 0, 1) := by decide +kernel
theorem dL_law_478 : decode cL_law 478 = .ok (.ireturn, 1) := by decide +kernel
theorem dL_law_479 : decode cL_law 479 = .ok (.goto 1781, 3) := by decide +kernel
theorem dL_law_482 : decode cL_law 482 = .ok (.aload_n 1, 1) := by decide +kernel
theorem dL_law_483 : decode cL_law 483 = .ok (.aload_n 0, 1) := by decide +kernel
theorem dL_law_484 : decode cL_law 484 = .ok (.iload 4, 2) := by decide +kernel
theorem dL_law_486 : decode cL_law 486 = .ok (.iconst 1, 1) := by decide +kernel
theorem dL_law_487 : decode cL_law 487 = .ok (.iadd, 1) := by decide +kernel
theorem dL_law_488 : decode cL_law 488 = .ok (.iaload, 1) := by decide +kernel
theorem dL_law_489 : decode cL_law 489 = .ok (.aload_n 0, 1) := by decide +kernel
theorem dL_law_490 : decode cL_law 490 = .ok (.iload 4, 2) := by decide +kernel
theorem dL_law_492 : decode cL_law 492 = .ok (.iconst 2, 1) := by decide +kernel
theorem dL_law_493 : decode cL_law 493 = .ok (.iadd, 1) := by decide +kernel
theorem dL_law_494 : decode cL_law 494 = .ok (.iaload, 1) := by decide +kernel
theorem dL_law_495 : decode cL_law 495 = .ok (.aload_n 3, 1) := by decide +kernel
theorem dL_law_496 : decode cL_law 496 = .ok (.invokestatic 130, 3) := by decide +kernel
theorem dL_law_499 : decode cL_law 499 = .ok (.istore 5, 2) := by decide +kernel
theorem dL_law_501 : decode cL_law 501 = .ok (.aload_n 2, 1) := by decide +kernel
theorem dL_law_502 : decode cL_law 502 = .ok (.aload_n 0, 1) := by decide +kernel
theorem dL_law_503 : decode cL_law 503 = .ok (.iload 4, 2) := by decide +kernel
theorem dL_law_505 : decode cL_law 505 = .ok (.iconst 1, 1) := by decide +kernel
theorem dL_law_506 : decode cL_law 506 = .ok (.iadd, 1) := by decide +kernel
theorem dL_law_507 : decode cL_law 507 = .ok (.iaload, 1) := by decide +kernel
theorem dL_law_508 : decode cL_law 508 = .ok (.aload_n 0, 1) := by decide +kernel
theorem dL_law_509 : decode cL_law 509 = .ok (.iload 4, 2) := by decide +kernel
theorem dL_law_511 : decode cL_law 511 = .ok (.iconst 2, 1) := by decide +kernel
theorem dL_law_512 : decode cL_law 512 = .ok (.iadd, 1) := by decide +kernel
theorem dL_law_513 : decode cL_law 513 = .ok (.iaload, 1) := by decide +kernel
theorem dL_law_514 : decode cL_law 514 = .ok (.invokevirtual 132, 3) := by decide +kernel
theorem dL_law_517 : decode cL_law 517 = .ok (.istore 6, 2) := by decide +kernel
theorem dL_law_519 : decode cL_law 519 = .ok (.aload_n 2, 1) := by decide +kernel
theorem dL_law_520 : decode cL_law 520 = .ok (.invokevirtual 115, 3) := by decide +kernel
theorem dL_law_523 : decode cL_law 523 = .ok (.iload 5, 2) := by decide +kernel
theorem dL_law_525 : decode cL_law 525 = .ok (.if_icmp .eq 5, 3) := by decide +kernel
theorem dL_law_528 : decode cL_law 528 = .ok (.iconst 0, 1) := by decide +kernel
theorem dL_law_529 : decode cL_law 529 = .ok (.ireturn, 1) := by decide +kernel
theorem dL_law_530 : decode cL_law 530 = .ok (.iload 5, 2) := by decide +kernel
theorem dL_law_532 : decode cL_law 532 = .ok (.ifCond .ne 15, 3) := by decide +kernel
theorem dL_law_535 : decode cL_law 535 = .ok (.aload_n 3, 1) := by decide +kernel
theorem dL_law_536 : decode cL_law 536 = .ok (.iconst 0, 1) := by decide +kernel
theorem dL_law_537 : decode cL_law 537 = .ok (.laload, 1) := by decide +kernel
theorem dL_law_538 : decode cL_law 538 = .ok (.iload 6, 2) := by decide +kernel
theorem dL_law_540 : decode cL_law 540 = .ok (.i2l, 1) := by decide +kernel
theorem dL_law_541 : decode cL_law 541 = .ok (.lcmp, 1) := by decide +kernel
theorem dL_law_542 : decode cL_law 542 = .ok (.ifCond .eq 5, 3) := by decide +kernel
theorem dL_law_545 : decode cL_law 545 = .ok (.iconst 0, 1) := by decide +kernel
theorem dL_law_546 : decode cL_law 546 = .ok (.ireturn, 1) := by decide +kernel
theorem dL_law_547 : decode cL_law 547 = .ok (.goto 1713, 3) := by decide +kernel
theorem dL_law_550 : decode cL_law 550 = .ok (.aload_n 1, 1) := by decide +kernel
theorem dL_law_551 : decode cL_law 551 = .ok (.aload_n 0, 1) := by decide +kernel
theorem dL_law_552 : decode cL_law 552 = .ok (.iload 4, 2) := by decide +kernel
theorem dL_law_554 : decode cL_law 554 = .ok (.iconst 1, 1) := by decide +kernel
theorem dL_law_555 : decode cL_law 555 = .ok (.iadd, 1) := by decide +kernel
theorem dL_law_556 : decode cL_law 556 = .ok (.iaload, 1) := by decide +kernel
theorem dL_law_557 : decode cL_law 557 = .ok (.invokevirtual 133, 3) := by decide +kernel
theorem dL_law_560 : decode cL_law 560 = .ok (.aload_n 2, 1) := by decide +kernel
theorem dL_law_561 : decode cL_law 561 = .ok (.aload_n 0, 1) := by decide +kernel
theorem dL_law_562 : decode cL_law 562 = .ok (.iload 4, 2) := by decide +kernel
theorem dL_law_564 : decode cL_law 564 = .ok (.iconst 1, 1) := by decide +kernel
theorem dL_law_565 : decode cL_law 565 = .ok (.iadd, 1) := by decide +kernel
theorem dL_law_566 : decode cL_law 566 = .ok (.iaload, 1) := by decide +kernel
theorem dL_law_567 : decode cL_law 567 = .ok (.invokevirtual 136, 3) := by decide +kernel
theorem dL_law_570 : decode cL_law 570 = .ok (.if_icmp .eq 1690, 3) := by decide +kernel
theorem dL_law_573 : decode cL_law 573 = .ok (.iconst 0, 1) := by decide +kernel
theorem dL_law_574 : decode cL_law 574 = .ok (.ireturn, 1) := by decide +kernel
theorem dL_law_575 : decode cL_law 575 = .ok (.aload_n 1, 1) := by decide +kernel
theorem dL_law_576 : decode cL_law 576 = .ok (.aload_n 0, 1) := by decide +kernel
theorem dL_law_577 : decode cL_law 577 = .ok (.iload 4, 2) := by decide +kernel
theorem dL_law_579 : decode cL_law 579 = .ok (.iconst 1, 1) := by decide +kernel
theorem dL_law_580 : decode cL_law 580 = .ok (.iadd, 1) := by decide +kernel
theorem dL_law_581 : decode cL_law 581 = .ok (.iaload, 1) := by decide +kernel
theorem dL_law_582 : decode cL_law 582 = .ok (.invokevirtual 137, 3) := by decide +kernel
theorem dL_law_585 : decode cL_law 585 = .ok (.aload_n 2, 1) := by decide +kernel
theorem dL_law_586 : decode cL_law 586 = .ok (.aload_n 0, 1) := by decide +kernel
theorem dL_law_587 : decode cL_law 587 = .ok (.iload 4, 2) := by decide +kernel
theorem dL_law_589 : decode cL_law 589 = .ok (.iconst 1, 1) := by decide +kernel
theorem dL_law_590 : decode cL_law 590 = .ok (.iadd, 1) := by decide +kernel
theorem dL_law_591 : decode cL_law 591 = .ok (.iaload, 1) := by decide +kernel
theorem dL_law_592 : decode cL_law 592 = .ok (.invokevirtual 140, 3) := by decide +kernel
theorem dL_law_595 : decode cL_law 595 = .ok (.if_icmp .eq 1665, 3) := by decide +kernel
theorem dL_law_598 : decode cL_law 598 = .ok (.iconst 0, 1) := by decide +kernel
theorem dL_law_599 : decode cL_law 599 = .ok (.ireturn, 1) := by decide +kernel
theorem dL_law_600 : decode cL_law 600 = .ok (.aload_n 1, 1) := by decide +kernel
theorem dL_law_601 : decode cL_law 601 = .ok (.aload_n 0, 1) := by decide +kernel
theorem dL_law_602 : decode cL_law 602 = .ok (.iload 4, 2) := by decide +kernel
theorem dL_law_604 : decode cL_law 604 = .ok (.iconst 1, 1) := by decide +kernel
theorem dL_law_605 : decode cL_law 605 = .ok (.iadd, 1) := by decide +kernel
theorem dL_law_606 : decode cL_law 606 = .ok (.iaload, 1) := by decide +kernel
theorem dL_law_607 : decode cL_law 607 = .ok (.invokevirtual 141, 3) := by decide +kernel
theorem dL_law_610 : decode cL_law 610 = .ok (.aload_n 2, 1) := by decide +kernel
theorem dL_law_611 : decode cL_law 611 = .ok (.aload_n 0, 1) := by decide +kernel
theorem dL_law_612 : decode cL_law 612 = .ok (.iload 4, 2) := by decide +kernel
theorem dL_law_614 : decode cL_law 614 = .ok (.iconst 1, 1) := by decide +kernel
theorem dL_law_615 : decode cL_law 615 = .ok (.iadd, 1) := by decide +kernel
theorem dL_law_616 : decode cL_law 616 = .ok (.iaload, 1) := by decide +kernel
theorem dL_law_617 : decode cL_law 617 = .ok (.invokevirtual 144, 3) := by decide +kernel
theorem dL_law_620 : decode cL_law 620 = .ok (.if_icmp .eq 1640, 3) := by decide +kernel
theorem dL_law_623 : decode cL_law 623 = .ok (.iconst 0, 1) := by decide +kernel
theorem dL_law_624 : decode cL_law 624 = .ok (.ireturn, 1) := by decide +kernel
theorem dL_law_625 : decode cL_law 625 = .ok (.aload_n 1, 1) := by decide +kernel
theorem dL_law_626 : decode cL_law 626 = .ok (.aload_n 0, 1) := by decide +kernel
theorem dL_law_627 : decode cL_law 627 = .ok (.iload 4, 2) := by decide +kernel
theorem dL_law_629 : decode cL_law 629 = .ok (.iconst 1, 1) := by decide +kernel
theorem dL_law_630 : decode cL_law 630 = .ok (.iadd, 1) := by decide +kernel
theorem dL_law_631 : decode cL_law 631 = .ok (.iaload, 1) := by decide +kernel
theorem dL_law_632 : decode cL_law 632 = .ok (.invokevirtual 145, 3) := by decide +kernel
theorem dL_law_635 : decode cL_law 635 = .ok (.aload_n 2, 1) := by decide +kernel
theorem dL_law_636 : decode cL_law 636 = .ok (.aload_n 0, 1) := by decide +kernel
theorem dL_law_637 : decode cL_law 637 = .ok (.iload 4, 2) := by decide +kernel
theorem dL_law_639 : decode cL_law 639 = .ok (.iconst 1, 1) := by decide +kernel
theorem dL_law_640 : decode cL_law 640 = .ok (.iadd, 1) := by decide +kernel
theorem dL_law_641 : decode cL_law 641 = .ok (.iaload, 1) := by decide +kernel
theorem dL_law_642 : decode cL_law 642 = .ok (.invokevirtual 148, 3) := by decide +kernel
theorem dL_law_645 : decode cL_law 645 = .ok (.if_icmp .eq 1615, 3) := by decide +kernel
theorem dL_law_648 : decode cL_law 648 = .ok (.iconst 0, 1) := by decide +kernel
theorem dL_law_649 : decode cL_law 649 = .ok (.ireturn, 1) := by decide +kernel
theorem dL_law_650 : decode cL_law 650 = .ok (.aload_n 1, 1) := by decide +kernel
theorem dL_law_651 : decode cL_law 651 = .ok (.aload_n 0, 1) := by decide +kernel
theorem dL_law_652 : decode cL_law 652 = .ok (.iload 4, 2) := by decide +kernel
theorem dL_law_654 : decode cL_law 654 = .ok (.iconst 1, 1) := by decide +kernel
theorem dL_law_655 : decode cL_law 655 = .ok (.iadd, 1) := by decide +kernel
theorem dL_law_656 : decode cL_law 656 = .ok (.iaload, 1) := by decide +kernel
theorem dL_law_657 : decode cL_law 657 = .ok (.aload_n 0, 1) := by decide +kernel
theorem dL_law_658 : decode cL_law 658 = .ok (.iload 4, 2) := by decide +kernel
theorem dL_law_660 : decode cL_law 660 = .ok (.iconst 2, 1) := by decide +kernel
theorem dL_law_661 : decode cL_law 661 = .ok (.iadd, 1) := by decide +kernel
theorem dL_law_662 : decode cL_law 662 = .ok (.iaload, 1) := by decide +kernel
theorem dL_law_663 : decode cL_law 663 = .ok (.aload_n 3, 1) := by decide +kernel
theorem dL_law_664 : decode cL_law 664 = .ok (.invokestatic 149, 3) := by decide +kernel
theorem dL_law_667 : decode cL_law 667 = .ok (.istore 5, 2) := by decide +kernel
theorem dL_law_669 : decode cL_law 669 = .ok (.aload_n 2, 1) := by decide +kernel
theorem dL_law_670 : decode cL_law 670 = .ok (.aload_n 0, 1) := by decide +kernel
theorem dL_law_671 : decode cL_law 671 = .ok (.iload 4, 2) := by decide +kernel
theorem dL_law_673 : decode cL_law 673 = .ok (.iconst 1, 1) := by decide +kernel
theorem dL_law_674 : decode cL_law 674 = .ok (.iadd, 1) := by decide +kernel
theorem dL_law_675 : decode cL_law 675 = .ok (.iaload, 1) := by decide +kernel
theorem dL_law_676 : decode cL_law 676 = .ok (.aload_n 0, 1) := by decide +kernel
theorem dL_law_677 : decode cL_law 677 = .ok (.iload 4, 2) := by decide +kernel
theorem dL_law_679 : decode cL_law 679 = .ok (.iconst 2, 1) := by decide +kernel
theorem dL_law_680 : decode cL_law 680 = .ok (.iadd, 1) := by decide +kernel
theorem dL_law_681 : decode cL_law 681 = .ok (.iaload, 1) := by decide +kernel
theorem dL_law_682 : decode cL_law 682 = .ok (.invokevirtual 151, 3) := by decide +kernel
theorem dL_law_685 : decode cL_law 685 = .ok (.istore 6, 2) := by decide +kernel
theorem dL_law_687 : decode cL_law 687 = .ok (.aload_n 2, 1) := by decide +kernel
theorem dL_law_688 : decode cL_law 688 = .ok (.invokevirtual 115, 3) := by decide +kernel
theorem dL_law_691 : decode cL_law 691 = .ok (.iload 5, 2) := by decide +kernel
theorem dL_law_693 : decode cL_law 693 = .ok (.if_icmp .eq 5, 3) := by decide +kernel
theorem dL_law_696 : decode cL_law 696 = .ok (.iconst 0, 1) := by decide +kernel
theorem dL_law_697 : decode cL_law 697 = .ok (.ireturn, 1) := by decide +kernel
theorem dL_law_698 : decode cL_law 698 = .ok (.iload 5, 2) := by decide +kernel
theorem dL_law_700 : decode cL_law 700 = .ok (.ifCond .ne 15, 3) := by decide +kernel
theorem dL_law_703 : decode cL_law 703 = .ok (.aload_n 3, 1) := by decide +kernel
theorem dL_law_704 : decode cL_law 704 = .ok (.iconst 0, 1) := by decide +kernel
theorem dL_law_705 : decode cL_law 705 = .ok (.laload, 1) := by decide +kernel
theorem dL_law_706 : decode cL_law 706 = .ok (.iload 6, 2) := by decide +kernel
theorem dL_law_708 : decode cL_law 708 = .ok (.i2l, 1) := by decide +kernel
theorem dL_law_709 : decode cL_law 709 = .ok (.lcmp, 1) := by decide +kernel
theorem dL_law_710 : decode cL_law 710 = .ok (.ifCond .eq 5, 3) := by decide +kernel
theorem dL_law_713 : decode cL_law 713 = .ok (.iconst 0, 1) := by decide +kernel
theorem dL_law_714 : decode cL_law 714 = .ok (.ireturn, 1) := by decide +kernel
theorem dL_law_715 : decode cL_law 715 = .ok (.goto 1545, 3) := by decide +kernel
theorem dL_law_718 : decode cL_law 718 = .ok (.aload_n 1, 1) := by decide +kernel
theorem dL_law_719 : decode cL_law 719 = .ok (.aload_n 0, 1) := by decide +kernel
theorem dL_law_720 : decode cL_law 720 = .ok (.iload 4, 2) := by decide +kernel
theorem dL_law_722 : decode cL_law 722 = .ok (.iconst 1, 1) := by decide +kernel
theorem dL_law_723 : decode cL_law 723 = .ok (.iadd, 1) := by decide +kernel
theorem dL_law_724 : decode cL_law 724 = .ok (.iaload, 1) := by decide +kernel
theorem dL_law_725 : decode cL_law 725 = .ok (.aload_n 0, 1) := by decide +kernel
theorem dL_law_726 : decode cL_law 726 = .ok (.iload 4, 2) := by decide +kernel
theorem dL_law_728 : decode cL_law 728 = .ok (.iconst 2, 1) := by decide +kernel
theorem dL_law_729 : decode cL_law 729 = .ok (.iadd, 1) := by decide +kernel
theorem dL_law_730 : decode cL_law 730 = .ok (.iaload, 1) := by decide +kernel
theorem dL_law_731 : decode cL_law 731 = .ok (.aload_n 3, 1) := by decide +kernel
theorem dL_law_732 : decode cL_law 732 = .ok (.invokestatic 152, 3) := by decide +kernel
theorem dL_law_735 : decode cL_law 735 = .ok (.istore 5, 2) := by decide +kernel
theorem dL_law_737 : decode cL_law 737 = .ok (.aload_n 2, 1) := by decide +kernel
theorem dL_law_738 : decode cL_law 738 = .ok (.aload_n 0, 1) := by decide +kernel
theorem dL_law_739 : decode cL_law 739 = .ok (.iload 4, 2) := by decide +kernel
theorem dL_law_741 : decode cL_law 741 = .ok (.iconst 1, 1) := by decide +kernel
theorem dL_law_742 : decode cL_law 742 = .ok (.iadd, 1) := by decide +kernel
theorem dL_law_743 : decode cL_law 743 = .ok (.iaload, 1) := by decide +kernel
theorem dL_law_744 : decode cL_law 744 = .ok (.aload_n 0, 1) := by decide +kernel
theorem dL_law_745 : decode cL_law 745 = .ok (.iload 4, 2) := by decide +kernel
theorem dL_law_747 : decode cL_law 747 = .ok (.iconst 2, 1) := by decide +kernel
theorem dL_law_748 : decode cL_law 748 = .ok (.iadd, 1) := by decide +kernel
theorem dL_law_749 : decode cL_law 749 = .ok (.iaload, 1) := by decide +kernel
theorem dL_law_750 : decode cL_law 750 = .ok (.invokevirtual 154, 3) := by decide +kernel
theorem dL_law_753 : decode cL_law 753 = .ok (.istore 6, 2) := by decide +kernel
theorem dL_law_755 : decode cL_law 755 = .ok (.aload_n 2, 1) := by decide +kernel
theorem dL_law_756 : decode cL_law 756 = .ok (.invokevirtual 115, 3) := by decide +kernel
theorem dL_law_759 : decode cL_law 759 = .ok (.iload 5, 2) := by decide +kernel
theorem dL_law_761 : decode cL_law 761 = .ok (.if_icmp .eq 5, 3) := by decide +kernel
theorem dL_law_764 : decode cL_law 764 = .ok (.iconst 0, 1) := by decide +kernel
theorem dL_law_765 : decode cL_law 765 = .ok (.ireturn, 1) := by decide +kernel
theorem dL_law_766 : decode cL_law 766 = .ok (.iload 5, 2) := by decide +kernel
theorem dL_law_768 : decode cL_law 768 = .ok (.ifCond .ne 15, 3) := by decide +kernel
theorem dL_law_771 : decode cL_law 771 = .ok (.aload_n 3, 1) := by decide +kernel
theorem dL_law_772 : decode cL_law 772 = .ok (.iconst 0, 1) := by decide +kernel
theorem dL_law_773 : decode cL_law 773 = .ok (.laload, 1) := by decide +kernel
theorem dL_law_774 : decode cL_law 774 = .ok (.iload 6, 2) := by decide +kernel
theorem dL_law_776 : decode cL_law 776 = .ok (.i2l, 1) := by decide +kernel
theorem dL_law_777 : decode cL_law 777 = .ok (.lcmp, 1) := by decide +kernel
theorem dL_law_778 : decode cL_law 778 = .ok (.ifCond .eq 5, 3) := by decide +kernel
theorem dL_law_781 : decode cL_law 781 = .ok (.iconst 0, 1) := by decide +kernel
theorem dL_law_782 : decode cL_law 782 = .ok (.ireturn, 1) := by decide +kernel
theorem dL_law_783 : decode cL_law 783 = .ok (.goto 1477, 3) := by decide +kernel
theorem dL_law_786 : decode cL_law 786 = .ok (.aload_n 1, 1) := by decide +kernel
theorem dL_law_787 : decode cL_law 787 = .ok (.invokevirtual 155, 3) := by decide +kernel
theorem dL_law_790 : decode cL_law 790 = .ok (.aload_n 2, 1) := by decide +kernel
theorem dL_law_791 : decode cL_law 791 = .ok (.invokevirtual 158, 3) := by decide +kernel
theorem dL_law_794 : decode cL_law 794 = .ok (.if_icmp .eq 1466, 3) := by decide +kernel
theorem dL_law_797 : decode cL_law 797 = .ok (.iconst 0, 1) := by decide +kernel
theorem dL_law_798 : decode cL_law 798 = .ok (.ireturn, 1) := by decide +kernel
theorem dL_law_799 : decode cL_law 799 = .ok (.aload_n 1, 1) := by decide +kernel
theorem dL_law_800 : decode cL_law 800 = .ok (.aload_n 0, 1) := by decide +kernel
theorem dL_law_801 : decode cL_law 801 = .ok (.iload 4, 2) := by decide +kernel
theorem dL_law_803 : decode cL_law 803 = .ok (.iconst 1, 1) := by decide +kernel
theorem dL_law_804 : decode cL_law 804 = .ok (.iadd, 1) := by decide +kernel
theorem dL_law_805 : decode cL_law 805 = .ok (.iaload, 1) := by decide +kernel
theorem dL_law_806 : decode cL_law 806 = .ok (.aload_n 3, 1) := by decide +kernel
theorem dL_law_807 : decode cL_law 807 = .ok (.invokestatic 159, 3) := by decide +kernel
theorem dL_law_810 : decode cL_law 810 = .ok (.istore 5, 2) := by decide +kernel
theorem dL_law_812 : decode cL_law 812 = .ok (.aload_n 2, 1) := by decide +kernel
theorem dL_law_813 : decode cL_law 813 = .ok (.aload_n 0, 1) := by decide +kernel
theorem dL_law_814 : decode cL_law 814 = .ok (.iload 4, 2) := by decide +kernel
theorem dL_law_816 : decode cL_law 816 = .ok (.iconst 1, 1) := by decide +kernel
theorem dL_law_817 : decode cL_law 817 = .ok (.iadd, 1) := by decide +kernel
theorem dL_law_818 : decode cL_law 818 = .ok (.iaload, 1) := by decide +kernel
theorem dL_law_819 : decode cL_law 819 = .ok (.invokevirtual 161, 3) := by decide +kernel
theorem dL_law_822 : decode cL_law 822 = .ok (.istore 6, 2) := by decide +kernel
theorem dL_law_824 : decode cL_law 824 = .ok (.aload_n 2, 1) := by decide +kernel
theorem dL_law_825 : decode cL_law 825 = .ok (.invokevirtual 115, 3) := by decide +kernel
theorem dL_law_828 : decode cL_law 828 = .ok (.iload 5, 2) := by decide +kernel
theorem dL_law_830 : decode cL_law 830 = .ok (.if_icmp .eq 5, 3) := by decide +kernel
theorem dL_law_833 : decode cL_law 833 = .ok (.iconst 0, 1) := by decide +kernel
theorem dL_law_834 : decode cL_law 834 = .ok (.ireturn, 1) := by decide +kernel
theorem dL_law_835 : decode cL_law 835 = .ok (.iload 5, 2) := by decide +kernel
theorem dL_law_837 : decode cL_law 837 = .ok (.ifCond .ne 15, 3) := by decide +kernel
theorem dL_law_840 : decode cL_law 840 = .ok (.aload_n 3, 1) := by decide +kernel
theorem dL_law_841 : decode cL_law 841 = .ok (.iconst 0, 1) := by decide +kernel
theorem dL_law_842 : decode cL_law 842 = .ok (.laload, 1) := by decide +kernel
theorem dL_law_843 : decode cL_law 843 = .ok (.iload 6, 2) := by decide +kernel
theorem dL_law_845 : decode cL_law 845 = .ok (.i2l, 1) := by decide +kernel
theorem dL_law_846 : decode cL_law 846 = .ok (.lcmp, 1) := by decide +kernel
theorem dL_law_847 : decode cL_law 847 = .ok (.ifCond .eq 5, 3) := by decide +kernel
theorem dL_law_850 : decode cL_law 850 = .ok (.iconst 0, 1) := by decide +kernel
theorem dL_law_851 : decode cL_law 851 = .ok (.ireturn, 1) := by decide +kernel
theorem dL_law_852 : decode cL_law 852 = .ok (.goto 1408, 3) := by decide +kernel
theorem dL_law_855 : decode cL_law 855 = .ok (.aload_n 1, 1) := by decide +kernel
theorem dL_law_856 : decode cL_law 856 = .ok (.aload_n 0, 1) := by decide +kernel
theorem dL_law_857 : decode cL_law 857 = .ok (.iload 4, 2) := by decide +kernel
theorem dL_law_859 : decode cL_law 859 = .ok (.iconst 1, 1) := by decide +kernel
theorem dL_law_860 : decode cL_law 860 = .ok (.iadd, 1) := by decide +kernel
theorem dL_law_861 : decode cL_law 861 = .ok (.iaload, 1) := by decide +kernel
theorem dL_law_862 : decode cL_law 862 = .ok (.aload_n 3, 1) := by decide +kernel
theorem dL_law_863 : decode cL_law 863 = .ok (.invokestatic 162, 3) := by decide +kernel
theorem dL_law_866 : decode cL_law 866 = .ok (.istore 5, 2) := by decide +kernel
theorem dL_law_868 : decode cL_law 868 = .ok (.aload_n 2, 1) := by decide +kernel
theorem dL_law_869 : decode cL_law 869 = .ok (.aload_n 0, 1) := by decide +kernel
theorem dL_law_870 : decode cL_law 870 = .ok (.iload 4, 2) := by decide +kernel
theorem dL_law_872 : decode cL_law 872 = .ok (.iconst 1, 1) := by decide +kernel
theorem dL_law_873 : decode cL_law 873 = .ok (.iadd, 1) := by decide +kernel
theorem dL_law_874 : decode cL_law 874 = .ok (.iaload, 1) := by decide +kernel
theorem dL_law_875 : decode cL_law 875 = .ok (.invokevirtual 164, 3) := by decide +kernel
theorem dL_law_878 : decode cL_law 878 = .ok (.istore 6, 2) := by decide +kernel
theorem dL_law_880 : decode cL_law 880 = .ok (.aload_n 2, 1) := by decide +kernel
theorem dL_law_881 : decode cL_law 881 = .ok (.invokevirtual 115, 3) := by decide +kernel
theorem dL_law_884 : decode cL_law 884 = .ok (.iload 5, 2) := by decide +kernel
theorem dL_law_886 : decode cL_law 886 = .ok (.if_icmp .eq 5, 3) := by decide +kernel
theorem dL_law_889 : decode cL_law 889 = .ok (.iconst 0, 1) := by decide +kernel
theorem dL_law_890 : decode cL_law 890 = .ok (.ireturn, 1) := by decide +kernel
theorem dL_law_891 : decode cL_law 891 = .ok (.iload 5, 2) := by decide +kernel
theorem dL_law_893 : decode cL_law 893 = .ok (.ifCond .ne 15, 3) := by decide +kernel
theorem dL_law_896 : decode cL_law 896 = .ok (.aload_n 3, 1) := by decide +kernel
theorem dL_law_897 : decode cL_law 897 = .ok (.iconst 0, 1) := by decide +kernel
theorem dL_law_898 : decode cL_law 898 = .ok (.laload, 1) := by decide +kernel
theorem dL_law_899 : decode cL_law 899 = .ok (.iload 6, 2) := by decide +kernel
theorem dL_law_901 : decode cL_law 901 = .ok (.i2l, 1) := by decide +kernel
theorem dL_law_902 : decode cL_law 902 = .ok (.lcmp, 1) := by decide +kernel
theorem dL_law_903 : decode cL_law 903 = .ok (.ifCond .eq 5, 3) := by decide +kernel
theorem dL_law_906 : decode cL_law 906 = .ok (.iconst 0, 1) := by decide +kernel
theorem dL_law_907 : decode cL_law 907 = .ok (.ireturn, 1) := by decide +kernel
theorem dL_law_908 : decode cL_law 908 = .ok (.goto 1352, 3) := by decide +kernel
theorem dL_law_911 : decode cL_law 911 = .ok (.aload_n 1, 1) := by decide +kernel
theorem dL_law_912 : decode cL_law 912 = .ok (.aload_n 0, 1) := by decide +kernel
theorem dL_law_913 : decode cL_law 913 = .ok (.iload 4, 2) := by decide +kernel
theorem dL_law_915 : decode cL_law 915 = .ok (.iconst 1, 1) := by decide +kernel
theorem dL_law_916 : decode cL_law 916 = .ok (.iadd, 1) := by decide +kernel
theorem dL_law_917 : decode cL_law 917 = .ok (.iaload, 1) := by decide +kernel
theorem dL_law_918 : decode cL_law 918 = .ok (.aload_n 0, 1) := by decide +kernel
theorem dL_law_919 : decode cL_law 919 = .ok (.iload 4, 2) := by decide +kernel
theorem dL_law_921 : decode cL_law 921 = .ok (.iconst 2, 1) := by decide +kernel
theorem dL_law_922 : decode cL_law 922 = .ok (.iadd, 1) := by decide +kernel
theorem dL_law_923 : decode cL_law 923 = .ok (.iaload, 1) := by decide +kernel
theorem dL_law_924 : decode cL_law 924 = .ok (.aload_n 3, 1) := by decide +kernel
theorem dL_law_925 : decode cL_law 925 = .ok (.invokestatic 165, 3) := by decide +kernel
theorem dL_law_928 : decode cL_law 928 = .ok (.istore 5, 2) := by decide +kernel
theorem dL_law_930 : decode cL_law 930 = .ok (.aload_n 2, 1) := by decide +kernel
theorem dL_law_931 : decode cL_law 931 = .ok (.aload_n 0, 1) := by decide +kernel
theorem dL_law_932 : decode cL_law 932 = .ok (.iload 4, 2) := by decide +kernel
theorem dL_law_934 : decode cL_law 934 = .ok (.iconst 1, 1) := by decide +kernel
theorem dL_law_935 : decode cL_law 935 = .ok (.iadd, 1) := by decide +kernel
theorem dL_law_936 : decode cL_law 936 = .ok (.iaload, 1) := by decide +kernel
theorem dL_law_937 : decode cL_law 937 = .ok (.aload_n 0, 1) := by decide +kernel
theorem dL_law_938 : decode cL_law 938 = .ok (.iload 4, 2) := by decide +kernel
theorem dL_law_940 : decode cL_law 940 = .ok (.iconst 2, 1) := by decide +kernel
theorem dL_law_941 : decode cL_law 941 = .ok (.iadd, 1) := by decide +kernel
theorem dL_law_942 : decode cL_law 942 = .ok (.iaload, 1) := by decide +kernel
theorem dL_law_943 : decode cL_law 943 = .ok (.invokevirtual 167, 3) := by decide +kernel
theorem dL_law_946 : decode cL_law 946 = .ok (.istore 6, 2) := by decide +kernel
theorem dL_law_948 : decode cL_law 948 = .ok (.aload_n 2, 1) := by decide +kernel
theorem dL_law_949 : decode cL_law 949 = .ok (.invokevirtual 115, 3) := by decide +kernel
theorem dL_law_952 : decode cL_law 952 = .ok (.iload 5, 2) := by decide +kernel
theorem dL_law_954 : decode cL_law 954 = .ok (.if_icmp .eq 5, 3) := by decide +kernel
theorem dL_law_957 : decode cL_law 957 = .ok (.iconst 0, 1) := by decide +kernel
theorem dL_law_958 : decode cL_law 958 = .ok (.ireturn, 1) := by decide +kernel
theorem dL_law_959 : decode cL_law 959 = .ok (.iload 5, 2) := by decide +kernel
theorem dL_law_961 : decode cL_law 961 = .ok (.ifCond .ne 15, 3) := by decide +kernel
theorem dL_law_964 : decode cL_law 964 = .ok (.aload_n 3, 1) := by decide +kernel
theorem dL_law_965 : decode cL_law 965 = .ok (.iconst 0, 1) := by decide +kernel
theorem dL_law_966 : decode cL_law 966 = .ok (.laload, 1) := by decide +kernel
theorem dL_law_967 : decode cL_law 967 = .ok (.iload 6, 2) := by decide +kernel
theorem dL_law_969 : decode cL_law 969 = .ok (.i2l, 1) := by decide +kernel
theorem dL_law_970 : decode cL_law 970 = .ok (.lcmp, 1) := by decide +kernel
theorem dL_law_971 : decode cL_law 971 = .ok (.ifCond .eq 5, 3) := by decide +kernel
theorem dL_law_974 : decode cL_law 974 = .ok (.iconst 0, 1) := by decide +kernel
theorem dL_law_975 : decode cL_law 975 = .ok (.ireturn, 1) := by decide +kernel
theorem dL_law_976 : decode cL_law 976 = .ok (.goto 1284, 3) := by decide +kernel
theorem dL_law_979 : decode cL_law 979 = .ok (.aload_n 1, 1) := by decide +kernel
theorem dL_law_980 : decode cL_law 980 = .ok (.aload_n 0, 1) := by decide +kernel
theorem dL_law_981 : decode cL_law 981 = .ok (.iload 4, 2) := by decide +kernel
theorem dL_law_983 : decode cL_law 983 = .ok (.iconst 1, 1) := by decide +kernel
theorem dL_law_984 : decode cL_law 984 = .ok (.iadd, 1) := by decide +kernel
theorem dL_law_985 : decode cL_law 985 = .ok (.iaload, 1) := by decide +kernel
theorem dL_law_986 : decode cL_law 986 = .ok (.aload_n 3, 1) := by decide +kernel
theorem dL_law_987 : decode cL_law 987 = .ok (.invokestatic 168, 3) := by decide +kernel
theorem dL_law_990 : decode cL_law 990 = .ok (.istore 5, 2) := by decide +kernel
theorem dL_law_992 : decode cL_law 992 = .ok (.aload_n 2, 1) := by decide +kernel
theorem dL_law_993 : decode cL_law 993 = .ok (.aload_n 0, 1) := by decide +kernel
theorem dL_law_994 : decode cL_law 994 = .ok (.iload 4, 2) := by decide +kernel
theorem dL_law_996 : decode cL_law 996 = .ok (.iconst 1, 1) := by decide +kernel
theorem dL_law_997 : decode cL_law 997 = .ok (.iadd, 1) := by decide +kernel
theorem dL_law_998 : decode cL_law 998 = .ok (.iaload, 1) := by decide +kernel
theorem dL_law_999 : decode cL_law 999 = .ok (.invokevirtual 170, 3) := by decide +kernel
theorem dL_law_1002 : decode cL_law 1002 = .ok (.istore 6, 2) := by decide +kernel
theorem dL_law_1004 : decode cL_law 1004 = .ok (.aload_n 2, 1) := by decide +kernel
theorem dL_law_1005 : decode cL_law 1005 = .ok (.invokevirtual 115, 3) := by decide +kernel
theorem dL_law_1008 : decode cL_law 1008 = .ok (.iload 5, 2) := by decide +kernel
theorem dL_law_1010 : decode cL_law 1010 = .ok (.if_icmp .eq 5, 3) := by decide +kernel
theorem dL_law_1013 : decode cL_law 1013 = .ok (.iconst 0, 1) := by decide +kernel
theorem dL_law_1014 : decode cL_law 1014 = .ok (.ireturn, 1) := by decide +kernel
theorem dL_law_1015 : decode cL_law 1015 = .ok (.iload 5, 2) := by decide +kernel
theorem dL_law_1017 : decode cL_law 1017 = .ok (.ifCond .ne 15, 3) := by decide +kernel
theorem dL_law_1020 : decode cL_law 1020 = .ok (.aload_n 3, 1) := by decide +kernel
theorem dL_law_1021 : decode cL_law 1021 = .ok (.iconst 0, 1) := by decide +kernel
theorem dL_law_1022 : decode cL_law 1022 = .ok (.laload, 1) := by decide +kernel
theorem dL_law_1023 : decode cL_law 1023 = .ok (.iload 6, 2) := by decide +kernel
theorem dL_law_1025 : decode cL_law 1025 = .ok (.i2l, 1) := by decide +kernel
theorem dL_law_1026 : decode cL_law 1026 = .ok (.lcmp, 1) := by decide +kernel
theorem dL_law_1027 : decode cL_law 1027 = .ok (.ifCond .eq 5, 3) := by decide +kernel
theorem dL_law_1030 : decode cL_law 1030 = .ok (.iconst 0, 1) := by decide +kernel
theorem dL_law_1031 : decode cL_law 1031 = .ok (.ireturn, 1) := by decide +kernel
theorem dL_law_1032 : decode cL_law 1032 = .ok (.goto 1228, 3) := by decide +kernel
theorem dL_law_1035 : decode cL_law 1035 = .ok (.aload_n 1, 1) := by decide +kernel
theorem dL_law_1036 : decode cL_law 1036 = .ok (.aload_n 0, 1) := by decide +kernel
theorem dL_law_1037 : decode cL_law 1037 = .ok (.iload 4, 2) := by decide +kernel
theorem dL_law_1039 : decode cL_law 1039 = .ok (.iconst 1, 1) := by decide +kernel
theorem dL_law_1040 : decode cL_law 1040 = .ok (.iadd, 1) := by decide +kernel
theorem dL_law_1041 : decode cL_law 1041 = .ok (.iaload, 1) := by decide +kernel
theorem dL_law_1042 : decode cL_law 1042 = .ok (.aload_n 0, 1) := by decide +kernel
theorem dL_law_1043 : decode cL_law 1043 = .ok (.iload 4, 2) := by decide +kernel
theorem dL_law_1045 : decode cL_law 1045 = .ok (.iconst 2, 1) := by decide +kernel
theorem dL_law_1046 : decode cL_law 1046 = .ok (.iadd, 1) := by decide +kernel
theorem dL_law_1047 : decode cL_law 1047 = .ok (.iaload, 1) := by decide +kernel
theorem dL_law_1048 : decode cL_law 1048 = .ok (.aload_n 3, 1) := by decide +kernel
theorem dL_law_1049 : decode cL_law 1049 = .ok (.invokestatic 171, 3) := by decide +kernel
theorem dL_law_1052 : decode cL_law 1052 = .ok (.istore 5, 2) := by decide +kernel
theorem dL_law_1054 : decode cL_law 1054 = .ok (.aload_n 2, 1) := by decide +kernel
theorem dL_law_1055 : decode cL_law 1055 = .ok (.aload_n 0, 1) := by decide +kernel
theorem dL_law_1056 : decode cL_law 1056 = .ok (.iload 4, 2) := by decide +kernel
theorem dL_law_1058 : decode cL_law 1058 = .ok (.iconst 1, 1) := by decide +kernel
theorem dL_law_1059 : decode cL_law 1059 = .ok (.iadd, 1) := by decide +kernel
theorem dL_law_1060 : decode cL_law 1060 = .ok (.iaload, 1) := by decide +kernel
theorem dL_law_1061 : decode cL_law 1061 = .ok (.aload_n 0, 1) := by decide +kernel
theorem dL_law_1062 : decode cL_law 1062 = .ok (.iload 4, 2) := by decide +kernel
theorem dL_law_1064 : decode cL_law 1064 = .ok (.iconst 2, 1) := by decide +kernel
theorem dL_law_1065 : decode cL_law 1065 = .ok (.iadd, 1) := by decide +kernel
theorem dL_law_1066 : decode cL_law 1066 = .ok (.iaload, 1) := by decide +kernel
theorem dL_law_1067 : decode cL_law 1067 = .ok (.invokevirtual 173, 3) := by decide +kernel
theorem dL_law_1070 : decode cL_law 1070 = .ok (.istore 6, 2) := by decide +kernel
theorem dL_law_1072 : decode cL_law 1072 = .ok (.aload_n 2, 1) := by decide +kernel
theorem dL_law_1073 : decode cL_law 1073 = .ok (.invokevirtual 115, 3) := by decide +kernel
theorem dL_law_1076 : decode cL_law 1076 = .ok (.iload 5, 2) := by decide +kernel
theorem dL_law_1078 : decode cL_law 1078 = .ok (.if_icmp .eq 5, 3) := by decide +kernel
theorem dL_law_1081 : decode cL_law 1081 = .ok (.iconst 0, 1) := by decide +kernel
theorem dL_law_1082 : decode cL_law 1082 = .ok (.ireturn, 1) := by decide +kernel
theorem dL_law_1083 : decode cL_law 1083 = .ok (.iload 5, 2) := by decide +kernel
theorem dL_law_1085 : decode cL_law 1085 = .ok (.ifCond .ne 15, 3) := by decide +kernel
theorem dL_law_1088 : decode cL_law 1088 = .ok (.aload_n 3, 1) := by decide +kernel
theorem dL_law_1089 : decode cL_law 1089 = .ok (.iconst 0, 1) := by decide +kernel
theorem dL_law_1090 : decode cL_law 1090 = .ok (.laload, 1) := by decide +kernel
theorem dL_law_1091 : decode cL_law 1091 = .ok (.iload 6, 2) := by decide +kernel
theorem dL_law_1093 : decode cL_law 1093 = .ok (.i2l, 1) := by decide +kernel
theorem dL_law_1094 : decode cL_law 1094 = .ok (.lcmp, 1) := by decide +kernel
theorem dL_law_1095 : decode cL_law 1095 = .ok (.ifCond .eq 5, 3) := by decide +kernel
theorem dL_law_1098 : decode cL_law 1098 = .ok (.iconst 0, 1) := by decide +kernel
theorem dL_law_1099 : decode cL_law 1099 = .ok (.ireturn, 1) := by decide +kernel
theorem dL_law_1100 : decode cL_law 1100 = .ok (.goto 1160, 3) := by decide +kernel
theorem dL_law_1103 : decode cL_law 1103 = .ok (.aload_n 1, 1) := by decide +kernel
theorem dL_law_1104 : decode cL_law 1104 = .ok (.aload_n 0, 1) := by decide +kernel
theorem dL_law_1105 : decode cL_law 1105 = .ok (.iload 4, 2) := by decide +kernel
theorem dL_law_1107 : decode cL_law 1107 = .ok (.iconst 1, 1) := by decide +kernel
theorem dL_law_1108 : decode cL_law 1108 = .ok (.iadd, 1) := by decide +kernel
theorem dL_law_1109 : decode cL_law 1109 = .ok (.iaload, 1) := by decide +kernel
theorem dL_law_1110 : decode cL_law 1110 = .ok (.aload_n 3, 1) := by decide +kernel
theorem dL_law_1111 : decode cL_law 1111 = .ok (.invokestatic 174, 3) := by decide +kernel
theorem dL_law_1114 : decode cL_law 1114 = .ok (.istore 5, 2) := by decide +kernel
theorem dL_law_1116 : decode cL_law 1116 = .ok (.aload_n 2, 1) := by decide +kernel
theorem dL_law_1117 : decode cL_law 1117 = .ok (.aload_n 0, 1) := by decide +kernel
theorem dL_law_1118 : decode cL_law 1118 = .ok (.iload 4, 2) := by decide +kernel
theorem dL_law_1120 : decode cL_law 1120 = .ok (.iconst 1, 1) := by decide +kernel
theorem dL_law_1121 : decode cL_law 1121 = .ok (.iadd, 1) := by decide +kernel
theorem dL_law_1122 : decode cL_law 1122 = .ok (.iaload, 1) := by decide +kernel
theorem dL_law_1123 : decode cL_law 1123 = .ok (.invokevirtual 176, 3) := by decide +kernel
theorem dL_law_1126 : decode cL_law 1126 = .ok (.istore 6, 2) := by decide +kernel
theorem dL_law_1128 : decode cL_law 1128 = .ok (.aload_n 2, 1) := by decide +kernel
theorem dL_law_1129 : decode cL_law 1129 = .ok (.invokevirtual 115, 3) := by decide +kernel
theorem dL_law_1132 : decode cL_law 1132 = .ok (.iload 5, 2) := by decide +kernel
theorem dL_law_1134 : decode cL_law 1134 = .ok (.if_icmp .eq 5, 3) := by decide +kernel
theorem dL_law_1137 : decode cL_law 1137 = .ok (.iconst 0, 1) := by decide +kernel
theorem dL_law_1138 : decode cL_law 1138 = .ok (.ireturn, 1) := by decide +kernel
theorem dL_law_1139 : decode cL_law 1139 = .ok (.iload 5, 2) := by decide +kernel
theorem dL_law_1141 : decode cL_law 1141 = .ok (.ifCond .ne 15, 3) := by decide +kernel
theorem dL_law_1144 : decode cL_law 1144 = .ok (.aload_n 3, 1) := by decide +kernel
theorem dL_law_1145 : decode cL_law 1145 = .ok (.iconst 0, 1) := by decide +kernel
theorem dL_law_1146 : decode cL_law 1146 = .ok (.laload, 1) := by decide +kernel
theorem dL_law_1147 : decode cL_law 1147 = .ok (.iload 6, 2) := by decide +kernel
theorem dL_law_1149 : decode cL_law 1149 = .ok (.i2l, 1) := by decide +kernel
theorem dL_law_1150 : decode cL_law 1150 = .ok (.lcmp, 1) := by decide +kernel
theorem dL_law_1151 : decode cL_law 1151 = .ok (.ifCond .eq 5, 3) := by decide +kernel
theorem dL_law_1154 : decode cL_law 1154 = .ok (.iconst 0, 1) := by decide +kernel
theorem dL_law_1155 : decode cL_law 1155 = .ok (.ireturn, 1) := by decide +kernel
theorem dL_law_1156 : decode cL_law 1156 = .ok (.goto 1104, 3) := by decide +kernel
theorem dL_law_1159 : decode cL_law 1159 = .ok (.aload_n 1, 1) := by decide +kernel
theorem dL_law_1160 : decode cL_law 1160 = .ok (.aload_n 0, 1) := by decide +kernel
theorem dL_law_1161 : decode cL_law 1161 = .ok (.iload 4, 2) := by decide +kernel
theorem dL_law_1163 : decode cL_law 1163 = .ok (.iconst 1, 1) := by decide +kernel
theorem dL_law_1164 : decode cL_law 1164 = .ok (.iadd, 1) := by decide +kernel
theorem dL_law_1165 : decode cL_law 1165 = .ok (.iaload, 1) := by decide +kernel
theorem dL_law_1166 : decode cL_law 1166 = .ok (.aload_n 0, 1) := by decide +kernel
theorem dL_law_1167 : decode cL_law 1167 = .ok (.iload 4, 2) := by decide +kernel
theorem dL_law_1169 : decode cL_law 1169 = .ok (.iconst 2, 1) := by decide +kernel
theorem dL_law_1170 : decode cL_law 1170 = .ok (.iadd, 1) := by decide +kernel
theorem dL_law_1171 : decode cL_law 1171 = .ok (.iaload, 1) := by decide +kernel
theorem dL_law_1172 : decode cL_law 1172 = .ok (.aload_n 3, 1) := by decide +kernel
theorem dL_law_1173 : decode cL_law 1173 = .ok (.invokestatic 177, 3) := by decide +kernel
theorem dL_law_1176 : decode cL_law 1176 = .ok (.istore 5, 2) := by decide +kernel
theorem dL_law_1178 : decode cL_law 1178 = .ok (.aload_n 2, 1) := by decide +kernel
theorem dL_law_1179 : decode cL_law 1179 = .ok (.aload_n 0, 1) := by decide +kernel
theorem dL_law_1180 : decode cL_law 1180 = .ok (.iload 4, 2) := by decide +kernel
theorem dL_law_1182 : decode cL_law 1182 = .ok (.iconst 1, 1) := by decide +kernel
theorem dL_law_1183 : decode cL_law 1183 = .ok (.iadd, 1) := by decide +kernel
theorem dL_law_1184 : decode cL_law 1184 = .ok (.iaload, 1) := by decide +kernel
theorem dL_law_1185 : decode cL_law 1185 = .ok (.aload_n 0, 1) := by decide +kernel
theorem dL_law_1186 : decode cL_law 1186 = .ok (.iload 4, 2) := by decide +kernel
theorem dL_law_1188 : decode cL_law 1188 = .ok (.iconst 2, 1) := by decide +kernel
theorem dL_law_1189 : decode cL_law 1189 = .ok (.iadd, 1) := by decide +kernel
theorem dL_law_1190 : decode cL_law 1190 = .ok (.iaload, 1) := by decide +kernel
theorem dL_law_1191 : decode cL_law 1191 = .ok (.invokevirtual 179, 3) := by decide +kernel
theorem dL_law_1194 : decode cL_law 1194 = .ok (.istore 6, 2) := by decide +kernel
theorem dL_law_1196 : decode cL_law 1196 = .ok (.aload_n 2, 1) := by decide +kernel
theorem dL_law_1197 : decode cL_law 1197 = .ok (.invokevirtual 115, 3) := by decide +kernel
theorem dL_law_1200 : decode cL_law 1200 = .ok (.iload 5, 2) := by decide +kernel
theorem dL_law_1202 : decode cL_law 1202 = .ok (.if_icmp .eq 5, 3) := by decide +kernel
theorem dL_law_1205 : decode cL_law 1205 = .ok (.iconst 0, 1) := by decide +kernel
theorem dL_law_1206 : decode cL_law 1206 = .ok (.ireturn, 1) := by decide +kernel
theorem dL_law_1207 : decode cL_law 1207 = .ok (.iload 5, 2) := by decide +kernel
theorem dL_law_1209 : decode cL_law 1209 = .ok (.ifCond .ne 15, 3) := by decide +kernel
theorem dL_law_1212 : decode cL_law 1212 = .ok (.aload_n 3, 1) := by decide +kernel
theorem dL_law_1213 : decode cL_law 1213 = .ok (.iconst 0, 1) := by decide +kernel
theorem dL_law_1214 : decode cL_law 1214 = .ok (.laload, 1) := by decide +kernel
theorem dL_law_1215 : decode cL_law 1215 = .ok (.iload 6, 2) := by decide +kernel
theorem dL_law_1217 : decode cL_law 1217 = .ok (.i2l, 1) := by decide +kernel
theorem dL_law_1218 : decode cL_law 1218 = .ok (.lcmp, 1) := by decide +kernel
theorem dL_law_1219 : decode cL_law 1219 = .ok (.ifCond .eq 5, 3) := by decide +kernel
theorem dL_law_1222 : decode cL_law 1222 = .ok (.iconst 0, 1) := by decide +kernel
theorem dL_law_1223 : decode cL_law 1223 = .ok (.ireturn, 1) := by decide +kernel
theorem dL_law_1224 : decode cL_law 1224 = .ok (.goto 1036, 3) := by decide +kernel
theorem dL_law_1227 : decode cL_law 1227 = .ok (.aload_n 1, 1) := by decide +kernel
theorem dL_law_1228 : decode cL_law 1228 = .ok (.aload_n 0, 1) := by decide +kernel
theorem dL_law_1229 : decode cL_law 1229 = .ok (.iload 4, 2) := by decide +kernel
theorem dL_law_1231 : decode cL_law 1231 = .ok (.iconst 1, 1) := by decide +kernel
theorem dL_law_1232 : decode cL_law 1232 = .ok (.iadd, 1) := by decide +kernel
theorem dL_law_1233 : decode cL_law 1233 = .ok (.iaload, 1) := by decide +kernel
theorem dL_law_1234 : decode cL_law 1234 = .ok (.aload_n 0, 1) := by decide +kernel
theorem dL_law_1235 : decode cL_law 1235 = .ok (.iload 4, 2) := by decide +kernel
theorem dL_law_1237 : decode cL_law 1237 = .ok (.iconst 2, 1) := by decide +kernel
theorem dL_law_1238 : decode cL_law 1238 = .ok (.iadd, 1) := by decide +kernel
theorem dL_law_1239 : decode cL_law 1239 = .ok (.iaload, 1) := by decide +kernel
theorem dL_law_1240 : decode cL_law 1240 = .ok (.aload_n 3, 1) := by decide +kernel
theorem dL_law_1241 : decode cL_law 1241 = .ok (.invokestatic 180, 3) := by decide +kernel
theorem dL_law_1244 : decode cL_law 1244 = .ok (.istore 5, 2) := by decide +kernel
theorem dL_law_1246 : decode cL_law 1246 = .ok (.aload_n 2, 1) := by decide +kernel
theorem dL_law_1247 : decode cL_law 1247 = .ok (.aload_n 0, 1) := by decide +kernel
theorem dL_law_1248 : decode cL_law 1248 = .ok (.iload 4, 2) := by decide +kernel
theorem dL_law_1250 : decode cL_law 1250 = .ok (.iconst 1, 1) := by decide +kernel
theorem dL_law_1251 : decode cL_law 1251 = .ok (.iadd, 1) := by decide +kernel
theorem dL_law_1252 : decode cL_law 1252 = .ok (.iaload, 1) := by decide +kernel
theorem dL_law_1253 : decode cL_law 1253 = .ok (.aload_n 0, 1) := by decide +kernel
theorem dL_law_1254 : decode cL_law 1254 = .ok (.iload 4, 2) := by decide +kernel
theorem dL_law_1256 : decode cL_law 1256 = .ok (.iconst 2, 1) := by decide +kernel
theorem dL_law_1257 : decode cL_law 1257 = .ok (.iadd, 1) := by decide +kernel
theorem dL_law_1258 : decode cL_law 1258 = .ok (.iaload, 1) := by decide +kernel
theorem dL_law_1259 : decode cL_law 1259 = .ok (.invokevirtual 182, 3) := by decide +kernel
theorem dL_law_1262 : decode cL_law 1262 = .ok (.istore 6, 2) := by decide +kernel
theorem dL_law_1264 : decode cL_law 1264 = .ok (.aload_n 2, 1) := by decide +kernel
theorem dL_law_1265 : decode cL_law 1265 = .ok (.invokevirtual 115, 3) := by decide +kernel
theorem dL_law_1268 : decode cL_law 1268 = .ok (.iload 5, 2) := by decide +kernel
theorem dL_law_1270 : decode cL_law 1270 = .ok (.if_icmp .eq 5, 3) := by decide +kernel
theorem dL_law_1273 : decode cL_law 1273 = .ok (.iconst 0, 1) := by decide +kernel
theorem dL_law_1274 : decode cL_law 1274 = .ok (.ireturn, 1) := by decide +kernel
theorem dL_law_1275 : decode cL_law 1275 = .ok (.iload 5, 2) := by decide +kernel
theorem dL_law_1277 : decode cL_law 1277 = .ok (.ifCond .ne 15, 3) := by decide +kernel
theorem dL_law_1280 : decode cL_law 1280 = .ok (.aload_n 3, 1) := by decide +kernel
theorem dL_law_1281 : decode cL_law 1281 = .ok (.iconst 0, 1) := by decide +kernel
theorem dL_law_1282 : decode cL_law 1282 = .ok (.laload, 1) := by decide +kernel
theorem dL_law_1283 : decode cL_law 1283 = .ok (.iload 6, 2) := by decide +kernel
theorem dL_law_1285 : decode cL_law 1285 = .ok (.i2l, 1) := by decide +kernel
theorem dL_law_1286 : decode cL_law 1286 = .ok (.lcmp, 1) := by decide +kernel
theorem dL_law_1287 : decode cL_law 1287 = .ok (.ifCond .eq 5, 3) := by decide +kernel
theorem dL_law_1290 : decode cL_law 1290 = .ok (.iconst 0, 1) := by decide +kernel
theorem dL_law_1291 : decode cL_law 1291 = .ok (.ireturn, 1) := by decide +kernel
theorem dL_law_1292 : decode cL_law 1292 = .ok (.goto 968, 3) := by decide +kernel
theorem dL_law_1295 : decode cL_law 1295 = .ok (.aload_n 1, 1) := by decide +kernel
theorem dL_law_1296 : decode cL_law 1296 = .ok (.aload_n 0, 1) := by decide +kernel
theorem dL_law_1297 : decode cL_law 1297 = .ok (.iload 4, 2) := by decide +kernel
theorem dL_law_1299 : decode cL_law 1299 = .ok (.iconst 1, 1) := by decide +kernel
theorem dL_law_1300 : decode cL_law 1300 = .ok (.iadd, 1) := by decide +kernel
theorem dL_law_1301 : decode cL_law 1301 = .ok (.iaload, 1) := by decide +kernel
theorem dL_law_1302 : decode cL_law 1302 = .ok (.aload_n 0, 1) := by decide +kernel
theorem dL_law_1303 : decode cL_law 1303 = .ok (.iload 4, 2) := by decide +kernel
theorem dL_law_1305 : decode cL_law 1305 = .ok (.iconst 2, 1) := by decide +kernel
theorem dL_law_1306 : decode cL_law 1306 = .ok (.iadd, 1) := by decide +kernel
theorem dL_law_1307 : decode cL_law 1307 = .ok (.iaload, 1) := by decide +kernel
theorem dL_law_1308 : decode cL_law 1308 = .ok (.aload_n 3, 1) := by decide +kernel
theorem dL_law_1309 : decode cL_law 1309 = .ok (.invokestatic 183, 3) := by decide +kernel
theorem dL_law_1312 : decode cL_law 1312 = .ok (.istore 5, 2) := by decide +kernel
theorem dL_law_1314 : decode cL_law 1314 = .ok (.aload_n 2, 1) := by decide +kernel
theorem dL_law_1315 : decode cL_law 1315 = .ok (.aload_n 0, 1) := by decide +kernel
theorem dL_law_1316 : decode cL_law 1316 = .ok (.iload 4, 2) := by decide +kernel
theorem dL_law_1318 : decode cL_law 1318 = .ok (.iconst 1, 1) := by decide +kernel
theorem dL_law_1319 : decode cL_law 1319 = .ok (.iadd, 1) := by decide +kernel
theorem dL_law_1320 : decode cL_law 1320 = .ok (.iaload, 1) := by decide +kernel
theorem dL_law_1321 : decode cL_law 1321 = .ok (.aload_n 0, 1) := by decide +kernel
theorem dL_law_1322 : decode cL_law 1322 = .ok (.iload 4, 2) := by decide +kernel
theorem dL_law_1324 : decode cL_law 1324 = .ok (.iconst 2, 1) := by decide +kernel
theorem dL_law_1325 : decode cL_law 1325 = .ok (.iadd, 1) := by decide +kernel
theorem dL_law_1326 : decode cL_law 1326 = .ok (.iaload, 1) := by decide +kernel
theorem dL_law_1327 : decode cL_law 1327 = .ok (.invokevirtual 185, 3) := by decide +kernel
theorem dL_law_1330 : decode cL_law 1330 = .ok (.istore 6, 2) := by decide +kernel
theorem dL_law_1332 : decode cL_law 1332 = .ok (.aload_n 2, 1) := by decide +kernel
theorem dL_law_1333 : decode cL_law 1333 = .ok (.invokevirtual 115, 3) := by decide +kernel
theorem dL_law_1336 : decode cL_law 1336 = .ok (.iload 5, 2) := by decide +kernel
theorem dL_law_1338 : decode cL_law 1338 = .ok (.if_icmp .eq 5, 3) := by decide +kernel
theorem dL_law_1341 : decode cL_law 1341 = .ok (.iconst 0, 1) := by decide +kernel
theorem dL_law_1342 : decode cL_law 1342 = .ok (.ireturn, 1) := by decide +kernel
theorem dL_law_1343 : decode cL_law 1343 = .ok (.iload 5, 2) := by decide +kernel
theorem dL_law_1345 : decode cL_law 1345 = .ok (.ifCond .ne 15, 3) := by decide +kernel
theorem dL_law_1348 : decode cL_law 1348 = .ok (.aload_n 3, 1) := by decide +kernel
theorem dL_law_1349 : decode cL_law 1349 = .ok (.iconst 0, 1) := by decide +kernel
theorem dL_law_1350 : decode cL_law 1350 = .ok (.laload, 1) := by decide +kernel
theorem dL_law_1351 : decode cL_law 1351 = .ok (.iload 6, 2) := by decide +kernel
theorem dL_law_1353 : decode cL_law 1353 = .ok (.i2l, 1) := by decide +kernel
theorem dL_law_1354 : decode cL_law 1354 = .ok (.lcmp, 1) := by decide +kernel
theorem dL_law_1355 : decode cL_law 1355 = .ok (.ifCond .eq 5, 3) := by decide +kernel
theorem dL_law_1358 : decode cL_law 1358 = .ok (.iconst 0, 1) := by decide +kernel
theorem dL_law_1359 : decode cL_law 1359 = .ok (.ireturn, 1) := by decide +kernel
theorem dL_law_1360 : decode cL_law 1360 = .ok (.goto 900, 3) := by decide +kernel
theorem dL_law_1363 : decode cL_law 1363 = .ok (.aload_n 1, 1) := by decide +kernel
theorem dL_law_1364 : decode cL_law 1364 = .ok (.aload_n 0, 1) := by decide +kernel
theorem dL_law_1365 : decode cL_law 1365 = .ok (.iload 4, 2) := by decide +kernel
theorem dL_law_1367 : decode cL_law 1367 = .ok (.iconst 1, 1) := by decide +kernel
theorem dL_law_1368 : decode cL_law 1368 = .ok (.iadd, 1) := by decide +kernel
theorem dL_law_1369 : decode cL_law 1369 = .ok (.iaload, 1) := by decide +kernel
theorem dL_law_1370 : decode cL_law 1370 = .ok (.aload_n 3, 1) := by decide +kernel
theorem dL_law_1371 : decode cL_law 1371 = .ok (.invokestatic 186, 3) := by decide +kernel
theorem dL_law_1374 : decode cL_law 1374 = .ok (.istore 5, 2) := by decide +kernel
theorem dL_law_1376 : decode cL_law 1376 = .ok (.aload_n 2, 1) := by decide +kernel
theorem dL_law_1377 : decode cL_law 1377 = .ok (.aload_n 0, 1) := by decide +kernel
theorem dL_law_1378 : decode cL_law 1378 = .ok (.iload 4, 2) := by decide +kernel
theorem dL_law_1380 : decode cL_law 1380 = .ok (.iconst 1, 1) := by decide +kernel
theorem dL_law_1381 : decode cL_law 1381 = .ok (.iadd, 1) := by decide +kernel
theorem dL_law_1382 : decode cL_law 1382 = .ok (.iaload, 1) := by decide +kernel
theorem dL_law_1383 : decode cL_law 1383 = .ok (.invokevirtual 188, 3) := by decide +kernel
theorem dL_law_1386 : decode cL_law 1386 = .ok (.istore 6, 2) := by decide +kernel
theorem dL_law_1388 : decode cL_law 1388 = .ok (.aload_n 2, 1) := by decide +kernel
theorem dL_law_1389 : decode cL_law 1389 = .ok (.invokevirtual 115, 3) := by decide +kernel
theorem dL_law_1392 : decode cL_law 1392 = .ok (.iload 5, 2) := by decide +kernel
theorem dL_law_1394 : decode cL_law 1394 = .ok (.if_icmp .eq 5, 3) := by decide +kernel
theorem dL_law_1397 : decode cL_law 1397 = .ok (.iconst 0, 1) := by decide +kernel
theorem dL_law_1398 : decode cL_law 1398 = .ok (.ireturn, 1) := by decide +kernel
theorem dL_law_1399 : decode cL_law 1399 = .ok (.iload 5, 2) := by decide +kernel
theorem dL_law_1401 : decode cL_law 1401 = .ok (.ifCond .ne 15, 3) := by decide +kernel
theorem dL_law_1404 : decode cL_law 1404 = .ok (.aload_n 3, 1) := by decide +kernel
theorem dL_law_1405 : decode cL_law 1405 = .ok (.iconst 0, 1) := by decide +kernel
theorem dL_law_1406 : decode cL_law 1406 = .ok (.laload, 1) := by decide +kernel
theorem dL_law_1407 : decode cL_law 1407 = .ok (.iload 6, 2) := by decide +kernel
theorem dL_law_1409 : decode cL_law 1409 = .ok (.i2l, 1) := by decide +kernel
theorem dL_law_1410 : decode cL_law 1410 = .ok (.lcmp, 1) := by decide +kernel
theorem dL_law_1411 : decode cL_law 1411 = .ok (.ifCond .eq 5, 3) := by decide +kernel
theorem dL_law_1414 : decode cL_law 1414 = .ok (.iconst 0, 1) := by decide +kernel
theorem dL_law_1415 : decode cL_law 1415 = .ok (.ireturn, 1) := by decide +kernel
theorem dL_law_1416 : decode cL_law 1416 = .ok (.goto 844, 3) := by decide +kernel
theorem dL_law_1419 : decode cL_law 1419 = .ok (.aload_n 1, 1) := by decide +kernel
theorem dL_law_1420 : decode cL_law 1420 = .ok (.aload_n 0, 1) := by decide +kernel
theorem dL_law_1421 : decode cL_law 1421 = .ok (.iload 4, 2) := by decide +kernel
theorem dL_law_1423 : decode cL_law 1423 = .ok (.iconst 1, 1) := by decide +kernel
theorem dL_law_1424 : decode cL_law 1424 = .ok (.iadd, 1) := by decide +kernel
theorem dL_law_1425 : decode cL_law 1425 = .ok (.iaload, 1) := by decide +kernel
theorem dL_law_1426 : decode cL_law 1426 = .ok (.aload_n 0, 1) := by decide +kernel
theorem dL_law_1427 : decode cL_law 1427 = .ok (.iload 4, 2) := by decide +kernel
theorem dL_law_1429 : decode cL_law 1429 = .ok (.iconst 2, 1) := by decide +kernel
theorem dL_law_1430 : decode cL_law 1430 = .ok (.iadd, 1) := by decide +kernel
theorem dL_law_1431 : decode cL_law 1431 = .ok (.iaload, 1) := by decide +kernel
theorem dL_law_1432 : decode cL_law 1432 = .ok (.aload_n 3, 1) := by decide +kernel
theorem dL_law_1433 : decode cL_law 1433 = .ok (.invokestatic 189, 3) := by decide +kernel
theorem dL_law_1436 : decode cL_law 1436 = .ok (.istore 5, 2) := by decide +kernel
theorem dL_law_1438 : decode cL_law 1438 = .ok (.aload_n 2, 1) := by decide +kernel
theorem dL_law_1439 : decode cL_law 1439 = .ok (.aload_n 0, 1) := by decide +kernel
theorem dL_law_1440 : decode cL_law 1440 = .ok (.iload 4, 2) := by decide +kernel
theorem dL_law_1442 : decode cL_law 1442 = .ok (.iconst 1, 1) := by decide +kernel
theorem dL_law_1443 : decode cL_law 1443 = .ok (.iadd, 1) := by decide +kernel
theorem dL_law_1444 : decode cL_law 1444 = .ok (.iaload, 1) := by decide +kernel
theorem dL_law_1445 : decode cL_law 1445 = .ok (.aload_n 0, 1) := by decide +kernel
theorem dL_law_1446 : decode cL_law 1446 = .ok (.iload 4, 2) := by decide +kernel
theorem dL_law_1448 : decode cL_law 1448 = .ok (.iconst 2, 1) := by decide +kernel
theorem dL_law_1449 : decode cL_law 1449 = .ok (.iadd, 1) := by decide +kernel
theorem dL_law_1450 : decode cL_law 1450 = .ok (.iaload, 1) := by decide +kernel
theorem dL_law_1451 : decode cL_law 1451 = .ok (.invokevirtual 191, 3) := by decide +kernel
theorem dL_law_1454 : decode cL_law 1454 = .ok (.istore 6, 2) := by decide +kernel
theorem dL_law_1456 : decode cL_law 1456 = .ok (.aload_n 2, 1) := by decide +kernel
theorem dL_law_1457 : decode cL_law 1457 = .ok (.invokevirtual 115, 3) := by decide +kernel
theorem dL_law_1460 : decode cL_law 1460 = .ok (.iload 5, 2) := by decide +kernel
theorem dL_law_1462 : decode cL_law 1462 = .ok (.if_icmp .eq 5, 3) := by decide +kernel
theorem dL_law_1465 : decode cL_law 1465 = .ok (.iconst 0, 1) := by decide +kernel
theorem dL_law_1466 : decode cL_law 1466 = .ok (.ireturn, 1) := by decide +kernel
theorem dL_law_1467 : decode cL_law 1467 = .ok (.iload 5, 2) := by decide +kernel
theorem dL_law_1469 : decode cL_law 1469 = .ok (.ifCond .ne 15, 3) := by decide +kernel
theorem dL_law_1472 : decode cL_law 1472 = .ok (.aload_n 3, 1) := by decide +kernel
theorem dL_law_1473 : decode cL_law 1473 = .ok (.iconst 0, 1) := by decide +kernel
theorem dL_law_1474 : decode cL_law 1474 = .ok (.laload, 1) := by decide +kernel
theorem dL_law_1475 : decode cL_law 1475 = .ok (.iload 6, 2) := by decide +kernel
theorem dL_law_1477 : decode cL_law 1477 = .ok (.i2l, 1) := by decide +kernel
theorem dL_law_1478 : decode cL_law 1478 = .ok (.lcmp, 1) := by decide +kernel
theorem dL_law_1479 : decode cL_law 1479 = .ok (.ifCond .eq 5, 3) := by decide +kernel
theorem dL_law_1482 : decode cL_law 1482 = .ok (.iconst 0, 1) := by decide +kernel
theorem dL_law_1483 : decode cL_law 1483 = .ok (.ireturn, 1) := by decide +kernel
theorem dL_law_1484 : decode cL_law 1484 = .ok (.goto 776, 3) := by decide +kernel
theorem dL_law_1487 : decode cL_law 1487 = .ok (.aload_n 1, 1) := by decide +kernel
theorem dL_law_1488 : decode cL_law 1488 = .ok (.aload_n 0, 1) := by decide +kernel
theorem dL_law_1489 : decode cL_law 1489 = .ok (.iload 4, 2) := by decide +kernel
theorem dL_law_1491 : decode cL_law 1491 = .ok (.iconst 1, 1) := by decide +kernel
theorem dL_law_1492 : decode cL_law 1492 = .ok (.iadd, 1) := by decide +kernel
theorem dL_law_1493 : decode cL_law 1493 = .ok (.iaload, 1) := by decide +kernel
theorem dL_law_1494 : decode cL_law 1494 = .ok (.aload_n 3, 1) := by decide +kernel
theorem dL_law_1495 : decode cL_law 1495 = .ok (.invokestatic 192, 3) := by decide +kernel
theorem dL_law_1498 : decode cL_law 1498 = .ok (.istore 5, 2) := by decide +kernel
theorem dL_law_1500 : decode cL_law 1500 = .ok (.aload_n 2, 1) := by decide +kernel
theorem dL_law_1501 : decode cL_law 1501 = .ok (.aload_n 0, 1) := by decide +kernel
theorem dL_law_1502 : decode cL_law 1502 = .ok (.iload 4, 2) := by decide +kernel
theorem dL_law_1504 : decode cL_law 1504 = .ok (.iconst 1, 1) := by decide +kernel
theorem dL_law_1505 : decode cL_law 1505 = .ok (.iadd, 1) := by decide +kernel
theorem dL_law_1506 : decode cL_law 1506 = .ok (.iaload, 1) := by decide +kernel
theorem dL_law_1507 : decode cL_law 1507 = .ok (.invokevirtual 194, 3) := by decide +kernel
theorem dL_law_1510 : decode cL_law 1510 = .ok (.istore 6, 2) := by decide +kernel
theorem dL_law_1512 : decode cL_law 1512 = .ok (.aload_n 2, 1) := by decide +kernel
theorem dL_law_1513 : decode cL_law 1513 = .ok (.invokevirtual 115, 3) := by decide +kernel
theorem dL_law_1516 : decode cL_law 1516 = .ok (.iload 5, 2) := by decide +kernel
theorem dL_law_1518 : decode cL_law 1518 = .ok (.if_icmp .eq 5, 3) := by decide +kernel
theorem dL_law_1521 : decode cL_law 1521 = .ok (.iconst 0, 1) := by decide +kernel
theorem dL_law_1522 : decode cL_law 1522 = .ok (.ireturn, 1) := by decide +kernel
theorem dL_law_1523 : decode cL_law 1523 = .ok (.iload 5, 2) := by decide +kernel
theorem dL_law_1525 : decode cL_law 1525 = .ok (.ifCond .ne 15, 3) := by decide +kernel
theorem dL_law_1528 : decode cL_law 1528 = .ok (.aload_n 3, 1) := by decide +kernel
theorem dL_law_1529 : decode cL_law 1529 = .ok (.iconst 0, 1) := by decide +kernel
theorem dL_law_1530 : decode cL_law 1530 = .ok (.laload, 1) := by decide +kernel
theorem dL_law_1531 : decode cL_law 1531 = .ok (.iload 6, 2) := by decide +kernel
theorem dL_law_1533 : decode cL_law 1533 = .ok (.i2l, 1) := by decide +kernel
theorem dL_law_1534 : decode cL_law 1534 = .ok (.lcmp, 1) := by decide +kernel
theorem dL_law_1535 : decode cL_law 1535 = .ok (.ifCond .eq 5, 3) := by decide +kernel
theorem dL_law_1538 : decode cL_law 1538 = .ok (.iconst 0, 1) := by decide +kernel
theorem dL_law_1539 : decode cL_law 1539 = .ok (.ireturn, 1) := by decide +kernel
theorem dL_law_1540 : decode cL_law 1540 = .ok (.goto 720, 3) := by decide +kernel
theorem dL_law_1543 : decode cL_law 1543 = .ok (.aload_n 1, 1) := by decide +kernel
theorem dL_law_1544 : decode cL_law 1544 = .ok (.aload_n 0, 1) := by decide +kernel
theorem dL_law_1545 : decode cL_law 1545 = .ok (.iload 4, 2) := by decide +kernel
theorem dL_law_1547 : decode cL_law 1547 = .ok (.iconst 1, 1) := by decide +kernel
theorem dL_law_1548 : decode cL_law 1548 = .ok (.iadd, 1) := by decide +kernel
theorem dL_law_1549 : decode cL_law 1549 = .ok (.iaload, 1) := by decide +kernel
theorem dL_law_1550 : decode cL_law 1550 = .ok (.aload_n 0, 1) := by decide +kernel
theorem dL_law_1551 : decode cL_law 1551 = .ok (.iload 4, 2) := by decide +kernel
theorem dL_law_1553 : decode cL_law 1553 = .ok (.iconst 2, 1) := by decide +kernel
theorem dL_law_1554 : decode cL_law 1554 = .ok (.iadd, 1) := by decide +kernel
theorem dL_law_1555 : decode cL_law 1555 = .ok (.iaload, 1) := by decide +kernel
theorem dL_law_1556 : decode cL_law 1556 = .ok (.aload_n 3, 1) := by decide +kernel
theorem dL_law_1557 : decode cL_law 1557 = .ok (.invokestatic 195, 3) := by decide +kernel
theorem dL_law_1560 : decode cL_law 1560 = .ok (.istore 5, 2) := by decide +kernel
theorem dL_law_1562 : decode cL_law 1562 = .ok (.aload_n 2, 1) := by decide +kernel
theorem dL_law_1563 : decode cL_law 1563 = .ok (.aload_n 0, 1) := by decide +kernel
theorem dL_law_1564 : decode cL_law 1564 = .ok (.iload 4, 2) := by decide +kernel
theorem dL_law_1566 : decode cL_law 1566 = .ok (.iconst 1, 1) := by decide +kernel
theorem dL_law_1567 : decode cL_law 1567 = .ok (.iadd, 1) := by decide +kernel
theorem dL_law_1568 : decode cL_law 1568 = .ok (.iaload, 1) := by decide +kernel
theorem dL_law_1569 : decode cL_law 1569 = .ok (.aload_n 0, 1) := by decide +kernel
theorem dL_law_1570 : decode cL_law 1570 = .ok (.iload 4, 2) := by decide +kernel
theorem dL_law_1572 : decode cL_law 1572 = .ok (.iconst 2, 1) := by decide +kernel
theorem dL_law_1573 : decode cL_law 1573 = .ok (.iadd, 1) := by decide +kernel
theorem dL_law_1574 : decode cL_law 1574 = .ok (.iaload, 1) := by decide +kernel
theorem dL_law_1575 : decode cL_law 1575 = .ok (.invokevirtual 197, 3) := by decide +kernel
theorem dL_law_1578 : decode cL_law 1578 = .ok (.istore 6, 2) := by decide +kernel
theorem dL_law_1580 : decode cL_law 1580 = .ok (.aload_n 2, 1) := by decide +kernel
theorem dL_law_1581 : decode cL_law 1581 = .ok (.invokevirtual 115, 3) := by decide +kernel
theorem dL_law_1584 : decode cL_law 1584 = .ok (.iload 5, 2) := by decide +kernel
theorem dL_law_1586 : decode cL_law 1586 = .ok (.if_icmp .eq 5, 3) := by decide +kernel
theorem dL_law_1589 : decode cL_law 1589 = .ok (.iconst 0, 1) := by decide +kernel
theorem dL_law_1590 : decode cL_law 1590 = .ok (.ireturn, 1) := by decide +kernel
theorem dL_law_1591 : decode cL_law 1591 = .ok (.iload 5, 2) := by decide +kernel
theorem dL_law_1593 : decode cL_law 1593 = .ok (.ifCond .ne 15, 3) := by decide +kernel
theorem dL_law_1596 : decode cL_law 1596 = .ok (.aload_n 3, 1) := by decide +kernel
theorem dL_law_1597 : decode cL_law 1597 = .ok (.iconst 0, 1) := by decide +kernel
theorem dL_law_1598 : decode cL_law 1598 = .ok (.laload, 1) := by decide +kernel
theorem dL_law_1599 : decode cL_law 1599 = .ok (.iload 6, 2) := by decide +kernel
theorem dL_law_1601 : decode cL_law 1601 = .ok (.i2l, 1) := by decide +kernel
theorem dL_law_1602 : decode cL_law 1602 = .ok (.lcmp, 1) := by decide +kernel
theorem dL_law_1603 : decode cL_law 1603 = .ok (.ifCond .eq 5, 3) := by decide +kernel
theorem dL_law_1606 : decode cL_law 1606 = .ok (.iconst 0, 1) := by decide +kernel
theorem dL_law_1607 : decode cL_law 1607 = .ok (.ireturn, 1) := by decide +kernel
theorem dL_law_1608 : decode cL_law 1608 = .ok (.goto 652, 3) := by decide +kernel
theorem dL_law_1611 : decode cL_law 1611 = .ok (.aload_n 1, 1) := by decide +kernel
theorem dL_law_1612 : decode cL_law 1612 = .ok (.aload_n 0, 1) := by decide +kernel
theorem dL_law_1613 : decode cL_law 1613 = .ok (.iload 4, 2) := by decide +kernel
theorem dL_law_1615 : decode cL_law 1615 = .ok (.iconst 1, 1) := by decide +kernel
theorem dL_law_1616 : decode cL_law 1616 = .ok (.iadd, 1) := by decide +kernel
theorem dL_law_1617 : decode cL_law 1617 = .ok (.iaload, 1) := by decide +kernel
theorem dL_law_1618 : decode cL_law 1618 = .ok (.aload_n 3, 1) := by decide +kernel
theorem dL_law_1619 : decode cL_law 1619 = .ok (.invokestatic 198, 3) := by decide +kernel
theorem dL_law_1622 : decode cL_law 1622 = .ok (.istore 5, 2) := by decide +kernel
theorem dL_law_1624 : decode cL_law 1624 = .ok (.aload_n 2, 1) := by decide +kernel
theorem dL_law_1625 : decode cL_law 1625 = .ok (.aload_n 0, 1) := by decide +kernel
theorem dL_law_1626 : decode cL_law 1626 = .ok (.iload 4, 2) := by decide +kernel
theorem dL_law_1628 : decode cL_law 1628 = .ok (.iconst 1, 1) := by decide +kernel
theorem dL_law_1629 : decode cL_law 1629 = .ok (.iadd, 1) := by decide +kernel
theorem dL_law_1630 : decode cL_law 1630 = .ok (.iaload, 1) := by decide +kernel
theorem dL_law_1631 : decode cL_law 1631 = .ok (.invokevirtual 200, 3) := by decide +kernel
theorem dL_law_1634 : decode cL_law 1634 = .ok (.istore 6, 2) := by decide +kernel
theorem dL_law_1636 : decode cL_law 1636 = .ok (.aload_n 2, 1) := by decide +kernel
theorem dL_law_1637 : decode cL_law 1637 = .ok (.invokevirtual 115, 3) := by decide +kernel
theorem dL_law_1640 : decode cL_law 1640 = .ok (.iload 5, 2) := by decide +kernel
theorem dL_law_1642 : decode cL_law 1642 = .ok (.if_icmp .eq 5, 3) := by decide +kernel
theorem dL_law_1645 : decode cL_law 1645 = .ok (.iconst 0, 1) := by decide +kernel
theorem dL_law_1646 : decode cL_law 1646 = .ok (.ireturn, 1) := by decide +kernel
theorem dL_law_1647 : decode cL_law 1647 = .ok (.iload 5, 2) := by decide +kernel
theorem dL_law_1649 : decode cL_law 1649 = .ok (.ifCond .ne 15, 3) := by decide +kernel
theorem dL_law_1652 : decode cL_law 1652 = .ok (.aload_n 3, 1) := by decide +kernel
theorem dL_law_1653 : decode cL_law 1653 = .ok (.iconst 0, 1) := by decide +kernel
theorem dL_law_1654 : decode cL_law 1654 = .ok (.laload, 1) := by decide +kernel
theorem dL_law_1655 : decode cL_law 1655 = .ok (.iload 6, 2) := by decide +kernel
theorem dL_law_1657 : decode cL_law 1657 = .ok (.i2l, 1) := by decide +kernel
theorem dL_law_1658 : decode cL_law 1658 = .ok (.lcmp, 1) := by decide +kernel
theorem dL_law_1659 : decode cL_law 1659 = .ok (.ifCond .eq 5, 3) := by decide +kernel
theorem dL_law_1662 : decode cL_law 1662 = .ok (.iconst 0, 1) := by decide +kernel
theorem dL_law_1663 : decode cL_law 1663 = .ok (.ireturn, 1) := by decide +kernel
theorem dL_law_1664 : decode cL_law 1664 = .ok (.goto 596, 3) := by decide +kernel
theorem dL_law_1667 : decode cL_law 1667 = .ok (.aload_n 1, 1) := by decide +kernel
theorem dL_law_1668 : decode cL_law 1668 = .ok (.aload_n 0, 1) := by decide +kernel
theorem dL_law_1669 : decode cL_law 1669 = .ok (.iload 4, 2) := by decide +kernel
theorem dL_law_1671 : decode cL_law 1671 = .ok (.iconst 1, 1) := by decide +kernel
theorem dL_law_1672 : decode cL_law 1672 = .ok (.iadd, 1) := by decide +kernel
theorem dL_law_1673 : decode cL_law 1673 = .ok (.iaload, 1) := by decide +kernel
theorem dL_law_1674 : decode cL_law 1674 = .ok (.aload_n 3, 1) := by decide +kernel
theorem dL_law_1675 : decode cL_law 1675 = .ok (.invokestatic 201, 3) := by decide +kernel
theorem dL_law_1678 : decode cL_law 1678 = .ok (.istore 5, 2) := by decide +kernel
theorem dL_law_1680 : decode cL_law 1680 = .ok (.aload_n 2, 1) := by decide +kernel
theorem dL_law_1681 : decode cL_law 1681 = .ok (.aload_n 0, 1) := by decide +kernel
theorem dL_law_1682 : decode cL_law 1682 = .ok (.iload 4, 2) := by decide +kernel
theorem dL_law_1684 : decode cL_law 1684 = .ok (.iconst 1, 1) := by decide +kernel
theorem dL_law_1685 : decode cL_law 1685 = .ok (.iadd, 1) := by decide +kernel
theorem dL_law_1686 : decode cL_law 1686 = .ok (.iaload, 1) := by decide +kernel
theorem dL_law_1687 : decode cL_law 1687 = .ok (.invokevirtual 203, 3) := by decide +kernel
theorem dL_law_1690 : decode cL_law 1690 = .ok (.istore 6, 2) := by decide +kernel
theorem dL_law_1692 : decode cL_law 1692 = .ok (.aload_n 2, 1) := by decide +kernel
theorem dL_law_1693 : decode cL_law 1693 = .ok (.invokevirtual 115, 3) := by decide +kernel
theorem dL_law_1696 : decode cL_law 1696 = .ok (.iload 5, 2) := by decide +kernel
theorem dL_law_1698 : decode cL_law 1698 = .ok (.if_icmp .eq 5, 3) := by decide +kernel
theorem dL_law_1701 : decode cL_law 1701 = .ok (.iconst 0, 1) := by decide +kernel
theorem dL_law_1702 : decode cL_law 1702 = .ok (.ireturn, 1) := by decide +kernel
theorem dL_law_1703 : decode cL_law 1703 = .ok (.iload 5, 2) := by decide +kernel
theorem dL_law_1705 : decode cL_law 1705 = .ok (.ifCond .ne 15, 3) := by decide +kernel
theorem dL_law_1708 : decode cL_law 1708 = .ok (.aload_n 3, 1) := by decide +kernel
theorem dL_law_1709 : decode cL_law 1709 = .ok (.iconst 0, 1) := by decide +kernel
theorem dL_law_1710 : decode cL_law 1710 = .ok (.laload, 1) := by decide +kernel
theorem dL_law_1711 : decode cL_law 1711 = .ok (.iload 6, 2) := by decide +kernel
theorem dL_law_1713 : decode cL_law 1713 = .ok (.i2l, 1) := by decide +kernel
theorem dL_law_1714 : decode cL_law 1714 = .ok (.lcmp, 1) := by decide +kernel
theorem dL_law_1715 : decode cL_law 1715 = .ok (.ifCond .eq 5, 3) := by decide +kernel
theorem dL_law_1718 : decode cL_law 1718 = .ok (.iconst 0, 1) := by decide +kernel
theorem dL_law_1719 : decode cL_law 1719 = .ok (.ireturn, 1) := by decide +kernel
theorem dL_law_1720 : decode cL_law 1720 = .ok (.goto 540, 3) := by decide +kernel
theorem dL_law_1723 : decode cL_law 1723 = .ok (.aload_n 1, 1) := by decide +kernel
theorem dL_law_1724 : decode cL_law 1724 = .ok (.aload_n 0, 1) := by decide +kernel
theorem dL_law_1725 : decode cL_law 1725 = .ok (.iload 4, 2) := by decide +kernel
theorem dL_law_1727 : decode cL_law 1727 = .ok (.iconst 1, 1) := by decide +kernel
theorem dL_law_1728 : decode cL_law 1728 = .ok (.iadd, 1) := by decide +kernel
theorem dL_law_1729 : decode cL_law 1729 = .ok (.iaload, 1) := by decide +kernel
theorem dL_law_1730 : decode cL_law 1730 = .ok (.aload_n 0, 1) := by decide +kernel
theorem dL_law_1731 : decode cL_law 1731 = .ok (.iload 4, 2) := by decide +kernel
theorem dL_law_1733 : decode cL_law 1733 = .ok (.iconst 2, 1) := by decide +kernel
theorem dL_law_1734 : decode cL_law 1734 = .ok (.iadd, 1) := by decide +kernel
theorem dL_law_1735 : decode cL_law 1735 = .ok (.iaload, 1) := by decide +kernel
theorem dL_law_1736 : decode cL_law 1736 = .ok (.aload_n 3, 1) := by decide +kernel
theorem dL_law_1737 : decode cL_law 1737 = .ok (.invokestatic 204, 3) := by decide +kernel
theorem dL_law_1740 : decode cL_law 1740 = .ok (.istore 5, 2) := by decide +kernel
theorem dL_law_1742 : decode cL_law 1742 = .ok (.aload_n 2, 1) := by decide +kernel
theorem dL_law_1743 : decode cL_law 1743 = .ok (.aload_n 0, 1) := by decide +kernel
theorem dL_law_1744 : decode cL_law 1744 = .ok (.iload 4, 2) := by decide +kernel
theorem dL_law_1746 : decode cL_law 1746 = .ok (.iconst 1, 1) := by decide +kernel
theorem dL_law_1747 : decode cL_law 1747 = .ok (.iadd, 1) := by decide +kernel
theorem dL_law_1748 : decode cL_law 1748 = .ok (.iaload, 1) := by decide +kernel
theorem dL_law_1749 : decode cL_law 1749 = .ok (.aload_n 0, 1) := by decide +kernel
theorem dL_law_1750 : decode cL_law 1750 = .ok (.iload 4, 2) := by decide +kernel
theorem dL_law_1752 : decode cL_law 1752 = .ok (.iconst 2, 1) := by decide +kernel
theorem dL_law_1753 : decode cL_law 1753 = .ok (.iadd, 1) := by decide +kernel
theorem dL_law_1754 : decode cL_law 1754 = .ok (.iaload, 1) := by decide +kernel
theorem dL_law_1755 : decode cL_law 1755 = .ok (.invokevirtual 206, 3) := by decide +kernel
theorem dL_law_1758 : decode cL_law 1758 = .ok (.istore 6, 2) := by decide +kernel
theorem dL_law_1760 : decode cL_law 1760 = .ok (.aload_n 2, 1) := by decide +kernel
theorem dL_law_1761 : decode cL_law 1761 = .ok (.invokevirtual 115, 3) := by decide +kernel
theorem dL_law_1764 : decode cL_law 1764 = .ok (.iload 5, 2) := by decide +kernel
theorem dL_law_1766 : decode cL_law 1766 = .ok (.if_icmp .eq 5, 3) := by decide +kernel
theorem dL_law_1769 : decode cL_law 1769 = .ok (.iconst 0, 1) := by decide +kernel
theorem dL_law_1770 : decode cL_law 1770 = .ok (.ireturn, 1) := by decide +kernel
theorem dL_law_1771 : decode cL_law 1771 = .ok (.iload 5, 2) := by decide +kernel
theorem dL_law_1773 : decode cL_law 1773 = .ok (.ifCond .ne 15, 3) := by decide +kernel
theorem dL_law_1776 : decode cL_law 1776 = .ok (.aload_n 3, 1) := by decide +kernel
theorem dL_law_1777 : decode cL_law 1777 = .ok (.iconst 0, 1) := by decide +kernel
theorem dL_law_1778 : decode cL_law 1778 = .ok (.laload, 1) := by decide +kernel
theorem dL_law_1779 : decode cL_law 1779 = .ok (.iload 6, 2) := by decide +kernel
theorem dL_law_1781 : decode cL_law 1781 = .ok (.i2l, 1) := by decide +kernel
theorem dL_law_1782 : decode cL_law 1782 = .ok (.lcmp, 1) := by decide +kernel
theorem dL_law_1783 : decode cL_law 1783 = .ok (.ifCond .eq 5, 3) := by decide +kernel
theorem dL_law_1786 : decode cL_law 1786 = .ok (.iconst 0, 1) := by decide +kernel
theorem dL_law_1787 : decode cL_law 1787 = .ok (.ireturn, 1) := by decide +kernel
theorem dL_law_1788 : decode cL_law 1788 = .ok (.goto 472, 3) := by decide +kernel
theorem dL_law_1791 : decode cL_law 1791 = .ok (.aload_n 1, 1) := by decide +kernel
theorem dL_law_1792 : decode cL_law 1792 = .ok (.aload_n 0, 1) := by decide +kernel
theorem dL_law_1793 : decode cL_law 1793 = .ok (.iload 4, 2) := by decide +kernel
theorem dL_law_1795 : decode cL_law 1795 = .ok (.iconst 1, 1) := by decide +kernel
theorem dL_law_1796 : decode cL_law 1796 = .ok (.iadd, 1) := by decide +kernel
theorem dL_law_1797 : decode cL_law 1797 = .ok (.iaload, 1) := by decide +kernel
theorem dL_law_1798 : decode cL_law 1798 = .ok (.aload_n 3, 1) := by decide +kernel
theorem dL_law_1799 : decode cL_law 1799 = .ok (.invokestatic 207, 3) := by decide +kernel
theorem dL_law_1802 : decode cL_law 1802 = .ok (.istore 5, 2) := by decide +kernel
theorem dL_law_1804 : decode cL_law 1804 = .ok (.aload_n 2, 1) := by decide +kernel
theorem dL_law_1805 : decode cL_law 1805 = .ok (.aload_n 0, 1) := by decide +kernel
theorem dL_law_1806 : decode cL_law 1806 = .ok (.iload 4, 2) := by decide +kernel
theorem dL_law_1808 : decode cL_law 1808 = .ok (.iconst 1, 1) := by decide +kernel
theorem dL_law_1809 : decode cL_law 1809 = .ok (.iadd, 1) := by decide +kernel
theorem dL_law_1810 : decode cL_law 1810 = .ok (.iaload, 1) := by decide +kernel
theorem dL_law_1811 : decode cL_law 1811 = .ok (.invokevirtual 209, 3) := by decide +kernel
theorem dL_law_1814 : decode cL_law 1814 = .ok (.istore 6, 2) := by decide +kernel
theorem dL_law_1816 : decode cL_law 1816 = .ok (.aload_n 2, 1) := by decide +kernel
theorem dL_law_1817 : decode cL_law 1817 = .ok (.invokevirtual 115, 3) := by decide +kernel
theorem dL_law_1820 : decode cL_law 1820 = .ok (.iload 5, 2) := by decide +kernel
theorem dL_law_1822 : decode cL_law 1822 = .ok (.if_icmp .eq 5, 3) := by decide +kernel
theorem dL_law_1825 : decode cL_law 1825 = .ok (.iconst 0, 1) := by decide +kernel
theorem dL_law_1826 : decode cL_law 1826 = .ok (.ireturn, 1) := by decide +kernel
theorem dL_law_1827 : decode cL_law 1827 = .ok (.iload 5, 2) := by decide +kernel
theorem dL_law_1829 : decode cL_law 1829 = .ok (.ifCond .ne 15, 3) := by decide +kernel
theorem dL_law_1832 : decode cL_law 1832 = .ok (.aload_n 3, 1) := by decide +kernel
theorem dL_law_1833 : decode cL_law 1833 = .ok (.iconst 0, 1) := by decide +kernel
theorem dL_law_1834 : decode cL_law 1834 = .ok (.laload, 1) := by decide +kernel
theorem dL_law_1835 : decode cL_law 1835 = .ok (.iload 6, 2) := by decide +kernel
theorem dL_law_1837 : decode cL_law 1837 = .ok (.i2l, 1) := by decide +kernel
theorem dL_law_1838 : decode cL_law 1838 = .ok (.lcmp, 1) := by decide +kernel
theorem dL_law_1839 : decode cL_law 1839 = .ok (.ifCond .eq 5, 3) := by decide +kernel
theorem dL_law_1842 : decode cL_law 1842 = .ok (.iconst 0, 1) := by decide +kernel
theorem dL_law_1843 : decode cL_law 1843 = .ok (.ireturn, 1) := by decide +kernel
theorem dL_law_1844 : decode cL_law 1844 = .ok (.goto 416, 3) := by decide +kernel
theorem dL_law_1847 : decode cL_law 1847 = .ok (.aload_n 1, 1) := by decide +kernel
theorem dL_law_1848 : decode cL_law 1848 = .ok (.aload_n 0, 1) := by decide +kernel
theorem dL_law_1849 : decode cL_law 1849 = .ok (.iload 4, 2) := by decide +kernel
theorem dL_law_1851 : decode cL_law 1851 = .ok (.iconst 1, 1) := by decide +kernel
theorem dL_law_1852 : decode cL_law 1852 = .ok (.iadd, 1) := by decide +kernel
theorem dL_law_1853 : decode cL_law 1853 = .ok (.iaload, 1) := by decide +kernel
theorem dL_law_1854 : decode cL_law 1854 = .ok (.aload_n 3, 1) := by decide +kernel
theorem dL_law_1855 : decode cL_law 1855 = .ok (.invokestatic 210, 3) := by decide +kernel
theorem dL_law_1858 : decode cL_law 1858 = .ok (.istore 5, 2) := by decide +kernel
theorem dL_law_1860 : decode cL_law 1860 = .ok (.aload_n 2, 1) := by decide +kernel
theorem dL_law_1861 : decode cL_law 1861 = .ok (.aload_n 0, 1) := by decide +kernel
theorem dL_law_1862 : decode cL_law 1862 = .ok (.iload 4, 2) := by decide +kernel
theorem dL_law_1864 : decode cL_law 1864 = .ok (.iconst 1, 1) := by decide +kernel
theorem dL_law_1865 : decode cL_law 1865 = .ok (.iadd, 1) := by decide +kernel
theorem dL_law_1866 : decode cL_law 1866 = .ok (.iaload, 1) := by decide +kernel
theorem dL_law_1867 : decode cL_law 1867 = .ok (.invokevirtual 212, 3) := by decide +kernel
theorem dL_law_1870 : decode cL_law 1870 = .ok (.istore 6, 2) := by decide +kernel
theorem dL_law_1872 : decode cL_law 1872 = .ok (.aload_n 2, 1) := by decide +kernel
theorem dL_law_1873 : decode cL_law 1873 = .ok (.invokevirtual 115, 3) := by decide +kernel
theorem dL_law_1876 : decode cL_law 1876 = .ok (.iload 5, 2) := by decide +kernel
theorem dL_law_1878 : decode cL_law 1878 = .ok (.if_icmp .eq 5, 3) := by decide +kernel
theorem dL_law_1881 : decode cL_law 1881 = .ok (.iconst 0, 1) := by decide +kernel
theorem dL_law_1882 : decode cL_law 1882 = .ok (.ireturn, 1) := by decide +kernel
theorem dL_law_1883 : decode cL_law 1883 = .ok (.iload 5, 2) := by decide +kernel
theorem dL_law_1885 : decode cL_law 1885 = .ok (.ifCond .ne 15, 3) := by decide +kernel
theorem dL_law_1888 : decode cL_law 1888 = .ok (.aload_n 3, 1) := by decide +kernel
theorem dL_law_1889 : decode cL_law 1889 = .ok (.iconst 0, 1) := by decide +kernel
theorem dL_law_1890 : decode cL_law 1890 = .ok (.laload, 1) := by decide +kernel
theorem dL_law_1891 : decode cL_law 1891 = .ok (.iload 6, 2) := by decide +kernel
theorem dL_law_1893 : decode cL_law 1893 = .ok (.i2l, 1) := by decide +kernel
theorem dL_law_1894 : decode cL_law 1894 = .ok (.lcmp, 1) := by decide +kernel
theorem dL_law_1895 : decode cL_law 1895 = .ok (.ifCond .eq 5, 3) := by decide +kernel
theorem dL_law_1898 : decode cL_law 1898 = .ok (.iconst 0, 1) := by decide +kernel
theorem dL_law_1899 : decode cL_law 1899 = .ok (.ireturn, 1) := by decide +kernel
theorem dL_law_1900 : decode cL_law 1900 = .ok (.goto 360, 3) := by decide +kernel
theorem dL_law_1903 : decode cL_law 1903 = .ok (.aload_n 1, 1) := by decide +kernel
theorem dL_law_1904 : decode cL_law 1904 = .ok (.invokevirtual 213, 3) := by decide +kernel
theorem dL_law_1907 : decode cL_law 1907 = .ok (.aload_n 2, 1) := by decide +kernel
theorem dL_law_1908 : decode cL_law 1908 = .ok (.invokevirtual 216, 3) := by decide +kernel
theorem dL_law_1911 : decode cL_law 1911 = .ok (.if_icmp .eq 349, 3) := by decide +kernel
theorem dL_law_1914 : decode cL_law 1914 = .ok (.iconst 0, 1) := by decide +kernel
theorem dL_law_1915 : decode cL_law 1915 = .ok (.ireturn, 1) := by decide +kernel
theorem dL_law_1916 : decode cL_law 1916 = .ok (.aload_n 1, 1) := by decide +kernel
theorem dL_law_1917 : decode cL_law 1917 = .ok (.aload_n 0, 1) := by decide +kernel
theorem dL_law_1918 : decode cL_law 1918 = .ok (.iload 4, 2) := by decide +kernel
theorem dL_law_1920 : decode cL_law 1920 = .ok (.iconst 1, 1) := by decide +kernel
theorem dL_law_1921 : decode cL_law 1921 = .ok (.iadd, 1) := by decide +kernel
theorem dL_law_1922 : decode cL_law 1922 = .ok (.iaload, 1) := by decide +kernel
theorem dL_law_1923 : decode cL_law 1923 = .ok (.aload_n 0, 1) := by decide +kernel
theorem dL_law_1924 : decode cL_law 1924 = .ok (.iload 4, 2) := by decide +kernel
theorem dL_law_1926 : decode cL_law 1926 = .ok (.iconst 2, 1) := by decide +kernel
theorem dL_law_1927 : decode cL_law 1927 = .ok (.iadd, 1) := by decide +kernel
theorem dL_law_1928 : decode cL_law 1928 = .ok (.iaload, 1) := by decide +kernel
theorem dL_law_1929 : decode cL_law 1929 = .ok (.invokevirtual 217, 3) := by decide +kernel
theorem dL_law_1932 : decode cL_law 1932 = .ok (.aload_n 2, 1) := by decide +kernel
theorem dL_law_1933 : decode cL_law 1933 = .ok (.aload_n 0, 1) := by decide +kernel
theorem dL_law_1934 : decode cL_law 1934 = .ok (.iload 4, 2) := by decide +kernel
theorem dL_law_1936 : decode cL_law 1936 = .ok (.iconst 1, 1) := by decide +kernel
theorem dL_law_1937 : decode cL_law 1937 = .ok (.iadd, 1) := by decide +kernel
theorem dL_law_1938 : decode cL_law 1938 = .ok (.iaload, 1) := by decide +kernel
theorem dL_law_1939 : decode cL_law 1939 = .ok (.aload_n 0, 1) := by decide +kernel
theorem dL_law_1940 : decode cL_law 1940 = .ok (.iload 4, 2) := by decide +kernel
theorem dL_law_1942 : decode cL_law 1942 = .ok (.iconst 2, 1) := by decide +kernel
theorem dL_law_1943 : decode cL_law 1943 = .ok (.iadd, 1) := by decide +kernel
theorem dL_law_1944 : decode cL_law 1944 = .ok (.iaload, 1) := by decide +kernel
theorem dL_law_1945 : decode cL_law 1945 = .ok (.invokevirtual 220, 3) := by decide +kernel
theorem dL_law_1948 : decode cL_law 1948 = .ok (.if_icmp .eq 312, 3) := by decide +kernel
theorem dL_law_1951 : decode cL_law 1951 = .ok (.iconst 0, 1) := by decide +kernel
theorem dL_law_1952 : decode cL_law 1952 = .ok (.ireturn, 1) := by decide +kernel
theorem dL_law_1953 : decode cL_law 1953 = .ok (.aload_n 1, 1) := by decide +kernel
theorem dL_law_1954 : decode cL_law 1954 = .ok (.aload_n 0, 1) := by decide +kernel
theorem dL_law_1955 : decode cL_law 1955 = .ok (.iload 4, 2) := by decide +kernel
theorem dL_law_1957 : decode cL_law 1957 = .ok (.iconst 1, 1) := by decide +kernel
theorem dL_law_1958 : decode cL_law 1958 = .ok (.iadd, 1) := by decide +kernel
theorem dL_law_1959 : decode cL_law 1959 = .ok (.iaload, 1) := by decide +kernel
theorem dL_law_1960 : decode cL_law 1960 = .ok (.aload_n 3, 1) := by decide +kernel
theorem dL_law_1961 : decode cL_law 1961 = .ok (.invokestatic 221, 3) := by decide +kernel
theorem dL_law_1964 : decode cL_law 1964 = .ok (.istore 5, 2) := by decide +kernel
theorem dL_law_1966 : decode cL_law 1966 = .ok (.aload_n 2, 1) := by decide +kernel
theorem dL_law_1967 : decode cL_law 1967 = .ok (.aload_n 0, 1) := by decide +kernel
theorem dL_law_1968 : decode cL_law 1968 = .ok (.iload 4, 2) := by decide +kernel
theorem dL_law_1970 : decode cL_law 1970 = .ok (.iconst 1, 1) := by decide +kernel
theorem dL_law_1971 : decode cL_law 1971 = .ok (.iadd, 1) := by decide +kernel
theorem dL_law_1972 : decode cL_law 1972 = .ok (.iaload, 1) := by decide +kernel
theorem dL_law_1973 : decode cL_law 1973 = .ok (.invokevirtual 223, 3) := by decide +kernel
theorem dL_law_1976 : decode cL_law 1976 = .ok (.istore 6, 2) := by decide +kernel
theorem dL_law_1978 : decode cL_law 1978 = .ok (.aload_n 2, 1) := by decide +kernel
theorem dL_law_1979 : decode cL_law 1979 = .ok (.invokevirtual 115, 3) := by decide +kernel
theorem dL_law_1982 : decode cL_law 1982 = .ok (.iload 5, 2) := by decide +kernel
theorem dL_law_1984 : decode cL_law 1984 = .ok (.if_icmp .eq 5, 3) := by decide +kernel
theorem dL_law_1987 : decode cL_law 1987 = .ok (.iconst 0, 1) := by decide +kernel
theorem dL_law_1988 : decode cL_law 1988 = .ok (.ireturn, 1) := by decide +kernel
theorem dL_law_1989 : decode cL_law 1989 = .ok (.iload 5, 2) := by decide +kernel
theorem dL_law_1991 : decode cL_law 1991 = .ok (.ifCond .ne 15, 3) := by decide +kernel
theorem dL_law_1994 : decode cL_law 1994 = .ok (.aload_n 3, 1) := by decide +kernel
theorem dL_law_1995 : decode cL_law 1995 = .ok (.iconst 0, 1) := by decide +kernel
theorem dL_law_1996 : decode cL_law 1996 = .ok (.laload, 1) := by decide +kernel
theorem dL_law_1997 : decode cL_law 1997 = .ok (.iload 6, 2) := by decide +kernel
theorem dL_law_1999 : decode cL_law 1999 = .ok (.i2l, 1) := by decide +kernel
theorem dL_law_2000 : decode cL_law 2000 = .ok (.lcmp, 1) := by decide +kernel
theorem dL_law_2001 : decode cL_law 2001 = .ok (.ifCond .eq 5, 3) := by decide +kernel
theorem dL_law_2004 : decode cL_law 2004 = .ok (.iconst 0, 1) := by decide +kernel
theorem dL_law_2005 : decode cL_law 2005 = .ok (.ireturn, 1) := by decide +kernel
theorem dL_law_2006 : decode cL_law 2006 = .ok (.goto 254, 3) := by decide +kernel
theorem dL_law_2009 : decode cL_law 2009 = .ok (.aload_n 1, 1) := by decide +kernel
theorem dL_law_2010 : decode cL_law 2010 = .ok (.aload_n 0, 1) := by decide +kernel
theorem dL_law_2011 : decode cL_law 2011 = .ok (.iload 4, 2) := by decide +kernel
theorem dL_law_2013 : decode cL_law 2013 = .ok (.iconst 1, 1) := by decide +kernel
theorem dL_law_2014 : decode cL_law 2014 = .ok (.iadd, 1) := by decide +kernel
theorem dL_law_2015 : decode cL_law 2015 = .ok (.iaload, 1) := by decide +kernel
theorem dL_law_2016 : decode cL_law 2016 = .ok (.aload_n 3, 1) := by decide +kernel
theorem dL_law_2017 : decode cL_law 2017 = .ok (.invokestatic 224, 3) := by decide +kernel
theorem dL_law_2020 : decode cL_law 2020 = .ok (.istore 5, 2) := by decide +kernel
theorem dL_law_2022 : decode cL_law 2022 = .ok (.aload_n 2, 1) := by decide +kernel
theorem dL_law_2023 : decode cL_law 2023 = .ok (.aload_n 0, 1) := by decide +kernel
theorem dL_law_2024 : decode cL_law 2024 = .ok (.iload 4, 2) := by decide +kernel
theorem dL_law_2026 : decode cL_law 2026 = .ok (.iconst 1, 1) := by decide +kernel
theorem dL_law_2027 : decode cL_law 2027 = .ok (.iadd, 1) := by decide +kernel
theorem dL_law_2028 : decode cL_law 2028 = .ok (.iaload, 1) := by decide +kernel
theorem dL_law_2029 : decode cL_law 2029 = .ok (.invokevirtual 226, 3) := by decide +kernel
theorem dL_law_2032 : decode cL_law 2032 = .ok (.istore 6, 2) := by decide +kernel
theorem dL_law_2034 : decode cL_law 2034 = .ok (.aload_n 2, 1) := by decide +kernel
theorem dL_law_2035 : decode cL_law 2035 = .ok (.invokevirtual 115, 3) := by decide +kernel
theorem dL_law_2038 : decode cL_law 2038 = .ok (.iload 5, 2) := by decide +kernel
theorem dL_law_2040 : decode cL_law 2040 = .ok (.if_icmp .eq 5, 3) := by decide +kernel
theorem dL_law_2043 : decode cL_law 2043 = .ok (.iconst 0, 1) := by decide +kernel
theorem dL_law_2044 : decode cL_law 2044 = .ok (.ireturn, 1) := by decide +kernel
theorem dL_law_2045 : decode cL_law 2045 = .ok (.iload 5, 2) := by decide +kernel
theorem dL_law_2047 : decode cL_law 2047 = .ok (.ifCond .ne 15, 3) := by decide +kernel
theorem dL_law_2050 : decode cL_law 2050 = .ok (.aload_n 3, 1) := by decide +kernel
theorem dL_law_2051 : decode cL_law 2051 = .ok (.iconst 0, 1) := by decide +kernel
theorem dL_law_2052 : decode cL_law 2052 = .ok (.laload, 1) := by decide +kernel
theorem dL_law_2053 : decode cL_law 2053 = .ok (.iload 6, 2) := by decide +kernel
theorem dL_law_2055 : decode cL_law 2055 = .ok (.i2l, 1) := by decide +kernel
