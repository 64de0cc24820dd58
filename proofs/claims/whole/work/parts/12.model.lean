/-! written by wip/whole/gen: the pure functions of these methods, read off their bytecode, and the walks that prove them -/
theorem fkRX9_313 : LNK RX9 313 yX9_allThings := Or.inl (tmem 1288 (by decide +kernel) rfl)
theorem feX9_allThings : CLE yX9_allThings 0 cX9_allThings 1 (some .int) := ⟨tmem 17 (by decide +kernel) rfl, tmem 1291 (by decide +kernel) rfl, by decide +kernel, by decide +kernel⟩
theorem fvX9_allThings : CLV yX9_allThings := ⟨tmem 1290 (by decide +kernel) rfl, smem 97 (by decide +kernel) rfl⟩
theorem fkRX9_316 : LNK RX9 316 yX9_seeks := Or.inl (tmem 1292 (by decide +kernel) rfl)
theorem feX9_seeks : CLE yX9_seeks 1 cX9_seeks 3 (some .int) := ⟨tmem 17 (by decide +kernel) rfl, tmem 1295 (by decide +kernel) rfl, by decide +kernel, by decide +kernel⟩
theorem fvX9_seeks : CLV yX9_seeks := ⟨tmem 1294 (by decide +kernel) rfl, smem 98 (by decide +kernel) rfl⟩
theorem fcRX9_319 : Cond.constantLong RX9 319 (6 : Int64) ∈ TBL := tmem 1304 (by decide +kernel) rfl
theorem fkRX9_321 : LNK RX9 321 yX9_turn := Or.inl (tmem 1321 (by decide +kernel) rfl)
theorem feX9_turn : CLE yX9_turn 0 cX9_turn 1 (some .int) := ⟨tmem 17 (by decide +kernel) rfl, tmem 1244 (by decide +kernel) rfl, by decide +kernel, by decide +kernel⟩
theorem fvX9_turn : CLV yX9_turn := ⟨tmem 1242 (by decide +kernel) rfl, tmem 1243 (by decide +kernel) rfl⟩
theorem fkRX9_324 : LNK RX9 324 yX9_swaps := Or.inl (tmem 1322 (by decide +kernel) rfl)
theorem feX9_swaps : CLE yX9_swaps 2 cX9_swaps 6 none := ⟨tmem 17 (by decide +kernel) rfl, tmem 1325 (by decide +kernel) rfl, by decide +kernel, by decide +kernel⟩
theorem fvX9_swaps : CLV yX9_swaps := ⟨tmem 1324 (by decide +kernel) rfl, smem 100 (by decide +kernel) rfl⟩
theorem fkRX9_328 : LNK RX9 328 yX9_lineOf := Or.inl (tmem 1330 (by decide +kernel) rfl)
theorem feX9_lineOf : CLE yX9_lineOf 1 cX9_lineOf 4 (some .int) := ⟨tmem 17 (by decide +kernel) rfl, tmem 1333 (by decide +kernel) rfl, by decide +kernel, by decide +kernel⟩
theorem fvX9_lineOf : CLV yX9_lineOf := ⟨tmem 1332 (by decide +kernel) rfl, smem 101 (by decide +kernel) rfl⟩
theorem fcRX9_331 : Cond.constantLong RX9 331 (-4611686018427387904 : Int64) ∈ TBL := tmem 1338 (by decide +kernel) rfl
theorem ffRX9_333 : FLT shB RX9 0 9 333 43 (.int 0) := ⟨⟨RX9, TX9, 56, rfl, by decide, wsIn9, Or.inl (tmem 974 (by decide +kernel) rfl)⟩, _, rfl, rfl⟩
theorem fw9_43 : FLW 9 43 .int := ⟨RX9, TX9, 56, tyX9, rfl, tyX9_ok, nmX9, rfl, by decide +kernel⟩
theorem ffRX9_336 : FLT shB RX9 0 9 336 44 (.int 0) := ⟨⟨RX9, TX9, 56, rfl, by decide, wsIn9, Or.inl (tmem 975 (by decide +kernel) rfl)⟩, _, rfl, rfl⟩
theorem fw9_44 : FLW 9 44 .int := ⟨RX9, TX9, 56, tyX9, rfl, tyX9_ok, nmX9, rfl, by decide +kernel⟩
theorem fkRX9_339 : LNK RX9 339 yX9_orders := Or.inl (tmem 1343 (by decide +kernel) rfl)
theorem feX9_orders : CLE yX9_orders 2 cX9_orders 4 none := ⟨tmem 17 (by decide +kernel) rfl, tmem 1346 (by decide +kernel) rfl, by decide +kernel, by decide +kernel⟩
theorem fvX9_orders : CLV yX9_orders := ⟨tmem 1345 (by decide +kernel) rfl, smem 102 (by decide +kernel) rfl⟩
theorem fkRX9_342 : LNK RX9 342 yX9_ownOf := Or.inl (tmem 1351 (by decide +kernel) rfl)
theorem feX9_ownOf : CLE yX9_ownOf 2 cX9_ownOf 3 (some .long) := ⟨tmem 17 (by decide +kernel) rfl, tmem 1354 (by decide +kernel) rfl, by decide +kernel, by decide +kernel⟩
theorem fvX9_ownOf : CLV yX9_ownOf := ⟨tmem 1353 (by decide +kernel) rfl, smem 103 (by decide +kernel) rfl⟩
theorem dX9_seeks_0 : decode cX9_seeks 0 = .ok (.aload_n 0, 1) := by decide +kernel
theorem dX9_seeks_1 : decode cX9_seeks 1 = .ok (.iconst 0, 1) := by decide +kernel
theorem dX9_seeks_2 : decode cX9_seeks 2 = .ok (.putfield 300, 3) := by decide +kernel
theorem dX9_seeks_5 : decode cX9_seeks 5 = .ok (.aload_n 0, 1) := by decide +kernel
theorem dX9_seeks_6 : decode cX9_seeks 6 = .ok (.iconst 0, 1) := by decide +kernel
theorem dX9_seeks_7 : decode cX9_seeks 7 = .ok (.putfield 275, 3) := by decide +kernel
theorem dX9_seeks_10 : decode cX9_seeks 10 = .ok (.aload_n 0, 1) := by decide +kernel
theorem dX9_seeks_11 : decode cX9_seeks 11 = .ok (.iconst 0, 1) := by decide +kernel
theorem dX9_seeks_12 : decode cX9_seeks 12 = .ok (.iconst 0, 1) := by decide +kernel
theorem dX9_seeks_13 : decode cX9_seeks 13 = .ok (.iconst 0, 1) := by decide +kernel
theorem dX9_seeks_14 : decode cX9_seeks 14 = .ok (.iconst 0, 1) := by decide +kernel
theorem dX9_seeks_15 : decode cX9_seeks 15 = .ok (.iload_n 1, 1) := by decide +kernel
theorem dX9_seeks_16 : decode cX9_seeks 16 = .ok (.invokevirtual 309, 3) := by decide +kernel
theorem dX9_seeks_19 : decode cX9_seeks 19 = .ok (.aload_n 0, 1) := by decide +kernel
theorem dX9_seeks_20 : decode cX9_seeks 20 = .ok (.aload_n 0, 1) := by decide +kernel
theorem dX9_seeks_21 : decode cX9_seeks 21 = .ok (.getfield 306, 3) := by decide +kernel
theorem dX9_seeks_24 : decode cX9_seeks 24 = .ok (.putfield 275, 3) := by decide +kernel
theorem dX9_seeks_27 : decode cX9_seeks 27 = .ok (.iconst 0, 1) := by decide +kernel
theorem dX9_seeks_28 : decode cX9_seeks 28 = .ok (.istore_n 2, 1) := by decide +kernel
theorem dX9_seeks_29 : decode cX9_seeks 29 = .ok (.iload_n 2, 1) := by decide +kernel
theorem dX9_seeks_30 : decode cX9_seeks 30 = .ok (.aload_n 0, 1) := by decide +kernel
theorem dX9_seeks_31 : decode cX9_seeks 31 = .ok (.getfield 306, 3) := by decide +kernel
theorem dX9_seeks_34 : decode cX9_seeks 34 = .ok (.if_icmp .ge 21, 3) := by decide +kernel
theorem dX9_seeks_37 : decode cX9_seeks 37 = .ok (.aload_n 0, 1) := by decide +kernel
theorem dX9_seeks_38 : decode cX9_seeks 38 = .ok (.getfield 50, 3) := by decide +kernel
theorem dX9_seeks_41 : decode cX9_seeks 41 = .ok (.iload_n 2, 1) := by decide +kernel
theorem dX9_seeks_42 : decode cX9_seeks 42 = .ok (.aload_n 0, 1) := by decide +kernel
theorem dX9_seeks_43 : decode cX9_seeks 43 = .ok (.getfield 53, 3) := by decide +kernel
theorem dX9_seeks_46 : decode cX9_seeks 46 = .ok (.iload_n 2, 1) := by decide +kernel
theorem dX9_seeks_47 : decode cX9_seeks 47 = .ok (.iaload, 1) := by decide +kernel
theorem dX9_seeks_48 : decode cX9_seeks 48 = .ok (.iastore, 1) := by decide +kernel
theorem dX9_seeks_49 : decode cX9_seeks 49 = .ok (.iinc 2 1, 3) := by decide +kernel
theorem dX9_seeks_52 : decode cX9_seeks 52 = .ok (.goto (-23), 3) := by decide +kernel
theorem dX9_seeks_55 : decode cX9_seeks 55 = .ok (.aload_n 0, 1) := by decide +kernel
theorem dX9_seeks_56 : decode cX9_seeks 56 = .ok (.getfield 303, 3) := by decide +kernel
theorem dX9_seeks_59 : decode cX9_seeks 59 = .ok (.ireturn, 1) := by decide +kernel
theorem dX9_best_0 : decode cX9_best 0 = .ok (.iload_n 1, 1) := by decide +kernel
theorem dX9_best_1 : decode cX9_best 1 = .ok (.i2l, 1) := by decide +kernel
theorem dX9_best_2 : decode cX9_best 2 = .ok (.lconst 0, 1) := by decide +kernel
theorem dX9_best_3 : decode cX9_best 3 = .ok (.ldc2_w 123, 3) := by decide +kernel
theorem dX9_best_6 : decode cX9_best 6 = .ok (.invokestatic 88, 3) := by decide +kernel
theorem dX9_best_9 : decode cX9_best 9 = .ok (.ifCond .ne 7, 3) := by decide +kernel
theorem dX9_best_12 : decode cX9_best 12 = .ok (.ldc_w 287, 3) := by decide +kernel
theorem dX9_best_15 : decode cX9_best 15 = .ok (.ireturn, 1) := by decide +kernel
theorem dX9_best_16 : decode cX9_best 16 = .ok (.aload_n 0, 1) := by decide +kernel
theorem dX9_best_17 : decode cX9_best 17 = .ok (.invokevirtual 272, 3) := by decide +kernel
theorem dX9_best_20 : decode cX9_best 20 = .ok (.aload_n 0, 1) := by decide +kernel
theorem dX9_best_21 : decode cX9_best 21 = .ok (.aload_n 0, 1) := by decide +kernel
theorem dX9_best_22 : decode cX9_best 22 = .ok (.invokevirtual 313, 3) := by decide +kernel
theorem dX9_best_25 : decode cX9_best 25 = .ok (.invokevirtual 316, 3) := by decide +kernel
theorem dX9_best_28 : decode cX9_best 28 = .ok (.istore_n 2, 1) := by decide +kernel
theorem dX9_best_29 : decode cX9_best 29 = .ok (.iload_n 1, 1) := by decide +kernel
theorem dX9_best_30 : decode cX9_best 30 = .ok (.ifCond .ne 8, 3) := by decide +kernel
theorem dX9_best_33 : decode cX9_best 33 = .ok (.aload_n 0, 1) := by decide +kernel
theorem dX9_best_34 : decode cX9_best 34 = .ok (.invokevirtual 297, 3) := by decide +kernel
theorem dX9_best_37 : decode cX9_best 37 = .ok (.ireturn, 1) := by decide +kernel
theorem dX9_best_38 : decode cX9_best 38 = .ok (.aload_n 0, 1) := by decide +kernel
theorem dX9_best_39 : decode cX9_best 39 = .ok (.invokevirtual 288, 3) := by decide +kernel
theorem dX9_best_42 : decode cX9_best 42 = .ok (.istore_n 3, 1) := by decide +kernel
theorem dX9_best_43 : decode cX9_best 43 = .ok (.aload_n 0, 1) := by decide +kernel
theorem dX9_best_44 : decode cX9_best 44 = .ok (.iload_n 3, 1) := by decide +kernel
theorem dX9_best_45 : decode cX9_best 45 = .ok (.aload_n 0, 1) := by decide +kernel
theorem dX9_best_46 : decode cX9_best 46 = .ok (.invokevirtual 291, 3) := by decide +kernel
theorem dX9_best_49 : decode cX9_best 49 = .ok (.invokevirtual 294, 3) := by decide +kernel
theorem dX9_best_52 : decode cX9_best 52 = .ok (.pop, 1) := by decide +kernel
theorem dX9_best_53 : decode cX9_best 53 = .ok (.iload_n 1, 1) := by decide +kernel
theorem dX9_best_54 : decode cX9_best 54 = .ok (.iconst 1, 1) := by decide +kernel
theorem dX9_best_55 : decode cX9_best 55 = .ok (.if_icmp .ne 7, 3) := by decide +kernel
theorem dX9_best_58 : decode cX9_best 58 = .ok (.iload_n 3, 1) := by decide +kernel
theorem dX9_best_59 : decode cX9_best 59 = .ok (.goto 16, 3) := by decide +kernel
theorem dX9_best_62 : decode cX9_best 62 = .ok (.iload_n 1, 1) := by decide +kernel
theorem dX9_best_63 : decode cX9_best 63 = .ok (.iconst 2, 1) := by decide +kernel
theorem dX9_best_64 : decode cX9_best 64 = .ok (.if_icmp .ne 7, 3) := by decide +kernel
theorem dX9_best_67 : decode cX9_best 67 = .ok (.iload_n 2, 1) := by decide +kernel
theorem dX9_best_68 : decode cX9_best 68 = .ok (.goto 7, 3) := by decide +kernel
theorem dX9_best_71 : decode cX9_best 71 = .ok (.aload_n 0, 1) := by decide +kernel
theorem dX9_best_72 : decode cX9_best 72 = .ok (.getfield 269, 3) := by decide +kernel
theorem dX9_best_75 : decode cX9_best 75 = .ok (.ireturn, 1) := by decide +kernel
theorem dX9_latest_0 : decode cX9_latest 0 = .ok (.aload_n 0, 1) := by decide +kernel
theorem dX9_latest_1 : decode cX9_latest 1 = .ok (.iload_n 1, 1) := by decide +kernel
theorem dX9_latest_2 : decode cX9_latest 2 = .ok (.invokevirtual 109, 3) := by decide +kernel
theorem dX9_latest_5 : decode cX9_latest 5 = .ok (.ifCond .eq 15, 3) := by decide +kernel
theorem dX9_latest_8 : decode cX9_latest 8 = .ok (.iload_n 2, 1) := by decide +kernel
theorem dX9_latest_9 : decode cX9_latest 9 = .ok (.i2l, 1) := by decide +kernel
theorem dX9_latest_10 : decode cX9_latest 10 = .ok (.lconst 0, 1) := by decide +kernel
theorem dX9_latest_11 : decode cX9_latest 11 = .ok (.ldc2_w 319, 3) := by decide +kernel
theorem dX9_latest_14 : decode cX9_latest 14 = .ok (.invokestatic 88, 3) := by decide +kernel
theorem dX9_latest_17 : decode cX9_latest 17 = .ok (.ifCond .ne 6, 3) := by decide +kernel
theorem dX9_latest_20 : decode cX9_latest 20 = .ok (.bipush (-2), 2) := by decide +kernel
theorem dX9_latest_22 : decode cX9_latest 22 = .ok (.ireturn, 1) := by decide +kernel
theorem dX9_latest_23 : decode cX9_latest 23 = .ok (.aload_n 0, 1) := by decide +kernel
theorem dX9_latest_24 : decode cX9_latest 24 = .ok (.invokevirtual 272, 3) := by decide +kernel
theorem dX9_latest_27 : decode cX9_latest 27 = .ok (.aload_n 0, 1) := by decide +kernel
theorem dX9_latest_28 : decode cX9_latest 28 = .ok (.getfield 266, 3) := by decide +kernel
theorem dX9_latest_31 : decode cX9_latest 31 = .ok (.aload_n 0, 1) := by decide +kernel
theorem dX9_latest_32 : decode cX9_latest 32 = .ok (.getfield 32, 3) := by decide +kernel
theorem dX9_latest_35 : decode cX9_latest 35 = .ok (.iload_n 1, 1) := by decide +kernel
theorem dX9_latest_36 : decode cX9_latest 36 = .ok (.iaload, 1) := by decide +kernel
theorem dX9_latest_37 : decode cX9_latest 37 = .ok (.iconst 0, 1) := by decide +kernel
theorem dX9_latest_38 : decode cX9_latest 38 = .ok (.invokestatic 278, 3) := by decide +kernel
theorem dX9_latest_41 : decode cX9_latest 41 = .ok (.aload_n 0, 1) := by decide +kernel
theorem dX9_latest_42 : decode cX9_latest 42 = .ok (.getfield 47, 3) := by decide +kernel
theorem dX9_latest_45 : decode cX9_latest 45 = .ok (.iload_n 2, 1) := by decide +kernel
theorem dX9_latest_46 : decode cX9_latest 46 = .ok (.iaload, 1) := by decide +kernel
theorem dX9_latest_47 : decode cX9_latest 47 = .ok (.imul, 1) := by decide +kernel
theorem dX9_latest_48 : decode cX9_latest 48 = .ok (.isub, 1) := by decide +kernel
theorem dX9_latest_49 : decode cX9_latest 49 = .ok (.istore_n 3, 1) := by decide +kernel
theorem dX9_latest_50 : decode cX9_latest 50 = .ok (.iload_n 3, 1) := by decide +kernel
theorem dX9_latest_51 : decode cX9_latest 51 = .ok (.ifCond .ge 7, 3) := by decide +kernel
theorem dX9_latest_54 : decode cX9_latest 54 = .ok (.iconst (-1), 1) := by decide +kernel
theorem dX9_latest_55 : decode cX9_latest 55 = .ok (.goto 4, 3) := by decide +kernel
theorem dX9_latest_58 : decode cX9_latest 58 = .ok (.iload_n 3, 1) := by decide +kernel
theorem dX9_latest_59 : decode cX9_latest 59 = .ok (.ireturn, 1) := by decide +kernel
theorem dX9_leave_0 : decode cX9_leave 0 = .ok (.aload_n 0, 1) := by decide +kernel
theorem dX9_leave_1 : decode cX9_leave 1 = .ok (.invokevirtual 272, 3) := by decide +kernel
theorem dX9_leave_4 : decode cX9_leave 4 = .ok (.aload_n 0, 1) := by decide +kernel
theorem dX9_leave_5 : decode cX9_leave 5 = .ok (.aload_n 0, 1) := by decide +kernel
theorem dX9_leave_6 : decode cX9_leave 6 = .ok (.invokevirtual 313, 3) := by decide +kernel
theorem dX9_leave_9 : decode cX9_leave 9 = .ok (.invokevirtual 316, 3) := by decide +kernel
theorem dX9_leave_12 : decode cX9_leave 12 = .ok (.pop, 1) := by decide +kernel
theorem dX9_leave_13 : decode cX9_leave 13 = .ok (.iconst (-1), 1) := by decide +kernel
theorem dX9_leave_14 : decode cX9_leave 14 = .ok (.istore_n 1, 1) := by decide +kernel
theorem dX9_leave_15 : decode cX9_leave 15 = .ok (.iconst 0, 1) := by decide +kernel
theorem dX9_leave_16 : decode cX9_leave 16 = .ok (.istore_n 2, 1) := by decide +kernel
theorem dX9_leave_17 : decode cX9_leave 17 = .ok (.iconst 0, 1) := by decide +kernel
theorem dX9_leave_18 : decode cX9_leave 18 = .ok (.istore_n 3, 1) := by decide +kernel
theorem dX9_leave_19 : decode cX9_leave 19 = .ok (.iload_n 3, 1) := by decide +kernel
theorem dX9_leave_20 : decode cX9_leave 20 = .ok (.aload_n 0, 1) := by decide +kernel
theorem dX9_leave_21 : decode cX9_leave 21 = .ok (.getfield 306, 3) := by decide +kernel
theorem dX9_leave_24 : decode cX9_leave 24 = .ok (.if_icmp .ge 91, 3) := by decide +kernel
theorem dX9_leave_27 : decode cX9_leave 27 = .ok (.aload_n 0, 1) := by decide +kernel
theorem dX9_leave_28 : decode cX9_leave 28 = .ok (.iconst 0, 1) := by decide +kernel
theorem dX9_leave_29 : decode cX9_leave 29 = .ok (.putfield 275, 3) := by decide +kernel
theorem dX9_leave_32 : decode cX9_leave 32 = .ok (.iconst 0, 1) := by decide +kernel
theorem dX9_leave_33 : decode cX9_leave 33 = .ok (.istore 4, 2) := by decide +kernel
theorem dX9_leave_35 : decode cX9_leave 35 = .ok (.iload 4, 2) := by decide +kernel
theorem dX9_leave_37 : decode cX9_leave 37 = .ok (.aload_n 0, 1) := by decide +kernel
theorem dX9_leave_38 : decode cX9_leave 38 = .ok (.getfield 306, 3) := by decide +kernel
theorem dX9_leave_41 : decode cX9_leave 41 = .ok (.if_icmp .ge 41, 3) := by decide +kernel
theorem dX9_leave_44 : decode cX9_leave 44 = .ok (.iload 4, 2) := by decide +kernel
theorem dX9_leave_46 : decode cX9_leave 46 = .ok (.iload_n 3, 1) := by decide +kernel
theorem dX9_leave_47 : decode cX9_leave 47 = .ok (.if_icmp .eq 29, 3) := by decide +kernel
theorem dX9_leave_50 : decode cX9_leave 50 = .ok (.aload_n 0, 1) := by decide +kernel
theorem dX9_leave_51 : decode cX9_leave 51 = .ok (.getfield 50, 3) := by decide +kernel
theorem dX9_leave_54 : decode cX9_leave 54 = .ok (.aload_n 0, 1) := by decide +kernel
theorem dX9_leave_55 : decode cX9_leave 55 = .ok (.getfield 275, 3) := by decide +kernel
theorem dX9_leave_58 : decode cX9_leave 58 = .ok (.aload_n 0, 1) := by decide +kernel
theorem dX9_leave_59 : decode cX9_leave 59 = .ok (.getfield 53, 3) := by decide +kernel
theorem dX9_leave_62 : decode cX9_leave 62 = .ok (.iload 4, 2) := by decide +kernel
theorem dX9_leave_64 : decode cX9_leave 64 = .ok (.iaload, 1) := by decide +kernel
theorem dX9_leave_65 : decode cX9_leave 65 = .ok (.iastore, 1) := by decide +kernel
theorem dX9_leave_66 : decode cX9_leave 66 = .ok (.aload_n 0, 1) := by decide +kernel
theorem dX9_leave_67 : decode cX9_leave 67 = .ok (.dup, 1) := by decide +kernel
theorem dX9_leave_68 : decode cX9_leave 68 = .ok (.getfield 275, 3) := by decide +kernel
theorem dX9_leave_71 : decode cX9_leave 71 = .ok (.iconst 1, 1) := by decide +kernel
theorem dX9_leave_72 : decode cX9_leave 72 = .ok (.iadd, 1) := by decide +kernel
theorem dX9_leave_73 : decode cX9_leave 73 = .ok (.putfield 275, 3) := by decide +kernel
theorem dX9_leave_76 : decode cX9_leave 76 = .ok (.iinc 4 1, 3) := by decide +kernel
theorem dX9_leave_79 : decode cX9_leave 79 = .ok (.goto (-44), 3) := by decide +kernel
theorem dX9_leave_82 : decode cX9_leave 82 = .ok (.aload_n 0, 1) := by decide +kernel
theorem dX9_leave_83 : decode cX9_leave 83 = .ok (.invokevirtual 288, 3) := by decide +kernel
theorem dX9_leave_86 : decode cX9_leave 86 = .ok (.istore 4, 2) := by decide +kernel
theorem dX9_leave_88 : decode cX9_leave 88 = .ok (.iload_n 1, 1) := by decide +kernel
theorem dX9_leave_89 : decode cX9_leave 89 = .ok (.iconst (-1), 1) := by decide +kernel
theorem dX9_leave_90 : decode cX9_leave 90 = .ok (.if_icmp .eq 9, 3) := by decide +kernel
theorem dX9_leave_93 : decode cX9_leave 93 = .ok (.iload 4, 2) := by decide +kernel
theorem dX9_leave_95 : decode cX9_leave 95 = .ok (.iload_n 2, 1) := by decide +kernel
theorem dX9_leave_96 : decode cX9_leave 96 = .ok (.if_icmp .ge 13, 3) := by decide +kernel
theorem dX9_leave_99 : decode cX9_leave 99 = .ok (.aload_n 0, 1) := by decide +kernel
theorem dX9_leave_100 : decode cX9_leave 100 = .ok (.getfield 53, 3) := by decide +kernel
theorem dX9_leave_103 : decode cX9_leave 103 = .ok (.iload_n 3, 1) := by decide +kernel
theorem dX9_leave_104 : decode cX9_leave 104 = .ok (.iaload, 1) := by decide +kernel
theorem dX9_leave_105 : decode cX9_leave 105 = .ok (.istore_n 1, 1) := by decide +kernel
theorem dX9_leave_106 : decode cX9_leave 106 = .ok (.iload 4, 2) := by decide +kernel
theorem dX9_leave_108 : decode cX9_leave 108 = .ok (.istore_n 2, 1) := by decide +kernel
theorem dX9_leave_109 : decode cX9_leave 109 = .ok (.iinc 3 1, 3) := by decide +kernel
theorem dX9_leave_112 : decode cX9_leave 112 = .ok (.goto (-93), 3) := by decide +kernel
theorem dX9_leave_115 : decode cX9_leave 115 = .ok (.iload_n 1, 1) := by decide +kernel
theorem dX9_leave_116 : decode cX9_leave 116 = .ok (.ireturn, 1) := by decide +kernel
theorem dX9_more_0 : decode cX9_more 0 = .ok (.aload_n 0, 1) := by decide +kernel
theorem dX9_more_1 : decode cX9_more 1 = .ok (.iload_n 1, 1) := by decide +kernel
theorem dX9_more_2 : decode cX9_more 2 = .ok (.invokevirtual 109, 3) := by decide +kernel
theorem dX9_more_5 : decode cX9_more 5 = .ok (.ifCond .ne 7, 3) := by decide +kernel
theorem dX9_more_8 : decode cX9_more 8 = .ok (.ldc_w 287, 3) := by decide +kernel
theorem dX9_more_11 : decode cX9_more 11 = .ok (.ireturn, 1) := by decide +kernel
theorem dX9_more_12 : decode cX9_more 12 = .ok (.aload_n 0, 1) := by decide +kernel
theorem dX9_more_13 : decode cX9_more 13 = .ok (.invokevirtual 272, 3) := by decide +kernel
theorem dX9_more_16 : decode cX9_more 16 = .ok (.aload_n 0, 1) := by decide +kernel
theorem dX9_more_17 : decode cX9_more 17 = .ok (.aload_n 0, 1) := by decide +kernel
theorem dX9_more_18 : decode cX9_more 18 = .ok (.invokevirtual 313, 3) := by decide +kernel
theorem dX9_more_21 : decode cX9_more 21 = .ok (.invokevirtual 316, 3) := by decide +kernel
theorem dX9_more_24 : decode cX9_more 24 = .ok (.istore_n 2, 1) := by decide +kernel
theorem dX9_more_25 : decode cX9_more 25 = .ok (.iload_n 2, 1) := by decide +kernel
theorem dX9_more_26 : decode cX9_more 26 = .ok (.aload_n 0, 1) := by decide +kernel
theorem dX9_more_27 : decode cX9_more 27 = .ok (.aload_n 0, 1) := by decide +kernel
theorem dX9_more_28 : decode cX9_more 28 = .ok (.invokevirtual 313, 3) := by decide +kernel
theorem dX9_more_31 : decode cX9_more 31 = .ok (.iconst 1, 1) := by decide +kernel
theorem dX9_more_32 : decode cX9_more 32 = .ok (.iload_n 1, 1) := by decide +kernel
theorem dX9_more_33 : decode cX9_more 33 = .ok (.ishl, 1) := by decide +kernel
theorem dX9_more_34 : decode cX9_more 34 = .ok (.iconst (-1), 1) := by decide +kernel
theorem dX9_more_35 : decode cX9_more 35 = .ok (.ixor, 1) := by decide +kernel
theorem dX9_more_36 : decode cX9_more 36 = .ok (.iand, 1) := by decide +kernel
theorem dX9_more_37 : decode cX9_more 37 = .ok (.invokevirtual 316, 3) := by decide +kernel
theorem dX9_more_40 : decode cX9_more 40 = .ok (.isub, 1) := by decide +kernel
theorem dX9_more_41 : decode cX9_more 41 = .ok (.ireturn, 1) := by decide +kernel
theorem dX9_stand_0 : decode cX9_stand 0 = .ok (.iload_n 1, 1) := by decide +kernel
theorem dX9_stand_1 : decode cX9_stand 1 = .ok (.i2l, 1) := by decide +kernel
theorem dX9_stand_2 : decode cX9_stand 2 = .ok (.lconst 0, 1) := by decide +kernel
theorem dX9_stand_3 : decode cX9_stand 3 = .ok (.lconst 1, 1) := by decide +kernel
theorem dX9_stand_4 : decode cX9_stand 4 = .ok (.invokestatic 88, 3) := by decide +kernel
theorem dX9_stand_7 : decode cX9_stand 7 = .ok (.ifCond .ne 7, 3) := by decide +kernel
theorem dX9_stand_10 : decode cX9_stand 10 = .ok (.ldc_w 287, 3) := by decide +kernel
theorem dX9_stand_13 : decode cX9_stand 13 = .ok (.ireturn, 1) := by decide +kernel
theorem dX9_stand_14 : decode cX9_stand 14 = .ok (.aload_n 0, 1) := by decide +kernel
theorem dX9_stand_15 : decode cX9_stand 15 = .ok (.getfield 118, 3) := by decide +kernel
theorem dX9_stand_18 : decode cX9_stand 18 = .ok (.istore_n 2, 1) := by decide +kernel
theorem dX9_stand_19 : decode cX9_stand 19 = .ok (.iconst (-1), 1) := by decide +kernel
theorem dX9_stand_20 : decode cX9_stand 20 = .ok (.istore_n 3, 1) := by decide +kernel
theorem dX9_stand_21 : decode cX9_stand 21 = .ok (.iconst 0, 1) := by decide +kernel
theorem dX9_stand_22 : decode cX9_stand 22 = .ok (.istore 4, 2) := by decide +kernel
theorem dX9_stand_24 : decode cX9_stand 24 = .ok (.iconst 0, 1) := by decide +kernel
theorem dX9_stand_25 : decode cX9_stand 25 = .ok (.istore 5, 2) := by decide +kernel
theorem dX9_stand_27 : decode cX9_stand 27 = .ok (.iload 5, 2) := by decide +kernel
theorem dX9_stand_29 : decode cX9_stand 29 = .ok (.aload_n 0, 1) := by decide +kernel
theorem dX9_stand_30 : decode cX9_stand 30 = .ok (.getfield 85, 3) := by decide +kernel
theorem dX9_stand_33 : decode cX9_stand 33 = .ok (.if_icmp .gt 48, 3) := by decide +kernel
theorem dX9_stand_36 : decode cX9_stand 36 = .ok (.aload_n 0, 1) := by decide +kernel
theorem dX9_stand_37 : decode cX9_stand 37 = .ok (.iload 5, 2) := by decide +kernel
theorem dX9_stand_39 : decode cX9_stand 39 = .ok (.putfield 118, 3) := by decide +kernel
theorem dX9_stand_42 : decode cX9_stand 42 = .ok (.aload_n 0, 1) := by decide +kernel
theorem dX9_stand_43 : decode cX9_stand 43 = .ok (.invokevirtual 272, 3) := by decide +kernel
theorem dX9_stand_46 : decode cX9_stand 46 = .ok (.aload_n 0, 1) := by decide +kernel
theorem dX9_stand_47 : decode cX9_stand 47 = .ok (.aload_n 0, 1) := by decide +kernel
theorem dX9_stand_48 : decode cX9_stand 48 = .ok (.invokevirtual 313, 3) := by decide +kernel
theorem dX9_stand_51 : decode cX9_stand 51 = .ok (.invokevirtual 316, 3) := by decide +kernel
theorem dX9_stand_54 : decode cX9_stand 54 = .ok (.istore 6, 2) := by decide +kernel
theorem dX9_stand_56 : decode cX9_stand 56 = .ok (.iload_n 3, 1) := by decide +kernel
theorem dX9_stand_57 : decode cX9_stand 57 = .ok (.iconst (-1), 1) := by decide +kernel
theorem dX9_stand_58 : decode cX9_stand 58 = .ok (.if_icmp .eq 10, 3) := by decide +kernel
theorem dX9_stand_61 : decode cX9_stand 61 = .ok (.iload 6, 2) := by decide +kernel
theorem dX9_stand_63 : decode cX9_stand 63 = .ok (.iload 4, 2) := by decide +kernel
theorem dX9_stand_65 : decode cX9_stand 65 = .ok (.if_icmp .le 10, 3) := by decide +kernel
theorem dX9_stand_68 : decode cX9_stand 68 = .ok (.iload 5, 2) := by decide +kernel
theorem dX9_stand_70 : decode cX9_stand 70 = .ok (.istore_n 3, 1) := by decide +kernel
theorem dX9_stand_71 : decode cX9_stand 71 = .ok (.iload 6, 2) := by decide +kernel
theorem dX9_stand_73 : decode cX9_stand 73 = .ok (.istore 4, 2) := by decide +kernel
theorem dX9_stand_75 : decode cX9_stand 75 = .ok (.iinc 5 1, 3) := by decide +kernel
theorem dX9_stand_78 : decode cX9_stand 78 = .ok (.goto (-51), 3) := by decide +kernel
theorem dX9_stand_81 : decode cX9_stand 81 = .ok (.aload_n 0, 1) := by decide +kernel
theorem dX9_stand_82 : decode cX9_stand 82 = .ok (.iload_n 2, 1) := by decide +kernel
theorem dX9_stand_83 : decode cX9_stand 83 = .ok (.putfield 118, 3) := by decide +kernel
theorem dX9_stand_86 : decode cX9_stand 86 = .ok (.iload_n 1, 1) := by decide +kernel
theorem dX9_stand_87 : decode cX9_stand 87 = .ok (.ifCond .ne 7, 3) := by decide +kernel
theorem dX9_stand_90 : decode cX9_stand 90 = .ok (.iload_n 3, 1) := by decide +kernel
theorem dX9_stand_91 : decode cX9_stand 91 = .ok (.goto 5, 3) := by decide +kernel
theorem dX9_stand_94 : decode cX9_stand 94 = .ok (.iload 4, 2) := by decide +kernel
theorem dX9_stand_96 : decode cX9_stand 96 = .ok (.ireturn, 1) := by decide +kernel
theorem dX9_swaps_0 : decode cX9_swaps 0 = .ok (.aload_n 0, 1) := by decide +kernel
theorem dX9_swaps_1 : decode cX9_swaps 1 = .ok (.getfield 23, 3) := by decide +kernel
theorem dX9_swaps_4 : decode cX9_swaps 4 = .ok (.iload_n 1, 1) := by decide +kernel
theorem dX9_swaps_5 : decode cX9_swaps 5 = .ok (.iaload, 1) := by decide +kernel
theorem dX9_swaps_6 : decode cX9_swaps 6 = .ok (.istore_n 3, 1) := by decide +kernel
theorem dX9_swaps_7 : decode cX9_swaps 7 = .ok (.aload_n 0, 1) := by decide +kernel
theorem dX9_swaps_8 : decode cX9_swaps 8 = .ok (.getfield 23, 3) := by decide +kernel
theorem dX9_swaps_11 : decode cX9_swaps 11 = .ok (.iload_n 1, 1) := by decide +kernel
theorem dX9_swaps_12 : decode cX9_swaps 12 = .ok (.aload_n 0, 1) := by decide +kernel
theorem dX9_swaps_13 : decode cX9_swaps 13 = .ok (.getfield 23, 3) := by decide +kernel
theorem dX9_swaps_16 : decode cX9_swaps 16 = .ok (.iload_n 2, 1) := by decide +kernel
theorem dX9_swaps_17 : decode cX9_swaps 17 = .ok (.iaload, 1) := by decide +kernel
theorem dX9_swaps_18 : decode cX9_swaps 18 = .ok (.iastore, 1) := by decide +kernel
theorem dX9_swaps_19 : decode cX9_swaps 19 = .ok (.aload_n 0, 1) := by decide +kernel
theorem dX9_swaps_20 : decode cX9_swaps 20 = .ok (.getfield 23, 3) := by decide +kernel
theorem dX9_swaps_23 : decode cX9_swaps 23 = .ok (.iload_n 2, 1) := by decide +kernel
theorem dX9_swaps_24 : decode cX9_swaps 24 = .ok (.iload_n 3, 1) := by decide +kernel
theorem dX9_swaps_25 : decode cX9_swaps 25 = .ok (.iastore, 1) := by decide +kernel
theorem dX9_swaps_26 : decode cX9_swaps 26 = .ok (.aload_n 0, 1) := by decide +kernel
theorem dX9_swaps_27 : decode cX9_swaps 27 = .ok (.getfield 26, 3) := by decide +kernel
theorem dX9_swaps_30 : decode cX9_swaps 30 = .ok (.iload_n 1, 1) := by decide +kernel
theorem dX9_swaps_31 : decode cX9_swaps 31 = .ok (.iaload, 1) := by decide +kernel
theorem dX9_swaps_32 : decode cX9_swaps 32 = .ok (.istore 4, 2) := by decide +kernel
theorem dX9_swaps_34 : decode cX9_swaps 34 = .ok (.aload_n 0, 1) := by decide +kernel
theorem dX9_swaps_35 : decode cX9_swaps 35 = .ok (.getfield 26, 3) := by decide +kernel
theorem dX9_swaps_38 : decode cX9_swaps 38 = .ok (.iload_n 1, 1) := by decide +kernel
theorem dX9_swaps_39 : decode cX9_swaps 39 = .ok (.aload_n 0, 1) := by decide +kernel
theorem dX9_swaps_40 : decode cX9_swaps 40 = .ok (.getfield 26, 3) := by decide +kernel
theorem dX9_swaps_43 : decode cX9_swaps 43 = .ok (.iload_n 2, 1) := by decide +kernel
theorem dX9_swaps_44 : decode cX9_swaps 44 = .ok (.iaload, 1) := by decide +kernel
theorem dX9_swaps_45 : decode cX9_swaps 45 = .ok (.iastore, 1) := by decide +kernel
theorem dX9_swaps_46 : decode cX9_swaps 46 = .ok (.aload_n 0, 1) := by decide +kernel
theorem dX9_swaps_47 : decode cX9_swaps 47 = .ok (.getfield 26, 3) := by decide +kernel
theorem dX9_swaps_50 : decode cX9_swaps 50 = .ok (.iload_n 2, 1) := by decide +kernel
theorem dX9_swaps_51 : decode cX9_swaps 51 = .ok (.iload 4, 2) := by decide +kernel
theorem dX9_swaps_53 : decode cX9_swaps 53 = .ok (.iastore, 1) := by decide +kernel
theorem dX9_swaps_54 : decode cX9_swaps 54 = .ok (.aload_n 0, 1) := by decide +kernel
theorem dX9_swaps_55 : decode cX9_swaps 55 = .ok (.getfield 29, 3) := by decide +kernel
theorem dX9_swaps_58 : decode cX9_swaps 58 = .ok (.iload_n 1, 1) := by decide +kernel
theorem dX9_swaps_59 : decode cX9_swaps 59 = .ok (.iaload, 1) := by decide +kernel
theorem dX9_swaps_60 : decode cX9_swaps 60 = .ok (.istore 5, 2) := by decide +kernel
theorem dX9_swaps_62 : decode cX9_swaps 62 = .ok (.aload_n 0, 1) := by decide +kernel
theorem dX9_swaps_63 : decode cX9_swaps 63 = .ok (.getfield 29, 3) := by decide +kernel
theorem dX9_swaps_66 : decode cX9_swaps 66 = .ok (.iload_n 1, 1) := by decide +kernel
theorem dX9_swaps_67 : decode cX9_swaps 67 = .ok (.aload_n 0, 1) := by decide +kernel
theorem dX9_swaps_68 : decode cX9_swaps 68 = .ok (.getfield 29, 3) := by decide +kernel
theorem dX9_swaps_71 : decode cX9_swaps 71 = .ok (.iload_n 2, 1) := by decide +kernel
theorem dX9_swaps_72 : decode cX9_swaps 72 = .ok (.iaload, 1) := by decide +kernel
theorem dX9_swaps_73 : decode cX9_swaps 73 = .ok (.iastore, 1) := by decide +kernel
theorem dX9_swaps_74 : decode cX9_swaps 74 = .ok (.aload_n 0, 1) := by decide +kernel
theorem dX9_swaps_75 : decode cX9_swaps 75 = .ok (.getfield 29, 3) := by decide +kernel
theorem dX9_swaps_78 : decode cX9_swaps 78 = .ok (.iload_n 2, 1) := by decide +kernel
theorem dX9_swaps_79 : decode cX9_swaps 79 = .ok (.iload 5, 2) := by decide +kernel
theorem dX9_swaps_81 : decode cX9_swaps 81 = .ok (.iastore, 1) := by decide +kernel
theorem dX9_swaps_82 : decode cX9_swaps 82 = .ok (.return_, 1) := by decide +kernel
theorem dX9_change_0 : decode cX9_change 0 = .ok (.iload_n 1, 1) := by decide +kernel
theorem dX9_change_1 : decode cX9_change 1 = .ok (.i2l, 1) := by decide +kernel
theorem dX9_change_2 : decode cX9_change 2 = .ok (.lconst 0, 1) := by decide +kernel
theorem dX9_change_3 : decode cX9_change 3 = .ok (.lconst 1, 1) := by decide +kernel
theorem dX9_change_4 : decode cX9_change 4 = .ok (.invokestatic 88, 3) := by decide +kernel
theorem dX9_change_7 : decode cX9_change 7 = .ok (.ifCond .ne 6, 3) := by decide +kernel
theorem dX9_change_10 : decode cX9_change 10 = .ok (.bipush (-2), 2) := by decide +kernel
theorem dX9_change_12 : decode cX9_change 12 = .ok (.ireturn, 1) := by decide +kernel
theorem dX9_change_13 : decode cX9_change 13 = .ok (.aload_n 0, 1) := by decide +kernel
theorem dX9_change_14 : decode cX9_change 14 = .ok (.invokevirtual 321, 3) := by decide +kernel
theorem dX9_change_17 : decode cX9_change 17 = .ok (.istore_n 2, 1) := by decide +kernel
theorem dX9_change_18 : decode cX9_change 18 = .ok (.iconst (-1), 1) := by decide +kernel
theorem dX9_change_19 : decode cX9_change 19 = .ok (.istore_n 3, 1) := by decide +kernel
theorem dX9_change_20 : decode cX9_change 20 = .ok (.iconst 0, 1) := by decide +kernel
theorem dX9_change_21 : decode cX9_change 21 = .ok (.istore 4, 2) := by decide +kernel
theorem dX9_change_23 : decode cX9_change 23 = .ok (.iload 4, 2) := by decide +kernel
theorem dX9_change_25 : decode cX9_change 25 = .ok (.aload_n 0, 1) := by decide +kernel
theorem dX9_change_26 : decode cX9_change 26 = .ok (.getfield 118, 3) := by decide +kernel
theorem dX9_change_29 : decode cX9_change 29 = .ok (.if_icmp .ge 70, 3) := by decide +kernel
theorem dX9_change_32 : decode cX9_change 32 = .ok (.aload_n 0, 1) := by decide +kernel
theorem dX9_change_33 : decode cX9_change 33 = .ok (.getfield 118, 3) := by decide +kernel
theorem dX9_change_36 : decode cX9_change 36 = .ok (.istore 5, 2) := by decide +kernel
theorem dX9_change_38 : decode cX9_change 38 = .ok (.iload 5, 2) := by decide +kernel
theorem dX9_change_40 : decode cX9_change 40 = .ok (.aload_n 0, 1) := by decide +kernel
theorem dX9_change_41 : decode cX9_change 41 = .ok (.getfield 85, 3) := by decide +kernel
theorem dX9_change_44 : decode cX9_change 44 = .ok (.if_icmp .ge 49, 3) := by decide +kernel
theorem dX9_change_47 : decode cX9_change 47 = .ok (.aload_n 0, 1) := by decide +kernel
theorem dX9_change_48 : decode cX9_change 48 = .ok (.iload 4, 2) := by decide +kernel
theorem dX9_change_50 : decode cX9_change 50 = .ok (.iload 5, 2) := by decide +kernel
theorem dX9_change_52 : decode cX9_change 52 = .ok (.invokevirtual 324, 3) := by decide +kernel
theorem dX9_change_55 : decode cX9_change 55 = .ok (.aload_n 0, 1) := by decide +kernel
theorem dX9_change_56 : decode cX9_change 56 = .ok (.invokevirtual 321, 3) := by decide +kernel
theorem dX9_change_59 : decode cX9_change 59 = .ok (.istore 6, 2) := by decide +kernel
theorem dX9_change_61 : decode cX9_change 61 = .ok (.aload_n 0, 1) := by decide +kernel
theorem dX9_change_62 : decode cX9_change 62 = .ok (.iload 4, 2) := by decide +kernel
theorem dX9_change_64 : decode cX9_change 64 = .ok (.iload 5, 2) := by decide +kernel
theorem dX9_change_66 : decode cX9_change 66 = .ok (.invokevirtual 324, 3) := by decide +kernel
theorem dX9_change_69 : decode cX9_change 69 = .ok (.iload 6, 2) := by decide +kernel
theorem dX9_change_71 : decode cX9_change 71 = .ok (.iload_n 2, 1) := by decide +kernel
theorem dX9_change_72 : decode cX9_change 72 = .ok (.if_icmp .ge 15, 3) := by decide +kernel
theorem dX9_change_75 : decode cX9_change 75 = .ok (.bipush 10, 2) := by decide +kernel
theorem dX9_change_77 : decode cX9_change 77 = .ok (.iload 4, 2) := by decide +kernel
theorem dX9_change_79 : decode cX9_change 79 = .ok (.imul, 1) := by decide +kernel
theorem dX9_change_80 : decode cX9_change 80 = .ok (.iload 5, 2) := by decide +kernel
theorem dX9_change_82 : decode cX9_change 82 = .ok (.iadd, 1) := by decide +kernel
theorem dX9_change_83 : decode cX9_change 83 = .ok (.istore_n 3, 1) := by decide +kernel
theorem dX9_change_84 : decode cX9_change 84 = .ok (.iload 6, 2) := by decide +kernel
theorem dX9_change_86 : decode cX9_change 86 = .ok (.istore_n 2, 1) := by decide +kernel
theorem dX9_change_87 : decode cX9_change 87 = .ok (.iinc 5 1, 3) := by decide +kernel
theorem dX9_change_90 : decode cX9_change 90 = .ok (.goto (-52), 3) := by decide +kernel
theorem dX9_change_93 : decode cX9_change 93 = .ok (.iinc 4 1, 3) := by decide +kernel
theorem dX9_change_96 : decode cX9_change 96 = .ok (.goto (-73), 3) := by decide +kernel
theorem dX9_change_99 : decode cX9_change 99 = .ok (.iload_n 1, 1) := by decide +kernel
theorem dX9_change_100 : decode cX9_change 100 = .ok (.ifCond .ne 7, 3) := by decide +kernel
theorem dX9_change_103 : decode cX9_change 103 = .ok (.iload_n 3, 1) := by decide +kernel
theorem dX9_change_104 : decode cX9_change 104 = .ok (.goto 4, 3) := by decide +kernel
theorem dX9_change_107 : decode cX9_change 107 = .ok (.iload_n 2, 1) := by decide +kernel
theorem dX9_change_108 : decode cX9_change 108 = .ok (.ireturn, 1) := by decide +kernel
theorem dX9_lineOf_0 : decode cX9_lineOf 0 = .ok (.iconst 0, 1) := by decide +kernel
theorem dX9_lineOf_1 : decode cX9_lineOf 1 = .ok (.istore_n 2, 1) := by decide +kernel
theorem dX9_lineOf_2 : decode cX9_lineOf 2 = .ok (.iload_n 1, 1) := by decide +kernel
theorem dX9_lineOf_3 : decode cX9_lineOf 3 = .ok (.istore_n 3, 1) := by decide +kernel
theorem dX9_lineOf_4 : decode cX9_lineOf 4 = .ok (.iload_n 3, 1) := by decide +kernel
theorem dX9_lineOf_5 : decode cX9_lineOf 5 = .ok (.aload_n 0, 1) := by decide +kernel
theorem dX9_lineOf_6 : decode cX9_lineOf 6 = .ok (.getfield 118, 3) := by decide +kernel
theorem dX9_lineOf_9 : decode cX9_lineOf 9 = .ok (.if_icmp .ge 17, 3) := by decide +kernel
theorem dX9_lineOf_12 : decode cX9_lineOf 12 = .ok (.iload_n 2, 1) := by decide +kernel
theorem dX9_lineOf_13 : decode cX9_lineOf 13 = .ok (.aload_n 0, 1) := by decide +kernel
theorem dX9_lineOf_14 : decode cX9_lineOf 14 = .ok (.iload_n 3, 1) := by decide +kernel
theorem dX9_lineOf_15 : decode cX9_lineOf 15 = .ok (.invokevirtual 125, 3) := by decide +kernel
theorem dX9_lineOf_18 : decode cX9_lineOf 18 = .ok (.iadd, 1) := by decide +kernel
theorem dX9_lineOf_19 : decode cX9_lineOf 19 = .ok (.istore_n 2, 1) := by decide +kernel
theorem dX9_lineOf_20 : decode cX9_lineOf 20 = .ok (.iinc 3 2, 3) := by decide +kernel
theorem dX9_lineOf_23 : decode cX9_lineOf 23 = .ok (.goto (-19), 3) := by decide +kernel
theorem dX9_lineOf_26 : decode cX9_lineOf 26 = .ok (.iload_n 2, 1) := by decide +kernel
theorem dX9_lineOf_27 : decode cX9_lineOf 27 = .ok (.ireturn, 1) := by decide +kernel
theorem dX9_lines_0 : decode cX9_lines 0 = .ok (.iload_n 1, 1) := by decide +kernel
theorem dX9_lines_1 : decode cX9_lines 1 = .ok (.i2l, 1) := by decide +kernel
theorem dX9_lines_2 : decode cX9_lines 2 = .ok (.lconst 0, 1) := by decide +kernel
theorem dX9_lines_3 : decode cX9_lines 3 = .ok (.ldc2_w 103, 3) := by decide +kernel
theorem dX9_lines_6 : decode cX9_lines 6 = .ok (.invokestatic 88, 3) := by decide +kernel
theorem dX9_lines_9 : decode cX9_lines 9 = .ok (.ifCond .ne 6, 3) := by decide +kernel
theorem dX9_lines_12 : decode cX9_lines 12 = .ok (.bipush (-2), 2) := by decide +kernel
theorem dX9_lines_14 : decode cX9_lines 14 = .ok (.ireturn, 1) := by decide +kernel
theorem dX9_lines_15 : decode cX9_lines 15 = .ok (.iload_n 1, 1) := by decide +kernel
theorem dX9_lines_16 : decode cX9_lines 16 = .ok (.iconst 2, 1) := by decide +kernel
theorem dX9_lines_17 : decode cX9_lines 17 = .ok (.if_icmp .ge 9, 3) := by decide +kernel
theorem dX9_lines_20 : decode cX9_lines 20 = .ok (.aload_n 0, 1) := by decide +kernel
theorem dX9_lines_21 : decode cX9_lines 21 = .ok (.iload_n 1, 1) := by decide +kernel
theorem dX9_lines_22 : decode cX9_lines 22 = .ok (.invokevirtual 328, 3) := by decide +kernel
theorem dX9_lines_25 : decode cX9_lines 25 = .ok (.ireturn, 1) := by decide +kernel
theorem dX9_lines_26 : decode cX9_lines 26 = .ok (.aload_n 0, 1) := by decide +kernel
theorem dX9_lines_27 : decode cX9_lines 27 = .ok (.iconst 1, 1) := by decide +kernel
theorem dX9_lines_28 : decode cX9_lines 28 = .ok (.invokevirtual 328, 3) := by decide +kernel
theorem dX9_lines_31 : decode cX9_lines 31 = .ok (.aload_n 0, 1) := by decide +kernel
theorem dX9_lines_32 : decode cX9_lines 32 = .ok (.iconst 0, 1) := by decide +kernel
theorem dX9_lines_33 : decode cX9_lines 33 = .ok (.invokevirtual 328, 3) := by decide +kernel
theorem dX9_lines_36 : decode cX9_lines 36 = .ok (.if_icmp .ge 7, 3) := by decide +kernel
theorem dX9_lines_39 : decode cX9_lines 39 = .ok (.iconst 1, 1) := by decide +kernel
theorem dX9_lines_40 : decode cX9_lines 40 = .ok (.goto 4, 3) := by decide +kernel
theorem dX9_lines_43 : decode cX9_lines 43 = .ok (.iconst 0, 1) := by decide +kernel
theorem dX9_lines_44 : decode cX9_lines 44 = .ok (.ireturn, 1) := by decide +kernel
theorem dX9_likely_0 : decode cX9_likely 0 = .ok (.iload_n 1, 1) := by decide +kernel
theorem dX9_likely_1 : decode cX9_likely 1 = .ok (.invokestatic 281, 3) := by decide +kernel
theorem dX9_likely_4 : decode cX9_likely 4 = .ok (.ifCond .eq 26, 3) := by decide +kernel
theorem dX9_likely_7 : decode cX9_likely 7 = .ok (.aload_n 0, 1) := by decide +kernel
theorem dX9_likely_8 : decode cX9_likely 8 = .ok (.getfield 65, 3) := by decide +kernel
theorem dX9_likely_11 : decode cX9_likely 11 = .ok (.iload_n 1, 1) := by decide +kernel
theorem dX9_likely_12 : decode cX9_likely 12 = .ok (.baload, 1) := by decide +kernel
theorem dX9_likely_13 : decode cX9_likely 13 = .ok (.ifCond .eq 17, 3) := by decide +kernel
theorem dX9_likely_16 : decode cX9_likely 16 = .ok (.aload_n 0, 1) := by decide +kernel
theorem dX9_likely_17 : decode cX9_likely 17 = .ok (.iload_n 1, 1) := by decide +kernel
theorem dX9_likely_18 : decode cX9_likely 18 = .ok (.aload_n 0, 1) := by decide +kernel
theorem dX9_likely_19 : decode cX9_likely 19 = .ok (.getfield 72, 3) := by decide +kernel
theorem dX9_likely_22 : decode cX9_likely 22 = .ok (.iload_n 1, 1) := by decide +kernel
theorem dX9_likely_23 : decode cX9_likely 23 = .ok (.iaload, 1) := by decide +kernel
theorem dX9_likely_24 : decode cX9_likely 24 = .ok (.invokevirtual 284, 3) := by decide +kernel
theorem dX9_likely_27 : decode cX9_likely 27 = .ok (.ifCond .ne 7, 3) := by decide +kernel
theorem dX9_likely_30 : decode cX9_likely 30 = .ok (.ldc2_w 331, 3) := by decide +kernel
theorem dX9_likely_33 : decode cX9_likely 33 = .ok (.lreturn, 1) := by decide +kernel
theorem dX9_likely_34 : decode cX9_likely 34 = .ok (.aload_n 0, 1) := by decide +kernel
theorem dX9_likely_35 : decode cX9_likely 35 = .ok (.invokevirtual 272, 3) := by decide +kernel
theorem dX9_likely_38 : decode cX9_likely 38 = .ok (.lconst 0, 1) := by decide +kernel
theorem dX9_likely_39 : decode cX9_likely 39 = .ok (.lstore_n 2, 1) := by decide +kernel
theorem dX9_likely_40 : decode cX9_likely 40 = .ok (.iconst 0, 1) := by decide +kernel
theorem dX9_likely_41 : decode cX9_likely 41 = .ok (.istore 4, 2) := by decide +kernel
theorem dX9_likely_43 : decode cX9_likely 43 = .ok (.iload 4, 2) := by decide +kernel
theorem dX9_likely_45 : decode cX9_likely 45 = .ok (.aload_n 0, 1) := by decide +kernel
theorem dX9_likely_46 : decode cX9_likely 46 = .ok (.getfield 275, 3) := by decide +kernel
theorem dX9_likely_49 : decode cX9_likely 49 = .ok (.if_icmp .ge 39, 3) := by decide +kernel
theorem dX9_likely_52 : decode cX9_likely 52 = .ok (.lload_n 2, 1) := by decide +kernel
theorem dX9_likely_53 : decode cX9_likely 53 = .ok (.aload_n 0, 1) := by decide +kernel
theorem dX9_likely_54 : decode cX9_likely 54 = .ok (.getfield 35, 3) := by decide +kernel
theorem dX9_likely_57 : decode cX9_likely 57 = .ok (.aload_n 0, 1) := by decide +kernel
theorem dX9_likely_58 : decode cX9_likely 58 = .ok (.getfield 50, 3) := by decide +kernel
theorem dX9_likely_61 : decode cX9_likely 61 = .ok (.iload 4, 2) := by decide +kernel
theorem dX9_likely_63 : decode cX9_likely 63 = .ok (.iaload, 1) := by decide +kernel
theorem dX9_likely_64 : decode cX9_likely 64 = .ok (.iaload, 1) := by decide +kernel
theorem dX9_likely_65 : decode cX9_likely 65 = .ok (.i2l, 1) := by decide +kernel
theorem dX9_likely_66 : decode cX9_likely 66 = .ok (.aload_n 0, 1) := by decide +kernel
theorem dX9_likely_67 : decode cX9_likely 67 = .ok (.getfield 38, 3) := by decide +kernel
theorem dX9_likely_70 : decode cX9_likely 70 = .ok (.aload_n 0, 1) := by decide +kernel
theorem dX9_likely_71 : decode cX9_likely 71 = .ok (.getfield 50, 3) := by decide +kernel
theorem dX9_likely_74 : decode cX9_likely 74 = .ok (.iload 4, 2) := by decide +kernel
theorem dX9_likely_76 : decode cX9_likely 76 = .ok (.iaload, 1) := by decide +kernel
theorem dX9_likely_77 : decode cX9_likely 77 = .ok (.iaload, 1) := by decide +kernel
theorem dX9_likely_78 : decode cX9_likely 78 = .ok (.i2l, 1) := by decide +kernel
theorem dX9_likely_79 : decode cX9_likely 79 = .ok (.lmul, 1) := by decide +kernel
theorem dX9_likely_80 : decode cX9_likely 80 = .ok (.ladd, 1) := by decide +kernel
theorem dX9_likely_81 : decode cX9_likely 81 = .ok (.lstore_n 2, 1) := by decide +kernel
theorem dX9_likely_82 : decode cX9_likely 82 = .ok (.iinc 4 1, 3) := by decide +kernel
theorem dX9_likely_85 : decode cX9_likely 85 = .ok (.goto (-42), 3) := by decide +kernel
theorem dX9_likely_88 : decode cX9_likely 88 = .ok (.lload_n 2, 1) := by decide +kernel
theorem dX9_likely_89 : decode cX9_likely 89 = .ok (.ldc2_w 116, 3) := by decide +kernel
theorem dX9_likely_92 : decode cX9_likely 92 = .ok (.aload_n 0, 1) := by decide +kernel
theorem dX9_likely_93 : decode cX9_likely 93 = .ok (.invokevirtual 291, 3) := by decide +kernel
theorem dX9_likely_96 : decode cX9_likely 96 = .ok (.aload_n 0, 1) := by decide +kernel
theorem dX9_likely_97 : decode cX9_likely 97 = .ok (.aload_n 0, 1) := by decide +kernel
theorem dX9_likely_98 : decode cX9_likely 98 = .ok (.invokevirtual 288, 3) := by decide +kernel
theorem dX9_likely_101 : decode cX9_likely 101 = .ok (.aload_n 0, 1) := by decide +kernel
theorem dX9_likely_102 : decode cX9_likely 102 = .ok (.invokevirtual 291, 3) := by decide +kernel
theorem dX9_likely_105 : decode cX9_likely 105 = .ok (.invokevirtual 294, 3) := by decide +kernel
theorem dX9_likely_108 : decode cX9_likely 108 = .ok (.isub, 1) := by decide +kernel
theorem dX9_likely_109 : decode cX9_likely 109 = .ok (.i2l, 1) := by decide +kernel
theorem dX9_likely_110 : decode cX9_likely 110 = .ok (.lmul, 1) := by decide +kernel
theorem dX9_likely_111 : decode cX9_likely 111 = .ok (.lsub, 1) := by decide +kernel
theorem dX9_likely_112 : decode cX9_likely 112 = .ok (.lreturn, 1) := by decide +kernel
theorem dX9_orders_0 : decode cX9_orders 0 = .ok (.iload_n 1, 1) := by decide +kernel
theorem dX9_orders_1 : decode cX9_orders 1 = .ok (.ifCond .ne 45, 3) := by decide +kernel
theorem dX9_orders_4 : decode cX9_orders 4 = .ok (.aload_n 0, 1) := by decide +kernel
theorem dX9_orders_5 : decode cX9_orders 5 = .ok (.invokevirtual 288, 3) := by decide +kernel
theorem dX9_orders_8 : decode cX9_orders 8 = .ok (.iload_n 2, 1) := by decide +kernel
theorem dX9_orders_9 : decode cX9_orders 9 = .ok (.if_icmp .ne 36, 3) := by decide +kernel
theorem dX9_orders_12 : decode cX9_orders 12 = .ok (.aload_n 0, 1) := by decide +kernel
theorem dX9_orders_13 : decode cX9_orders 13 = .ok (.dup, 1) := by decide +kernel
theorem dX9_orders_14 : decode cX9_orders 14 = .ok (.getfield 333, 3) := by decide +kernel
theorem dX9_orders_17 : decode cX9_orders 17 = .ok (.iconst 1, 1) := by decide +kernel
theorem dX9_orders_18 : decode cX9_orders 18 = .ok (.iadd, 1) := by decide +kernel
theorem dX9_orders_19 : decode cX9_orders 19 = .ok (.putfield 333, 3) := by decide +kernel
theorem dX9_orders_22 : decode cX9_orders 22 = .ok (.aload_n 0, 1) := by decide +kernel
theorem dX9_orders_23 : decode cX9_orders 23 = .ok (.aload_n 0, 1) := by decide +kernel
theorem dX9_orders_24 : decode cX9_orders 24 = .ok (.getfield 333, 3) := by decide +kernel
theorem dX9_orders_27 : decode cX9_orders 27 = .ok (.iconst 1, 1) := by decide +kernel
theorem dX9_orders_28 : decode cX9_orders 28 = .ok (.if_icmp .ne 10, 3) := by decide +kernel
theorem dX9_orders_31 : decode cX9_orders 31 = .ok (.aload_n 0, 1) := by decide +kernel
theorem dX9_orders_32 : decode cX9_orders 32 = .ok (.invokevirtual 297, 3) := by decide +kernel
theorem dX9_orders_35 : decode cX9_orders 35 = .ok (.goto 7, 3) := by decide +kernel
theorem dX9_orders_38 : decode cX9_orders 38 = .ok (.aload_n 0, 1) := by decide +kernel
theorem dX9_orders_39 : decode cX9_orders 39 = .ok (.getfield 336, 3) := by decide +kernel
theorem dX9_orders_42 : decode cX9_orders 42 = .ok (.putfield 336, 3) := by decide +kernel
theorem dX9_orders_45 : decode cX9_orders 45 = .ok (.return_, 1) := by decide +kernel
theorem dX9_orders_46 : decode cX9_orders 46 = .ok (.iconst 0, 1) := by decide +kernel
theorem dX9_orders_47 : decode cX9_orders 47 = .ok (.istore_n 3, 1) := by decide +kernel
theorem dX9_orders_48 : decode cX9_orders 48 = .ok (.iload_n 3, 1) := by decide +kernel
theorem dX9_orders_49 : decode cX9_orders 49 = .ok (.aload_n 0, 1) := by decide +kernel
theorem dX9_orders_50 : decode cX9_orders 50 = .ok (.getfield 92, 3) := by decide +kernel
theorem dX9_orders_53 : decode cX9_orders 53 = .ok (.if_icmp .ge 60, 3) := by decide +kernel
theorem dX9_orders_56 : decode cX9_orders 56 = .ok (.iload_n 1, 1) := by decide +kernel
theorem dX9_orders_57 : decode cX9_orders 57 = .ok (.iload_n 3, 1) := by decide +kernel
theorem dX9_orders_58 : decode cX9_orders 58 = .ok (.ishr, 1) := by decide +kernel
theorem dX9_orders_59 : decode cX9_orders 59 = .ok (.iconst 1, 1) := by decide +kernel
theorem dX9_orders_60 : decode cX9_orders 60 = .ok (.iand, 1) := by decide +kernel
theorem dX9_orders_61 : decode cX9_orders 61 = .ok (.iconst 1, 1) := by decide +kernel
theorem dX9_orders_62 : decode cX9_orders 62 = .ok (.if_icmp .ne 45, 3) := by decide +kernel
theorem dX9_orders_65 : decode cX9_orders 65 = .ok (.aload_n 0, 1) := by decide +kernel
theorem dX9_orders_66 : decode cX9_orders 66 = .ok (.getfield 50, 3) := by decide +kernel
theorem dX9_orders_69 : decode cX9_orders 69 = .ok (.aload_n 0, 1) := by decide +kernel
theorem dX9_orders_70 : decode cX9_orders 70 = .ok (.getfield 275, 3) := by decide +kernel
theorem dX9_orders_73 : decode cX9_orders 73 = .ok (.iload_n 3, 1) := by decide +kernel
theorem dX9_orders_74 : decode cX9_orders 74 = .ok (.iastore, 1) := by decide +kernel
theorem dX9_orders_75 : decode cX9_orders 75 = .ok (.aload_n 0, 1) := by decide +kernel
theorem dX9_orders_76 : decode cX9_orders 76 = .ok (.dup, 1) := by decide +kernel
theorem dX9_orders_77 : decode cX9_orders 77 = .ok (.getfield 275, 3) := by decide +kernel
theorem dX9_orders_80 : decode cX9_orders 80 = .ok (.iconst 1, 1) := by decide +kernel
theorem dX9_orders_81 : decode cX9_orders 81 = .ok (.iadd, 1) := by decide +kernel
theorem dX9_orders_82 : decode cX9_orders 82 = .ok (.putfield 275, 3) := by decide +kernel
theorem dX9_orders_85 : decode cX9_orders 85 = .ok (.aload_n 0, 1) := by decide +kernel
theorem dX9_orders_86 : decode cX9_orders 86 = .ok (.iload_n 1, 1) := by decide +kernel
theorem dX9_orders_87 : decode cX9_orders 87 = .ok (.iconst 1, 1) := by decide +kernel
theorem dX9_orders_88 : decode cX9_orders 88 = .ok (.iload_n 3, 1) := by decide +kernel
theorem dX9_orders_89 : decode cX9_orders 89 = .ok (.ishl, 1) := by decide +kernel
theorem dX9_orders_90 : decode cX9_orders 90 = .ok (.iconst (-1), 1) := by decide +kernel
theorem dX9_orders_91 : decode cX9_orders 91 = .ok (.ixor, 1) := by decide +kernel
theorem dX9_orders_92 : decode cX9_orders 92 = .ok (.iand, 1) := by decide +kernel
theorem dX9_orders_93 : decode cX9_orders 93 = .ok (.iload_n 2, 1) := by decide +kernel
theorem dX9_orders_94 : decode cX9_orders 94 = .ok (.invokevirtual 339, 3) := by decide +kernel
theorem dX9_orders_97 : decode cX9_orders 97 = .ok (.aload_n 0, 1) := by decide +kernel
theorem dX9_orders_98 : decode cX9_orders 98 = .ok (.dup, 1) := by decide +kernel
theorem dX9_orders_99 : decode cX9_orders 99 = .ok (.getfield 275, 3) := by decide +kernel
theorem dX9_orders_102 : decode cX9_orders 102 = .ok (.iconst 1, 1) := by decide +kernel
theorem dX9_orders_103 : decode cX9_orders 103 = .ok (.isub, 1) := by decide +kernel
theorem dX9_orders_104 : decode cX9_orders 104 = .ok (.putfield 275, 3) := by decide +kernel
theorem dX9_orders_107 : decode cX9_orders 107 = .ok (.iinc 3 1, 3) := by decide +kernel
theorem dX9_orders_110 : decode cX9_orders 110 = .ok (.goto (-62), 3) := by decide +kernel
theorem dX9_orders_113 : decode cX9_orders 113 = .ok (.return_, 1) := by decide +kernel
theorem dX9_slip_0 : decode cX9_slip 0 = .ok (.iload_n 1, 1) := by decide +kernel
theorem dX9_slip_1 : decode cX9_slip 1 = .ok (.invokestatic 281, 3) := by decide +kernel
theorem dX9_slip_4 : decode cX9_slip 4 = .ok (.ifCond .eq 13, 3) := by decide +kernel
theorem dX9_slip_7 : decode cX9_slip 7 = .ok (.iload_n 2, 1) := by decide +kernel
theorem dX9_slip_8 : decode cX9_slip 8 = .ok (.i2l, 1) := by decide +kernel
theorem dX9_slip_9 : decode cX9_slip 9 = .ok (.lconst 0, 1) := by decide +kernel
theorem dX9_slip_10 : decode cX9_slip 10 = .ok (.lconst 1, 1) := by decide +kernel
theorem dX9_slip_11 : decode cX9_slip 11 = .ok (.invokestatic 88, 3) := by decide +kernel
theorem dX9_slip_14 : decode cX9_slip 14 = .ok (.ifCond .ne 6, 3) := by decide +kernel
theorem dX9_slip_17 : decode cX9_slip 17 = .ok (.bipush (-2), 2) := by decide +kernel
theorem dX9_slip_19 : decode cX9_slip 19 = .ok (.ireturn, 1) := by decide +kernel
theorem dX9_slip_20 : decode cX9_slip 20 = .ok (.aload_n 0, 1) := by decide +kernel
theorem dX9_slip_21 : decode cX9_slip 21 = .ok (.getfield 65, 3) := by decide +kernel
theorem dX9_slip_24 : decode cX9_slip 24 = .ok (.iload_n 1, 1) := by decide +kernel
theorem dX9_slip_25 : decode cX9_slip 25 = .ok (.baload, 1) := by decide +kernel
theorem dX9_slip_26 : decode cX9_slip 26 = .ok (.ifCond .ne 6, 3) := by decide +kernel
theorem dX9_slip_29 : decode cX9_slip 29 = .ok (.bipush (-11), 2) := by decide +kernel
theorem dX9_slip_31 : decode cX9_slip 31 = .ok (.ireturn, 1) := by decide +kernel
theorem dX9_slip_32 : decode cX9_slip 32 = .ok (.aload_n 0, 1) := by decide +kernel
theorem dX9_slip_33 : decode cX9_slip 33 = .ok (.getfield 72, 3) := by decide +kernel
theorem dX9_slip_36 : decode cX9_slip 36 = .ok (.iload_n 1, 1) := by decide +kernel
theorem dX9_slip_37 : decode cX9_slip 37 = .ok (.iaload, 1) := by decide +kernel
theorem dX9_slip_38 : decode cX9_slip 38 = .ok (.ifCond .eq 19, 3) := by decide +kernel
theorem dX9_slip_41 : decode cX9_slip 41 = .ok (.aload_n 0, 1) := by decide +kernel
theorem dX9_slip_42 : decode cX9_slip 42 = .ok (.iload_n 1, 1) := by decide +kernel
theorem dX9_slip_43 : decode cX9_slip 43 = .ok (.aload_n 0, 1) := by decide +kernel
theorem dX9_slip_44 : decode cX9_slip 44 = .ok (.getfield 72, 3) := by decide +kernel
theorem dX9_slip_47 : decode cX9_slip 47 = .ok (.iload_n 1, 1) := by decide +kernel
theorem dX9_slip_48 : decode cX9_slip 48 = .ok (.iaload, 1) := by decide +kernel
theorem dX9_slip_49 : decode cX9_slip 49 = .ok (.iconst 1, 1) := by decide +kernel
theorem dX9_slip_50 : decode cX9_slip 50 = .ok (.isub, 1) := by decide +kernel
theorem dX9_slip_51 : decode cX9_slip 51 = .ok (.invokevirtual 284, 3) := by decide +kernel
theorem dX9_slip_54 : decode cX9_slip 54 = .ok (.ifCond .ne 6, 3) := by decide +kernel
theorem dX9_slip_57 : decode cX9_slip 57 = .ok (.bipush (-2), 2) := by decide +kernel
theorem dX9_slip_59 : decode cX9_slip 59 = .ok (.ireturn, 1) := by decide +kernel
theorem dX9_slip_60 : decode cX9_slip 60 = .ok (.aload_n 0, 1) := by decide +kernel
theorem dX9_slip_61 : decode cX9_slip 61 = .ok (.invokevirtual 272, 3) := by decide +kernel
theorem dX9_slip_64 : decode cX9_slip 64 = .ok (.iconst 0, 1) := by decide +kernel
theorem dX9_slip_65 : decode cX9_slip 65 = .ok (.istore_n 3, 1) := by decide +kernel
theorem dX9_slip_66 : decode cX9_slip 66 = .ok (.iconst 0, 1) := by decide +kernel
theorem dX9_slip_67 : decode cX9_slip 67 = .ok (.istore 4, 2) := by decide +kernel
theorem dX9_slip_69 : decode cX9_slip 69 = .ok (.iload 4, 2) := by decide +kernel
theorem dX9_slip_71 : decode cX9_slip 71 = .ok (.aload_n 0, 1) := by decide +kernel
theorem dX9_slip_72 : decode cX9_slip 72 = .ok (.getfield 275, 3) := by decide +kernel
theorem dX9_slip_75 : decode cX9_slip 75 = .ok (.if_icmp .ge 21, 3) := by decide +kernel
theorem dX9_slip_78 : decode cX9_slip 78 = .ok (.iload_n 3, 1) := by decide +kernel
theorem dX9_slip_79 : decode cX9_slip 79 = .ok (.iconst 1, 1) := by decide +kernel
theorem dX9_slip_80 : decode cX9_slip 80 = .ok (.aload_n 0, 1) := by decide +kernel
theorem dX9_slip_81 : decode cX9_slip 81 = .ok (.getfield 50, 3) := by decide +kernel
theorem dX9_slip_84 : decode cX9_slip 84 = .ok (.iload 4, 2) := by decide +kernel
theorem dX9_slip_86 : decode cX9_slip 86 = .ok (.iaload, 1) := by decide +kernel
theorem dX9_slip_87 : decode cX9_slip 87 = .ok (.ishl, 1) := by decide +kernel
theorem dX9_slip_88 : decode cX9_slip 88 = .ok (.ior, 1) := by decide +kernel
theorem dX9_slip_89 : decode cX9_slip 89 = .ok (.istore_n 3, 1) := by decide +kernel
theorem dX9_slip_90 : decode cX9_slip 90 = .ok (.iinc 4 1, 3) := by decide +kernel
theorem dX9_slip_93 : decode cX9_slip 93 = .ok (.goto (-24), 3) := by decide +kernel
theorem dX9_slip_96 : decode cX9_slip 96 = .ok (.aload_n 0, 1) := by decide +kernel
theorem dX9_slip_97 : decode cX9_slip 97 = .ok (.getfield 75, 3) := by decide +kernel
theorem dX9_slip_100 : decode cX9_slip 100 = .ok (.bipush 40, 2) := by decide +kernel
theorem dX9_slip_102 : decode cX9_slip 102 = .ok (.iload_n 1, 1) := by decide +kernel
theorem dX9_slip_103 : decode cX9_slip 103 = .ok (.imul, 1) := by decide +kernel
theorem dX9_slip_104 : decode cX9_slip 104 = .ok (.aload_n 0, 1) := by decide +kernel
theorem dX9_slip_105 : decode cX9_slip 105 = .ok (.getfield 72, 3) := by decide +kernel
theorem dX9_slip_108 : decode cX9_slip 108 = .ok (.iload_n 1, 1) := by decide +kernel
theorem dX9_slip_109 : decode cX9_slip 109 = .ok (.iaload, 1) := by decide +kernel
theorem dX9_slip_110 : decode cX9_slip 110 = .ok (.iadd, 1) := by decide +kernel
theorem dX9_slip_111 : decode cX9_slip 111 = .ok (.iconst 1, 1) := by decide +kernel
theorem dX9_slip_112 : decode cX9_slip 112 = .ok (.isub, 1) := by decide +kernel
theorem dX9_slip_113 : decode cX9_slip 113 = .ok (.iaload, 1) := by decide +kernel
theorem dX9_slip_114 : decode cX9_slip 114 = .ok (.istore 4, 2) := by decide +kernel
theorem dX9_slip_116 : decode cX9_slip 116 = .ok (.aload_n 0, 1) := by decide +kernel
theorem dX9_slip_117 : decode cX9_slip 117 = .ok (.iconst 0, 1) := by decide +kernel
theorem dX9_slip_118 : decode cX9_slip 118 = .ok (.putfield 275, 3) := by decide +kernel
theorem dX9_slip_121 : decode cX9_slip 121 = .ok (.aload_n 0, 1) := by decide +kernel
theorem dX9_slip_122 : decode cX9_slip 122 = .ok (.iconst 0, 1) := by decide +kernel
theorem dX9_slip_123 : decode cX9_slip 123 = .ok (.putfield 333, 3) := by decide +kernel
theorem dX9_slip_126 : decode cX9_slip 126 = .ok (.aload_n 0, 1) := by decide +kernel
theorem dX9_slip_127 : decode cX9_slip 127 = .ok (.iconst (-1), 1) := by decide +kernel
theorem dX9_slip_128 : decode cX9_slip 128 = .ok (.putfield 336, 3) := by decide +kernel
theorem dX9_slip_131 : decode cX9_slip 131 = .ok (.aload_n 0, 1) := by decide +kernel
theorem dX9_slip_132 : decode cX9_slip 132 = .ok (.iload_n 3, 1) := by decide +kernel
theorem dX9_slip_133 : decode cX9_slip 133 = .ok (.iload 4, 2) := by decide +kernel
theorem dX9_slip_135 : decode cX9_slip 135 = .ok (.invokevirtual 339, 3) := by decide +kernel
theorem dX9_slip_138 : decode cX9_slip 138 = .ok (.iload_n 2, 1) := by decide +kernel
theorem dX9_slip_139 : decode cX9_slip 139 = .ok (.ifCond .ne 10, 3) := by decide +kernel
theorem dX9_slip_142 : decode cX9_slip 142 = .ok (.aload_n 0, 1) := by decide +kernel
theorem dX9_slip_143 : decode cX9_slip 143 = .ok (.getfield 333, 3) := by decide +kernel
theorem dX9_slip_146 : decode cX9_slip 146 = .ok (.goto 7, 3) := by decide +kernel
theorem dX9_slip_149 : decode cX9_slip 149 = .ok (.aload_n 0, 1) := by decide +kernel
theorem dX9_slip_150 : decode cX9_slip 150 = .ok (.getfield 336, 3) := by decide +kernel
theorem dX9_slip_153 : decode cX9_slip 153 = .ok (.ireturn, 1) := by decide +kernel
theorem dX9_ownOf_0 : decode cX9_ownOf 0 = .ok (.aload_n 0, 1) := by decide +kernel
theorem dX9_ownOf_1 : decode cX9_ownOf 1 = .ok (.getfield 75, 3) := by decide +kernel
theorem dX9_ownOf_4 : decode cX9_ownOf 4 = .ok (.bipush 40, 2) := by decide +kernel
theorem dX9_ownOf_6 : decode cX9_ownOf 6 = .ok (.iload_n 1, 1) := by decide +kernel
theorem dX9_ownOf_7 : decode cX9_ownOf 7 = .ok (.imul, 1) := by decide +kernel
theorem dX9_ownOf_8 : decode cX9_ownOf 8 = .ok (.iload_n 2, 1) := by decide +kernel
theorem dX9_ownOf_9 : decode cX9_ownOf 9 = .ok (.iadd, 1) := by decide +kernel
theorem dX9_ownOf_10 : decode cX9_ownOf 10 = .ok (.iaload, 1) := by decide +kernel
theorem dX9_ownOf_11 : decode cX9_ownOf 11 = .ok (.i2l, 1) := by decide +kernel
theorem dX9_ownOf_12 : decode cX9_ownOf 12 = .ok (.iload_n 2, 1) := by decide +kernel
theorem dX9_ownOf_13 : decode cX9_ownOf 13 = .ok (.ifCond .ne 7, 3) := by decide +kernel
theorem dX9_ownOf_16 : decode cX9_ownOf 16 = .ok (.lconst 0, 1) := by decide +kernel
theorem dX9_ownOf_17 : decode cX9_ownOf 17 = .ok (.goto 17, 3) := by decide +kernel
theorem dX9_ownOf_20 : decode cX9_ownOf 20 = .ok (.aload_n 0, 1) := by decide +kernel
theorem dX9_ownOf_21 : decode cX9_ownOf 21 = .ok (.getfield 75, 3) := by decide +kernel
theorem dX9_ownOf_24 : decode cX9_ownOf 24 = .ok (.bipush 40, 2) := by decide +kernel
theorem dX9_ownOf_26 : decode cX9_ownOf 26 = .ok (.iload_n 1, 1) := by decide +kernel
theorem dX9_ownOf_27 : decode cX9_ownOf 27 = .ok (.imul, 1) := by decide +kernel
theorem dX9_ownOf_28 : decode cX9_ownOf 28 = .ok (.iload_n 2, 1) := by decide +kernel
theorem dX9_ownOf_29 : decode cX9_ownOf 29 = .ok (.iadd, 1) := by decide +kernel
theorem dX9_ownOf_30 : decode cX9_ownOf 30 = .ok (.iconst 1, 1) := by decide +kernel
theorem dX9_ownOf_31 : decode cX9_ownOf 31 = .ok (.isub, 1) := by decide +kernel
theorem dX9_ownOf_32 : decode cX9_ownOf 32 = .ok (.iaload, 1) := by decide +kernel
theorem dX9_ownOf_33 : decode cX9_ownOf 33 = .ok (.i2l, 1) := by decide +kernel
theorem dX9_ownOf_34 : decode cX9_ownOf 34 = .ok (.lsub, 1) := by decide +kernel
theorem dX9_ownOf_35 : decode cX9_ownOf 35 = .ok (.lreturn, 1) := by decide +kernel
theorem dX9_served_0 : decode cX9_served 0 = .ok (.iload_n 1, 1) := by decide +kernel
theorem dX9_served_1 : decode cX9_served 1 = .ok (.invokestatic 281, 3) := by decide +kernel
theorem dX9_served_4 : decode cX9_served 4 = .ok (.ifCond .ne 6, 3) := by decide +kernel
theorem dX9_served_7 : decode cX9_served 7 = .ok (.bipush (-2), 2) := by decide +kernel
theorem dX9_served_9 : decode cX9_served 9 = .ok (.ireturn, 1) := by decide +kernel
theorem dX9_served_10 : decode cX9_served 10 = .ok (.aload_n 0, 1) := by decide +kernel
theorem dX9_served_11 : decode cX9_served 11 = .ok (.getfield 65, 3) := by decide +kernel
theorem dX9_served_14 : decode cX9_served 14 = .ok (.iload_n 1, 1) := by decide +kernel
theorem dX9_served_15 : decode cX9_served 15 = .ok (.baload, 1) := by decide +kernel
theorem dX9_served_16 : decode cX9_served 16 = .ok (.ifCond .ne 6, 3) := by decide +kernel
theorem dX9_served_19 : decode cX9_served 19 = .ok (.bipush (-11), 2) := by decide +kernel
theorem dX9_served_21 : decode cX9_served 21 = .ok (.ireturn, 1) := by decide +kernel
theorem dX9_served_22 : decode cX9_served 22 = .ok (.aload_n 0, 1) := by decide +kernel
theorem dX9_served_23 : decode cX9_served 23 = .ok (.getfield 72, 3) := by decide +kernel
theorem dX9_served_26 : decode cX9_served 26 = .ok (.iload_n 1, 1) := by decide +kernel
theorem dX9_served_27 : decode cX9_served 27 = .ok (.iaload, 1) := by decide +kernel
theorem dX9_served_28 : decode cX9_served 28 = .ok (.aload_n 0, 1) := by decide +kernel
theorem dX9_served_29 : decode cX9_served 29 = .ok (.getfield 85, 3) := by decide +kernel
theorem dX9_served_32 : decode cX9_served 32 = .ok (.if_icmp .gt 26, 3) := by decide +kernel
theorem dX9_served_35 : decode cX9_served 35 = .ok (.iload_n 2, 1) := by decide +kernel
theorem dX9_served_36 : decode cX9_served 36 = .ok (.iconst (-1), 1) := by decide +kernel
theorem dX9_served_37 : decode cX9_served 37 = .ok (.if_icmp .eq 24, 3) := by decide +kernel
theorem dX9_served_40 : decode cX9_served 40 = .ok (.iload_n 2, 1) := by decide +kernel
theorem dX9_served_41 : decode cX9_served 41 = .ok (.i2l, 1) := by decide +kernel
theorem dX9_served_42 : decode cX9_served 42 = .ok (.lconst 0, 1) := by decide +kernel
theorem dX9_served_43 : decode cX9_served 43 = .ok (.aload_n 0, 1) := by decide +kernel
theorem dX9_served_44 : decode cX9_served 44 = .ok (.getfield 72, 3) := by decide +kernel
theorem dX9_served_47 : decode cX9_served 47 = .ok (.iload_n 1, 1) := by decide +kernel
theorem dX9_served_48 : decode cX9_served 48 = .ok (.iaload, 1) := by decide +kernel
theorem dX9_served_49 : decode cX9_served 49 = .ok (.iconst 1, 1) := by decide +kernel
theorem dX9_served_50 : decode cX9_served 50 = .ok (.isub, 1) := by decide +kernel
theorem dX9_served_51 : decode cX9_served 51 = .ok (.i2l, 1) := by decide +kernel
theorem dX9_served_52 : decode cX9_served 52 = .ok (.invokestatic 88, 3) := by decide +kernel
theorem dX9_served_55 : decode cX9_served 55 = .ok (.ifCond .ne 6, 3) := by decide +kernel
theorem dX9_served_58 : decode cX9_served 58 = .ok (.bipush (-2), 2) := by decide +kernel
theorem dX9_served_60 : decode cX9_served 60 = .ok (.ireturn, 1) := by decide +kernel
theorem dX9_served_61 : decode cX9_served 61 = .ok (.iload_n 2, 1) := by decide +kernel
theorem dX9_served_62 : decode cX9_served 62 = .ok (.iconst (-1), 1) := by decide +kernel
theorem dX9_served_63 : decode cX9_served 63 = .ok (.if_icmp .ne 41, 3) := by decide +kernel
theorem dX9_served_66 : decode cX9_served 66 = .ok (.iconst 0, 1) := by decide +kernel
theorem dX9_served_67 : decode cX9_served 67 = .ok (.istore_n 3, 1) := by decide +kernel
theorem dX9_served_68 : decode cX9_served 68 = .ok (.iload_n 3, 1) := by decide +kernel
theorem dX9_served_69 : decode cX9_served 69 = .ok (.aload_n 0, 1) := by decide +kernel
theorem dX9_served_70 : decode cX9_served 70 = .ok (.getfield 72, 3) := by decide +kernel
theorem dX9_served_73 : decode cX9_served 73 = .ok (.iload_n 1, 1) := by decide +kernel
theorem dX9_served_74 : decode cX9_served 74 = .ok (.iaload, 1) := by decide +kernel
theorem dX9_served_75 : decode cX9_served 75 = .ok (.if_icmp .ge 27, 3) := by decide +kernel
theorem dX9_served_78 : decode cX9_served 78 = .ok (.aload_n 0, 1) := by decide +kernel
theorem dX9_served_79 : decode cX9_served 79 = .ok (.iload_n 1, 1) := by decide +kernel
theorem dX9_served_80 : decode cX9_served 80 = .ok (.iload_n 3, 1) := by decide +kernel
theorem dX9_served_81 : decode cX9_served 81 = .ok (.invokevirtual 342, 3) := by decide +kernel
theorem dX9_served_84 : decode cX9_served 84 = .ok (.aload_n 0, 1) := by decide +kernel
theorem dX9_served_85 : decode cX9_served 85 = .ok (.iload_n 3, 1) := by decide +kernel
theorem dX9_served_86 : decode cX9_served 86 = .ok (.invokevirtual 125, 3) := by decide +kernel
theorem dX9_served_89 : decode cX9_served 89 = .ok (.i2l, 1) := by decide +kernel
theorem dX9_served_90 : decode cX9_served 90 = .ok (.lcmp, 1) := by decide +kernel
theorem dX9_served_91 : decode cX9_served 91 = .ok (.ifCond .eq 5, 3) := by decide +kernel
theorem dX9_served_94 : decode cX9_served 94 = .ok (.iload_n 3, 1) := by decide +kernel
theorem dX9_served_95 : decode cX9_served 95 = .ok (.ireturn, 1) := by decide +kernel
theorem dX9_served_96 : decode cX9_served 96 = .ok (.iinc 3 1, 3) := by decide +kernel
theorem dX9_served_99 : decode cX9_served 99 = .ok (.goto (-31), 3) := by decide +kernel
theorem dX9_served_102 : decode cX9_served 102 = .ok (.iconst (-1), 1) := by decide +kernel
theorem dX9_served_103 : decode cX9_served 103 = .ok (.ireturn, 1) := by decide +kernel
theorem dX9_served_104 : decode cX9_served 104 = .ok (.aload_n 0, 1) := by decide +kernel
theorem dX9_served_105 : decode cX9_served 105 = .ok (.getfield 23, 3) := by decide +kernel
theorem dX9_served_108 : decode cX9_served 108 = .ok (.iload_n 2, 1) := by decide +kernel
theorem dX9_served_109 : decode cX9_served 109 = .ok (.iaload, 1) := by decide +kernel
theorem dX9_served_110 : decode cX9_served 110 = .ok (.istore_n 3, 1) := by decide +kernel
theorem dX9_served_111 : decode cX9_served 111 = .ok (.iconst 0, 1) := by decide +kernel
theorem dX9_served_112 : decode cX9_served 112 = .ok (.istore 4, 2) := by decide +kernel
theorem dX9_served_114 : decode cX9_served 114 = .ok (.iconst 0, 1) := by decide +kernel
theorem dX9_served_115 : decode cX9_served 115 = .ok (.istore 5, 2) := by decide +kernel
theorem dX9_served_117 : decode cX9_served 117 = .ok (.iload 5, 2) := by decide +kernel
theorem dX9_served_119 : decode cX9_served 119 = .ok (.iconst 5, 1) := by decide +kernel
theorem dX9_served_120 : decode cX9_served 120 = .ok (.if_icmp .gt 46, 3) := by decide +kernel
theorem dX9_served_123 : decode cX9_served 123 = .ok (.aload_n 0, 1) := by decide +kernel
theorem dX9_served_124 : decode cX9_served 124 = .ok (.getfield 23, 3) := by decide +kernel
theorem dX9_served_127 : decode cX9_served 127 = .ok (.iload_n 2, 1) := by decide +kernel
theorem dX9_served_128 : decode cX9_served 128 = .ok (.iload 5, 2) := by decide +kernel
theorem dX9_served_130 : decode cX9_served 130 = .ok (.iastore, 1) := by decide +kernel
theorem dX9_served_131 : decode cX9_served 131 = .ok (.iload 4, 2) := by decide +kernel
theorem dX9_served_133 : decode cX9_served 133 = .ok (.aload_n 0, 1) := by decide +kernel
theorem dX9_served_134 : decode cX9_served 134 = .ok (.iload_n 1, 1) := by decide +kernel
theorem dX9_served_135 : decode cX9_served 135 = .ok (.iload_n 2, 1) := by decide +kernel
theorem dX9_served_136 : decode cX9_served 136 = .ok (.invokevirtual 342, 3) := by decide +kernel
theorem dX9_served_139 : decode cX9_served 139 = .ok (.aload_n 0, 1) := by decide +kernel
theorem dX9_served_140 : decode cX9_served 140 = .ok (.iload_n 2, 1) := by decide +kernel
theorem dX9_served_141 : decode cX9_served 141 = .ok (.invokevirtual 125, 3) := by decide +kernel
theorem dX9_served_144 : decode cX9_served 144 = .ok (.i2l, 1) := by decide +kernel
theorem dX9_served_145 : decode cX9_served 145 = .ok (.lcmp, 1) := by decide +kernel
theorem dX9_served_146 : decode cX9_served 146 = .ok (.ifCond .ne 7, 3) := by decide +kernel
theorem dX9_served_149 : decode cX9_served 149 = .ok (.iconst 1, 1) := by decide +kernel
theorem dX9_served_150 : decode cX9_served 150 = .ok (.goto 4, 3) := by decide +kernel
theorem dX9_served_153 : decode cX9_served 153 = .ok (.iconst 0, 1) := by decide +kernel
theorem dX9_served_154 : decode cX9_served 154 = .ok (.iload 5, 2) := by decide +kernel
theorem dX9_served_156 : decode cX9_served 156 = .ok (.ishl, 1) := by decide +kernel
theorem dX9_served_157 : decode cX9_served 157 = .ok (.ior, 1) := by decide +kernel
theorem dX9_served_158 : decode cX9_served 158 = .ok (.istore 4, 2) := by decide +kernel
theorem dX9_served_160 : decode cX9_served 160 = .ok (.iinc 5 1, 3) := by decide +kernel
theorem dX9_served_163 : decode cX9_served 163 = .ok (.goto (-46), 3) := by decide +kernel
theorem dX9_served_166 : decode cX9_served 166 = .ok (.aload_n 0, 1) := by decide +kernel
theorem dX9_served_167 : decode cX9_served 167 = .ok (.getfield 23, 3) := by decide +kernel
theorem dX9_served_170 : decode cX9_served 170 = .ok (.iload_n 2, 1) := by decide +kernel
theorem dX9_served_171 : decode cX9_served 171 = .ok (.iload_n 3, 1) := by decide +kernel
theorem dX9_served_172 : decode cX9_served 172 = .ok (.iastore, 1) := by decide +kernel
theorem dX9_served_173 : decode cX9_served 173 = .ok (.iload 4, 2) := by decide +kernel
theorem dX9_served_175 : decode cX9_served 175 = .ok (.ireturn, 1) := by decide +kernel
-- KeepOurPlaceModel.seeks
def F9_seeks_l29_b (rec29 : Mem → Int32 → Option (Int32 × Mem)) (M : Mem) (x2 : Int32) : Option (Int32 × Mem) :=
    if (M 0 40) ≤ x2 then
      some ((M 0 41), M)
    else
      if inb x2 6 = true then
      rec29 (up2 M 13 (Int32.toNatClampNeg x2) (M 14 (Int32.toNatClampNeg x2))) (x2 + (1 : Int32))
      else none
def F9_seeks_l29 : Nat → Mem → Int32 → Option (Int32 × Mem)
  | 0, _, _ => none
  | fu + 1, M, x2 => F9_seeks_l29_b (F9_seeks_l29 fu) M x2
def F9_seeks (M : Mem) (a1 : Int32) : Option (Int32 × Mem) :=
    Option.bind (S4 9 0 (0 : Int32) (0 : Int32) (0 : Int32) (0 : Int32) a1 (up2 (up2 M 0 42 (0 : Int32)) 0 38 (0 : Int32))) fun r1 =>
    F9_seeks_l29 FUEL (up2 r1.2 0 38 (r1.2 0 40)) (0 : Int32)
set_option maxRecDepth 20000 in
theorem F9_seeks_l29_bok {p : Program} {l : Launch} {e : Env} {s : State} {m : MethodId} {args : Array Value} {below : List Frame} {meth : Method} {c : Code} {G : GG} {D : Nat} {r : Int32 × Mem} {rec29 : Mem → Int32 → Option (Int32 × Mem)} (F : FrP shB G p s m args c RX9 cX9_seeks 3) (hr : meth.sig.returnType = (some .int)) (hlk : meth.locks = false) (hD : 12 ≤ D) (hrec29 : ∀ (M : Mem) (x2 : Int32), rec29 M x2 = some r → XJ shB p l e (rmX D) s m args below meth c 0 0 G 3 (MQ below (QcX shB G ((some (.int r.1), r.2) : Option Value × Mem).1 ((some (.int r.1), r.2) : Option Value × Mem).2) args s 0 0 (AW shB G.2.1)) 29 [(0, .ref 0), (2, .int x2)] [] M) {M : Mem} {x2 : Int32} (h : F9_seeks_l29_b rec29 M x2 = some r) : XJ shB p l e (rmX D) s m args below meth c 0 0 G 3 (MQ below (QcX shB G ((some (.int r.1), r.2) : Option Value × Mem).1 ((some (.int r.1), r.2) : Option Value × Mem).2) args s 0 0 (AW shB G.2.1)) 29 [(0, .ref 0), (2, .int x2)] [] M := by
  unfold F9_seeks_l29_b at h
  refine X_iload_n F dX9_seeks_29 rfl ?_
  refine X_aload_n F dX9_seeks_30 rfl ?_
  refine X_geti (v := (M 0 40)) F ffRX9_306 dX9_seeks_31 rfl ?_
  refine X_icmp_ge (tgt := 55) F dX9_seeks_34 (by decide) (fun q3 => ?_) (fun q3 => ?_)
  · rw [if_pos q3] at h
    refine X_aload_n F dX9_seeks_55 rfl ?_
    refine X_geti (v := (M 0 41)) F ffRX9_303 dX9_seeks_56 rfl ?_
    exact X_iret F hr hlk (retI h) dX9_seeks_59
  · rw [if_neg q3] at h
    refine X_aload_n F dX9_seeks_37 rfl ?_
    refine X_getr F ffRX9_50 dX9_seeks_38 ?_
    refine X_iload_n F dX9_seeks_41 rfl ?_
    refine X_aload_n F dX9_seeks_42 rfl ?_
    refine X_getr F ffRX9_53 dX9_seeks_43 ?_
    refine X_iload_n F dX9_seeks_46 rfl ?_
    obtain ⟨q4, h⟩ := ifS h
    refine X_iald (j := (Int32.toNatClampNeg x2)) (v := (M 14 (Int32.toNatClampNeg x2))) F rfl (inbV q4) rfl rfl dX9_seeks_47 ?_
    refine X_iast (j := (Int32.toNatClampNeg x2)) F rfl (inbV q4) rfl dX9_seeks_48 ?_
    refine X_iinc F dX9_seeks_49 rfl (v := (1 : Int32)) rfl (by decide) rfl ?_
    refine X_goto (tgt := 29) F dX9_seeks_52 (by decide) ?_
    refine X_pick [1, 0] rfl ?_
    exact hrec29 _ _ h
set_option maxRecDepth 20000 in
theorem F9_seeks_l29_ok {p : Program} {l : Launch} {e : Env} {s : State} {m : MethodId} {args : Array Value} {below : List Frame} {meth : Method} {c : Code} {G : GG} {D : Nat} {r : Int32 × Mem} (F : FrP shB G p s m args c RX9 cX9_seeks 3) (hr : meth.sig.returnType = (some .int)) (hlk : meth.locks = false) (hD : 12 ≤ D) : ∀ (fu : Nat) (M : Mem) (x2 : Int32), F9_seeks_l29 fu M x2 = some r → XJ shB p l e (rmX D) s m args below meth c 0 0 G 3 (MQ below (QcX shB G ((some (.int r.1), r.2) : Option Value × Mem).1 ((some (.int r.1), r.2) : Option Value × Mem).2) args s 0 0 (AW shB G.2.1)) 29 [(0, .ref 0), (2, .int x2)] [] M := by
  intro fu
  induction fu with
  | zero => intro M x2 h; cases h
  | succ fu ih => intro M x2 h; exact F9_seeks_l29_bok F hr hlk hD (fun M x2 => ih M x2) h
set_option maxRecDepth 20000 in
theorem F9_seeks_ok {p : Program} {l : Launch} {e : Env} {s : State} {m : MethodId} {args : Array Value} {below : List Frame} {meth : Method} {c : Code} {G : GG} {D : Nat} {r : Int32 × Mem} (F : FrP shB G p s m args c RX9 cX9_seeks 3) (hr : meth.sig.returnType = (some .int)) (hlk : meth.locks = false) (hD : 12 ≤ D) {M : Mem} {a1 : Int32} (h : F9_seeks M a1 = some r) : XJ shB p l e (rmX D) s m args below meth c 0 0 G 3 (MQ below (QcX shB G ((some (.int r.1), r.2) : Option Value × Mem).1 ((some (.int r.1), r.2) : Option Value × Mem).2) args s 0 0 (AW shB G.2.1)) 0 [(0, .ref 0), (1, .int a1)] [] M := by
  unfold F9_seeks at h
  refine X_aload_n F dX9_seeks_0 rfl ?_
  refine X_iconst F dX9_seeks_1 (v := (0 : Int32)) rfl ?_
  refine X_putz F ffRX9_300 fw9_42 (by decide) dX9_seeks_2 ⟨rfl, rfl⟩ ?_
  refine X_aload_n F dX9_seeks_5 rfl ?_
  refine X_iconst F dX9_seeks_6 (v := (0 : Int32)) rfl ?_
  refine X_puti F ffRX9_275 fw9_38 (by decide) dX9_seeks_7 ?_
  refine X_aload_n F dX9_seeks_10 rfl ?_
  refine X_iconst F dX9_seeks_11 (v := (0 : Int32)) rfl ?_
  refine X_iconst F dX9_seeks_12 (v := (0 : Int32)) rfl ?_
  refine X_iconst F dX9_seeks_13 (v := (0 : Int32)) rfl ?_
  refine X_iconst F dX9_seeks_14 (v := (0 : Int32)) rfl ?_
  refine X_iload_n F dX9_seeks_15 rfl ?_
  obtain ⟨r1, h2, h⟩ := bndS h
  refine X_callV (ci := 0) (As := [.int (0 : Int32), .int (0 : Int32), .int (0 : Int32), .int (0 : Int32), .int a1]) (rest := []) F fkRX9_309 feX9_goesOn fvX9_goesOn ⟨_, _, _, rfl, rfl, rfl⟩ (F9_goesOn_met (D := D - 1) F.2.2.2.2.2.2.2.1 (by omega) h2) rfl rfl (Nat.le_of_ble_eq_true rfl) (rm_ok (by omega) (by decide)) dX9_seeks_16 ?_
  show XJ shB p l e (rmX D) s m args below meth c 0 0 G 3 (MQ below (QcX shB G ((some (.int r.1), r.2) : Option Value × Mem).1 ((some (.int r.1), r.2) : Option Value × Mem).2) args s 0 0 (AW shB G.2.1)) 19 [(0, .ref 0), (1, .int a1)] [] r1.2
  refine X_aload_n F dX9_seeks_19 rfl ?_
  refine X_aload_n F dX9_seeks_20 rfl ?_
  refine X_geti (v := (r1.2 0 40)) F ffRX9_306 dX9_seeks_21 rfl ?_
  refine X_puti F ffRX9_275 fw9_38 (by decide) dX9_seeks_24 ?_
  refine X_iconst F dX9_seeks_27 (v := (0 : Int32)) rfl ?_
  refine X_istore_n F dX9_seeks_28 (by decide) rfl ?_
  refine X_pick [1, 0] rfl ?_
  exact F9_seeks_l29_ok F hr hlk hD FUEL _ _ h
set_option maxRecDepth 20000 in
theorem F9_seeks_met {l : Launch} {G : GG} {D : Nat} {r : Int32 × Mem} {M : Mem} {a1 : Int32} (hI : Inj shB G.2.1) (hD : 12 ≤ D) (h : F9_seeks M a1 = some r) : MetX shB l G yX9_seeks cX9_seeks 3 (some .int) D [.ref 0, .int a1] M (some (.int r.1), r.2) :=
  X_met hI (by decide +kernel) (Nat.le_of_ble_eq_true rfl) (fun p e s m args below meth c F hr hlk => F9_seeks_ok F hr hlk hD h)
-- KeepOurPlaceModel.best
def F9_best (M : Mem) (a1 : Int32) : Option (Int32 × Mem) :=
    Option.bind (F9_in M (Int32.toInt64 a1) (0 : Int64) (3 : Int64)) fun r1 =>
    if ¬ r1.1 = 0 then
      Option.bind (F9_gathers r1.2) fun r4 =>
      Option.bind (F9_allThings r4.2) fun r6 =>
      Option.bind (F9_seeks r6.2 r6.1) fun r8 =>
      if ¬ a1 = 0 then
        Option.bind (F9_backOf r8.2) fun r11 =>
        Option.bind (F9_worthOf r11.2) fun r13 =>
        Option.bind (F9_gainOf r13.2 r11.1 r13.1) fun r15 =>
        if ¬ a1 = (1 : Int32) then
          if ¬ a1 = (2 : Int32) then
            some ((r15.2 0 36), r15.2)
          else
            some (r8.1, r15.2)
        else
          some (r11.1, r15.2)
      else
        Option.bind (F9_digitsOf r8.2) fun r19 =>
        some (r19.1, r19.2)
    else
      some ((-100000 : Int32), r1.2)
set_option maxRecDepth 20000 in
theorem F9_best_ok {p : Program} {l : Launch} {e : Env} {s : State} {m : MethodId} {args : Array Value} {below : List Frame} {meth : Method} {c : Code} {G : GG} {D : Nat} {r : Int32 × Mem} (F : FrP shB G p s m args c RX9 cX9_best 4) (hr : meth.sig.returnType = (some .int)) (hlk : meth.locks = false) (hD : 91 ≤ D) {M : Mem} {a1 : Int32} (h : F9_best M a1 = some r) : XJ shB p l e (rmX D) s m args below meth c 0 0 G 4 (MQ below (QcX shB G ((some (.int r.1), r.2) : Option Value × Mem).1 ((some (.int r.1), r.2) : Option Value × Mem).2) args s 0 0 (AW shB G.2.1)) 0 [(0, .ref 0), (1, .int a1)] [] M := by
  unfold F9_best at h
  refine X_iload_n F dX9_best_0 rfl ?_
  refine X_i2l F dX9_best_1 ?_
  refine X_lconst F dX9_best_2 (v := (0 : Int64)) rfl ?_
  refine X_ldc2 F fcRX9_123 dX9_best_3 ?_
  obtain ⟨r1, h2, h⟩ := bndS h
  refine X_callS (As := [.long (Int32.toInt64 a1), .long (0 : Int64), .long (3 : Int64)]) (rest := []) F fsRX9_88 feX9_in ftX9_in (F9_in_met (D := D - 1) F.2.2.2.2.2.2.2.1 (by omega) h2) rfl rfl (Nat.le_of_ble_eq_true rfl) (rm_ok (by omega) (by decide)) dX9_best_6 ?_
  show XJ shB p l e (rmX D) s m args below meth c 0 0 G 4 (MQ below (QcX shB G ((some (.int r.1), r.2) : Option Value × Mem).1 ((some (.int r.1), r.2) : Option Value × Mem).2) args s 0 0 (AW shB G.2.1)) 9 [(0, .ref 0), (1, .int a1)] [.int r1.1] r1.2
  refine X_if_ne (tgt := 16) F dX9_best_9 (by decide) (fun q3 => ?_) (fun q3 => ?_)
  · rw [if_pos q3] at h
    refine X_aload_n F dX9_best_16 rfl ?_
    obtain ⟨r4, h5, h⟩ := bndS h
    refine X_callV (ci := 0) (As := []) (rest := []) F fkRX9_272 feX9_gathers fvX9_gathers ⟨_, _, _, rfl, rfl, rfl⟩ (F9_gathers_met (D := D - 1) F.2.2.2.2.2.2.2.1 (by omega) h5) rfl rfl (Nat.le_of_ble_eq_true rfl) (rm_ok (by omega) (by decide)) dX9_best_17 ?_
    show XJ shB p l e (rmX D) s m args below meth c 0 0 G 4 (MQ below (QcX shB G ((some (.int r.1), r.2) : Option Value × Mem).1 ((some (.int r.1), r.2) : Option Value × Mem).2) args s 0 0 (AW shB G.2.1)) 20 [(0, .ref 0), (1, .int a1)] [] r4.2
    refine X_aload_n F dX9_best_20 rfl ?_
    refine X_aload_n F dX9_best_21 rfl ?_
    obtain ⟨r6, h7, h⟩ := bndS h
    refine X_callV (ci := 0) (As := []) (rest := [.ref 0]) F fkRX9_313 feX9_allThings fvX9_allThings ⟨_, _, _, rfl, rfl, rfl⟩ (F9_allThings_met (D := D - 1) F.2.2.2.2.2.2.2.1 (by omega) h7) rfl rfl (Nat.le_of_ble_eq_true rfl) (rm_ok (by omega) (by decide)) dX9_best_22 ?_
    show XJ shB p l e (rmX D) s m args below meth c 0 0 G 4 (MQ below (QcX shB G ((some (.int r.1), r.2) : Option Value × Mem).1 ((some (.int r.1), r.2) : Option Value × Mem).2) args s 0 0 (AW shB G.2.1)) 25 [(0, .ref 0), (1, .int a1)] [.int r6.1, .ref 0] r6.2
    obtain ⟨r8, h9, h⟩ := bndS h
    refine X_callV (ci := 0) (As := [.int r6.1]) (rest := []) F fkRX9_316 feX9_seeks fvX9_seeks ⟨_, _, _, rfl, rfl, rfl⟩ (F9_seeks_met (D := D - 1) F.2.2.2.2.2.2.2.1 (by omega) h9) rfl rfl (Nat.le_of_ble_eq_true rfl) (rm_ok (by omega) (by decide)) dX9_best_25 ?_
    show XJ shB p l e (rmX D) s m args below meth c 0 0 G 4 (MQ below (QcX shB G ((some (.int r.1), r.2) : Option Value × Mem).1 ((some (.int r.1), r.2) : Option Value × Mem).2) args s 0 0 (AW shB G.2.1)) 28 [(0, .ref 0), (1, .int a1)] [.int r8.1] r8.2
    refine X_istore_n F dX9_best_28 (by decide) rfl ?_
    refine X_iload_n F dX9_best_29 rfl ?_
    refine X_if_ne (tgt := 38) F dX9_best_30 (by decide) (fun q10 => ?_) (fun q10 => ?_)
    · rw [if_pos q10] at h
      refine X_aload_n F dX9_best_38 rfl ?_
      obtain ⟨r11, h12, h⟩ := bndS h
      refine X_callV (ci := 0) (As := []) (rest := []) F fkRX9_288 feX9_backOf fvX9_backOf ⟨_, _, _, rfl, rfl, rfl⟩ (F9_backOf_met (D := D - 1) F.2.2.2.2.2.2.2.1 (by omega) h12) rfl rfl (Nat.le_of_ble_eq_true rfl) (rm_ok (by omega) (by decide)) dX9_best_39 ?_
      show XJ shB p l e (rmX D) s m args below meth c 0 0 G 4 (MQ below (QcX shB G ((some (.int r.1), r.2) : Option Value × Mem).1 ((some (.int r.1), r.2) : Option Value × Mem).2) args s 0 0 (AW shB G.2.1)) 42 [(2, .int r8.1), (0, .ref 0), (1, .int a1)] [.int r11.1] r11.2
      refine X_istore_n F dX9_best_42 (by decide) rfl ?_
      refine X_aload_n F dX9_best_43 rfl ?_
      refine X_iload_n F dX9_best_44 rfl ?_
      refine X_aload_n F dX9_best_45 rfl ?_
      obtain ⟨r13, h14, h⟩ := bndS h
      refine X_callV (ci := 0) (As := []) (rest := [.int r11.1, .ref 0]) F fkRX9_291 feX9_worthOf fvX9_worthOf ⟨_, _, _, rfl, rfl, rfl⟩ (F9_worthOf_met (D := D - 1) F.2.2.2.2.2.2.2.1 (by omega) h14) rfl rfl (Nat.le_of_ble_eq_true rfl) (rm_ok (by omega) (by decide)) dX9_best_46 ?_
      show XJ shB p l e (rmX D) s m args below meth c 0 0 G 4 (MQ below (QcX shB G ((some (.int r.1), r.2) : Option Value × Mem).1 ((some (.int r.1), r.2) : Option Value × Mem).2) args s 0 0 (AW shB G.2.1)) 49 [(3, .int r11.1), (2, .int r8.1), (0, .ref 0), (1, .int a1)] [.int r13.1, .int r11.1, .ref 0] r13.2
      obtain ⟨r15, h16, h⟩ := bndS h
      refine X_callV (ci := 0) (As := [.int r11.1, .int r13.1]) (rest := []) F fkRX9_294 feX9_gainOf fvX9_gainOf ⟨_, _, _, rfl, rfl, rfl⟩ (F9_gainOf_met (D := D - 1) F.2.2.2.2.2.2.2.1 (by omega) h16) rfl rfl (Nat.le_of_ble_eq_true rfl) (rm_ok (by omega) (by decide)) dX9_best_49 ?_
      show XJ shB p l e (rmX D) s m args below meth c 0 0 G 4 (MQ below (QcX shB G ((some (.int r.1), r.2) : Option Value × Mem).1 ((some (.int r.1), r.2) : Option Value × Mem).2) args s 0 0 (AW shB G.2.1)) 52 [(3, .int r11.1), (2, .int r8.1), (0, .ref 0), (1, .int a1)] [.int r15.1] r15.2
      refine X_pop F dX9_best_52 rfl ?_
      refine X_iload_n F dX9_best_53 rfl ?_
      refine X_iconst F dX9_best_54 (v := (1 : Int32)) rfl ?_
      refine X_icmp_ne (tgt := 62) F dX9_best_55 (by decide) (fun q17 => ?_) (fun q17 => ?_)
      · rw [if_pos q17] at h
        refine X_iload_n F dX9_best_62 rfl ?_
        refine X_iconst F dX9_best_63 (v := (2 : Int32)) rfl ?_
        refine X_icmp_ne (tgt := 71) F dX9_best_64 (by decide) (fun q18 => ?_) (fun q18 => ?_)
        · rw [if_pos q18] at h
          refine X_aload_n F dX9_best_71 rfl ?_
          refine X_geti (v := (r15.2 0 36)) F ffRX9_269 dX9_best_72 rfl ?_
          exact X_iret F hr hlk (retI h) dX9_best_75
        · rw [if_neg (fun z => z q18)] at h
          refine X_iload_n F dX9_best_67 rfl ?_
          refine X_goto (tgt := 75) F dX9_best_68 (by decide) ?_
          exact X_iret F hr hlk (retI h) dX9_best_75
      · rw [if_neg (fun z => z q17)] at h
        refine X_iload_n F dX9_best_58 rfl ?_
        refine X_goto (tgt := 75) F dX9_best_59 (by decide) ?_
        exact X_iret F hr hlk (retI h) dX9_best_75
    · rw [if_neg (fun z => z q10)] at h
      refine X_aload_n F dX9_best_33 rfl ?_
      obtain ⟨r19, h20, h⟩ := bndS h
      refine X_callV (ci := 0) (As := []) (rest := []) F fkRX9_297 feX9_digitsOf fvX9_digitsOf ⟨_, _, _, rfl, rfl, rfl⟩ (F9_digitsOf_met (D := D - 1) F.2.2.2.2.2.2.2.1 (by omega) h20) rfl rfl (Nat.le_of_ble_eq_true rfl) (rm_ok (by omega) (by decide)) dX9_best_34 ?_
      show XJ shB p l e (rmX D) s m args below meth c 0 0 G 4 (MQ below (QcX shB G ((some (.int r.1), r.2) : Option Value × Mem).1 ((some (.int r.1), r.2) : Option Value × Mem).2) args s 0 0 (AW shB G.2.1)) 37 [(2, .int r8.1), (0, .ref 0), (1, .int a1)] [.int r19.1] r19.2
      exact X_iret F hr hlk (retI h) dX9_best_37
  · rw [if_neg (fun z => z q3)] at h
    refine X_ldcw F fcRX9_287 dX9_best_12 ?_
    exact X_iret F hr hlk (retI h) dX9_best_15
set_option maxRecDepth 20000 in
theorem F9_best_met {l : Launch} {G : GG} {D : Nat} {r : Int32 × Mem} {M : Mem} {a1 : Int32} (hI : Inj shB G.2.1) (hD : 91 ≤ D) (h : F9_best M a1 = some r) : MetX shB l G yX9_best cX9_best 4 (some .int) D [.ref 0, .int a1] M (some (.int r.1), r.2) :=
  X_met hI (by decide +kernel) (Nat.le_of_ble_eq_true rfl) (fun p e s m args below meth c F hr hlk => F9_best_ok F hr hlk hD h)
-- KeepOurPlaceModel.latest
def F9_latest (M : Mem) (a1 : Int32) (a2 : Int32) : Option (Int32 × Mem) :=
    Option.bind (F9_isThing M a1) fun r1 =>
    if r1.1 = 0 then
      some ((-2 : Int32), r1.2)
    else
      Option.bind (F9_in r1.2 (Int32.toInt64 a2) (0 : Int64) (6 : Int64)) fun r4 =>
      if ¬ r4.1 = 0 then
        Option.bind (F9_gathers r4.2) fun r7 =>
        if inb a1 6 = true then
        Option.bind (F9_steps r7.2 (r7.2 7 (Int32.toNatClampNeg a1)) (0 : Int32)) fun r10 =>
        if inb a2 7 = true then
        if 0 ≤ ((r7.2 0 35) - (r10.1 * (r10.2 12 (Int32.toNatClampNeg a2)))) then
          some (((r7.2 0 35) - (r10.1 * (r10.2 12 (Int32.toNatClampNeg a2)))), r10.2)
        else
          some ((-1 : Int32), r10.2)
        else none
        else none
      else
        some ((-2 : Int32), r4.2)
set_option maxRecDepth 20000 in
theorem F9_latest_ok {p : Program} {l : Launch} {e : Env} {s : State} {m : MethodId} {args : Array Value} {below : List Frame} {meth : Method} {c : Code} {G : GG} {D : Nat} {r : Int32 × Mem} (F : FrP shB G p s m args c RX9 cX9_latest 4) (hr : meth.sig.returnType = (some .int)) (hlk : meth.locks = false) (hD : 91 ≤ D) {M : Mem} {a1 : Int32} {a2 : Int32} (h : F9_latest M a1 a2 = some r) : XJ shB p l e (rmX D) s m args below meth c 0 0 G 4 (MQ below (QcX shB G ((some (.int r.1), r.2) : Option Value × Mem).1 ((some (.int r.1), r.2) : Option Value × Mem).2) args s 0 0 (AW shB G.2.1)) 0 [(0, .ref 0), (1, .int a1), (2, .int a2)] [] M := by
  unfold F9_latest at h
  refine X_aload_n F dX9_latest_0 rfl ?_
  refine X_iload_n F dX9_latest_1 rfl ?_
  obtain ⟨r1, h2, h⟩ := bndS h
  refine X_callV (ci := 0) (As := [.int a1]) (rest := []) F fkRX9_109 feX9_isThing fvX9_isThing ⟨_, _, _, rfl, rfl, rfl⟩ (F9_isThing_met (D := D - 1) F.2.2.2.2.2.2.2.1 (by omega) h2) rfl rfl (Nat.le_of_ble_eq_true rfl) (rm_ok (by omega) (by decide)) dX9_latest_2 ?_
  show XJ shB p l e (rmX D) s m args below meth c 0 0 G 4 (MQ below (QcX shB G ((some (.int r.1), r.2) : Option Value × Mem).1 ((some (.int r.1), r.2) : Option Value × Mem).2) args s 0 0 (AW shB G.2.1)) 5 [(0, .ref 0), (1, .int a1), (2, .int a2)] [.int r1.1] r1.2
  refine X_if_eq (tgt := 20) F dX9_latest_5 (by decide) (fun q3 => ?_) (fun q3 => ?_)
  · rw [if_pos q3] at h
    refine X_bipush F dX9_latest_20 (v := (-2 : Int32)) rfl ?_
    exact X_iret F hr hlk (retI h) dX9_latest_22
  · rw [if_neg q3] at h
    refine X_iload_n F dX9_latest_8 rfl ?_
    refine X_i2l F dX9_latest_9 ?_
    refine X_lconst F dX9_latest_10 (v := (0 : Int64)) rfl ?_
    refine X_ldc2 F fcRX9_319 dX9_latest_11 ?_
    obtain ⟨r4, h5, h⟩ := bndS h
    refine X_callS (As := [.long (Int32.toInt64 a2), .long (0 : Int64), .long (6 : Int64)]) (rest := []) F fsRX9_88 feX9_in ftX9_in (F9_in_met (D := D - 1) F.2.2.2.2.2.2.2.1 (by omega) h5) rfl rfl (Nat.le_of_ble_eq_true rfl) (rm_ok (by omega) (by decide)) dX9_latest_14 ?_
    show XJ shB p l e (rmX D) s m args below meth c 0 0 G 4 (MQ below (QcX shB G ((some (.int r.1), r.2) : Option Value × Mem).1 ((some (.int r.1), r.2) : Option Value × Mem).2) args s 0 0 (AW shB G.2.1)) 17 [(0, .ref 0), (1, .int a1), (2, .int a2)] [.int r4.1] r4.2
    refine X_if_ne (tgt := 23) F dX9_latest_17 (by decide) (fun q6 => ?_) (fun q6 => ?_)
    · rw [if_pos q6] at h
      refine X_aload_n F dX9_latest_23 rfl ?_
      obtain ⟨r7, h8, h⟩ := bndS h
      refine X_callV (ci := 0) (As := []) (rest := []) F fkRX9_272 feX9_gathers fvX9_gathers ⟨_, _, _, rfl, rfl, rfl⟩ (F9_gathers_met (D := D - 1) F.2.2.2.2.2.2.2.1 (by omega) h8) rfl rfl (Nat.le_of_ble_eq_true rfl) (rm_ok (by omega) (by decide)) dX9_latest_24 ?_
      show XJ shB p l e (rmX D) s m args below meth c 0 0 G 4 (MQ below (QcX shB G ((some (.int r.1), r.2) : Option Value × Mem).1 ((some (.int r.1), r.2) : Option Value × Mem).2) args s 0 0 (AW shB G.2.1)) 27 [(0, .ref 0), (1, .int a1), (2, .int a2)] [] r7.2
      refine X_aload_n F dX9_latest_27 rfl ?_
      refine X_geti (v := (r7.2 0 35)) F ffRX9_266 dX9_latest_28 rfl ?_
      refine X_aload_n F dX9_latest_31 rfl ?_
      refine X_getr F ffRX9_32 dX9_latest_32 ?_
      refine X_iload_n F dX9_latest_35 rfl ?_
      obtain ⟨q9, h⟩ := ifS h
      refine X_iald (j := (Int32.toNatClampNeg a1)) (v := (r7.2 7 (Int32.toNatClampNeg a1))) F rfl (inbV q9) rfl rfl dX9_latest_36 ?_
      refine X_iconst F dX9_latest_37 (v := (0 : Int32)) rfl ?_
      obtain ⟨r10, h11, h⟩ := bndS h
      refine X_callS (As := [.int (r7.2 7 (Int32.toNatClampNeg a1)), .int (0 : Int32)]) (rest := [.int (r7.2 0 35)]) F fsRX9_278 feX9_steps ftX9_steps (F9_steps_met (D := D - 1) F.2.2.2.2.2.2.2.1 (by omega) h11) rfl rfl (Nat.le_of_ble_eq_true rfl) (rm_ok (by omega) (by decide)) dX9_latest_38 ?_
      show XJ shB p l e (rmX D) s m args below meth c 0 0 G 4 (MQ below (QcX shB G ((some (.int r.1), r.2) : Option Value × Mem).1 ((some (.int r.1), r.2) : Option Value × Mem).2) args s 0 0 (AW shB G.2.1)) 41 [(0, .ref 0), (1, .int a1), (2, .int a2)] [.int r10.1, .int (r7.2 0 35)] r10.2
      refine X_aload_n F dX9_latest_41 rfl ?_
      refine X_getr F ffRX9_47 dX9_latest_42 ?_
      refine X_iload_n F dX9_latest_45 rfl ?_
      obtain ⟨q12, h⟩ := ifS h
      refine X_iald (j := (Int32.toNatClampNeg a2)) (v := (r10.2 12 (Int32.toNatClampNeg a2))) F rfl (inbV q12) rfl rfl dX9_latest_46 ?_
      refine X_imul F dX9_latest_47 ?_
      refine X_isub F dX9_latest_48 ?_
      refine X_istore_n F dX9_latest_49 (by decide) rfl ?_
      refine X_iload_n F dX9_latest_50 rfl ?_
      refine X_if_ge (tgt := 58) F dX9_latest_51 (by decide) (fun q13 => ?_) (fun q13 => ?_)
      · rw [if_pos q13] at h
        refine X_iload_n F dX9_latest_58 rfl ?_
        exact X_iret F hr hlk (retI h) dX9_latest_59
      · rw [if_neg q13] at h
        refine X_iconst F dX9_latest_54 (v := (-1 : Int32)) rfl ?_
        refine X_goto (tgt := 59) F dX9_latest_55 (by decide) ?_
        exact X_iret F hr hlk (retI h) dX9_latest_59
    · rw [if_neg (fun z => z q6)] at h
      refine X_bipush F dX9_latest_20 (v := (-2 : Int32)) rfl ?_
      exact X_iret F hr hlk (retI h) dX9_latest_22
set_option maxRecDepth 20000 in
theorem F9_latest_met {l : Launch} {G : GG} {D : Nat} {r : Int32 × Mem} {M : Mem} {a1 : Int32} {a2 : Int32} (hI : Inj shB G.2.1) (hD : 91 ≤ D) (h : F9_latest M a1 a2 = some r) : MetX shB l G yX9_latest cX9_latest 4 (some .int) D [.ref 0, .int a1, .int a2] M (some (.int r.1), r.2) :=
  X_met hI (by decide +kernel) (Nat.le_of_ble_eq_true rfl) (fun p e s m args below meth c F hr hlk => F9_latest_ok F hr hlk hD h)
-- KeepOurPlaceModel.leave
def F9_leave_j109 (rec19 : Mem → Int32 → Int32 → Int32 → Option (Int32 × Mem)) (M : Mem) (x1 : Int32) (x2 : Int32) (x3 : Int32) : Option (Int32 × Mem) :=
    rec19 M x1 x2 (x3 + (1 : Int32))
def F9_leave_j99 (rec19 : Mem → Int32 → Int32 → Int32 → Option (Int32 × Mem)) (M : Mem) (x3 : Int32) (x4 : Int32) : Option (Int32 × Mem) :=
    if inb x3 6 = true then
    F9_leave_j109 rec19 M (M 14 (Int32.toNatClampNeg x3)) x4 x3
    else none
def F9_leave_j76 (rec19 : Mem → Int32 → Int32 → Int32 → Option (Int32 × Mem)) (rec35 : Mem → Int32 → Int32 → Int32 → Int32 → Option (Int32 × Mem)) (M : Mem) (x1 : Int32) (x2 : Int32) (x3 : Int32) (x4 : Int32) : Option (Int32 × Mem) :=
    rec35 M x1 x2 x3 (x4 + (1 : Int32))
def F9_leave_l35_b (rec19 : Mem → Int32 → Int32 → Int32 → Option (Int32 × Mem)) (rec35 : Mem → Int32 → Int32 → Int32 → Int32 → Option (Int32 × Mem)) (M : Mem) (x1 : Int32) (x2 : Int32) (x3 : Int32) (x4 : Int32) : Option (Int32 × Mem) :=
    if (M 0 40) ≤ x4 then
      Option.bind (F9_backOf M) fun r9 =>
      if x1 = (-1 : Int32) then
        F9_leave_j99 rec19 r9.2 x3 r9.1
      else
        if x2 ≤ r9.1 then
          F9_leave_j109 rec19 r9.2 x1 x2 x3
        else
          F9_leave_j99 rec19 r9.2 x3 r9.1
    else
      if x4 = x3 then
        F9_leave_j76 rec19 rec35 M x1 x2 x3 x4
      else
        if inb x4 6 = true then
        if inb (M 0 38) 6 = true then
        F9_leave_j76 rec19 rec35 (up2 (up2 M 13 (Int32.toNatClampNeg (M 0 38)) (M 14 (Int32.toNatClampNeg x4))) 0 38 ((M 0 38) + (1 : Int32))) x1 x2 x3 x4
        else none
        else none
def F9_leave_l35 (rec19 : Mem → Int32 → Int32 → Int32 → Option (Int32 × Mem)) : Nat → Mem → Int32 → Int32 → Int32 → Int32 → Option (Int32 × Mem)
  | 0, _, _, _, _, _ => none
  | fu + 1, M, x1, x2, x3, x4 => F9_leave_l35_b rec19 (F9_leave_l35 rec19 fu) M x1 x2 x3 x4
def F9_leave_l19_b (rec19 : Mem → Int32 → Int32 → Int32 → Option (Int32 × Mem)) (M : Mem) (x1 : Int32) (x2 : Int32) (x3 : Int32) : Option (Int32 × Mem) :=
    if (M 0 40) ≤ x3 then
      some (x1, M)
    else
      F9_leave_l35 rec19 FUEL (up2 M 0 38 (0 : Int32)) x1 x2 x3 (0 : Int32)
def F9_leave_l19 : Nat → Mem → Int32 → Int32 → Int32 → Option (Int32 × Mem)
  | 0, _, _, _, _ => none
  | fu + 1, M, x1, x2, x3 => F9_leave_l19_b (F9_leave_l19 fu) M x1 x2 x3
def F9_leave (M : Mem) : Option (Int32 × Mem) :=
    Option.bind (F9_gathers M) fun r1 =>
    Option.bind (F9_allThings r1.2) fun r3 =>
    Option.bind (F9_seeks r3.2 r3.1) fun r5 =>
    F9_leave_l19 FUEL r5.2 (-1 : Int32) (0 : Int32) (0 : Int32)
set_option maxRecDepth 20000 in
theorem F9_leave_j109_ok {p : Program} {l : Launch} {e : Env} {s : State} {m : MethodId} {args : Array Value} {below : List Frame} {meth : Method} {c : Code} {G : GG} {D : Nat} {r : Int32 × Mem} {rec19 : Mem → Int32 → Int32 → Int32 → Option (Int32 × Mem)} (F : FrP shB G p s m args c RX9 cX9_leave 5) (hr : meth.sig.returnType = (some .int)) (hlk : meth.locks = false) (hD : 91 ≤ D) (hrec19 : ∀ (M : Mem) (x1 : Int32) (x2 : Int32) (x3 : Int32), rec19 M x1 x2 x3 = some r → XJ shB p l e (rmX D) s m args below meth c 0 0 G 5 (MQ below (QcX shB G ((some (.int r.1), r.2) : Option Value × Mem).1 ((some (.int r.1), r.2) : Option Value × Mem).2) args s 0 0 (AW shB G.2.1)) 19 [(0, .ref 0), (1, .int x1), (2, .int x2), (3, .int x3)] [] M) {M : Mem} {x1 : Int32} {x2 : Int32} {x3 : Int32} (h : F9_leave_j109 rec19 M x1 x2 x3 = some r) : XJ shB p l e (rmX D) s m args below meth c 0 0 G 5 (MQ below (QcX shB G ((some (.int r.1), r.2) : Option Value × Mem).1 ((some (.int r.1), r.2) : Option Value × Mem).2) args s 0 0 (AW shB G.2.1)) 109 [(0, .ref 0), (1, .int x1), (2, .int x2), (3, .int x3)] [] M := by
  unfold F9_leave_j109 at h
  refine X_iinc F dX9_leave_109 rfl (v := (1 : Int32)) rfl (by decide) rfl ?_
  refine X_goto (tgt := 19) F dX9_leave_112 (by decide) ?_
  refine X_pick [1, 2, 3, 0] rfl ?_
  exact hrec19 _ _ _ _ h
set_option maxRecDepth 20000 in
theorem F9_leave_j99_ok {p : Program} {l : Launch} {e : Env} {s : State} {m : MethodId} {args : Array Value} {below : List Frame} {meth : Method} {c : Code} {G : GG} {D : Nat} {r : Int32 × Mem} {rec19 : Mem → Int32 → Int32 → Int32 → Option (Int32 × Mem)} (F : FrP shB G p s m args c RX9 cX9_leave 5) (hr : meth.sig.returnType = (some .int)) (hlk : meth.locks = false) (hD : 91 ≤ D) (hrec19 : ∀ (M : Mem) (x1 : Int32) (x2 : Int32) (x3 : Int32), rec19 M x1 x2 x3 = some r → XJ shB p l e (rmX D) s m args below meth c 0 0 G 5 (MQ below (QcX shB G ((some (.int r.1), r.2) : Option Value × Mem).1 ((some (.int r.1), r.2) : Option Value × Mem).2) args s 0 0 (AW shB G.2.1)) 19 [(0, .ref 0), (1, .int x1), (2, .int x2), (3, .int x3)] [] M) {M : Mem} {x3 : Int32} {x4 : Int32} (h : F9_leave_j99 rec19 M x3 x4 = some r) : XJ shB p l e (rmX D) s m args below meth c 0 0 G 5 (MQ below (QcX shB G ((some (.int r.1), r.2) : Option Value × Mem).1 ((some (.int r.1), r.2) : Option Value × Mem).2) args s 0 0 (AW shB G.2.1)) 99 [(0, .ref 0), (3, .int x3), (4, .int x4)] [] M := by
  unfold F9_leave_j99 at h
  refine X_aload_n F dX9_leave_99 rfl ?_
  refine X_getr F ffRX9_53 dX9_leave_100 ?_
  refine X_iload_n F dX9_leave_103 rfl ?_
  obtain ⟨q16, h⟩ := ifS h
  refine X_iald (j := (Int32.toNatClampNeg x3)) (v := (M 14 (Int32.toNatClampNeg x3))) F rfl (inbV q16) rfl rfl dX9_leave_104 ?_
  refine X_istore_n F dX9_leave_105 (by decide) rfl ?_
  refine X_iload F dX9_leave_106 rfl ?_
  refine X_istore_n F dX9_leave_108 (by decide) rfl ?_
  refine X_pick [2, 1, 0, 3] rfl ?_
  exact F9_leave_j109_ok F hr hlk hD hrec19 h
set_option maxRecDepth 20000 in
theorem F9_leave_j76_ok {p : Program} {l : Launch} {e : Env} {s : State} {m : MethodId} {args : Array Value} {below : List Frame} {meth : Method} {c : Code} {G : GG} {D : Nat} {r : Int32 × Mem} {rec19 : Mem → Int32 → Int32 → Int32 → Option (Int32 × Mem)} {rec35 : Mem → Int32 → Int32 → Int32 → Int32 → Option (Int32 × Mem)} (F : FrP shB G p s m args c RX9 cX9_leave 5) (hr : meth.sig.returnType = (some .int)) (hlk : meth.locks = false) (hD : 91 ≤ D) (hrec19 : ∀ (M : Mem) (x1 : Int32) (x2 : Int32) (x3 : Int32), rec19 M x1 x2 x3 = some r → XJ shB p l e (rmX D) s m args below meth c 0 0 G 5 (MQ below (QcX shB G ((some (.int r.1), r.2) : Option Value × Mem).1 ((some (.int r.1), r.2) : Option Value × Mem).2) args s 0 0 (AW shB G.2.1)) 19 [(0, .ref 0), (1, .int x1), (2, .int x2), (3, .int x3)] [] M) (hrec35 : ∀ (M : Mem) (x1 : Int32) (x2 : Int32) (x3 : Int32) (x4 : Int32), rec35 M x1 x2 x3 x4 = some r → XJ shB p l e (rmX D) s m args below meth c 0 0 G 5 (MQ below (QcX shB G ((some (.int r.1), r.2) : Option Value × Mem).1 ((some (.int r.1), r.2) : Option Value × Mem).2) args s 0 0 (AW shB G.2.1)) 35 [(0, .ref 0), (1, .int x1), (2, .int x2), (3, .int x3), (4, .int x4)] [] M) {M : Mem} {x1 : Int32} {x2 : Int32} {x3 : Int32} {x4 : Int32} (h : F9_leave_j76 rec19 rec35 M x1 x2 x3 x4 = some r) : XJ shB p l e (rmX D) s m args below meth c 0 0 G 5 (MQ below (QcX shB G ((some (.int r.1), r.2) : Option Value × Mem).1 ((some (.int r.1), r.2) : Option Value × Mem).2) args s 0 0 (AW shB G.2.1)) 76 [(0, .ref 0), (1, .int x1), (2, .int x2), (3, .int x3), (4, .int x4)] [] M := by
  unfold F9_leave_j76 at h
  refine X_iinc F dX9_leave_76 rfl (v := (1 : Int32)) rfl (by decide) rfl ?_
  refine X_goto (tgt := 35) F dX9_leave_79 (by decide) ?_
  refine X_pick [1, 2, 3, 4, 0] rfl ?_
  exact hrec35 _ _ _ _ _ h
set_option maxRecDepth 20000 in
theorem F9_leave_l35_bok {p : Program} {l : Launch} {e : Env} {s : State} {m : MethodId} {args : Array Value} {below : List Frame} {meth : Method} {c : Code} {G : GG} {D : Nat} {r : Int32 × Mem} {rec19 : Mem → Int32 → Int32 → Int32 → Option (Int32 × Mem)} {rec35 : Mem → Int32 → Int32 → Int32 → Int32 → Option (Int32 × Mem)} (F : FrP shB G p s m args c RX9 cX9_leave 5) (hr : meth.sig.returnType = (some .int)) (hlk : meth.locks = false) (hD : 91 ≤ D) (hrec19 : ∀ (M : Mem) (x1 : Int32) (x2 : Int32) (x3 : Int32), rec19 M x1 x2 x3 = some r → XJ shB p l e (rmX D) s m args below meth c 0 0 G 5 (MQ below (QcX shB G ((some (.int r.1), r.2) : Option Value × Mem).1 ((some (.int r.1), r.2) : Option Value × Mem).2) args s 0 0 (AW shB G.2.1)) 19 [(0, .ref 0), (1, .int x1), (2, .int x2), (3, .int x3)] [] M) (hrec35 : ∀ (M : Mem) (x1 : Int32) (x2 : Int32) (x3 : Int32) (x4 : Int32), rec35 M x1 x2 x3 x4 = some r → XJ shB p l e (rmX D) s m args below meth c 0 0 G 5 (MQ below (QcX shB G ((some (.int r.1), r.2) : Option Value × Mem).1 ((some (.int r.1), r.2) : Option Value × Mem).2) args s 0 0 (AW shB G.2.1)) 35 [(0, .ref 0), (1, .int x1), (2, .int x2), (3, .int x3), (4, .int x4)] [] M) {M : Mem} {x1 : Int32} {x2 : Int32} {x3 : Int32} {x4 : Int32} (h : F9_leave_l35_b rec19 rec35 M x1 x2 x3 x4 = some r) : XJ shB p l e (rmX D) s m args below meth c 0 0 G 5 (MQ below (QcX shB G ((some (.int r.1), r.2) : Option Value × Mem).1 ((some (.int r.1), r.2) : Option Value × Mem).2) args s 0 0 (AW shB G.2.1)) 35 [(0, .ref 0), (1, .int x1), (2, .int x2), (3, .int x3), (4, .int x4)] [] M := by
  unfold F9_leave_l35_b at h
  refine X_iload F dX9_leave_35 rfl ?_
  refine X_aload_n F dX9_leave_37 rfl ?_
  refine X_geti (v := (M 0 40)) F ffRX9_306 dX9_leave_38 rfl ?_
  refine X_icmp_ge (tgt := 82) F dX9_leave_41 (by decide) (fun q8 => ?_) (fun q8 => ?_)
  · rw [if_pos q8] at h
    refine X_aload_n F dX9_leave_82 rfl ?_
    obtain ⟨r9, h10, h⟩ := bndS h
    refine X_callV (ci := 0) (As := []) (rest := []) F fkRX9_288 feX9_backOf fvX9_backOf ⟨_, _, _, rfl, rfl, rfl⟩ (F9_backOf_met (D := D - 1) F.2.2.2.2.2.2.2.1 (by omega) h10) rfl rfl (Nat.le_of_ble_eq_true rfl) (rm_ok (by omega) (by decide)) dX9_leave_83 ?_
    show XJ shB p l e (rmX D) s m args below meth c 0 0 G 5 (MQ below (QcX shB G ((some (.int r.1), r.2) : Option Value × Mem).1 ((some (.int r.1), r.2) : Option Value × Mem).2) args s 0 0 (AW shB G.2.1)) 86 [(0, .ref 0), (1, .int x1), (2, .int x2), (3, .int x3), (4, .int x4)] [.int r9.1] r9.2
    refine X_istore F dX9_leave_86 (by decide) rfl ?_
    refine X_iload_n F dX9_leave_88 rfl ?_
    refine X_iconst F dX9_leave_89 (v := (-1 : Int32)) rfl ?_
    refine X_icmp_eq (tgt := 99) F dX9_leave_90 (by decide) (fun q11 => ?_) (fun q11 => ?_)
    · rw [if_pos q11] at h
      refine X_pick [1, 4, 0] rfl ?_
      exact F9_leave_j99_ok F hr hlk hD hrec19 h
    · rw [if_neg q11] at h
      refine X_iload F dX9_leave_93 rfl ?_
      refine X_iload_n F dX9_leave_95 rfl ?_
      refine X_icmp_ge (tgt := 109) F dX9_leave_96 (by decide) (fun q12 => ?_) (fun q12 => ?_)
      · rw [if_pos q12] at h
        refine X_pick [1, 2, 3, 4] rfl ?_
        exact F9_leave_j109_ok F hr hlk hD hrec19 h
      · rw [if_neg q12] at h
        refine X_pick [1, 4, 0] rfl ?_
        exact F9_leave_j99_ok F hr hlk hD hrec19 h
  · rw [if_neg q8] at h
    refine X_iload F dX9_leave_44 rfl ?_
    refine X_iload_n F dX9_leave_46 rfl ?_
    refine X_icmp_eq (tgt := 76) F dX9_leave_47 (by decide) (fun q13 => ?_) (fun q13 => ?_)
    · rw [if_pos q13] at h
      exact F9_leave_j76_ok F hr hlk hD hrec19 hrec35 h
    · rw [if_neg q13] at h
      refine X_aload_n F dX9_leave_50 rfl ?_
      refine X_getr F ffRX9_50 dX9_leave_51 ?_
      refine X_aload_n F dX9_leave_54 rfl ?_
      refine X_geti (v := (M 0 38)) F ffRX9_275 dX9_leave_55 rfl ?_
      refine X_aload_n F dX9_leave_58 rfl ?_
      refine X_getr F ffRX9_53 dX9_leave_59 ?_
      refine X_iload F dX9_leave_62 rfl ?_
      obtain ⟨q14, h⟩ := ifS h
      refine X_iald (j := (Int32.toNatClampNeg x4)) (v := (M 14 (Int32.toNatClampNeg x4))) F rfl (inbV q14) rfl rfl dX9_leave_64 ?_
      obtain ⟨q15, h⟩ := ifS h
      refine X_iast (j := (Int32.toNatClampNeg (M 0 38))) F rfl (inbV q15) rfl dX9_leave_65 ?_
      refine X_aload_n F dX9_leave_66 rfl ?_
      refine X_dup F dX9_leave_67 rfl ?_
      refine X_geti (v := (M 0 38)) F ffRX9_275 dX9_leave_68 rfl ?_
      refine X_iconst F dX9_leave_71 (v := (1 : Int32)) rfl ?_
      refine X_iadd F dX9_leave_72 ?_
      refine X_puti F ffRX9_275 fw9_38 (by decide) dX9_leave_73 ?_
      exact F9_leave_j76_ok F hr hlk hD hrec19 hrec35 h
set_option maxRecDepth 20000 in
theorem F9_leave_l35_ok {p : Program} {l : Launch} {e : Env} {s : State} {m : MethodId} {args : Array Value} {below : List Frame} {meth : Method} {c : Code} {G : GG} {D : Nat} {r : Int32 × Mem} {rec19 : Mem → Int32 → Int32 → Int32 → Option (Int32 × Mem)} (F : FrP shB G p s m args c RX9 cX9_leave 5) (hr : meth.sig.returnType = (some .int)) (hlk : meth.locks = false) (hD : 91 ≤ D) (hrec19 : ∀ (M : Mem) (x1 : Int32) (x2 : Int32) (x3 : Int32), rec19 M x1 x2 x3 = some r → XJ shB p l e (rmX D) s m args below meth c 0 0 G 5 (MQ below (QcX shB G ((some (.int r.1), r.2) : Option Value × Mem).1 ((some (.int r.1), r.2) : Option Value × Mem).2) args s 0 0 (AW shB G.2.1)) 19 [(0, .ref 0), (1, .int x1), (2, .int x2), (3, .int x3)] [] M) : ∀ (fu : Nat) (M : Mem) (x1 : Int32) (x2 : Int32) (x3 : Int32) (x4 : Int32), F9_leave_l35 rec19 fu M x1 x2 x3 x4 = some r → XJ shB p l e (rmX D) s m args below meth c 0 0 G 5 (MQ below (QcX shB G ((some (.int r.1), r.2) : Option Value × Mem).1 ((some (.int r.1), r.2) : Option Value × Mem).2) args s 0 0 (AW shB G.2.1)) 35 [(0, .ref 0), (1, .int x1), (2, .int x2), (3, .int x3), (4, .int x4)] [] M := by
  intro fu
  induction fu with
  | zero => intro M x1 x2 x3 x4 h; cases h
  | succ fu ih => intro M x1 x2 x3 x4 h; exact F9_leave_l35_bok F hr hlk hD hrec19 (fun M x1 x2 x3 x4 => ih M x1 x2 x3 x4) h
set_option maxRecDepth 20000 in
theorem F9_leave_l19_bok {p : Program} {l : Launch} {e : Env} {s : State} {m : MethodId} {args : Array Value} {below : List Frame} {meth : Method} {c : Code} {G : GG} {D : Nat} {r : Int32 × Mem} {rec19 : Mem → Int32 → Int32 → Int32 → Option (Int32 × Mem)} (F : FrP shB G p s m args c RX9 cX9_leave 5) (hr : meth.sig.returnType = (some .int)) (hlk : meth.locks = false) (hD : 91 ≤ D) (hrec19 : ∀ (M : Mem) (x1 : Int32) (x2 : Int32) (x3 : Int32), rec19 M x1 x2 x3 = some r → XJ shB p l e (rmX D) s m args below meth c 0 0 G 5 (MQ below (QcX shB G ((some (.int r.1), r.2) : Option Value × Mem).1 ((some (.int r.1), r.2) : Option Value × Mem).2) args s 0 0 (AW shB G.2.1)) 19 [(0, .ref 0), (1, .int x1), (2, .int x2), (3, .int x3)] [] M) {M : Mem} {x1 : Int32} {x2 : Int32} {x3 : Int32} (h : F9_leave_l19_b rec19 M x1 x2 x3 = some r) : XJ shB p l e (rmX D) s m args below meth c 0 0 G 5 (MQ below (QcX shB G ((some (.int r.1), r.2) : Option Value × Mem).1 ((some (.int r.1), r.2) : Option Value × Mem).2) args s 0 0 (AW shB G.2.1)) 19 [(0, .ref 0), (1, .int x1), (2, .int x2), (3, .int x3)] [] M := by
  unfold F9_leave_l19_b at h
  refine X_iload_n F dX9_leave_19 rfl ?_
  refine X_aload_n F dX9_leave_20 rfl ?_
  refine X_geti (v := (M 0 40)) F ffRX9_306 dX9_leave_21 rfl ?_
  refine X_icmp_ge (tgt := 115) F dX9_leave_24 (by decide) (fun q7 => ?_) (fun q7 => ?_)
  · rw [if_pos q7] at h
    refine X_iload_n F dX9_leave_115 rfl ?_
    exact X_iret F hr hlk (retI h) dX9_leave_116
  · rw [if_neg q7] at h
    refine X_aload_n F dX9_leave_27 rfl ?_
    refine X_iconst F dX9_leave_28 (v := (0 : Int32)) rfl ?_
    refine X_puti F ffRX9_275 fw9_38 (by decide) dX9_leave_29 ?_
    refine X_iconst F dX9_leave_32 (v := (0 : Int32)) rfl ?_
    refine X_istore F dX9_leave_33 (by decide) rfl ?_
    refine X_pick [1, 2, 3, 4, 0] rfl ?_
    exact F9_leave_l35_ok F hr hlk hD hrec19 FUEL _ _ _ _ _ h
set_option maxRecDepth 20000 in
theorem F9_leave_l19_ok {p : Program} {l : Launch} {e : Env} {s : State} {m : MethodId} {args : Array Value} {below : List Frame} {meth : Method} {c : Code} {G : GG} {D : Nat} {r : Int32 × Mem} (F : FrP shB G p s m args c RX9 cX9_leave 5) (hr : meth.sig.returnType = (some .int)) (hlk : meth.locks = false) (hD : 91 ≤ D) : ∀ (fu : Nat) (M : Mem) (x1 : Int32) (x2 : Int32) (x3 : Int32), F9_leave_l19 fu M x1 x2 x3 = some r → XJ shB p l e (rmX D) s m args below meth c 0 0 G 5 (MQ below (QcX shB G ((some (.int r.1), r.2) : Option Value × Mem).1 ((some (.int r.1), r.2) : Option Value × Mem).2) args s 0 0 (AW shB G.2.1)) 19 [(0, .ref 0), (1, .int x1), (2, .int x2), (3, .int x3)] [] M := by
  intro fu
  induction fu with
  | zero => intro M x1 x2 x3 h; cases h
  | succ fu ih => intro M x1 x2 x3 h; exact F9_leave_l19_bok F hr hlk hD (fun M x1 x2 x3 => ih M x1 x2 x3) h
set_option maxRecDepth 20000 in
theorem F9_leave_ok {p : Program} {l : Launch} {e : Env} {s : State} {m : MethodId} {args : Array Value} {below : List Frame} {meth : Method} {c : Code} {G : GG} {D : Nat} {r : Int32 × Mem} (F : FrP shB G p s m args c RX9 cX9_leave 5) (hr : meth.sig.returnType = (some .int)) (hlk : meth.locks = false) (hD : 91 ≤ D) {M : Mem} (h : F9_leave M = some r) : XJ shB p l e (rmX D) s m args below meth c 0 0 G 5 (MQ below (QcX shB G ((some (.int r.1), r.2) : Option Value × Mem).1 ((some (.int r.1), r.2) : Option Value × Mem).2) args s 0 0 (AW shB G.2.1)) 0 [(0, .ref 0)] [] M := by
  unfold F9_leave at h
  refine X_aload_n F dX9_leave_0 rfl ?_
  obtain ⟨r1, h2, h⟩ := bndS h
  refine X_callV (ci := 0) (As := []) (rest := []) F fkRX9_272 feX9_gathers fvX9_gathers ⟨_, _, _, rfl, rfl, rfl⟩ (F9_gathers_met (D := D - 1) F.2.2.2.2.2.2.2.1 (by omega) h2) rfl rfl (Nat.le_of_ble_eq_true rfl) (rm_ok (by omega) (by decide)) dX9_leave_1 ?_
  show XJ shB p l e (rmX D) s m args below meth c 0 0 G 5 (MQ below (QcX shB G ((some (.int r.1), r.2) : Option Value × Mem).1 ((some (.int r.1), r.2) : Option Value × Mem).2) args s 0 0 (AW shB G.2.1)) 4 [(0, .ref 0)] [] r1.2
  refine X_aload_n F dX9_leave_4 rfl ?_
  refine X_aload_n F dX9_leave_5 rfl ?_
  obtain ⟨r3, h4, h⟩ := bndS h
  refine X_callV (ci := 0) (As := []) (rest := [.ref 0]) F fkRX9_313 feX9_allThings fvX9_allThings ⟨_, _, _, rfl, rfl, rfl⟩ (F9_allThings_met (D := D - 1) F.2.2.2.2.2.2.2.1 (by omega) h4) rfl rfl (Nat.le_of_ble_eq_true rfl) (rm_ok (by omega) (by decide)) dX9_leave_6 ?_
  show XJ shB p l e (rmX D) s m args below meth c 0 0 G 5 (MQ below (QcX shB G ((some (.int r.1), r.2) : Option Value × Mem).1 ((some (.int r.1), r.2) : Option Value × Mem).2) args s 0 0 (AW shB G.2.1)) 9 [(0, .ref 0)] [.int r3.1, .ref 0] r3.2
  obtain ⟨r5, h6, h⟩ := bndS h
  refine X_callV (ci := 0) (As := [.int r3.1]) (rest := []) F fkRX9_316 feX9_seeks fvX9_seeks ⟨_, _, _, rfl, rfl, rfl⟩ (F9_seeks_met (D := D - 1) F.2.2.2.2.2.2.2.1 (by omega) h6) rfl rfl (Nat.le_of_ble_eq_true rfl) (rm_ok (by omega) (by decide)) dX9_leave_9 ?_
  show XJ shB p l e (rmX D) s m args below meth c 0 0 G 5 (MQ below (QcX shB G ((some (.int r.1), r.2) : Option Value × Mem).1 ((some (.int r.1), r.2) : Option Value × Mem).2) args s 0 0 (AW shB G.2.1)) 12 [(0, .ref 0)] [.int r5.1] r5.2
  refine X_pop F dX9_leave_12 rfl ?_
  refine X_iconst F dX9_leave_13 (v := (-1 : Int32)) rfl ?_
  refine X_istore_n F dX9_leave_14 (by decide) rfl ?_
  refine X_iconst F dX9_leave_15 (v := (0 : Int32)) rfl ?_
  refine X_istore_n F dX9_leave_16 (by decide) rfl ?_
  refine X_iconst F dX9_leave_17 (v := (0 : Int32)) rfl ?_
  refine X_istore_n F dX9_leave_18 (by decide) rfl ?_
  refine X_pick [3, 2, 1, 0] rfl ?_
  exact F9_leave_l19_ok F hr hlk hD FUEL _ _ _ _ h
set_option maxRecDepth 20000 in
theorem F9_leave_met {l : Launch} {G : GG} {D : Nat} {r : Int32 × Mem} {M : Mem} (hI : Inj shB G.2.1) (hD : 91 ≤ D) (h : F9_leave M = some r) : MetX shB l G yX9_leave cX9_leave 5 (some .int) D [.ref 0] M (some (.int r.1), r.2) :=
  X_met hI (by decide +kernel) (Nat.le_of_ble_eq_true rfl) (fun p e s m args below meth c F hr hlk => F9_leave_ok F hr hlk hD h)
-- KeepOurPlaceModel.more
def F9_more (M : Mem) (a1 : Int32) : Option (Int32 × Mem) :=
    Option.bind (F9_isThing M a1) fun r1 =>
    if ¬ r1.1 = 0 then
      Option.bind (F9_gathers r1.2) fun r4 =>
      Option.bind (F9_allThings r4.2) fun r6 =>
      Option.bind (F9_seeks r6.2 r6.1) fun r8 =>
      Option.bind (F9_allThings r8.2) fun r10 =>
      Option.bind (F9_seeks r10.2 (r10.1 &&& (((1 : Int32) <<< (a1 &&& 31)) ^^^ (-1 : Int32)))) fun r12 =>
      some ((r8.1 - r12.1), r12.2)
    else
      some ((-100000 : Int32), r1.2)
set_option maxRecDepth 20000 in
theorem F9_more_ok {p : Program} {l : Launch} {e : Env} {s : State} {m : MethodId} {args : Array Value} {below : List Frame} {meth : Method} {c : Code} {G : GG} {D : Nat} {r : Int32 × Mem} (F : FrP shB G p s m args c RX9 cX9_more 3) (hr : meth.sig.returnType = (some .int)) (hlk : meth.locks = false) (hD : 91 ≤ D) {M : Mem} {a1 : Int32} (h : F9_more M a1 = some r) : XJ shB p l e (rmX D) s m args below meth c 0 0 G 3 (MQ below (QcX shB G ((some (.int r.1), r.2) : Option Value × Mem).1 ((some (.int r.1), r.2) : Option Value × Mem).2) args s 0 0 (AW shB G.2.1)) 0 [(0, .ref 0), (1, .int a1)] [] M := by
  unfold F9_more at h
  refine X_aload_n F dX9_more_0 rfl ?_
  refine X_iload_n F dX9_more_1 rfl ?_
  obtain ⟨r1, h2, h⟩ := bndS h
  refine X_callV (ci := 0) (As := [.int a1]) (rest := []) F fkRX9_109 feX9_isThing fvX9_isThing ⟨_, _, _, rfl, rfl, rfl⟩ (F9_isThing_met (D := D - 1) F.2.2.2.2.2.2.2.1 (by omega) h2) rfl rfl (Nat.le_of_ble_eq_true rfl) (rm_ok (by omega) (by decide)) dX9_more_2 ?_
  show XJ shB p l e (rmX D) s m args below meth c 0 0 G 3 (MQ below (QcX shB G ((some (.int r.1), r.2) : Option Value × Mem).1 ((some (.int r.1), r.2) : Option Value × Mem).2) args s 0 0 (AW shB G.2.1)) 5 [(0, .ref 0), (1, .int a1)] [.int r1.1] r1.2
  refine X_if_ne (tgt := 12) F dX9_more_5 (by decide) (fun q3 => ?_) (fun q3 => ?_)
  · rw [if_pos q3] at h
    refine X_aload_n F dX9_more_12 rfl ?_
    obtain ⟨r4, h5, h⟩ := bndS h
    refine X_callV (ci := 0) (As := []) (rest := []) F fkRX9_272 feX9_gathers fvX9_gathers ⟨_, _, _, rfl, rfl, rfl⟩ (F9_gathers_met (D := D - 1) F.2.2.2.2.2.2.2.1 (by omega) h5) rfl rfl (Nat.le_of_ble_eq_true rfl) (rm_ok (by omega) (by decide)) dX9_more_13 ?_
    show XJ shB p l e (rmX D) s m args below meth c 0 0 G 3 (MQ below (QcX shB G ((some (.int r.1), r.2) : Option Value × Mem).1 ((some (.int r.1), r.2) : Option Value × Mem).2) args s 0 0 (AW shB G.2.1)) 16 [(0, .ref 0), (1, .int a1)] [] r4.2
    refine X_aload_n F dX9_more_16 rfl ?_
    refine X_aload_n F dX9_more_17 rfl ?_
    obtain ⟨r6, h7, h⟩ := bndS h
    refine X_callV (ci := 0) (As := []) (rest := [.ref 0]) F fkRX9_313 feX9_allThings fvX9_allThings ⟨_, _, _, rfl, rfl, rfl⟩ (F9_allThings_met (D := D - 1) F.2.2.2.2.2.2.2.1 (by omega) h7) rfl rfl (Nat.le_of_ble_eq_true rfl) (rm_ok (by omega) (by decide)) dX9_more_18 ?_
    show XJ shB p l e (rmX D) s m args below meth c 0 0 G 3 (MQ below (QcX shB G ((some (.int r.1), r.2) : Option Value × Mem).1 ((some (.int r.1), r.2) : Option Value × Mem).2) args s 0 0 (AW shB G.2.1)) 21 [(0, .ref 0), (1, .int a1)] [.int r6.1, .ref 0] r6.2
    obtain ⟨r8, h9, h⟩ := bndS h
    refine X_callV (ci := 0) (As := [.int r6.1]) (rest := []) F fkRX9_316 feX9_seeks fvX9_seeks ⟨_, _, _, rfl, rfl, rfl⟩ (F9_seeks_met (D := D - 1) F.2.2.2.2.2.2.2.1 (by omega) h9) rfl rfl (Nat.le_of_ble_eq_true rfl) (rm_ok (by omega) (by decide)) dX9_more_21 ?_
    show XJ shB p l e (rmX D) s m args below meth c 0 0 G 3 (MQ below (QcX shB G ((some (.int r.1), r.2) : Option Value × Mem).1 ((some (.int r.1), r.2) : Option Value × Mem).2) args s 0 0 (AW shB G.2.1)) 24 [(0, .ref 0), (1, .int a1)] [.int r8.1] r8.2
    refine X_istore_n F dX9_more_24 (by decide) rfl ?_
    refine X_iload_n F dX9_more_25 rfl ?_
    refine X_aload_n F dX9_more_26 rfl ?_
    refine X_aload_n F dX9_more_27 rfl ?_
    obtain ⟨r10, h11, h⟩ := bndS h
    refine X_callV (ci := 0) (As := []) (rest := [.ref 0, .int r8.1]) F fkRX9_313 feX9_allThings fvX9_allThings ⟨_, _, _, rfl, rfl, rfl⟩ (F9_allThings_met (D := D - 1) F.2.2.2.2.2.2.2.1 (by omega) h11) rfl rfl (Nat.le_of_ble_eq_true rfl) (rm_ok (by omega) (by decide)) dX9_more_28 ?_
    show XJ shB p l e (rmX D) s m args below meth c 0 0 G 3 (MQ below (QcX shB G ((some (.int r.1), r.2) : Option Value × Mem).1 ((some (.int r.1), r.2) : Option Value × Mem).2) args s 0 0 (AW shB G.2.1)) 31 [(2, .int r8.1), (0, .ref 0), (1, .int a1)] [.int r10.1, .ref 0, .int r8.1] r10.2
    refine X_iconst F dX9_more_31 (v := (1 : Int32)) rfl ?_
    refine X_iload_n F dX9_more_32 rfl ?_
    refine X_ishl F dX9_more_33 ?_
    refine X_iconst F dX9_more_34 (v := (-1 : Int32)) rfl ?_
    refine X_ixor F dX9_more_35 ?_
    refine X_iand F dX9_more_36 ?_
    obtain ⟨r12, h13, h⟩ := bndS h
    refine X_callV (ci := 0) (As := [.int (r10.1 &&& (((1 : Int32) <<< (a1 &&& 31)) ^^^ (-1 : Int32)))]) (rest := [.int r8.1]) F fkRX9_316 feX9_seeks fvX9_seeks ⟨_, _, _, rfl, rfl, rfl⟩ (F9_seeks_met (D := D - 1) F.2.2.2.2.2.2.2.1 (by omega) h13) rfl rfl (Nat.le_of_ble_eq_true rfl) (rm_ok (by omega) (by decide)) dX9_more_37 ?_
    show XJ shB p l e (rmX D) s m args below meth c 0 0 G 3 (MQ below (QcX shB G ((some (.int r.1), r.2) : Option Value × Mem).1 ((some (.int r.1), r.2) : Option Value × Mem).2) args s 0 0 (AW shB G.2.1)) 40 [(2, .int r8.1), (0, .ref 0), (1, .int a1)] [.int r12.1, .int r8.1] r12.2
    refine X_isub F dX9_more_40 ?_
    exact X_iret F hr hlk (retI h) dX9_more_41
  · rw [if_neg (fun z => z q3)] at h
    refine X_ldcw F fcRX9_287 dX9_more_8 ?_
    exact X_iret F hr hlk (retI h) dX9_more_11
set_option maxRecDepth 20000 in
theorem F9_more_met {l : Launch} {G : GG} {D : Nat} {r : Int32 × Mem} {M : Mem} {a1 : Int32} (hI : Inj shB G.2.1) (hD : 91 ≤ D) (h : F9_more M a1 = some r) : MetX shB l G yX9_more cX9_more 3 (some .int) D [.ref 0, .int a1] M (some (.int r.1), r.2) :=
  X_met hI (by decide +kernel) (Nat.le_of_ble_eq_true rfl) (fun p e s m args below meth c F hr hlk => F9_more_ok F hr hlk hD h)
-- KeepOurPlaceModel.stand
def F9_stand_j75 (rec27 : Mem → Int32 → Int32 → Int32 → Int32 → Int32 → Option (Int32 × Mem)) (M : Mem) (x1 : Int32) (x2 : Int32) (x3 : Int32) (x4 : Int32) (x5 : Int32) : Option (Int32 × Mem) :=
    rec27 M x1 x2 x3 x4 (x5 + (1 : Int32))
def F9_stand_j68 (rec27 : Mem → Int32 → Int32 → Int32 → Int32 → Int32 → Option (Int32 × Mem)) (M : Mem) (x1 : Int32) (x2 : Int32) (x5 : Int32) (x6 : Int32) : Option (Int32 × Mem) :=
    F9_stand_j75 rec27 M x1 x2 x5 x6 x5
def F9_stand_l27_b (rec27 : Mem → Int32 → Int32 → Int32 → Int32 → Int32 → Option (Int32 × Mem)) (M : Mem) (x1 : Int32) (x2 : Int32) (x3 : Int32) (x4 : Int32) (x5 : Int32) : Option (Int32 × Mem) :=
    if (M 0 10) < x5 then
      if ¬ x1 = 0 then
        some (x4, (up2 M 0 11 x2))
      else
        some (x3, (up2 M 0 11 x2))
    else
      Option.bind (F9_gathers (up2 M 0 11 x5)) fun r6 =>
      Option.bind (F9_allThings r6.2) fun r8 =>
      Option.bind (F9_seeks r8.2 r8.1) fun r10 =>
      if x3 = (-1 : Int32) then
        F9_stand_j68 rec27 r10.2 x1 x2 x5 r10.1
      else
        if r10.1 ≤ x4 then
          F9_stand_j75 rec27 r10.2 x1 x2 x3 x4 x5
        else
          F9_stand_j68 rec27 r10.2 x1 x2 x5 r10.1
def F9_stand_l27 : Nat → Mem → Int32 → Int32 → Int32 → Int32 → Int32 → Option (Int32 × Mem)
  | 0, _, _, _, _, _, _ => none
  | fu + 1, M, x1, x2, x3, x4, x5 => F9_stand_l27_b (F9_stand_l27 fu) M x1 x2 x3 x4 x5
def F9_stand (M : Mem) (a1 : Int32) : Option (Int32 × Mem) :=
    Option.bind (F9_in M (Int32.toInt64 a1) (0 : Int64) (1 : Int64)) fun r1 =>
    if ¬ r1.1 = 0 then
      F9_stand_l27 FUEL r1.2 a1 (r1.2 0 11) (-1 : Int32) (0 : Int32) (0 : Int32)
    else
      some ((-100000 : Int32), r1.2)
set_option maxRecDepth 20000 in
theorem F9_stand_j75_ok {p : Program} {l : Launch} {e : Env} {s : State} {m : MethodId} {args : Array Value} {below : List Frame} {meth : Method} {c : Code} {G : GG} {D : Nat} {r : Int32 × Mem} {rec27 : Mem → Int32 → Int32 → Int32 → Int32 → Int32 → Option (Int32 × Mem)} (F : FrP shB G p s m args c RX9 cX9_stand 7) (hr : meth.sig.returnType = (some .int)) (hlk : meth.locks = false) (hD : 91 ≤ D) (hrec27 : ∀ (M : Mem) (x1 : Int32) (x2 : Int32) (x3 : Int32) (x4 : Int32) (x5 : Int32), rec27 M x1 x2 x3 x4 x5 = some r → XJ shB p l e (rmX D) s m args below meth c 0 0 G 7 (MQ below (QcX shB G ((some (.int r.1), r.2) : Option Value × Mem).1 ((some (.int r.1), r.2) : Option Value × Mem).2) args s 0 0 (AW shB G.2.1)) 27 [(0, .ref 0), (1, .int x1), (2, .int x2), (3, .int x3), (4, .int x4), (5, .int x5)] [] M) {M : Mem} {x1 : Int32} {x2 : Int32} {x3 : Int32} {x4 : Int32} {x5 : Int32} (h : F9_stand_j75 rec27 M x1 x2 x3 x4 x5 = some r) : XJ shB p l e (rmX D) s m args below meth c 0 0 G 7 (MQ below (QcX shB G ((some (.int r.1), r.2) : Option Value × Mem).1 ((some (.int r.1), r.2) : Option Value × Mem).2) args s 0 0 (AW shB G.2.1)) 75 [(0, .ref 0), (1, .int x1), (2, .int x2), (3, .int x3), (4, .int x4), (5, .int x5)] [] M := by
  unfold F9_stand_j75 at h
  refine X_iinc F dX9_stand_75 rfl (v := (1 : Int32)) rfl (by decide) rfl ?_
  refine X_goto (tgt := 27) F dX9_stand_78 (by decide) ?_
  refine X_pick [1, 2, 3, 4, 5, 0] rfl ?_
  exact hrec27 _ _ _ _ _ _ h
set_option maxRecDepth 20000 in
theorem F9_stand_j68_ok {p : Program} {l : Launch} {e : Env} {s : State} {m : MethodId} {args : Array Value} {below : List Frame} {meth : Method} {c : Code} {G : GG} {D : Nat} {r : Int32 × Mem} {rec27 : Mem → Int32 → Int32 → Int32 → Int32 → Int32 → Option (Int32 × Mem)} (F : FrP shB G p s m args c RX9 cX9_stand 7) (hr : meth.sig.returnType = (some .int)) (hlk : meth.locks = false) (hD : 91 ≤ D) (hrec27 : ∀ (M : Mem) (x1 : Int32) (x2 : Int32) (x3 : Int32) (x4 : Int32) (x5 : Int32), rec27 M x1 x2 x3 x4 x5 = some r → XJ shB p l e (rmX D) s m args below meth c 0 0 G 7 (MQ below (QcX shB G ((some (.int r.1), r.2) : Option Value × Mem).1 ((some (.int r.1), r.2) : Option Value × Mem).2) args s 0 0 (AW shB G.2.1)) 27 [(0, .ref 0), (1, .int x1), (2, .int x2), (3, .int x3), (4, .int x4), (5, .int x5)] [] M) {M : Mem} {x1 : Int32} {x2 : Int32} {x5 : Int32} {x6 : Int32} (h : F9_stand_j68 rec27 M x1 x2 x5 x6 = some r) : XJ shB p l e (rmX D) s m args below meth c 0 0 G 7 (MQ below (QcX shB G ((some (.int r.1), r.2) : Option Value × Mem).1 ((some (.int r.1), r.2) : Option Value × Mem).2) args s 0 0 (AW shB G.2.1)) 68 [(0, .ref 0), (1, .int x1), (2, .int x2), (5, .int x5), (6, .int x6)] [] M := by
  unfold F9_stand_j68 at h
  refine X_iload F dX9_stand_68 rfl ?_
  refine X_istore_n F dX9_stand_70 (by decide) rfl ?_
  refine X_iload F dX9_stand_71 rfl ?_
  refine X_istore F dX9_stand_73 (by decide) rfl ?_
  refine X_pick [2, 3, 4, 1, 0, 5] rfl ?_
  exact F9_stand_j75_ok F hr hlk hD hrec27 h
set_option maxRecDepth 20000 in
theorem F9_stand_l27_bok {p : Program} {l : Launch} {e : Env} {s : State} {m : MethodId} {args : Array Value} {below : List Frame} {meth : Method} {c : Code} {G : GG} {D : Nat} {r : Int32 × Mem} {rec27 : Mem → Int32 → Int32 → Int32 → Int32 → Int32 → Option (Int32 × Mem)} (F : FrP shB G p s m args c RX9 cX9_stand 7) (hr : meth.sig.returnType = (some .int)) (hlk : meth.locks = false) (hD : 91 ≤ D) (hrec27 : ∀ (M : Mem) (x1 : Int32) (x2 : Int32) (x3 : Int32) (x4 : Int32) (x5 : Int32), rec27 M x1 x2 x3 x4 x5 = some r → XJ shB p l e (rmX D) s m args below meth c 0 0 G 7 (MQ below (QcX shB G ((some (.int r.1), r.2) : Option Value × Mem).1 ((some (.int r.1), r.2) : Option Value × Mem).2) args s 0 0 (AW shB G.2.1)) 27 [(0, .ref 0), (1, .int x1), (2, .int x2), (3, .int x3), (4, .int x4), (5, .int x5)] [] M) {M : Mem} {x1 : Int32} {x2 : Int32} {x3 : Int32} {x4 : Int32} {x5 : Int32} (h : F9_stand_l27_b rec27 M x1 x2 x3 x4 x5 = some r) : XJ shB p l e (rmX D) s m args below meth c 0 0 G 7 (MQ below (QcX shB G ((some (.int r.1), r.2) : Option Value × Mem).1 ((some (.int r.1), r.2) : Option Value × Mem).2) args s 0 0 (AW shB G.2.1)) 27 [(0, .ref 0), (1, .int x1), (2, .int x2), (3, .int x3), (4, .int x4), (5, .int x5)] [] M := by
  unfold F9_stand_l27_b at h
  refine X_iload F dX9_stand_27 rfl ?_
  refine X_aload_n F dX9_stand_29 rfl ?_
  refine X_geti (v := (M 0 10)) F ffRX9_85 dX9_stand_30 rfl ?_
  refine X_icmp_gt (tgt := 81) F dX9_stand_33 (by decide) (fun q4 => ?_) (fun q4 => ?_)
  · rw [if_pos q4] at h
    refine X_aload_n F dX9_stand_81 rfl ?_
    refine X_iload_n F dX9_stand_82 rfl ?_
    refine X_puti F ffRX9_118 fw9_11 (by decide) dX9_stand_83 ?_
    refine X_iload_n F dX9_stand_86 rfl ?_
    refine X_if_ne (tgt := 94) F dX9_stand_87 (by decide) (fun q5 => ?_) (fun q5 => ?_)
    · rw [if_pos q5] at h
      refine X_iload F dX9_stand_94 rfl ?_
      exact X_iret F hr hlk (retI h) dX9_stand_96
    · rw [if_neg (fun z => z q5)] at h
      refine X_iload_n F dX9_stand_90 rfl ?_
      refine X_goto (tgt := 96) F dX9_stand_91 (by decide) ?_
      exact X_iret F hr hlk (retI h) dX9_stand_96
  · rw [if_neg q4] at h
    refine X_aload_n F dX9_stand_36 rfl ?_
    refine X_iload F dX9_stand_37 rfl ?_
    refine X_puti F ffRX9_118 fw9_11 (by decide) dX9_stand_39 ?_
    refine X_aload_n F dX9_stand_42 rfl ?_
    obtain ⟨r6, h7, h⟩ := bndS h
    refine X_callV (ci := 0) (As := []) (rest := []) F fkRX9_272 feX9_gathers fvX9_gathers ⟨_, _, _, rfl, rfl, rfl⟩ (F9_gathers_met (D := D - 1) F.2.2.2.2.2.2.2.1 (by omega) h7) rfl rfl (Nat.le_of_ble_eq_true rfl) (rm_ok (by omega) (by decide)) dX9_stand_43 ?_
    show XJ shB p l e (rmX D) s m args below meth c 0 0 G 7 (MQ below (QcX shB G ((some (.int r.1), r.2) : Option Value × Mem).1 ((some (.int r.1), r.2) : Option Value × Mem).2) args s 0 0 (AW shB G.2.1)) 46 [(0, .ref 0), (1, .int x1), (2, .int x2), (3, .int x3), (4, .int x4), (5, .int x5)] [] r6.2
    refine X_aload_n F dX9_stand_46 rfl ?_
    refine X_aload_n F dX9_stand_47 rfl ?_
    obtain ⟨r8, h9, h⟩ := bndS h
    refine X_callV (ci := 0) (As := []) (rest := [.ref 0]) F fkRX9_313 feX9_allThings fvX9_allThings ⟨_, _, _, rfl, rfl, rfl⟩ (F9_allThings_met (D := D - 1) F.2.2.2.2.2.2.2.1 (by omega) h9) rfl rfl (Nat.le_of_ble_eq_true rfl) (rm_ok (by omega) (by decide)) dX9_stand_48 ?_
    show XJ shB p l e (rmX D) s m args below meth c 0 0 G 7 (MQ below (QcX shB G ((some (.int r.1), r.2) : Option Value × Mem).1 ((some (.int r.1), r.2) : Option Value × Mem).2) args s 0 0 (AW shB G.2.1)) 51 [(0, .ref 0), (1, .int x1), (2, .int x2), (3, .int x3), (4, .int x4), (5, .int x5)] [.int r8.1, .ref 0] r8.2
    obtain ⟨r10, h11, h⟩ := bndS h
    refine X_callV (ci := 0) (As := [.int r8.1]) (rest := []) F fkRX9_316 feX9_seeks fvX9_seeks ⟨_, _, _, rfl, rfl, rfl⟩ (F9_seeks_met (D := D - 1) F.2.2.2.2.2.2.2.1 (by omega) h11) rfl rfl (Nat.le_of_ble_eq_true rfl) (rm_ok (by omega) (by decide)) dX9_stand_51 ?_
    show XJ shB p l e (rmX D) s m args below meth c 0 0 G 7 (MQ below (QcX shB G ((some (.int r.1), r.2) : Option Value × Mem).1 ((some (.int r.1), r.2) : Option Value × Mem).2) args s 0 0 (AW shB G.2.1)) 54 [(0, .ref 0), (1, .int x1), (2, .int x2), (3, .int x3), (4, .int x4), (5, .int x5)] [.int r10.1] r10.2
    refine X_istore F dX9_stand_54 (by decide) rfl ?_
    refine X_iload_n F dX9_stand_56 rfl ?_
    refine X_iconst F dX9_stand_57 (v := (-1 : Int32)) rfl ?_
    refine X_icmp_eq (tgt := 68) F dX9_stand_58 (by decide) (fun q12 => ?_) (fun q12 => ?_)
    · rw [if_pos q12] at h
      refine X_pick [1, 2, 3, 6, 0] rfl ?_
      exact F9_stand_j68_ok F hr hlk hD hrec27 h
    · rw [if_neg q12] at h
      refine X_iload F dX9_stand_61 rfl ?_
      refine X_iload F dX9_stand_63 rfl ?_
      refine X_icmp_le (tgt := 75) F dX9_stand_65 (by decide) (fun q13 => ?_) (fun q13 => ?_)
      · rw [if_pos q13] at h
        refine X_pick [1, 2, 3, 4, 5, 6] rfl ?_
        exact F9_stand_j75_ok F hr hlk hD hrec27 h
      · rw [if_neg q13] at h
        refine X_pick [1, 2, 3, 6, 0] rfl ?_
        exact F9_stand_j68_ok F hr hlk hD hrec27 h
set_option maxRecDepth 20000 in
theorem F9_stand_l27_ok {p : Program} {l : Launch} {e : Env} {s : State} {m : MethodId} {args : Array Value} {below : List Frame} {meth : Method} {c : Code} {G : GG} {D : Nat} {r : Int32 × Mem} (F : FrP shB G p s m args c RX9 cX9_stand 7) (hr : meth.sig.returnType = (some .int)) (hlk : meth.locks = false) (hD : 91 ≤ D) : ∀ (fu : Nat) (M : Mem) (x1 : Int32) (x2 : Int32) (x3 : Int32) (x4 : Int32) (x5 : Int32), F9_stand_l27 fu M x1 x2 x3 x4 x5 = some r → XJ shB p l e (rmX D) s m args below meth c 0 0 G 7 (MQ below (QcX shB G ((some (.int r.1), r.2) : Option Value × Mem).1 ((some (.int r.1), r.2) : Option Value × Mem).2) args s 0 0 (AW shB G.2.1)) 27 [(0, .ref 0), (1, .int x1), (2, .int x2), (3, .int x3), (4, .int x4), (5, .int x5)] [] M := by
  intro fu
  induction fu with
  | zero => intro M x1 x2 x3 x4 x5 h; cases h
  | succ fu ih => intro M x1 x2 x3 x4 x5 h; exact F9_stand_l27_bok F hr hlk hD (fun M x1 x2 x3 x4 x5 => ih M x1 x2 x3 x4 x5) h
set_option maxRecDepth 20000 in
theorem F9_stand_ok {p : Program} {l : Launch} {e : Env} {s : State} {m : MethodId} {args : Array Value} {below : List Frame} {meth : Method} {c : Code} {G : GG} {D : Nat} {r : Int32 × Mem} (F : FrP shB G p s m args c RX9 cX9_stand 7) (hr : meth.sig.returnType = (some .int)) (hlk : meth.locks = false) (hD : 91 ≤ D) {M : Mem} {a1 : Int32} (h : F9_stand M a1 = some r) : XJ shB p l e (rmX D) s m args below meth c 0 0 G 7 (MQ below (QcX shB G ((some (.int r.1), r.2) : Option Value × Mem).1 ((some (.int r.1), r.2) : Option Value × Mem).2) args s 0 0 (AW shB G.2.1)) 0 [(0, .ref 0), (1, .int a1)] [] M := by
  unfold F9_stand at h
  refine X_iload_n F dX9_stand_0 rfl ?_
  refine X_i2l F dX9_stand_1 ?_
  refine X_lconst F dX9_stand_2 (v := (0 : Int64)) rfl ?_
  refine X_lconst F dX9_stand_3 (v := (1 : Int64)) rfl ?_
  obtain ⟨r1, h2, h⟩ := bndS h
  refine X_callS (As := [.long (Int32.toInt64 a1), .long (0 : Int64), .long (1 : Int64)]) (rest := []) F fsRX9_88 feX9_in ftX9_in (F9_in_met (D := D - 1) F.2.2.2.2.2.2.2.1 (by omega) h2) rfl rfl (Nat.le_of_ble_eq_true rfl) (rm_ok (by omega) (by decide)) dX9_stand_4 ?_
  show XJ shB p l e (rmX D) s m args below meth c 0 0 G 7 (MQ below (QcX shB G ((some (.int r.1), r.2) : Option Value × Mem).1 ((some (.int r.1), r.2) : Option Value × Mem).2) args s 0 0 (AW shB G.2.1)) 7 [(0, .ref 0), (1, .int a1)] [.int r1.1] r1.2
  refine X_if_ne (tgt := 14) F dX9_stand_7 (by decide) (fun q3 => ?_) (fun q3 => ?_)
  · rw [if_pos q3] at h
    refine X_aload_n F dX9_stand_14 rfl ?_
    refine X_geti (v := (r1.2 0 11)) F ffRX9_118 dX9_stand_15 rfl ?_
    refine X_istore_n F dX9_stand_18 (by decide) rfl ?_
    refine X_iconst F dX9_stand_19 (v := (-1 : Int32)) rfl ?_
    refine X_istore_n F dX9_stand_20 (by decide) rfl ?_
    refine X_iconst F dX9_stand_21 (v := (0 : Int32)) rfl ?_
    refine X_istore F dX9_stand_22 (by decide) rfl ?_
    refine X_iconst F dX9_stand_24 (v := (0 : Int32)) rfl ?_
    refine X_istore F dX9_stand_25 (by decide) rfl ?_
    refine X_pick [4, 5, 3, 2, 1, 0] rfl ?_
    exact F9_stand_l27_ok F hr hlk hD FUEL _ _ _ _ _ _ h
  · rw [if_neg (fun z => z q3)] at h
    refine X_ldcw F fcRX9_287 dX9_stand_10 ?_
    exact X_iret F hr hlk (retI h) dX9_stand_13
set_option maxRecDepth 20000 in
theorem F9_stand_met {l : Launch} {G : GG} {D : Nat} {r : Int32 × Mem} {M : Mem} {a1 : Int32} (hI : Inj shB G.2.1) (hD : 91 ≤ D) (h : F9_stand M a1 = some r) : MetX shB l G yX9_stand cX9_stand 7 (some .int) D [.ref 0, .int a1] M (some (.int r.1), r.2) :=
  X_met hI (by decide +kernel) (Nat.le_of_ble_eq_true rfl) (fun p e s m args below meth c F hr hlk => F9_stand_ok F hr hlk hD h)
-- KeepOurPlaceModel.swaps
def F9_swaps (M : Mem) (a1 : Int32) (a2 : Int32) : Option (Int32 × Mem) :=
    if inb a1 8 = true then
    if inb a2 8 = true then
    some ((0 : Int32), (up2 (up2 (up2 (up2 (up2 (up2 M 4 (Int32.toNatClampNeg a1) (M 4 (Int32.toNatClampNeg a2))) 4 (Int32.toNatClampNeg a2) (M 4 (Int32.toNatClampNeg a1))) 5 (Int32.toNatClampNeg a1) (M 5 (Int32.toNatClampNeg a2))) 5 (Int32.toNatClampNeg a2) (M 5 (Int32.toNatClampNeg a1))) 6 (Int32.toNatClampNeg a1) (M 6 (Int32.toNatClampNeg a2))) 6 (Int32.toNatClampNeg a2) (M 6 (Int32.toNatClampNeg a1))))
    else none
    else none
set_option maxRecDepth 20000 in
theorem F9_swaps_ok {p : Program} {l : Launch} {e : Env} {s : State} {m : MethodId} {args : Array Value} {below : List Frame} {meth : Method} {c : Code} {G : GG} {D : Nat} {r : Int32 × Mem} (F : FrP shB G p s m args c RX9 cX9_swaps 6) (hr : meth.sig.returnType = none) (hlk : meth.locks = false) (hD : 1 ≤ D) {M : Mem} {a1 : Int32} {a2 : Int32} (h : F9_swaps M a1 a2 = some r) : XJ shB p l e (rmX D) s m args below meth c 0 0 G 6 (MQ below (QcX shB G ((none, r.2) : Option Value × Mem).1 ((none, r.2) : Option Value × Mem).2) args s 0 0 (AW shB G.2.1)) 0 [(0, .ref 0), (1, .int a1), (2, .int a2)] [] M := by
  unfold F9_swaps at h
  refine X_aload_n F dX9_swaps_0 rfl ?_
  refine X_getr F ffRX9_23 dX9_swaps_1 ?_
  refine X_iload_n F dX9_swaps_4 rfl ?_
  obtain ⟨q1, h⟩ := ifS h
  refine X_iald (j := (Int32.toNatClampNeg a1)) (v := (M 4 (Int32.toNatClampNeg a1))) F rfl (inbV q1) rfl rfl dX9_swaps_5 ?_
  refine X_istore_n F dX9_swaps_6 (by decide) rfl ?_
  refine X_aload_n F dX9_swaps_7 rfl ?_
  refine X_getr F ffRX9_23 dX9_swaps_8 ?_
  refine X_iload_n F dX9_swaps_11 rfl ?_
  refine X_aload_n F dX9_swaps_12 rfl ?_
  refine X_getr F ffRX9_23 dX9_swaps_13 ?_
  refine X_iload_n F dX9_swaps_16 rfl ?_
  obtain ⟨q2, h⟩ := ifS h
  refine X_iald (j := (Int32.toNatClampNeg a2)) (v := (M 4 (Int32.toNatClampNeg a2))) F rfl (inbV q2) rfl rfl dX9_swaps_17 ?_
  refine X_iast (j := (Int32.toNatClampNeg a1)) F rfl (inbV q1) rfl dX9_swaps_18 ?_
  refine X_aload_n F dX9_swaps_19 rfl ?_
  refine X_getr F ffRX9_23 dX9_swaps_20 ?_
  refine X_iload_n F dX9_swaps_23 rfl ?_
  refine X_iload_n F dX9_swaps_24 rfl ?_
  refine X_iast (j := (Int32.toNatClampNeg a2)) F rfl (inbV q2) rfl dX9_swaps_25 ?_
  refine X_aload_n F dX9_swaps_26 rfl ?_
  refine X_getr F ffRX9_26 dX9_swaps_27 ?_
  refine X_iload_n F dX9_swaps_30 rfl ?_
  refine X_iald (j := (Int32.toNatClampNeg a1)) (v := (M 5 (Int32.toNatClampNeg a1))) F rfl (inbV q1) rfl rfl dX9_swaps_31 ?_
  refine X_istore F dX9_swaps_32 (by decide) rfl ?_
  refine X_aload_n F dX9_swaps_34 rfl ?_
  refine X_getr F ffRX9_26 dX9_swaps_35 ?_
  refine X_iload_n F dX9_swaps_38 rfl ?_
  refine X_aload_n F dX9_swaps_39 rfl ?_
  refine X_getr F ffRX9_26 dX9_swaps_40 ?_
  refine X_iload_n F dX9_swaps_43 rfl ?_
  refine X_iald (j := (Int32.toNatClampNeg a2)) (v := (M 5 (Int32.toNatClampNeg a2))) F rfl (inbV q2) rfl rfl dX9_swaps_44 ?_
  refine X_iast (j := (Int32.toNatClampNeg a1)) F rfl (inbV q1) rfl dX9_swaps_45 ?_
  refine X_aload_n F dX9_swaps_46 rfl ?_
  refine X_getr F ffRX9_26 dX9_swaps_47 ?_
  refine X_iload_n F dX9_swaps_50 rfl ?_
  refine X_iload F dX9_swaps_51 rfl ?_
  refine X_iast (j := (Int32.toNatClampNeg a2)) F rfl (inbV q2) rfl dX9_swaps_53 ?_
  refine X_aload_n F dX9_swaps_54 rfl ?_
  refine X_getr F ffRX9_29 dX9_swaps_55 ?_
  refine X_iload_n F dX9_swaps_58 rfl ?_
  refine X_iald (j := (Int32.toNatClampNeg a1)) (v := (M 6 (Int32.toNatClampNeg a1))) F rfl (inbV q1) rfl rfl dX9_swaps_59 ?_
  refine X_istore F dX9_swaps_60 (by decide) rfl ?_
  refine X_aload_n F dX9_swaps_62 rfl ?_
  refine X_getr F ffRX9_29 dX9_swaps_63 ?_
  refine X_iload_n F dX9_swaps_66 rfl ?_
  refine X_aload_n F dX9_swaps_67 rfl ?_
  refine X_getr F ffRX9_29 dX9_swaps_68 ?_
  refine X_iload_n F dX9_swaps_71 rfl ?_
  refine X_iald (j := (Int32.toNatClampNeg a2)) (v := (M 6 (Int32.toNatClampNeg a2))) F rfl (inbV q2) rfl rfl dX9_swaps_72 ?_
  refine X_iast (j := (Int32.toNatClampNeg a1)) F rfl (inbV q1) rfl dX9_swaps_73 ?_
  refine X_aload_n F dX9_swaps_74 rfl ?_
  refine X_getr F ffRX9_29 dX9_swaps_75 ?_
  refine X_iload_n F dX9_swaps_78 rfl ?_
  refine X_iload F dX9_swaps_79 rfl ?_
  refine X_iast (j := (Int32.toNatClampNeg a2)) F rfl (inbV q2) rfl dX9_swaps_81 ?_
  exact X_vret F hr hlk (retV h) dX9_swaps_82
set_option maxRecDepth 20000 in
theorem F9_swaps_met {l : Launch} {G : GG} {D : Nat} {r : Int32 × Mem} {M : Mem} {a1 : Int32} {a2 : Int32} (hI : Inj shB G.2.1) (hD : 1 ≤ D) (h : F9_swaps M a1 a2 = some r) : MetX shB l G yX9_swaps cX9_swaps 6 none D [.ref 0, .int a1, .int a2] M (none, r.2) :=
  X_met hI (by decide +kernel) (Nat.le_of_ble_eq_true rfl) (fun p e s m args below meth c F hr hlk => F9_swaps_ok F hr hlk hD h)
-- KeepOurPlaceModel.change
def F9_change_j87 (rec23 : Mem → Int32 → Int32 → Int32 → Int32 → Option (Int32 × Mem)) (rec38 : Mem → Int32 → Int32 → Int32 → Int32 → Int32 → Option (Int32 × Mem)) (M : Mem) (x1 : Int32) (x2 : Int32) (x3 : Int32) (x4 : Int32) (x5 : Int32) : Option (Int32 × Mem) :=
    rec38 M x1 x2 x3 x4 (x5 + (1 : Int32))
def F9_change_l38_b (rec23 : Mem → Int32 → Int32 → Int32 → Int32 → Option (Int32 × Mem)) (rec38 : Mem → Int32 → Int32 → Int32 → Int32 → Int32 → Option (Int32 × Mem)) (M : Mem) (x1 : Int32) (x2 : Int32) (x3 : Int32) (x4 : Int32) (x5 : Int32) : Option (Int32 × Mem) :=
    if (M 0 10) ≤ x5 then
      rec23 M x1 x2 x3 (x4 + (1 : Int32))
    else
      Option.bind (F9_swaps M x4 x5) fun r9 =>
      Option.bind (F9_turn r9.2) fun r11 =>
      Option.bind (F9_swaps r11.2 x4 x5) fun r13 =>
      if x2 ≤ r11.1 then
        F9_change_j87 rec23 rec38 r13.2 x1 x2 x3 x4 x5
      else
        F9_change_j87 rec23 rec38 r13.2 x1 r11.1 (((10 : Int32) * x4) + x5) x4 x5
def F9_change_l38 (rec23 : Mem → Int32 → Int32 → Int32 → Int32 → Option (Int32 × Mem)) : Nat → Mem → Int32 → Int32 → Int32 → Int32 → Int32 → Option (Int32 × Mem)
  | 0, _, _, _, _, _, _ => none
  | fu + 1, M, x1, x2, x3, x4, x5 => F9_change_l38_b rec23 (F9_change_l38 rec23 fu) M x1 x2 x3 x4 x5
def F9_change_l23_b (rec23 : Mem → Int32 → Int32 → Int32 → Int32 → Option (Int32 × Mem)) (M : Mem) (x1 : Int32) (x2 : Int32) (x3 : Int32) (x4 : Int32) : Option (Int32 × Mem) :=
    if (M 0 11) ≤ x4 then
      if ¬ x1 = 0 then
        some (x2, M)
      else
        some (x3, M)
    else
      F9_change_l38 rec23 FUEL M x1 x2 x3 x4 (M 0 11)
def F9_change_l23 : Nat → Mem → Int32 → Int32 → Int32 → Int32 → Option (Int32 × Mem)
  | 0, _, _, _, _, _ => none
  | fu + 1, M, x1, x2, x3, x4 => F9_change_l23_b (F9_change_l23 fu) M x1 x2 x3 x4
def F9_change (M : Mem) (a1 : Int32) : Option (Int32 × Mem) :=
    Option.bind (F9_in M (Int32.toInt64 a1) (0 : Int64) (1 : Int64)) fun r1 =>
    if ¬ r1.1 = 0 then
      Option.bind (F9_turn r1.2) fun r4 =>
      F9_change_l23 FUEL r4.2 a1 r4.1 (-1 : Int32) (0 : Int32)
    else
      some ((-2 : Int32), r1.2)
set_option maxRecDepth 20000 in
theorem F9_change_j87_ok {p : Program} {l : Launch} {e : Env} {s : State} {m : MethodId} {args : Array Value} {below : List Frame} {meth : Method} {c : Code} {G : GG} {D : Nat} {r : Int32 × Mem} {rec23 : Mem → Int32 → Int32 → Int32 → Int32 → Option (Int32 × Mem)} {rec38 : Mem → Int32 → Int32 → Int32 → Int32 → Int32 → Option (Int32 × Mem)} (F : FrP shB G p s m args c RX9 cX9_change 7) (hr : meth.sig.returnType = (some .int)) (hlk : meth.locks = false) (hD : 92 ≤ D) (hrec23 : ∀ (M : Mem) (x1 : Int32) (x2 : Int32) (x3 : Int32) (x4 : Int32), rec23 M x1 x2 x3 x4 = some r → XJ shB p l e (rmX D) s m args below meth c 0 0 G 7 (MQ below (QcX shB G ((some (.int r.1), r.2) : Option Value × Mem).1 ((some (.int r.1), r.2) : Option Value × Mem).2) args s 0 0 (AW shB G.2.1)) 23 [(0, .ref 0), (1, .int x1), (2, .int x2), (3, .int x3), (4, .int x4)] [] M) (hrec38 : ∀ (M : Mem) (x1 : Int32) (x2 : Int32) (x3 : Int32) (x4 : Int32) (x5 : Int32), rec38 M x1 x2 x3 x4 x5 = some r → XJ shB p l e (rmX D) s m args below meth c 0 0 G 7 (MQ below (QcX shB G ((some (.int r.1), r.2) : Option Value × Mem).1 ((some (.int r.1), r.2) : Option Value × Mem).2) args s 0 0 (AW shB G.2.1)) 38 [(0, .ref 0), (1, .int x1), (2, .int x2), (3, .int x3), (4, .int x4), (5, .int x5)] [] M) {M : Mem} {x1 : Int32} {x2 : Int32} {x3 : Int32} {x4 : Int32} {x5 : Int32} (h : F9_change_j87 rec23 rec38 M x1 x2 x3 x4 x5 = some r) : XJ shB p l e (rmX D) s m args below meth c 0 0 G 7 (MQ below (QcX shB G ((some (.int r.1), r.2) : Option Value × Mem).1 ((some (.int r.1), r.2) : Option Value × Mem).2) args s 0 0 (AW shB G.2.1)) 87 [(0, .ref 0), (1, .int x1), (2, .int x2), (3, .int x3), (4, .int x4), (5, .int x5)] [] M := by
  unfold F9_change_j87 at h
  refine X_iinc F dX9_change_87 rfl (v := (1 : Int32)) rfl (by decide) rfl ?_
  refine X_goto (tgt := 38) F dX9_change_90 (by decide) ?_
  refine X_pick [1, 2, 3, 4, 5, 0] rfl ?_
  exact hrec38 _ _ _ _ _ _ h
set_option maxRecDepth 20000 in
theorem F9_change_l38_bok {p : Program} {l : Launch} {e : Env} {s : State} {m : MethodId} {args : Array Value} {below : List Frame} {meth : Method} {c : Code} {G : GG} {D : Nat} {r : Int32 × Mem} {rec23 : Mem → Int32 → Int32 → Int32 → Int32 → Option (Int32 × Mem)} {rec38 : Mem → Int32 → Int32 → Int32 → Int32 → Int32 → Option (Int32 × Mem)} (F : FrP shB G p s m args c RX9 cX9_change 7) (hr : meth.sig.returnType = (some .int)) (hlk : meth.locks = false) (hD : 92 ≤ D) (hrec23 : ∀ (M : Mem) (x1 : Int32) (x2 : Int32) (x3 : Int32) (x4 : Int32), rec23 M x1 x2 x3 x4 = some r → XJ shB p l e (rmX D) s m args below meth c 0 0 G 7 (MQ below (QcX shB G ((some (.int r.1), r.2) : Option Value × Mem).1 ((some (.int r.1), r.2) : Option Value × Mem).2) args s 0 0 (AW shB G.2.1)) 23 [(0, .ref 0), (1, .int x1), (2, .int x2), (3, .int x3), (4, .int x4)] [] M) (hrec38 : ∀ (M : Mem) (x1 : Int32) (x2 : Int32) (x3 : Int32) (x4 : Int32) (x5 : Int32), rec38 M x1 x2 x3 x4 x5 = some r → XJ shB p l e (rmX D) s m args below meth c 0 0 G 7 (MQ below (QcX shB G ((some (.int r.1), r.2) : Option Value × Mem).1 ((some (.int r.1), r.2) : Option Value × Mem).2) args s 0 0 (AW shB G.2.1)) 38 [(0, .ref 0), (1, .int x1), (2, .int x2), (3, .int x3), (4, .int x4), (5, .int x5)] [] M) {M : Mem} {x1 : Int32} {x2 : Int32} {x3 : Int32} {x4 : Int32} {x5 : Int32} (h : F9_change_l38_b rec23 rec38 M x1 x2 x3 x4 x5 = some r) : XJ shB p l e (rmX D) s m args below meth c 0 0 G 7 (MQ below (QcX shB G ((some (.int r.1), r.2) : Option Value × Mem).1 ((some (.int r.1), r.2) : Option Value × Mem).2) args s 0 0 (AW shB G.2.1)) 38 [(0, .ref 0), (1, .int x1), (2, .int x2), (3, .int x3), (4, .int x4), (5, .int x5)] [] M := by
  unfold F9_change_l38_b at h
  refine X_iload F dX9_change_38 rfl ?_
  refine X_aload_n F dX9_change_40 rfl ?_
  refine X_geti (v := (M 0 10)) F ffRX9_85 dX9_change_41 rfl ?_
  refine X_icmp_ge (tgt := 93) F dX9_change_44 (by decide) (fun q8 => ?_) (fun q8 => ?_)
  · rw [if_pos q8] at h
    refine X_iinc F dX9_change_93 rfl (v := (1 : Int32)) rfl (by decide) rfl ?_
    refine X_goto (tgt := 23) F dX9_change_96 (by decide) ?_
    refine X_pick [1, 2, 3, 4, 0] rfl ?_
    exact hrec23 _ _ _ _ _ h
  · rw [if_neg q8] at h
    refine X_aload_n F dX9_change_47 rfl ?_
    refine X_iload F dX9_change_48 rfl ?_
    refine X_iload F dX9_change_50 rfl ?_
    obtain ⟨r9, h10, h⟩ := bndS h
    refine X_callV (ci := 0) (As := [.int x4, .int x5]) (rest := []) F fkRX9_324 feX9_swaps fvX9_swaps ⟨_, _, _, rfl, rfl, rfl⟩ (F9_swaps_met (D := D - 1) F.2.2.2.2.2.2.2.1 (by omega) h10) rfl rfl (Nat.le_of_ble_eq_true rfl) (rm_ok (by omega) (by decide)) dX9_change_52 ?_
    show XJ shB p l e (rmX D) s m args below meth c 0 0 G 7 (MQ below (QcX shB G ((some (.int r.1), r.2) : Option Value × Mem).1 ((some (.int r.1), r.2) : Option Value × Mem).2) args s 0 0 (AW shB G.2.1)) 55 [(0, .ref 0), (1, .int x1), (2, .int x2), (3, .int x3), (4, .int x4), (5, .int x5)] [] r9.2
    refine X_aload_n F dX9_change_55 rfl ?_
    obtain ⟨r11, h12, h⟩ := bndS h
    refine X_callV (ci := 0) (As := []) (rest := []) F fkRX9_321 feX9_turn fvX9_turn ⟨_, _, _, rfl, rfl, rfl⟩ (F9_turn_met (D := D - 1) F.2.2.2.2.2.2.2.1 (by omega) h12) rfl rfl (Nat.le_of_ble_eq_true rfl) (rm_ok (by omega) (by decide)) dX9_change_56 ?_
    show XJ shB p l e (rmX D) s m args below meth c 0 0 G 7 (MQ below (QcX shB G ((some (.int r.1), r.2) : Option Value × Mem).1 ((some (.int r.1), r.2) : Option Value × Mem).2) args s 0 0 (AW shB G.2.1)) 59 [(0, .ref 0), (1, .int x1), (2, .int x2), (3, .int x3), (4, .int x4), (5, .int x5)] [.int r11.1] r11.2
    refine X_istore F dX9_change_59 (by decide) rfl ?_
    refine X_aload_n F dX9_change_61 rfl ?_
    refine X_iload F dX9_change_62 rfl ?_
    refine X_iload F dX9_change_64 rfl ?_
    obtain ⟨r13, h14, h⟩ := bndS h
    refine X_callV (ci := 0) (As := [.int x4, .int x5]) (rest := []) F fkRX9_324 feX9_swaps fvX9_swaps ⟨_, _, _, rfl, rfl, rfl⟩ (F9_swaps_met (D := D - 1) F.2.2.2.2.2.2.2.1 (by omega) h14) rfl rfl (Nat.le_of_ble_eq_true rfl) (rm_ok (by omega) (by decide)) dX9_change_66 ?_
    show XJ shB p l e (rmX D) s m args below meth c 0 0 G 7 (MQ below (QcX shB G ((some (.int r.1), r.2) : Option Value × Mem).1 ((some (.int r.1), r.2) : Option Value × Mem).2) args s 0 0 (AW shB G.2.1)) 69 [(6, .int r11.1), (0, .ref 0), (1, .int x1), (2, .int x2), (3, .int x3), (4, .int x4), (5, .int x5)] [] r13.2
    refine X_iload F dX9_change_69 rfl ?_
    refine X_iload_n F dX9_change_71 rfl ?_
    refine X_icmp_ge (tgt := 87) F dX9_change_72 (by decide) (fun q15 => ?_) (fun q15 => ?_)
    · rw [if_pos q15] at h
      refine X_pick [1, 2, 3, 4, 5, 6] rfl ?_
      exact F9_change_j87_ok F hr hlk hD hrec23 hrec38 h
    · rw [if_neg q15] at h
      refine X_bipush F dX9_change_75 (v := (10 : Int32)) rfl ?_
      refine X_iload F dX9_change_77 rfl ?_
      refine X_imul F dX9_change_79 ?_
      refine X_iload F dX9_change_80 rfl ?_
      refine X_iadd F dX9_change_82 ?_
      refine X_istore_n F dX9_change_83 (by decide) rfl ?_
      refine X_iload F dX9_change_84 rfl ?_
      refine X_istore_n F dX9_change_86 (by decide) rfl ?_
      refine X_pick [3, 4, 0, 1, 5, 6] rfl ?_
      exact F9_change_j87_ok F hr hlk hD hrec23 hrec38 h
set_option maxRecDepth 20000 in
theorem F9_change_l38_ok {p : Program} {l : Launch} {e : Env} {s : State} {m : MethodId} {args : Array Value} {below : List Frame} {meth : Method} {c : Code} {G : GG} {D : Nat} {r : Int32 × Mem} {rec23 : Mem → Int32 → Int32 → Int32 → Int32 → Option (Int32 × Mem)} (F : FrP shB G p s m args c RX9 cX9_change 7) (hr : meth.sig.returnType = (some .int)) (hlk : meth.locks = false) (hD : 92 ≤ D) (hrec23 : ∀ (M : Mem) (x1 : Int32) (x2 : Int32) (x3 : Int32) (x4 : Int32), rec23 M x1 x2 x3 x4 = some r → XJ shB p l e (rmX D) s m args below meth c 0 0 G 7 (MQ below (QcX shB G ((some (.int r.1), r.2) : Option Value × Mem).1 ((some (.int r.1), r.2) : Option Value × Mem).2) args s 0 0 (AW shB G.2.1)) 23 [(0, .ref 0), (1, .int x1), (2, .int x2), (3, .int x3), (4, .int x4)] [] M) : ∀ (fu : Nat) (M : Mem) (x1 : Int32) (x2 : Int32) (x3 : Int32) (x4 : Int32) (x5 : Int32), F9_change_l38 rec23 fu M x1 x2 x3 x4 x5 = some r → XJ shB p l e (rmX D) s m args below meth c 0 0 G 7 (MQ below (QcX shB G ((some (.int r.1), r.2) : Option Value × Mem).1 ((some (.int r.1), r.2) : Option Value × Mem).2) args s 0 0 (AW shB G.2.1)) 38 [(0, .ref 0), (1, .int x1), (2, .int x2), (3, .int x3), (4, .int x4), (5, .int x5)] [] M := by
  intro fu
  induction fu with
  | zero => intro M x1 x2 x3 x4 x5 h; cases h
  | succ fu ih => intro M x1 x2 x3 x4 x5 h; exact F9_change_l38_bok F hr hlk hD hrec23 (fun M x1 x2 x3 x4 x5 => ih M x1 x2 x3 x4 x5) h
set_option maxRecDepth 20000 in
theorem F9_change_l23_bok {p : Program} {l : Launch} {e : Env} {s : State} {m : MethodId} {args : Array Value} {below : List Frame} {meth : Method} {c : Code} {G : GG} {D : Nat} {r : Int32 × Mem} {rec23 : Mem → Int32 → Int32 → Int32 → Int32 → Option (Int32 × Mem)} (F : FrP shB G p s m args c RX9 cX9_change 7) (hr : meth.sig.returnType = (some .int)) (hlk : meth.locks = false) (hD : 92 ≤ D) (hrec23 : ∀ (M : Mem) (x1 : Int32) (x2 : Int32) (x3 : Int32) (x4 : Int32), rec23 M x1 x2 x3 x4 = some r → XJ shB p l e (rmX D) s m args below meth c 0 0 G 7 (MQ below (QcX shB G ((some (.int r.1), r.2) : Option Value × Mem).1 ((some (.int r.1), r.2) : Option Value × Mem).2) args s 0 0 (AW shB G.2.1)) 23 [(0, .ref 0), (1, .int x1), (2, .int x2), (3, .int x3), (4, .int x4)] [] M) {M : Mem} {x1 : Int32} {x2 : Int32} {x3 : Int32} {x4 : Int32} (h : F9_change_l23_b rec23 M x1 x2 x3 x4 = some r) : XJ shB p l e (rmX D) s m args below meth c 0 0 G 7 (MQ below (QcX shB G ((some (.int r.1), r.2) : Option Value × Mem).1 ((some (.int r.1), r.2) : Option Value × Mem).2) args s 0 0 (AW shB G.2.1)) 23 [(0, .ref 0), (1, .int x1), (2, .int x2), (3, .int x3), (4, .int x4)] [] M := by
  unfold F9_change_l23_b at h
  refine X_iload F dX9_change_23 rfl ?_
  refine X_aload_n F dX9_change_25 rfl ?_
  refine X_geti (v := (M 0 11)) F ffRX9_118 dX9_change_26 rfl ?_
  refine X_icmp_ge (tgt := 99) F dX9_change_29 (by decide) (fun q6 => ?_) (fun q6 => ?_)
  · rw [if_pos q6] at h
    refine X_iload_n F dX9_change_99 rfl ?_
    refine X_if_ne (tgt := 107) F dX9_change_100 (by decide) (fun q7 => ?_) (fun q7 => ?_)
    · rw [if_pos q7] at h
      refine X_iload_n F dX9_change_107 rfl ?_
      exact X_iret F hr hlk (retI h) dX9_change_108
    · rw [if_neg (fun z => z q7)] at h
      refine X_iload_n F dX9_change_103 rfl ?_
      refine X_goto (tgt := 108) F dX9_change_104 (by decide) ?_
      exact X_iret F hr hlk (retI h) dX9_change_108
  · rw [if_neg q6] at h
    refine X_aload_n F dX9_change_32 rfl ?_
    refine X_geti (v := (M 0 11)) F ffRX9_118 dX9_change_33 rfl ?_
    refine X_istore F dX9_change_36 (by decide) rfl ?_
    refine X_pick [1, 2, 3, 4, 5, 0] rfl ?_
    exact F9_change_l38_ok F hr hlk hD hrec23 FUEL _ _ _ _ _ _ h
set_option maxRecDepth 20000 in
theorem F9_change_l23_ok {p : Program} {l : Launch} {e : Env} {s : State} {m : MethodId} {args : Array Value} {below : List Frame} {meth : Method} {c : Code} {G : GG} {D : Nat} {r : Int32 × Mem} (F : FrP shB G p s m args c RX9 cX9_change 7) (hr : meth.sig.returnType = (some .int)) (hlk : meth.locks = false) (hD : 92 ≤ D) : ∀ (fu : Nat) (M : Mem) (x1 : Int32) (x2 : Int32) (x3 : Int32) (x4 : Int32), F9_change_l23 fu M x1 x2 x3 x4 = some r → XJ shB p l e (rmX D) s m args below meth c 0 0 G 7 (MQ below (QcX shB G ((some (.int r.1), r.2) : Option Value × Mem).1 ((some (.int r.1), r.2) : Option Value × Mem).2) args s 0 0 (AW shB G.2.1)) 23 [(0, .ref 0), (1, .int x1), (2, .int x2), (3, .int x3), (4, .int x4)] [] M := by
  intro fu
  induction fu with
  | zero => intro M x1 x2 x3 x4 h; cases h
  | succ fu ih => intro M x1 x2 x3 x4 h; exact F9_change_l23_bok F hr hlk hD (fun M x1 x2 x3 x4 => ih M x1 x2 x3 x4) h
set_option maxRecDepth 20000 in
theorem F9_change_ok {p : Program} {l : Launch} {e : Env} {s : State} {m : MethodId} {args : Array Value} {below : List Frame} {meth : Method} {c : Code} {G : GG} {D : Nat} {r : Int32 × Mem} (F : FrP shB G p s m args c RX9 cX9_change 7) (hr : meth.sig.returnType = (some .int)) (hlk : meth.locks = false) (hD : 92 ≤ D) {M : Mem} {a1 : Int32} (h : F9_change M a1 = some r) : XJ shB p l e (rmX D) s m args below meth c 0 0 G 7 (MQ below (QcX shB G ((some (.int r.1), r.2) : Option Value × Mem).1 ((some (.int r.1), r.2) : Option Value × Mem).2) args s 0 0 (AW shB G.2.1)) 0 [(0, .ref 0), (1, .int a1)] [] M := by
  unfold F9_change at h
  refine X_iload_n F dX9_change_0 rfl ?_
  refine X_i2l F dX9_change_1 ?_
  refine X_lconst F dX9_change_2 (v := (0 : Int64)) rfl ?_
  refine X_lconst F dX9_change_3 (v := (1 : Int64)) rfl ?_
  obtain ⟨r1, h2, h⟩ := bndS h
  refine X_callS (As := [.long (Int32.toInt64 a1), .long (0 : Int64), .long (1 : Int64)]) (rest := []) F fsRX9_88 feX9_in ftX9_in (F9_in_met (D := D - 1) F.2.2.2.2.2.2.2.1 (by omega) h2) rfl rfl (Nat.le_of_ble_eq_true rfl) (rm_ok (by omega) (by decide)) dX9_change_4 ?_
  show XJ shB p l e (rmX D) s m args below meth c 0 0 G 7 (MQ below (QcX shB G ((some (.int r.1), r.2) : Option Value × Mem).1 ((some (.int r.1), r.2) : Option Value × Mem).2) args s 0 0 (AW shB G.2.1)) 7 [(0, .ref 0), (1, .int a1)] [.int r1.1] r1.2
  refine X_if_ne (tgt := 13) F dX9_change_7 (by decide) (fun q3 => ?_) (fun q3 => ?_)
  · rw [if_pos q3] at h
    refine X_aload_n F dX9_change_13 rfl ?_
    obtain ⟨r4, h5, h⟩ := bndS h
    refine X_callV (ci := 0) (As := []) (rest := []) F fkRX9_321 feX9_turn fvX9_turn ⟨_, _, _, rfl, rfl, rfl⟩ (F9_turn_met (D := D - 1) F.2.2.2.2.2.2.2.1 (by omega) h5) rfl rfl (Nat.le_of_ble_eq_true rfl) (rm_ok (by omega) (by decide)) dX9_change_14 ?_
    show XJ shB p l e (rmX D) s m args below meth c 0 0 G 7 (MQ below (QcX shB G ((some (.int r.1), r.2) : Option Value × Mem).1 ((some (.int r.1), r.2) : Option Value × Mem).2) args s 0 0 (AW shB G.2.1)) 17 [(0, .ref 0), (1, .int a1)] [.int r4.1] r4.2
    refine X_istore_n F dX9_change_17 (by decide) rfl ?_
    refine X_iconst F dX9_change_18 (v := (-1 : Int32)) rfl ?_
    refine X_istore_n F dX9_change_19 (by decide) rfl ?_
    refine X_iconst F dX9_change_20 (v := (0 : Int32)) rfl ?_
    refine X_istore F dX9_change_21 (by decide) rfl ?_
    refine X_pick [3, 4, 2, 1, 0] rfl ?_
    exact F9_change_l23_ok F hr hlk hD FUEL _ _ _ _ _ h
  · rw [if_neg (fun z => z q3)] at h
    refine X_bipush F dX9_change_10 (v := (-2 : Int32)) rfl ?_
    exact X_iret F hr hlk (retI h) dX9_change_12
set_option maxRecDepth 20000 in
theorem F9_change_met {l : Launch} {G : GG} {D : Nat} {r : Int32 × Mem} {M : Mem} {a1 : Int32} (hI : Inj shB G.2.1) (hD : 92 ≤ D) (h : F9_change M a1 = some r) : MetX shB l G yX9_change cX9_change 7 (some .int) D [.ref 0, .int a1] M (some (.int r.1), r.2) :=
  X_met hI (by decide +kernel) (Nat.le_of_ble_eq_true rfl) (fun p e s m args below meth c F hr hlk => F9_change_ok F hr hlk hD h)
-- KeepOurPlaceModel.lineOf
def F9_lineOf_l4_b (rec4 : Mem → Int32 → Int32 → Option (Int32 × Mem)) (M : Mem) (x2 : Int32) (x3 : Int32) : Option (Int32 × Mem) :=
    if (M 0 11) ≤ x3 then
      some (x2, M)
    else
      Option.bind (F9_secondsOf M x3) fun r2 =>
      rec4 r2.2 (x2 + r2.1) (x3 + (2 : Int32))
def F9_lineOf_l4 : Nat → Mem → Int32 → Int32 → Option (Int32 × Mem)
  | 0, _, _, _ => none
  | fu + 1, M, x2, x3 => F9_lineOf_l4_b (F9_lineOf_l4 fu) M x2 x3
def F9_lineOf (M : Mem) (a1 : Int32) : Option (Int32 × Mem) :=
    F9_lineOf_l4 FUEL M (0 : Int32) a1
set_option maxRecDepth 20000 in
theorem F9_lineOf_l4_bok {p : Program} {l : Launch} {e : Env} {s : State} {m : MethodId} {args : Array Value} {below : List Frame} {meth : Method} {c : Code} {G : GG} {D : Nat} {r : Int32 × Mem} {rec4 : Mem → Int32 → Int32 → Option (Int32 × Mem)} (F : FrP shB G p s m args c RX9 cX9_lineOf 4) (hr : meth.sig.returnType = (some .int)) (hlk : meth.locks = false) (hD : 90 ≤ D) (hrec4 : ∀ (M : Mem) (x2 : Int32) (x3 : Int32), rec4 M x2 x3 = some r → XJ shB p l e (rmX D) s m args below meth c 0 0 G 4 (MQ below (QcX shB G ((some (.int r.1), r.2) : Option Value × Mem).1 ((some (.int r.1), r.2) : Option Value × Mem).2) args s 0 0 (AW shB G.2.1)) 4 [(0, .ref 0), (2, .int x2), (3, .int x3)] [] M) {M : Mem} {x2 : Int32} {x3 : Int32} (h : F9_lineOf_l4_b rec4 M x2 x3 = some r) : XJ shB p l e (rmX D) s m args below meth c 0 0 G 4 (MQ below (QcX shB G ((some (.int r.1), r.2) : Option Value × Mem).1 ((some (.int r.1), r.2) : Option Value × Mem).2) args s 0 0 (AW shB G.2.1)) 4 [(0, .ref 0), (2, .int x2), (3, .int x3)] [] M := by
  unfold F9_lineOf_l4_b at h
  refine X_iload_n F dX9_lineOf_4 rfl ?_
  refine X_aload_n F dX9_lineOf_5 rfl ?_
  refine X_geti (v := (M 0 11)) F ffRX9_118 dX9_lineOf_6 rfl ?_
  refine X_icmp_ge (tgt := 26) F dX9_lineOf_9 (by decide) (fun q1 => ?_) (fun q1 => ?_)
  · rw [if_pos q1] at h
    refine X_iload_n F dX9_lineOf_26 rfl ?_
    exact X_iret F hr hlk (retI h) dX9_lineOf_27
  · rw [if_neg q1] at h
    refine X_iload_n F dX9_lineOf_12 rfl ?_
    refine X_aload_n F dX9_lineOf_13 rfl ?_
    refine X_iload_n F dX9_lineOf_14 rfl ?_
    obtain ⟨r2, h3, h⟩ := bndS h
    refine X_callV (ci := 0) (As := [.int x3]) (rest := [.int x2]) F fkRX9_125 feX9_secondsOf fvX9_secondsOf ⟨_, _, _, rfl, rfl, rfl⟩ (F9_secondsOf_met (D := D - 1) F.2.2.2.2.2.2.2.1 (by omega) h3) rfl rfl (Nat.le_of_ble_eq_true rfl) (rm_ok (by omega) (by decide)) dX9_lineOf_15 ?_
    show XJ shB p l e (rmX D) s m args below meth c 0 0 G 4 (MQ below (QcX shB G ((some (.int r.1), r.2) : Option Value × Mem).1 ((some (.int r.1), r.2) : Option Value × Mem).2) args s 0 0 (AW shB G.2.1)) 18 [(0, .ref 0), (2, .int x2), (3, .int x3)] [.int r2.1, .int x2] r2.2
    refine X_iadd F dX9_lineOf_18 ?_
    refine X_istore_n F dX9_lineOf_19 (by decide) rfl ?_
    refine X_iinc F dX9_lineOf_20 rfl (v := (2 : Int32)) rfl (by decide) rfl ?_
    refine X_goto (tgt := 4) F dX9_lineOf_23 (by decide) ?_
    refine X_pick [2, 1, 0] rfl ?_
    exact hrec4 _ _ _ h
set_option maxRecDepth 20000 in
theorem F9_lineOf_l4_ok {p : Program} {l : Launch} {e : Env} {s : State} {m : MethodId} {args : Array Value} {below : List Frame} {meth : Method} {c : Code} {G : GG} {D : Nat} {r : Int32 × Mem} (F : FrP shB G p s m args c RX9 cX9_lineOf 4) (hr : meth.sig.returnType = (some .int)) (hlk : meth.locks = false) (hD : 90 ≤ D) : ∀ (fu : Nat) (M : Mem) (x2 : Int32) (x3 : Int32), F9_lineOf_l4 fu M x2 x3 = some r → XJ shB p l e (rmX D) s m args below meth c 0 0 G 4 (MQ below (QcX shB G ((some (.int r.1), r.2) : Option Value × Mem).1 ((some (.int r.1), r.2) : Option Value × Mem).2) args s 0 0 (AW shB G.2.1)) 4 [(0, .ref 0), (2, .int x2), (3, .int x3)] [] M := by
  intro fu
  induction fu with
  | zero => intro M x2 x3 h; cases h
  | succ fu ih => intro M x2 x3 h; exact F9_lineOf_l4_bok F hr hlk hD (fun M x2 x3 => ih M x2 x3) h
set_option maxRecDepth 20000 in
theorem F9_lineOf_ok {p : Program} {l : Launch} {e : Env} {s : State} {m : MethodId} {args : Array Value} {below : List Frame} {meth : Method} {c : Code} {G : GG} {D : Nat} {r : Int32 × Mem} (F : FrP shB G p s m args c RX9 cX9_lineOf 4) (hr : meth.sig.returnType = (some .int)) (hlk : meth.locks = false) (hD : 90 ≤ D) {M : Mem} {a1 : Int32} (h : F9_lineOf M a1 = some r) : XJ shB p l e (rmX D) s m args below meth c 0 0 G 4 (MQ below (QcX shB G ((some (.int r.1), r.2) : Option Value × Mem).1 ((some (.int r.1), r.2) : Option Value × Mem).2) args s 0 0 (AW shB G.2.1)) 0 [(0, .ref 0), (1, .int a1)] [] M := by
  unfold F9_lineOf at h
  refine X_iconst F dX9_lineOf_0 (v := (0 : Int32)) rfl ?_
  refine X_istore_n F dX9_lineOf_1 (by decide) rfl ?_
  refine X_iload_n F dX9_lineOf_2 rfl ?_
  refine X_istore_n F dX9_lineOf_3 (by decide) rfl ?_
  refine X_pick [2, 1, 0] rfl ?_
  exact F9_lineOf_l4_ok F hr hlk hD FUEL _ _ _ h
set_option maxRecDepth 20000 in
theorem F9_lineOf_met {l : Launch} {G : GG} {D : Nat} {r : Int32 × Mem} {M : Mem} {a1 : Int32} (hI : Inj shB G.2.1) (hD : 90 ≤ D) (h : F9_lineOf M a1 = some r) : MetX shB l G yX9_lineOf cX9_lineOf 4 (some .int) D [.ref 0, .int a1] M (some (.int r.1), r.2) :=
  X_met hI (by decide +kernel) (Nat.le_of_ble_eq_true rfl) (fun p e s m args below meth c F hr hlk => F9_lineOf_ok F hr hlk hD h)
-- KeepOurPlaceModel.lines
def F9_lines (M : Mem) (a1 : Int32) : Option (Int32 × Mem) :=
    Option.bind (F9_in M (Int32.toInt64 a1) (0 : Int64) (2 : Int64)) fun r1 =>
    if ¬ r1.1 = 0 then
      if (2 : Int32) ≤ a1 then
        Option.bind (F9_lineOf r1.2 (1 : Int32)) fun r5 =>
        Option.bind (F9_lineOf r5.2 (0 : Int32)) fun r7 =>
        if r7.1 ≤ r5.1 then
          some ((0 : Int32), r7.2)
        else
          some ((1 : Int32), r7.2)
      else
        Option.bind (F9_lineOf r1.2 a1) fun r10 =>
        some (r10.1, r10.2)
    else
      some ((-2 : Int32), r1.2)
set_option maxRecDepth 20000 in
theorem F9_lines_ok {p : Program} {l : Launch} {e : Env} {s : State} {m : MethodId} {args : Array Value} {below : List Frame} {meth : Method} {c : Code} {G : GG} {D : Nat} {r : Int32 × Mem} (F : FrP shB G p s m args c RX9 cX9_lines 2) (hr : meth.sig.returnType = (some .int)) (hlk : meth.locks = false) (hD : 91 ≤ D) {M : Mem} {a1 : Int32} (h : F9_lines M a1 = some r) : XJ shB p l e (rmX D) s m args below meth c 0 0 G 2 (MQ below (QcX shB G ((some (.int r.1), r.2) : Option Value × Mem).1 ((some (.int r.1), r.2) : Option Value × Mem).2) args s 0 0 (AW shB G.2.1)) 0 [(0, .ref 0), (1, .int a1)] [] M := by
  unfold F9_lines at h
  refine X_iload_n F dX9_lines_0 rfl ?_
  refine X_i2l F dX9_lines_1 ?_
  refine X_lconst F dX9_lines_2 (v := (0 : Int64)) rfl ?_
  refine X_ldc2 F fcRX9_103 dX9_lines_3 ?_
  obtain ⟨r1, h2, h⟩ := bndS h
  refine X_callS (As := [.long (Int32.toInt64 a1), .long (0 : Int64), .long (2 : Int64)]) (rest := []) F fsRX9_88 feX9_in ftX9_in (F9_in_met (D := D - 1) F.2.2.2.2.2.2.2.1 (by omega) h2) rfl rfl (Nat.le_of_ble_eq_true rfl) (rm_ok (by omega) (by decide)) dX9_lines_6 ?_
  show XJ shB p l e (rmX D) s m args below meth c 0 0 G 2 (MQ below (QcX shB G ((some (.int r.1), r.2) : Option Value × Mem).1 ((some (.int r.1), r.2) : Option Value × Mem).2) args s 0 0 (AW shB G.2.1)) 9 [(0, .ref 0), (1, .int a1)] [.int r1.1] r1.2
  refine X_if_ne (tgt := 15) F dX9_lines_9 (by decide) (fun q3 => ?_) (fun q3 => ?_)
  · rw [if_pos q3] at h
    refine X_iload_n F dX9_lines_15 rfl ?_
    refine X_iconst F dX9_lines_16 (v := (2 : Int32)) rfl ?_
    refine X_icmp_ge (tgt := 26) F dX9_lines_17 (by decide) (fun q4 => ?_) (fun q4 => ?_)
    · rw [if_pos q4] at h
      refine X_aload_n F dX9_lines_26 rfl ?_
      refine X_iconst F dX9_lines_27 (v := (1 : Int32)) rfl ?_
      obtain ⟨r5, h6, h⟩ := bndS h
      refine X_callV (ci := 0) (As := [.int (1 : Int32)]) (rest := []) F fkRX9_328 feX9_lineOf fvX9_lineOf ⟨_, _, _, rfl, rfl, rfl⟩ (F9_lineOf_met (D := D - 1) F.2.2.2.2.2.2.2.1 (by omega) h6) rfl rfl (Nat.le_of_ble_eq_true rfl) (rm_ok (by omega) (by decide)) dX9_lines_28 ?_
      show XJ shB p l e (rmX D) s m args below meth c 0 0 G 2 (MQ below (QcX shB G ((some (.int r.1), r.2) : Option Value × Mem).1 ((some (.int r.1), r.2) : Option Value × Mem).2) args s 0 0 (AW shB G.2.1)) 31 [(0, .ref 0), (1, .int a1)] [.int r5.1] r5.2
      refine X_aload_n F dX9_lines_31 rfl ?_
      refine X_iconst F dX9_lines_32 (v := (0 : Int32)) rfl ?_
      obtain ⟨r7, h8, h⟩ := bndS h
      refine X_callV (ci := 0) (As := [.int (0 : Int32)]) (rest := [.int r5.1]) F fkRX9_328 feX9_lineOf fvX9_lineOf ⟨_, _, _, rfl, rfl, rfl⟩ (F9_lineOf_met (D := D - 1) F.2.2.2.2.2.2.2.1 (by omega) h8) rfl rfl (Nat.le_of_ble_eq_true rfl) (rm_ok (by omega) (by decide)) dX9_lines_33 ?_
      show XJ shB p l e (rmX D) s m args below meth c 0 0 G 2 (MQ below (QcX shB G ((some (.int r.1), r.2) : Option Value × Mem).1 ((some (.int r.1), r.2) : Option Value × Mem).2) args s 0 0 (AW shB G.2.1)) 36 [(0, .ref 0), (1, .int a1)] [.int r7.1, .int r5.1] r7.2
      refine X_icmp_ge (tgt := 43) F dX9_lines_36 (by decide) (fun q9 => ?_) (fun q9 => ?_)
      · rw [if_pos q9] at h
        refine X_iconst F dX9_lines_43 (v := (0 : Int32)) rfl ?_
        exact X_iret F hr hlk (retI h) dX9_lines_44
      · rw [if_neg q9] at h
        refine X_iconst F dX9_lines_39 (v := (1 : Int32)) rfl ?_
        refine X_goto (tgt := 44) F dX9_lines_40 (by decide) ?_
        exact X_iret F hr hlk (retI h) dX9_lines_44
    · rw [if_neg q4] at h
      refine X_aload_n F dX9_lines_20 rfl ?_
      refine X_iload_n F dX9_lines_21 rfl ?_
      obtain ⟨r10, h11, h⟩ := bndS h
      refine X_callV (ci := 0) (As := [.int a1]) (rest := []) F fkRX9_328 feX9_lineOf fvX9_lineOf ⟨_, _, _, rfl, rfl, rfl⟩ (F9_lineOf_met (D := D - 1) F.2.2.2.2.2.2.2.1 (by omega) h11) rfl rfl (Nat.le_of_ble_eq_true rfl) (rm_ok (by omega) (by decide)) dX9_lines_22 ?_
      show XJ shB p l e (rmX D) s m args below meth c 0 0 G 2 (MQ below (QcX shB G ((some (.int r.1), r.2) : Option Value × Mem).1 ((some (.int r.1), r.2) : Option Value × Mem).2) args s 0 0 (AW shB G.2.1)) 25 [(0, .ref 0), (1, .int a1)] [.int r10.1] r10.2
      exact X_iret F hr hlk (retI h) dX9_lines_25
  · rw [if_neg (fun z => z q3)] at h
    refine X_bipush F dX9_lines_12 (v := (-2 : Int32)) rfl ?_
    exact X_iret F hr hlk (retI h) dX9_lines_14
set_option maxRecDepth 20000 in
theorem F9_lines_met {l : Launch} {G : GG} {D : Nat} {r : Int32 × Mem} {M : Mem} {a1 : Int32} (hI : Inj shB G.2.1) (hD : 91 ≤ D) (h : F9_lines M a1 = some r) : MetX shB l G yX9_lines cX9_lines 2 (some .int) D [.ref 0, .int a1] M (some (.int r.1), r.2) :=
  X_met hI (by decide +kernel) (Nat.le_of_ble_eq_true rfl) (fun p e s m args below meth c F hr hlk => F9_lines_ok F hr hlk hD h)
-- KeepOurPlaceModel.likely
def F9_likely_l43_b (rec43 : Mem → Int64 → Int32 → Option (Int64 × Mem)) (M : Mem) (x2 : Int64) (x4 : Int32) : Option (Int64 × Mem) :=
    if (M 0 38) ≤ x4 then
      Option.bind (F9_worthOf M) fun r12 =>
      Option.bind (F9_backOf r12.2) fun r14 =>
      Option.bind (F9_worthOf r14.2) fun r16 =>
      Option.bind (F9_gainOf r16.2 r14.1 r16.1) fun r18 =>
      some ((x2 - ((100 : Int64) * (Int32.toInt64 (r12.1 - r18.1)))), r18.2)
    else
      if inb x4 6 = true then
      if inb (M 13 (Int32.toNatClampNeg x4)) 6 = true then
      rec43 M (x2 + ((Int32.toInt64 (M 8 (Int32.toNatClampNeg (M 13 (Int32.toNatClampNeg x4))))) * (Int32.toInt64 (M 9 (Int32.toNatClampNeg (M 13 (Int32.toNatClampNeg x4))))))) (x4 + (1 : Int32))
      else none
      else none
def F9_likely_l43 : Nat → Mem → Int64 → Int32 → Option (Int64 × Mem)
  | 0, _, _, _ => none
  | fu + 1, M, x2, x4 => F9_likely_l43_b (F9_likely_l43 fu) M x2 x4
def F9_likely (M : Mem) (a1 : Int32) : Option (Int64 × Mem) :=
    Option.bind (F9_isSheet M a1) fun r1 =>
    if r1.1 = 0 then
      some ((-4611686018427387904 : Int64), r1.2)
    else
      if inb a1 4 = true then
      if (r1.2 17 (Int32.toNatClampNeg a1)) = 0 then
        some ((-4611686018427387904 : Int64), r1.2)
      else
        Option.bind (F9_lays r1.2 a1 (r1.2 19 (Int32.toNatClampNeg a1))) fun r6 =>
        if ¬ r6.1 = 0 then
          Option.bind (F9_gathers r6.2) fun r9 =>
          F9_likely_l43 FUEL r9.2 (0 : Int64) (0 : Int32)
        else
          some ((-4611686018427387904 : Int64), r6.2)
      else none
set_option maxRecDepth 20000 in
theorem F9_likely_l43_bok {p : Program} {l : Launch} {e : Env} {s : State} {m : MethodId} {args : Array Value} {below : List Frame} {meth : Method} {c : Code} {G : GG} {D : Nat} {r : Int64 × Mem} {rec43 : Mem → Int64 → Int32 → Option (Int64 × Mem)} (F : FrP shB G p s m args c RX9 cX9_likely 5) (hr : meth.sig.returnType = (some .long)) (hlk : meth.locks = false) (hD : 91 ≤ D) (hrec43 : ∀ (M : Mem) (x2 : Int64) (x4 : Int32), rec43 M x2 x4 = some r → XJ shB p l e (rmX D) s m args below meth c 0 0 G 5 (MQ below (QcX shB G ((some (.long r.1), r.2) : Option Value × Mem).1 ((some (.long r.1), r.2) : Option Value × Mem).2) args s 0 0 (AW shB G.2.1)) 43 [(0, .ref 0), (2, .long x2), (4, .int x4)] [] M) {M : Mem} {x2 : Int64} {x4 : Int32} (h : F9_likely_l43_b rec43 M x2 x4 = some r) : XJ shB p l e (rmX D) s m args below meth c 0 0 G 5 (MQ below (QcX shB G ((some (.long r.1), r.2) : Option Value × Mem).1 ((some (.long r.1), r.2) : Option Value × Mem).2) args s 0 0 (AW shB G.2.1)) 43 [(0, .ref 0), (2, .long x2), (4, .int x4)] [] M := by
  unfold F9_likely_l43_b at h
  refine X_iload F dX9_likely_43 rfl ?_
  refine X_aload_n F dX9_likely_45 rfl ?_
  refine X_geti (v := (M 0 38)) F ffRX9_275 dX9_likely_46 rfl ?_
  refine X_icmp_ge (tgt := 88) F dX9_likely_49 (by decide) (fun q11 => ?_) (fun q11 => ?_)
  · rw [if_pos q11] at h
    refine X_lload_n F dX9_likely_88 rfl ?_
    refine X_ldc2 F fcRX9_116 dX9_likely_89 ?_
    refine X_aload_n F dX9_likely_92 rfl ?_
    obtain ⟨r12, h13, h⟩ := bndS h
    refine X_callV (ci := 0) (As := []) (rest := [.long (100 : Int64), .long x2]) F fkRX9_291 feX9_worthOf fvX9_worthOf ⟨_, _, _, rfl, rfl, rfl⟩ (F9_worthOf_met (D := D - 1) F.2.2.2.2.2.2.2.1 (by omega) h13) rfl rfl (Nat.le_of_ble_eq_true rfl) (rm_ok (by omega) (by decide)) dX9_likely_93 ?_
    show XJ shB p l e (rmX D) s m args below meth c 0 0 G 5 (MQ below (QcX shB G ((some (.long r.1), r.2) : Option Value × Mem).1 ((some (.long r.1), r.2) : Option Value × Mem).2) args s 0 0 (AW shB G.2.1)) 96 [(0, .ref 0), (2, .long x2), (4, .int x4)] [.int r12.1, .long (100 : Int64), .long x2] r12.2
    refine X_aload_n F dX9_likely_96 rfl ?_
    refine X_aload_n F dX9_likely_97 rfl ?_
    obtain ⟨r14, h15, h⟩ := bndS h
    refine X_callV (ci := 0) (As := []) (rest := [.ref 0, .int r12.1, .long (100 : Int64), .long x2]) F fkRX9_288 feX9_backOf fvX9_backOf ⟨_, _, _, rfl, rfl, rfl⟩ (F9_backOf_met (D := D - 1) F.2.2.2.2.2.2.2.1 (by omega) h15) rfl rfl (Nat.le_of_ble_eq_true rfl) (rm_ok (by omega) (by decide)) dX9_likely_98 ?_
    show XJ shB p l e (rmX D) s m args below meth c 0 0 G 5 (MQ below (QcX shB G ((some (.long r.1), r.2) : Option Value × Mem).1 ((some (.long r.1), r.2) : Option Value × Mem).2) args s 0 0 (AW shB G.2.1)) 101 [(0, .ref 0), (2, .long x2), (4, .int x4)] [.int r14.1, .ref 0, .int r12.1, .long (100 : Int64), .long x2] r14.2
    refine X_aload_n F dX9_likely_101 rfl ?_
    obtain ⟨r16, h17, h⟩ := bndS h
    refine X_callV (ci := 0) (As := []) (rest := [.int r14.1, .ref 0, .int r12.1, .long (100 : Int64), .long x2]) F fkRX9_291 feX9_worthOf fvX9_worthOf ⟨_, _, _, rfl, rfl, rfl⟩ (F9_worthOf_met (D := D - 1) F.2.2.2.2.2.2.2.1 (by omega) h17) rfl rfl (Nat.le_of_ble_eq_true rfl) (rm_ok (by omega) (by decide)) dX9_likely_102 ?_
    show XJ shB p l e (rmX D) s m args below meth c 0 0 G 5 (MQ below (QcX shB G ((some (.long r.1), r.2) : Option Value × Mem).1 ((some (.long r.1), r.2) : Option Value × Mem).2) args s 0 0 (AW shB G.2.1)) 105 [(0, .ref 0), (2, .long x2), (4, .int x4)] [.int r16.1, .int r14.1, .ref 0, .int r12.1, .long (100 : Int64), .long x2] r16.2
    obtain ⟨r18, h19, h⟩ := bndS h
    refine X_callV (ci := 0) (As := [.int r14.1, .int r16.1]) (rest := [.int r12.1, .long (100 : Int64), .long x2]) F fkRX9_294 feX9_gainOf fvX9_gainOf ⟨_, _, _, rfl, rfl, rfl⟩ (F9_gainOf_met (D := D - 1) F.2.2.2.2.2.2.2.1 (by omega) h19) rfl rfl (Nat.le_of_ble_eq_true rfl) (rm_ok (by omega) (by decide)) dX9_likely_105 ?_
    show XJ shB p l e (rmX D) s m args below meth c 0 0 G 5 (MQ below (QcX shB G ((some (.long r.1), r.2) : Option Value × Mem).1 ((some (.long r.1), r.2) : Option Value × Mem).2) args s 0 0 (AW shB G.2.1)) 108 [(0, .ref 0), (2, .long x2), (4, .int x4)] [.int r18.1, .int r12.1, .long (100 : Int64), .long x2] r18.2
    refine X_isub F dX9_likely_108 ?_
    refine X_i2l F dX9_likely_109 ?_
    refine X_lmul F dX9_likely_110 ?_
    refine X_lsub F dX9_likely_111 ?_
    exact X_lret F hr hlk (retL h) dX9_likely_112
  · rw [if_neg q11] at h
    refine X_lload_n F dX9_likely_52 rfl ?_
    refine X_aload_n F dX9_likely_53 rfl ?_
    refine X_getr F ffRX9_35 dX9_likely_54 ?_
    refine X_aload_n F dX9_likely_57 rfl ?_
    refine X_getr F ffRX9_50 dX9_likely_58 ?_
    refine X_iload F dX9_likely_61 rfl ?_
    obtain ⟨q20, h⟩ := ifS h
    refine X_iald (j := (Int32.toNatClampNeg x4)) (v := (M 13 (Int32.toNatClampNeg x4))) F rfl (inbV q20) rfl rfl dX9_likely_63 ?_
    obtain ⟨q21, h⟩ := ifS h
    refine X_iald (j := (Int32.toNatClampNeg (M 13 (Int32.toNatClampNeg x4)))) (v := (M 8 (Int32.toNatClampNeg (M 13 (Int32.toNatClampNeg x4))))) F rfl (inbV q21) rfl rfl dX9_likely_64 ?_
    refine X_i2l F dX9_likely_65 ?_
    refine X_aload_n F dX9_likely_66 rfl ?_
    refine X_getr F ffRX9_38 dX9_likely_67 ?_
    refine X_aload_n F dX9_likely_70 rfl ?_
    refine X_getr F ffRX9_50 dX9_likely_71 ?_
    refine X_iload F dX9_likely_74 rfl ?_
    refine X_iald (j := (Int32.toNatClampNeg x4)) (v := (M 13 (Int32.toNatClampNeg x4))) F rfl (inbV q20) rfl rfl dX9_likely_76 ?_
    refine X_iald (j := (Int32.toNatClampNeg (M 13 (Int32.toNatClampNeg x4)))) (v := (M 9 (Int32.toNatClampNeg (M 13 (Int32.toNatClampNeg x4))))) F rfl (inbV q21) rfl rfl dX9_likely_77 ?_
    refine X_i2l F dX9_likely_78 ?_
    refine X_lmul F dX9_likely_79 ?_
    refine X_ladd F dX9_likely_80 ?_
    refine X_lstore_n F dX9_likely_81 (by decide) rfl ?_
    refine X_iinc F dX9_likely_82 rfl (v := (1 : Int32)) rfl (by decide) rfl ?_
    refine X_goto (tgt := 43) F dX9_likely_85 (by decide) ?_
    refine X_pick [2, 1, 0] rfl ?_
    exact hrec43 _ _ _ h
set_option maxRecDepth 20000 in
theorem F9_likely_l43_ok {p : Program} {l : Launch} {e : Env} {s : State} {m : MethodId} {args : Array Value} {below : List Frame} {meth : Method} {c : Code} {G : GG} {D : Nat} {r : Int64 × Mem} (F : FrP shB G p s m args c RX9 cX9_likely 5) (hr : meth.sig.returnType = (some .long)) (hlk : meth.locks = false) (hD : 91 ≤ D) : ∀ (fu : Nat) (M : Mem) (x2 : Int64) (x4 : Int32), F9_likely_l43 fu M x2 x4 = some r → XJ shB p l e (rmX D) s m args below meth c 0 0 G 5 (MQ below (QcX shB G ((some (.long r.1), r.2) : Option Value × Mem).1 ((some (.long r.1), r.2) : Option Value × Mem).2) args s 0 0 (AW shB G.2.1)) 43 [(0, .ref 0), (2, .long x2), (4, .int x4)] [] M := by
  intro fu
  induction fu with
  | zero => intro M x2 x4 h; cases h
  | succ fu ih => intro M x2 x4 h; exact F9_likely_l43_bok F hr hlk hD (fun M x2 x4 => ih M x2 x4) h
set_option maxRecDepth 20000 in
theorem F9_likely_ok {p : Program} {l : Launch} {e : Env} {s : State} {m : MethodId} {args : Array Value} {below : List Frame} {meth : Method} {c : Code} {G : GG} {D : Nat} {r : Int64 × Mem} (F : FrP shB G p s m args c RX9 cX9_likely 5) (hr : meth.sig.returnType = (some .long)) (hlk : meth.locks = false) (hD : 91 ≤ D) {M : Mem} {a1 : Int32} (h : F9_likely M a1 = some r) : XJ shB p l e (rmX D) s m args below meth c 0 0 G 5 (MQ below (QcX shB G ((some (.long r.1), r.2) : Option Value × Mem).1 ((some (.long r.1), r.2) : Option Value × Mem).2) args s 0 0 (AW shB G.2.1)) 0 [(0, .ref 0), (1, .int a1)] [] M := by
  unfold F9_likely at h
  refine X_iload_n F dX9_likely_0 rfl ?_
  obtain ⟨r1, h2, h⟩ := bndS h
  refine X_callS (As := [.int a1]) (rest := []) F fsRX9_281 feX9_isSheet ftX9_isSheet (F9_isSheet_met (D := D - 1) F.2.2.2.2.2.2.2.1 (by omega) h2) rfl rfl (Nat.le_of_ble_eq_true rfl) (rm_ok (by omega) (by decide)) dX9_likely_1 ?_
  show XJ shB p l e (rmX D) s m args below meth c 0 0 G 5 (MQ below (QcX shB G ((some (.long r.1), r.2) : Option Value × Mem).1 ((some (.long r.1), r.2) : Option Value × Mem).2) args s 0 0 (AW shB G.2.1)) 4 [(0, .ref 0), (1, .int a1)] [.int r1.1] r1.2
  refine X_if_eq (tgt := 30) F dX9_likely_4 (by decide) (fun q3 => ?_) (fun q3 => ?_)
  · rw [if_pos q3] at h
    refine X_ldc2 F fcRX9_331 dX9_likely_30 ?_
    exact X_lret F hr hlk (retL h) dX9_likely_33
  · rw [if_neg q3] at h
    refine X_aload_n F dX9_likely_7 rfl ?_
    refine X_getr F ffRX9_65 dX9_likely_8 ?_
    refine X_iload_n F dX9_likely_11 rfl ?_
    obtain ⟨q4, h⟩ := ifS h
    refine X_zald (j := (Int32.toNatClampNeg a1)) (v := (r1.2 17 (Int32.toNatClampNeg a1))) F rfl (inbV q4) rfl rfl dX9_likely_12 ?_
    refine X_if_eq (tgt := 30) F dX9_likely_13 (by decide) (fun q5 => ?_) (fun q5 => ?_)
    · rw [if_pos q5] at h
      refine X_ldc2 F fcRX9_331 dX9_likely_30 ?_
      exact X_lret F hr hlk (retL h) dX9_likely_33
    · rw [if_neg q5] at h
      refine X_aload_n F dX9_likely_16 rfl ?_
      refine X_iload_n F dX9_likely_17 rfl ?_
      refine X_aload_n F dX9_likely_18 rfl ?_
      refine X_getr F ffRX9_72 dX9_likely_19 ?_
      refine X_iload_n F dX9_likely_22 rfl ?_
      refine X_iald (j := (Int32.toNatClampNeg a1)) (v := (r1.2 19 (Int32.toNatClampNeg a1))) F rfl (inbV q4) rfl rfl dX9_likely_23 ?_
      obtain ⟨r6, h7, h⟩ := bndS h
      refine X_callV (ci := 0) (As := [.int a1, .int (r1.2 19 (Int32.toNatClampNeg a1))]) (rest := []) F fkRX9_284 feX9_lays fvX9_lays ⟨_, _, _, rfl, rfl, rfl⟩ (F9_lays_met (D := D - 1) F.2.2.2.2.2.2.2.1 (by omega) h7) rfl rfl (Nat.le_of_ble_eq_true rfl) (rm_ok (by omega) (by decide)) dX9_likely_24 ?_
      show XJ shB p l e (rmX D) s m args below meth c 0 0 G 5 (MQ below (QcX shB G ((some (.long r.1), r.2) : Option Value × Mem).1 ((some (.long r.1), r.2) : Option Value × Mem).2) args s 0 0 (AW shB G.2.1)) 27 [(0, .ref 0), (1, .int a1)] [.int r6.1] r6.2
      refine X_if_ne (tgt := 34) F dX9_likely_27 (by decide) (fun q8 => ?_) (fun q8 => ?_)
      · rw [if_pos q8] at h
        refine X_aload_n F dX9_likely_34 rfl ?_
        obtain ⟨r9, h10, h⟩ := bndS h
        refine X_callV (ci := 0) (As := []) (rest := []) F fkRX9_272 feX9_gathers fvX9_gathers ⟨_, _, _, rfl, rfl, rfl⟩ (F9_gathers_met (D := D - 1) F.2.2.2.2.2.2.2.1 (by omega) h10) rfl rfl (Nat.le_of_ble_eq_true rfl) (rm_ok (by omega) (by decide)) dX9_likely_35 ?_
        show XJ shB p l e (rmX D) s m args below meth c 0 0 G 5 (MQ below (QcX shB G ((some (.long r.1), r.2) : Option Value × Mem).1 ((some (.long r.1), r.2) : Option Value × Mem).2) args s 0 0 (AW shB G.2.1)) 38 [(0, .ref 0), (1, .int a1)] [] r9.2
        refine X_lconst F dX9_likely_38 (v := (0 : Int64)) rfl ?_
        refine X_lstore_n F dX9_likely_39 (by decide) rfl ?_
        refine X_iconst F dX9_likely_40 (v := (0 : Int32)) rfl ?_
        refine X_istore F dX9_likely_41 (by decide) rfl ?_
        refine X_pick [2, 1, 0] rfl ?_
        exact F9_likely_l43_ok F hr hlk hD FUEL _ _ _ h
      · rw [if_neg (fun z => z q8)] at h
        refine X_ldc2 F fcRX9_331 dX9_likely_30 ?_
        exact X_lret F hr hlk (retL h) dX9_likely_33
set_option maxRecDepth 20000 in
theorem F9_likely_met {l : Launch} {G : GG} {D : Nat} {r : Int64 × Mem} {M : Mem} {a1 : Int32} (hI : Inj shB G.2.1) (hD : 91 ≤ D) (h : F9_likely M a1 = some r) : MetX shB l G yX9_likely cX9_likely 5 (some .long) D [.ref 0, .int a1] M (some (.long r.1), r.2) :=
  X_met hI (by decide +kernel) (Nat.le_of_ble_eq_true rfl) (fun p e s m args below meth c F hr hlk => F9_likely_ok F hr hlk hD h)
-- KeepOurPlaceModel.orders
def F9_orders_j107 (rc : Nat → Int32 → Int32 → Mem → Option (Int32 × Mem)) (rec48 : Mem → Int32 → Int32 → Int32 → Option (Int32 × Mem)) (M : Mem) (x1 : Int32) (x2 : Int32) (x3 : Int32) : Option (Int32 × Mem) :=
    rec48 M x1 x2 (x3 + (1 : Int32))
def F9_orders_l48_b (rc : Nat → Int32 → Int32 → Mem → Option (Int32 × Mem)) (rec48 : Mem → Int32 → Int32 → Int32 → Option (Int32 × Mem)) (M : Mem) (x1 : Int32) (x2 : Int32) (x3 : Int32) : Option (Int32 × Mem) :=
    if (M 0 16) ≤ x3 then
      some ((0 : Int32), M)
    else
      if ¬ ((x1 >>> (x3 &&& 31)) &&& (1 : Int32)) = (1 : Int32) then
        F9_orders_j107 rc rec48 M x1 x2 x3
      else
        if inb (M 0 38) 6 = true then
        Option.bind (rc 0 (x1 &&& (((1 : Int32) <<< (x3 &&& 31)) ^^^ (-1 : Int32))) x2 (up2 (up2 M 13 (Int32.toNatClampNeg (M 0 38)) x3) 0 38 ((M 0 38) + (1 : Int32)))) fun r11 =>
        F9_orders_j107 rc rec48 (up2 r11.2 0 38 ((r11.2 0 38) - (1 : Int32))) x1 x2 x3
        else none
def F9_orders_l48 (rc : Nat → Int32 → Int32 → Mem → Option (Int32 × Mem)) : Nat → Mem → Int32 → Int32 → Int32 → Option (Int32 × Mem)
  | 0, _, _, _, _ => none
  | fu + 1, M, x1, x2, x3 => F9_orders_l48_b rc (F9_orders_l48 rc fu) M x1 x2 x3
def F9_orders (rc : Nat → Int32 → Int32 → Mem → Option (Int32 × Mem)) (M : Mem) (a1 : Int32) (a2 : Int32) : Option (Int32 × Mem) :=
    if ¬ a1 = 0 then
      F9_orders_l48 rc FUEL M a1 a2 (0 : Int32)
    else
      Option.bind (F9_backOf M) fun r2 =>
      if ¬ r2.1 = a2 then
        some ((0 : Int32), r2.2)
      else
        if ¬ ((r2.2 0 43) + (1 : Int32)) = (1 : Int32) then
          some ((0 : Int32), (up2 (up2 r2.2 0 43 ((r2.2 0 43) + (1 : Int32))) 0 44 (r2.2 0 44)))
        else
          Option.bind (F9_digitsOf (up2 r2.2 0 43 ((r2.2 0 43) + (1 : Int32)))) fun r6 =>
          some ((0 : Int32), (up2 r6.2 0 44 r6.1))
set_option maxRecDepth 20000 in
theorem F9_orders_j107_ok {p : Program} {l : Launch} {e : Env} {s : State} {m : MethodId} {args : Array Value} {below : List Frame} {meth : Method} {c : Code} {G : GG} {D : Nat} {r : Int32 × Mem} {rc : Nat → Int32 → Int32 → Mem → Option (Int32 × Mem)} {rec48 : Mem → Int32 → Int32 → Int32 → Option (Int32 × Mem)} (F : FrP shB G p s m args c RX9 cX9_orders 4) (hr : meth.sig.returnType = none) (hlk : meth.locks = false) (hD : 3 ≤ D) (hrc : (∀ (b0 : Int32) (b1 : Int32) (M : Mem) (r : Int32 × Mem), rc 0 b0 b1 M = some r → MetX shB l G yX9_orders cX9_orders 4 none (D - 1) [.ref 0, .int b0, .int b1] M (none, r.2))) (hrec48 : ∀ (M : Mem) (x1 : Int32) (x2 : Int32) (x3 : Int32), rec48 M x1 x2 x3 = some r → XJ shB p l e (rmX D) s m args below meth c 0 0 G 4 (MQ below (QcX shB G ((none, r.2) : Option Value × Mem).1 ((none, r.2) : Option Value × Mem).2) args s 0 0 (AW shB G.2.1)) 48 [(0, .ref 0), (1, .int x1), (2, .int x2), (3, .int x3)] [] M) {M : Mem} {x1 : Int32} {x2 : Int32} {x3 : Int32} (h : F9_orders_j107 rc rec48 M x1 x2 x3 = some r) : XJ shB p l e (rmX D) s m args below meth c 0 0 G 4 (MQ below (QcX shB G ((none, r.2) : Option Value × Mem).1 ((none, r.2) : Option Value × Mem).2) args s 0 0 (AW shB G.2.1)) 107 [(0, .ref 0), (1, .int x1), (2, .int x2), (3, .int x3)] [] M := by
  unfold F9_orders_j107 at h
  refine X_iinc F dX9_orders_107 rfl (v := (1 : Int32)) rfl (by decide) rfl ?_
  refine X_goto (tgt := 48) F dX9_orders_110 (by decide) ?_
  refine X_pick [1, 2, 3, 0] rfl ?_
  exact hrec48 _ _ _ _ h
set_option maxRecDepth 20000 in
theorem F9_orders_l48_bok {p : Program} {l : Launch} {e : Env} {s : State} {m : MethodId} {args : Array Value} {below : List Frame} {meth : Method} {c : Code} {G : GG} {D : Nat} {r : Int32 × Mem} {rc : Nat → Int32 → Int32 → Mem → Option (Int32 × Mem)} {rec48 : Mem → Int32 → Int32 → Int32 → Option (Int32 × Mem)} (F : FrP shB G p s m args c RX9 cX9_orders 4) (hr : meth.sig.returnType = none) (hlk : meth.locks = false) (hD : 3 ≤ D) (hrc : (∀ (b0 : Int32) (b1 : Int32) (M : Mem) (r : Int32 × Mem), rc 0 b0 b1 M = some r → MetX shB l G yX9_orders cX9_orders 4 none (D - 1) [.ref 0, .int b0, .int b1] M (none, r.2))) (hrec48 : ∀ (M : Mem) (x1 : Int32) (x2 : Int32) (x3 : Int32), rec48 M x1 x2 x3 = some r → XJ shB p l e (rmX D) s m args below meth c 0 0 G 4 (MQ below (QcX shB G ((none, r.2) : Option Value × Mem).1 ((none, r.2) : Option Value × Mem).2) args s 0 0 (AW shB G.2.1)) 48 [(0, .ref 0), (1, .int x1), (2, .int x2), (3, .int x3)] [] M) {M : Mem} {x1 : Int32} {x2 : Int32} {x3 : Int32} (h : F9_orders_l48_b rc rec48 M x1 x2 x3 = some r) : XJ shB p l e (rmX D) s m args below meth c 0 0 G 4 (MQ below (QcX shB G ((none, r.2) : Option Value × Mem).1 ((none, r.2) : Option Value × Mem).2) args s 0 0 (AW shB G.2.1)) 48 [(0, .ref 0), (1, .int x1), (2, .int x2), (3, .int x3)] [] M := by
  unfold F9_orders_l48_b at h
  refine X_iload_n F dX9_orders_48 rfl ?_
  refine X_aload_n F dX9_orders_49 rfl ?_
  refine X_geti (v := (M 0 16)) F ffRX9_92 dX9_orders_50 rfl ?_
  refine X_icmp_ge (tgt := 113) F dX9_orders_53 (by decide) (fun q8 => ?_) (fun q8 => ?_)
  · rw [if_pos q8] at h
    exact X_vret F hr hlk (retV h) dX9_orders_113
  · rw [if_neg q8] at h
    refine X_iload_n F dX9_orders_56 rfl ?_
    refine X_iload_n F dX9_orders_57 rfl ?_
    refine X_ishr F dX9_orders_58 ?_
    refine X_iconst F dX9_orders_59 (v := (1 : Int32)) rfl ?_
    refine X_iand F dX9_orders_60 ?_
    refine X_iconst F dX9_orders_61 (v := (1 : Int32)) rfl ?_
    refine X_icmp_ne (tgt := 107) F dX9_orders_62 (by decide) (fun q9 => ?_) (fun q9 => ?_)
    · rw [if_pos q9] at h
      exact F9_orders_j107_ok F hr hlk hD hrc hrec48 h
    · rw [if_neg (fun z => z q9)] at h
      refine X_aload_n F dX9_orders_65 rfl ?_
      refine X_getr F ffRX9_50 dX9_orders_66 ?_
      refine X_aload_n F dX9_orders_69 rfl ?_
      refine X_geti (v := (M 0 38)) F ffRX9_275 dX9_orders_70 rfl ?_
      refine X_iload_n F dX9_orders_73 rfl ?_
      obtain ⟨q10, h⟩ := ifS h
      refine X_iast (j := (Int32.toNatClampNeg (M 0 38))) F rfl (inbV q10) rfl dX9_orders_74 ?_
      refine X_aload_n F dX9_orders_75 rfl ?_
      refine X_dup F dX9_orders_76 rfl ?_
      refine X_geti (v := (M 0 38)) F ffRX9_275 dX9_orders_77 rfl ?_
      refine X_iconst F dX9_orders_80 (v := (1 : Int32)) rfl ?_
      refine X_iadd F dX9_orders_81 ?_
      refine X_puti F ffRX9_275 fw9_38 (by decide) dX9_orders_82 ?_
      refine X_aload_n F dX9_orders_85 rfl ?_
      refine X_iload_n F dX9_orders_86 rfl ?_
      refine X_iconst F dX9_orders_87 (v := (1 : Int32)) rfl ?_
      refine X_iload_n F dX9_orders_88 rfl ?_
      refine X_ishl F dX9_orders_89 ?_
      refine X_iconst F dX9_orders_90 (v := (-1 : Int32)) rfl ?_
      refine X_ixor F dX9_orders_91 ?_
      refine X_iand F dX9_orders_92 ?_
      refine X_iload_n F dX9_orders_93 rfl ?_
      obtain ⟨r11, h12, h⟩ := bndS h
      refine X_callV (ci := 0) (As := [.int (x1 &&& (((1 : Int32) <<< (x3 &&& 31)) ^^^ (-1 : Int32))), .int x2]) (rest := []) F fkRX9_339 feX9_orders fvX9_orders ⟨_, _, _, rfl, rfl, rfl⟩ (hrc _ _ _ _ h12) rfl rfl (Nat.le_of_ble_eq_true rfl) (rm_ok (by omega) (by decide)) dX9_orders_94 ?_
      show XJ shB p l e (rmX D) s m args below meth c 0 0 G 4 (MQ below (QcX shB G ((none, r.2) : Option Value × Mem).1 ((none, r.2) : Option Value × Mem).2) args s 0 0 (AW shB G.2.1)) 97 [(0, .ref 0), (1, .int x1), (2, .int x2), (3, .int x3)] [] r11.2
      refine X_aload_n F dX9_orders_97 rfl ?_
      refine X_dup F dX9_orders_98 rfl ?_
      refine X_geti (v := (r11.2 0 38)) F ffRX9_275 dX9_orders_99 rfl ?_
      refine X_iconst F dX9_orders_102 (v := (1 : Int32)) rfl ?_
      refine X_isub F dX9_orders_103 ?_
      refine X_puti F ffRX9_275 fw9_38 (by decide) dX9_orders_104 ?_
      exact F9_orders_j107_ok F hr hlk hD hrc hrec48 h
set_option maxRecDepth 20000 in
theorem F9_orders_l48_ok {p : Program} {l : Launch} {e : Env} {s : State} {m : MethodId} {args : Array Value} {below : List Frame} {meth : Method} {c : Code} {G : GG} {D : Nat} {r : Int32 × Mem} {rc : Nat → Int32 → Int32 → Mem → Option (Int32 × Mem)} (F : FrP shB G p s m args c RX9 cX9_orders 4) (hr : meth.sig.returnType = none) (hlk : meth.locks = false) (hD : 3 ≤ D) (hrc : (∀ (b0 : Int32) (b1 : Int32) (M : Mem) (r : Int32 × Mem), rc 0 b0 b1 M = some r → MetX shB l G yX9_orders cX9_orders 4 none (D - 1) [.ref 0, .int b0, .int b1] M (none, r.2))) : ∀ (fu : Nat) (M : Mem) (x1 : Int32) (x2 : Int32) (x3 : Int32), F9_orders_l48 rc fu M x1 x2 x3 = some r → XJ shB p l e (rmX D) s m args below meth c 0 0 G 4 (MQ below (QcX shB G ((none, r.2) : Option Value × Mem).1 ((none, r.2) : Option Value × Mem).2) args s 0 0 (AW shB G.2.1)) 48 [(0, .ref 0), (1, .int x1), (2, .int x2), (3, .int x3)] [] M := by
  intro fu
  induction fu with
  | zero => intro M x1 x2 x3 h; cases h
  | succ fu ih => intro M x1 x2 x3 h; exact F9_orders_l48_bok F hr hlk hD hrc (fun M x1 x2 x3 => ih M x1 x2 x3) h
set_option maxRecDepth 20000 in
theorem F9_orders_ok {p : Program} {l : Launch} {e : Env} {s : State} {m : MethodId} {args : Array Value} {below : List Frame} {meth : Method} {c : Code} {G : GG} {D : Nat} {r : Int32 × Mem} {rc : Nat → Int32 → Int32 → Mem → Option (Int32 × Mem)} (F : FrP shB G p s m args c RX9 cX9_orders 4) (hr : meth.sig.returnType = none) (hlk : meth.locks = false) (hD : 3 ≤ D) (hrc : (∀ (b0 : Int32) (b1 : Int32) (M : Mem) (r : Int32 × Mem), rc 0 b0 b1 M = some r → MetX shB l G yX9_orders cX9_orders 4 none (D - 1) [.ref 0, .int b0, .int b1] M (none, r.2))) {M : Mem} {a1 : Int32} {a2 : Int32} (h : F9_orders rc M a1 a2 = some r) : XJ shB p l e (rmX D) s m args below meth c 0 0 G 4 (MQ below (QcX shB G ((none, r.2) : Option Value × Mem).1 ((none, r.2) : Option Value × Mem).2) args s 0 0 (AW shB G.2.1)) 0 [(0, .ref 0), (1, .int a1), (2, .int a2)] [] M := by
  unfold F9_orders at h
  refine X_iload_n F dX9_orders_0 rfl ?_
  refine X_if_ne (tgt := 46) F dX9_orders_1 (by decide) (fun q1 => ?_) (fun q1 => ?_)
  · rw [if_pos q1] at h
    refine X_iconst F dX9_orders_46 (v := (0 : Int32)) rfl ?_
    refine X_istore_n F dX9_orders_47 (by decide) rfl ?_
    refine X_pick [1, 2, 3, 0] rfl ?_
    exact F9_orders_l48_ok F hr hlk hD hrc FUEL _ _ _ _ h
  · rw [if_neg (fun z => z q1)] at h
    refine X_aload_n F dX9_orders_4 rfl ?_
    obtain ⟨r2, h3, h⟩ := bndS h
    refine X_callV (ci := 0) (As := []) (rest := []) F fkRX9_288 feX9_backOf fvX9_backOf ⟨_, _, _, rfl, rfl, rfl⟩ (F9_backOf_met (D := D - 1) F.2.2.2.2.2.2.2.1 (by omega) h3) rfl rfl (Nat.le_of_ble_eq_true rfl) (rm_ok (by omega) (by decide)) dX9_orders_5 ?_
    show XJ shB p l e (rmX D) s m args below meth c 0 0 G 4 (MQ below (QcX shB G ((none, r.2) : Option Value × Mem).1 ((none, r.2) : Option Value × Mem).2) args s 0 0 (AW shB G.2.1)) 8 [(0, .ref 0), (1, .int a1), (2, .int a2)] [.int r2.1] r2.2
    refine X_iload_n F dX9_orders_8 rfl ?_
    refine X_icmp_ne (tgt := 45) F dX9_orders_9 (by decide) (fun q4 => ?_) (fun q4 => ?_)
    · rw [if_pos q4] at h
      exact X_vret F hr hlk (retV h) dX9_orders_45
    · rw [if_neg (fun z => z q4)] at h
      refine X_aload_n F dX9_orders_12 rfl ?_
      refine X_dup F dX9_orders_13 rfl ?_
      refine X_geti (v := (r2.2 0 43)) F ffRX9_333 dX9_orders_14 rfl ?_
      refine X_iconst F dX9_orders_17 (v := (1 : Int32)) rfl ?_
      refine X_iadd F dX9_orders_18 ?_
      refine X_puti F ffRX9_333 fw9_43 (by decide) dX9_orders_19 ?_
      refine X_aload_n F dX9_orders_22 rfl ?_
      refine X_aload_n F dX9_orders_23 rfl ?_
      refine X_geti (v := ((r2.2 0 43) + (1 : Int32))) F ffRX9_333 dX9_orders_24 rfl ?_
      refine X_iconst F dX9_orders_27 (v := (1 : Int32)) rfl ?_
      refine X_icmp_ne (tgt := 38) F dX9_orders_28 (by decide) (fun q5 => ?_) (fun q5 => ?_)
      · rw [if_pos q5] at h
        refine X_aload_n F dX9_orders_38 rfl ?_
        refine X_geti (v := (r2.2 0 44)) F ffRX9_336 dX9_orders_39 rfl ?_
        refine X_puti F ffRX9_336 fw9_44 (by decide) dX9_orders_42 ?_
        exact X_vret F hr hlk (retV h) dX9_orders_45
      · rw [if_neg (fun z => z q5)] at h
        refine X_aload_n F dX9_orders_31 rfl ?_
        obtain ⟨r6, h7, h⟩ := bndS h
        refine X_callV (ci := 0) (As := []) (rest := [.ref 0]) F fkRX9_297 feX9_digitsOf fvX9_digitsOf ⟨_, _, _, rfl, rfl, rfl⟩ (F9_digitsOf_met (D := D - 1) F.2.2.2.2.2.2.2.1 (by omega) h7) rfl rfl (Nat.le_of_ble_eq_true rfl) (rm_ok (by omega) (by decide)) dX9_orders_32 ?_
        show XJ shB p l e (rmX D) s m args below meth c 0 0 G 4 (MQ below (QcX shB G ((none, r.2) : Option Value × Mem).1 ((none, r.2) : Option Value × Mem).2) args s 0 0 (AW shB G.2.1)) 35 [(0, .ref 0), (1, .int a1), (2, .int a2)] [.int r6.1, .ref 0] r6.2
        refine X_goto (tgt := 42) F dX9_orders_35 (by decide) ?_
        refine X_puti F ffRX9_336 fw9_44 (by decide) dX9_orders_42 ?_
        exact X_vret F hr hlk (retV h) dX9_orders_45
def S5 : Nat → Nat → Int32 → Int32 → Mem → Option (Int32 × Mem)
  | 0, _, _, _, _ => none
  | fu + 1, _, b0, b1, M => F9_orders (S5 fu) M b0 b1
set_option maxRecDepth 20000 in
theorem S5_met {l : Launch} {G : GG} (hI : Inj shB G.2.1) : ∀ (fu D : Nat), 3 + fu ≤ D → ((∀ (b0 : Int32) (b1 : Int32) (M : Mem) (r : Int32 × Mem), S5 fu 0 b0 b1 M = some r → MetX shB l G yX9_orders cX9_orders 4 none (D) [.ref 0, .int b0, .int b1] M (none, r.2))) := by
  intro fu
  induction fu with
  | zero =>
    intro D _
    intro b0 b1 M r h; cases h
  | succ fu ih =>
    intro D hD
    have hrc := ih (D - 1) (by omega)
    intro b0 b1 M r h; exact X_met hI (by decide +kernel) (Nat.le_of_ble_eq_true rfl) (fun p e s m args below meth c F hr hlk => F9_orders_ok F hr hlk (by omega) hrc h)
set_option maxRecDepth 20000 in
theorem F9_orders_met {l : Launch} {G : GG} {D : Nat} {r : Int32 × Mem} {M : Mem} {b0 : Int32} {b1 : Int32} (hI : Inj shB G.2.1) (hD : 12 ≤ D) (h : S5 9 0 b0 b1 M = some r) : MetX shB l G yX9_orders cX9_orders 4 none D [.ref 0, .int b0, .int b1] M (none, r.2) := (S5_met hI 9 D hD) _ _ _ _ h

-- KeepOurPlaceModel.slip
def F9_slip_l69_b (rec69 : Mem → Int32 → Int32 → Int32 → Int32 → Option (Int32 × Mem)) (M : Mem) (x1 : Int32) (x2 : Int32) (x3 : Int32) (x4 : Int32) : Option (Int32 × Mem) :=
    if (M 0 38) ≤ x4 then
      if inb x1 4 = true then
      if inb ((((40 : Int32) * x1) + (M 19 (Int32.toNatClampNeg x1))) - (1 : Int32)) 160 = true then
      Option.bind (S5 9 0 x3 (M 20 (Int32.toNatClampNeg ((((40 : Int32) * x1) + (M 19 (Int32.toNatClampNeg x1))) - (1 : Int32)))) (up2 (up2 (up2 M 0 38 (0 : Int32)) 0 43 (0 : Int32)) 0 44 (-1 : Int32))) fun r18 =>
      if ¬ x2 = 0 then
        some ((r18.2 0 44), r18.2)
      else
        some ((r18.2 0 43), r18.2)
      else none
      else none
    else
      if inb x4 6 = true then
      rec69 M x1 x2 (x3 ||| ((1 : Int32) <<< ((M 13 (Int32.toNatClampNeg x4)) &&& 31))) (x4 + (1 : Int32))
      else none
def F9_slip_l69 : Nat → Mem → Int32 → Int32 → Int32 → Int32 → Option (Int32 × Mem)
  | 0, _, _, _, _, _ => none
  | fu + 1, M, x1, x2, x3, x4 => F9_slip_l69_b (F9_slip_l69 fu) M x1 x2 x3 x4
def F9_slip (M : Mem) (a1 : Int32) (a2 : Int32) : Option (Int32 × Mem) :=
    Option.bind (F9_isSheet M a1) fun r1 =>
    if r1.1 = 0 then
      some ((-2 : Int32), r1.2)
    else
      Option.bind (F9_in r1.2 (Int32.toInt64 a2) (0 : Int64) (1 : Int64)) fun r4 =>
      if ¬ r4.1 = 0 then
        if inb a1 4 = true then
        if ¬ (r4.2 17 (Int32.toNatClampNeg a1)) = 0 then
          if (r4.2 19 (Int32.toNatClampNeg a1)) = 0 then
            some ((-2 : Int32), r4.2)
          else
            Option.bind (F9_lays r4.2 a1 ((r4.2 19 (Int32.toNatClampNeg a1)) - (1 : Int32))) fun r10 =>
            if ¬ r10.1 = 0 then
              Option.bind (F9_gathers r10.2) fun r13 =>
              F9_slip_l69 FUEL r13.2 a1 a2 (0 : Int32) (0 : Int32)
            else
              some ((-2 : Int32), r10.2)
        else
          some ((-11 : Int32), r4.2)
        else none
      else
        some ((-2 : Int32), r4.2)
set_option maxRecDepth 20000 in
theorem F9_slip_l69_bok {p : Program} {l : Launch} {e : Env} {s : State} {m : MethodId} {args : Array Value} {below : List Frame} {meth : Method} {c : Code} {G : GG} {D : Nat} {r : Int32 × Mem} {rec69 : Mem → Int32 → Int32 → Int32 → Int32 → Option (Int32 × Mem)} (F : FrP shB G p s m args c RX9 cX9_slip 5) (hr : meth.sig.returnType = (some .int)) (hlk : meth.locks = false) (hD : 91 ≤ D) (hrec69 : ∀ (M : Mem) (x1 : Int32) (x2 : Int32) (x3 : Int32) (x4 : Int32), rec69 M x1 x2 x3 x4 = some r → XJ shB p l e (rmX D) s m args below meth c 0 0 G 5 (MQ below (QcX shB G ((some (.int r.1), r.2) : Option Value × Mem).1 ((some (.int r.1), r.2) : Option Value × Mem).2) args s 0 0 (AW shB G.2.1)) 69 [(0, .ref 0), (1, .int x1), (2, .int x2), (3, .int x3), (4, .int x4)] [] M) {M : Mem} {x1 : Int32} {x2 : Int32} {x3 : Int32} {x4 : Int32} (h : F9_slip_l69_b rec69 M x1 x2 x3 x4 = some r) : XJ shB p l e (rmX D) s m args below meth c 0 0 G 5 (MQ below (QcX shB G ((some (.int r.1), r.2) : Option Value × Mem).1 ((some (.int r.1), r.2) : Option Value × Mem).2) args s 0 0 (AW shB G.2.1)) 69 [(0, .ref 0), (1, .int x1), (2, .int x2), (3, .int x3), (4, .int x4)] [] M := by
  unfold F9_slip_l69_b at h
  refine X_iload F dX9_slip_69 rfl ?_
  refine X_aload_n F dX9_slip_71 rfl ?_
  refine X_geti (v := (M 0 38)) F ffRX9_275 dX9_slip_72 rfl ?_
  refine X_icmp_ge (tgt := 96) F dX9_slip_75 (by decide) (fun q15 => ?_) (fun q15 => ?_)
  · rw [if_pos q15] at h
    refine X_aload_n F dX9_slip_96 rfl ?_
    refine X_getr F ffRX9_75 dX9_slip_97 ?_
    refine X_bipush F dX9_slip_100 (v := (40 : Int32)) rfl ?_
    refine X_iload_n F dX9_slip_102 rfl ?_
    refine X_imul F dX9_slip_103 ?_
    refine X_aload_n F dX9_slip_104 rfl ?_
    refine X_getr F ffRX9_72 dX9_slip_105 ?_
    refine X_iload_n F dX9_slip_108 rfl ?_
    obtain ⟨q16, h⟩ := ifS h
    refine X_iald (j := (Int32.toNatClampNeg x1)) (v := (M 19 (Int32.toNatClampNeg x1))) F rfl (inbV q16) rfl rfl dX9_slip_109 ?_
    refine X_iadd F dX9_slip_110 ?_
    refine X_iconst F dX9_slip_111 (v := (1 : Int32)) rfl ?_
    refine X_isub F dX9_slip_112 ?_
    obtain ⟨q17, h⟩ := ifS h
    refine X_iald (j := (Int32.toNatClampNeg ((((40 : Int32) * x1) + (M 19 (Int32.toNatClampNeg x1))) - (1 : Int32)))) (v := (M 20 (Int32.toNatClampNeg ((((40 : Int32) * x1) + (M 19 (Int32.toNatClampNeg x1))) - (1 : Int32))))) F rfl (inbV q17) rfl rfl dX9_slip_113 ?_
    refine X_istore F dX9_slip_114 (by decide) rfl ?_
    refine X_aload_n F dX9_slip_116 rfl ?_
    refine X_iconst F dX9_slip_117 (v := (0 : Int32)) rfl ?_
    refine X_puti F ffRX9_275 fw9_38 (by decide) dX9_slip_118 ?_
    refine X_aload_n F dX9_slip_121 rfl ?_
    refine X_iconst F dX9_slip_122 (v := (0 : Int32)) rfl ?_
    refine X_puti F ffRX9_333 fw9_43 (by decide) dX9_slip_123 ?_
    refine X_aload_n F dX9_slip_126 rfl ?_
    refine X_iconst F dX9_slip_127 (v := (-1 : Int32)) rfl ?_
    refine X_puti F ffRX9_336 fw9_44 (by decide) dX9_slip_128 ?_
    refine X_aload_n F dX9_slip_131 rfl ?_
    refine X_iload_n F dX9_slip_132 rfl ?_
    refine X_iload F dX9_slip_133 rfl ?_
    obtain ⟨r18, h19, h⟩ := bndS h
    refine X_callV (ci := 0) (As := [.int x3, .int (M 20 (Int32.toNatClampNeg ((((40 : Int32) * x1) + (M 19 (Int32.toNatClampNeg x1))) - (1 : Int32))))]) (rest := []) F fkRX9_339 feX9_orders fvX9_orders ⟨_, _, _, rfl, rfl, rfl⟩ (F9_orders_met (D := D - 1) F.2.2.2.2.2.2.2.1 (by omega) h19) rfl rfl (Nat.le_of_ble_eq_true rfl) (rm_ok (by omega) (by decide)) dX9_slip_135 ?_
    show XJ shB p l e (rmX D) s m args below meth c 0 0 G 5 (MQ below (QcX shB G ((some (.int r.1), r.2) : Option Value × Mem).1 ((some (.int r.1), r.2) : Option Value × Mem).2) args s 0 0 (AW shB G.2.1)) 138 [(4, .int (M 20 (Int32.toNatClampNeg ((((40 : Int32) * x1) + (M 19 (Int32.toNatClampNeg x1))) - (1 : Int32))))), (0, .ref 0), (1, .int x1), (2, .int x2), (3, .int x3)] [] r18.2
    refine X_iload_n F dX9_slip_138 rfl ?_
    refine X_if_ne (tgt := 149) F dX9_slip_139 (by decide) (fun q20 => ?_) (fun q20 => ?_)
    · rw [if_pos q20] at h
      refine X_aload_n F dX9_slip_149 rfl ?_
      refine X_geti (v := (r18.2 0 44)) F ffRX9_336 dX9_slip_150 rfl ?_
      exact X_iret F hr hlk (retI h) dX9_slip_153
    · rw [if_neg (fun z => z q20)] at h
      refine X_aload_n F dX9_slip_142 rfl ?_
      refine X_geti (v := (r18.2 0 43)) F ffRX9_333 dX9_slip_143 rfl ?_
      refine X_goto (tgt := 153) F dX9_slip_146 (by decide) ?_
      exact X_iret F hr hlk (retI h) dX9_slip_153
  · rw [if_neg q15] at h
    refine X_iload_n F dX9_slip_78 rfl ?_
    refine X_iconst F dX9_slip_79 (v := (1 : Int32)) rfl ?_
    refine X_aload_n F dX9_slip_80 rfl ?_
    refine X_getr F ffRX9_50 dX9_slip_81 ?_
    refine X_iload F dX9_slip_84 rfl ?_
    obtain ⟨q21, h⟩ := ifS h
    refine X_iald (j := (Int32.toNatClampNeg x4)) (v := (M 13 (Int32.toNatClampNeg x4))) F rfl (inbV q21) rfl rfl dX9_slip_86 ?_
    refine X_ishl F dX9_slip_87 ?_
    refine X_ior F dX9_slip_88 ?_
    refine X_istore_n F dX9_slip_89 (by decide) rfl ?_
    refine X_iinc F dX9_slip_90 rfl (v := (1 : Int32)) rfl (by decide) rfl ?_
    refine X_goto (tgt := 69) F dX9_slip_93 (by decide) ?_
    refine X_pick [2, 3, 4, 1, 0] rfl ?_
    exact hrec69 _ _ _ _ _ h
set_option maxRecDepth 20000 in
theorem F9_slip_l69_ok {p : Program} {l : Launch} {e : Env} {s : State} {m : MethodId} {args : Array Value} {below : List Frame} {meth : Method} {c : Code} {G : GG} {D : Nat} {r : Int32 × Mem} (F : FrP shB G p s m args c RX9 cX9_slip 5) (hr : meth.sig.returnType = (some .int)) (hlk : meth.locks = false) (hD : 91 ≤ D) : ∀ (fu : Nat) (M : Mem) (x1 : Int32) (x2 : Int32) (x3 : Int32) (x4 : Int32), F9_slip_l69 fu M x1 x2 x3 x4 = some r → XJ shB p l e (rmX D) s m args below meth c 0 0 G 5 (MQ below (QcX shB G ((some (.int r.1), r.2) : Option Value × Mem).1 ((some (.int r.1), r.2) : Option Value × Mem).2) args s 0 0 (AW shB G.2.1)) 69 [(0, .ref 0), (1, .int x1), (2, .int x2), (3, .int x3), (4, .int x4)] [] M := by
  intro fu
  induction fu with
  | zero => intro M x1 x2 x3 x4 h; cases h
  | succ fu ih => intro M x1 x2 x3 x4 h; exact F9_slip_l69_bok F hr hlk hD (fun M x1 x2 x3 x4 => ih M x1 x2 x3 x4) h
set_option maxRecDepth 20000 in
theorem F9_slip_ok {p : Program} {l : Launch} {e : Env} {s : State} {m : MethodId} {args : Array Value} {below : List Frame} {meth : Method} {c : Code} {G : GG} {D : Nat} {r : Int32 × Mem} (F : FrP shB G p s m args c RX9 cX9_slip 5) (hr : meth.sig.returnType = (some .int)) (hlk : meth.locks = false) (hD : 91 ≤ D) {M : Mem} {a1 : Int32} {a2 : Int32} (h : F9_slip M a1 a2 = some r) : XJ shB p l e (rmX D) s m args below meth c 0 0 G 5 (MQ below (QcX shB G ((some (.int r.1), r.2) : Option Value × Mem).1 ((some (.int r.1), r.2) : Option Value × Mem).2) args s 0 0 (AW shB G.2.1)) 0 [(0, .ref 0), (1, .int a1), (2, .int a2)] [] M := by
  unfold F9_slip at h
  refine X_iload_n F dX9_slip_0 rfl ?_
  obtain ⟨r1, h2, h⟩ := bndS h
  refine X_callS (As := [.int a1]) (rest := []) F fsRX9_281 feX9_isSheet ftX9_isSheet (F9_isSheet_met (D := D - 1) F.2.2.2.2.2.2.2.1 (by omega) h2) rfl rfl (Nat.le_of_ble_eq_true rfl) (rm_ok (by omega) (by decide)) dX9_slip_1 ?_
  show XJ shB p l e (rmX D) s m args below meth c 0 0 G 5 (MQ below (QcX shB G ((some (.int r.1), r.2) : Option Value × Mem).1 ((some (.int r.1), r.2) : Option Value × Mem).2) args s 0 0 (AW shB G.2.1)) 4 [(0, .ref 0), (1, .int a1), (2, .int a2)] [.int r1.1] r1.2
  refine X_if_eq (tgt := 17) F dX9_slip_4 (by decide) (fun q3 => ?_) (fun q3 => ?_)
  · rw [if_pos q3] at h
    refine X_bipush F dX9_slip_17 (v := (-2 : Int32)) rfl ?_
    exact X_iret F hr hlk (retI h) dX9_slip_19
  · rw [if_neg q3] at h
    refine X_iload_n F dX9_slip_7 rfl ?_
    refine X_i2l F dX9_slip_8 ?_
    refine X_lconst F dX9_slip_9 (v := (0 : Int64)) rfl ?_
    refine X_lconst F dX9_slip_10 (v := (1 : Int64)) rfl ?_
    obtain ⟨r4, h5, h⟩ := bndS h
    refine X_callS (As := [.long (Int32.toInt64 a2), .long (0 : Int64), .long (1 : Int64)]) (rest := []) F fsRX9_88 feX9_in ftX9_in (F9_in_met (D := D - 1) F.2.2.2.2.2.2.2.1 (by omega) h5) rfl rfl (Nat.le_of_ble_eq_true rfl) (rm_ok (by omega) (by decide)) dX9_slip_11 ?_
    show XJ shB p l e (rmX D) s m args below meth c 0 0 G 5 (MQ below (QcX shB G ((some (.int r.1), r.2) : Option Value × Mem).1 ((some (.int r.1), r.2) : Option Value × Mem).2) args s 0 0 (AW shB G.2.1)) 14 [(0, .ref 0), (1, .int a1), (2, .int a2)] [.int r4.1] r4.2
    refine X_if_ne (tgt := 20) F dX9_slip_14 (by decide) (fun q6 => ?_) (fun q6 => ?_)
    · rw [if_pos q6] at h
      refine X_aload_n F dX9_slip_20 rfl ?_
      refine X_getr F ffRX9_65 dX9_slip_21 ?_
      refine X_iload_n F dX9_slip_24 rfl ?_
      obtain ⟨q7, h⟩ := ifS h
      refine X_zald (j := (Int32.toNatClampNeg a1)) (v := (r4.2 17 (Int32.toNatClampNeg a1))) F rfl (inbV q7) rfl rfl dX9_slip_25 ?_
      refine X_if_ne (tgt := 32) F dX9_slip_26 (by decide) (fun q8 => ?_) (fun q8 => ?_)
      · rw [if_pos q8] at h
        refine X_aload_n F dX9_slip_32 rfl ?_
        refine X_getr F ffRX9_72 dX9_slip_33 ?_
        refine X_iload_n F dX9_slip_36 rfl ?_
        refine X_iald (j := (Int32.toNatClampNeg a1)) (v := (r4.2 19 (Int32.toNatClampNeg a1))) F rfl (inbV q7) rfl rfl dX9_slip_37 ?_
        refine X_if_eq (tgt := 57) F dX9_slip_38 (by decide) (fun q9 => ?_) (fun q9 => ?_)
        · rw [if_pos q9] at h
          refine X_bipush F dX9_slip_57 (v := (-2 : Int32)) rfl ?_
          exact X_iret F hr hlk (retI h) dX9_slip_59
        · rw [if_neg q9] at h
          refine X_aload_n F dX9_slip_41 rfl ?_
          refine X_iload_n F dX9_slip_42 rfl ?_
          refine X_aload_n F dX9_slip_43 rfl ?_
          refine X_getr F ffRX9_72 dX9_slip_44 ?_
          refine X_iload_n F dX9_slip_47 rfl ?_
          refine X_iald (j := (Int32.toNatClampNeg a1)) (v := (r4.2 19 (Int32.toNatClampNeg a1))) F rfl (inbV q7) rfl rfl dX9_slip_48 ?_
          refine X_iconst F dX9_slip_49 (v := (1 : Int32)) rfl ?_
          refine X_isub F dX9_slip_50 ?_
          obtain ⟨r10, h11, h⟩ := bndS h
          refine X_callV (ci := 0) (As := [.int a1, .int ((r4.2 19 (Int32.toNatClampNeg a1)) - (1 : Int32))]) (rest := []) F fkRX9_284 feX9_lays fvX9_lays ⟨_, _, _, rfl, rfl, rfl⟩ (F9_lays_met (D := D - 1) F.2.2.2.2.2.2.2.1 (by omega) h11) rfl rfl (Nat.le_of_ble_eq_true rfl) (rm_ok (by omega) (by decide)) dX9_slip_51 ?_
          show XJ shB p l e (rmX D) s m args below meth c 0 0 G 5 (MQ below (QcX shB G ((some (.int r.1), r.2) : Option Value × Mem).1 ((some (.int r.1), r.2) : Option Value × Mem).2) args s 0 0 (AW shB G.2.1)) 54 [(0, .ref 0), (1, .int a1), (2, .int a2)] [.int r10.1] r10.2
          refine X_if_ne (tgt := 60) F dX9_slip_54 (by decide) (fun q12 => ?_) (fun q12 => ?_)
          · rw [if_pos q12] at h
            refine X_aload_n F dX9_slip_60 rfl ?_
            obtain ⟨r13, h14, h⟩ := bndS h
            refine X_callV (ci := 0) (As := []) (rest := []) F fkRX9_272 feX9_gathers fvX9_gathers ⟨_, _, _, rfl, rfl, rfl⟩ (F9_gathers_met (D := D - 1) F.2.2.2.2.2.2.2.1 (by omega) h14) rfl rfl (Nat.le_of_ble_eq_true rfl) (rm_ok (by omega) (by decide)) dX9_slip_61 ?_
            show XJ shB p l e (rmX D) s m args below meth c 0 0 G 5 (MQ below (QcX shB G ((some (.int r.1), r.2) : Option Value × Mem).1 ((some (.int r.1), r.2) : Option Value × Mem).2) args s 0 0 (AW shB G.2.1)) 64 [(0, .ref 0), (1, .int a1), (2, .int a2)] [] r13.2
            refine X_iconst F dX9_slip_64 (v := (0 : Int32)) rfl ?_
            refine X_istore_n F dX9_slip_65 (by decide) rfl ?_
            refine X_iconst F dX9_slip_66 (v := (0 : Int32)) rfl ?_
            refine X_istore F dX9_slip_67 (by decide) rfl ?_
            refine X_pick [2, 3, 4, 1, 0] rfl ?_
            exact F9_slip_l69_ok F hr hlk hD FUEL _ _ _ _ _ h
          · rw [if_neg (fun z => z q12)] at h
            refine X_bipush F dX9_slip_57 (v := (-2 : Int32)) rfl ?_
            exact X_iret F hr hlk (retI h) dX9_slip_59
      · rw [if_neg (fun z => z q8)] at h
        refine X_bipush F dX9_slip_29 (v := (-11 : Int32)) rfl ?_
        exact X_iret F hr hlk (retI h) dX9_slip_31
    · rw [if_neg (fun z => z q6)] at h
      refine X_bipush F dX9_slip_17 (v := (-2 : Int32)) rfl ?_
      exact X_iret F hr hlk (retI h) dX9_slip_19
set_option maxRecDepth 20000 in
theorem F9_slip_met {l : Launch} {G : GG} {D : Nat} {r : Int32 × Mem} {M : Mem} {a1 : Int32} {a2 : Int32} (hI : Inj shB G.2.1) (hD : 91 ≤ D) (h : F9_slip M a1 a2 = some r) : MetX shB l G yX9_slip cX9_slip 5 (some .int) D [.ref 0, .int a1, .int a2] M (some (.int r.1), r.2) :=
  X_met hI (by decide +kernel) (Nat.le_of_ble_eq_true rfl) (fun p e s m args below meth c F hr hlk => F9_slip_ok F hr hlk hD h)
-- KeepOurPlaceModel.ownOf
def F9_ownOf (M : Mem) (a1 : Int32) (a2 : Int32) : Option (Int64 × Mem) :=
    if inb (((40 : Int32) * a1) + a2) 160 = true then
    if ¬ a2 = 0 then
      if inb ((((40 : Int32) * a1) + a2) - (1 : Int32)) 160 = true then
      some (((Int32.toInt64 (M 20 (Int32.toNatClampNeg (((40 : Int32) * a1) + a2)))) - (Int32.toInt64 (M 20 (Int32.toNatClampNeg ((((40 : Int32) * a1) + a2) - (1 : Int32)))))), M)
      else none
    else
      some (((Int32.toInt64 (M 20 (Int32.toNatClampNeg (((40 : Int32) * a1) + a2)))) - (0 : Int64)), M)
    else none
set_option maxRecDepth 20000 in
theorem F9_ownOf_ok {p : Program} {l : Launch} {e : Env} {s : State} {m : MethodId} {args : Array Value} {below : List Frame} {meth : Method} {c : Code} {G : GG} {D : Nat} {r : Int64 × Mem} (F : FrP shB G p s m args c RX9 cX9_ownOf 3) (hr : meth.sig.returnType = (some .long)) (hlk : meth.locks = false) (hD : 1 ≤ D) {M : Mem} {a1 : Int32} {a2 : Int32} (h : F9_ownOf M a1 a2 = some r) : XJ shB p l e (rmX D) s m args below meth c 0 0 G 3 (MQ below (QcX shB G ((some (.long r.1), r.2) : Option Value × Mem).1 ((some (.long r.1), r.2) : Option Value × Mem).2) args s 0 0 (AW shB G.2.1)) 0 [(0, .ref 0), (1, .int a1), (2, .int a2)] [] M := by
  unfold F9_ownOf at h
  refine X_aload_n F dX9_ownOf_0 rfl ?_
  refine X_getr F ffRX9_75 dX9_ownOf_1 ?_
  refine X_bipush F dX9_ownOf_4 (v := (40 : Int32)) rfl ?_
  refine X_iload_n F dX9_ownOf_6 rfl ?_
  refine X_imul F dX9_ownOf_7 ?_
  refine X_iload_n F dX9_ownOf_8 rfl ?_
  refine X_iadd F dX9_ownOf_9 ?_
  obtain ⟨q1, h⟩ := ifS h
  refine X_iald (j := (Int32.toNatClampNeg (((40 : Int32) * a1) + a2))) (v := (M 20 (Int32.toNatClampNeg (((40 : Int32) * a1) + a2)))) F rfl (inbV q1) rfl rfl dX9_ownOf_10 ?_
  refine X_i2l F dX9_ownOf_11 ?_
  refine X_iload_n F dX9_ownOf_12 rfl ?_
  refine X_if_ne (tgt := 20) F dX9_ownOf_13 (by decide) (fun q2 => ?_) (fun q2 => ?_)
  · rw [if_pos q2] at h
    refine X_aload_n F dX9_ownOf_20 rfl ?_
    refine X_getr F ffRX9_75 dX9_ownOf_21 ?_
    refine X_bipush F dX9_ownOf_24 (v := (40 : Int32)) rfl ?_
    refine X_iload_n F dX9_ownOf_26 rfl ?_
    refine X_imul F dX9_ownOf_27 ?_
    refine X_iload_n F dX9_ownOf_28 rfl ?_
    refine X_iadd F dX9_ownOf_29 ?_
    refine X_iconst F dX9_ownOf_30 (v := (1 : Int32)) rfl ?_
    refine X_isub F dX9_ownOf_31 ?_
    obtain ⟨q3, h⟩ := ifS h
    refine X_iald (j := (Int32.toNatClampNeg ((((40 : Int32) * a1) + a2) - (1 : Int32)))) (v := (M 20 (Int32.toNatClampNeg ((((40 : Int32) * a1) + a2) - (1 : Int32))))) F rfl (inbV q3) rfl rfl dX9_ownOf_32 ?_
    refine X_i2l F dX9_ownOf_33 ?_
    refine X_lsub F dX9_ownOf_34 ?_
    exact X_lret F hr hlk (retL h) dX9_ownOf_35
  · rw [if_neg (fun z => z q2)] at h
    refine X_lconst F dX9_ownOf_16 (v := (0 : Int64)) rfl ?_
    refine X_goto (tgt := 34) F dX9_ownOf_17 (by decide) ?_
    refine X_lsub F dX9_ownOf_34 ?_
    exact X_lret F hr hlk (retL h) dX9_ownOf_35
set_option maxRecDepth 20000 in
theorem F9_ownOf_met {l : Launch} {G : GG} {D : Nat} {r : Int64 × Mem} {M : Mem} {a1 : Int32} {a2 : Int32} (hI : Inj shB G.2.1) (hD : 1 ≤ D) (h : F9_ownOf M a1 a2 = some r) : MetX shB l G yX9_ownOf cX9_ownOf 3 (some .long) D [.ref 0, .int a1, .int a2] M (some (.long r.1), r.2) :=
  X_met hI (by decide +kernel) (Nat.le_of_ble_eq_true rfl) (fun p e s m args below meth c F hr hlk => F9_ownOf_ok F hr hlk hD h)
-- KeepOurPlaceModel.served
def F9_served_j154 (rec117 : Mem → Int32 → Int32 → Int32 → Int32 → Int32 → Option (Int32 × Mem)) (M : Mem) (x1 : Int32) (x2 : Int32) (x3 : Int32) (x5 : Int32) (y0 : Int32) (y1 : Int32) : Option (Int32 × Mem) :=
    rec117 M x1 x2 x3 (y1 ||| (y0 <<< (x5 &&& 31))) (x5 + (1 : Int32))
def F9_served_l117_b (rec117 : Mem → Int32 → Int32 → Int32 → Int32 → Int32 → Option (Int32 × Mem)) (M : Mem) (x1 : Int32) (x2 : Int32) (x3 : Int32) (x4 : Int32) (x5 : Int32) : Option (Int32 × Mem) :=
    if (5 : Int32) < x5 then
      if inb x2 8 = true then
      some (x4, (up2 M 4 (Int32.toNatClampNeg x2) x3))
      else none
    else
      if inb x2 8 = true then
      Option.bind (F9_ownOf (up2 M 4 (Int32.toNatClampNeg x2) x5) x1 x2) fun r23 =>
      Option.bind (F9_secondsOf r23.2 x2) fun r25 =>
      if ¬ (lg_cmp r23.1 (Int32.toInt64 r25.1)) = 0 then
        F9_served_j154 rec117 r25.2 x1 x2 x3 x5 (0 : Int32) x4
      else
        F9_served_j154 rec117 r25.2 x1 x2 x3 x5 (1 : Int32) x4
      else none
def F9_served_l117 : Nat → Mem → Int32 → Int32 → Int32 → Int32 → Int32 → Option (Int32 × Mem)
  | 0, _, _, _, _, _, _ => none
  | fu + 1, M, x1, x2, x3, x4, x5 => F9_served_l117_b (F9_served_l117 fu) M x1 x2 x3 x4 x5
def F9_served_l68_b (rec68 : Mem → Int32 → Int32 → Option (Int32 × Mem)) (M : Mem) (x1 : Int32) (x3 : Int32) : Option (Int32 × Mem) :=
    if inb x1 4 = true then
    if (M 19 (Int32.toNatClampNeg x1)) ≤ x3 then
      some ((-1 : Int32), M)
    else
      Option.bind (F9_ownOf M x1 x3) fun r15 =>
      Option.bind (F9_secondsOf r15.2 x3) fun r17 =>
      if (lg_cmp r15.1 (Int32.toInt64 r17.1)) = 0 then
        rec68 r17.2 x1 (x3 + (1 : Int32))
      else
        some (x3, r17.2)
    else none
def F9_served_l68 : Nat → Mem → Int32 → Int32 → Option (Int32 × Mem)
  | 0, _, _, _ => none
  | fu + 1, M, x1, x3 => F9_served_l68_b (F9_served_l68 fu) M x1 x3
def F9_served_j61 (M : Mem) (x1 : Int32) (x2 : Int32) : Option (Int32 × Mem) :=
    if ¬ x2 = (-1 : Int32) then
      if inb x2 8 = true then
      F9_served_l117 FUEL M x1 x2 (M 4 (Int32.toNatClampNeg x2)) (0 : Int32) (0 : Int32)
      else none
    else
      F9_served_l68 FUEL M x1 (0 : Int32)
def F9_served (M : Mem) (a1 : Int32) (a2 : Int32) : Option (Int32 × Mem) :=
    Option.bind (F9_isSheet M a1) fun r1 =>
    if ¬ r1.1 = 0 then
      if inb a1 4 = true then
      if ¬ (r1.2 17 (Int32.toNatClampNeg a1)) = 0 then
        if (r1.2 0 10) < (r1.2 19 (Int32.toNatClampNeg a1)) then
          some ((-2 : Int32), r1.2)
        else
          if a2 = (-1 : Int32) then
            F9_served_j61 r1.2 a1 a2
          else
            Option.bind (F9_in r1.2 (Int32.toInt64 a2) (0 : Int64) (Int32.toInt64 ((r1.2 19 (Int32.toNatClampNeg a1)) - (1 : Int32)))) fun r8 =>
            if ¬ r8.1 = 0 then
              F9_served_j61 r8.2 a1 a2
            else
              some ((-2 : Int32), r8.2)
      else
        some ((-11 : Int32), r1.2)
      else none
    else
      some ((-2 : Int32), r1.2)
set_option maxRecDepth 20000 in
theorem F9_served_j154_ok {p : Program} {l : Launch} {e : Env} {s : State} {m : MethodId} {args : Array Value} {below : List Frame} {meth : Method} {c : Code} {G : GG} {D : Nat} {r : Int32 × Mem} {rec117 : Mem → Int32 → Int32 → Int32 → Int32 → Int32 → Option (Int32 × Mem)} (F : FrP shB G p s m args c RX9 cX9_served 6) (hr : meth.sig.returnType = (some .int)) (hlk : meth.locks = false) (hD : 90 ≤ D) (hrec117 : ∀ (M : Mem) (x1 : Int32) (x2 : Int32) (x3 : Int32) (x4 : Int32) (x5 : Int32), rec117 M x1 x2 x3 x4 x5 = some r → XJ shB p l e (rmX D) s m args below meth c 0 0 G 6 (MQ below (QcX shB G ((some (.int r.1), r.2) : Option Value × Mem).1 ((some (.int r.1), r.2) : Option Value × Mem).2) args s 0 0 (AW shB G.2.1)) 117 [(0, .ref 0), (1, .int x1), (2, .int x2), (3, .int x3), (4, .int x4), (5, .int x5)] [] M) {M : Mem} {x1 : Int32} {x2 : Int32} {x3 : Int32} {x5 : Int32} {y0 : Int32} {y1 : Int32} (h : F9_served_j154 rec117 M x1 x2 x3 x5 y0 y1 = some r) : XJ shB p l e (rmX D) s m args below meth c 0 0 G 6 (MQ below (QcX shB G ((some (.int r.1), r.2) : Option Value × Mem).1 ((some (.int r.1), r.2) : Option Value × Mem).2) args s 0 0 (AW shB G.2.1)) 154 [(0, .ref 0), (1, .int x1), (2, .int x2), (3, .int x3), (5, .int x5)] [.int y0, .int y1] M := by
  unfold F9_served_j154 at h
  refine X_iload F dX9_served_154 rfl ?_
  refine X_ishl F dX9_served_156 ?_
  refine X_ior F dX9_served_157 ?_
  refine X_istore F dX9_served_158 (by decide) rfl ?_
  refine X_iinc F dX9_served_160 rfl (v := (1 : Int32)) rfl (by decide) rfl ?_
  refine X_goto (tgt := 117) F dX9_served_163 (by decide) ?_
  refine X_pick [2, 3, 4, 5, 1, 0] rfl ?_
  exact hrec117 _ _ _ _ _ _ h
set_option maxRecDepth 20000 in
theorem F9_served_l117_bok {p : Program} {l : Launch} {e : Env} {s : State} {m : MethodId} {args : Array Value} {below : List Frame} {meth : Method} {c : Code} {G : GG} {D : Nat} {r : Int32 × Mem} {rec117 : Mem → Int32 → Int32 → Int32 → Int32 → Int32 → Option (Int32 × Mem)} (F : FrP shB G p s m args c RX9 cX9_served 6) (hr : meth.sig.returnType = (some .int)) (hlk : meth.locks = false) (hD : 90 ≤ D) (hrec117 : ∀ (M : Mem) (x1 : Int32) (x2 : Int32) (x3 : Int32) (x4 : Int32) (x5 : Int32), rec117 M x1 x2 x3 x4 x5 = some r → XJ shB p l e (rmX D) s m args below meth c 0 0 G 6 (MQ below (QcX shB G ((some (.int r.1), r.2) : Option Value × Mem).1 ((some (.int r.1), r.2) : Option Value × Mem).2) args s 0 0 (AW shB G.2.1)) 117 [(0, .ref 0), (1, .int x1), (2, .int x2), (3, .int x3), (4, .int x4), (5, .int x5)] [] M) {M : Mem} {x1 : Int32} {x2 : Int32} {x3 : Int32} {x4 : Int32} {x5 : Int32} (h : F9_served_l117_b rec117 M x1 x2 x3 x4 x5 = some r) : XJ shB p l e (rmX D) s m args below meth c 0 0 G 6 (MQ below (QcX shB G ((some (.int r.1), r.2) : Option Value × Mem).1 ((some (.int r.1), r.2) : Option Value × Mem).2) args s 0 0 (AW shB G.2.1)) 117 [(0, .ref 0), (1, .int x1), (2, .int x2), (3, .int x3), (4, .int x4), (5, .int x5)] [] M := by
  unfold F9_served_l117_b at h
  refine X_iload F dX9_served_117 rfl ?_
  refine X_iconst F dX9_served_119 (v := (5 : Int32)) rfl ?_
  refine X_icmp_gt (tgt := 166) F dX9_served_120 (by decide) (fun q20 => ?_) (fun q20 => ?_)
  · rw [if_pos q20] at h
    refine X_aload_n F dX9_served_166 rfl ?_
    refine X_getr F ffRX9_23 dX9_served_167 ?_
    refine X_iload_n F dX9_served_170 rfl ?_
    refine X_iload_n F dX9_served_171 rfl ?_
    obtain ⟨q21, h⟩ := ifS h
    refine X_iast (j := (Int32.toNatClampNeg x2)) F rfl (inbV q21) rfl dX9_served_172 ?_
    refine X_iload F dX9_served_173 rfl ?_
    exact X_iret F hr hlk (retI h) dX9_served_175
  · rw [if_neg q20] at h
    refine X_aload_n F dX9_served_123 rfl ?_
    refine X_getr F ffRX9_23 dX9_served_124 ?_
    refine X_iload_n F dX9_served_127 rfl ?_
    refine X_iload F dX9_served_128 rfl ?_
    obtain ⟨q22, h⟩ := ifS h
    refine X_iast (j := (Int32.toNatClampNeg x2)) F rfl (inbV q22) rfl dX9_served_130 ?_
    refine X_iload F dX9_served_131 rfl ?_
    refine X_aload_n F dX9_served_133 rfl ?_
    refine X_iload_n F dX9_served_134 rfl ?_
    refine X_iload_n F dX9_served_135 rfl ?_
    obtain ⟨r23, h24, h⟩ := bndS h
    refine X_callV (ci := 0) (As := [.int x1, .int x2]) (rest := [.int x4]) F fkRX9_342 feX9_ownOf fvX9_ownOf ⟨_, _, _, rfl, rfl, rfl⟩ (F9_ownOf_met (D := D - 1) F.2.2.2.2.2.2.2.1 (by omega) h24) rfl rfl (Nat.le_of_ble_eq_true rfl) (rm_ok (by omega) (by decide)) dX9_served_136 ?_
    show XJ shB p l e (rmX D) s m args below meth c 0 0 G 6 (MQ below (QcX shB G ((some (.int r.1), r.2) : Option Value × Mem).1 ((some (.int r.1), r.2) : Option Value × Mem).2) args s 0 0 (AW shB G.2.1)) 139 [(0, .ref 0), (1, .int x1), (2, .int x2), (3, .int x3), (4, .int x4), (5, .int x5)] [.long r23.1, .int x4] r23.2
    refine X_aload_n F dX9_served_139 rfl ?_
    refine X_iload_n F dX9_served_140 rfl ?_
    obtain ⟨r25, h26, h⟩ := bndS h
    refine X_callV (ci := 0) (As := [.int x2]) (rest := [.long r23.1, .int x4]) F fkRX9_125 feX9_secondsOf fvX9_secondsOf ⟨_, _, _, rfl, rfl, rfl⟩ (F9_secondsOf_met (D := D - 1) F.2.2.2.2.2.2.2.1 (by omega) h26) rfl rfl (Nat.le_of_ble_eq_true rfl) (rm_ok (by omega) (by decide)) dX9_served_141 ?_
    show XJ shB p l e (rmX D) s m args below meth c 0 0 G 6 (MQ below (QcX shB G ((some (.int r.1), r.2) : Option Value × Mem).1 ((some (.int r.1), r.2) : Option Value × Mem).2) args s 0 0 (AW shB G.2.1)) 144 [(0, .ref 0), (1, .int x1), (2, .int x2), (3, .int x3), (4, .int x4), (5, .int x5)] [.int r25.1, .long r23.1, .int x4] r25.2
    refine X_i2l F dX9_served_144 ?_
    refine X_lcmp F dX9_served_145 ?_
    refine X_if_ne (tgt := 153) F dX9_served_146 (by decide) (fun q27 => ?_) (fun q27 => ?_)
    · rw [if_pos q27] at h
      refine X_iconst F dX9_served_153 (v := (0 : Int32)) rfl ?_
      refine X_pick [0, 1, 2, 3, 5] rfl ?_
      exact F9_served_j154_ok F hr hlk hD hrec117 h
    · rw [if_neg (fun z => z q27)] at h
      refine X_iconst F dX9_served_149 (v := (1 : Int32)) rfl ?_
      refine X_goto (tgt := 154) F dX9_served_150 (by decide) ?_
      refine X_pick [0, 1, 2, 3, 5] rfl ?_
      exact F9_served_j154_ok F hr hlk hD hrec117 h
set_option maxRecDepth 20000 in
theorem F9_served_l117_ok {p : Program} {l : Launch} {e : Env} {s : State} {m : MethodId} {args : Array Value} {below : List Frame} {meth : Method} {c : Code} {G : GG} {D : Nat} {r : Int32 × Mem} (F : FrP shB G p s m args c RX9 cX9_served 6) (hr : meth.sig.returnType = (some .int)) (hlk : meth.locks = false) (hD : 90 ≤ D) : ∀ (fu : Nat) (M : Mem) (x1 : Int32) (x2 : Int32) (x3 : Int32) (x4 : Int32) (x5 : Int32), F9_served_l117 fu M x1 x2 x3 x4 x5 = some r → XJ shB p l e (rmX D) s m args below meth c 0 0 G 6 (MQ below (QcX shB G ((some (.int r.1), r.2) : Option Value × Mem).1 ((some (.int r.1), r.2) : Option Value × Mem).2) args s 0 0 (AW shB G.2.1)) 117 [(0, .ref 0), (1, .int x1), (2, .int x2), (3, .int x3), (4, .int x4), (5, .int x5)] [] M := by
  intro fu
  induction fu with
  | zero => intro M x1 x2 x3 x4 x5 h; cases h
  | succ fu ih => intro M x1 x2 x3 x4 x5 h; exact F9_served_l117_bok F hr hlk hD (fun M x1 x2 x3 x4 x5 => ih M x1 x2 x3 x4 x5) h
set_option maxRecDepth 20000 in
theorem F9_served_l68_bok {p : Program} {l : Launch} {e : Env} {s : State} {m : MethodId} {args : Array Value} {below : List Frame} {meth : Method} {c : Code} {G : GG} {D : Nat} {r : Int32 × Mem} {rec68 : Mem → Int32 → Int32 → Option (Int32 × Mem)} (F : FrP shB G p s m args c RX9 cX9_served 6) (hr : meth.sig.returnType = (some .int)) (hlk : meth.locks = false) (hD : 90 ≤ D) (hrec68 : ∀ (M : Mem) (x1 : Int32) (x3 : Int32), rec68 M x1 x3 = some r → XJ shB p l e (rmX D) s m args below meth c 0 0 G 6 (MQ below (QcX shB G ((some (.int r.1), r.2) : Option Value × Mem).1 ((some (.int r.1), r.2) : Option Value × Mem).2) args s 0 0 (AW shB G.2.1)) 68 [(0, .ref 0), (1, .int x1), (3, .int x3)] [] M) {M : Mem} {x1 : Int32} {x3 : Int32} (h : F9_served_l68_b rec68 M x1 x3 = some r) : XJ shB p l e (rmX D) s m args below meth c 0 0 G 6 (MQ below (QcX shB G ((some (.int r.1), r.2) : Option Value × Mem).1 ((some (.int r.1), r.2) : Option Value × Mem).2) args s 0 0 (AW shB G.2.1)) 68 [(0, .ref 0), (1, .int x1), (3, .int x3)] [] M := by
  unfold F9_served_l68_b at h
  refine X_iload_n F dX9_served_68 rfl ?_
  refine X_aload_n F dX9_served_69 rfl ?_
  refine X_getr F ffRX9_72 dX9_served_70 ?_
  refine X_iload_n F dX9_served_73 rfl ?_
  obtain ⟨q13, h⟩ := ifS h
  refine X_iald (j := (Int32.toNatClampNeg x1)) (v := (M 19 (Int32.toNatClampNeg x1))) F rfl (inbV q13) rfl rfl dX9_served_74 ?_
  refine X_icmp_ge (tgt := 102) F dX9_served_75 (by decide) (fun q14 => ?_) (fun q14 => ?_)
  · rw [if_pos q14] at h
    refine X_iconst F dX9_served_102 (v := (-1 : Int32)) rfl ?_
    exact X_iret F hr hlk (retI h) dX9_served_103
  · rw [if_neg q14] at h
    refine X_aload_n F dX9_served_78 rfl ?_
    refine X_iload_n F dX9_served_79 rfl ?_
    refine X_iload_n F dX9_served_80 rfl ?_
    obtain ⟨r15, h16, h⟩ := bndS h
    refine X_callV (ci := 0) (As := [.int x1, .int x3]) (rest := []) F fkRX9_342 feX9_ownOf fvX9_ownOf ⟨_, _, _, rfl, rfl, rfl⟩ (F9_ownOf_met (D := D - 1) F.2.2.2.2.2.2.2.1 (by omega) h16) rfl rfl (Nat.le_of_ble_eq_true rfl) (rm_ok (by omega) (by decide)) dX9_served_81 ?_
    show XJ shB p l e (rmX D) s m args below meth c 0 0 G 6 (MQ below (QcX shB G ((some (.int r.1), r.2) : Option Value × Mem).1 ((some (.int r.1), r.2) : Option Value × Mem).2) args s 0 0 (AW shB G.2.1)) 84 [(0, .ref 0), (1, .int x1), (3, .int x3)] [.long r15.1] r15.2
    refine X_aload_n F dX9_served_84 rfl ?_
    refine X_iload_n F dX9_served_85 rfl ?_
    obtain ⟨r17, h18, h⟩ := bndS h
    refine X_callV (ci := 0) (As := [.int x3]) (rest := [.long r15.1]) F fkRX9_125 feX9_secondsOf fvX9_secondsOf ⟨_, _, _, rfl, rfl, rfl⟩ (F9_secondsOf_met (D := D - 1) F.2.2.2.2.2.2.2.1 (by omega) h18) rfl rfl (Nat.le_of_ble_eq_true rfl) (rm_ok (by omega) (by decide)) dX9_served_86 ?_
    show XJ shB p l e (rmX D) s m args below meth c 0 0 G 6 (MQ below (QcX shB G ((some (.int r.1), r.2) : Option Value × Mem).1 ((some (.int r.1), r.2) : Option Value × Mem).2) args s 0 0 (AW shB G.2.1)) 89 [(0, .ref 0), (1, .int x1), (3, .int x3)] [.int r17.1, .long r15.1] r17.2
    refine X_i2l F dX9_served_89 ?_
    refine X_lcmp F dX9_served_90 ?_
    refine X_if_eq (tgt := 96) F dX9_served_91 (by decide) (fun q19 => ?_) (fun q19 => ?_)
    · rw [if_pos q19] at h
      refine X_iinc F dX9_served_96 rfl (v := (1 : Int32)) rfl (by decide) rfl ?_
      refine X_goto (tgt := 68) F dX9_served_99 (by decide) ?_
      refine X_pick [1, 2, 0] rfl ?_
      exact hrec68 _ _ _ h
    · rw [if_neg q19] at h
      refine X_iload_n F dX9_served_94 rfl ?_
      exact X_iret F hr hlk (retI h) dX9_served_95
set_option maxRecDepth 20000 in
theorem F9_served_l68_ok {p : Program} {l : Launch} {e : Env} {s : State} {m : MethodId} {args : Array Value} {below : List Frame} {meth : Method} {c : Code} {G : GG} {D : Nat} {r : Int32 × Mem} (F : FrP shB G p s m args c RX9 cX9_served 6) (hr : meth.sig.returnType = (some .int)) (hlk : meth.locks = false) (hD : 90 ≤ D) : ∀ (fu : Nat) (M : Mem) (x1 : Int32) (x3 : Int32), F9_served_l68 fu M x1 x3 = some r → XJ shB p l e (rmX D) s m args below meth c 0 0 G 6 (MQ below (QcX shB G ((some (.int r.1), r.2) : Option Value × Mem).1 ((some (.int r.1), r.2) : Option Value × Mem).2) args s 0 0 (AW shB G.2.1)) 68 [(0, .ref 0), (1, .int x1), (3, .int x3)] [] M := by
  intro fu
  induction fu with
  | zero => intro M x1 x3 h; cases h
  | succ fu ih => intro M x1 x3 h; exact F9_served_l68_bok F hr hlk hD (fun M x1 x3 => ih M x1 x3) h
set_option maxRecDepth 20000 in
theorem F9_served_j61_ok {p : Program} {l : Launch} {e : Env} {s : State} {m : MethodId} {args : Array Value} {below : List Frame} {meth : Method} {c : Code} {G : GG} {D : Nat} {r : Int32 × Mem} (F : FrP shB G p s m args c RX9 cX9_served 6) (hr : meth.sig.returnType = (some .int)) (hlk : meth.locks = false) (hD : 90 ≤ D) {M : Mem} {x1 : Int32} {x2 : Int32} (h : F9_served_j61 M x1 x2 = some r) : XJ shB p l e (rmX D) s m args below meth c 0 0 G 6 (MQ below (QcX shB G ((some (.int r.1), r.2) : Option Value × Mem).1 ((some (.int r.1), r.2) : Option Value × Mem).2) args s 0 0 (AW shB G.2.1)) 61 [(0, .ref 0), (1, .int x1), (2, .int x2)] [] M := by
  unfold F9_served_j61 at h
  refine X_iload_n F dX9_served_61 rfl ?_
  refine X_iconst F dX9_served_62 (v := (-1 : Int32)) rfl ?_
  refine X_icmp_ne (tgt := 104) F dX9_served_63 (by decide) (fun q11 => ?_) (fun q11 => ?_)
  · rw [if_pos q11] at h
    refine X_aload_n F dX9_served_104 rfl ?_
    refine X_getr F ffRX9_23 dX9_served_105 ?_
    refine X_iload_n F dX9_served_108 rfl ?_
    obtain ⟨q12, h⟩ := ifS h
    refine X_iald (j := (Int32.toNatClampNeg x2)) (v := (M 4 (Int32.toNatClampNeg x2))) F rfl (inbV q12) rfl rfl dX9_served_109 ?_
    refine X_istore_n F dX9_served_110 (by decide) rfl ?_
    refine X_iconst F dX9_served_111 (v := (0 : Int32)) rfl ?_
    refine X_istore F dX9_served_112 (by decide) rfl ?_
    refine X_iconst F dX9_served_114 (v := (0 : Int32)) rfl ?_
    refine X_istore F dX9_served_115 (by decide) rfl ?_
    refine X_pick [3, 4, 5, 2, 1, 0] rfl ?_
    exact F9_served_l117_ok F hr hlk hD FUEL _ _ _ _ _ _ h
  · rw [if_neg (fun z => z q11)] at h
    refine X_iconst F dX9_served_66 (v := (0 : Int32)) rfl ?_
    refine X_istore_n F dX9_served_67 (by decide) rfl ?_
    refine X_pick [1, 2, 0] rfl ?_
    exact F9_served_l68_ok F hr hlk hD FUEL _ _ _ h
set_option maxRecDepth 20000 in
theorem F9_served_ok {p : Program} {l : Launch} {e : Env} {s : State} {m : MethodId} {args : Array Value} {below : List Frame} {meth : Method} {c : Code} {G : GG} {D : Nat} {r : Int32 × Mem} (F : FrP shB G p s m args c RX9 cX9_served 6) (hr : meth.sig.returnType = (some .int)) (hlk : meth.locks = false) (hD : 90 ≤ D) {M : Mem} {a1 : Int32} {a2 : Int32} (h : F9_served M a1 a2 = some r) : XJ shB p l e (rmX D) s m args below meth c 0 0 G 6 (MQ below (QcX shB G ((some (.int r.1), r.2) : Option Value × Mem).1 ((some (.int r.1), r.2) : Option Value × Mem).2) args s 0 0 (AW shB G.2.1)) 0 [(0, .ref 0), (1, .int a1), (2, .int a2)] [] M := by
  unfold F9_served at h
  refine X_iload_n F dX9_served_0 rfl ?_
  obtain ⟨r1, h2, h⟩ := bndS h
  refine X_callS (As := [.int a1]) (rest := []) F fsRX9_281 feX9_isSheet ftX9_isSheet (F9_isSheet_met (D := D - 1) F.2.2.2.2.2.2.2.1 (by omega) h2) rfl rfl (Nat.le_of_ble_eq_true rfl) (rm_ok (by omega) (by decide)) dX9_served_1 ?_
  show XJ shB p l e (rmX D) s m args below meth c 0 0 G 6 (MQ below (QcX shB G ((some (.int r.1), r.2) : Option Value × Mem).1 ((some (.int r.1), r.2) : Option Value × Mem).2) args s 0 0 (AW shB G.2.1)) 4 [(0, .ref 0), (1, .int a1), (2, .int a2)] [.int r1.1] r1.2
  refine X_if_ne (tgt := 10) F dX9_served_4 (by decide) (fun q3 => ?_) (fun q3 => ?_)
  · rw [if_pos q3] at h
    refine X_aload_n F dX9_served_10 rfl ?_
    refine X_getr F ffRX9_65 dX9_served_11 ?_
    refine X_iload_n F dX9_served_14 rfl ?_
    obtain ⟨q4, h⟩ := ifS h
    refine X_zald (j := (Int32.toNatClampNeg a1)) (v := (r1.2 17 (Int32.toNatClampNeg a1))) F rfl (inbV q4) rfl rfl dX9_served_15 ?_
    refine X_if_ne (tgt := 22) F dX9_served_16 (by decide) (fun q5 => ?_) (fun q5 => ?_)
    · rw [if_pos q5] at h
      refine X_aload_n F dX9_served_22 rfl ?_
      refine X_getr F ffRX9_72 dX9_served_23 ?_
      refine X_iload_n F dX9_served_26 rfl ?_
      refine X_iald (j := (Int32.toNatClampNeg a1)) (v := (r1.2 19 (Int32.toNatClampNeg a1))) F rfl (inbV q4) rfl rfl dX9_served_27 ?_
      refine X_aload_n F dX9_served_28 rfl ?_
      refine X_geti (v := (r1.2 0 10)) F ffRX9_85 dX9_served_29 rfl ?_
      refine X_icmp_gt (tgt := 58) F dX9_served_32 (by decide) (fun q6 => ?_) (fun q6 => ?_)
      · rw [if_pos q6] at h
        refine X_bipush F dX9_served_58 (v := (-2 : Int32)) rfl ?_
        exact X_iret F hr hlk (retI h) dX9_served_60
      · rw [if_neg q6] at h
        refine X_iload_n F dX9_served_35 rfl ?_
        refine X_iconst F dX9_served_36 (v := (-1 : Int32)) rfl ?_
        refine X_icmp_eq (tgt := 61) F dX9_served_37 (by decide) (fun q7 => ?_) (fun q7 => ?_)
        · rw [if_pos q7] at h
          exact F9_served_j61_ok F hr hlk hD h
        · rw [if_neg q7] at h
          refine X_iload_n F dX9_served_40 rfl ?_
          refine X_i2l F dX9_served_41 ?_
          refine X_lconst F dX9_served_42 (v := (0 : Int64)) rfl ?_
          refine X_aload_n F dX9_served_43 rfl ?_
          refine X_getr F ffRX9_72 dX9_served_44 ?_
          refine X_iload_n F dX9_served_47 rfl ?_
          refine X_iald (j := (Int32.toNatClampNeg a1)) (v := (r1.2 19 (Int32.toNatClampNeg a1))) F rfl (inbV q4) rfl rfl dX9_served_48 ?_
          refine X_iconst F dX9_served_49 (v := (1 : Int32)) rfl ?_
          refine X_isub F dX9_served_50 ?_
          refine X_i2l F dX9_served_51 ?_
          obtain ⟨r8, h9, h⟩ := bndS h
          refine X_callS (As := [.long (Int32.toInt64 a2), .long (0 : Int64), .long (Int32.toInt64 ((r1.2 19 (Int32.toNatClampNeg a1)) - (1 : Int32)))]) (rest := []) F fsRX9_88 feX9_in ftX9_in (F9_in_met (D := D - 1) F.2.2.2.2.2.2.2.1 (by omega) h9) rfl rfl (Nat.le_of_ble_eq_true rfl) (rm_ok (by omega) (by decide)) dX9_served_52 ?_
          show XJ shB p l e (rmX D) s m args below meth c 0 0 G 6 (MQ below (QcX shB G ((some (.int r.1), r.2) : Option Value × Mem).1 ((some (.int r.1), r.2) : Option Value × Mem).2) args s 0 0 (AW shB G.2.1)) 55 [(0, .ref 0), (1, .int a1), (2, .int a2)] [.int r8.1] r8.2
          refine X_if_ne (tgt := 61) F dX9_served_55 (by decide) (fun q10 => ?_) (fun q10 => ?_)
          · rw [if_pos q10] at h
            exact F9_served_j61_ok F hr hlk hD h
          · rw [if_neg (fun z => z q10)] at h
            refine X_bipush F dX9_served_58 (v := (-2 : Int32)) rfl ?_
            exact X_iret F hr hlk (retI h) dX9_served_60
    · rw [if_neg (fun z => z q5)] at h
      refine X_bipush F dX9_served_19 (v := (-11 : Int32)) rfl ?_
      exact X_iret F hr hlk (retI h) dX9_served_21
  · rw [if_neg (fun z => z q3)] at h
    refine X_bipush F dX9_served_7 (v := (-2 : Int32)) rfl ?_
    exact X_iret F hr hlk (retI h) dX9_served_9
set_option maxRecDepth 20000 in
theorem F9_served_met {l : Launch} {G : GG} {D : Nat} {r : Int32 × Mem} {M : Mem} {a1 : Int32} {a2 : Int32} (hI : Inj shB G.2.1) (hD : 90 ≤ D) (h : F9_served M a1 a2 = some r) : MetX shB l G yX9_served cX9_served 6 (some .int) D [.ref 0, .int a1, .int a2] M (some (.int r.1), r.2) :=
  X_met hI (by decide +kernel) (Nat.le_of_ble_eq_true rfl) (fun p e s m args below meth c F hr hlk => F9_served_ok F hr hlk hD h)
