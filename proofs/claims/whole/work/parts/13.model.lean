/-! written by wip/whole/gen: the pure functions of these methods, read off their bytecode, and the walks that prove them -/
theorem fcRX9_367 : Cond.constantLong RX9 367 (-1 : Int64) ∈ TBL := tmem 1363 (by decide +kernel) rfl
theorem ffRX9_69 : FLT shB RX9 0 9 69 53 (.ref 18) := ⟨⟨RX9, TX9, 56, rfl, by decide, wsIn9, Or.inl (tmem 984 (by decide +kernel) rfl)⟩, _, rfl, rfl⟩
theorem fkRX9_346 : LNK RX9 346 yX9_sheet := Or.inl (tmem 1359 (by decide +kernel) rfl)
theorem feX9_sheet : CLE yX9_sheet 3 cX9_sheet 5 (some .int) := ⟨tmem 17 (by decide +kernel) rfl, tmem 1362 (by decide +kernel) rfl, by decide +kernel, by decide +kernel⟩
theorem fvX9_sheet : CLV yX9_sheet := ⟨tmem 1360 (by decide +kernel) rfl, tmem 1361 (by decide +kernel) rfl⟩
theorem fcRX9_349 : Cond.constant RX9 349 (1103515245 : Int32) ∈ TBL := tmem 1372 (by decide +kernel) rfl
theorem fkRX9_350 : LNK RX9 350 yX9_draws := Or.inl (tmem 1368 (by decide +kernel) rfl)
theorem feX9_draws : CLE yX9_draws 1 cX9_draws 5 (some .int) := ⟨tmem 17 (by decide +kernel) rfl, tmem 1371 (by decide +kernel) rfl, by decide +kernel, by decide +kernel⟩
theorem fvX9_draws : CLV yX9_draws := ⟨tmem 1370 (by decide +kernel) rfl, smem 104 (by decide +kernel) rfl⟩
theorem fcRX9_353 : Cond.constantLong RX9 353 (20 : Int64) ∈ TBL := tmem 1377 (by decide +kernel) rfl
theorem ffRX9_56 : FLT shB RX9 0 9 56 45 (.ref 15) := ⟨⟨RX9, TX9, 56, rfl, by decide, wsIn9, Or.inl (tmem 976 (by decide +kernel) rfl)⟩, _, rfl, rfl⟩
theorem ffRX9_62 : FLT shB RX9 0 9 62 47 (.int 0) := ⟨⟨RX9, TX9, 56, rfl, by decide, wsIn9, Or.inl (tmem 978 (by decide +kernel) rfl)⟩, _, rfl, rfl⟩
theorem fw9_47 : FLW 9 47 .int := ⟨RX9, TX9, 56, tyX9, rfl, tyX9_ok, nmX9, rfl, by decide +kernel⟩
theorem ffRX9_355 : FLT shB RX9 0 9 355 48 (.int 0) := ⟨⟨RX9, TX9, 56, rfl, by decide, wsIn9, Or.inl (tmem 979 (by decide +kernel) rfl)⟩, _, rfl, rfl⟩
theorem fw9_48 : FLW 9 48 .int := ⟨RX9, TX9, 56, tyX9, rfl, tyX9_ok, nmX9, rfl, by decide +kernel⟩
theorem ffRX9_358 : FLT shB RX9 0 9 358 49 (.int 0) := ⟨⟨RX9, TX9, 56, rfl, by decide, wsIn9, Or.inl (tmem 980 (by decide +kernel) rfl)⟩, _, rfl, rfl⟩
theorem fw9_49 : FLW 9 49 .int := ⟨RX9, TX9, 56, tyX9, rfl, tyX9_ok, nmX9, rfl, by decide +kernel⟩
theorem ffRX9_361 : FLT shB RX9 0 9 361 50 (.int 0) := ⟨⟨RX9, TX9, 56, rfl, by decide, wsIn9, Or.inl (tmem 981 (by decide +kernel) rfl)⟩, _, rfl, rfl⟩
theorem fw9_50 : FLW 9 50 .int := ⟨RX9, TX9, 56, tyX9, rfl, tyX9_ok, nmX9, rfl, by decide +kernel⟩
theorem ffRX9_364 : FLT shB RX9 0 9 364 51 (.int 0) := ⟨⟨RX9, TX9, 56, rfl, by decide, wsIn9, Or.inl (tmem 982 (by decide +kernel) rfl)⟩, _, rfl, rfl⟩
theorem fw9_51 : FLW 9 51 .int := ⟨RX9, TX9, 56, tyX9, rfl, tyX9_ok, nmX9, rfl, by decide +kernel⟩
theorem ffRX9_59 : FLT shB RX9 0 9 59 46 (.ref 16) := ⟨⟨RX9, TX9, 56, rfl, by decide, wsIn9, Or.inl (tmem 977 (by decide +kernel) rfl)⟩, _, rfl, rfl⟩
theorem fcRX9_369 : Cond.constantLong RX9 369 (8 : Int64) ∈ TBL := tmem 1403 (by decide +kernel) rfl
theorem fkRX9_371 : LNK RX9 371 yX9_customer := Or.inl (tmem 1404 (by decide +kernel) rfl)
theorem feX9_customer : CLE yX9_customer 2 cX9_customer 3 (some .int) := ⟨tmem 17 (by decide +kernel) rfl, tmem 1104 (by decide +kernel) rfl, by decide +kernel, by decide +kernel⟩
theorem fvX9_customer : CLV yX9_customer := ⟨tmem 1102 (by decide +kernel) rfl, tmem 1103 (by decide +kernel) rfl⟩
theorem dX9_sheet_0 : decode cX9_sheet 0 = .ok (.iload_n 1, 1) := by decide +kernel
theorem dX9_sheet_1 : decode cX9_sheet 1 = .ok (.invokestatic 281, 3) := by decide +kernel
theorem dX9_sheet_4 : decode cX9_sheet 4 = .ok (.ifCond .eq 27, 3) := by decide +kernel
theorem dX9_sheet_7 : decode cX9_sheet 7 = .ok (.iload_n 2, 1) := by decide +kernel
theorem dX9_sheet_8 : decode cX9_sheet 8 = .ok (.i2l, 1) := by decide +kernel
theorem dX9_sheet_9 : decode cX9_sheet 9 = .ok (.ldc2_w 367, 3) := by decide +kernel
theorem dX9_sheet_12 : decode cX9_sheet 12 = .ok (.ldc2_w 103, 3) := by decide +kernel
theorem dX9_sheet_15 : decode cX9_sheet 15 = .ok (.invokestatic 88, 3) := by decide +kernel
theorem dX9_sheet_18 : decode cX9_sheet 18 = .ok (.ifCond .eq 13, 3) := by decide +kernel
theorem dX9_sheet_21 : decode cX9_sheet 21 = .ok (.iload_n 2, 1) := by decide +kernel
theorem dX9_sheet_22 : decode cX9_sheet 22 = .ok (.ifCond .lt 12, 3) := by decide +kernel
theorem dX9_sheet_25 : decode cX9_sheet 25 = .ok (.iload_n 3, 1) := by decide +kernel
theorem dX9_sheet_26 : decode cX9_sheet 26 = .ok (.bipush 40, 2) := by decide +kernel
theorem dX9_sheet_28 : decode cX9_sheet 28 = .ok (.if_icmp .le 6, 3) := by decide +kernel
theorem dX9_sheet_31 : decode cX9_sheet 31 = .ok (.bipush (-2), 2) := by decide +kernel
theorem dX9_sheet_33 : decode cX9_sheet 33 = .ok (.ireturn, 1) := by decide +kernel
theorem dX9_sheet_34 : decode cX9_sheet 34 = .ok (.iload_n 2, 1) := by decide +kernel
theorem dX9_sheet_35 : decode cX9_sheet 35 = .ok (.ifCond .lt 10, 3) := by decide +kernel
theorem dX9_sheet_38 : decode cX9_sheet 38 = .ok (.iload_n 3, 1) := by decide +kernel
theorem dX9_sheet_39 : decode cX9_sheet 39 = .ok (.ifCond .ge 6, 3) := by decide +kernel
theorem dX9_sheet_42 : decode cX9_sheet 42 = .ok (.bipush (-14), 2) := by decide +kernel
theorem dX9_sheet_44 : decode cX9_sheet 44 = .ok (.ireturn, 1) := by decide +kernel
theorem dX9_sheet_45 : decode cX9_sheet 45 = .ok (.aload_n 0, 1) := by decide +kernel
theorem dX9_sheet_46 : decode cX9_sheet 46 = .ok (.getfield 65, 3) := by decide +kernel
theorem dX9_sheet_49 : decode cX9_sheet 49 = .ok (.iload_n 1, 1) := by decide +kernel
theorem dX9_sheet_50 : decode cX9_sheet 50 = .ok (.iload_n 2, 1) := by decide +kernel
theorem dX9_sheet_51 : decode cX9_sheet 51 = .ok (.ifCond .lt 7, 3) := by decide +kernel
theorem dX9_sheet_54 : decode cX9_sheet 54 = .ok (.iconst 1, 1) := by decide +kernel
theorem dX9_sheet_55 : decode cX9_sheet 55 = .ok (.goto 4, 3) := by decide +kernel
theorem dX9_sheet_58 : decode cX9_sheet 58 = .ok (.iconst 0, 1) := by decide +kernel
theorem dX9_sheet_59 : decode cX9_sheet 59 = .ok (.bastore, 1) := by decide +kernel
theorem dX9_sheet_60 : decode cX9_sheet 60 = .ok (.aload_n 0, 1) := by decide +kernel
theorem dX9_sheet_61 : decode cX9_sheet 61 = .ok (.getfield 69, 3) := by decide +kernel
theorem dX9_sheet_64 : decode cX9_sheet 64 = .ok (.iload_n 1, 1) := by decide +kernel
theorem dX9_sheet_65 : decode cX9_sheet 65 = .ok (.iload_n 2, 1) := by decide +kernel
theorem dX9_sheet_66 : decode cX9_sheet 66 = .ok (.iastore, 1) := by decide +kernel
theorem dX9_sheet_67 : decode cX9_sheet 67 = .ok (.aload_n 0, 1) := by decide +kernel
theorem dX9_sheet_68 : decode cX9_sheet 68 = .ok (.getfield 72, 3) := by decide +kernel
theorem dX9_sheet_71 : decode cX9_sheet 71 = .ok (.iload_n 1, 1) := by decide +kernel
theorem dX9_sheet_72 : decode cX9_sheet 72 = .ok (.iload_n 3, 1) := by decide +kernel
theorem dX9_sheet_73 : decode cX9_sheet 73 = .ok (.iastore, 1) := by decide +kernel
theorem dX9_sheet_74 : decode cX9_sheet 74 = .ok (.iconst 0, 1) := by decide +kernel
theorem dX9_sheet_75 : decode cX9_sheet 75 = .ok (.istore 4, 2) := by decide +kernel
theorem dX9_sheet_77 : decode cX9_sheet 77 = .ok (.iload 4, 2) := by decide +kernel
theorem dX9_sheet_79 : decode cX9_sheet 79 = .ok (.iload_n 3, 1) := by decide +kernel
theorem dX9_sheet_80 : decode cX9_sheet 80 = .ok (.if_icmp .ge 26, 3) := by decide +kernel
theorem dX9_sheet_83 : decode cX9_sheet 83 = .ok (.iload_n 2, 1) := by decide +kernel
theorem dX9_sheet_84 : decode cX9_sheet 84 = .ok (.ifCond .lt 22, 3) := by decide +kernel
theorem dX9_sheet_87 : decode cX9_sheet 87 = .ok (.aload_n 0, 1) := by decide +kernel
theorem dX9_sheet_88 : decode cX9_sheet 88 = .ok (.getfield 75, 3) := by decide +kernel
theorem dX9_sheet_91 : decode cX9_sheet 91 = .ok (.bipush 40, 2) := by decide +kernel
theorem dX9_sheet_93 : decode cX9_sheet 93 = .ok (.iload_n 1, 1) := by decide +kernel
theorem dX9_sheet_94 : decode cX9_sheet 94 = .ok (.imul, 1) := by decide +kernel
theorem dX9_sheet_95 : decode cX9_sheet 95 = .ok (.iload 4, 2) := by decide +kernel
theorem dX9_sheet_97 : decode cX9_sheet 97 = .ok (.iadd, 1) := by decide +kernel
theorem dX9_sheet_98 : decode cX9_sheet 98 = .ok (.iconst 0, 1) := by decide +kernel
theorem dX9_sheet_99 : decode cX9_sheet 99 = .ok (.iastore, 1) := by decide +kernel
theorem dX9_sheet_100 : decode cX9_sheet 100 = .ok (.iinc 4 1, 3) := by decide +kernel
theorem dX9_sheet_103 : decode cX9_sheet 103 = .ok (.goto (-26), 3) := by decide +kernel
theorem dX9_sheet_106 : decode cX9_sheet 106 = .ok (.iconst 1, 1) := by decide +kernel
theorem dX9_sheet_107 : decode cX9_sheet 107 = .ok (.ireturn, 1) := by decide +kernel
theorem dX9_film_0 : decode cX9_film 0 = .ok (.iload_n 1, 1) := by decide +kernel
theorem dX9_film_1 : decode cX9_film 1 = .ok (.invokestatic 281, 3) := by decide +kernel
theorem dX9_film_4 : decode cX9_film 4 = .ok (.ifCond .eq 17, 3) := by decide +kernel
theorem dX9_film_7 : decode cX9_film 7 = .ok (.iload_n 2, 1) := by decide +kernel
theorem dX9_film_8 : decode cX9_film 8 = .ok (.i2l, 1) := by decide +kernel
theorem dX9_film_9 : decode cX9_film 9 = .ok (.lconst 0, 1) := by decide +kernel
theorem dX9_film_10 : decode cX9_film 10 = .ok (.aload_n 0, 1) := by decide +kernel
theorem dX9_film_11 : decode cX9_film 11 = .ok (.getfield 85, 3) := by decide +kernel
theorem dX9_film_14 : decode cX9_film 14 = .ok (.i2l, 1) := by decide +kernel
theorem dX9_film_15 : decode cX9_film 15 = .ok (.invokestatic 88, 3) := by decide +kernel
theorem dX9_film_18 : decode cX9_film 18 = .ok (.ifCond .ne 6, 3) := by decide +kernel
theorem dX9_film_21 : decode cX9_film 21 = .ok (.bipush (-2), 2) := by decide +kernel
theorem dX9_film_23 : decode cX9_film 23 = .ok (.ireturn, 1) := by decide +kernel
theorem dX9_film_24 : decode cX9_film 24 = .ok (.aload_n 0, 1) := by decide +kernel
theorem dX9_film_25 : decode cX9_film 25 = .ok (.iload_n 1, 1) := by decide +kernel
theorem dX9_film_26 : decode cX9_film 26 = .ok (.iconst 2, 1) := by decide +kernel
theorem dX9_film_27 : decode cX9_film 27 = .ok (.iload_n 2, 1) := by decide +kernel
theorem dX9_film_28 : decode cX9_film 28 = .ok (.invokevirtual 346, 3) := by decide +kernel
theorem dX9_film_31 : decode cX9_film 31 = .ok (.pop, 1) := by decide +kernel
theorem dX9_film_32 : decode cX9_film 32 = .ok (.iconst 0, 1) := by decide +kernel
theorem dX9_film_33 : decode cX9_film 33 = .ok (.istore_n 3, 1) := by decide +kernel
theorem dX9_film_34 : decode cX9_film 34 = .ok (.iconst 0, 1) := by decide +kernel
theorem dX9_film_35 : decode cX9_film 35 = .ok (.istore 4, 2) := by decide +kernel
theorem dX9_film_37 : decode cX9_film 37 = .ok (.iload 4, 2) := by decide +kernel
theorem dX9_film_39 : decode cX9_film 39 = .ok (.iload_n 2, 1) := by decide +kernel
theorem dX9_film_40 : decode cX9_film 40 = .ok (.if_icmp .ge 31, 3) := by decide +kernel
theorem dX9_film_43 : decode cX9_film 43 = .ok (.iload_n 3, 1) := by decide +kernel
theorem dX9_film_44 : decode cX9_film 44 = .ok (.aload_n 0, 1) := by decide +kernel
theorem dX9_film_45 : decode cX9_film 45 = .ok (.iload 4, 2) := by decide +kernel
theorem dX9_film_47 : decode cX9_film 47 = .ok (.invokevirtual 125, 3) := by decide +kernel
theorem dX9_film_50 : decode cX9_film 50 = .ok (.iadd, 1) := by decide +kernel
theorem dX9_film_51 : decode cX9_film 51 = .ok (.istore_n 3, 1) := by decide +kernel
theorem dX9_film_52 : decode cX9_film 52 = .ok (.aload_n 0, 1) := by decide +kernel
theorem dX9_film_53 : decode cX9_film 53 = .ok (.getfield 75, 3) := by decide +kernel
theorem dX9_film_56 : decode cX9_film 56 = .ok (.bipush 40, 2) := by decide +kernel
theorem dX9_film_58 : decode cX9_film 58 = .ok (.iload_n 1, 1) := by decide +kernel
theorem dX9_film_59 : decode cX9_film 59 = .ok (.imul, 1) := by decide +kernel
theorem dX9_film_60 : decode cX9_film 60 = .ok (.iload 4, 2) := by decide +kernel
theorem dX9_film_62 : decode cX9_film 62 = .ok (.iadd, 1) := by decide +kernel
theorem dX9_film_63 : decode cX9_film 63 = .ok (.iload_n 3, 1) := by decide +kernel
theorem dX9_film_64 : decode cX9_film 64 = .ok (.iastore, 1) := by decide +kernel
theorem dX9_film_65 : decode cX9_film 65 = .ok (.iinc 4 1, 3) := by decide +kernel
theorem dX9_film_68 : decode cX9_film 68 = .ok (.goto (-31), 3) := by decide +kernel
theorem dX9_film_71 : decode cX9_film 71 = .ok (.iload_n 2, 1) := by decide +kernel
theorem dX9_film_72 : decode cX9_film 72 = .ok (.ireturn, 1) := by decide +kernel
theorem dX9_draws_0 : decode cX9_draws 0 = .ok (.iload_n 1, 1) := by decide +kernel
theorem dX9_draws_1 : decode cX9_draws 1 = .ok (.istore_n 2, 1) := by decide +kernel
theorem dX9_draws_2 : decode cX9_draws 2 = .ok (.iconst 0, 1) := by decide +kernel
theorem dX9_draws_3 : decode cX9_draws 3 = .ok (.istore_n 3, 1) := by decide +kernel
theorem dX9_draws_4 : decode cX9_draws 4 = .ok (.iconst 0, 1) := by decide +kernel
theorem dX9_draws_5 : decode cX9_draws 5 = .ok (.istore 4, 2) := by decide +kernel
theorem dX9_draws_7 : decode cX9_draws 7 = .ok (.iload 4, 2) := by decide +kernel
theorem dX9_draws_9 : decode cX9_draws 9 = .ok (.aload_n 0, 1) := by decide +kernel
theorem dX9_draws_10 : decode cX9_draws 10 = .ok (.getfield 92, 3) := by decide +kernel
theorem dX9_draws_13 : decode cX9_draws 13 = .ok (.if_icmp .ge 47, 3) := by decide +kernel
theorem dX9_draws_16 : decode cX9_draws 16 = .ok (.iload_n 2, 1) := by decide +kernel
theorem dX9_draws_17 : decode cX9_draws 17 = .ok (.ldc_w 349, 3) := by decide +kernel
theorem dX9_draws_20 : decode cX9_draws 20 = .ok (.imul, 1) := by decide +kernel
theorem dX9_draws_21 : decode cX9_draws 21 = .ok (.sipush 12345, 3) := by decide +kernel
theorem dX9_draws_24 : decode cX9_draws 24 = .ok (.iadd, 1) := by decide +kernel
theorem dX9_draws_25 : decode cX9_draws 25 = .ok (.istore_n 2, 1) := by decide +kernel
theorem dX9_draws_26 : decode cX9_draws 26 = .ok (.iload_n 3, 1) := by decide +kernel
theorem dX9_draws_27 : decode cX9_draws 27 = .ok (.iload_n 2, 1) := by decide +kernel
theorem dX9_draws_28 : decode cX9_draws 28 = .ok (.bipush 9, 2) := by decide +kernel
theorem dX9_draws_30 : decode cX9_draws 30 = .ok (.iushr, 1) := by decide +kernel
theorem dX9_draws_31 : decode cX9_draws 31 = .ok (.bipush 100, 2) := by decide +kernel
theorem dX9_draws_33 : decode cX9_draws 33 = .ok (.irem, 1) := by decide +kernel
theorem dX9_draws_34 : decode cX9_draws 34 = .ok (.aload_n 0, 1) := by decide +kernel
theorem dX9_draws_35 : decode cX9_draws 35 = .ok (.getfield 38, 3) := by decide +kernel
theorem dX9_draws_38 : decode cX9_draws 38 = .ok (.iload 4, 2) := by decide +kernel
theorem dX9_draws_40 : decode cX9_draws 40 = .ok (.iaload, 1) := by decide +kernel
theorem dX9_draws_41 : decode cX9_draws 41 = .ok (.if_icmp .ge 7, 3) := by decide +kernel
theorem dX9_draws_44 : decode cX9_draws 44 = .ok (.iconst 1, 1) := by decide +kernel
theorem dX9_draws_45 : decode cX9_draws 45 = .ok (.goto 4, 3) := by decide +kernel
theorem dX9_draws_48 : decode cX9_draws 48 = .ok (.iconst 0, 1) := by decide +kernel
theorem dX9_draws_49 : decode cX9_draws 49 = .ok (.iload 4, 2) := by decide +kernel
theorem dX9_draws_51 : decode cX9_draws 51 = .ok (.ishl, 1) := by decide +kernel
theorem dX9_draws_52 : decode cX9_draws 52 = .ok (.ior, 1) := by decide +kernel
theorem dX9_draws_53 : decode cX9_draws 53 = .ok (.istore_n 3, 1) := by decide +kernel
theorem dX9_draws_54 : decode cX9_draws 54 = .ok (.iinc 4 1, 3) := by decide +kernel
theorem dX9_draws_57 : decode cX9_draws 57 = .ok (.goto (-50), 3) := by decide +kernel
theorem dX9_draws_60 : decode cX9_draws 60 = .ok (.aload_n 0, 1) := by decide +kernel
theorem dX9_draws_61 : decode cX9_draws 61 = .ok (.invokevirtual 272, 3) := by decide +kernel
theorem dX9_draws_64 : decode cX9_draws 64 = .ok (.aload_n 0, 1) := by decide +kernel
theorem dX9_draws_65 : decode cX9_draws 65 = .ok (.iload_n 3, 1) := by decide +kernel
theorem dX9_draws_66 : decode cX9_draws 66 = .ok (.invokevirtual 316, 3) := by decide +kernel
theorem dX9_draws_69 : decode cX9_draws 69 = .ok (.istore 4, 2) := by decide +kernel
theorem dX9_draws_71 : decode cX9_draws 71 = .ok (.aload_n 0, 1) := by decide +kernel
theorem dX9_draws_72 : decode cX9_draws 72 = .ok (.aload_n 0, 1) := by decide +kernel
theorem dX9_draws_73 : decode cX9_draws 73 = .ok (.invokevirtual 288, 3) := by decide +kernel
theorem dX9_draws_76 : decode cX9_draws 76 = .ok (.aload_n 0, 1) := by decide +kernel
theorem dX9_draws_77 : decode cX9_draws 77 = .ok (.invokevirtual 291, 3) := by decide +kernel
theorem dX9_draws_80 : decode cX9_draws 80 = .ok (.invokevirtual 294, 3) := by decide +kernel
theorem dX9_draws_83 : decode cX9_draws 83 = .ok (.pop, 1) := by decide +kernel
theorem dX9_draws_84 : decode cX9_draws 84 = .ok (.iload 4, 2) := by decide +kernel
theorem dX9_draws_86 : decode cX9_draws 86 = .ok (.ireturn, 1) := by decide +kernel
theorem dX9_drawn_0 : decode cX9_drawn 0 = .ok (.aload_n 0, 1) := by decide +kernel
theorem dX9_drawn_1 : decode cX9_drawn 1 = .ok (.iload_n 1, 1) := by decide +kernel
theorem dX9_drawn_2 : decode cX9_drawn 2 = .ok (.invokevirtual 350, 3) := by decide +kernel
theorem dX9_drawn_5 : decode cX9_drawn 5 = .ok (.ireturn, 1) := by decide +kernel
theorem dX9_chance_0 : decode cX9_chance 0 = .ok (.iload_n 2, 1) := by decide +kernel
theorem dX9_chance_1 : decode cX9_chance 1 = .ok (.i2l, 1) := by decide +kernel
theorem dX9_chance_2 : decode cX9_chance 2 = .ok (.lconst 1, 1) := by decide +kernel
theorem dX9_chance_3 : decode cX9_chance 3 = .ok (.ldc2_w 353, 3) := by decide +kernel
theorem dX9_chance_6 : decode cX9_chance 6 = .ok (.invokestatic 88, 3) := by decide +kernel
theorem dX9_chance_9 : decode cX9_chance 9 = .ok (.ifCond .eq 13, 3) := by decide +kernel
theorem dX9_chance_12 : decode cX9_chance 12 = .ok (.iload_n 3, 1) := by decide +kernel
theorem dX9_chance_13 : decode cX9_chance 13 = .ok (.i2l, 1) := by decide +kernel
theorem dX9_chance_14 : decode cX9_chance 14 = .ok (.lconst 0, 1) := by decide +kernel
theorem dX9_chance_15 : decode cX9_chance 15 = .ok (.lconst 1, 1) := by decide +kernel
theorem dX9_chance_16 : decode cX9_chance 16 = .ok (.invokestatic 88, 3) := by decide +kernel
theorem dX9_chance_19 : decode cX9_chance 19 = .ok (.ifCond .ne 7, 3) := by decide +kernel
theorem dX9_chance_22 : decode cX9_chance 22 = .ok (.ldc2_w 331, 3) := by decide +kernel
theorem dX9_chance_25 : decode cX9_chance 25 = .ok (.lreturn, 1) := by decide +kernel
theorem dX9_chance_26 : decode cX9_chance 26 = .ok (.lconst 0, 1) := by decide +kernel
theorem dX9_chance_27 : decode cX9_chance 27 = .ok (.lstore 4, 2) := by decide +kernel
theorem dX9_chance_29 : decode cX9_chance 29 = .ok (.iconst 0, 1) := by decide +kernel
theorem dX9_chance_30 : decode cX9_chance 30 = .ok (.istore 6, 2) := by decide +kernel
theorem dX9_chance_32 : decode cX9_chance 32 = .ok (.iload 6, 2) := by decide +kernel
theorem dX9_chance_34 : decode cX9_chance 34 = .ok (.iload_n 2, 1) := by decide +kernel
theorem dX9_chance_35 : decode cX9_chance 35 = .ok (.if_icmp .ge 35, 3) := by decide +kernel
theorem dX9_chance_38 : decode cX9_chance 38 = .ok (.aload_n 0, 1) := by decide +kernel
theorem dX9_chance_39 : decode cX9_chance 39 = .ok (.iload_n 1, 1) := by decide +kernel
theorem dX9_chance_40 : decode cX9_chance 40 = .ok (.iload 6, 2) := by decide +kernel
theorem dX9_chance_42 : decode cX9_chance 42 = .ok (.iadd, 1) := by decide +kernel
theorem dX9_chance_43 : decode cX9_chance 43 = .ok (.invokevirtual 350, 3) := by decide +kernel
theorem dX9_chance_46 : decode cX9_chance 46 = .ok (.pop, 1) := by decide +kernel
theorem dX9_chance_47 : decode cX9_chance 47 = .ok (.lload 4, 2) := by decide +kernel
theorem dX9_chance_49 : decode cX9_chance 49 = .ok (.aload_n 0, 1) := by decide +kernel
theorem dX9_chance_50 : decode cX9_chance 50 = .ok (.getfield 269, 3) := by decide +kernel
theorem dX9_chance_53 : decode cX9_chance 53 = .ok (.ifCond .ne 7, 3) := by decide +kernel
theorem dX9_chance_56 : decode cX9_chance 56 = .ok (.lconst 1, 1) := by decide +kernel
theorem dX9_chance_57 : decode cX9_chance 57 = .ok (.goto 4, 3) := by decide +kernel
theorem dX9_chance_60 : decode cX9_chance 60 = .ok (.lconst 0, 1) := by decide +kernel
theorem dX9_chance_61 : decode cX9_chance 61 = .ok (.ladd, 1) := by decide +kernel
theorem dX9_chance_62 : decode cX9_chance 62 = .ok (.lstore 4, 2) := by decide +kernel
theorem dX9_chance_64 : decode cX9_chance 64 = .ok (.iinc 6 1, 3) := by decide +kernel
theorem dX9_chance_67 : decode cX9_chance 67 = .ok (.goto (-35), 3) := by decide +kernel
theorem dX9_chance_70 : decode cX9_chance 70 = .ok (.lload 4, 2) := by decide +kernel
theorem dX9_chance_72 : decode cX9_chance 72 = .ok (.lstore 6, 2) := by decide +kernel
theorem dX9_chance_74 : decode cX9_chance 74 = .ok (.iload_n 2, 1) := by decide +kernel
theorem dX9_chance_75 : decode cX9_chance 75 = .ok (.i2l, 1) := by decide +kernel
theorem dX9_chance_76 : decode cX9_chance 76 = .ok (.lstore 8, 2) := by decide +kernel
theorem dX9_chance_78 : decode cX9_chance 78 = .ok (.lload 8, 2) := by decide +kernel
theorem dX9_chance_80 : decode cX9_chance 80 = .ok (.lconst 0, 1) := by decide +kernel
theorem dX9_chance_81 : decode cX9_chance 81 = .ok (.lcmp, 1) := by decide +kernel
theorem dX9_chance_82 : decode cX9_chance 82 = .ok (.ifCond .eq 21, 3) := by decide +kernel
theorem dX9_chance_85 : decode cX9_chance 85 = .ok (.lload 6, 2) := by decide +kernel
theorem dX9_chance_87 : decode cX9_chance 87 = .ok (.lload 8, 2) := by decide +kernel
theorem dX9_chance_89 : decode cX9_chance 89 = .ok (.lrem, 1) := by decide +kernel
theorem dX9_chance_90 : decode cX9_chance 90 = .ok (.lstore 10, 2) := by decide +kernel
theorem dX9_chance_92 : decode cX9_chance 92 = .ok (.lload 8, 2) := by decide +kernel
theorem dX9_chance_94 : decode cX9_chance 94 = .ok (.lstore 6, 2) := by decide +kernel
theorem dX9_chance_96 : decode cX9_chance 96 = .ok (.lload 10, 2) := by decide +kernel
theorem dX9_chance_98 : decode cX9_chance 98 = .ok (.lstore 8, 2) := by decide +kernel
theorem dX9_chance_100 : decode cX9_chance 100 = .ok (.goto (-22), 3) := by decide +kernel
theorem dX9_chance_103 : decode cX9_chance 103 = .ok (.iload_n 3, 1) := by decide +kernel
theorem dX9_chance_104 : decode cX9_chance 104 = .ok (.ifCond .ne 11, 3) := by decide +kernel
theorem dX9_chance_107 : decode cX9_chance 107 = .ok (.lload 4, 2) := by decide +kernel
theorem dX9_chance_109 : decode cX9_chance 109 = .ok (.lload 6, 2) := by decide +kernel
theorem dX9_chance_111 : decode cX9_chance 111 = .ok (.ldiv, 1) := by decide +kernel
theorem dX9_chance_112 : decode cX9_chance 112 = .ok (.goto 8, 3) := by decide +kernel
theorem dX9_chance_115 : decode cX9_chance 115 = .ok (.iload_n 2, 1) := by decide +kernel
theorem dX9_chance_116 : decode cX9_chance 116 = .ok (.i2l, 1) := by decide +kernel
theorem dX9_chance_117 : decode cX9_chance 117 = .ok (.lload 6, 2) := by decide +kernel
theorem dX9_chance_119 : decode cX9_chance 119 = .ok (.ldiv, 1) := by decide +kernel
theorem dX9_chance_120 : decode cX9_chance 120 = .ok (.lreturn, 1) := by decide +kernel
theorem dX9_image_0 : decode cX9_image 0 = .ok (.iconst 0, 1) := by decide +kernel
theorem dX9_image_1 : decode cX9_image 1 = .ok (.istore_n 1, 1) := by decide +kernel
theorem dX9_image_2 : decode cX9_image 2 = .ok (.iload_n 1, 1) := by decide +kernel
theorem dX9_image_3 : decode cX9_image 3 = .ok (.bipush 8, 2) := by decide +kernel
theorem dX9_image_5 : decode cX9_image 5 = .ok (.if_icmp .ge 36, 3) := by decide +kernel
theorem dX9_image_8 : decode cX9_image 8 = .ok (.aload_n 0, 1) := by decide +kernel
theorem dX9_image_9 : decode cX9_image 9 = .ok (.getfield 56, 3) := by decide +kernel
theorem dX9_image_12 : decode cX9_image 12 = .ok (.iload_n 1, 1) := by decide +kernel
theorem dX9_image_13 : decode cX9_image 13 = .ok (.aload_n 0, 1) := by decide +kernel
theorem dX9_image_14 : decode cX9_image 14 = .ok (.getfield 26, 3) := by decide +kernel
theorem dX9_image_17 : decode cX9_image 17 = .ok (.iload_n 1, 1) := by decide +kernel
theorem dX9_image_18 : decode cX9_image 18 = .ok (.iaload, 1) := by decide +kernel
theorem dX9_image_19 : decode cX9_image 19 = .ok (.iastore, 1) := by decide +kernel
theorem dX9_image_20 : decode cX9_image 20 = .ok (.aload_n 0, 1) := by decide +kernel
theorem dX9_image_21 : decode cX9_image 21 = .ok (.getfield 56, 3) := by decide +kernel
theorem dX9_image_24 : decode cX9_image 24 = .ok (.bipush 8, 2) := by decide +kernel
theorem dX9_image_26 : decode cX9_image 26 = .ok (.iload_n 1, 1) := by decide +kernel
theorem dX9_image_27 : decode cX9_image 27 = .ok (.iadd, 1) := by decide +kernel
theorem dX9_image_28 : decode cX9_image 28 = .ok (.aload_n 0, 1) := by decide +kernel
theorem dX9_image_29 : decode cX9_image 29 = .ok (.getfield 29, 3) := by decide +kernel
theorem dX9_image_32 : decode cX9_image 32 = .ok (.iload_n 1, 1) := by decide +kernel
theorem dX9_image_33 : decode cX9_image 33 = .ok (.iaload, 1) := by decide +kernel
theorem dX9_image_34 : decode cX9_image 34 = .ok (.iastore, 1) := by decide +kernel
theorem dX9_image_35 : decode cX9_image 35 = .ok (.iinc 1 1, 3) := by decide +kernel
theorem dX9_image_38 : decode cX9_image 38 = .ok (.goto (-36), 3) := by decide +kernel
theorem dX9_image_41 : decode cX9_image 41 = .ok (.iconst 0, 1) := by decide +kernel
theorem dX9_image_42 : decode cX9_image 42 = .ok (.istore_n 1, 1) := by decide +kernel
theorem dX9_image_43 : decode cX9_image 43 = .ok (.iload_n 1, 1) := by decide +kernel
theorem dX9_image_44 : decode cX9_image 44 = .ok (.bipush 6, 2) := by decide +kernel
theorem dX9_image_46 : decode cX9_image 46 = .ok (.if_icmp .ge 51, 3) := by decide +kernel
theorem dX9_image_49 : decode cX9_image 49 = .ok (.aload_n 0, 1) := by decide +kernel
theorem dX9_image_50 : decode cX9_image 50 = .ok (.getfield 59, 3) := by decide +kernel
theorem dX9_image_53 : decode cX9_image 53 = .ok (.iload_n 1, 1) := by decide +kernel
theorem dX9_image_54 : decode cX9_image 54 = .ok (.aload_n 0, 1) := by decide +kernel
theorem dX9_image_55 : decode cX9_image 55 = .ok (.getfield 32, 3) := by decide +kernel
theorem dX9_image_58 : decode cX9_image 58 = .ok (.iload_n 1, 1) := by decide +kernel
theorem dX9_image_59 : decode cX9_image 59 = .ok (.iaload, 1) := by decide +kernel
theorem dX9_image_60 : decode cX9_image 60 = .ok (.iastore, 1) := by decide +kernel
theorem dX9_image_61 : decode cX9_image 61 = .ok (.aload_n 0, 1) := by decide +kernel
theorem dX9_image_62 : decode cX9_image 62 = .ok (.getfield 59, 3) := by decide +kernel
theorem dX9_image_65 : decode cX9_image 65 = .ok (.bipush 6, 2) := by decide +kernel
theorem dX9_image_67 : decode cX9_image 67 = .ok (.iload_n 1, 1) := by decide +kernel
theorem dX9_image_68 : decode cX9_image 68 = .ok (.iadd, 1) := by decide +kernel
theorem dX9_image_69 : decode cX9_image 69 = .ok (.aload_n 0, 1) := by decide +kernel
theorem dX9_image_70 : decode cX9_image 70 = .ok (.getfield 35, 3) := by decide +kernel
theorem dX9_image_73 : decode cX9_image 73 = .ok (.iload_n 1, 1) := by decide +kernel
theorem dX9_image_74 : decode cX9_image 74 = .ok (.iaload, 1) := by decide +kernel
theorem dX9_image_75 : decode cX9_image 75 = .ok (.iastore, 1) := by decide +kernel
theorem dX9_image_76 : decode cX9_image 76 = .ok (.aload_n 0, 1) := by decide +kernel
theorem dX9_image_77 : decode cX9_image 77 = .ok (.getfield 59, 3) := by decide +kernel
theorem dX9_image_80 : decode cX9_image 80 = .ok (.bipush 12, 2) := by decide +kernel
theorem dX9_image_82 : decode cX9_image 82 = .ok (.iload_n 1, 1) := by decide +kernel
theorem dX9_image_83 : decode cX9_image 83 = .ok (.iadd, 1) := by decide +kernel
theorem dX9_image_84 : decode cX9_image 84 = .ok (.aload_n 0, 1) := by decide +kernel
theorem dX9_image_85 : decode cX9_image 85 = .ok (.getfield 38, 3) := by decide +kernel
theorem dX9_image_88 : decode cX9_image 88 = .ok (.iload_n 1, 1) := by decide +kernel
theorem dX9_image_89 : decode cX9_image 89 = .ok (.iaload, 1) := by decide +kernel
theorem dX9_image_90 : decode cX9_image 90 = .ok (.iastore, 1) := by decide +kernel
theorem dX9_image_91 : decode cX9_image 91 = .ok (.iinc 1 1, 3) := by decide +kernel
theorem dX9_image_94 : decode cX9_image 94 = .ok (.goto (-51), 3) := by decide +kernel
theorem dX9_image_97 : decode cX9_image 97 = .ok (.aload_n 0, 1) := by decide +kernel
theorem dX9_image_98 : decode cX9_image 98 = .ok (.aload_n 0, 1) := by decide +kernel
theorem dX9_image_99 : decode cX9_image 99 = .ok (.getfield 85, 3) := by decide +kernel
theorem dX9_image_102 : decode cX9_image 102 = .ok (.putfield 62, 3) := by decide +kernel
theorem dX9_image_105 : decode cX9_image 105 = .ok (.aload_n 0, 1) := by decide +kernel
theorem dX9_image_106 : decode cX9_image 106 = .ok (.aload_n 0, 1) := by decide +kernel
theorem dX9_image_107 : decode cX9_image 107 = .ok (.getfield 92, 3) := by decide +kernel
theorem dX9_image_110 : decode cX9_image 110 = .ok (.putfield 355, 3) := by decide +kernel
theorem dX9_image_113 : decode cX9_image 113 = .ok (.aload_n 0, 1) := by decide +kernel
theorem dX9_image_114 : decode cX9_image 114 = .ok (.aload_n 0, 1) := by decide +kernel
theorem dX9_image_115 : decode cX9_image 115 = .ok (.getfield 118, 3) := by decide +kernel
theorem dX9_image_118 : decode cX9_image 118 = .ok (.putfield 358, 3) := by decide +kernel
theorem dX9_image_121 : decode cX9_image 121 = .ok (.aload_n 0, 1) := by decide +kernel
theorem dX9_image_122 : decode cX9_image 122 = .ok (.aload_n 0, 1) := by decide +kernel
theorem dX9_image_123 : decode cX9_image 123 = .ok (.getfield 133, 3) := by decide +kernel
theorem dX9_image_126 : decode cX9_image 126 = .ok (.putfield 361, 3) := by decide +kernel
theorem dX9_image_129 : decode cX9_image 129 = .ok (.aload_n 0, 1) := by decide +kernel
theorem dX9_image_130 : decode cX9_image 130 = .ok (.aload_n 0, 1) := by decide +kernel
theorem dX9_image_131 : decode cX9_image 131 = .ok (.getfield 255, 3) := by decide +kernel
theorem dX9_image_134 : decode cX9_image 134 = .ok (.putfield 364, 3) := by decide +kernel
theorem dX9_image_137 : decode cX9_image 137 = .ok (.aload_n 0, 1) := by decide +kernel
theorem dX9_image_138 : decode cX9_image 138 = .ok (.getfield 85, 3) := by decide +kernel
theorem dX9_image_141 : decode cX9_image 141 = .ok (.ireturn, 1) := by decide +kernel
theorem dX9_back_0 : decode cX9_back 0 = .ok (.aload_n 0, 1) := by decide +kernel
theorem dX9_back_1 : decode cX9_back 1 = .ok (.getfield 62, 3) := by decide +kernel
theorem dX9_back_4 : decode cX9_back 4 = .ok (.iconst (-1), 1) := by decide +kernel
theorem dX9_back_5 : decode cX9_back 5 = .ok (.if_icmp .eq 14, 3) := by decide +kernel
theorem dX9_back_8 : decode cX9_back 8 = .ok (.aload_n 0, 1) := by decide +kernel
theorem dX9_back_9 : decode cX9_back 9 = .ok (.getfield 361, 3) := by decide +kernel
theorem dX9_back_12 : decode cX9_back 12 = .ok (.aload_n 0, 1) := by decide +kernel
theorem dX9_back_13 : decode cX9_back 13 = .ok (.getfield 133, 3) := by decide +kernel
theorem dX9_back_16 : decode cX9_back 16 = .ok (.if_icmp .eq 6, 3) := by decide +kernel
theorem dX9_back_19 : decode cX9_back 19 = .ok (.bipush (-3), 2) := by decide +kernel
theorem dX9_back_21 : decode cX9_back 21 = .ok (.ireturn, 1) := by decide +kernel
theorem dX9_back_22 : decode cX9_back 22 = .ok (.iconst 0, 1) := by decide +kernel
theorem dX9_back_23 : decode cX9_back 23 = .ok (.istore_n 1, 1) := by decide +kernel
theorem dX9_back_24 : decode cX9_back 24 = .ok (.iload_n 1, 1) := by decide +kernel
theorem dX9_back_25 : decode cX9_back 25 = .ok (.bipush 8, 2) := by decide +kernel
theorem dX9_back_27 : decode cX9_back 27 = .ok (.if_icmp .ge 36, 3) := by decide +kernel
theorem dX9_back_30 : decode cX9_back 30 = .ok (.aload_n 0, 1) := by decide +kernel
theorem dX9_back_31 : decode cX9_back 31 = .ok (.getfield 26, 3) := by decide +kernel
theorem dX9_back_34 : decode cX9_back 34 = .ok (.iload_n 1, 1) := by decide +kernel
theorem dX9_back_35 : decode cX9_back 35 = .ok (.aload_n 0, 1) := by decide +kernel
theorem dX9_back_36 : decode cX9_back 36 = .ok (.getfield 56, 3) := by decide +kernel
theorem dX9_back_39 : decode cX9_back 39 = .ok (.iload_n 1, 1) := by decide +kernel
theorem dX9_back_40 : decode cX9_back 40 = .ok (.iaload, 1) := by decide +kernel
theorem dX9_back_41 : decode cX9_back 41 = .ok (.iastore, 1) := by decide +kernel
theorem dX9_back_42 : decode cX9_back 42 = .ok (.aload_n 0, 1) := by decide +kernel
theorem dX9_back_43 : decode cX9_back 43 = .ok (.getfield 29, 3) := by decide +kernel
theorem dX9_back_46 : decode cX9_back 46 = .ok (.iload_n 1, 1) := by decide +kernel
theorem dX9_back_47 : decode cX9_back 47 = .ok (.aload_n 0, 1) := by decide +kernel
theorem dX9_back_48 : decode cX9_back 48 = .ok (.getfield 56, 3) := by decide +kernel
theorem dX9_back_51 : decode cX9_back 51 = .ok (.bipush 8, 2) := by decide +kernel
theorem dX9_back_53 : decode cX9_back 53 = .ok (.iload_n 1, 1) := by decide +kernel
theorem dX9_back_54 : decode cX9_back 54 = .ok (.iadd, 1) := by decide +kernel
theorem dX9_back_55 : decode cX9_back 55 = .ok (.iaload, 1) := by decide +kernel
theorem dX9_back_56 : decode cX9_back 56 = .ok (.iastore, 1) := by decide +kernel
theorem dX9_back_57 : decode cX9_back 57 = .ok (.iinc 1 1, 3) := by decide +kernel
theorem dX9_back_60 : decode cX9_back 60 = .ok (.goto (-36), 3) := by decide +kernel
theorem dX9_back_63 : decode cX9_back 63 = .ok (.iconst 0, 1) := by decide +kernel
theorem dX9_back_64 : decode cX9_back 64 = .ok (.istore_n 1, 1) := by decide +kernel
theorem dX9_back_65 : decode cX9_back 65 = .ok (.iload_n 1, 1) := by decide +kernel
theorem dX9_back_66 : decode cX9_back 66 = .ok (.bipush 6, 2) := by decide +kernel
theorem dX9_back_68 : decode cX9_back 68 = .ok (.if_icmp .ge 51, 3) := by decide +kernel
theorem dX9_back_71 : decode cX9_back 71 = .ok (.aload_n 0, 1) := by decide +kernel
theorem dX9_back_72 : decode cX9_back 72 = .ok (.getfield 32, 3) := by decide +kernel
theorem dX9_back_75 : decode cX9_back 75 = .ok (.iload_n 1, 1) := by decide +kernel
theorem dX9_back_76 : decode cX9_back 76 = .ok (.aload_n 0, 1) := by decide +kernel
theorem dX9_back_77 : decode cX9_back 77 = .ok (.getfield 59, 3) := by decide +kernel
theorem dX9_back_80 : decode cX9_back 80 = .ok (.iload_n 1, 1) := by decide +kernel
theorem dX9_back_81 : decode cX9_back 81 = .ok (.iaload, 1) := by decide +kernel
theorem dX9_back_82 : decode cX9_back 82 = .ok (.iastore, 1) := by decide +kernel
theorem dX9_back_83 : decode cX9_back 83 = .ok (.aload_n 0, 1) := by decide +kernel
theorem dX9_back_84 : decode cX9_back 84 = .ok (.getfield 35, 3) := by decide +kernel
theorem dX9_back_87 : decode cX9_back 87 = .ok (.iload_n 1, 1) := by decide +kernel
theorem dX9_back_88 : decode cX9_back 88 = .ok (.aload_n 0, 1) := by decide +kernel
theorem dX9_back_89 : decode cX9_back 89 = .ok (.getfield 59, 3) := by decide +kernel
theorem dX9_back_92 : decode cX9_back 92 = .ok (.bipush 6, 2) := by decide +kernel
theorem dX9_back_94 : decode cX9_back 94 = .ok (.iload_n 1, 1) := by decide +kernel
theorem dX9_back_95 : decode cX9_back 95 = .ok (.iadd, 1) := by decide +kernel
theorem dX9_back_96 : decode cX9_back 96 = .ok (.iaload, 1) := by decide +kernel
theorem dX9_back_97 : decode cX9_back 97 = .ok (.iastore, 1) := by decide +kernel
theorem dX9_back_98 : decode cX9_back 98 = .ok (.aload_n 0, 1) := by decide +kernel
theorem dX9_back_99 : decode cX9_back 99 = .ok (.getfield 38, 3) := by decide +kernel
theorem dX9_back_102 : decode cX9_back 102 = .ok (.iload_n 1, 1) := by decide +kernel
theorem dX9_back_103 : decode cX9_back 103 = .ok (.aload_n 0, 1) := by decide +kernel
theorem dX9_back_104 : decode cX9_back 104 = .ok (.getfield 59, 3) := by decide +kernel
theorem dX9_back_107 : decode cX9_back 107 = .ok (.bipush 12, 2) := by decide +kernel
theorem dX9_back_109 : decode cX9_back 109 = .ok (.iload_n 1, 1) := by decide +kernel
theorem dX9_back_110 : decode cX9_back 110 = .ok (.iadd, 1) := by decide +kernel
theorem dX9_back_111 : decode cX9_back 111 = .ok (.iaload, 1) := by decide +kernel
theorem dX9_back_112 : decode cX9_back 112 = .ok (.iastore, 1) := by decide +kernel
theorem dX9_back_113 : decode cX9_back 113 = .ok (.iinc 1 1, 3) := by decide +kernel
theorem dX9_back_116 : decode cX9_back 116 = .ok (.goto (-51), 3) := by decide +kernel
theorem dX9_back_119 : decode cX9_back 119 = .ok (.aload_n 0, 1) := by decide +kernel
theorem dX9_back_120 : decode cX9_back 120 = .ok (.aload_n 0, 1) := by decide +kernel
theorem dX9_back_121 : decode cX9_back 121 = .ok (.getfield 62, 3) := by decide +kernel
theorem dX9_back_124 : decode cX9_back 124 = .ok (.putfield 85, 3) := by decide +kernel
theorem dX9_back_127 : decode cX9_back 127 = .ok (.aload_n 0, 1) := by decide +kernel
theorem dX9_back_128 : decode cX9_back 128 = .ok (.aload_n 0, 1) := by decide +kernel
theorem dX9_back_129 : decode cX9_back 129 = .ok (.getfield 355, 3) := by decide +kernel
theorem dX9_back_132 : decode cX9_back 132 = .ok (.putfield 92, 3) := by decide +kernel
theorem dX9_back_135 : decode cX9_back 135 = .ok (.aload_n 0, 1) := by decide +kernel
theorem dX9_back_136 : decode cX9_back 136 = .ok (.aload_n 0, 1) := by decide +kernel
theorem dX9_back_137 : decode cX9_back 137 = .ok (.getfield 358, 3) := by decide +kernel
theorem dX9_back_140 : decode cX9_back 140 = .ok (.putfield 118, 3) := by decide +kernel
theorem dX9_back_143 : decode cX9_back 143 = .ok (.aload_n 0, 1) := by decide +kernel
theorem dX9_back_144 : decode cX9_back 144 = .ok (.aload_n 0, 1) := by decide +kernel
theorem dX9_back_145 : decode cX9_back 145 = .ok (.getfield 364, 3) := by decide +kernel
theorem dX9_back_148 : decode cX9_back 148 = .ok (.putfield 255, 3) := by decide +kernel
theorem dX9_back_151 : decode cX9_back 151 = .ok (.aload_n 0, 1) := by decide +kernel
theorem dX9_back_152 : decode cX9_back 152 = .ok (.getfield 85, 3) := by decide +kernel
theorem dX9_back_155 : decode cX9_back 155 = .ok (.ireturn, 1) := by decide +kernel
theorem dX9_count_0 : decode cX9_count 0 = .ok (.iload_n 1, 1) := by decide +kernel
theorem dX9_count_1 : decode cX9_count 1 = .ok (.i2l, 1) := by decide +kernel
theorem dX9_count_2 : decode cX9_count 2 = .ok (.lconst 0, 1) := by decide +kernel
theorem dX9_count_3 : decode cX9_count 3 = .ok (.ldc2_w 319, 3) := by decide +kernel
theorem dX9_count_6 : decode cX9_count 6 = .ok (.invokestatic 88, 3) := by decide +kernel
theorem dX9_count_9 : decode cX9_count 9 = .ok (.ifCond .ne 6, 3) := by decide +kernel
theorem dX9_count_12 : decode cX9_count 12 = .ok (.bipush (-2), 2) := by decide +kernel
theorem dX9_count_14 : decode cX9_count 14 = .ok (.ireturn, 1) := by decide +kernel
theorem dX9_count_15 : decode cX9_count 15 = .ok (.iload_n 1, 1) := by decide +kernel
theorem dX9_count_16 : decode cX9_count 16 = .ok (.iconst 3, 1) := by decide +kernel
theorem dX9_count_17 : decode cX9_count 17 = .ok (.if_icmp .ge 31, 3) := by decide +kernel
theorem dX9_count_20 : decode cX9_count 20 = .ok (.iload_n 1, 1) := by decide +kernel
theorem dX9_count_21 : decode cX9_count 21 = .ok (.ifCond .ne 10, 3) := by decide +kernel
theorem dX9_count_24 : decode cX9_count 24 = .ok (.aload_n 0, 1) := by decide +kernel
theorem dX9_count_25 : decode cX9_count 25 = .ok (.getfield 85, 3) := by decide +kernel
theorem dX9_count_28 : decode cX9_count 28 = .ok (.goto 19, 3) := by decide +kernel
theorem dX9_count_31 : decode cX9_count 31 = .ok (.iload_n 1, 1) := by decide +kernel
theorem dX9_count_32 : decode cX9_count 32 = .ok (.iconst 1, 1) := by decide +kernel
theorem dX9_count_33 : decode cX9_count 33 = .ok (.if_icmp .ne 10, 3) := by decide +kernel
theorem dX9_count_36 : decode cX9_count 36 = .ok (.aload_n 0, 1) := by decide +kernel
theorem dX9_count_37 : decode cX9_count 37 = .ok (.getfield 92, 3) := by decide +kernel
theorem dX9_count_40 : decode cX9_count 40 = .ok (.goto 7, 3) := by decide +kernel
theorem dX9_count_43 : decode cX9_count 43 = .ok (.aload_n 0, 1) := by decide +kernel
theorem dX9_count_44 : decode cX9_count 44 = .ok (.getfield 118, 3) := by decide +kernel
theorem dX9_count_47 : decode cX9_count 47 = .ok (.ireturn, 1) := by decide +kernel
theorem dX9_count_48 : decode cX9_count 48 = .ok (.iload_n 1, 1) := by decide +kernel
theorem dX9_count_49 : decode cX9_count 49 = .ok (.iconst 3, 1) := by decide +kernel
theorem dX9_count_50 : decode cX9_count 50 = .ok (.if_icmp .ne 10, 3) := by decide +kernel
theorem dX9_count_53 : decode cX9_count 53 = .ok (.aload_n 0, 1) := by decide +kernel
theorem dX9_count_54 : decode cX9_count 54 = .ok (.getfield 82, 3) := by decide +kernel
theorem dX9_count_57 : decode cX9_count 57 = .ok (.goto 31, 3) := by decide +kernel
theorem dX9_count_60 : decode cX9_count 60 = .ok (.iload_n 1, 1) := by decide +kernel
theorem dX9_count_61 : decode cX9_count 61 = .ok (.iconst 4, 1) := by decide +kernel
theorem dX9_count_62 : decode cX9_count 62 = .ok (.if_icmp .ne 10, 3) := by decide +kernel
theorem dX9_count_65 : decode cX9_count 65 = .ok (.aload_n 0, 1) := by decide +kernel
theorem dX9_count_66 : decode cX9_count 66 = .ok (.getfield 138, 3) := by decide +kernel
theorem dX9_count_69 : decode cX9_count 69 = .ok (.goto 19, 3) := by decide +kernel
theorem dX9_count_72 : decode cX9_count 72 = .ok (.iload_n 1, 1) := by decide +kernel
theorem dX9_count_73 : decode cX9_count 73 = .ok (.iconst 5, 1) := by decide +kernel
theorem dX9_count_74 : decode cX9_count 74 = .ok (.if_icmp .ne 10, 3) := by decide +kernel
theorem dX9_count_77 : decode cX9_count 77 = .ok (.aload_n 0, 1) := by decide +kernel
theorem dX9_count_78 : decode cX9_count 78 = .ok (.getfield 255, 3) := by decide +kernel
theorem dX9_count_81 : decode cX9_count 81 = .ok (.goto 7, 3) := by decide +kernel
theorem dX9_count_84 : decode cX9_count 84 = .ok (.aload_n 0, 1) := by decide +kernel
theorem dX9_count_85 : decode cX9_count 85 = .ok (.getfield 133, 3) := by decide +kernel
theorem dX9_count_88 : decode cX9_count 88 = .ok (.ireturn, 1) := by decide +kernel
theorem dX9_cell_0 : decode cX9_cell 0 = .ok (.iload_n 1, 1) := by decide +kernel
theorem dX9_cell_1 : decode cX9_cell 1 = .ok (.invokestatic 281, 3) := by decide +kernel
theorem dX9_cell_4 : decode cX9_cell 4 = .ok (.ifCond .ne 6, 3) := by decide +kernel
theorem dX9_cell_7 : decode cX9_cell 7 = .ok (.bipush (-2), 2) := by decide +kernel
theorem dX9_cell_9 : decode cX9_cell 9 = .ok (.ireturn, 1) := by decide +kernel
theorem dX9_cell_10 : decode cX9_cell 10 = .ok (.aload_n 0, 1) := by decide +kernel
theorem dX9_cell_11 : decode cX9_cell 11 = .ok (.getfield 65, 3) := by decide +kernel
theorem dX9_cell_14 : decode cX9_cell 14 = .ok (.iload_n 1, 1) := by decide +kernel
theorem dX9_cell_15 : decode cX9_cell 15 = .ok (.baload, 1) := by decide +kernel
theorem dX9_cell_16 : decode cX9_cell 16 = .ok (.ifCond .ne 6, 3) := by decide +kernel
theorem dX9_cell_19 : decode cX9_cell 19 = .ok (.bipush (-11), 2) := by decide +kernel
theorem dX9_cell_21 : decode cX9_cell 21 = .ok (.ireturn, 1) := by decide +kernel
theorem dX9_cell_22 : decode cX9_cell 22 = .ok (.iload_n 2, 1) := by decide +kernel
theorem dX9_cell_23 : decode cX9_cell 23 = .ok (.i2l, 1) := by decide +kernel
theorem dX9_cell_24 : decode cX9_cell 24 = .ok (.lconst 0, 1) := by decide +kernel
theorem dX9_cell_25 : decode cX9_cell 25 = .ok (.aload_n 0, 1) := by decide +kernel
theorem dX9_cell_26 : decode cX9_cell 26 = .ok (.getfield 72, 3) := by decide +kernel
theorem dX9_cell_29 : decode cX9_cell 29 = .ok (.iload_n 1, 1) := by decide +kernel
theorem dX9_cell_30 : decode cX9_cell 30 = .ok (.iaload, 1) := by decide +kernel
theorem dX9_cell_31 : decode cX9_cell 31 = .ok (.iconst 1, 1) := by decide +kernel
theorem dX9_cell_32 : decode cX9_cell 32 = .ok (.isub, 1) := by decide +kernel
theorem dX9_cell_33 : decode cX9_cell 33 = .ok (.i2l, 1) := by decide +kernel
theorem dX9_cell_34 : decode cX9_cell 34 = .ok (.invokestatic 88, 3) := by decide +kernel
theorem dX9_cell_37 : decode cX9_cell 37 = .ok (.ifCond .ne 6, 3) := by decide +kernel
theorem dX9_cell_40 : decode cX9_cell 40 = .ok (.bipush (-12), 2) := by decide +kernel
theorem dX9_cell_42 : decode cX9_cell 42 = .ok (.ireturn, 1) := by decide +kernel
theorem dX9_cell_43 : decode cX9_cell 43 = .ok (.aload_n 0, 1) := by decide +kernel
theorem dX9_cell_44 : decode cX9_cell 44 = .ok (.getfield 75, 3) := by decide +kernel
theorem dX9_cell_47 : decode cX9_cell 47 = .ok (.bipush 40, 2) := by decide +kernel
theorem dX9_cell_49 : decode cX9_cell 49 = .ok (.iload_n 1, 1) := by decide +kernel
theorem dX9_cell_50 : decode cX9_cell 50 = .ok (.imul, 1) := by decide +kernel
theorem dX9_cell_51 : decode cX9_cell 51 = .ok (.iload_n 2, 1) := by decide +kernel
theorem dX9_cell_52 : decode cX9_cell 52 = .ok (.iadd, 1) := by decide +kernel
theorem dX9_cell_53 : decode cX9_cell 53 = .ok (.aload_n 0, 1) := by decide +kernel
theorem dX9_cell_54 : decode cX9_cell 54 = .ok (.getfield 69, 3) := by decide +kernel
theorem dX9_cell_57 : decode cX9_cell 57 = .ok (.iload_n 1, 1) := by decide +kernel
theorem dX9_cell_58 : decode cX9_cell 58 = .ok (.iaload, 1) := by decide +kernel
theorem dX9_cell_59 : decode cX9_cell 59 = .ok (.ifCond .ne 8, 3) := by decide +kernel
theorem dX9_cell_62 : decode cX9_cell 62 = .ok (.iload_n 3, 1) := by decide +kernel
theorem dX9_cell_63 : decode cX9_cell 63 = .ok (.i2b, 1) := by decide +kernel
theorem dX9_cell_64 : decode cX9_cell 64 = .ok (.goto 19, 3) := by decide +kernel
theorem dX9_cell_67 : decode cX9_cell 67 = .ok (.aload_n 0, 1) := by decide +kernel
theorem dX9_cell_68 : decode cX9_cell 68 = .ok (.getfield 69, 3) := by decide +kernel
theorem dX9_cell_71 : decode cX9_cell 71 = .ok (.iload_n 1, 1) := by decide +kernel
theorem dX9_cell_72 : decode cX9_cell 72 = .ok (.iaload, 1) := by decide +kernel
theorem dX9_cell_73 : decode cX9_cell 73 = .ok (.iconst 1, 1) := by decide +kernel
theorem dX9_cell_74 : decode cX9_cell 74 = .ok (.if_icmp .ne 8, 3) := by decide +kernel
theorem dX9_cell_77 : decode cX9_cell 77 = .ok (.iload_n 3, 1) := by decide +kernel
theorem dX9_cell_78 : decode cX9_cell 78 = .ok (.i2s, 1) := by decide +kernel
theorem dX9_cell_79 : decode cX9_cell 79 = .ok (.goto 4, 3) := by decide +kernel
theorem dX9_cell_82 : decode cX9_cell 82 = .ok (.iload_n 3, 1) := by decide +kernel
theorem dX9_cell_83 : decode cX9_cell 83 = .ok (.iastore, 1) := by decide +kernel
theorem dX9_cell_84 : decode cX9_cell 84 = .ok (.iconst 1, 1) := by decide +kernel
theorem dX9_cell_85 : decode cX9_cell 85 = .ok (.ireturn, 1) := by decide +kernel
theorem dX9_copy_0 : decode cX9_copy 0 = .ok (.iload_n 1, 1) := by decide +kernel
theorem dX9_copy_1 : decode cX9_copy 1 = .ok (.invokestatic 281, 3) := by decide +kernel
theorem dX9_copy_4 : decode cX9_copy 4 = .ok (.ifCond .eq 10, 3) := by decide +kernel
theorem dX9_copy_7 : decode cX9_copy 7 = .ok (.iload_n 3, 1) := by decide +kernel
theorem dX9_copy_8 : decode cX9_copy 8 = .ok (.invokestatic 281, 3) := by decide +kernel
theorem dX9_copy_11 : decode cX9_copy 11 = .ok (.ifCond .ne 6, 3) := by decide +kernel
theorem dX9_copy_14 : decode cX9_copy 14 = .ok (.bipush (-2), 2) := by decide +kernel
theorem dX9_copy_16 : decode cX9_copy 16 = .ok (.ireturn, 1) := by decide +kernel
theorem dX9_copy_17 : decode cX9_copy 17 = .ok (.aload_n 0, 1) := by decide +kernel
theorem dX9_copy_18 : decode cX9_copy 18 = .ok (.getfield 65, 3) := by decide +kernel
theorem dX9_copy_21 : decode cX9_copy 21 = .ok (.iload_n 1, 1) := by decide +kernel
theorem dX9_copy_22 : decode cX9_copy 22 = .ok (.baload, 1) := by decide +kernel
theorem dX9_copy_23 : decode cX9_copy 23 = .ok (.ifCond .eq 12, 3) := by decide +kernel
theorem dX9_copy_26 : decode cX9_copy 26 = .ok (.aload_n 0, 1) := by decide +kernel
theorem dX9_copy_27 : decode cX9_copy 27 = .ok (.getfield 65, 3) := by decide +kernel
theorem dX9_copy_30 : decode cX9_copy 30 = .ok (.iload_n 3, 1) := by decide +kernel
theorem dX9_copy_31 : decode cX9_copy 31 = .ok (.baload, 1) := by decide +kernel
theorem dX9_copy_32 : decode cX9_copy 32 = .ok (.ifCond .ne 6, 3) := by decide +kernel
theorem dX9_copy_35 : decode cX9_copy 35 = .ok (.bipush (-11), 2) := by decide +kernel
theorem dX9_copy_37 : decode cX9_copy 37 = .ok (.ireturn, 1) := by decide +kernel
theorem dX9_copy_38 : decode cX9_copy 38 = .ok (.aload_n 0, 1) := by decide +kernel
theorem dX9_copy_39 : decode cX9_copy 39 = .ok (.getfield 69, 3) := by decide +kernel
theorem dX9_copy_42 : decode cX9_copy 42 = .ok (.iload_n 1, 1) := by decide +kernel
theorem dX9_copy_43 : decode cX9_copy 43 = .ok (.iaload, 1) := by decide +kernel
theorem dX9_copy_44 : decode cX9_copy 44 = .ok (.aload_n 0, 1) := by decide +kernel
theorem dX9_copy_45 : decode cX9_copy 45 = .ok (.getfield 69, 3) := by decide +kernel
theorem dX9_copy_48 : decode cX9_copy 48 = .ok (.iload_n 3, 1) := by decide +kernel
theorem dX9_copy_49 : decode cX9_copy 49 = .ok (.iaload, 1) := by decide +kernel
theorem dX9_copy_50 : decode cX9_copy 50 = .ok (.if_icmp .eq 6, 3) := by decide +kernel
theorem dX9_copy_53 : decode cX9_copy 53 = .ok (.bipush (-13), 2) := by decide +kernel
theorem dX9_copy_55 : decode cX9_copy 55 = .ok (.ireturn, 1) := by decide +kernel
theorem dX9_copy_56 : decode cX9_copy 56 = .ok (.iload 5, 2) := by decide +kernel
theorem dX9_copy_58 : decode cX9_copy 58 = .ok (.ifCond .lt 39, 3) := by decide +kernel
theorem dX9_copy_61 : decode cX9_copy 61 = .ok (.iload_n 2, 1) := by decide +kernel
theorem dX9_copy_62 : decode cX9_copy 62 = .ok (.ifCond .lt 35, 3) := by decide +kernel
theorem dX9_copy_65 : decode cX9_copy 65 = .ok (.iload 4, 2) := by decide +kernel
theorem dX9_copy_67 : decode cX9_copy 67 = .ok (.ifCond .lt 30, 3) := by decide +kernel
theorem dX9_copy_70 : decode cX9_copy 70 = .ok (.iload_n 2, 1) := by decide +kernel
theorem dX9_copy_71 : decode cX9_copy 71 = .ok (.aload_n 0, 1) := by decide +kernel
theorem dX9_copy_72 : decode cX9_copy 72 = .ok (.getfield 72, 3) := by decide +kernel
theorem dX9_copy_75 : decode cX9_copy 75 = .ok (.iload_n 1, 1) := by decide +kernel
theorem dX9_copy_76 : decode cX9_copy 76 = .ok (.iaload, 1) := by decide +kernel
theorem dX9_copy_77 : decode cX9_copy 77 = .ok (.iload 5, 2) := by decide +kernel
theorem dX9_copy_79 : decode cX9_copy 79 = .ok (.isub, 1) := by decide +kernel
theorem dX9_copy_80 : decode cX9_copy 80 = .ok (.if_icmp .gt 17, 3) := by decide +kernel
theorem dX9_copy_83 : decode cX9_copy 83 = .ok (.iload 4, 2) := by decide +kernel
theorem dX9_copy_85 : decode cX9_copy 85 = .ok (.aload_n 0, 1) := by decide +kernel
theorem dX9_copy_86 : decode cX9_copy 86 = .ok (.getfield 72, 3) := by decide +kernel
theorem dX9_copy_89 : decode cX9_copy 89 = .ok (.iload_n 3, 1) := by decide +kernel
theorem dX9_copy_90 : decode cX9_copy 90 = .ok (.iaload, 1) := by decide +kernel
theorem dX9_copy_91 : decode cX9_copy 91 = .ok (.iload 5, 2) := by decide +kernel
theorem dX9_copy_93 : decode cX9_copy 93 = .ok (.isub, 1) := by decide +kernel
theorem dX9_copy_94 : decode cX9_copy 94 = .ok (.if_icmp .le 6, 3) := by decide +kernel
theorem dX9_copy_97 : decode cX9_copy 97 = .ok (.bipush (-12), 2) := by decide +kernel
theorem dX9_copy_99 : decode cX9_copy 99 = .ok (.ireturn, 1) := by decide +kernel
theorem dX9_copy_100 : decode cX9_copy 100 = .ok (.iload_n 1, 1) := by decide +kernel
theorem dX9_copy_101 : decode cX9_copy 101 = .ok (.iload_n 3, 1) := by decide +kernel
theorem dX9_copy_102 : decode cX9_copy 102 = .ok (.if_icmp .ne 13, 3) := by decide +kernel
theorem dX9_copy_105 : decode cX9_copy 105 = .ok (.iload_n 2, 1) := by decide +kernel
theorem dX9_copy_106 : decode cX9_copy 106 = .ok (.iload 4, 2) := by decide +kernel
theorem dX9_copy_108 : decode cX9_copy 108 = .ok (.if_icmp .ge 7, 3) := by decide +kernel
theorem dX9_copy_111 : decode cX9_copy 111 = .ok (.iconst 1, 1) := by decide +kernel
theorem dX9_copy_112 : decode cX9_copy 112 = .ok (.goto 4, 3) := by decide +kernel
theorem dX9_copy_115 : decode cX9_copy 115 = .ok (.iconst 0, 1) := by decide +kernel
theorem dX9_copy_116 : decode cX9_copy 116 = .ok (.istore 6, 2) := by decide +kernel
theorem dX9_copy_118 : decode cX9_copy 118 = .ok (.iconst 0, 1) := by decide +kernel
theorem dX9_copy_119 : decode cX9_copy 119 = .ok (.istore 7, 2) := by decide +kernel
theorem dX9_copy_121 : decode cX9_copy 121 = .ok (.iload 7, 2) := by decide +kernel
theorem dX9_copy_123 : decode cX9_copy 123 = .ok (.iload 5, 2) := by decide +kernel
theorem dX9_copy_125 : decode cX9_copy 125 = .ok (.if_icmp .ge 57, 3) := by decide +kernel
theorem dX9_copy_128 : decode cX9_copy 128 = .ok (.iload 6, 2) := by decide +kernel
theorem dX9_copy_130 : decode cX9_copy 130 = .ok (.ifCond .eq 13, 3) := by decide +kernel
theorem dX9_copy_133 : decode cX9_copy 133 = .ok (.iload 5, 2) := by decide +kernel
theorem dX9_copy_135 : decode cX9_copy 135 = .ok (.iconst 1, 1) := by decide +kernel
theorem dX9_copy_136 : decode cX9_copy 136 = .ok (.isub, 1) := by decide +kernel
theorem dX9_copy_137 : decode cX9_copy 137 = .ok (.iload 7, 2) := by decide +kernel
theorem dX9_copy_139 : decode cX9_copy 139 = .ok (.isub, 1) := by decide +kernel
theorem dX9_copy_140 : decode cX9_copy 140 = .ok (.goto 5, 3) := by decide +kernel
theorem dX9_copy_143 : decode cX9_copy 143 = .ok (.iload 7, 2) := by decide +kernel
theorem dX9_copy_145 : decode cX9_copy 145 = .ok (.istore 8, 2) := by decide +kernel
theorem dX9_copy_147 : decode cX9_copy 147 = .ok (.aload_n 0, 1) := by decide +kernel
theorem dX9_copy_148 : decode cX9_copy 148 = .ok (.getfield 75, 3) := by decide +kernel
theorem dX9_copy_151 : decode cX9_copy 151 = .ok (.bipush 40, 2) := by decide +kernel
theorem dX9_copy_153 : decode cX9_copy 153 = .ok (.iload_n 3, 1) := by decide +kernel
theorem dX9_copy_154 : decode cX9_copy 154 = .ok (.imul, 1) := by decide +kernel
theorem dX9_copy_155 : decode cX9_copy 155 = .ok (.iload 4, 2) := by decide +kernel
theorem dX9_copy_157 : decode cX9_copy 157 = .ok (.iadd, 1) := by decide +kernel
theorem dX9_copy_158 : decode cX9_copy 158 = .ok (.iload 8, 2) := by decide +kernel
theorem dX9_copy_160 : decode cX9_copy 160 = .ok (.iadd, 1) := by decide +kernel
theorem dX9_copy_161 : decode cX9_copy 161 = .ok (.aload_n 0, 1) := by decide +kernel
theorem dX9_copy_162 : decode cX9_copy 162 = .ok (.getfield 75, 3) := by decide +kernel
theorem dX9_copy_165 : decode cX9_copy 165 = .ok (.bipush 40, 2) := by decide +kernel
theorem dX9_copy_167 : decode cX9_copy 167 = .ok (.iload_n 1, 1) := by decide +kernel
theorem dX9_copy_168 : decode cX9_copy 168 = .ok (.imul, 1) := by decide +kernel
theorem dX9_copy_169 : decode cX9_copy 169 = .ok (.iload_n 2, 1) := by decide +kernel
theorem dX9_copy_170 : decode cX9_copy 170 = .ok (.iadd, 1) := by decide +kernel
theorem dX9_copy_171 : decode cX9_copy 171 = .ok (.iload 8, 2) := by decide +kernel
theorem dX9_copy_173 : decode cX9_copy 173 = .ok (.iadd, 1) := by decide +kernel
theorem dX9_copy_174 : decode cX9_copy 174 = .ok (.iaload, 1) := by decide +kernel
theorem dX9_copy_175 : decode cX9_copy 175 = .ok (.iastore, 1) := by decide +kernel
theorem dX9_copy_176 : decode cX9_copy 176 = .ok (.iinc 7 1, 3) := by decide +kernel
theorem dX9_copy_179 : decode cX9_copy 179 = .ok (.goto (-58), 3) := by decide +kernel
theorem dX9_copy_182 : decode cX9_copy 182 = .ok (.iload 5, 2) := by decide +kernel
theorem dX9_copy_184 : decode cX9_copy 184 = .ok (.ireturn, 1) := by decide +kernel
theorem dX9_customers_0 : decode cX9_customers 0 = .ok (.iload_n 1, 1) := by decide +kernel
theorem dX9_customers_1 : decode cX9_customers 1 = .ok (.invokestatic 281, 3) := by decide +kernel
theorem dX9_customers_4 : decode cX9_customers 4 = .ok (.ifCond .eq 28, 3) := by decide +kernel
theorem dX9_customers_7 : decode cX9_customers 7 = .ok (.iload_n 2, 1) := by decide +kernel
theorem dX9_customers_8 : decode cX9_customers 8 = .ok (.i2l, 1) := by decide +kernel
theorem dX9_customers_9 : decode cX9_customers 9 = .ok (.lconst 0, 1) := by decide +kernel
theorem dX9_customers_10 : decode cX9_customers 10 = .ok (.ldc2_w 103, 3) := by decide +kernel
theorem dX9_customers_13 : decode cX9_customers 13 = .ok (.invokestatic 88, 3) := by decide +kernel
theorem dX9_customers_16 : decode cX9_customers 16 = .ok (.ifCond .eq 16, 3) := by decide +kernel
theorem dX9_customers_19 : decode cX9_customers 19 = .ok (.iload 4, 2) := by decide +kernel
theorem dX9_customers_21 : decode cX9_customers 21 = .ok (.i2l, 1) := by decide +kernel
theorem dX9_customers_22 : decode cX9_customers 22 = .ok (.lconst 0, 1) := by decide +kernel
theorem dX9_customers_23 : decode cX9_customers 23 = .ok (.ldc2_w 369, 3) := by decide +kernel
theorem dX9_customers_26 : decode cX9_customers 26 = .ok (.invokestatic 88, 3) := by decide +kernel
theorem dX9_customers_29 : decode cX9_customers 29 = .ok (.ifCond .ne 6, 3) := by decide +kernel
theorem dX9_customers_32 : decode cX9_customers 32 = .ok (.bipush (-2), 2) := by decide +kernel
theorem dX9_customers_34 : decode cX9_customers 34 = .ok (.ireturn, 1) := by decide +kernel
theorem dX9_customers_35 : decode cX9_customers 35 = .ok (.aload_n 0, 1) := by decide +kernel
theorem dX9_customers_36 : decode cX9_customers 36 = .ok (.getfield 65, 3) := by decide +kernel
theorem dX9_customers_39 : decode cX9_customers 39 = .ok (.iload_n 1, 1) := by decide +kernel
theorem dX9_customers_40 : decode cX9_customers 40 = .ok (.baload, 1) := by decide +kernel
theorem dX9_customers_41 : decode cX9_customers 41 = .ok (.ifCond .eq 16, 3) := by decide +kernel
theorem dX9_customers_44 : decode cX9_customers 44 = .ok (.aload_n 0, 1) := by decide +kernel
theorem dX9_customers_45 : decode cX9_customers 45 = .ok (.getfield 69, 3) := by decide +kernel
theorem dX9_customers_48 : decode cX9_customers 48 = .ok (.iload_n 1, 1) := by decide +kernel
theorem dX9_customers_49 : decode cX9_customers 49 = .ok (.iaload, 1) := by decide +kernel
theorem dX9_customers_50 : decode cX9_customers 50 = .ok (.iload_n 2, 1) := by decide +kernel
theorem dX9_customers_51 : decode cX9_customers 51 = .ok (.if_icmp .eq 6, 3) := by decide +kernel
theorem dX9_customers_54 : decode cX9_customers 54 = .ok (.bipush (-13), 2) := by decide +kernel
theorem dX9_customers_56 : decode cX9_customers 56 = .ok (.ireturn, 1) := by decide +kernel
theorem dX9_customers_57 : decode cX9_customers 57 = .ok (.aload_n 0, 1) := by decide +kernel
theorem dX9_customers_58 : decode cX9_customers 58 = .ok (.getfield 65, 3) := by decide +kernel
theorem dX9_customers_61 : decode cX9_customers 61 = .ok (.iload_n 1, 1) := by decide +kernel
theorem dX9_customers_62 : decode cX9_customers 62 = .ok (.baload, 1) := by decide +kernel
theorem dX9_customers_63 : decode cX9_customers 63 = .ok (.ifCond .ne 6, 3) := by decide +kernel
theorem dX9_customers_66 : decode cX9_customers 66 = .ok (.bipush (-11), 2) := by decide +kernel
theorem dX9_customers_68 : decode cX9_customers 68 = .ok (.ireturn, 1) := by decide +kernel
theorem dX9_customers_69 : decode cX9_customers 69 = .ok (.iconst 0, 1) := by decide +kernel
theorem dX9_customers_70 : decode cX9_customers 70 = .ok (.istore 5, 2) := by decide +kernel
theorem dX9_customers_72 : decode cX9_customers 72 = .ok (.iconst 0, 1) := by decide +kernel
theorem dX9_customers_73 : decode cX9_customers 73 = .ok (.istore 6, 2) := by decide +kernel
theorem dX9_customers_75 : decode cX9_customers 75 = .ok (.iload 6, 2) := by decide +kernel
theorem dX9_customers_77 : decode cX9_customers 77 = .ok (.iload 4, 2) := by decide +kernel
theorem dX9_customers_79 : decode cX9_customers 79 = .ok (.if_icmp .ge 79, 3) := by decide +kernel
theorem dX9_customers_82 : decode cX9_customers 82 = .ok (.iload_n 3, 1) := by decide +kernel
theorem dX9_customers_83 : decode cX9_customers 83 = .ok (.ifCond .lt 20, 3) := by decide +kernel
theorem dX9_customers_86 : decode cX9_customers 86 = .ok (.iload_n 3, 1) := by decide +kernel
theorem dX9_customers_87 : decode cX9_customers 87 = .ok (.aload_n 0, 1) := by decide +kernel
theorem dX9_customers_88 : decode cX9_customers 88 = .ok (.getfield 72, 3) := by decide +kernel
theorem dX9_customers_91 : decode cX9_customers 91 = .ok (.iload_n 1, 1) := by decide +kernel
theorem dX9_customers_92 : decode cX9_customers 92 = .ok (.iaload, 1) := by decide +kernel
theorem dX9_customers_93 : decode cX9_customers 93 = .ok (.iconst 2, 1) := by decide +kernel
theorem dX9_customers_94 : decode cX9_customers 94 = .ok (.iload 6, 2) := by decide +kernel
theorem dX9_customers_96 : decode cX9_customers 96 = .ok (.imul, 1) := by decide +kernel
theorem dX9_customers_97 : decode cX9_customers 97 = .ok (.isub, 1) := by decide +kernel
theorem dX9_customers_98 : decode cX9_customers 98 = .ok (.iconst 2, 1) := by decide +kernel
theorem dX9_customers_99 : decode cX9_customers 99 = .ok (.isub, 1) := by decide +kernel
theorem dX9_customers_100 : decode cX9_customers 100 = .ok (.if_icmp .le 6, 3) := by decide +kernel
theorem dX9_customers_103 : decode cX9_customers 103 = .ok (.bipush (-12), 2) := by decide +kernel
theorem dX9_customers_105 : decode cX9_customers 105 = .ok (.ireturn, 1) := by decide +kernel
theorem dX9_customers_106 : decode cX9_customers 106 = .ok (.bipush 40, 2) := by decide +kernel
theorem dX9_customers_108 : decode cX9_customers 108 = .ok (.iload_n 1, 1) := by decide +kernel
theorem dX9_customers_109 : decode cX9_customers 109 = .ok (.imul, 1) := by decide +kernel
theorem dX9_customers_110 : decode cX9_customers 110 = .ok (.iload_n 3, 1) := by decide +kernel
theorem dX9_customers_111 : decode cX9_customers 111 = .ok (.iadd, 1) := by decide +kernel
theorem dX9_customers_112 : decode cX9_customers 112 = .ok (.iconst 2, 1) := by decide +kernel
theorem dX9_customers_113 : decode cX9_customers 113 = .ok (.iload 6, 2) := by decide +kernel
theorem dX9_customers_115 : decode cX9_customers 115 = .ok (.imul, 1) := by decide +kernel
theorem dX9_customers_116 : decode cX9_customers 116 = .ok (.iadd, 1) := by decide +kernel
theorem dX9_customers_117 : decode cX9_customers 117 = .ok (.istore 7, 2) := by decide +kernel
theorem dX9_customers_119 : decode cX9_customers 119 = .ok (.iload 5, 2) := by decide +kernel
theorem dX9_customers_121 : decode cX9_customers 121 = .ok (.aload_n 0, 1) := by decide +kernel
theorem dX9_customers_122 : decode cX9_customers 122 = .ok (.aload_n 0, 1) := by decide +kernel
theorem dX9_customers_123 : decode cX9_customers 123 = .ok (.getfield 75, 3) := by decide +kernel
theorem dX9_customers_126 : decode cX9_customers 126 = .ok (.iload 7, 2) := by decide +kernel
theorem dX9_customers_128 : decode cX9_customers 128 = .ok (.iaload, 1) := by decide +kernel
theorem dX9_customers_129 : decode cX9_customers 129 = .ok (.aload_n 0, 1) := by decide +kernel
theorem dX9_customers_130 : decode cX9_customers 130 = .ok (.getfield 75, 3) := by decide +kernel
theorem dX9_customers_133 : decode cX9_customers 133 = .ok (.iload 7, 2) := by decide +kernel
theorem dX9_customers_135 : decode cX9_customers 135 = .ok (.iconst 1, 1) := by decide +kernel
theorem dX9_customers_136 : decode cX9_customers 136 = .ok (.iadd, 1) := by decide +kernel
theorem dX9_customers_137 : decode cX9_customers 137 = .ok (.iaload, 1) := by decide +kernel
theorem dX9_customers_138 : decode cX9_customers 138 = .ok (.invokevirtual 371, 3) := by decide +kernel
theorem dX9_customers_141 : decode cX9_customers 141 = .ok (.ifCond .lt 7, 3) := by decide +kernel
theorem dX9_customers_144 : decode cX9_customers 144 = .ok (.iconst 1, 1) := by decide +kernel
theorem dX9_customers_145 : decode cX9_customers 145 = .ok (.goto 4, 3) := by decide +kernel
theorem dX9_customers_148 : decode cX9_customers 148 = .ok (.iconst 0, 1) := by decide +kernel
theorem dX9_customers_149 : decode cX9_customers 149 = .ok (.iadd, 1) := by decide +kernel
theorem dX9_customers_150 : decode cX9_customers 150 = .ok (.istore 5, 2) := by decide +kernel
theorem dX9_customers_152 : decode cX9_customers 152 = .ok (.iinc 6 1, 3) := by decide +kernel
theorem dX9_customers_155 : decode cX9_customers 155 = .ok (.goto (-80), 3) := by decide +kernel
theorem dX9_customers_158 : decode cX9_customers 158 = .ok (.iload 5, 2) := by decide +kernel
theorem dX9_customers_160 : decode cX9_customers 160 = .ok (.ireturn, 1) := by decide +kernel
theorem dX9_over_0 : decode cX9_over 0 = .ok (.iload_n 0, 1) := by decide +kernel
theorem dX9_over_1 : decode cX9_over 1 = .ok (.ifCond .ne 7, 3) := by decide +kernel
theorem dX9_over_4 : decode cX9_over 4 = .ok (.iconst (-1), 1) := by decide +kernel
theorem dX9_over_5 : decode cX9_over 5 = .ok (.goto 22, 3) := by decide +kernel
theorem dX9_over_8 : decode cX9_over 8 = .ok (.iload_n 0, 1) := by decide +kernel
theorem dX9_over_9 : decode cX9_over 9 = .ok (.iconst 3, 1) := by decide +kernel
theorem dX9_over_10 : decode cX9_over 10 = .ok (.if_icmp .ne 7, 3) := by decide +kernel
theorem dX9_over_13 : decode cX9_over 13 = .ok (.iconst 1, 1) := by decide +kernel
theorem dX9_over_14 : decode cX9_over 14 = .ok (.goto 13, 3) := by decide +kernel
theorem dX9_over_17 : decode cX9_over 17 = .ok (.iload_n 0, 1) := by decide +kernel
theorem dX9_over_18 : decode cX9_over 18 = .ok (.iconst 4, 1) := by decide +kernel
theorem dX9_over_19 : decode cX9_over 19 = .ok (.if_icmp .ne 7, 3) := by decide +kernel
theorem dX9_over_22 : decode cX9_over 22 = .ok (.iconst 2, 1) := by decide +kernel
theorem dX9_over_23 : decode cX9_over 23 = .ok (.goto 4, 3) := by decide +kernel
theorem dX9_over_26 : decode cX9_over 26 = .ok (.iconst 0, 1) := by decide +kernel
theorem dX9_over_27 : decode cX9_over 27 = .ok (.ireturn, 1) := by decide +kernel
-- KeepOurPlaceModel.sheet
def F9_sheet_l77_b (rec77 : Mem → Int32 → Int32 → Int32 → Int32 → Option (Int32 × Mem)) (M : Mem) (x1 : Int32) (x2 : Int32) (x3 : Int32) (x4 : Int32) : Option (Int32 × Mem) :=
    if x3 ≤ x4 then
      some ((1 : Int32), M)
    else
      if x2 < 0 then
        some ((1 : Int32), M)
      else
        if inb (((40 : Int32) * x1) + x4) 160 = true then
        rec77 (up2 M 20 (Int32.toNatClampNeg (((40 : Int32) * x1) + x4)) (0 : Int32)) x1 x2 x3 (x4 + (1 : Int32))
        else none
def F9_sheet_l77 : Nat → Mem → Int32 → Int32 → Int32 → Int32 → Option (Int32 × Mem)
  | 0, _, _, _, _, _ => none
  | fu + 1, M, x1, x2, x3, x4 => F9_sheet_l77_b (F9_sheet_l77 fu) M x1 x2 x3 x4
def F9_sheet_j59 (M : Mem) (x1 : Int32) (x2 : Int32) (x3 : Int32) (y0 : Int32) (y1 : Int32) : Option (Int32 × Mem) :=
    if inb y1 4 = true then
    if inb x1 4 = true then
    F9_sheet_l77 FUEL (up2 (up2 (up2 M 17 (Int32.toNatClampNeg y1) (vp_nar .boolean y0)) 18 (Int32.toNatClampNeg x1) x2) 19 (Int32.toNatClampNeg x1) x3) x1 x2 x3 (0 : Int32)
    else none
    else none
def F9_sheet_j45 (M : Mem) (x1 : Int32) (x2 : Int32) (x3 : Int32) : Option (Int32 × Mem) :=
    if x2 < 0 then
      F9_sheet_j59 M x1 x2 x3 (0 : Int32) x1
    else
      F9_sheet_j59 M x1 x2 x3 (1 : Int32) x1
def F9_sheet_j34 (M : Mem) (x1 : Int32) (x2 : Int32) (x3 : Int32) : Option (Int32 × Mem) :=
    if x2 < 0 then
      F9_sheet_j45 M x1 x2 x3
    else
      if 0 ≤ x3 then
        F9_sheet_j45 M x1 x2 x3
      else
        some ((-14 : Int32), M)
def F9_sheet (M : Mem) (a1 : Int32) (a2 : Int32) (a3 : Int32) : Option (Int32 × Mem) :=
    Option.bind (F9_isSheet M a1) fun r1 =>
    if r1.1 = 0 then
      some ((-2 : Int32), r1.2)
    else
      Option.bind (F9_in r1.2 (Int32.toInt64 a2) (-1 : Int64) (2 : Int64)) fun r4 =>
      if r4.1 = 0 then
        some ((-2 : Int32), r4.2)
      else
        if a2 < 0 then
          F9_sheet_j34 r4.2 a1 a2 a3
        else
          if a3 ≤ (40 : Int32) then
            F9_sheet_j34 r4.2 a1 a2 a3
          else
            some ((-2 : Int32), r4.2)
set_option maxRecDepth 20000 in
theorem F9_sheet_l77_bok {p : Program} {l : Launch} {e : Env} {s : State} {m : MethodId} {args : Array Value} {below : List Frame} {meth : Method} {c : Code} {G : GG} {D : Nat} {r : Int32 × Mem} {rec77 : Mem → Int32 → Int32 → Int32 → Int32 → Option (Int32 × Mem)} (F : FrP shB G p s m args c RX9 cX9_sheet 5) (hr : meth.sig.returnType = (some .int)) (hlk : meth.locks = false) (hD : 3 ≤ D) (hrec77 : ∀ (M : Mem) (x1 : Int32) (x2 : Int32) (x3 : Int32) (x4 : Int32), rec77 M x1 x2 x3 x4 = some r → XJ shB p l e (rmX D) s m args below meth c 0 0 G 5 (MQ below (QcX shB G ((some (.int r.1), r.2) : Option Value × Mem).1 ((some (.int r.1), r.2) : Option Value × Mem).2) args s 0 0 (AW shB G.2.1)) 77 [(0, .ref 0), (1, .int x1), (2, .int x2), (3, .int x3), (4, .int x4)] [] M) {M : Mem} {x1 : Int32} {x2 : Int32} {x3 : Int32} {x4 : Int32} (h : F9_sheet_l77_b rec77 M x1 x2 x3 x4 = some r) : XJ shB p l e (rmX D) s m args below meth c 0 0 G 5 (MQ below (QcX shB G ((some (.int r.1), r.2) : Option Value × Mem).1 ((some (.int r.1), r.2) : Option Value × Mem).2) args s 0 0 (AW shB G.2.1)) 77 [(0, .ref 0), (1, .int x1), (2, .int x2), (3, .int x3), (4, .int x4)] [] M := by
  unfold F9_sheet_l77_b at h
  refine X_iload F dX9_sheet_77 rfl ?_
  refine X_iload_n F dX9_sheet_79 rfl ?_
  refine X_icmp_ge (tgt := 106) F dX9_sheet_80 (by decide) (fun q14 => ?_) (fun q14 => ?_)
  · rw [if_pos q14] at h
    refine X_iconst F dX9_sheet_106 (v := (1 : Int32)) rfl ?_
    exact X_iret F hr hlk (retI h) dX9_sheet_107
  · rw [if_neg q14] at h
    refine X_iload_n F dX9_sheet_83 rfl ?_
    refine X_if_lt (tgt := 106) F dX9_sheet_84 (by decide) (fun q15 => ?_) (fun q15 => ?_)
    · rw [if_pos q15] at h
      refine X_iconst F dX9_sheet_106 (v := (1 : Int32)) rfl ?_
      exact X_iret F hr hlk (retI h) dX9_sheet_107
    · rw [if_neg q15] at h
      refine X_aload_n F dX9_sheet_87 rfl ?_
      refine X_getr F ffRX9_75 dX9_sheet_88 ?_
      refine X_bipush F dX9_sheet_91 (v := (40 : Int32)) rfl ?_
      refine X_iload_n F dX9_sheet_93 rfl ?_
      refine X_imul F dX9_sheet_94 ?_
      refine X_iload F dX9_sheet_95 rfl ?_
      refine X_iadd F dX9_sheet_97 ?_
      refine X_iconst F dX9_sheet_98 (v := (0 : Int32)) rfl ?_
      obtain ⟨q16, h⟩ := ifS h
      refine X_iast (j := (Int32.toNatClampNeg (((40 : Int32) * x1) + x4))) F rfl (inbV q16) rfl dX9_sheet_99 ?_
      refine X_iinc F dX9_sheet_100 rfl (v := (1 : Int32)) rfl (by decide) rfl ?_
      refine X_goto (tgt := 77) F dX9_sheet_103 (by decide) ?_
      refine X_pick [1, 2, 3, 4, 0] rfl ?_
      exact hrec77 _ _ _ _ _ h
set_option maxRecDepth 20000 in
theorem F9_sheet_l77_ok {p : Program} {l : Launch} {e : Env} {s : State} {m : MethodId} {args : Array Value} {below : List Frame} {meth : Method} {c : Code} {G : GG} {D : Nat} {r : Int32 × Mem} (F : FrP shB G p s m args c RX9 cX9_sheet 5) (hr : meth.sig.returnType = (some .int)) (hlk : meth.locks = false) (hD : 3 ≤ D) : ∀ (fu : Nat) (M : Mem) (x1 : Int32) (x2 : Int32) (x3 : Int32) (x4 : Int32), F9_sheet_l77 fu M x1 x2 x3 x4 = some r → XJ shB p l e (rmX D) s m args below meth c 0 0 G 5 (MQ below (QcX shB G ((some (.int r.1), r.2) : Option Value × Mem).1 ((some (.int r.1), r.2) : Option Value × Mem).2) args s 0 0 (AW shB G.2.1)) 77 [(0, .ref 0), (1, .int x1), (2, .int x2), (3, .int x3), (4, .int x4)] [] M := by
  intro fu
  induction fu with
  | zero => intro M x1 x2 x3 x4 h; cases h
  | succ fu ih => intro M x1 x2 x3 x4 h; exact F9_sheet_l77_bok F hr hlk hD (fun M x1 x2 x3 x4 => ih M x1 x2 x3 x4) h
set_option maxRecDepth 20000 in
theorem F9_sheet_j59_ok {p : Program} {l : Launch} {e : Env} {s : State} {m : MethodId} {args : Array Value} {below : List Frame} {meth : Method} {c : Code} {G : GG} {D : Nat} {r : Int32 × Mem} (F : FrP shB G p s m args c RX9 cX9_sheet 5) (hr : meth.sig.returnType = (some .int)) (hlk : meth.locks = false) (hD : 3 ≤ D) {M : Mem} {x1 : Int32} {x2 : Int32} {x3 : Int32} {y0 : Int32} {y1 : Int32} (h : F9_sheet_j59 M x1 x2 x3 y0 y1 = some r) : XJ shB p l e (rmX D) s m args below meth c 0 0 G 5 (MQ below (QcX shB G ((some (.int r.1), r.2) : Option Value × Mem).1 ((some (.int r.1), r.2) : Option Value × Mem).2) args s 0 0 (AW shB G.2.1)) 59 [(0, .ref 0), (1, .int x1), (2, .int x2), (3, .int x3)] [.int y0, .int y1, .ref 17] M := by
  unfold F9_sheet_j59 at h
  obtain ⟨q12, h⟩ := ifS h
  refine X_zast (j := (Int32.toNatClampNeg y1)) F rfl (inbV q12) rfl dX9_sheet_59 ?_
  refine X_aload_n F dX9_sheet_60 rfl ?_
  refine X_getr F ffRX9_69 dX9_sheet_61 ?_
  refine X_iload_n F dX9_sheet_64 rfl ?_
  refine X_iload_n F dX9_sheet_65 rfl ?_
  obtain ⟨q13, h⟩ := ifS h
  refine X_iast (j := (Int32.toNatClampNeg x1)) F rfl (inbV q13) rfl dX9_sheet_66 ?_
  refine X_aload_n F dX9_sheet_67 rfl ?_
  refine X_getr F ffRX9_72 dX9_sheet_68 ?_
  refine X_iload_n F dX9_sheet_71 rfl ?_
  refine X_iload_n F dX9_sheet_72 rfl ?_
  refine X_iast (j := (Int32.toNatClampNeg x1)) F rfl (inbV q13) rfl dX9_sheet_73 ?_
  refine X_iconst F dX9_sheet_74 (v := (0 : Int32)) rfl ?_
  refine X_istore F dX9_sheet_75 (by decide) rfl ?_
  refine X_pick [1, 2, 3, 4, 0] rfl ?_
  exact F9_sheet_l77_ok F hr hlk hD FUEL _ _ _ _ _ h
set_option maxRecDepth 20000 in
theorem F9_sheet_j45_ok {p : Program} {l : Launch} {e : Env} {s : State} {m : MethodId} {args : Array Value} {below : List Frame} {meth : Method} {c : Code} {G : GG} {D : Nat} {r : Int32 × Mem} (F : FrP shB G p s m args c RX9 cX9_sheet 5) (hr : meth.sig.returnType = (some .int)) (hlk : meth.locks = false) (hD : 3 ≤ D) {M : Mem} {x1 : Int32} {x2 : Int32} {x3 : Int32} (h : F9_sheet_j45 M x1 x2 x3 = some r) : XJ shB p l e (rmX D) s m args below meth c 0 0 G 5 (MQ below (QcX shB G ((some (.int r.1), r.2) : Option Value × Mem).1 ((some (.int r.1), r.2) : Option Value × Mem).2) args s 0 0 (AW shB G.2.1)) 45 [(0, .ref 0), (1, .int x1), (2, .int x2), (3, .int x3)] [] M := by
  unfold F9_sheet_j45 at h
  refine X_aload_n F dX9_sheet_45 rfl ?_
  refine X_getr F ffRX9_65 dX9_sheet_46 ?_
  refine X_iload_n F dX9_sheet_49 rfl ?_
  refine X_iload_n F dX9_sheet_50 rfl ?_
  refine X_if_lt (tgt := 58) F dX9_sheet_51 (by decide) (fun q11 => ?_) (fun q11 => ?_)
  · rw [if_pos q11] at h
    refine X_iconst F dX9_sheet_58 (v := (0 : Int32)) rfl ?_
    exact F9_sheet_j59_ok F hr hlk hD h
  · rw [if_neg q11] at h
    refine X_iconst F dX9_sheet_54 (v := (1 : Int32)) rfl ?_
    refine X_goto (tgt := 59) F dX9_sheet_55 (by decide) ?_
    exact F9_sheet_j59_ok F hr hlk hD h
set_option maxRecDepth 20000 in
theorem F9_sheet_j34_ok {p : Program} {l : Launch} {e : Env} {s : State} {m : MethodId} {args : Array Value} {below : List Frame} {meth : Method} {c : Code} {G : GG} {D : Nat} {r : Int32 × Mem} (F : FrP shB G p s m args c RX9 cX9_sheet 5) (hr : meth.sig.returnType = (some .int)) (hlk : meth.locks = false) (hD : 3 ≤ D) {M : Mem} {x1 : Int32} {x2 : Int32} {x3 : Int32} (h : F9_sheet_j34 M x1 x2 x3 = some r) : XJ shB p l e (rmX D) s m args below meth c 0 0 G 5 (MQ below (QcX shB G ((some (.int r.1), r.2) : Option Value × Mem).1 ((some (.int r.1), r.2) : Option Value × Mem).2) args s 0 0 (AW shB G.2.1)) 34 [(0, .ref 0), (1, .int x1), (2, .int x2), (3, .int x3)] [] M := by
  unfold F9_sheet_j34 at h
  refine X_iload_n F dX9_sheet_34 rfl ?_
  refine X_if_lt (tgt := 45) F dX9_sheet_35 (by decide) (fun q9 => ?_) (fun q9 => ?_)
  · rw [if_pos q9] at h
    exact F9_sheet_j45_ok F hr hlk hD h
  · rw [if_neg q9] at h
    refine X_iload_n F dX9_sheet_38 rfl ?_
    refine X_if_ge (tgt := 45) F dX9_sheet_39 (by decide) (fun q10 => ?_) (fun q10 => ?_)
    · rw [if_pos q10] at h
      exact F9_sheet_j45_ok F hr hlk hD h
    · rw [if_neg q10] at h
      refine X_bipush F dX9_sheet_42 (v := (-14 : Int32)) rfl ?_
      exact X_iret F hr hlk (retI h) dX9_sheet_44
set_option maxRecDepth 20000 in
theorem F9_sheet_ok {p : Program} {l : Launch} {e : Env} {s : State} {m : MethodId} {args : Array Value} {below : List Frame} {meth : Method} {c : Code} {G : GG} {D : Nat} {r : Int32 × Mem} (F : FrP shB G p s m args c RX9 cX9_sheet 5) (hr : meth.sig.returnType = (some .int)) (hlk : meth.locks = false) (hD : 3 ≤ D) {M : Mem} {a1 : Int32} {a2 : Int32} {a3 : Int32} (h : F9_sheet M a1 a2 a3 = some r) : XJ shB p l e (rmX D) s m args below meth c 0 0 G 5 (MQ below (QcX shB G ((some (.int r.1), r.2) : Option Value × Mem).1 ((some (.int r.1), r.2) : Option Value × Mem).2) args s 0 0 (AW shB G.2.1)) 0 [(0, .ref 0), (1, .int a1), (2, .int a2), (3, .int a3)] [] M := by
  unfold F9_sheet at h
  refine X_iload_n F dX9_sheet_0 rfl ?_
  obtain ⟨r1, h2, h⟩ := bndS h
  refine X_callS (As := [.int a1]) (rest := []) F fsRX9_281 feX9_isSheet ftX9_isSheet (F9_isSheet_met (D := D - 1) F.2.2.2.2.2.2.2.1 (by omega) h2) rfl rfl (Nat.le_of_ble_eq_true rfl) (rm_ok (by omega) (by decide)) dX9_sheet_1 ?_
  show XJ shB p l e (rmX D) s m args below meth c 0 0 G 5 (MQ below (QcX shB G ((some (.int r.1), r.2) : Option Value × Mem).1 ((some (.int r.1), r.2) : Option Value × Mem).2) args s 0 0 (AW shB G.2.1)) 4 [(0, .ref 0), (1, .int a1), (2, .int a2), (3, .int a3)] [.int r1.1] r1.2
  refine X_if_eq (tgt := 31) F dX9_sheet_4 (by decide) (fun q3 => ?_) (fun q3 => ?_)
  · rw [if_pos q3] at h
    refine X_bipush F dX9_sheet_31 (v := (-2 : Int32)) rfl ?_
    exact X_iret F hr hlk (retI h) dX9_sheet_33
  · rw [if_neg q3] at h
    refine X_iload_n F dX9_sheet_7 rfl ?_
    refine X_i2l F dX9_sheet_8 ?_
    refine X_ldc2 F fcRX9_367 dX9_sheet_9 ?_
    refine X_ldc2 F fcRX9_103 dX9_sheet_12 ?_
    obtain ⟨r4, h5, h⟩ := bndS h
    refine X_callS (As := [.long (Int32.toInt64 a2), .long (-1 : Int64), .long (2 : Int64)]) (rest := []) F fsRX9_88 feX9_in ftX9_in (F9_in_met (D := D - 1) F.2.2.2.2.2.2.2.1 (by omega) h5) rfl rfl (Nat.le_of_ble_eq_true rfl) (rm_ok (by omega) (by decide)) dX9_sheet_15 ?_
    show XJ shB p l e (rmX D) s m args below meth c 0 0 G 5 (MQ below (QcX shB G ((some (.int r.1), r.2) : Option Value × Mem).1 ((some (.int r.1), r.2) : Option Value × Mem).2) args s 0 0 (AW shB G.2.1)) 18 [(0, .ref 0), (1, .int a1), (2, .int a2), (3, .int a3)] [.int r4.1] r4.2
    refine X_if_eq (tgt := 31) F dX9_sheet_18 (by decide) (fun q6 => ?_) (fun q6 => ?_)
    · rw [if_pos q6] at h
      refine X_bipush F dX9_sheet_31 (v := (-2 : Int32)) rfl ?_
      exact X_iret F hr hlk (retI h) dX9_sheet_33
    · rw [if_neg q6] at h
      refine X_iload_n F dX9_sheet_21 rfl ?_
      refine X_if_lt (tgt := 34) F dX9_sheet_22 (by decide) (fun q7 => ?_) (fun q7 => ?_)
      · rw [if_pos q7] at h
        exact F9_sheet_j34_ok F hr hlk hD h
      · rw [if_neg q7] at h
        refine X_iload_n F dX9_sheet_25 rfl ?_
        refine X_bipush F dX9_sheet_26 (v := (40 : Int32)) rfl ?_
        refine X_icmp_le (tgt := 34) F dX9_sheet_28 (by decide) (fun q8 => ?_) (fun q8 => ?_)
        · rw [if_pos q8] at h
          exact F9_sheet_j34_ok F hr hlk hD h
        · rw [if_neg q8] at h
          refine X_bipush F dX9_sheet_31 (v := (-2 : Int32)) rfl ?_
          exact X_iret F hr hlk (retI h) dX9_sheet_33
set_option maxRecDepth 20000 in
theorem F9_sheet_met {l : Launch} {G : GG} {D : Nat} {r : Int32 × Mem} {M : Mem} {a1 : Int32} {a2 : Int32} {a3 : Int32} (hI : Inj shB G.2.1) (hD : 3 ≤ D) (h : F9_sheet M a1 a2 a3 = some r) : MetX shB l G yX9_sheet cX9_sheet 5 (some .int) D [.ref 0, .int a1, .int a2, .int a3] M (some (.int r.1), r.2) :=
  X_met hI (by decide +kernel) (Nat.le_of_ble_eq_true rfl) (fun p e s m args below meth c F hr hlk => F9_sheet_ok F hr hlk hD h)
-- KeepOurPlaceModel.film
def F9_film_l37_b (rec37 : Mem → Int32 → Int32 → Int32 → Int32 → Option (Int32 × Mem)) (M : Mem) (x1 : Int32) (x2 : Int32) (x3 : Int32) (x4 : Int32) : Option (Int32 × Mem) :=
    if x2 ≤ x4 then
      some (x2, M)
    else
      Option.bind (F9_secondsOf M x4) fun r10 =>
      if inb (((40 : Int32) * x1) + x4) 160 = true then
      rec37 (up2 r10.2 20 (Int32.toNatClampNeg (((40 : Int32) * x1) + x4)) (x3 + r10.1)) x1 x2 (x3 + r10.1) (x4 + (1 : Int32))
      else none
def F9_film_l37 : Nat → Mem → Int32 → Int32 → Int32 → Int32 → Option (Int32 × Mem)
  | 0, _, _, _, _, _ => none
  | fu + 1, M, x1, x2, x3, x4 => F9_film_l37_b (F9_film_l37 fu) M x1 x2 x3 x4
def F9_film (M : Mem) (a1 : Int32) (a2 : Int32) : Option (Int32 × Mem) :=
    Option.bind (F9_isSheet M a1) fun r1 =>
    if r1.1 = 0 then
      some ((-2 : Int32), r1.2)
    else
      Option.bind (F9_in r1.2 (Int32.toInt64 a2) (0 : Int64) (Int32.toInt64 (r1.2 0 10))) fun r4 =>
      if ¬ r4.1 = 0 then
        Option.bind (F9_sheet r4.2 a1 (2 : Int32) a2) fun r7 =>
        F9_film_l37 FUEL r7.2 a1 a2 (0 : Int32) (0 : Int32)
      else
        some ((-2 : Int32), r4.2)
set_option maxRecDepth 20000 in
theorem F9_film_l37_bok {p : Program} {l : Launch} {e : Env} {s : State} {m : MethodId} {args : Array Value} {below : List Frame} {meth : Method} {c : Code} {G : GG} {D : Nat} {r : Int32 × Mem} {rec37 : Mem → Int32 → Int32 → Int32 → Int32 → Option (Int32 × Mem)} (F : FrP shB G p s m args c RX9 cX9_film 5) (hr : meth.sig.returnType = (some .int)) (hlk : meth.locks = false) (hD : 90 ≤ D) (hrec37 : ∀ (M : Mem) (x1 : Int32) (x2 : Int32) (x3 : Int32) (x4 : Int32), rec37 M x1 x2 x3 x4 = some r → XJ shB p l e (rmX D) s m args below meth c 0 0 G 5 (MQ below (QcX shB G ((some (.int r.1), r.2) : Option Value × Mem).1 ((some (.int r.1), r.2) : Option Value × Mem).2) args s 0 0 (AW shB G.2.1)) 37 [(0, .ref 0), (1, .int x1), (2, .int x2), (3, .int x3), (4, .int x4)] [] M) {M : Mem} {x1 : Int32} {x2 : Int32} {x3 : Int32} {x4 : Int32} (h : F9_film_l37_b rec37 M x1 x2 x3 x4 = some r) : XJ shB p l e (rmX D) s m args below meth c 0 0 G 5 (MQ below (QcX shB G ((some (.int r.1), r.2) : Option Value × Mem).1 ((some (.int r.1), r.2) : Option Value × Mem).2) args s 0 0 (AW shB G.2.1)) 37 [(0, .ref 0), (1, .int x1), (2, .int x2), (3, .int x3), (4, .int x4)] [] M := by
  unfold F9_film_l37_b at h
  refine X_iload F dX9_film_37 rfl ?_
  refine X_iload_n F dX9_film_39 rfl ?_
  refine X_icmp_ge (tgt := 71) F dX9_film_40 (by decide) (fun q9 => ?_) (fun q9 => ?_)
  · rw [if_pos q9] at h
    refine X_iload_n F dX9_film_71 rfl ?_
    exact X_iret F hr hlk (retI h) dX9_film_72
  · rw [if_neg q9] at h
    refine X_iload_n F dX9_film_43 rfl ?_
    refine X_aload_n F dX9_film_44 rfl ?_
    refine X_iload F dX9_film_45 rfl ?_
    obtain ⟨r10, h11, h⟩ := bndS h
    refine X_callV (ci := 0) (As := [.int x4]) (rest := [.int x3]) F fkRX9_125 feX9_secondsOf fvX9_secondsOf ⟨_, _, _, rfl, rfl, rfl⟩ (F9_secondsOf_met (D := D - 1) F.2.2.2.2.2.2.2.1 (by omega) h11) rfl rfl (Nat.le_of_ble_eq_true rfl) (rm_ok (by omega) (by decide)) dX9_film_47 ?_
    show XJ shB p l e (rmX D) s m args below meth c 0 0 G 5 (MQ below (QcX shB G ((some (.int r.1), r.2) : Option Value × Mem).1 ((some (.int r.1), r.2) : Option Value × Mem).2) args s 0 0 (AW shB G.2.1)) 50 [(0, .ref 0), (1, .int x1), (2, .int x2), (3, .int x3), (4, .int x4)] [.int r10.1, .int x3] r10.2
    refine X_iadd F dX9_film_50 ?_
    refine X_istore_n F dX9_film_51 (by decide) rfl ?_
    refine X_aload_n F dX9_film_52 rfl ?_
    refine X_getr F ffRX9_75 dX9_film_53 ?_
    refine X_bipush F dX9_film_56 (v := (40 : Int32)) rfl ?_
    refine X_iload_n F dX9_film_58 rfl ?_
    refine X_imul F dX9_film_59 ?_
    refine X_iload F dX9_film_60 rfl ?_
    refine X_iadd F dX9_film_62 ?_
    refine X_iload_n F dX9_film_63 rfl ?_
    obtain ⟨q12, h⟩ := ifS h
    refine X_iast (j := (Int32.toNatClampNeg (((40 : Int32) * x1) + x4))) F rfl (inbV q12) rfl dX9_film_64 ?_
    refine X_iinc F dX9_film_65 rfl (v := (1 : Int32)) rfl (by decide) rfl ?_
    refine X_goto (tgt := 37) F dX9_film_68 (by decide) ?_
    refine X_pick [2, 3, 4, 1, 0] rfl ?_
    exact hrec37 _ _ _ _ _ h
set_option maxRecDepth 20000 in
theorem F9_film_l37_ok {p : Program} {l : Launch} {e : Env} {s : State} {m : MethodId} {args : Array Value} {below : List Frame} {meth : Method} {c : Code} {G : GG} {D : Nat} {r : Int32 × Mem} (F : FrP shB G p s m args c RX9 cX9_film 5) (hr : meth.sig.returnType = (some .int)) (hlk : meth.locks = false) (hD : 90 ≤ D) : ∀ (fu : Nat) (M : Mem) (x1 : Int32) (x2 : Int32) (x3 : Int32) (x4 : Int32), F9_film_l37 fu M x1 x2 x3 x4 = some r → XJ shB p l e (rmX D) s m args below meth c 0 0 G 5 (MQ below (QcX shB G ((some (.int r.1), r.2) : Option Value × Mem).1 ((some (.int r.1), r.2) : Option Value × Mem).2) args s 0 0 (AW shB G.2.1)) 37 [(0, .ref 0), (1, .int x1), (2, .int x2), (3, .int x3), (4, .int x4)] [] M := by
  intro fu
  induction fu with
  | zero => intro M x1 x2 x3 x4 h; cases h
  | succ fu ih => intro M x1 x2 x3 x4 h; exact F9_film_l37_bok F hr hlk hD (fun M x1 x2 x3 x4 => ih M x1 x2 x3 x4) h
set_option maxRecDepth 20000 in
theorem F9_film_ok {p : Program} {l : Launch} {e : Env} {s : State} {m : MethodId} {args : Array Value} {below : List Frame} {meth : Method} {c : Code} {G : GG} {D : Nat} {r : Int32 × Mem} (F : FrP shB G p s m args c RX9 cX9_film 5) (hr : meth.sig.returnType = (some .int)) (hlk : meth.locks = false) (hD : 90 ≤ D) {M : Mem} {a1 : Int32} {a2 : Int32} (h : F9_film M a1 a2 = some r) : XJ shB p l e (rmX D) s m args below meth c 0 0 G 5 (MQ below (QcX shB G ((some (.int r.1), r.2) : Option Value × Mem).1 ((some (.int r.1), r.2) : Option Value × Mem).2) args s 0 0 (AW shB G.2.1)) 0 [(0, .ref 0), (1, .int a1), (2, .int a2)] [] M := by
  unfold F9_film at h
  refine X_iload_n F dX9_film_0 rfl ?_
  obtain ⟨r1, h2, h⟩ := bndS h
  refine X_callS (As := [.int a1]) (rest := []) F fsRX9_281 feX9_isSheet ftX9_isSheet (F9_isSheet_met (D := D - 1) F.2.2.2.2.2.2.2.1 (by omega) h2) rfl rfl (Nat.le_of_ble_eq_true rfl) (rm_ok (by omega) (by decide)) dX9_film_1 ?_
  show XJ shB p l e (rmX D) s m args below meth c 0 0 G 5 (MQ below (QcX shB G ((some (.int r.1), r.2) : Option Value × Mem).1 ((some (.int r.1), r.2) : Option Value × Mem).2) args s 0 0 (AW shB G.2.1)) 4 [(0, .ref 0), (1, .int a1), (2, .int a2)] [.int r1.1] r1.2
  refine X_if_eq (tgt := 21) F dX9_film_4 (by decide) (fun q3 => ?_) (fun q3 => ?_)
  · rw [if_pos q3] at h
    refine X_bipush F dX9_film_21 (v := (-2 : Int32)) rfl ?_
    exact X_iret F hr hlk (retI h) dX9_film_23
  · rw [if_neg q3] at h
    refine X_iload_n F dX9_film_7 rfl ?_
    refine X_i2l F dX9_film_8 ?_
    refine X_lconst F dX9_film_9 (v := (0 : Int64)) rfl ?_
    refine X_aload_n F dX9_film_10 rfl ?_
    refine X_geti (v := (r1.2 0 10)) F ffRX9_85 dX9_film_11 rfl ?_
    refine X_i2l F dX9_film_14 ?_
    obtain ⟨r4, h5, h⟩ := bndS h
    refine X_callS (As := [.long (Int32.toInt64 a2), .long (0 : Int64), .long (Int32.toInt64 (r1.2 0 10))]) (rest := []) F fsRX9_88 feX9_in ftX9_in (F9_in_met (D := D - 1) F.2.2.2.2.2.2.2.1 (by omega) h5) rfl rfl (Nat.le_of_ble_eq_true rfl) (rm_ok (by omega) (by decide)) dX9_film_15 ?_
    show XJ shB p l e (rmX D) s m args below meth c 0 0 G 5 (MQ below (QcX shB G ((some (.int r.1), r.2) : Option Value × Mem).1 ((some (.int r.1), r.2) : Option Value × Mem).2) args s 0 0 (AW shB G.2.1)) 18 [(0, .ref 0), (1, .int a1), (2, .int a2)] [.int r4.1] r4.2
    refine X_if_ne (tgt := 24) F dX9_film_18 (by decide) (fun q6 => ?_) (fun q6 => ?_)
    · rw [if_pos q6] at h
      refine X_aload_n F dX9_film_24 rfl ?_
      refine X_iload_n F dX9_film_25 rfl ?_
      refine X_iconst F dX9_film_26 (v := (2 : Int32)) rfl ?_
      refine X_iload_n F dX9_film_27 rfl ?_
      obtain ⟨r7, h8, h⟩ := bndS h
      refine X_callV (ci := 0) (As := [.int a1, .int (2 : Int32), .int a2]) (rest := []) F fkRX9_346 feX9_sheet fvX9_sheet ⟨_, _, _, rfl, rfl, rfl⟩ (F9_sheet_met (D := D - 1) F.2.2.2.2.2.2.2.1 (by omega) h8) rfl rfl (Nat.le_of_ble_eq_true rfl) (rm_ok (by omega) (by decide)) dX9_film_28 ?_
      show XJ shB p l e (rmX D) s m args below meth c 0 0 G 5 (MQ below (QcX shB G ((some (.int r.1), r.2) : Option Value × Mem).1 ((some (.int r.1), r.2) : Option Value × Mem).2) args s 0 0 (AW shB G.2.1)) 31 [(0, .ref 0), (1, .int a1), (2, .int a2)] [.int r7.1] r7.2
      refine X_pop F dX9_film_31 rfl ?_
      refine X_iconst F dX9_film_32 (v := (0 : Int32)) rfl ?_
      refine X_istore_n F dX9_film_33 (by decide) rfl ?_
      refine X_iconst F dX9_film_34 (v := (0 : Int32)) rfl ?_
      refine X_istore F dX9_film_35 (by decide) rfl ?_
      refine X_pick [2, 3, 4, 1, 0] rfl ?_
      exact F9_film_l37_ok F hr hlk hD FUEL _ _ _ _ _ h
    · rw [if_neg (fun z => z q6)] at h
      refine X_bipush F dX9_film_21 (v := (-2 : Int32)) rfl ?_
      exact X_iret F hr hlk (retI h) dX9_film_23
set_option maxRecDepth 20000 in
theorem F9_film_met {l : Launch} {G : GG} {D : Nat} {r : Int32 × Mem} {M : Mem} {a1 : Int32} {a2 : Int32} (hI : Inj shB G.2.1) (hD : 90 ≤ D) (h : F9_film M a1 a2 = some r) : MetX shB l G yX9_film cX9_film 5 (some .int) D [.ref 0, .int a1, .int a2] M (some (.int r.1), r.2) :=
  X_met hI (by decide +kernel) (Nat.le_of_ble_eq_true rfl) (fun p e s m args below meth c F hr hlk => F9_film_ok F hr hlk hD h)
-- KeepOurPlaceModel.draws
def F9_draws_j49 (rec7 : Mem → Int32 → Int32 → Int32 → Option (Int32 × Mem)) (M : Mem) (x2 : Int32) (x4 : Int32) (y0 : Int32) (y1 : Int32) : Option (Int32 × Mem) :=
    rec7 M x2 (y1 ||| (y0 <<< (x4 &&& 31))) (x4 + (1 : Int32))
def F9_draws_l7_b (rec7 : Mem → Int32 → Int32 → Int32 → Option (Int32 × Mem)) (M : Mem) (x2 : Int32) (x3 : Int32) (x4 : Int32) : Option (Int32 × Mem) :=
    if (M 0 16) ≤ x4 then
      Option.bind (F9_gathers M) fun r2 =>
      Option.bind (F9_seeks r2.2 x3) fun r4 =>
      Option.bind (F9_backOf r4.2) fun r6 =>
      Option.bind (F9_worthOf r6.2) fun r8 =>
      Option.bind (F9_gainOf r8.2 r6.1 r8.1) fun r10 =>
      some (r4.1, r10.2)
    else
      if inb x4 6 = true then
      if (M 9 (Int32.toNatClampNeg x4)) ≤ (jrem (jushr ((x2 * (1103515245 : Int32)) + (12345 : Int32)) (9 : Int32)) (100 : Int32)) then
        F9_draws_j49 rec7 M ((x2 * (1103515245 : Int32)) + (12345 : Int32)) x4 (0 : Int32) x3
      else
        F9_draws_j49 rec7 M ((x2 * (1103515245 : Int32)) + (12345 : Int32)) x4 (1 : Int32) x3
      else none
def F9_draws_l7 : Nat → Mem → Int32 → Int32 → Int32 → Option (Int32 × Mem)
  | 0, _, _, _, _ => none
  | fu + 1, M, x2, x3, x4 => F9_draws_l7_b (F9_draws_l7 fu) M x2 x3 x4
def F9_draws (M : Mem) (a1 : Int32) : Option (Int32 × Mem) :=
    F9_draws_l7 FUEL M a1 (0 : Int32) (0 : Int32)
set_option maxRecDepth 20000 in
theorem F9_draws_j49_ok {p : Program} {l : Launch} {e : Env} {s : State} {m : MethodId} {args : Array Value} {below : List Frame} {meth : Method} {c : Code} {G : GG} {D : Nat} {r : Int32 × Mem} {rec7 : Mem → Int32 → Int32 → Int32 → Option (Int32 × Mem)} (F : FrP shB G p s m args c RX9 cX9_draws 5) (hr : meth.sig.returnType = (some .int)) (hlk : meth.locks = false) (hD : 91 ≤ D) (hrec7 : ∀ (M : Mem) (x2 : Int32) (x3 : Int32) (x4 : Int32), rec7 M x2 x3 x4 = some r → XJ shB p l e (rmX D) s m args below meth c 0 0 G 5 (MQ below (QcX shB G ((some (.int r.1), r.2) : Option Value × Mem).1 ((some (.int r.1), r.2) : Option Value × Mem).2) args s 0 0 (AW shB G.2.1)) 7 [(0, .ref 0), (2, .int x2), (3, .int x3), (4, .int x4)] [] M) {M : Mem} {x2 : Int32} {x4 : Int32} {y0 : Int32} {y1 : Int32} (h : F9_draws_j49 rec7 M x2 x4 y0 y1 = some r) : XJ shB p l e (rmX D) s m args below meth c 0 0 G 5 (MQ below (QcX shB G ((some (.int r.1), r.2) : Option Value × Mem).1 ((some (.int r.1), r.2) : Option Value × Mem).2) args s 0 0 (AW shB G.2.1)) 49 [(0, .ref 0), (2, .int x2), (4, .int x4)] [.int y0, .int y1] M := by
  unfold F9_draws_j49 at h
  refine X_iload F dX9_draws_49 rfl ?_
  refine X_ishl F dX9_draws_51 ?_
  refine X_ior F dX9_draws_52 ?_
  refine X_istore_n F dX9_draws_53 (by decide) rfl ?_
  refine X_iinc F dX9_draws_54 rfl (v := (1 : Int32)) rfl (by decide) rfl ?_
  refine X_goto (tgt := 7) F dX9_draws_57 (by decide) ?_
  refine X_pick [2, 3, 1, 0] rfl ?_
  exact hrec7 _ _ _ _ h
set_option maxRecDepth 20000 in
theorem F9_draws_l7_bok {p : Program} {l : Launch} {e : Env} {s : State} {m : MethodId} {args : Array Value} {below : List Frame} {meth : Method} {c : Code} {G : GG} {D : Nat} {r : Int32 × Mem} {rec7 : Mem → Int32 → Int32 → Int32 → Option (Int32 × Mem)} (F : FrP shB G p s m args c RX9 cX9_draws 5) (hr : meth.sig.returnType = (some .int)) (hlk : meth.locks = false) (hD : 91 ≤ D) (hrec7 : ∀ (M : Mem) (x2 : Int32) (x3 : Int32) (x4 : Int32), rec7 M x2 x3 x4 = some r → XJ shB p l e (rmX D) s m args below meth c 0 0 G 5 (MQ below (QcX shB G ((some (.int r.1), r.2) : Option Value × Mem).1 ((some (.int r.1), r.2) : Option Value × Mem).2) args s 0 0 (AW shB G.2.1)) 7 [(0, .ref 0), (2, .int x2), (3, .int x3), (4, .int x4)] [] M) {M : Mem} {x2 : Int32} {x3 : Int32} {x4 : Int32} (h : F9_draws_l7_b rec7 M x2 x3 x4 = some r) : XJ shB p l e (rmX D) s m args below meth c 0 0 G 5 (MQ below (QcX shB G ((some (.int r.1), r.2) : Option Value × Mem).1 ((some (.int r.1), r.2) : Option Value × Mem).2) args s 0 0 (AW shB G.2.1)) 7 [(0, .ref 0), (2, .int x2), (3, .int x3), (4, .int x4)] [] M := by
  unfold F9_draws_l7_b at h
  refine X_iload F dX9_draws_7 rfl ?_
  refine X_aload_n F dX9_draws_9 rfl ?_
  refine X_geti (v := (M 0 16)) F ffRX9_92 dX9_draws_10 rfl ?_
  refine X_icmp_ge (tgt := 60) F dX9_draws_13 (by decide) (fun q1 => ?_) (fun q1 => ?_)
  · rw [if_pos q1] at h
    refine X_aload_n F dX9_draws_60 rfl ?_
    obtain ⟨r2, h3, h⟩ := bndS h
    refine X_callV (ci := 0) (As := []) (rest := []) F fkRX9_272 feX9_gathers fvX9_gathers ⟨_, _, _, rfl, rfl, rfl⟩ (F9_gathers_met (D := D - 1) F.2.2.2.2.2.2.2.1 (by omega) h3) rfl rfl (Nat.le_of_ble_eq_true rfl) (rm_ok (by omega) (by decide)) dX9_draws_61 ?_
    show XJ shB p l e (rmX D) s m args below meth c 0 0 G 5 (MQ below (QcX shB G ((some (.int r.1), r.2) : Option Value × Mem).1 ((some (.int r.1), r.2) : Option Value × Mem).2) args s 0 0 (AW shB G.2.1)) 64 [(0, .ref 0), (2, .int x2), (3, .int x3), (4, .int x4)] [] r2.2
    refine X_aload_n F dX9_draws_64 rfl ?_
    refine X_iload_n F dX9_draws_65 rfl ?_
    obtain ⟨r4, h5, h⟩ := bndS h
    refine X_callV (ci := 0) (As := [.int x3]) (rest := []) F fkRX9_316 feX9_seeks fvX9_seeks ⟨_, _, _, rfl, rfl, rfl⟩ (F9_seeks_met (D := D - 1) F.2.2.2.2.2.2.2.1 (by omega) h5) rfl rfl (Nat.le_of_ble_eq_true rfl) (rm_ok (by omega) (by decide)) dX9_draws_66 ?_
    show XJ shB p l e (rmX D) s m args below meth c 0 0 G 5 (MQ below (QcX shB G ((some (.int r.1), r.2) : Option Value × Mem).1 ((some (.int r.1), r.2) : Option Value × Mem).2) args s 0 0 (AW shB G.2.1)) 69 [(0, .ref 0), (2, .int x2), (3, .int x3), (4, .int x4)] [.int r4.1] r4.2
    refine X_istore F dX9_draws_69 (by decide) rfl ?_
    refine X_aload_n F dX9_draws_71 rfl ?_
    refine X_aload_n F dX9_draws_72 rfl ?_
    obtain ⟨r6, h7, h⟩ := bndS h
    refine X_callV (ci := 0) (As := []) (rest := [.ref 0]) F fkRX9_288 feX9_backOf fvX9_backOf ⟨_, _, _, rfl, rfl, rfl⟩ (F9_backOf_met (D := D - 1) F.2.2.2.2.2.2.2.1 (by omega) h7) rfl rfl (Nat.le_of_ble_eq_true rfl) (rm_ok (by omega) (by decide)) dX9_draws_73 ?_
    show XJ shB p l e (rmX D) s m args below meth c 0 0 G 5 (MQ below (QcX shB G ((some (.int r.1), r.2) : Option Value × Mem).1 ((some (.int r.1), r.2) : Option Value × Mem).2) args s 0 0 (AW shB G.2.1)) 76 [(4, .int r4.1), (0, .ref 0), (2, .int x2), (3, .int x3)] [.int r6.1, .ref 0] r6.2
    refine X_aload_n F dX9_draws_76 rfl ?_
    obtain ⟨r8, h9, h⟩ := bndS h
    refine X_callV (ci := 0) (As := []) (rest := [.int r6.1, .ref 0]) F fkRX9_291 feX9_worthOf fvX9_worthOf ⟨_, _, _, rfl, rfl, rfl⟩ (F9_worthOf_met (D := D - 1) F.2.2.2.2.2.2.2.1 (by omega) h9) rfl rfl (Nat.le_of_ble_eq_true rfl) (rm_ok (by omega) (by decide)) dX9_draws_77 ?_
    show XJ shB p l e (rmX D) s m args below meth c 0 0 G 5 (MQ below (QcX shB G ((some (.int r.1), r.2) : Option Value × Mem).1 ((some (.int r.1), r.2) : Option Value × Mem).2) args s 0 0 (AW shB G.2.1)) 80 [(4, .int r4.1), (0, .ref 0), (2, .int x2), (3, .int x3)] [.int r8.1, .int r6.1, .ref 0] r8.2
    obtain ⟨r10, h11, h⟩ := bndS h
    refine X_callV (ci := 0) (As := [.int r6.1, .int r8.1]) (rest := []) F fkRX9_294 feX9_gainOf fvX9_gainOf ⟨_, _, _, rfl, rfl, rfl⟩ (F9_gainOf_met (D := D - 1) F.2.2.2.2.2.2.2.1 (by omega) h11) rfl rfl (Nat.le_of_ble_eq_true rfl) (rm_ok (by omega) (by decide)) dX9_draws_80 ?_
    show XJ shB p l e (rmX D) s m args below meth c 0 0 G 5 (MQ below (QcX shB G ((some (.int r.1), r.2) : Option Value × Mem).1 ((some (.int r.1), r.2) : Option Value × Mem).2) args s 0 0 (AW shB G.2.1)) 83 [(4, .int r4.1), (0, .ref 0), (2, .int x2), (3, .int x3)] [.int r10.1] r10.2
    refine X_pop F dX9_draws_83 rfl ?_
    refine X_iload F dX9_draws_84 rfl ?_
    exact X_iret F hr hlk (retI h) dX9_draws_86
  · rw [if_neg q1] at h
    refine X_iload_n F dX9_draws_16 rfl ?_
    refine X_ldcw F fcRX9_349 dX9_draws_17 ?_
    refine X_imul F dX9_draws_20 ?_
    refine X_sipush F dX9_draws_21 (v := (12345 : Int32)) rfl ?_
    refine X_iadd F dX9_draws_24 ?_
    refine X_istore_n F dX9_draws_25 (by decide) rfl ?_
    refine X_iload_n F dX9_draws_26 rfl ?_
    refine X_iload_n F dX9_draws_27 rfl ?_
    refine X_bipush F dX9_draws_28 (v := (9 : Int32)) rfl ?_
    refine X_iushr F dX9_draws_30 ?_
    refine X_bipush F dX9_draws_31 (v := (100 : Int32)) rfl ?_
    refine X_irem F dX9_draws_33 (by decide) ?_
    refine X_aload_n F dX9_draws_34 rfl ?_
    refine X_getr F ffRX9_38 dX9_draws_35 ?_
    refine X_iload F dX9_draws_38 rfl ?_
    obtain ⟨q12, h⟩ := ifS h
    refine X_iald (j := (Int32.toNatClampNeg x4)) (v := (M 9 (Int32.toNatClampNeg x4))) F rfl (inbV q12) rfl rfl dX9_draws_40 ?_
    refine X_icmp_ge (tgt := 48) F dX9_draws_41 (by decide) (fun q13 => ?_) (fun q13 => ?_)
    · rw [if_pos q13] at h
      refine X_iconst F dX9_draws_48 (v := (0 : Int32)) rfl ?_
      refine X_pick [1, 0, 3] rfl ?_
      exact F9_draws_j49_ok F hr hlk hD hrec7 h
    · rw [if_neg q13] at h
      refine X_iconst F dX9_draws_44 (v := (1 : Int32)) rfl ?_
      refine X_goto (tgt := 49) F dX9_draws_45 (by decide) ?_
      refine X_pick [1, 0, 3] rfl ?_
      exact F9_draws_j49_ok F hr hlk hD hrec7 h
set_option maxRecDepth 20000 in
theorem F9_draws_l7_ok {p : Program} {l : Launch} {e : Env} {s : State} {m : MethodId} {args : Array Value} {below : List Frame} {meth : Method} {c : Code} {G : GG} {D : Nat} {r : Int32 × Mem} (F : FrP shB G p s m args c RX9 cX9_draws 5) (hr : meth.sig.returnType = (some .int)) (hlk : meth.locks = false) (hD : 91 ≤ D) : ∀ (fu : Nat) (M : Mem) (x2 : Int32) (x3 : Int32) (x4 : Int32), F9_draws_l7 fu M x2 x3 x4 = some r → XJ shB p l e (rmX D) s m args below meth c 0 0 G 5 (MQ below (QcX shB G ((some (.int r.1), r.2) : Option Value × Mem).1 ((some (.int r.1), r.2) : Option Value × Mem).2) args s 0 0 (AW shB G.2.1)) 7 [(0, .ref 0), (2, .int x2), (3, .int x3), (4, .int x4)] [] M := by
  intro fu
  induction fu with
  | zero => intro M x2 x3 x4 h; cases h
  | succ fu ih => intro M x2 x3 x4 h; exact F9_draws_l7_bok F hr hlk hD (fun M x2 x3 x4 => ih M x2 x3 x4) h
set_option maxRecDepth 20000 in
theorem F9_draws_ok {p : Program} {l : Launch} {e : Env} {s : State} {m : MethodId} {args : Array Value} {below : List Frame} {meth : Method} {c : Code} {G : GG} {D : Nat} {r : Int32 × Mem} (F : FrP shB G p s m args c RX9 cX9_draws 5) (hr : meth.sig.returnType = (some .int)) (hlk : meth.locks = false) (hD : 91 ≤ D) {M : Mem} {a1 : Int32} (h : F9_draws M a1 = some r) : XJ shB p l e (rmX D) s m args below meth c 0 0 G 5 (MQ below (QcX shB G ((some (.int r.1), r.2) : Option Value × Mem).1 ((some (.int r.1), r.2) : Option Value × Mem).2) args s 0 0 (AW shB G.2.1)) 0 [(0, .ref 0), (1, .int a1)] [] M := by
  unfold F9_draws at h
  refine X_iload_n F dX9_draws_0 rfl ?_
  refine X_istore_n F dX9_draws_1 (by decide) rfl ?_
  refine X_iconst F dX9_draws_2 (v := (0 : Int32)) rfl ?_
  refine X_istore_n F dX9_draws_3 (by decide) rfl ?_
  refine X_iconst F dX9_draws_4 (v := (0 : Int32)) rfl ?_
  refine X_istore F dX9_draws_5 (by decide) rfl ?_
  refine X_pick [3, 2, 1, 0] rfl ?_
  exact F9_draws_l7_ok F hr hlk hD FUEL _ _ _ _ h
set_option maxRecDepth 20000 in
theorem F9_draws_met {l : Launch} {G : GG} {D : Nat} {r : Int32 × Mem} {M : Mem} {a1 : Int32} (hI : Inj shB G.2.1) (hD : 91 ≤ D) (h : F9_draws M a1 = some r) : MetX shB l G yX9_draws cX9_draws 5 (some .int) D [.ref 0, .int a1] M (some (.int r.1), r.2) :=
  X_met hI (by decide +kernel) (Nat.le_of_ble_eq_true rfl) (fun p e s m args below meth c F hr hlk => F9_draws_ok F hr hlk hD h)
-- KeepOurPlaceModel.drawn
def F9_drawn (M : Mem) (a1 : Int32) : Option (Int32 × Mem) :=
    Option.bind (F9_draws M a1) fun r1 =>
    some (r1.1, r1.2)
set_option maxRecDepth 20000 in
theorem F9_drawn_ok {p : Program} {l : Launch} {e : Env} {s : State} {m : MethodId} {args : Array Value} {below : List Frame} {meth : Method} {c : Code} {G : GG} {D : Nat} {r : Int32 × Mem} (F : FrP shB G p s m args c RX9 cX9_drawn 2) (hr : meth.sig.returnType = (some .int)) (hlk : meth.locks = false) (hD : 92 ≤ D) {M : Mem} {a1 : Int32} (h : F9_drawn M a1 = some r) : XJ shB p l e (rmX D) s m args below meth c 0 0 G 2 (MQ below (QcX shB G ((some (.int r.1), r.2) : Option Value × Mem).1 ((some (.int r.1), r.2) : Option Value × Mem).2) args s 0 0 (AW shB G.2.1)) 0 [(0, .ref 0), (1, .int a1)] [] M := by
  unfold F9_drawn at h
  refine X_aload_n F dX9_drawn_0 rfl ?_
  refine X_iload_n F dX9_drawn_1 rfl ?_
  obtain ⟨r1, h2, h⟩ := bndS h
  refine X_callV (ci := 0) (As := [.int a1]) (rest := []) F fkRX9_350 feX9_draws fvX9_draws ⟨_, _, _, rfl, rfl, rfl⟩ (F9_draws_met (D := D - 1) F.2.2.2.2.2.2.2.1 (by omega) h2) rfl rfl (Nat.le_of_ble_eq_true rfl) (rm_ok (by omega) (by decide)) dX9_drawn_2 ?_
  show XJ shB p l e (rmX D) s m args below meth c 0 0 G 2 (MQ below (QcX shB G ((some (.int r.1), r.2) : Option Value × Mem).1 ((some (.int r.1), r.2) : Option Value × Mem).2) args s 0 0 (AW shB G.2.1)) 5 [(0, .ref 0), (1, .int a1)] [.int r1.1] r1.2
  exact X_iret F hr hlk (retI h) dX9_drawn_5
set_option maxRecDepth 20000 in
theorem F9_drawn_met {l : Launch} {G : GG} {D : Nat} {r : Int32 × Mem} {M : Mem} {a1 : Int32} (hI : Inj shB G.2.1) (hD : 92 ≤ D) (h : F9_drawn M a1 = some r) : MetX shB l G yX9_drawn cX9_drawn 2 (some .int) D [.ref 0, .int a1] M (some (.int r.1), r.2) :=
  X_met hI (by decide +kernel) (Nat.le_of_ble_eq_true rfl) (fun p e s m args below meth c F hr hlk => F9_drawn_ok F hr hlk hD h)
-- KeepOurPlaceModel.chance
def F9_chance_l78_b (rec78 : Mem → Int32 → Int32 → Int64 → Int64 → Int64 → Option (Int64 × Mem)) (M : Mem) (x2 : Int32) (x3 : Int32) (x4 : Int64) (x6 : Int64) (x8 : Int64) : Option (Int64 × Mem) :=
    if (lg_cmp x8 (0 : Int64)) = 0 then
      if ¬ x3 = 0 then
        if ¬ x6 = 0 then
        some (((Int32.toInt64 x2) / x6), M)
        else none
      else
        if ¬ x6 = 0 then
        some ((x4 / x6), M)
        else none
    else
      if ¬ x8 = 0 then
      rec78 M x2 x3 x4 x8 (jremL x6 x8)
      else none
def F9_chance_l78 : Nat → Mem → Int32 → Int32 → Int64 → Int64 → Int64 → Option (Int64 × Mem)
  | 0, _, _, _, _, _, _ => none
  | fu + 1, M, x2, x3, x4, x6, x8 => F9_chance_l78_b (F9_chance_l78 fu) M x2 x3 x4 x6 x8
def F9_chance_j61 (rec32 : Mem → Int32 → Int32 → Int32 → Int64 → Int32 → Option (Int64 × Mem)) (M : Mem) (x1 : Int32) (x2 : Int32) (x3 : Int32) (x6 : Int32) (y0 : Int64) (y1 : Int64) : Option (Int64 × Mem) :=
    rec32 M x1 x2 x3 (y1 + y0) (x6 + (1 : Int32))
def F9_chance_l32_b (rec32 : Mem → Int32 → Int32 → Int32 → Int64 → Int32 → Option (Int64 × Mem)) (M : Mem) (x1 : Int32) (x2 : Int32) (x3 : Int32) (x4 : Int64) (x6 : Int32) : Option (Int64 × Mem) :=
    if x2 ≤ x6 then
      F9_chance_l78 FUEL M x2 x3 x4 x4 (Int32.toInt64 x2)
    else
      Option.bind (F9_draws M (x1 + x6)) fun r8 =>
      if ¬ (r8.2 0 36) = 0 then
        F9_chance_j61 rec32 r8.2 x1 x2 x3 x6 (0 : Int64) x4
      else
        F9_chance_j61 rec32 r8.2 x1 x2 x3 x6 (1 : Int64) x4
def F9_chance_l32 : Nat → Mem → Int32 → Int32 → Int32 → Int64 → Int32 → Option (Int64 × Mem)
  | 0, _, _, _, _, _, _ => none
  | fu + 1, M, x1, x2, x3, x4, x6 => F9_chance_l32_b (F9_chance_l32 fu) M x1 x2 x3 x4 x6
def F9_chance (M : Mem) (a1 : Int32) (a2 : Int32) (a3 : Int32) : Option (Int64 × Mem) :=
    Option.bind (F9_in M (Int32.toInt64 a2) (1 : Int64) (20 : Int64)) fun r1 =>
    if r1.1 = 0 then
      some ((-4611686018427387904 : Int64), r1.2)
    else
      Option.bind (F9_in r1.2 (Int32.toInt64 a3) (0 : Int64) (1 : Int64)) fun r4 =>
      if ¬ r4.1 = 0 then
        F9_chance_l32 FUEL r4.2 a1 a2 a3 (0 : Int64) (0 : Int32)
      else
        some ((-4611686018427387904 : Int64), r4.2)
set_option maxRecDepth 20000 in
theorem F9_chance_l78_bok {p : Program} {l : Launch} {e : Env} {s : State} {m : MethodId} {args : Array Value} {below : List Frame} {meth : Method} {c : Code} {G : GG} {D : Nat} {r : Int64 × Mem} {rec78 : Mem → Int32 → Int32 → Int64 → Int64 → Int64 → Option (Int64 × Mem)} (F : FrP shB G p s m args c RX9 cX9_chance 12) (hr : meth.sig.returnType = (some .long)) (hlk : meth.locks = false) (hD : 92 ≤ D) (hrec78 : ∀ (M : Mem) (x2 : Int32) (x3 : Int32) (x4 : Int64) (x6 : Int64) (x8 : Int64), rec78 M x2 x3 x4 x6 x8 = some r → XJ shB p l e (rmX D) s m args below meth c 0 0 G 12 (MQ below (QcX shB G ((some (.long r.1), r.2) : Option Value × Mem).1 ((some (.long r.1), r.2) : Option Value × Mem).2) args s 0 0 (AW shB G.2.1)) 78 [(2, .int x2), (3, .int x3), (4, .long x4), (6, .long x6), (8, .long x8)] [] M) {M : Mem} {x2 : Int32} {x3 : Int32} {x4 : Int64} {x6 : Int64} {x8 : Int64} (h : F9_chance_l78_b rec78 M x2 x3 x4 x6 x8 = some r) : XJ shB p l e (rmX D) s m args below meth c 0 0 G 12 (MQ below (QcX shB G ((some (.long r.1), r.2) : Option Value × Mem).1 ((some (.long r.1), r.2) : Option Value × Mem).2) args s 0 0 (AW shB G.2.1)) 78 [(2, .int x2), (3, .int x3), (4, .long x4), (6, .long x6), (8, .long x8)] [] M := by
  unfold F9_chance_l78_b at h
  refine X_lload F dX9_chance_78 rfl ?_
  refine X_lconst F dX9_chance_80 (v := (0 : Int64)) rfl ?_
  refine X_lcmp F dX9_chance_81 ?_
  refine X_if_eq (tgt := 103) F dX9_chance_82 (by decide) (fun q11 => ?_) (fun q11 => ?_)
  · rw [if_pos q11] at h
    refine X_iload_n F dX9_chance_103 rfl ?_
    refine X_if_ne (tgt := 115) F dX9_chance_104 (by decide) (fun q12 => ?_) (fun q12 => ?_)
    · rw [if_pos q12] at h
      refine X_iload_n F dX9_chance_115 rfl ?_
      refine X_i2l F dX9_chance_116 ?_
      refine X_lload F dX9_chance_117 rfl ?_
      obtain ⟨q13, h⟩ := ifS h
      refine X_ldiv F dX9_chance_119 q13 ?_
      exact X_lret F hr hlk (retL h) dX9_chance_120
    · rw [if_neg (fun z => z q12)] at h
      refine X_lload F dX9_chance_107 rfl ?_
      refine X_lload F dX9_chance_109 rfl ?_
      obtain ⟨q14, h⟩ := ifS h
      refine X_ldiv F dX9_chance_111 q14 ?_
      refine X_goto (tgt := 120) F dX9_chance_112 (by decide) ?_
      exact X_lret F hr hlk (retL h) dX9_chance_120
  · rw [if_neg q11] at h
    refine X_lload F dX9_chance_85 rfl ?_
    refine X_lload F dX9_chance_87 rfl ?_
    obtain ⟨q15, h⟩ := ifS h
    refine X_lrem F dX9_chance_89 q15 ?_
    refine X_lstore F dX9_chance_90 (by decide) rfl ?_
    refine X_lload F dX9_chance_92 rfl ?_
    refine X_lstore F dX9_chance_94 (by decide) rfl ?_
    refine X_lload F dX9_chance_96 rfl ?_
    refine X_lstore F dX9_chance_98 (by decide) rfl ?_
    refine X_goto (tgt := 78) F dX9_chance_100 (by decide) ?_
    refine X_pick [3, 4, 5, 1, 0] rfl ?_
    exact hrec78 _ _ _ _ _ _ h
set_option maxRecDepth 20000 in
theorem F9_chance_l78_ok {p : Program} {l : Launch} {e : Env} {s : State} {m : MethodId} {args : Array Value} {below : List Frame} {meth : Method} {c : Code} {G : GG} {D : Nat} {r : Int64 × Mem} (F : FrP shB G p s m args c RX9 cX9_chance 12) (hr : meth.sig.returnType = (some .long)) (hlk : meth.locks = false) (hD : 92 ≤ D) : ∀ (fu : Nat) (M : Mem) (x2 : Int32) (x3 : Int32) (x4 : Int64) (x6 : Int64) (x8 : Int64), F9_chance_l78 fu M x2 x3 x4 x6 x8 = some r → XJ shB p l e (rmX D) s m args below meth c 0 0 G 12 (MQ below (QcX shB G ((some (.long r.1), r.2) : Option Value × Mem).1 ((some (.long r.1), r.2) : Option Value × Mem).2) args s 0 0 (AW shB G.2.1)) 78 [(2, .int x2), (3, .int x3), (4, .long x4), (6, .long x6), (8, .long x8)] [] M := by
  intro fu
  induction fu with
  | zero => intro M x2 x3 x4 x6 x8 h; cases h
  | succ fu ih => intro M x2 x3 x4 x6 x8 h; exact F9_chance_l78_bok F hr hlk hD (fun M x2 x3 x4 x6 x8 => ih M x2 x3 x4 x6 x8) h
set_option maxRecDepth 20000 in
theorem F9_chance_j61_ok {p : Program} {l : Launch} {e : Env} {s : State} {m : MethodId} {args : Array Value} {below : List Frame} {meth : Method} {c : Code} {G : GG} {D : Nat} {r : Int64 × Mem} {rec32 : Mem → Int32 → Int32 → Int32 → Int64 → Int32 → Option (Int64 × Mem)} (F : FrP shB G p s m args c RX9 cX9_chance 12) (hr : meth.sig.returnType = (some .long)) (hlk : meth.locks = false) (hD : 92 ≤ D) (hrec32 : ∀ (M : Mem) (x1 : Int32) (x2 : Int32) (x3 : Int32) (x4 : Int64) (x6 : Int32), rec32 M x1 x2 x3 x4 x6 = some r → XJ shB p l e (rmX D) s m args below meth c 0 0 G 12 (MQ below (QcX shB G ((some (.long r.1), r.2) : Option Value × Mem).1 ((some (.long r.1), r.2) : Option Value × Mem).2) args s 0 0 (AW shB G.2.1)) 32 [(0, .ref 0), (1, .int x1), (2, .int x2), (3, .int x3), (4, .long x4), (6, .int x6)] [] M) {M : Mem} {x1 : Int32} {x2 : Int32} {x3 : Int32} {x6 : Int32} {y0 : Int64} {y1 : Int64} (h : F9_chance_j61 rec32 M x1 x2 x3 x6 y0 y1 = some r) : XJ shB p l e (rmX D) s m args below meth c 0 0 G 12 (MQ below (QcX shB G ((some (.long r.1), r.2) : Option Value × Mem).1 ((some (.long r.1), r.2) : Option Value × Mem).2) args s 0 0 (AW shB G.2.1)) 61 [(0, .ref 0), (1, .int x1), (2, .int x2), (3, .int x3), (6, .int x6)] [.long y0, .long y1] M := by
  unfold F9_chance_j61 at h
  refine X_ladd F dX9_chance_61 ?_
  refine X_lstore F dX9_chance_62 (by decide) rfl ?_
  refine X_iinc F dX9_chance_64 rfl (v := (1 : Int32)) rfl (by decide) rfl ?_
  refine X_goto (tgt := 32) F dX9_chance_67 (by decide) ?_
  refine X_pick [2, 3, 4, 5, 1, 0] rfl ?_
  exact hrec32 _ _ _ _ _ _ h
set_option maxRecDepth 20000 in
theorem F9_chance_l32_bok {p : Program} {l : Launch} {e : Env} {s : State} {m : MethodId} {args : Array Value} {below : List Frame} {meth : Method} {c : Code} {G : GG} {D : Nat} {r : Int64 × Mem} {rec32 : Mem → Int32 → Int32 → Int32 → Int64 → Int32 → Option (Int64 × Mem)} (F : FrP shB G p s m args c RX9 cX9_chance 12) (hr : meth.sig.returnType = (some .long)) (hlk : meth.locks = false) (hD : 92 ≤ D) (hrec32 : ∀ (M : Mem) (x1 : Int32) (x2 : Int32) (x3 : Int32) (x4 : Int64) (x6 : Int32), rec32 M x1 x2 x3 x4 x6 = some r → XJ shB p l e (rmX D) s m args below meth c 0 0 G 12 (MQ below (QcX shB G ((some (.long r.1), r.2) : Option Value × Mem).1 ((some (.long r.1), r.2) : Option Value × Mem).2) args s 0 0 (AW shB G.2.1)) 32 [(0, .ref 0), (1, .int x1), (2, .int x2), (3, .int x3), (4, .long x4), (6, .int x6)] [] M) {M : Mem} {x1 : Int32} {x2 : Int32} {x3 : Int32} {x4 : Int64} {x6 : Int32} (h : F9_chance_l32_b rec32 M x1 x2 x3 x4 x6 = some r) : XJ shB p l e (rmX D) s m args below meth c 0 0 G 12 (MQ below (QcX shB G ((some (.long r.1), r.2) : Option Value × Mem).1 ((some (.long r.1), r.2) : Option Value × Mem).2) args s 0 0 (AW shB G.2.1)) 32 [(0, .ref 0), (1, .int x1), (2, .int x2), (3, .int x3), (4, .long x4), (6, .int x6)] [] M := by
  unfold F9_chance_l32_b at h
  refine X_iload F dX9_chance_32 rfl ?_
  refine X_iload_n F dX9_chance_34 rfl ?_
  refine X_icmp_ge (tgt := 70) F dX9_chance_35 (by decide) (fun q7 => ?_) (fun q7 => ?_)
  · rw [if_pos q7] at h
    refine X_lload F dX9_chance_70 rfl ?_
    refine X_lstore F dX9_chance_72 (by decide) rfl ?_
    refine X_iload_n F dX9_chance_74 rfl ?_
    refine X_i2l F dX9_chance_75 ?_
    refine X_lstore F dX9_chance_76 (by decide) rfl ?_
    refine X_pick [4, 5, 6, 1, 0] rfl ?_
    exact F9_chance_l78_ok F hr hlk hD FUEL _ _ _ _ _ _ h
  · rw [if_neg q7] at h
    refine X_aload_n F dX9_chance_38 rfl ?_
    refine X_iload_n F dX9_chance_39 rfl ?_
    refine X_iload F dX9_chance_40 rfl ?_
    refine X_iadd F dX9_chance_42 ?_
    obtain ⟨r8, h9, h⟩ := bndS h
    refine X_callV (ci := 0) (As := [.int (x1 + x6)]) (rest := []) F fkRX9_350 feX9_draws fvX9_draws ⟨_, _, _, rfl, rfl, rfl⟩ (F9_draws_met (D := D - 1) F.2.2.2.2.2.2.2.1 (by omega) h9) rfl rfl (Nat.le_of_ble_eq_true rfl) (rm_ok (by omega) (by decide)) dX9_chance_43 ?_
    show XJ shB p l e (rmX D) s m args below meth c 0 0 G 12 (MQ below (QcX shB G ((some (.long r.1), r.2) : Option Value × Mem).1 ((some (.long r.1), r.2) : Option Value × Mem).2) args s 0 0 (AW shB G.2.1)) 46 [(0, .ref 0), (1, .int x1), (2, .int x2), (3, .int x3), (4, .long x4), (6, .int x6)] [.int r8.1] r8.2
    refine X_pop F dX9_chance_46 rfl ?_
    refine X_lload F dX9_chance_47 rfl ?_
    refine X_aload_n F dX9_chance_49 rfl ?_
    refine X_geti (v := (r8.2 0 36)) F ffRX9_269 dX9_chance_50 rfl ?_
    refine X_if_ne (tgt := 60) F dX9_chance_53 (by decide) (fun q10 => ?_) (fun q10 => ?_)
    · rw [if_pos q10] at h
      refine X_lconst F dX9_chance_60 (v := (0 : Int64)) rfl ?_
      refine X_pick [0, 1, 2, 3, 5] rfl ?_
      exact F9_chance_j61_ok F hr hlk hD hrec32 h
    · rw [if_neg (fun z => z q10)] at h
      refine X_lconst F dX9_chance_56 (v := (1 : Int64)) rfl ?_
      refine X_goto (tgt := 61) F dX9_chance_57 (by decide) ?_
      refine X_pick [0, 1, 2, 3, 5] rfl ?_
      exact F9_chance_j61_ok F hr hlk hD hrec32 h
set_option maxRecDepth 20000 in
theorem F9_chance_l32_ok {p : Program} {l : Launch} {e : Env} {s : State} {m : MethodId} {args : Array Value} {below : List Frame} {meth : Method} {c : Code} {G : GG} {D : Nat} {r : Int64 × Mem} (F : FrP shB G p s m args c RX9 cX9_chance 12) (hr : meth.sig.returnType = (some .long)) (hlk : meth.locks = false) (hD : 92 ≤ D) : ∀ (fu : Nat) (M : Mem) (x1 : Int32) (x2 : Int32) (x3 : Int32) (x4 : Int64) (x6 : Int32), F9_chance_l32 fu M x1 x2 x3 x4 x6 = some r → XJ shB p l e (rmX D) s m args below meth c 0 0 G 12 (MQ below (QcX shB G ((some (.long r.1), r.2) : Option Value × Mem).1 ((some (.long r.1), r.2) : Option Value × Mem).2) args s 0 0 (AW shB G.2.1)) 32 [(0, .ref 0), (1, .int x1), (2, .int x2), (3, .int x3), (4, .long x4), (6, .int x6)] [] M := by
  intro fu
  induction fu with
  | zero => intro M x1 x2 x3 x4 x6 h; cases h
  | succ fu ih => intro M x1 x2 x3 x4 x6 h; exact F9_chance_l32_bok F hr hlk hD (fun M x1 x2 x3 x4 x6 => ih M x1 x2 x3 x4 x6) h
set_option maxRecDepth 20000 in
theorem F9_chance_ok {p : Program} {l : Launch} {e : Env} {s : State} {m : MethodId} {args : Array Value} {below : List Frame} {meth : Method} {c : Code} {G : GG} {D : Nat} {r : Int64 × Mem} (F : FrP shB G p s m args c RX9 cX9_chance 12) (hr : meth.sig.returnType = (some .long)) (hlk : meth.locks = false) (hD : 92 ≤ D) {M : Mem} {a1 : Int32} {a2 : Int32} {a3 : Int32} (h : F9_chance M a1 a2 a3 = some r) : XJ shB p l e (rmX D) s m args below meth c 0 0 G 12 (MQ below (QcX shB G ((some (.long r.1), r.2) : Option Value × Mem).1 ((some (.long r.1), r.2) : Option Value × Mem).2) args s 0 0 (AW shB G.2.1)) 0 [(0, .ref 0), (1, .int a1), (2, .int a2), (3, .int a3)] [] M := by
  unfold F9_chance at h
  refine X_iload_n F dX9_chance_0 rfl ?_
  refine X_i2l F dX9_chance_1 ?_
  refine X_lconst F dX9_chance_2 (v := (1 : Int64)) rfl ?_
  refine X_ldc2 F fcRX9_353 dX9_chance_3 ?_
  obtain ⟨r1, h2, h⟩ := bndS h
  refine X_callS (As := [.long (Int32.toInt64 a2), .long (1 : Int64), .long (20 : Int64)]) (rest := []) F fsRX9_88 feX9_in ftX9_in (F9_in_met (D := D - 1) F.2.2.2.2.2.2.2.1 (by omega) h2) rfl rfl (Nat.le_of_ble_eq_true rfl) (rm_ok (by omega) (by decide)) dX9_chance_6 ?_
  show XJ shB p l e (rmX D) s m args below meth c 0 0 G 12 (MQ below (QcX shB G ((some (.long r.1), r.2) : Option Value × Mem).1 ((some (.long r.1), r.2) : Option Value × Mem).2) args s 0 0 (AW shB G.2.1)) 9 [(0, .ref 0), (1, .int a1), (2, .int a2), (3, .int a3)] [.int r1.1] r1.2
  refine X_if_eq (tgt := 22) F dX9_chance_9 (by decide) (fun q3 => ?_) (fun q3 => ?_)
  · rw [if_pos q3] at h
    refine X_ldc2 F fcRX9_331 dX9_chance_22 ?_
    exact X_lret F hr hlk (retL h) dX9_chance_25
  · rw [if_neg q3] at h
    refine X_iload_n F dX9_chance_12 rfl ?_
    refine X_i2l F dX9_chance_13 ?_
    refine X_lconst F dX9_chance_14 (v := (0 : Int64)) rfl ?_
    refine X_lconst F dX9_chance_15 (v := (1 : Int64)) rfl ?_
    obtain ⟨r4, h5, h⟩ := bndS h
    refine X_callS (As := [.long (Int32.toInt64 a3), .long (0 : Int64), .long (1 : Int64)]) (rest := []) F fsRX9_88 feX9_in ftX9_in (F9_in_met (D := D - 1) F.2.2.2.2.2.2.2.1 (by omega) h5) rfl rfl (Nat.le_of_ble_eq_true rfl) (rm_ok (by omega) (by decide)) dX9_chance_16 ?_
    show XJ shB p l e (rmX D) s m args below meth c 0 0 G 12 (MQ below (QcX shB G ((some (.long r.1), r.2) : Option Value × Mem).1 ((some (.long r.1), r.2) : Option Value × Mem).2) args s 0 0 (AW shB G.2.1)) 19 [(0, .ref 0), (1, .int a1), (2, .int a2), (3, .int a3)] [.int r4.1] r4.2
    refine X_if_ne (tgt := 26) F dX9_chance_19 (by decide) (fun q6 => ?_) (fun q6 => ?_)
    · rw [if_pos q6] at h
      refine X_lconst F dX9_chance_26 (v := (0 : Int64)) rfl ?_
      refine X_lstore F dX9_chance_27 (by decide) rfl ?_
      refine X_iconst F dX9_chance_29 (v := (0 : Int32)) rfl ?_
      refine X_istore F dX9_chance_30 (by decide) rfl ?_
      refine X_pick [2, 3, 4, 5, 1, 0] rfl ?_
      exact F9_chance_l32_ok F hr hlk hD FUEL _ _ _ _ _ _ h
    · rw [if_neg (fun z => z q6)] at h
      refine X_ldc2 F fcRX9_331 dX9_chance_22 ?_
      exact X_lret F hr hlk (retL h) dX9_chance_25
set_option maxRecDepth 20000 in
theorem F9_chance_met {l : Launch} {G : GG} {D : Nat} {r : Int64 × Mem} {M : Mem} {a1 : Int32} {a2 : Int32} {a3 : Int32} (hI : Inj shB G.2.1) (hD : 92 ≤ D) (h : F9_chance M a1 a2 a3 = some r) : MetX shB l G yX9_chance cX9_chance 12 (some .long) D [.ref 0, .int a1, .int a2, .int a3] M (some (.long r.1), r.2) :=
  X_met hI (by decide +kernel) (Nat.le_of_ble_eq_true rfl) (fun p e s m args below meth c F hr hlk => F9_chance_ok F hr hlk hD h)
-- KeepOurPlaceModel.image
def F9_image_l43_b (rec43 : Mem → Int32 → Option (Int32 × Mem)) (M : Mem) (x1 : Int32) : Option (Int32 × Mem) :=
    if (6 : Int32) ≤ x1 then
      some ((M 0 10), (up2 (up2 (up2 (up2 (up2 M 0 47 (M 0 10)) 0 48 (M 0 16)) 0 49 (M 0 11)) 0 50 (M 0 12)) 0 51 (M 0 4)))
    else
      if inb x1 6 = true then
      if inb x1 18 = true then
      if inb ((6 : Int32) + x1) 18 = true then
      if inb ((12 : Int32) + x1) 18 = true then
      rec43 (up2 (up2 (up2 M 16 (Int32.toNatClampNeg x1) (M 7 (Int32.toNatClampNeg x1))) 16 (Int32.toNatClampNeg ((6 : Int32) + x1)) (M 8 (Int32.toNatClampNeg x1))) 16 (Int32.toNatClampNeg ((12 : Int32) + x1)) (M 9 (Int32.toNatClampNeg x1))) (x1 + (1 : Int32))
      else none
      else none
      else none
      else none
def F9_image_l43 : Nat → Mem → Int32 → Option (Int32 × Mem)
  | 0, _, _ => none
  | fu + 1, M, x1 => F9_image_l43_b (F9_image_l43 fu) M x1
def F9_image_l2_b (rec2 : Mem → Int32 → Option (Int32 × Mem)) (M : Mem) (x1 : Int32) : Option (Int32 × Mem) :=
    if (8 : Int32) ≤ x1 then
      F9_image_l43 FUEL M (0 : Int32)
    else
      if inb x1 8 = true then
      if inb x1 16 = true then
      if inb ((8 : Int32) + x1) 16 = true then
      rec2 (up2 (up2 M 15 (Int32.toNatClampNeg x1) (M 5 (Int32.toNatClampNeg x1))) 15 (Int32.toNatClampNeg ((8 : Int32) + x1)) (M 6 (Int32.toNatClampNeg x1))) (x1 + (1 : Int32))
      else none
      else none
      else none
def F9_image_l2 : Nat → Mem → Int32 → Option (Int32 × Mem)
  | 0, _, _ => none
  | fu + 1, M, x1 => F9_image_l2_b (F9_image_l2 fu) M x1
def F9_image (M : Mem) : Option (Int32 × Mem) :=
    F9_image_l2 FUEL M (0 : Int32)
set_option maxRecDepth 20000 in
theorem F9_image_l43_bok {p : Program} {l : Launch} {e : Env} {s : State} {m : MethodId} {args : Array Value} {below : List Frame} {meth : Method} {c : Code} {G : GG} {D : Nat} {r : Int32 × Mem} {rec43 : Mem → Int32 → Option (Int32 × Mem)} (F : FrP shB G p s m args c RX9 cX9_image 2) (hr : meth.sig.returnType = (some .int)) (hlk : meth.locks = false) (hD : 1 ≤ D) (hrec43 : ∀ (M : Mem) (x1 : Int32), rec43 M x1 = some r → XJ shB p l e (rmX D) s m args below meth c 0 0 G 2 (MQ below (QcX shB G ((some (.int r.1), r.2) : Option Value × Mem).1 ((some (.int r.1), r.2) : Option Value × Mem).2) args s 0 0 (AW shB G.2.1)) 43 [(0, .ref 0), (1, .int x1)] [] M) {M : Mem} {x1 : Int32} (h : F9_image_l43_b rec43 M x1 = some r) : XJ shB p l e (rmX D) s m args below meth c 0 0 G 2 (MQ below (QcX shB G ((some (.int r.1), r.2) : Option Value × Mem).1 ((some (.int r.1), r.2) : Option Value × Mem).2) args s 0 0 (AW shB G.2.1)) 43 [(0, .ref 0), (1, .int x1)] [] M := by
  unfold F9_image_l43_b at h
  refine X_iload_n F dX9_image_43 rfl ?_
  refine X_bipush F dX9_image_44 (v := (6 : Int32)) rfl ?_
  refine X_icmp_ge (tgt := 97) F dX9_image_46 (by decide) (fun q5 => ?_) (fun q5 => ?_)
  · rw [if_pos q5] at h
    refine X_aload_n F dX9_image_97 rfl ?_
    refine X_aload_n F dX9_image_98 rfl ?_
    refine X_geti (v := (M 0 10)) F ffRX9_85 dX9_image_99 rfl ?_
    refine X_puti F ffRX9_62 fw9_47 (by decide) dX9_image_102 ?_
    refine X_aload_n F dX9_image_105 rfl ?_
    refine X_aload_n F dX9_image_106 rfl ?_
    refine X_geti (v := (M 0 16)) F ffRX9_92 dX9_image_107 rfl ?_
    refine X_puti F ffRX9_355 fw9_48 (by decide) dX9_image_110 ?_
    refine X_aload_n F dX9_image_113 rfl ?_
    refine X_aload_n F dX9_image_114 rfl ?_
    refine X_geti (v := (M 0 11)) F ffRX9_118 dX9_image_115 rfl ?_
    refine X_puti F ffRX9_358 fw9_49 (by decide) dX9_image_118 ?_
    refine X_aload_n F dX9_image_121 rfl ?_
    refine X_aload_n F dX9_image_122 rfl ?_
    refine X_geti (v := (M 0 12)) F ffRX9_133 dX9_image_123 rfl ?_
    refine X_puti F ffRX9_361 fw9_50 (by decide) dX9_image_126 ?_
    refine X_aload_n F dX9_image_129 rfl ?_
    refine X_aload_n F dX9_image_130 rfl ?_
    refine X_geti (v := (M 0 4)) F ffRX9_255 dX9_image_131 rfl ?_
    refine X_puti F ffRX9_364 fw9_51 (by decide) dX9_image_134 ?_
    refine X_aload_n F dX9_image_137 rfl ?_
    refine X_geti (v := (M 0 10)) F ffRX9_85 dX9_image_138 rfl ?_
    exact X_iret F hr hlk (retI h) dX9_image_141
  · rw [if_neg q5] at h
    refine X_aload_n F dX9_image_49 rfl ?_
    refine X_getr F ffRX9_59 dX9_image_50 ?_
    refine X_iload_n F dX9_image_53 rfl ?_
    refine X_aload_n F dX9_image_54 rfl ?_
    refine X_getr F ffRX9_32 dX9_image_55 ?_
    refine X_iload_n F dX9_image_58 rfl ?_
    obtain ⟨q6, h⟩ := ifS h
    refine X_iald (j := (Int32.toNatClampNeg x1)) (v := (M 7 (Int32.toNatClampNeg x1))) F rfl (inbV q6) rfl rfl dX9_image_59 ?_
    obtain ⟨q7, h⟩ := ifS h
    refine X_iast (j := (Int32.toNatClampNeg x1)) F rfl (inbV q7) rfl dX9_image_60 ?_
    refine X_aload_n F dX9_image_61 rfl ?_
    refine X_getr F ffRX9_59 dX9_image_62 ?_
    refine X_bipush F dX9_image_65 (v := (6 : Int32)) rfl ?_
    refine X_iload_n F dX9_image_67 rfl ?_
    refine X_iadd F dX9_image_68 ?_
    refine X_aload_n F dX9_image_69 rfl ?_
    refine X_getr F ffRX9_35 dX9_image_70 ?_
    refine X_iload_n F dX9_image_73 rfl ?_
    refine X_iald (j := (Int32.toNatClampNeg x1)) (v := (M 8 (Int32.toNatClampNeg x1))) F rfl (inbV q6) rfl rfl dX9_image_74 ?_
    obtain ⟨q8, h⟩ := ifS h
    refine X_iast (j := (Int32.toNatClampNeg ((6 : Int32) + x1))) F rfl (inbV q8) rfl dX9_image_75 ?_
    refine X_aload_n F dX9_image_76 rfl ?_
    refine X_getr F ffRX9_59 dX9_image_77 ?_
    refine X_bipush F dX9_image_80 (v := (12 : Int32)) rfl ?_
    refine X_iload_n F dX9_image_82 rfl ?_
    refine X_iadd F dX9_image_83 ?_
    refine X_aload_n F dX9_image_84 rfl ?_
    refine X_getr F ffRX9_38 dX9_image_85 ?_
    refine X_iload_n F dX9_image_88 rfl ?_
    refine X_iald (j := (Int32.toNatClampNeg x1)) (v := (M 9 (Int32.toNatClampNeg x1))) F rfl (inbV q6) rfl rfl dX9_image_89 ?_
    obtain ⟨q9, h⟩ := ifS h
    refine X_iast (j := (Int32.toNatClampNeg ((12 : Int32) + x1))) F rfl (inbV q9) rfl dX9_image_90 ?_
    refine X_iinc F dX9_image_91 rfl (v := (1 : Int32)) rfl (by decide) rfl ?_
    refine X_goto (tgt := 43) F dX9_image_94 (by decide) ?_
    refine X_pick [1, 0] rfl ?_
    exact hrec43 _ _ h
set_option maxRecDepth 20000 in
theorem F9_image_l43_ok {p : Program} {l : Launch} {e : Env} {s : State} {m : MethodId} {args : Array Value} {below : List Frame} {meth : Method} {c : Code} {G : GG} {D : Nat} {r : Int32 × Mem} (F : FrP shB G p s m args c RX9 cX9_image 2) (hr : meth.sig.returnType = (some .int)) (hlk : meth.locks = false) (hD : 1 ≤ D) : ∀ (fu : Nat) (M : Mem) (x1 : Int32), F9_image_l43 fu M x1 = some r → XJ shB p l e (rmX D) s m args below meth c 0 0 G 2 (MQ below (QcX shB G ((some (.int r.1), r.2) : Option Value × Mem).1 ((some (.int r.1), r.2) : Option Value × Mem).2) args s 0 0 (AW shB G.2.1)) 43 [(0, .ref 0), (1, .int x1)] [] M := by
  intro fu
  induction fu with
  | zero => intro M x1 h; cases h
  | succ fu ih => intro M x1 h; exact F9_image_l43_bok F hr hlk hD (fun M x1 => ih M x1) h
set_option maxRecDepth 20000 in
theorem F9_image_l2_bok {p : Program} {l : Launch} {e : Env} {s : State} {m : MethodId} {args : Array Value} {below : List Frame} {meth : Method} {c : Code} {G : GG} {D : Nat} {r : Int32 × Mem} {rec2 : Mem → Int32 → Option (Int32 × Mem)} (F : FrP shB G p s m args c RX9 cX9_image 2) (hr : meth.sig.returnType = (some .int)) (hlk : meth.locks = false) (hD : 1 ≤ D) (hrec2 : ∀ (M : Mem) (x1 : Int32), rec2 M x1 = some r → XJ shB p l e (rmX D) s m args below meth c 0 0 G 2 (MQ below (QcX shB G ((some (.int r.1), r.2) : Option Value × Mem).1 ((some (.int r.1), r.2) : Option Value × Mem).2) args s 0 0 (AW shB G.2.1)) 2 [(0, .ref 0), (1, .int x1)] [] M) {M : Mem} {x1 : Int32} (h : F9_image_l2_b rec2 M x1 = some r) : XJ shB p l e (rmX D) s m args below meth c 0 0 G 2 (MQ below (QcX shB G ((some (.int r.1), r.2) : Option Value × Mem).1 ((some (.int r.1), r.2) : Option Value × Mem).2) args s 0 0 (AW shB G.2.1)) 2 [(0, .ref 0), (1, .int x1)] [] M := by
  unfold F9_image_l2_b at h
  refine X_iload_n F dX9_image_2 rfl ?_
  refine X_bipush F dX9_image_3 (v := (8 : Int32)) rfl ?_
  refine X_icmp_ge (tgt := 41) F dX9_image_5 (by decide) (fun q1 => ?_) (fun q1 => ?_)
  · rw [if_pos q1] at h
    refine X_iconst F dX9_image_41 (v := (0 : Int32)) rfl ?_
    refine X_istore_n F dX9_image_42 (by decide) rfl ?_
    refine X_pick [1, 0] rfl ?_
    exact F9_image_l43_ok F hr hlk hD FUEL _ _ h
  · rw [if_neg q1] at h
    refine X_aload_n F dX9_image_8 rfl ?_
    refine X_getr F ffRX9_56 dX9_image_9 ?_
    refine X_iload_n F dX9_image_12 rfl ?_
    refine X_aload_n F dX9_image_13 rfl ?_
    refine X_getr F ffRX9_26 dX9_image_14 ?_
    refine X_iload_n F dX9_image_17 rfl ?_
    obtain ⟨q2, h⟩ := ifS h
    refine X_iald (j := (Int32.toNatClampNeg x1)) (v := (M 5 (Int32.toNatClampNeg x1))) F rfl (inbV q2) rfl rfl dX9_image_18 ?_
    obtain ⟨q3, h⟩ := ifS h
    refine X_iast (j := (Int32.toNatClampNeg x1)) F rfl (inbV q3) rfl dX9_image_19 ?_
    refine X_aload_n F dX9_image_20 rfl ?_
    refine X_getr F ffRX9_56 dX9_image_21 ?_
    refine X_bipush F dX9_image_24 (v := (8 : Int32)) rfl ?_
    refine X_iload_n F dX9_image_26 rfl ?_
    refine X_iadd F dX9_image_27 ?_
    refine X_aload_n F dX9_image_28 rfl ?_
    refine X_getr F ffRX9_29 dX9_image_29 ?_
    refine X_iload_n F dX9_image_32 rfl ?_
    refine X_iald (j := (Int32.toNatClampNeg x1)) (v := (M 6 (Int32.toNatClampNeg x1))) F rfl (inbV q2) rfl rfl dX9_image_33 ?_
    obtain ⟨q4, h⟩ := ifS h
    refine X_iast (j := (Int32.toNatClampNeg ((8 : Int32) + x1))) F rfl (inbV q4) rfl dX9_image_34 ?_
    refine X_iinc F dX9_image_35 rfl (v := (1 : Int32)) rfl (by decide) rfl ?_
    refine X_goto (tgt := 2) F dX9_image_38 (by decide) ?_
    refine X_pick [1, 0] rfl ?_
    exact hrec2 _ _ h
set_option maxRecDepth 20000 in
theorem F9_image_l2_ok {p : Program} {l : Launch} {e : Env} {s : State} {m : MethodId} {args : Array Value} {below : List Frame} {meth : Method} {c : Code} {G : GG} {D : Nat} {r : Int32 × Mem} (F : FrP shB G p s m args c RX9 cX9_image 2) (hr : meth.sig.returnType = (some .int)) (hlk : meth.locks = false) (hD : 1 ≤ D) : ∀ (fu : Nat) (M : Mem) (x1 : Int32), F9_image_l2 fu M x1 = some r → XJ shB p l e (rmX D) s m args below meth c 0 0 G 2 (MQ below (QcX shB G ((some (.int r.1), r.2) : Option Value × Mem).1 ((some (.int r.1), r.2) : Option Value × Mem).2) args s 0 0 (AW shB G.2.1)) 2 [(0, .ref 0), (1, .int x1)] [] M := by
  intro fu
  induction fu with
  | zero => intro M x1 h; cases h
  | succ fu ih => intro M x1 h; exact F9_image_l2_bok F hr hlk hD (fun M x1 => ih M x1) h
set_option maxRecDepth 20000 in
theorem F9_image_ok {p : Program} {l : Launch} {e : Env} {s : State} {m : MethodId} {args : Array Value} {below : List Frame} {meth : Method} {c : Code} {G : GG} {D : Nat} {r : Int32 × Mem} (F : FrP shB G p s m args c RX9 cX9_image 2) (hr : meth.sig.returnType = (some .int)) (hlk : meth.locks = false) (hD : 1 ≤ D) {M : Mem} (h : F9_image M = some r) : XJ shB p l e (rmX D) s m args below meth c 0 0 G 2 (MQ below (QcX shB G ((some (.int r.1), r.2) : Option Value × Mem).1 ((some (.int r.1), r.2) : Option Value × Mem).2) args s 0 0 (AW shB G.2.1)) 0 [(0, .ref 0)] [] M := by
  unfold F9_image at h
  refine X_iconst F dX9_image_0 (v := (0 : Int32)) rfl ?_
  refine X_istore_n F dX9_image_1 (by decide) rfl ?_
  refine X_pick [1, 0] rfl ?_
  exact F9_image_l2_ok F hr hlk hD FUEL _ _ h
set_option maxRecDepth 20000 in
theorem F9_image_met {l : Launch} {G : GG} {D : Nat} {r : Int32 × Mem} {M : Mem} (hI : Inj shB G.2.1) (hD : 1 ≤ D) (h : F9_image M = some r) : MetX shB l G yX9_image cX9_image 2 (some .int) D [.ref 0] M (some (.int r.1), r.2) :=
  X_met hI (by decide +kernel) (Nat.le_of_ble_eq_true rfl) (fun p e s m args below meth c F hr hlk => F9_image_ok F hr hlk hD h)
-- KeepOurPlaceModel.back
def F9_back_l65_b (rec65 : Mem → Int32 → Option (Int32 × Mem)) (M : Mem) (x1 : Int32) : Option (Int32 × Mem) :=
    if (6 : Int32) ≤ x1 then
      some ((M 0 47), (up2 (up2 (up2 (up2 M 0 10 (M 0 47)) 0 16 (M 0 48)) 0 11 (M 0 49)) 0 4 (M 0 51)))
    else
      if inb x1 18 = true then
      if inb x1 6 = true then
      if inb ((6 : Int32) + x1) 18 = true then
      if inb ((12 : Int32) + x1) 18 = true then
      rec65 (up2 (up2 (up2 M 7 (Int32.toNatClampNeg x1) (M 16 (Int32.toNatClampNeg x1))) 8 (Int32.toNatClampNeg x1) (M 16 (Int32.toNatClampNeg ((6 : Int32) + x1)))) 9 (Int32.toNatClampNeg x1) (M 16 (Int32.toNatClampNeg ((12 : Int32) + x1)))) (x1 + (1 : Int32))
      else none
      else none
      else none
      else none
def F9_back_l65 : Nat → Mem → Int32 → Option (Int32 × Mem)
  | 0, _, _ => none
  | fu + 1, M, x1 => F9_back_l65_b (F9_back_l65 fu) M x1
def F9_back_l24_b (rec24 : Mem → Int32 → Option (Int32 × Mem)) (M : Mem) (x1 : Int32) : Option (Int32 × Mem) :=
    if (8 : Int32) ≤ x1 then
      F9_back_l65 FUEL M (0 : Int32)
    else
      if inb x1 16 = true then
      if inb x1 8 = true then
      if inb ((8 : Int32) + x1) 16 = true then
      rec24 (up2 (up2 M 5 (Int32.toNatClampNeg x1) (M 15 (Int32.toNatClampNeg x1))) 6 (Int32.toNatClampNeg x1) (M 15 (Int32.toNatClampNeg ((8 : Int32) + x1)))) (x1 + (1 : Int32))
      else none
      else none
      else none
def F9_back_l24 : Nat → Mem → Int32 → Option (Int32 × Mem)
  | 0, _, _ => none
  | fu + 1, M, x1 => F9_back_l24_b (F9_back_l24 fu) M x1
def F9_back (M : Mem) : Option (Int32 × Mem) :=
    if (M 0 47) = (-1 : Int32) then
      some ((-3 : Int32), M)
    else
      if (M 0 50) = (M 0 12) then
        F9_back_l24 FUEL M (0 : Int32)
      else
        some ((-3 : Int32), M)
set_option maxRecDepth 20000 in
theorem F9_back_l65_bok {p : Program} {l : Launch} {e : Env} {s : State} {m : MethodId} {args : Array Value} {below : List Frame} {meth : Method} {c : Code} {G : GG} {D : Nat} {r : Int32 × Mem} {rec65 : Mem → Int32 → Option (Int32 × Mem)} (F : FrP shB G p s m args c RX9 cX9_back 2) (hr : meth.sig.returnType = (some .int)) (hlk : meth.locks = false) (hD : 1 ≤ D) (hrec65 : ∀ (M : Mem) (x1 : Int32), rec65 M x1 = some r → XJ shB p l e (rmX D) s m args below meth c 0 0 G 2 (MQ below (QcX shB G ((some (.int r.1), r.2) : Option Value × Mem).1 ((some (.int r.1), r.2) : Option Value × Mem).2) args s 0 0 (AW shB G.2.1)) 65 [(0, .ref 0), (1, .int x1)] [] M) {M : Mem} {x1 : Int32} (h : F9_back_l65_b rec65 M x1 = some r) : XJ shB p l e (rmX D) s m args below meth c 0 0 G 2 (MQ below (QcX shB G ((some (.int r.1), r.2) : Option Value × Mem).1 ((some (.int r.1), r.2) : Option Value × Mem).2) args s 0 0 (AW shB G.2.1)) 65 [(0, .ref 0), (1, .int x1)] [] M := by
  unfold F9_back_l65_b at h
  refine X_iload_n F dX9_back_65 rfl ?_
  refine X_bipush F dX9_back_66 (v := (6 : Int32)) rfl ?_
  refine X_icmp_ge (tgt := 119) F dX9_back_68 (by decide) (fun q7 => ?_) (fun q7 => ?_)
  · rw [if_pos q7] at h
    refine X_aload_n F dX9_back_119 rfl ?_
    refine X_aload_n F dX9_back_120 rfl ?_
    refine X_geti (v := (M 0 47)) F ffRX9_62 dX9_back_121 rfl ?_
    refine X_puti F ffRX9_85 fw9_10 (by decide) dX9_back_124 ?_
    refine X_aload_n F dX9_back_127 rfl ?_
    refine X_aload_n F dX9_back_128 rfl ?_
    refine X_geti (v := (M 0 48)) F ffRX9_355 dX9_back_129 rfl ?_
    refine X_puti F ffRX9_92 fw9_16 (by decide) dX9_back_132 ?_
    refine X_aload_n F dX9_back_135 rfl ?_
    refine X_aload_n F dX9_back_136 rfl ?_
    refine X_geti (v := (M 0 49)) F ffRX9_358 dX9_back_137 rfl ?_
    refine X_puti F ffRX9_118 fw9_11 (by decide) dX9_back_140 ?_
    refine X_aload_n F dX9_back_143 rfl ?_
    refine X_aload_n F dX9_back_144 rfl ?_
    refine X_geti (v := (M 0 51)) F ffRX9_364 dX9_back_145 rfl ?_
    refine X_puti F ffRX9_255 fw9_4 (by decide) dX9_back_148 ?_
    refine X_aload_n F dX9_back_151 rfl ?_
    refine X_geti (v := (M 0 47)) F ffRX9_85 dX9_back_152 rfl ?_
    exact X_iret F hr hlk (retI h) dX9_back_155
  · rw [if_neg q7] at h
    refine X_aload_n F dX9_back_71 rfl ?_
    refine X_getr F ffRX9_32 dX9_back_72 ?_
    refine X_iload_n F dX9_back_75 rfl ?_
    refine X_aload_n F dX9_back_76 rfl ?_
    refine X_getr F ffRX9_59 dX9_back_77 ?_
    refine X_iload_n F dX9_back_80 rfl ?_
    obtain ⟨q8, h⟩ := ifS h
    refine X_iald (j := (Int32.toNatClampNeg x1)) (v := (M 16 (Int32.toNatClampNeg x1))) F rfl (inbV q8) rfl rfl dX9_back_81 ?_
    obtain ⟨q9, h⟩ := ifS h
    refine X_iast (j := (Int32.toNatClampNeg x1)) F rfl (inbV q9) rfl dX9_back_82 ?_
    refine X_aload_n F dX9_back_83 rfl ?_
    refine X_getr F ffRX9_35 dX9_back_84 ?_
    refine X_iload_n F dX9_back_87 rfl ?_
    refine X_aload_n F dX9_back_88 rfl ?_
    refine X_getr F ffRX9_59 dX9_back_89 ?_
    refine X_bipush F dX9_back_92 (v := (6 : Int32)) rfl ?_
    refine X_iload_n F dX9_back_94 rfl ?_
    refine X_iadd F dX9_back_95 ?_
    obtain ⟨q10, h⟩ := ifS h
    refine X_iald (j := (Int32.toNatClampNeg ((6 : Int32) + x1))) (v := (M 16 (Int32.toNatClampNeg ((6 : Int32) + x1)))) F rfl (inbV q10) rfl rfl dX9_back_96 ?_
    refine X_iast (j := (Int32.toNatClampNeg x1)) F rfl (inbV q9) rfl dX9_back_97 ?_
    refine X_aload_n F dX9_back_98 rfl ?_
    refine X_getr F ffRX9_38 dX9_back_99 ?_
    refine X_iload_n F dX9_back_102 rfl ?_
    refine X_aload_n F dX9_back_103 rfl ?_
    refine X_getr F ffRX9_59 dX9_back_104 ?_
    refine X_bipush F dX9_back_107 (v := (12 : Int32)) rfl ?_
    refine X_iload_n F dX9_back_109 rfl ?_
    refine X_iadd F dX9_back_110 ?_
    obtain ⟨q11, h⟩ := ifS h
    refine X_iald (j := (Int32.toNatClampNeg ((12 : Int32) + x1))) (v := (M 16 (Int32.toNatClampNeg ((12 : Int32) + x1)))) F rfl (inbV q11) rfl rfl dX9_back_111 ?_
    refine X_iast (j := (Int32.toNatClampNeg x1)) F rfl (inbV q9) rfl dX9_back_112 ?_
    refine X_iinc F dX9_back_113 rfl (v := (1 : Int32)) rfl (by decide) rfl ?_
    refine X_goto (tgt := 65) F dX9_back_116 (by decide) ?_
    refine X_pick [1, 0] rfl ?_
    exact hrec65 _ _ h
set_option maxRecDepth 20000 in
theorem F9_back_l65_ok {p : Program} {l : Launch} {e : Env} {s : State} {m : MethodId} {args : Array Value} {below : List Frame} {meth : Method} {c : Code} {G : GG} {D : Nat} {r : Int32 × Mem} (F : FrP shB G p s m args c RX9 cX9_back 2) (hr : meth.sig.returnType = (some .int)) (hlk : meth.locks = false) (hD : 1 ≤ D) : ∀ (fu : Nat) (M : Mem) (x1 : Int32), F9_back_l65 fu M x1 = some r → XJ shB p l e (rmX D) s m args below meth c 0 0 G 2 (MQ below (QcX shB G ((some (.int r.1), r.2) : Option Value × Mem).1 ((some (.int r.1), r.2) : Option Value × Mem).2) args s 0 0 (AW shB G.2.1)) 65 [(0, .ref 0), (1, .int x1)] [] M := by
  intro fu
  induction fu with
  | zero => intro M x1 h; cases h
  | succ fu ih => intro M x1 h; exact F9_back_l65_bok F hr hlk hD (fun M x1 => ih M x1) h
set_option maxRecDepth 20000 in
theorem F9_back_l24_bok {p : Program} {l : Launch} {e : Env} {s : State} {m : MethodId} {args : Array Value} {below : List Frame} {meth : Method} {c : Code} {G : GG} {D : Nat} {r : Int32 × Mem} {rec24 : Mem → Int32 → Option (Int32 × Mem)} (F : FrP shB G p s m args c RX9 cX9_back 2) (hr : meth.sig.returnType = (some .int)) (hlk : meth.locks = false) (hD : 1 ≤ D) (hrec24 : ∀ (M : Mem) (x1 : Int32), rec24 M x1 = some r → XJ shB p l e (rmX D) s m args below meth c 0 0 G 2 (MQ below (QcX shB G ((some (.int r.1), r.2) : Option Value × Mem).1 ((some (.int r.1), r.2) : Option Value × Mem).2) args s 0 0 (AW shB G.2.1)) 24 [(0, .ref 0), (1, .int x1)] [] M) {M : Mem} {x1 : Int32} (h : F9_back_l24_b rec24 M x1 = some r) : XJ shB p l e (rmX D) s m args below meth c 0 0 G 2 (MQ below (QcX shB G ((some (.int r.1), r.2) : Option Value × Mem).1 ((some (.int r.1), r.2) : Option Value × Mem).2) args s 0 0 (AW shB G.2.1)) 24 [(0, .ref 0), (1, .int x1)] [] M := by
  unfold F9_back_l24_b at h
  refine X_iload_n F dX9_back_24 rfl ?_
  refine X_bipush F dX9_back_25 (v := (8 : Int32)) rfl ?_
  refine X_icmp_ge (tgt := 63) F dX9_back_27 (by decide) (fun q3 => ?_) (fun q3 => ?_)
  · rw [if_pos q3] at h
    refine X_iconst F dX9_back_63 (v := (0 : Int32)) rfl ?_
    refine X_istore_n F dX9_back_64 (by decide) rfl ?_
    refine X_pick [1, 0] rfl ?_
    exact F9_back_l65_ok F hr hlk hD FUEL _ _ h
  · rw [if_neg q3] at h
    refine X_aload_n F dX9_back_30 rfl ?_
    refine X_getr F ffRX9_26 dX9_back_31 ?_
    refine X_iload_n F dX9_back_34 rfl ?_
    refine X_aload_n F dX9_back_35 rfl ?_
    refine X_getr F ffRX9_56 dX9_back_36 ?_
    refine X_iload_n F dX9_back_39 rfl ?_
    obtain ⟨q4, h⟩ := ifS h
    refine X_iald (j := (Int32.toNatClampNeg x1)) (v := (M 15 (Int32.toNatClampNeg x1))) F rfl (inbV q4) rfl rfl dX9_back_40 ?_
    obtain ⟨q5, h⟩ := ifS h
    refine X_iast (j := (Int32.toNatClampNeg x1)) F rfl (inbV q5) rfl dX9_back_41 ?_
    refine X_aload_n F dX9_back_42 rfl ?_
    refine X_getr F ffRX9_29 dX9_back_43 ?_
    refine X_iload_n F dX9_back_46 rfl ?_
    refine X_aload_n F dX9_back_47 rfl ?_
    refine X_getr F ffRX9_56 dX9_back_48 ?_
    refine X_bipush F dX9_back_51 (v := (8 : Int32)) rfl ?_
    refine X_iload_n F dX9_back_53 rfl ?_
    refine X_iadd F dX9_back_54 ?_
    obtain ⟨q6, h⟩ := ifS h
    refine X_iald (j := (Int32.toNatClampNeg ((8 : Int32) + x1))) (v := (M 15 (Int32.toNatClampNeg ((8 : Int32) + x1)))) F rfl (inbV q6) rfl rfl dX9_back_55 ?_
    refine X_iast (j := (Int32.toNatClampNeg x1)) F rfl (inbV q5) rfl dX9_back_56 ?_
    refine X_iinc F dX9_back_57 rfl (v := (1 : Int32)) rfl (by decide) rfl ?_
    refine X_goto (tgt := 24) F dX9_back_60 (by decide) ?_
    refine X_pick [1, 0] rfl ?_
    exact hrec24 _ _ h
set_option maxRecDepth 20000 in
theorem F9_back_l24_ok {p : Program} {l : Launch} {e : Env} {s : State} {m : MethodId} {args : Array Value} {below : List Frame} {meth : Method} {c : Code} {G : GG} {D : Nat} {r : Int32 × Mem} (F : FrP shB G p s m args c RX9 cX9_back 2) (hr : meth.sig.returnType = (some .int)) (hlk : meth.locks = false) (hD : 1 ≤ D) : ∀ (fu : Nat) (M : Mem) (x1 : Int32), F9_back_l24 fu M x1 = some r → XJ shB p l e (rmX D) s m args below meth c 0 0 G 2 (MQ below (QcX shB G ((some (.int r.1), r.2) : Option Value × Mem).1 ((some (.int r.1), r.2) : Option Value × Mem).2) args s 0 0 (AW shB G.2.1)) 24 [(0, .ref 0), (1, .int x1)] [] M := by
  intro fu
  induction fu with
  | zero => intro M x1 h; cases h
  | succ fu ih => intro M x1 h; exact F9_back_l24_bok F hr hlk hD (fun M x1 => ih M x1) h
set_option maxRecDepth 20000 in
theorem F9_back_ok {p : Program} {l : Launch} {e : Env} {s : State} {m : MethodId} {args : Array Value} {below : List Frame} {meth : Method} {c : Code} {G : GG} {D : Nat} {r : Int32 × Mem} (F : FrP shB G p s m args c RX9 cX9_back 2) (hr : meth.sig.returnType = (some .int)) (hlk : meth.locks = false) (hD : 1 ≤ D) {M : Mem} (h : F9_back M = some r) : XJ shB p l e (rmX D) s m args below meth c 0 0 G 2 (MQ below (QcX shB G ((some (.int r.1), r.2) : Option Value × Mem).1 ((some (.int r.1), r.2) : Option Value × Mem).2) args s 0 0 (AW shB G.2.1)) 0 [(0, .ref 0)] [] M := by
  unfold F9_back at h
  refine X_aload_n F dX9_back_0 rfl ?_
  refine X_geti (v := (M 0 47)) F ffRX9_62 dX9_back_1 rfl ?_
  refine X_iconst F dX9_back_4 (v := (-1 : Int32)) rfl ?_
  refine X_icmp_eq (tgt := 19) F dX9_back_5 (by decide) (fun q1 => ?_) (fun q1 => ?_)
  · rw [if_pos q1] at h
    refine X_bipush F dX9_back_19 (v := (-3 : Int32)) rfl ?_
    exact X_iret F hr hlk (retI h) dX9_back_21
  · rw [if_neg q1] at h
    refine X_aload_n F dX9_back_8 rfl ?_
    refine X_geti (v := (M 0 50)) F ffRX9_361 dX9_back_9 rfl ?_
    refine X_aload_n F dX9_back_12 rfl ?_
    refine X_geti (v := (M 0 12)) F ffRX9_133 dX9_back_13 rfl ?_
    refine X_icmp_eq (tgt := 22) F dX9_back_16 (by decide) (fun q2 => ?_) (fun q2 => ?_)
    · rw [if_pos q2] at h
      refine X_iconst F dX9_back_22 (v := (0 : Int32)) rfl ?_
      refine X_istore_n F dX9_back_23 (by decide) rfl ?_
      refine X_pick [1, 0] rfl ?_
      exact F9_back_l24_ok F hr hlk hD FUEL _ _ h
    · rw [if_neg q2] at h
      refine X_bipush F dX9_back_19 (v := (-3 : Int32)) rfl ?_
      exact X_iret F hr hlk (retI h) dX9_back_21
set_option maxRecDepth 20000 in
theorem F9_back_met {l : Launch} {G : GG} {D : Nat} {r : Int32 × Mem} {M : Mem} (hI : Inj shB G.2.1) (hD : 1 ≤ D) (h : F9_back M = some r) : MetX shB l G yX9_back cX9_back 2 (some .int) D [.ref 0] M (some (.int r.1), r.2) :=
  X_met hI (by decide +kernel) (Nat.le_of_ble_eq_true rfl) (fun p e s m args below meth c F hr hlk => F9_back_ok F hr hlk hD h)
-- KeepOurPlaceModel.count
def F9_count (M : Mem) (a1 : Int32) : Option (Int32 × Mem) :=
    Option.bind (F9_in M (Int32.toInt64 a1) (0 : Int64) (6 : Int64)) fun r1 =>
    if ¬ r1.1 = 0 then
      if (3 : Int32) ≤ a1 then
        if ¬ a1 = (3 : Int32) then
          if ¬ a1 = (4 : Int32) then
            if ¬ a1 = (5 : Int32) then
              some ((r1.2 0 12), r1.2)
            else
              some ((r1.2 0 4), r1.2)
          else
            some ((r1.2 0 6), r1.2)
        else
          some ((r1.2 0 3), r1.2)
      else
        if ¬ a1 = 0 then
          if ¬ a1 = (1 : Int32) then
            some ((r1.2 0 11), r1.2)
          else
            some ((r1.2 0 16), r1.2)
        else
          some ((r1.2 0 10), r1.2)
    else
      some ((-2 : Int32), r1.2)
set_option maxRecDepth 20000 in
theorem F9_count_ok {p : Program} {l : Launch} {e : Env} {s : State} {m : MethodId} {args : Array Value} {below : List Frame} {meth : Method} {c : Code} {G : GG} {D : Nat} {r : Int32 × Mem} (F : FrP shB G p s m args c RX9 cX9_count 2) (hr : meth.sig.returnType = (some .int)) (hlk : meth.locks = false) (hD : 2 ≤ D) {M : Mem} {a1 : Int32} (h : F9_count M a1 = some r) : XJ shB p l e (rmX D) s m args below meth c 0 0 G 2 (MQ below (QcX shB G ((some (.int r.1), r.2) : Option Value × Mem).1 ((some (.int r.1), r.2) : Option Value × Mem).2) args s 0 0 (AW shB G.2.1)) 0 [(0, .ref 0), (1, .int a1)] [] M := by
  unfold F9_count at h
  refine X_iload_n F dX9_count_0 rfl ?_
  refine X_i2l F dX9_count_1 ?_
  refine X_lconst F dX9_count_2 (v := (0 : Int64)) rfl ?_
  refine X_ldc2 F fcRX9_319 dX9_count_3 ?_
  obtain ⟨r1, h2, h⟩ := bndS h
  refine X_callS (As := [.long (Int32.toInt64 a1), .long (0 : Int64), .long (6 : Int64)]) (rest := []) F fsRX9_88 feX9_in ftX9_in (F9_in_met (D := D - 1) F.2.2.2.2.2.2.2.1 (by omega) h2) rfl rfl (Nat.le_of_ble_eq_true rfl) (rm_ok (by omega) (by decide)) dX9_count_6 ?_
  show XJ shB p l e (rmX D) s m args below meth c 0 0 G 2 (MQ below (QcX shB G ((some (.int r.1), r.2) : Option Value × Mem).1 ((some (.int r.1), r.2) : Option Value × Mem).2) args s 0 0 (AW shB G.2.1)) 9 [(0, .ref 0), (1, .int a1)] [.int r1.1] r1.2
  refine X_if_ne (tgt := 15) F dX9_count_9 (by decide) (fun q3 => ?_) (fun q3 => ?_)
  · rw [if_pos q3] at h
    refine X_iload_n F dX9_count_15 rfl ?_
    refine X_iconst F dX9_count_16 (v := (3 : Int32)) rfl ?_
    refine X_icmp_ge (tgt := 48) F dX9_count_17 (by decide) (fun q4 => ?_) (fun q4 => ?_)
    · rw [if_pos q4] at h
      refine X_iload_n F dX9_count_48 rfl ?_
      refine X_iconst F dX9_count_49 (v := (3 : Int32)) rfl ?_
      refine X_icmp_ne (tgt := 60) F dX9_count_50 (by decide) (fun q5 => ?_) (fun q5 => ?_)
      · rw [if_pos q5] at h
        refine X_iload_n F dX9_count_60 rfl ?_
        refine X_iconst F dX9_count_61 (v := (4 : Int32)) rfl ?_
        refine X_icmp_ne (tgt := 72) F dX9_count_62 (by decide) (fun q6 => ?_) (fun q6 => ?_)
        · rw [if_pos q6] at h
          refine X_iload_n F dX9_count_72 rfl ?_
          refine X_iconst F dX9_count_73 (v := (5 : Int32)) rfl ?_
          refine X_icmp_ne (tgt := 84) F dX9_count_74 (by decide) (fun q7 => ?_) (fun q7 => ?_)
          · rw [if_pos q7] at h
            refine X_aload_n F dX9_count_84 rfl ?_
            refine X_geti (v := (r1.2 0 12)) F ffRX9_133 dX9_count_85 rfl ?_
            exact X_iret F hr hlk (retI h) dX9_count_88
          · rw [if_neg (fun z => z q7)] at h
            refine X_aload_n F dX9_count_77 rfl ?_
            refine X_geti (v := (r1.2 0 4)) F ffRX9_255 dX9_count_78 rfl ?_
            refine X_goto (tgt := 88) F dX9_count_81 (by decide) ?_
            exact X_iret F hr hlk (retI h) dX9_count_88
        · rw [if_neg (fun z => z q6)] at h
          refine X_aload_n F dX9_count_65 rfl ?_
          refine X_geti (v := (r1.2 0 6)) F ffRX9_138 dX9_count_66 rfl ?_
          refine X_goto (tgt := 88) F dX9_count_69 (by decide) ?_
          exact X_iret F hr hlk (retI h) dX9_count_88
      · rw [if_neg (fun z => z q5)] at h
        refine X_aload_n F dX9_count_53 rfl ?_
        refine X_geti (v := (r1.2 0 3)) F ffRX9_82 dX9_count_54 rfl ?_
        refine X_goto (tgt := 88) F dX9_count_57 (by decide) ?_
        exact X_iret F hr hlk (retI h) dX9_count_88
    · rw [if_neg q4] at h
      refine X_iload_n F dX9_count_20 rfl ?_
      refine X_if_ne (tgt := 31) F dX9_count_21 (by decide) (fun q8 => ?_) (fun q8 => ?_)
      · rw [if_pos q8] at h
        refine X_iload_n F dX9_count_31 rfl ?_
        refine X_iconst F dX9_count_32 (v := (1 : Int32)) rfl ?_
        refine X_icmp_ne (tgt := 43) F dX9_count_33 (by decide) (fun q9 => ?_) (fun q9 => ?_)
        · rw [if_pos q9] at h
          refine X_aload_n F dX9_count_43 rfl ?_
          refine X_geti (v := (r1.2 0 11)) F ffRX9_118 dX9_count_44 rfl ?_
          exact X_iret F hr hlk (retI h) dX9_count_47
        · rw [if_neg (fun z => z q9)] at h
          refine X_aload_n F dX9_count_36 rfl ?_
          refine X_geti (v := (r1.2 0 16)) F ffRX9_92 dX9_count_37 rfl ?_
          refine X_goto (tgt := 47) F dX9_count_40 (by decide) ?_
          exact X_iret F hr hlk (retI h) dX9_count_47
      · rw [if_neg (fun z => z q8)] at h
        refine X_aload_n F dX9_count_24 rfl ?_
        refine X_geti (v := (r1.2 0 10)) F ffRX9_85 dX9_count_25 rfl ?_
        refine X_goto (tgt := 47) F dX9_count_28 (by decide) ?_
        exact X_iret F hr hlk (retI h) dX9_count_47
  · rw [if_neg (fun z => z q3)] at h
    refine X_bipush F dX9_count_12 (v := (-2 : Int32)) rfl ?_
    exact X_iret F hr hlk (retI h) dX9_count_14
set_option maxRecDepth 20000 in
theorem F9_count_met {l : Launch} {G : GG} {D : Nat} {r : Int32 × Mem} {M : Mem} {a1 : Int32} (hI : Inj shB G.2.1) (hD : 2 ≤ D) (h : F9_count M a1 = some r) : MetX shB l G yX9_count cX9_count 2 (some .int) D [.ref 0, .int a1] M (some (.int r.1), r.2) :=
  X_met hI (by decide +kernel) (Nat.le_of_ble_eq_true rfl) (fun p e s m args below meth c F hr hlk => F9_count_ok F hr hlk hD h)
-- KeepOurPlaceModel.cell
def F9_cell (M : Mem) (a1 : Int32) (a2 : Int32) (a3 : Int32) : Option (Int32 × Mem) :=
    Option.bind (F9_isSheet M a1) fun r1 =>
    if ¬ r1.1 = 0 then
      if inb a1 4 = true then
      if ¬ (r1.2 17 (Int32.toNatClampNeg a1)) = 0 then
        Option.bind (F9_in r1.2 (Int32.toInt64 a2) (0 : Int64) (Int32.toInt64 ((r1.2 19 (Int32.toNatClampNeg a1)) - (1 : Int32)))) fun r6 =>
        if ¬ r6.1 = 0 then
          if ¬ (r6.2 18 (Int32.toNatClampNeg a1)) = 0 then
            if ¬ (r6.2 18 (Int32.toNatClampNeg a1)) = (1 : Int32) then
              if inb (((40 : Int32) * a1) + a2) 160 = true then
              some ((1 : Int32), (up2 r6.2 20 (Int32.toNatClampNeg (((40 : Int32) * a1) + a2)) a3))
              else none
            else
              if inb (((40 : Int32) * a1) + a2) 160 = true then
              some ((1 : Int32), (up2 r6.2 20 (Int32.toNatClampNeg (((40 : Int32) * a1) + a2)) (Int16.toInt32 (Int32.toInt16 a3))))
              else none
          else
            if inb (((40 : Int32) * a1) + a2) 160 = true then
            some ((1 : Int32), (up2 r6.2 20 (Int32.toNatClampNeg (((40 : Int32) * a1) + a2)) (Int8.toInt32 (Int32.toInt8 a3))))
            else none
        else
          some ((-12 : Int32), r6.2)
      else
        some ((-11 : Int32), r1.2)
      else none
    else
      some ((-2 : Int32), r1.2)
set_option maxRecDepth 20000 in
theorem F9_cell_ok {p : Program} {l : Launch} {e : Env} {s : State} {m : MethodId} {args : Array Value} {below : List Frame} {meth : Method} {c : Code} {G : GG} {D : Nat} {r : Int32 × Mem} (F : FrP shB G p s m args c RX9 cX9_cell 4) (hr : meth.sig.returnType = (some .int)) (hlk : meth.locks = false) (hD : 3 ≤ D) {M : Mem} {a1 : Int32} {a2 : Int32} {a3 : Int32} (h : F9_cell M a1 a2 a3 = some r) : XJ shB p l e (rmX D) s m args below meth c 0 0 G 4 (MQ below (QcX shB G ((some (.int r.1), r.2) : Option Value × Mem).1 ((some (.int r.1), r.2) : Option Value × Mem).2) args s 0 0 (AW shB G.2.1)) 0 [(0, .ref 0), (1, .int a1), (2, .int a2), (3, .int a3)] [] M := by
  unfold F9_cell at h
  refine X_iload_n F dX9_cell_0 rfl ?_
  obtain ⟨r1, h2, h⟩ := bndS h
  refine X_callS (As := [.int a1]) (rest := []) F fsRX9_281 feX9_isSheet ftX9_isSheet (F9_isSheet_met (D := D - 1) F.2.2.2.2.2.2.2.1 (by omega) h2) rfl rfl (Nat.le_of_ble_eq_true rfl) (rm_ok (by omega) (by decide)) dX9_cell_1 ?_
  show XJ shB p l e (rmX D) s m args below meth c 0 0 G 4 (MQ below (QcX shB G ((some (.int r.1), r.2) : Option Value × Mem).1 ((some (.int r.1), r.2) : Option Value × Mem).2) args s 0 0 (AW shB G.2.1)) 4 [(0, .ref 0), (1, .int a1), (2, .int a2), (3, .int a3)] [.int r1.1] r1.2
  refine X_if_ne (tgt := 10) F dX9_cell_4 (by decide) (fun q3 => ?_) (fun q3 => ?_)
  · rw [if_pos q3] at h
    refine X_aload_n F dX9_cell_10 rfl ?_
    refine X_getr F ffRX9_65 dX9_cell_11 ?_
    refine X_iload_n F dX9_cell_14 rfl ?_
    obtain ⟨q4, h⟩ := ifS h
    refine X_zald (j := (Int32.toNatClampNeg a1)) (v := (r1.2 17 (Int32.toNatClampNeg a1))) F rfl (inbV q4) rfl rfl dX9_cell_15 ?_
    refine X_if_ne (tgt := 22) F dX9_cell_16 (by decide) (fun q5 => ?_) (fun q5 => ?_)
    · rw [if_pos q5] at h
      refine X_iload_n F dX9_cell_22 rfl ?_
      refine X_i2l F dX9_cell_23 ?_
      refine X_lconst F dX9_cell_24 (v := (0 : Int64)) rfl ?_
      refine X_aload_n F dX9_cell_25 rfl ?_
      refine X_getr F ffRX9_72 dX9_cell_26 ?_
      refine X_iload_n F dX9_cell_29 rfl ?_
      refine X_iald (j := (Int32.toNatClampNeg a1)) (v := (r1.2 19 (Int32.toNatClampNeg a1))) F rfl (inbV q4) rfl rfl dX9_cell_30 ?_
      refine X_iconst F dX9_cell_31 (v := (1 : Int32)) rfl ?_
      refine X_isub F dX9_cell_32 ?_
      refine X_i2l F dX9_cell_33 ?_
      obtain ⟨r6, h7, h⟩ := bndS h
      refine X_callS (As := [.long (Int32.toInt64 a2), .long (0 : Int64), .long (Int32.toInt64 ((r1.2 19 (Int32.toNatClampNeg a1)) - (1 : Int32)))]) (rest := []) F fsRX9_88 feX9_in ftX9_in (F9_in_met (D := D - 1) F.2.2.2.2.2.2.2.1 (by omega) h7) rfl rfl (Nat.le_of_ble_eq_true rfl) (rm_ok (by omega) (by decide)) dX9_cell_34 ?_
      show XJ shB p l e (rmX D) s m args below meth c 0 0 G 4 (MQ below (QcX shB G ((some (.int r.1), r.2) : Option Value × Mem).1 ((some (.int r.1), r.2) : Option Value × Mem).2) args s 0 0 (AW shB G.2.1)) 37 [(0, .ref 0), (1, .int a1), (2, .int a2), (3, .int a3)] [.int r6.1] r6.2
      refine X_if_ne (tgt := 43) F dX9_cell_37 (by decide) (fun q8 => ?_) (fun q8 => ?_)
      · rw [if_pos q8] at h
        refine X_aload_n F dX9_cell_43 rfl ?_
        refine X_getr F ffRX9_75 dX9_cell_44 ?_
        refine X_bipush F dX9_cell_47 (v := (40 : Int32)) rfl ?_
        refine X_iload_n F dX9_cell_49 rfl ?_
        refine X_imul F dX9_cell_50 ?_
        refine X_iload_n F dX9_cell_51 rfl ?_
        refine X_iadd F dX9_cell_52 ?_
        refine X_aload_n F dX9_cell_53 rfl ?_
        refine X_getr F ffRX9_69 dX9_cell_54 ?_
        refine X_iload_n F dX9_cell_57 rfl ?_
        refine X_iald (j := (Int32.toNatClampNeg a1)) (v := (r6.2 18 (Int32.toNatClampNeg a1))) F rfl (inbV q4) rfl rfl dX9_cell_58 ?_
        refine X_if_ne (tgt := 67) F dX9_cell_59 (by decide) (fun q9 => ?_) (fun q9 => ?_)
        · rw [if_pos q9] at h
          refine X_aload_n F dX9_cell_67 rfl ?_
          refine X_getr F ffRX9_69 dX9_cell_68 ?_
          refine X_iload_n F dX9_cell_71 rfl ?_
          refine X_iald (j := (Int32.toNatClampNeg a1)) (v := (r6.2 18 (Int32.toNatClampNeg a1))) F rfl (inbV q4) rfl rfl dX9_cell_72 ?_
          refine X_iconst F dX9_cell_73 (v := (1 : Int32)) rfl ?_
          refine X_icmp_ne (tgt := 82) F dX9_cell_74 (by decide) (fun q10 => ?_) (fun q10 => ?_)
          · rw [if_pos q10] at h
            refine X_iload_n F dX9_cell_82 rfl ?_
            obtain ⟨q11, h⟩ := ifS h
            refine X_iast (j := (Int32.toNatClampNeg (((40 : Int32) * a1) + a2))) F rfl (inbV q11) rfl dX9_cell_83 ?_
            refine X_iconst F dX9_cell_84 (v := (1 : Int32)) rfl ?_
            exact X_iret F hr hlk (retI h) dX9_cell_85
          · rw [if_neg (fun z => z q10)] at h
            refine X_iload_n F dX9_cell_77 rfl ?_
            refine X_i2s F dX9_cell_78 ?_
            refine X_goto (tgt := 83) F dX9_cell_79 (by decide) ?_
            obtain ⟨q12, h⟩ := ifS h
            refine X_iast (j := (Int32.toNatClampNeg (((40 : Int32) * a1) + a2))) F rfl (inbV q12) rfl dX9_cell_83 ?_
            refine X_iconst F dX9_cell_84 (v := (1 : Int32)) rfl ?_
            exact X_iret F hr hlk (retI h) dX9_cell_85
        · rw [if_neg (fun z => z q9)] at h
          refine X_iload_n F dX9_cell_62 rfl ?_
          refine X_i2b F dX9_cell_63 ?_
          refine X_goto (tgt := 83) F dX9_cell_64 (by decide) ?_
          obtain ⟨q13, h⟩ := ifS h
          refine X_iast (j := (Int32.toNatClampNeg (((40 : Int32) * a1) + a2))) F rfl (inbV q13) rfl dX9_cell_83 ?_
          refine X_iconst F dX9_cell_84 (v := (1 : Int32)) rfl ?_
          exact X_iret F hr hlk (retI h) dX9_cell_85
      · rw [if_neg (fun z => z q8)] at h
        refine X_bipush F dX9_cell_40 (v := (-12 : Int32)) rfl ?_
        exact X_iret F hr hlk (retI h) dX9_cell_42
    · rw [if_neg (fun z => z q5)] at h
      refine X_bipush F dX9_cell_19 (v := (-11 : Int32)) rfl ?_
      exact X_iret F hr hlk (retI h) dX9_cell_21
  · rw [if_neg (fun z => z q3)] at h
    refine X_bipush F dX9_cell_7 (v := (-2 : Int32)) rfl ?_
    exact X_iret F hr hlk (retI h) dX9_cell_9
set_option maxRecDepth 20000 in
theorem F9_cell_met {l : Launch} {G : GG} {D : Nat} {r : Int32 × Mem} {M : Mem} {a1 : Int32} {a2 : Int32} {a3 : Int32} (hI : Inj shB G.2.1) (hD : 3 ≤ D) (h : F9_cell M a1 a2 a3 = some r) : MetX shB l G yX9_cell cX9_cell 4 (some .int) D [.ref 0, .int a1, .int a2, .int a3] M (some (.int r.1), r.2) :=
  X_met hI (by decide +kernel) (Nat.le_of_ble_eq_true rfl) (fun p e s m args below meth c F hr hlk => F9_cell_ok F hr hlk hD h)
-- KeepOurPlaceModel.copy
def F9_copy_j145 (rec121 : Mem → Int32 → Int32 → Int32 → Int32 → Int32 → Int32 → Int32 → Option (Int32 × Mem)) (M : Mem) (x1 : Int32) (x2 : Int32) (x3 : Int32) (x4 : Int32) (x5 : Int32) (x6 : Int32) (x7 : Int32) (y0 : Int32) : Option (Int32 × Mem) :=
    if inb ((((40 : Int32) * x1) + x2) + y0) 160 = true then
    if inb ((((40 : Int32) * x3) + x4) + y0) 160 = true then
    rec121 (up2 M 20 (Int32.toNatClampNeg ((((40 : Int32) * x3) + x4) + y0)) (M 20 (Int32.toNatClampNeg ((((40 : Int32) * x1) + x2) + y0)))) x1 x2 x3 x4 x5 x6 (x7 + (1 : Int32))
    else none
    else none
def F9_copy_l121_b (rec121 : Mem → Int32 → Int32 → Int32 → Int32 → Int32 → Int32 → Int32 → Option (Int32 × Mem)) (M : Mem) (x1 : Int32) (x2 : Int32) (x3 : Int32) (x4 : Int32) (x5 : Int32) (x6 : Int32) (x7 : Int32) : Option (Int32 × Mem) :=
    if x5 ≤ x7 then
      some (x5, M)
    else
      if x6 = 0 then
        F9_copy_j145 rec121 M x1 x2 x3 x4 x5 x6 x7 x7
      else
        F9_copy_j145 rec121 M x1 x2 x3 x4 x5 x6 x7 ((x5 - (1 : Int32)) - x7)
def F9_copy_l121 : Nat → Mem → Int32 → Int32 → Int32 → Int32 → Int32 → Int32 → Int32 → Option (Int32 × Mem)
  | 0, _, _, _, _, _, _, _, _ => none
  | fu + 1, M, x1, x2, x3, x4, x5, x6, x7 => F9_copy_l121_b (F9_copy_l121 fu) M x1 x2 x3 x4 x5 x6 x7
def F9_copy_j116 (M : Mem) (x1 : Int32) (x2 : Int32) (x3 : Int32) (x4 : Int32) (x5 : Int32) (y0 : Int32) : Option (Int32 × Mem) :=
    F9_copy_l121 FUEL M x1 x2 x3 x4 x5 y0 (0 : Int32)
def F9_copy_j115 (M : Mem) (x1 : Int32) (x2 : Int32) (x3 : Int32) (x4 : Int32) (x5 : Int32) : Option (Int32 × Mem) :=
    F9_copy_j116 M x1 x2 x3 x4 x5 (0 : Int32)
def F9_copy (M : Mem) (a1 : Int32) (a2 : Int32) (a3 : Int32) (a4 : Int32) (a5 : Int32) : Option (Int32 × Mem) :=
    Option.bind (F9_isSheet M a1) fun r1 =>
    if r1.1 = 0 then
      some ((-2 : Int32), r1.2)
    else
      Option.bind (F9_isSheet r1.2 a3) fun r4 =>
      if ¬ r4.1 = 0 then
        if inb a1 4 = true then
        if (r4.2 17 (Int32.toNatClampNeg a1)) = 0 then
          some ((-11 : Int32), r4.2)
        else
          if inb a3 4 = true then
          if ¬ (r4.2 17 (Int32.toNatClampNeg a3)) = 0 then
            if (r4.2 18 (Int32.toNatClampNeg a1)) = (r4.2 18 (Int32.toNatClampNeg a3)) then
              if a5 < 0 then
                some ((-12 : Int32), r4.2)
              else
                if a2 < 0 then
                  some ((-12 : Int32), r4.2)
                else
                  if a4 < 0 then
                    some ((-12 : Int32), r4.2)
                  else
                    if ((r4.2 19 (Int32.toNatClampNeg a1)) - a5) < a2 then
                      some ((-12 : Int32), r4.2)
                    else
                      if a4 ≤ ((r4.2 19 (Int32.toNatClampNeg a3)) - a5) then
                        if ¬ a1 = a3 then
                          F9_copy_j115 r4.2 a1 a2 a3 a4 a5
                        else
                          if a4 ≤ a2 then
                            F9_copy_j115 r4.2 a1 a2 a3 a4 a5
                          else
                            F9_copy_j116 r4.2 a1 a2 a3 a4 a5 (1 : Int32)
                      else
                        some ((-12 : Int32), r4.2)
            else
              some ((-13 : Int32), r4.2)
          else
            some ((-11 : Int32), r4.2)
          else none
        else none
      else
        some ((-2 : Int32), r4.2)
set_option maxRecDepth 20000 in
theorem F9_copy_j145_ok {p : Program} {l : Launch} {e : Env} {s : State} {m : MethodId} {args : Array Value} {below : List Frame} {meth : Method} {c : Code} {G : GG} {D : Nat} {r : Int32 × Mem} {rec121 : Mem → Int32 → Int32 → Int32 → Int32 → Int32 → Int32 → Int32 → Option (Int32 × Mem)} (F : FrP shB G p s m args c RX9 cX9_copy 9) (hr : meth.sig.returnType = (some .int)) (hlk : meth.locks = false) (hD : 3 ≤ D) (hrec121 : ∀ (M : Mem) (x1 : Int32) (x2 : Int32) (x3 : Int32) (x4 : Int32) (x5 : Int32) (x6 : Int32) (x7 : Int32), rec121 M x1 x2 x3 x4 x5 x6 x7 = some r → XJ shB p l e (rmX D) s m args below meth c 0 0 G 9 (MQ below (QcX shB G ((some (.int r.1), r.2) : Option Value × Mem).1 ((some (.int r.1), r.2) : Option Value × Mem).2) args s 0 0 (AW shB G.2.1)) 121 [(0, .ref 0), (1, .int x1), (2, .int x2), (3, .int x3), (4, .int x4), (5, .int x5), (6, .int x6), (7, .int x7)] [] M) {M : Mem} {x1 : Int32} {x2 : Int32} {x3 : Int32} {x4 : Int32} {x5 : Int32} {x6 : Int32} {x7 : Int32} {y0 : Int32} (h : F9_copy_j145 rec121 M x1 x2 x3 x4 x5 x6 x7 y0 = some r) : XJ shB p l e (rmX D) s m args below meth c 0 0 G 9 (MQ below (QcX shB G ((some (.int r.1), r.2) : Option Value × Mem).1 ((some (.int r.1), r.2) : Option Value × Mem).2) args s 0 0 (AW shB G.2.1)) 145 [(0, .ref 0), (1, .int x1), (2, .int x2), (3, .int x3), (4, .int x4), (5, .int x5), (6, .int x6), (7, .int x7)] [.int y0] M := by
  unfold F9_copy_j145 at h
  refine X_istore F dX9_copy_145 (by decide) rfl ?_
  refine X_aload_n F dX9_copy_147 rfl ?_
  refine X_getr F ffRX9_75 dX9_copy_148 ?_
  refine X_bipush F dX9_copy_151 (v := (40 : Int32)) rfl ?_
  refine X_iload_n F dX9_copy_153 rfl ?_
  refine X_imul F dX9_copy_154 ?_
  refine X_iload F dX9_copy_155 rfl ?_
  refine X_iadd F dX9_copy_157 ?_
  refine X_iload F dX9_copy_158 rfl ?_
  refine X_iadd F dX9_copy_160 ?_
  refine X_aload_n F dX9_copy_161 rfl ?_
  refine X_getr F ffRX9_75 dX9_copy_162 ?_
  refine X_bipush F dX9_copy_165 (v := (40 : Int32)) rfl ?_
  refine X_iload_n F dX9_copy_167 rfl ?_
  refine X_imul F dX9_copy_168 ?_
  refine X_iload_n F dX9_copy_169 rfl ?_
  refine X_iadd F dX9_copy_170 ?_
  refine X_iload F dX9_copy_171 rfl ?_
  refine X_iadd F dX9_copy_173 ?_
  obtain ⟨q21, h⟩ := ifS h
  refine X_iald (j := (Int32.toNatClampNeg ((((40 : Int32) * x1) + x2) + y0))) (v := (M 20 (Int32.toNatClampNeg ((((40 : Int32) * x1) + x2) + y0)))) F rfl (inbV q21) rfl rfl dX9_copy_174 ?_
  obtain ⟨q22, h⟩ := ifS h
  refine X_iast (j := (Int32.toNatClampNeg ((((40 : Int32) * x3) + x4) + y0))) F rfl (inbV q22) rfl dX9_copy_175 ?_
  refine X_iinc F dX9_copy_176 rfl (v := (1 : Int32)) rfl (by decide) rfl ?_
  refine X_goto (tgt := 121) F dX9_copy_179 (by decide) ?_
  refine X_pick [2, 3, 4, 5, 6, 7, 8, 0] rfl ?_
  exact hrec121 _ _ _ _ _ _ _ _ h
set_option maxRecDepth 20000 in
theorem F9_copy_l121_bok {p : Program} {l : Launch} {e : Env} {s : State} {m : MethodId} {args : Array Value} {below : List Frame} {meth : Method} {c : Code} {G : GG} {D : Nat} {r : Int32 × Mem} {rec121 : Mem → Int32 → Int32 → Int32 → Int32 → Int32 → Int32 → Int32 → Option (Int32 × Mem)} (F : FrP shB G p s m args c RX9 cX9_copy 9) (hr : meth.sig.returnType = (some .int)) (hlk : meth.locks = false) (hD : 3 ≤ D) (hrec121 : ∀ (M : Mem) (x1 : Int32) (x2 : Int32) (x3 : Int32) (x4 : Int32) (x5 : Int32) (x6 : Int32) (x7 : Int32), rec121 M x1 x2 x3 x4 x5 x6 x7 = some r → XJ shB p l e (rmX D) s m args below meth c 0 0 G 9 (MQ below (QcX shB G ((some (.int r.1), r.2) : Option Value × Mem).1 ((some (.int r.1), r.2) : Option Value × Mem).2) args s 0 0 (AW shB G.2.1)) 121 [(0, .ref 0), (1, .int x1), (2, .int x2), (3, .int x3), (4, .int x4), (5, .int x5), (6, .int x6), (7, .int x7)] [] M) {M : Mem} {x1 : Int32} {x2 : Int32} {x3 : Int32} {x4 : Int32} {x5 : Int32} {x6 : Int32} {x7 : Int32} (h : F9_copy_l121_b rec121 M x1 x2 x3 x4 x5 x6 x7 = some r) : XJ shB p l e (rmX D) s m args below meth c 0 0 G 9 (MQ below (QcX shB G ((some (.int r.1), r.2) : Option Value × Mem).1 ((some (.int r.1), r.2) : Option Value × Mem).2) args s 0 0 (AW shB G.2.1)) 121 [(0, .ref 0), (1, .int x1), (2, .int x2), (3, .int x3), (4, .int x4), (5, .int x5), (6, .int x6), (7, .int x7)] [] M := by
  unfold F9_copy_l121_b at h
  refine X_iload F dX9_copy_121 rfl ?_
  refine X_iload F dX9_copy_123 rfl ?_
  refine X_icmp_ge (tgt := 182) F dX9_copy_125 (by decide) (fun q19 => ?_) (fun q19 => ?_)
  · rw [if_pos q19] at h
    refine X_iload F dX9_copy_182 rfl ?_
    exact X_iret F hr hlk (retI h) dX9_copy_184
  · rw [if_neg q19] at h
    refine X_iload F dX9_copy_128 rfl ?_
    refine X_if_eq (tgt := 143) F dX9_copy_130 (by decide) (fun q20 => ?_) (fun q20 => ?_)
    · rw [if_pos q20] at h
      refine X_iload F dX9_copy_143 rfl ?_
      exact F9_copy_j145_ok F hr hlk hD hrec121 h
    · rw [if_neg q20] at h
      refine X_iload F dX9_copy_133 rfl ?_
      refine X_iconst F dX9_copy_135 (v := (1 : Int32)) rfl ?_
      refine X_isub F dX9_copy_136 ?_
      refine X_iload F dX9_copy_137 rfl ?_
      refine X_isub F dX9_copy_139 ?_
      refine X_goto (tgt := 145) F dX9_copy_140 (by decide) ?_
      exact F9_copy_j145_ok F hr hlk hD hrec121 h
set_option maxRecDepth 20000 in
theorem F9_copy_l121_ok {p : Program} {l : Launch} {e : Env} {s : State} {m : MethodId} {args : Array Value} {below : List Frame} {meth : Method} {c : Code} {G : GG} {D : Nat} {r : Int32 × Mem} (F : FrP shB G p s m args c RX9 cX9_copy 9) (hr : meth.sig.returnType = (some .int)) (hlk : meth.locks = false) (hD : 3 ≤ D) : ∀ (fu : Nat) (M : Mem) (x1 : Int32) (x2 : Int32) (x3 : Int32) (x4 : Int32) (x5 : Int32) (x6 : Int32) (x7 : Int32), F9_copy_l121 fu M x1 x2 x3 x4 x5 x6 x7 = some r → XJ shB p l e (rmX D) s m args below meth c 0 0 G 9 (MQ below (QcX shB G ((some (.int r.1), r.2) : Option Value × Mem).1 ((some (.int r.1), r.2) : Option Value × Mem).2) args s 0 0 (AW shB G.2.1)) 121 [(0, .ref 0), (1, .int x1), (2, .int x2), (3, .int x3), (4, .int x4), (5, .int x5), (6, .int x6), (7, .int x7)] [] M := by
  intro fu
  induction fu with
  | zero => intro M x1 x2 x3 x4 x5 x6 x7 h; cases h
  | succ fu ih => intro M x1 x2 x3 x4 x5 x6 x7 h; exact F9_copy_l121_bok F hr hlk hD (fun M x1 x2 x3 x4 x5 x6 x7 => ih M x1 x2 x3 x4 x5 x6 x7) h
set_option maxRecDepth 20000 in
theorem F9_copy_j116_ok {p : Program} {l : Launch} {e : Env} {s : State} {m : MethodId} {args : Array Value} {below : List Frame} {meth : Method} {c : Code} {G : GG} {D : Nat} {r : Int32 × Mem} (F : FrP shB G p s m args c RX9 cX9_copy 9) (hr : meth.sig.returnType = (some .int)) (hlk : meth.locks = false) (hD : 3 ≤ D) {M : Mem} {x1 : Int32} {x2 : Int32} {x3 : Int32} {x4 : Int32} {x5 : Int32} {y0 : Int32} (h : F9_copy_j116 M x1 x2 x3 x4 x5 y0 = some r) : XJ shB p l e (rmX D) s m args below meth c 0 0 G 9 (MQ below (QcX shB G ((some (.int r.1), r.2) : Option Value × Mem).1 ((some (.int r.1), r.2) : Option Value × Mem).2) args s 0 0 (AW shB G.2.1)) 116 [(0, .ref 0), (1, .int x1), (2, .int x2), (3, .int x3), (4, .int x4), (5, .int x5)] [.int y0] M := by
  unfold F9_copy_j116 at h
  refine X_istore F dX9_copy_116 (by decide) rfl ?_
  refine X_iconst F dX9_copy_118 (v := (0 : Int32)) rfl ?_
  refine X_istore F dX9_copy_119 (by decide) rfl ?_
  refine X_pick [2, 3, 4, 5, 6, 7, 1, 0] rfl ?_
  exact F9_copy_l121_ok F hr hlk hD FUEL _ _ _ _ _ _ _ _ h
set_option maxRecDepth 20000 in
theorem F9_copy_j115_ok {p : Program} {l : Launch} {e : Env} {s : State} {m : MethodId} {args : Array Value} {below : List Frame} {meth : Method} {c : Code} {G : GG} {D : Nat} {r : Int32 × Mem} (F : FrP shB G p s m args c RX9 cX9_copy 9) (hr : meth.sig.returnType = (some .int)) (hlk : meth.locks = false) (hD : 3 ≤ D) {M : Mem} {x1 : Int32} {x2 : Int32} {x3 : Int32} {x4 : Int32} {x5 : Int32} (h : F9_copy_j115 M x1 x2 x3 x4 x5 = some r) : XJ shB p l e (rmX D) s m args below meth c 0 0 G 9 (MQ below (QcX shB G ((some (.int r.1), r.2) : Option Value × Mem).1 ((some (.int r.1), r.2) : Option Value × Mem).2) args s 0 0 (AW shB G.2.1)) 115 [(0, .ref 0), (1, .int x1), (2, .int x2), (3, .int x3), (4, .int x4), (5, .int x5)] [] M := by
  unfold F9_copy_j115 at h
  refine X_iconst F dX9_copy_115 (v := (0 : Int32)) rfl ?_
  exact F9_copy_j116_ok F hr hlk hD h
set_option maxRecDepth 20000 in
theorem F9_copy_ok {p : Program} {l : Launch} {e : Env} {s : State} {m : MethodId} {args : Array Value} {below : List Frame} {meth : Method} {c : Code} {G : GG} {D : Nat} {r : Int32 × Mem} (F : FrP shB G p s m args c RX9 cX9_copy 9) (hr : meth.sig.returnType = (some .int)) (hlk : meth.locks = false) (hD : 3 ≤ D) {M : Mem} {a1 : Int32} {a2 : Int32} {a3 : Int32} {a4 : Int32} {a5 : Int32} (h : F9_copy M a1 a2 a3 a4 a5 = some r) : XJ shB p l e (rmX D) s m args below meth c 0 0 G 9 (MQ below (QcX shB G ((some (.int r.1), r.2) : Option Value × Mem).1 ((some (.int r.1), r.2) : Option Value × Mem).2) args s 0 0 (AW shB G.2.1)) 0 [(0, .ref 0), (1, .int a1), (2, .int a2), (3, .int a3), (4, .int a4), (5, .int a5)] [] M := by
  unfold F9_copy at h
  refine X_iload_n F dX9_copy_0 rfl ?_
  obtain ⟨r1, h2, h⟩ := bndS h
  refine X_callS (As := [.int a1]) (rest := []) F fsRX9_281 feX9_isSheet ftX9_isSheet (F9_isSheet_met (D := D - 1) F.2.2.2.2.2.2.2.1 (by omega) h2) rfl rfl (Nat.le_of_ble_eq_true rfl) (rm_ok (by omega) (by decide)) dX9_copy_1 ?_
  show XJ shB p l e (rmX D) s m args below meth c 0 0 G 9 (MQ below (QcX shB G ((some (.int r.1), r.2) : Option Value × Mem).1 ((some (.int r.1), r.2) : Option Value × Mem).2) args s 0 0 (AW shB G.2.1)) 4 [(0, .ref 0), (1, .int a1), (2, .int a2), (3, .int a3), (4, .int a4), (5, .int a5)] [.int r1.1] r1.2
  refine X_if_eq (tgt := 14) F dX9_copy_4 (by decide) (fun q3 => ?_) (fun q3 => ?_)
  · rw [if_pos q3] at h
    refine X_bipush F dX9_copy_14 (v := (-2 : Int32)) rfl ?_
    exact X_iret F hr hlk (retI h) dX9_copy_16
  · rw [if_neg q3] at h
    refine X_iload_n F dX9_copy_7 rfl ?_
    obtain ⟨r4, h5, h⟩ := bndS h
    refine X_callS (As := [.int a3]) (rest := []) F fsRX9_281 feX9_isSheet ftX9_isSheet (F9_isSheet_met (D := D - 1) F.2.2.2.2.2.2.2.1 (by omega) h5) rfl rfl (Nat.le_of_ble_eq_true rfl) (rm_ok (by omega) (by decide)) dX9_copy_8 ?_
    show XJ shB p l e (rmX D) s m args below meth c 0 0 G 9 (MQ below (QcX shB G ((some (.int r.1), r.2) : Option Value × Mem).1 ((some (.int r.1), r.2) : Option Value × Mem).2) args s 0 0 (AW shB G.2.1)) 11 [(0, .ref 0), (1, .int a1), (2, .int a2), (3, .int a3), (4, .int a4), (5, .int a5)] [.int r4.1] r4.2
    refine X_if_ne (tgt := 17) F dX9_copy_11 (by decide) (fun q6 => ?_) (fun q6 => ?_)
    · rw [if_pos q6] at h
      refine X_aload_n F dX9_copy_17 rfl ?_
      refine X_getr F ffRX9_65 dX9_copy_18 ?_
      refine X_iload_n F dX9_copy_21 rfl ?_
      obtain ⟨q7, h⟩ := ifS h
      refine X_zald (j := (Int32.toNatClampNeg a1)) (v := (r4.2 17 (Int32.toNatClampNeg a1))) F rfl (inbV q7) rfl rfl dX9_copy_22 ?_
      refine X_if_eq (tgt := 35) F dX9_copy_23 (by decide) (fun q8 => ?_) (fun q8 => ?_)
      · rw [if_pos q8] at h
        refine X_bipush F dX9_copy_35 (v := (-11 : Int32)) rfl ?_
        exact X_iret F hr hlk (retI h) dX9_copy_37
      · rw [if_neg q8] at h
        refine X_aload_n F dX9_copy_26 rfl ?_
        refine X_getr F ffRX9_65 dX9_copy_27 ?_
        refine X_iload_n F dX9_copy_30 rfl ?_
        obtain ⟨q9, h⟩ := ifS h
        refine X_zald (j := (Int32.toNatClampNeg a3)) (v := (r4.2 17 (Int32.toNatClampNeg a3))) F rfl (inbV q9) rfl rfl dX9_copy_31 ?_
        refine X_if_ne (tgt := 38) F dX9_copy_32 (by decide) (fun q10 => ?_) (fun q10 => ?_)
        · rw [if_pos q10] at h
          refine X_aload_n F dX9_copy_38 rfl ?_
          refine X_getr F ffRX9_69 dX9_copy_39 ?_
          refine X_iload_n F dX9_copy_42 rfl ?_
          refine X_iald (j := (Int32.toNatClampNeg a1)) (v := (r4.2 18 (Int32.toNatClampNeg a1))) F rfl (inbV q7) rfl rfl dX9_copy_43 ?_
          refine X_aload_n F dX9_copy_44 rfl ?_
          refine X_getr F ffRX9_69 dX9_copy_45 ?_
          refine X_iload_n F dX9_copy_48 rfl ?_
          refine X_iald (j := (Int32.toNatClampNeg a3)) (v := (r4.2 18 (Int32.toNatClampNeg a3))) F rfl (inbV q9) rfl rfl dX9_copy_49 ?_
          refine X_icmp_eq (tgt := 56) F dX9_copy_50 (by decide) (fun q11 => ?_) (fun q11 => ?_)
          · rw [if_pos q11] at h
            refine X_iload F dX9_copy_56 rfl ?_
            refine X_if_lt (tgt := 97) F dX9_copy_58 (by decide) (fun q12 => ?_) (fun q12 => ?_)
            · rw [if_pos q12] at h
              refine X_bipush F dX9_copy_97 (v := (-12 : Int32)) rfl ?_
              exact X_iret F hr hlk (retI h) dX9_copy_99
            · rw [if_neg q12] at h
              refine X_iload_n F dX9_copy_61 rfl ?_
              refine X_if_lt (tgt := 97) F dX9_copy_62 (by decide) (fun q13 => ?_) (fun q13 => ?_)
              · rw [if_pos q13] at h
                refine X_bipush F dX9_copy_97 (v := (-12 : Int32)) rfl ?_
                exact X_iret F hr hlk (retI h) dX9_copy_99
              · rw [if_neg q13] at h
                refine X_iload F dX9_copy_65 rfl ?_
                refine X_if_lt (tgt := 97) F dX9_copy_67 (by decide) (fun q14 => ?_) (fun q14 => ?_)
                · rw [if_pos q14] at h
                  refine X_bipush F dX9_copy_97 (v := (-12 : Int32)) rfl ?_
                  exact X_iret F hr hlk (retI h) dX9_copy_99
                · rw [if_neg q14] at h
                  refine X_iload_n F dX9_copy_70 rfl ?_
                  refine X_aload_n F dX9_copy_71 rfl ?_
                  refine X_getr F ffRX9_72 dX9_copy_72 ?_
                  refine X_iload_n F dX9_copy_75 rfl ?_
                  refine X_iald (j := (Int32.toNatClampNeg a1)) (v := (r4.2 19 (Int32.toNatClampNeg a1))) F rfl (inbV q7) rfl rfl dX9_copy_76 ?_
                  refine X_iload F dX9_copy_77 rfl ?_
                  refine X_isub F dX9_copy_79 ?_
                  refine X_icmp_gt (tgt := 97) F dX9_copy_80 (by decide) (fun q15 => ?_) (fun q15 => ?_)
                  · rw [if_pos q15] at h
                    refine X_bipush F dX9_copy_97 (v := (-12 : Int32)) rfl ?_
                    exact X_iret F hr hlk (retI h) dX9_copy_99
                  · rw [if_neg q15] at h
                    refine X_iload F dX9_copy_83 rfl ?_
                    refine X_aload_n F dX9_copy_85 rfl ?_
                    refine X_getr F ffRX9_72 dX9_copy_86 ?_
                    refine X_iload_n F dX9_copy_89 rfl ?_
                    refine X_iald (j := (Int32.toNatClampNeg a3)) (v := (r4.2 19 (Int32.toNatClampNeg a3))) F rfl (inbV q9) rfl rfl dX9_copy_90 ?_
                    refine X_iload F dX9_copy_91 rfl ?_
                    refine X_isub F dX9_copy_93 ?_
                    refine X_icmp_le (tgt := 100) F dX9_copy_94 (by decide) (fun q16 => ?_) (fun q16 => ?_)
                    · rw [if_pos q16] at h
                      refine X_iload_n F dX9_copy_100 rfl ?_
                      refine X_iload_n F dX9_copy_101 rfl ?_
                      refine X_icmp_ne (tgt := 115) F dX9_copy_102 (by decide) (fun q17 => ?_) (fun q17 => ?_)
                      · rw [if_pos q17] at h
                        exact F9_copy_j115_ok F hr hlk hD h
                      · rw [if_neg (fun z => z q17)] at h
                        refine X_iload_n F dX9_copy_105 rfl ?_
                        refine X_iload F dX9_copy_106 rfl ?_
                        refine X_icmp_ge (tgt := 115) F dX9_copy_108 (by decide) (fun q18 => ?_) (fun q18 => ?_)
                        · rw [if_pos q18] at h
                          exact F9_copy_j115_ok F hr hlk hD h
                        · rw [if_neg q18] at h
                          refine X_iconst F dX9_copy_111 (v := (1 : Int32)) rfl ?_
                          refine X_goto (tgt := 116) F dX9_copy_112 (by decide) ?_
                          exact F9_copy_j116_ok F hr hlk hD h
                    · rw [if_neg q16] at h
                      refine X_bipush F dX9_copy_97 (v := (-12 : Int32)) rfl ?_
                      exact X_iret F hr hlk (retI h) dX9_copy_99
          · rw [if_neg q11] at h
            refine X_bipush F dX9_copy_53 (v := (-13 : Int32)) rfl ?_
            exact X_iret F hr hlk (retI h) dX9_copy_55
        · rw [if_neg (fun z => z q10)] at h
          refine X_bipush F dX9_copy_35 (v := (-11 : Int32)) rfl ?_
          exact X_iret F hr hlk (retI h) dX9_copy_37
    · rw [if_neg (fun z => z q6)] at h
      refine X_bipush F dX9_copy_14 (v := (-2 : Int32)) rfl ?_
      exact X_iret F hr hlk (retI h) dX9_copy_16
set_option maxRecDepth 20000 in
theorem F9_copy_met {l : Launch} {G : GG} {D : Nat} {r : Int32 × Mem} {M : Mem} {a1 : Int32} {a2 : Int32} {a3 : Int32} {a4 : Int32} {a5 : Int32} (hI : Inj shB G.2.1) (hD : 3 ≤ D) (h : F9_copy M a1 a2 a3 a4 a5 = some r) : MetX shB l G yX9_copy cX9_copy 9 (some .int) D [.ref 0, .int a1, .int a2, .int a3, .int a4, .int a5] M (some (.int r.1), r.2) :=
  X_met hI (by decide +kernel) (Nat.le_of_ble_eq_true rfl) (fun p e s m args below meth c F hr hlk => F9_copy_ok F hr hlk hD h)
-- KeepOurPlaceModel.customers
def F9_customers_j149 (rec75 : Mem → Int32 → Int32 → Int32 → Int32 → Int32 → Option (Int32 × Mem)) (M : Mem) (x1 : Int32) (x3 : Int32) (x4 : Int32) (x6 : Int32) (y0 : Int32) (y1 : Int32) : Option (Int32 × Mem) :=
    rec75 M x1 x3 x4 (y1 + y0) (x6 + (1 : Int32))
def F9_customers_l75_b (rec75 : Mem → Int32 → Int32 → Int32 → Int32 → Int32 → Option (Int32 × Mem)) (M : Mem) (x1 : Int32) (x3 : Int32) (x4 : Int32) (x5 : Int32) (x6 : Int32) : Option (Int32 × Mem) :=
    if x4 ≤ x6 then
      some (x5, M)
    else
      if x3 < 0 then
        some ((-12 : Int32), M)
      else
        if inb x1 4 = true then
        if x3 ≤ (((M 19 (Int32.toNatClampNeg x1)) - ((2 : Int32) * x6)) - (2 : Int32)) then
          if inb ((((40 : Int32) * x1) + x3) + ((2 : Int32) * x6)) 160 = true then
          if inb (((((40 : Int32) * x1) + x3) + ((2 : Int32) * x6)) + (1 : Int32)) 160 = true then
          Option.bind (F9_customer M (M 20 (Int32.toNatClampNeg ((((40 : Int32) * x1) + x3) + ((2 : Int32) * x6)))) (M 20 (Int32.toNatClampNeg (((((40 : Int32) * x1) + x3) + ((2 : Int32) * x6)) + (1 : Int32))))) fun r21 =>
          if r21.1 < 0 then
            F9_customers_j149 rec75 r21.2 x1 x3 x4 x6 (0 : Int32) x5
          else
            F9_customers_j149 rec75 r21.2 x1 x3 x4 x6 (1 : Int32) x5
          else none
          else none
        else
          some ((-12 : Int32), M)
        else none
def F9_customers_l75 : Nat → Mem → Int32 → Int32 → Int32 → Int32 → Int32 → Option (Int32 × Mem)
  | 0, _, _, _, _, _, _ => none
  | fu + 1, M, x1, x3, x4, x5, x6 => F9_customers_l75_b (F9_customers_l75 fu) M x1 x3 x4 x5 x6
def F9_customers_j57 (M : Mem) (x1 : Int32) (x3 : Int32) (x4 : Int32) : Option (Int32 × Mem) :=
    if inb x1 4 = true then
    if ¬ (M 17 (Int32.toNatClampNeg x1)) = 0 then
      F9_customers_l75 FUEL M x1 x3 x4 (0 : Int32) (0 : Int32)
    else
      some ((-11 : Int32), M)
    else none
def F9_customers (M : Mem) (a1 : Int32) (a2 : Int32) (a3 : Int32) (a4 : Int32) : Option (Int32 × Mem) :=
    Option.bind (F9_isSheet M a1) fun r1 =>
    if r1.1 = 0 then
      some ((-2 : Int32), r1.2)
    else
      Option.bind (F9_in r1.2 (Int32.toInt64 a2) (0 : Int64) (2 : Int64)) fun r4 =>
      if r4.1 = 0 then
        some ((-2 : Int32), r4.2)
      else
        Option.bind (F9_in r4.2 (Int32.toInt64 a4) (0 : Int64) (8 : Int64)) fun r7 =>
        if ¬ r7.1 = 0 then
          if inb a1 4 = true then
          if (r7.2 17 (Int32.toNatClampNeg a1)) = 0 then
            F9_customers_j57 r7.2 a1 a3 a4
          else
            if (r7.2 18 (Int32.toNatClampNeg a1)) = a2 then
              F9_customers_j57 r7.2 a1 a3 a4
            else
              some ((-13 : Int32), r7.2)
          else none
        else
          some ((-2 : Int32), r7.2)
set_option maxRecDepth 20000 in
theorem F9_customers_j149_ok {p : Program} {l : Launch} {e : Env} {s : State} {m : MethodId} {args : Array Value} {below : List Frame} {meth : Method} {c : Code} {G : GG} {D : Nat} {r : Int32 × Mem} {rec75 : Mem → Int32 → Int32 → Int32 → Int32 → Int32 → Option (Int32 × Mem)} (F : FrP shB G p s m args c RX9 cX9_customers 8) (hr : meth.sig.returnType = (some .int)) (hlk : meth.locks = false) (hD : 3 ≤ D) (hrec75 : ∀ (M : Mem) (x1 : Int32) (x3 : Int32) (x4 : Int32) (x5 : Int32) (x6 : Int32), rec75 M x1 x3 x4 x5 x6 = some r → XJ shB p l e (rmX D) s m args below meth c 0 0 G 8 (MQ below (QcX shB G ((some (.int r.1), r.2) : Option Value × Mem).1 ((some (.int r.1), r.2) : Option Value × Mem).2) args s 0 0 (AW shB G.2.1)) 75 [(0, .ref 0), (1, .int x1), (3, .int x3), (4, .int x4), (5, .int x5), (6, .int x6)] [] M) {M : Mem} {x1 : Int32} {x3 : Int32} {x4 : Int32} {x6 : Int32} {y0 : Int32} {y1 : Int32} (h : F9_customers_j149 rec75 M x1 x3 x4 x6 y0 y1 = some r) : XJ shB p l e (rmX D) s m args below meth c 0 0 G 8 (MQ below (QcX shB G ((some (.int r.1), r.2) : Option Value × Mem).1 ((some (.int r.1), r.2) : Option Value × Mem).2) args s 0 0 (AW shB G.2.1)) 149 [(0, .ref 0), (1, .int x1), (3, .int x3), (4, .int x4), (6, .int x6)] [.int y0, .int y1] M := by
  unfold F9_customers_j149 at h
  refine X_iadd F dX9_customers_149 ?_
  refine X_istore F dX9_customers_150 (by decide) rfl ?_
  refine X_iinc F dX9_customers_152 rfl (v := (1 : Int32)) rfl (by decide) rfl ?_
  refine X_goto (tgt := 75) F dX9_customers_155 (by decide) ?_
  refine X_pick [2, 3, 4, 5, 1, 0] rfl ?_
  exact hrec75 _ _ _ _ _ _ h
set_option maxRecDepth 20000 in
theorem F9_customers_l75_bok {p : Program} {l : Launch} {e : Env} {s : State} {m : MethodId} {args : Array Value} {below : List Frame} {meth : Method} {c : Code} {G : GG} {D : Nat} {r : Int32 × Mem} {rec75 : Mem → Int32 → Int32 → Int32 → Int32 → Int32 → Option (Int32 × Mem)} (F : FrP shB G p s m args c RX9 cX9_customers 8) (hr : meth.sig.returnType = (some .int)) (hlk : meth.locks = false) (hD : 3 ≤ D) (hrec75 : ∀ (M : Mem) (x1 : Int32) (x3 : Int32) (x4 : Int32) (x5 : Int32) (x6 : Int32), rec75 M x1 x3 x4 x5 x6 = some r → XJ shB p l e (rmX D) s m args below meth c 0 0 G 8 (MQ below (QcX shB G ((some (.int r.1), r.2) : Option Value × Mem).1 ((some (.int r.1), r.2) : Option Value × Mem).2) args s 0 0 (AW shB G.2.1)) 75 [(0, .ref 0), (1, .int x1), (3, .int x3), (4, .int x4), (5, .int x5), (6, .int x6)] [] M) {M : Mem} {x1 : Int32} {x3 : Int32} {x4 : Int32} {x5 : Int32} {x6 : Int32} (h : F9_customers_l75_b rec75 M x1 x3 x4 x5 x6 = some r) : XJ shB p l e (rmX D) s m args below meth c 0 0 G 8 (MQ below (QcX shB G ((some (.int r.1), r.2) : Option Value × Mem).1 ((some (.int r.1), r.2) : Option Value × Mem).2) args s 0 0 (AW shB G.2.1)) 75 [(0, .ref 0), (1, .int x1), (3, .int x3), (4, .int x4), (5, .int x5), (6, .int x6)] [] M := by
  unfold F9_customers_l75_b at h
  refine X_iload F dX9_customers_75 rfl ?_
  refine X_iload F dX9_customers_77 rfl ?_
  refine X_icmp_ge (tgt := 158) F dX9_customers_79 (by decide) (fun q15 => ?_) (fun q15 => ?_)
  · rw [if_pos q15] at h
    refine X_iload F dX9_customers_158 rfl ?_
    exact X_iret F hr hlk (retI h) dX9_customers_160
  · rw [if_neg q15] at h
    refine X_iload_n F dX9_customers_82 rfl ?_
    refine X_if_lt (tgt := 103) F dX9_customers_83 (by decide) (fun q16 => ?_) (fun q16 => ?_)
    · rw [if_pos q16] at h
      refine X_bipush F dX9_customers_103 (v := (-12 : Int32)) rfl ?_
      exact X_iret F hr hlk (retI h) dX9_customers_105
    · rw [if_neg q16] at h
      refine X_iload_n F dX9_customers_86 rfl ?_
      refine X_aload_n F dX9_customers_87 rfl ?_
      refine X_getr F ffRX9_72 dX9_customers_88 ?_
      refine X_iload_n F dX9_customers_91 rfl ?_
      obtain ⟨q17, h⟩ := ifS h
      refine X_iald (j := (Int32.toNatClampNeg x1)) (v := (M 19 (Int32.toNatClampNeg x1))) F rfl (inbV q17) rfl rfl dX9_customers_92 ?_
      refine X_iconst F dX9_customers_93 (v := (2 : Int32)) rfl ?_
      refine X_iload F dX9_customers_94 rfl ?_
      refine X_imul F dX9_customers_96 ?_
      refine X_isub F dX9_customers_97 ?_
      refine X_iconst F dX9_customers_98 (v := (2 : Int32)) rfl ?_
      refine X_isub F dX9_customers_99 ?_
      refine X_icmp_le (tgt := 106) F dX9_customers_100 (by decide) (fun q18 => ?_) (fun q18 => ?_)
      · rw [if_pos q18] at h
        refine X_bipush F dX9_customers_106 (v := (40 : Int32)) rfl ?_
        refine X_iload_n F dX9_customers_108 rfl ?_
        refine X_imul F dX9_customers_109 ?_
        refine X_iload_n F dX9_customers_110 rfl ?_
        refine X_iadd F dX9_customers_111 ?_
        refine X_iconst F dX9_customers_112 (v := (2 : Int32)) rfl ?_
        refine X_iload F dX9_customers_113 rfl ?_
        refine X_imul F dX9_customers_115 ?_
        refine X_iadd F dX9_customers_116 ?_
        refine X_istore F dX9_customers_117 (by decide) rfl ?_
        refine X_iload F dX9_customers_119 rfl ?_
        refine X_aload_n F dX9_customers_121 rfl ?_
        refine X_aload_n F dX9_customers_122 rfl ?_
        refine X_getr F ffRX9_75 dX9_customers_123 ?_
        refine X_iload F dX9_customers_126 rfl ?_
        obtain ⟨q19, h⟩ := ifS h
        refine X_iald (j := (Int32.toNatClampNeg ((((40 : Int32) * x1) + x3) + ((2 : Int32) * x6)))) (v := (M 20 (Int32.toNatClampNeg ((((40 : Int32) * x1) + x3) + ((2 : Int32) * x6))))) F rfl (inbV q19) rfl rfl dX9_customers_128 ?_
        refine X_aload_n F dX9_customers_129 rfl ?_
        refine X_getr F ffRX9_75 dX9_customers_130 ?_
        refine X_iload F dX9_customers_133 rfl ?_
        refine X_iconst F dX9_customers_135 (v := (1 : Int32)) rfl ?_
        refine X_iadd F dX9_customers_136 ?_
        obtain ⟨q20, h⟩ := ifS h
        refine X_iald (j := (Int32.toNatClampNeg (((((40 : Int32) * x1) + x3) + ((2 : Int32) * x6)) + (1 : Int32)))) (v := (M 20 (Int32.toNatClampNeg (((((40 : Int32) * x1) + x3) + ((2 : Int32) * x6)) + (1 : Int32))))) F rfl (inbV q20) rfl rfl dX9_customers_137 ?_
        obtain ⟨r21, h22, h⟩ := bndS h
        refine X_callV (ci := 0) (As := [.int (M 20 (Int32.toNatClampNeg ((((40 : Int32) * x1) + x3) + ((2 : Int32) * x6)))), .int (M 20 (Int32.toNatClampNeg (((((40 : Int32) * x1) + x3) + ((2 : Int32) * x6)) + (1 : Int32))))]) (rest := [.int x5]) F fkRX9_371 feX9_customer fvX9_customer ⟨_, _, _, rfl, rfl, rfl⟩ (F9_customer_met (D := D - 1) F.2.2.2.2.2.2.2.1 (by omega) h22) rfl rfl (Nat.le_of_ble_eq_true rfl) (rm_ok (by omega) (by decide)) dX9_customers_138 ?_
        show XJ shB p l e (rmX D) s m args below meth c 0 0 G 8 (MQ below (QcX shB G ((some (.int r.1), r.2) : Option Value × Mem).1 ((some (.int r.1), r.2) : Option Value × Mem).2) args s 0 0 (AW shB G.2.1)) 141 [(7, .int ((((40 : Int32) * x1) + x3) + ((2 : Int32) * x6))), (0, .ref 0), (1, .int x1), (3, .int x3), (4, .int x4), (5, .int x5), (6, .int x6)] [.int r21.1, .int x5] r21.2
        refine X_if_lt (tgt := 148) F dX9_customers_141 (by decide) (fun q23 => ?_) (fun q23 => ?_)
        · rw [if_pos q23] at h
          refine X_iconst F dX9_customers_148 (v := (0 : Int32)) rfl ?_
          refine X_pick [1, 2, 3, 4, 6] rfl ?_
          exact F9_customers_j149_ok F hr hlk hD hrec75 h
        · rw [if_neg q23] at h
          refine X_iconst F dX9_customers_144 (v := (1 : Int32)) rfl ?_
          refine X_goto (tgt := 149) F dX9_customers_145 (by decide) ?_
          refine X_pick [1, 2, 3, 4, 6] rfl ?_
          exact F9_customers_j149_ok F hr hlk hD hrec75 h
      · rw [if_neg q18] at h
        refine X_bipush F dX9_customers_103 (v := (-12 : Int32)) rfl ?_
        exact X_iret F hr hlk (retI h) dX9_customers_105
set_option maxRecDepth 20000 in
theorem F9_customers_l75_ok {p : Program} {l : Launch} {e : Env} {s : State} {m : MethodId} {args : Array Value} {below : List Frame} {meth : Method} {c : Code} {G : GG} {D : Nat} {r : Int32 × Mem} (F : FrP shB G p s m args c RX9 cX9_customers 8) (hr : meth.sig.returnType = (some .int)) (hlk : meth.locks = false) (hD : 3 ≤ D) : ∀ (fu : Nat) (M : Mem) (x1 : Int32) (x3 : Int32) (x4 : Int32) (x5 : Int32) (x6 : Int32), F9_customers_l75 fu M x1 x3 x4 x5 x6 = some r → XJ shB p l e (rmX D) s m args below meth c 0 0 G 8 (MQ below (QcX shB G ((some (.int r.1), r.2) : Option Value × Mem).1 ((some (.int r.1), r.2) : Option Value × Mem).2) args s 0 0 (AW shB G.2.1)) 75 [(0, .ref 0), (1, .int x1), (3, .int x3), (4, .int x4), (5, .int x5), (6, .int x6)] [] M := by
  intro fu
  induction fu with
  | zero => intro M x1 x3 x4 x5 x6 h; cases h
  | succ fu ih => intro M x1 x3 x4 x5 x6 h; exact F9_customers_l75_bok F hr hlk hD (fun M x1 x3 x4 x5 x6 => ih M x1 x3 x4 x5 x6) h
set_option maxRecDepth 20000 in
theorem F9_customers_j57_ok {p : Program} {l : Launch} {e : Env} {s : State} {m : MethodId} {args : Array Value} {below : List Frame} {meth : Method} {c : Code} {G : GG} {D : Nat} {r : Int32 × Mem} (F : FrP shB G p s m args c RX9 cX9_customers 8) (hr : meth.sig.returnType = (some .int)) (hlk : meth.locks = false) (hD : 3 ≤ D) {M : Mem} {x1 : Int32} {x3 : Int32} {x4 : Int32} (h : F9_customers_j57 M x1 x3 x4 = some r) : XJ shB p l e (rmX D) s m args below meth c 0 0 G 8 (MQ below (QcX shB G ((some (.int r.1), r.2) : Option Value × Mem).1 ((some (.int r.1), r.2) : Option Value × Mem).2) args s 0 0 (AW shB G.2.1)) 57 [(0, .ref 0), (1, .int x1), (3, .int x3), (4, .int x4)] [] M := by
  unfold F9_customers_j57 at h
  refine X_aload_n F dX9_customers_57 rfl ?_
  refine X_getr F ffRX9_65 dX9_customers_58 ?_
  refine X_iload_n F dX9_customers_61 rfl ?_
  obtain ⟨q13, h⟩ := ifS h
  refine X_zald (j := (Int32.toNatClampNeg x1)) (v := (M 17 (Int32.toNatClampNeg x1))) F rfl (inbV q13) rfl rfl dX9_customers_62 ?_
  refine X_if_ne (tgt := 69) F dX9_customers_63 (by decide) (fun q14 => ?_) (fun q14 => ?_)
  · rw [if_pos q14] at h
    refine X_iconst F dX9_customers_69 (v := (0 : Int32)) rfl ?_
    refine X_istore F dX9_customers_70 (by decide) rfl ?_
    refine X_iconst F dX9_customers_72 (v := (0 : Int32)) rfl ?_
    refine X_istore F dX9_customers_73 (by decide) rfl ?_
    refine X_pick [2, 3, 4, 5, 1, 0] rfl ?_
    exact F9_customers_l75_ok F hr hlk hD FUEL _ _ _ _ _ _ h
  · rw [if_neg (fun z => z q14)] at h
    refine X_bipush F dX9_customers_66 (v := (-11 : Int32)) rfl ?_
    exact X_iret F hr hlk (retI h) dX9_customers_68
set_option maxRecDepth 20000 in
theorem F9_customers_ok {p : Program} {l : Launch} {e : Env} {s : State} {m : MethodId} {args : Array Value} {below : List Frame} {meth : Method} {c : Code} {G : GG} {D : Nat} {r : Int32 × Mem} (F : FrP shB G p s m args c RX9 cX9_customers 8) (hr : meth.sig.returnType = (some .int)) (hlk : meth.locks = false) (hD : 3 ≤ D) {M : Mem} {a1 : Int32} {a2 : Int32} {a3 : Int32} {a4 : Int32} (h : F9_customers M a1 a2 a3 a4 = some r) : XJ shB p l e (rmX D) s m args below meth c 0 0 G 8 (MQ below (QcX shB G ((some (.int r.1), r.2) : Option Value × Mem).1 ((some (.int r.1), r.2) : Option Value × Mem).2) args s 0 0 (AW shB G.2.1)) 0 [(0, .ref 0), (1, .int a1), (2, .int a2), (3, .int a3), (4, .int a4)] [] M := by
  unfold F9_customers at h
  refine X_iload_n F dX9_customers_0 rfl ?_
  obtain ⟨r1, h2, h⟩ := bndS h
  refine X_callS (As := [.int a1]) (rest := []) F fsRX9_281 feX9_isSheet ftX9_isSheet (F9_isSheet_met (D := D - 1) F.2.2.2.2.2.2.2.1 (by omega) h2) rfl rfl (Nat.le_of_ble_eq_true rfl) (rm_ok (by omega) (by decide)) dX9_customers_1 ?_
  show XJ shB p l e (rmX D) s m args below meth c 0 0 G 8 (MQ below (QcX shB G ((some (.int r.1), r.2) : Option Value × Mem).1 ((some (.int r.1), r.2) : Option Value × Mem).2) args s 0 0 (AW shB G.2.1)) 4 [(0, .ref 0), (1, .int a1), (2, .int a2), (3, .int a3), (4, .int a4)] [.int r1.1] r1.2
  refine X_if_eq (tgt := 32) F dX9_customers_4 (by decide) (fun q3 => ?_) (fun q3 => ?_)
  · rw [if_pos q3] at h
    refine X_bipush F dX9_customers_32 (v := (-2 : Int32)) rfl ?_
    exact X_iret F hr hlk (retI h) dX9_customers_34
  · rw [if_neg q3] at h
    refine X_iload_n F dX9_customers_7 rfl ?_
    refine X_i2l F dX9_customers_8 ?_
    refine X_lconst F dX9_customers_9 (v := (0 : Int64)) rfl ?_
    refine X_ldc2 F fcRX9_103 dX9_customers_10 ?_
    obtain ⟨r4, h5, h⟩ := bndS h
    refine X_callS (As := [.long (Int32.toInt64 a2), .long (0 : Int64), .long (2 : Int64)]) (rest := []) F fsRX9_88 feX9_in ftX9_in (F9_in_met (D := D - 1) F.2.2.2.2.2.2.2.1 (by omega) h5) rfl rfl (Nat.le_of_ble_eq_true rfl) (rm_ok (by omega) (by decide)) dX9_customers_13 ?_
    show XJ shB p l e (rmX D) s m args below meth c 0 0 G 8 (MQ below (QcX shB G ((some (.int r.1), r.2) : Option Value × Mem).1 ((some (.int r.1), r.2) : Option Value × Mem).2) args s 0 0 (AW shB G.2.1)) 16 [(0, .ref 0), (1, .int a1), (2, .int a2), (3, .int a3), (4, .int a4)] [.int r4.1] r4.2
    refine X_if_eq (tgt := 32) F dX9_customers_16 (by decide) (fun q6 => ?_) (fun q6 => ?_)
    · rw [if_pos q6] at h
      refine X_bipush F dX9_customers_32 (v := (-2 : Int32)) rfl ?_
      exact X_iret F hr hlk (retI h) dX9_customers_34
    · rw [if_neg q6] at h
      refine X_iload F dX9_customers_19 rfl ?_
      refine X_i2l F dX9_customers_21 ?_
      refine X_lconst F dX9_customers_22 (v := (0 : Int64)) rfl ?_
      refine X_ldc2 F fcRX9_369 dX9_customers_23 ?_
      obtain ⟨r7, h8, h⟩ := bndS h
      refine X_callS (As := [.long (Int32.toInt64 a4), .long (0 : Int64), .long (8 : Int64)]) (rest := []) F fsRX9_88 feX9_in ftX9_in (F9_in_met (D := D - 1) F.2.2.2.2.2.2.2.1 (by omega) h8) rfl rfl (Nat.le_of_ble_eq_true rfl) (rm_ok (by omega) (by decide)) dX9_customers_26 ?_
      show XJ shB p l e (rmX D) s m args below meth c 0 0 G 8 (MQ below (QcX shB G ((some (.int r.1), r.2) : Option Value × Mem).1 ((some (.int r.1), r.2) : Option Value × Mem).2) args s 0 0 (AW shB G.2.1)) 29 [(0, .ref 0), (1, .int a1), (2, .int a2), (3, .int a3), (4, .int a4)] [.int r7.1] r7.2
      refine X_if_ne (tgt := 35) F dX9_customers_29 (by decide) (fun q9 => ?_) (fun q9 => ?_)
      · rw [if_pos q9] at h
        refine X_aload_n F dX9_customers_35 rfl ?_
        refine X_getr F ffRX9_65 dX9_customers_36 ?_
        refine X_iload_n F dX9_customers_39 rfl ?_
        obtain ⟨q10, h⟩ := ifS h
        refine X_zald (j := (Int32.toNatClampNeg a1)) (v := (r7.2 17 (Int32.toNatClampNeg a1))) F rfl (inbV q10) rfl rfl dX9_customers_40 ?_
        refine X_if_eq (tgt := 57) F dX9_customers_41 (by decide) (fun q11 => ?_) (fun q11 => ?_)
        · rw [if_pos q11] at h
          refine X_pick [0, 1, 3, 4] rfl ?_
          exact F9_customers_j57_ok F hr hlk hD h
        · rw [if_neg q11] at h
          refine X_aload_n F dX9_customers_44 rfl ?_
          refine X_getr F ffRX9_69 dX9_customers_45 ?_
          refine X_iload_n F dX9_customers_48 rfl ?_
          refine X_iald (j := (Int32.toNatClampNeg a1)) (v := (r7.2 18 (Int32.toNatClampNeg a1))) F rfl (inbV q10) rfl rfl dX9_customers_49 ?_
          refine X_iload_n F dX9_customers_50 rfl ?_
          refine X_icmp_eq (tgt := 57) F dX9_customers_51 (by decide) (fun q12 => ?_) (fun q12 => ?_)
          · rw [if_pos q12] at h
            refine X_pick [0, 1, 3, 4] rfl ?_
            exact F9_customers_j57_ok F hr hlk hD h
          · rw [if_neg q12] at h
            refine X_bipush F dX9_customers_54 (v := (-13 : Int32)) rfl ?_
            exact X_iret F hr hlk (retI h) dX9_customers_56
      · rw [if_neg (fun z => z q9)] at h
        refine X_bipush F dX9_customers_32 (v := (-2 : Int32)) rfl ?_
        exact X_iret F hr hlk (retI h) dX9_customers_34
set_option maxRecDepth 20000 in
theorem F9_customers_met {l : Launch} {G : GG} {D : Nat} {r : Int32 × Mem} {M : Mem} {a1 : Int32} {a2 : Int32} {a3 : Int32} {a4 : Int32} (hI : Inj shB G.2.1) (hD : 3 ≤ D) (h : F9_customers M a1 a2 a3 a4 = some r) : MetX shB l G yX9_customers cX9_customers 8 (some .int) D [.ref 0, .int a1, .int a2, .int a3, .int a4] M (some (.int r.1), r.2) :=
  X_met hI (by decide +kernel) (Nat.le_of_ble_eq_true rfl) (fun p e s m args below meth c F hr hlk => F9_customers_ok F hr hlk hD h)
-- KeepOurPlaceModel.over
def F9_over (M : Mem) (a0 : Int32) : Option (Int32 × Mem) :=
    if ¬ a0 = 0 then
      if ¬ a0 = (3 : Int32) then
        if ¬ a0 = (4 : Int32) then
          some ((0 : Int32), M)
        else
          some ((2 : Int32), M)
      else
        some ((1 : Int32), M)
    else
      some ((-1 : Int32), M)
set_option maxRecDepth 20000 in
theorem F9_over_ok {p : Program} {l : Launch} {e : Env} {s : State} {m : MethodId} {args : Array Value} {below : List Frame} {meth : Method} {c : Code} {G : GG} {D : Nat} {r : Int32 × Mem} (F : FrP shB G p s m args c RX9 cX9_over 1) (hr : meth.sig.returnType = (some .int)) (hlk : meth.locks = false) (hD : 1 ≤ D) {M : Mem} {a0 : Int32} (h : F9_over M a0 = some r) : XJ shB p l e (rmX D) s m args below meth c 0 0 G 1 (MQ below (QcX shB G ((some (.int r.1), r.2) : Option Value × Mem).1 ((some (.int r.1), r.2) : Option Value × Mem).2) args s 0 0 (AW shB G.2.1)) 0 [(0, .int a0)] [] M := by
  unfold F9_over at h
  refine X_iload_n F dX9_over_0 rfl ?_
  refine X_if_ne (tgt := 8) F dX9_over_1 (by decide) (fun q1 => ?_) (fun q1 => ?_)
  · rw [if_pos q1] at h
    refine X_iload_n F dX9_over_8 rfl ?_
    refine X_iconst F dX9_over_9 (v := (3 : Int32)) rfl ?_
    refine X_icmp_ne (tgt := 17) F dX9_over_10 (by decide) (fun q2 => ?_) (fun q2 => ?_)
    · rw [if_pos q2] at h
      refine X_iload_n F dX9_over_17 rfl ?_
      refine X_iconst F dX9_over_18 (v := (4 : Int32)) rfl ?_
      refine X_icmp_ne (tgt := 26) F dX9_over_19 (by decide) (fun q3 => ?_) (fun q3 => ?_)
      · rw [if_pos q3] at h
        refine X_iconst F dX9_over_26 (v := (0 : Int32)) rfl ?_
        exact X_iret F hr hlk (retI h) dX9_over_27
      · rw [if_neg (fun z => z q3)] at h
        refine X_iconst F dX9_over_22 (v := (2 : Int32)) rfl ?_
        refine X_goto (tgt := 27) F dX9_over_23 (by decide) ?_
        exact X_iret F hr hlk (retI h) dX9_over_27
    · rw [if_neg (fun z => z q2)] at h
      refine X_iconst F dX9_over_13 (v := (1 : Int32)) rfl ?_
      refine X_goto (tgt := 27) F dX9_over_14 (by decide) ?_
      exact X_iret F hr hlk (retI h) dX9_over_27
  · rw [if_neg (fun z => z q1)] at h
    refine X_iconst F dX9_over_4 (v := (-1 : Int32)) rfl ?_
    refine X_goto (tgt := 27) F dX9_over_5 (by decide) ?_
    exact X_iret F hr hlk (retI h) dX9_over_27
set_option maxRecDepth 20000 in
theorem F9_over_met {l : Launch} {G : GG} {D : Nat} {r : Int32 × Mem} {M : Mem} {a0 : Int32} (hI : Inj shB G.2.1) (hD : 1 ≤ D) (h : F9_over M a0 = some r) : MetX shB l G yX9_over cX9_over 1 (some .int) D [.int a0] M (some (.int r.1), r.2) :=
  X_met hI (by decide +kernel) (Nat.le_of_ble_eq_true rfl) (fun p e s m args below meth c F hr hlk => F9_over_ok F hr hlk hD h)
