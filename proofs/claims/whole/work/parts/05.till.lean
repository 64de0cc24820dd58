/-! written by wip/whole/gen: the pure functions of these methods, read off their bytecode, and the walks that prove them -/
theorem ffRX4_32 : FLT shA RX4 16 4 32 5 (.int 0) := ⟨⟨RX4, TX4, 7, rfl, by decide, wsIn4, Or.inl (tmem 162 (by decide +kernel) rfl)⟩, _, rfl, rfl⟩
theorem ffRX4_36 : FLT shA RX4 9 3 36 9 (.ref 14) := ⟨⟨RX3, TX3, 12, rfl, by decide, wsIn3, Or.inr ⟨"KeepOurPlace", nmem 120 (by decide +kernel) rfl⟩⟩, _, rfl, rfl⟩
theorem ffRX4_11 : FLT shA RX4 16 4 11 1 (.ref 17) := ⟨⟨RX4, TX4, 7, rfl, by decide, wsIn4, Or.inl (tmem 158 (by decide +kernel) rfl)⟩, _, rfl, rfl⟩
theorem fmRX4_39 : Cond.methodLink RX4 39 arraycopyName ∈ TBL := tmem 525 (by decide +kernel) rfl
theorem ffRX4_45 : FLT shA RX4 9 3 45 11 (.ref 15) := ⟨⟨RX3, TX3, 12, rfl, by decide, wsIn3, Or.inr ⟨"KeepOurPlace", nmem 123 (by decide +kernel) rfl⟩⟩, _, rfl, rfl⟩
theorem ffRX4_16 : FLT shA RX4 16 4 16 2 (.ref 24) := ⟨⟨RX4, TX4, 7, rfl, by decide, wsIn4, Or.inl (tmem 159 (by decide +kernel) rfl)⟩, _, rfl, rfl⟩
theorem fw4_5 : FLW 4 5 .int := ⟨RX4, TX4, 7, tyX4, rfl, tyX4_ok, nmX4, rfl, by decide +kernel⟩
theorem ffRX4_47 : FLT shA RX4 16 4 47 6 (.int 0) := ⟨⟨RX4, TX4, 7, rfl, by decide, wsIn4, Or.inl (tmem 165 (by decide +kernel) rfl)⟩, _, rfl, rfl⟩
theorem ffRX4_21 : FLT shA RX4 16 4 21 3 (.ref 31) := ⟨⟨RX4, TX4, 7, rfl, by decide, wsIn4, Or.inl (tmem 160 (by decide +kernel) rfl)⟩, _, rfl, rfl⟩
theorem ffRX4_28 : FLT shA RX4 16 4 28 0 (.ref 1) := ⟨⟨RX4, TX4, 7, rfl, by decide, wsIn4, Or.inl (tmem 157 (by decide +kernel) rfl)⟩, _, rfl, rfl⟩
theorem ffRX4_50 : FLT shA RX4 1 2 50 4 (.int 0) := ⟨⟨RX2, TX2, 6, rfl, by decide, wsIn2, Or.inr ⟨"KeepOurPlace", nmem 52 (by decide +kernel) rfl⟩⟩, _, rfl, rfl⟩
theorem ffRX4_55 : FLT shA RX4 1 2 55 3 (.int 0) := ⟨⟨RX2, TX2, 6, rfl, by decide, wsIn2, Or.inr ⟨"KeepOurPlace", nmem 47 (by decide +kernel) rfl⟩⟩, _, rfl, rfl⟩
theorem fmRX4_56 : Cond.methodLink RX4 56 Lib.Math.min.name ∈ TBL := tmem 606 (by decide +kernel) rfl
theorem fmRX4_62 : Cond.methodLink RX4 62 Lib.Math.max.name ∈ TBL := tmem 607 (by decide +kernel) rfl
theorem ffRX4_25 : FLT shA RX4 16 4 25 4 (.ref 32) := ⟨⟨RX4, TX4, 7, rfl, by decide, wsIn4, Or.inl (tmem 161 (by decide +kernel) rfl)⟩, _, rfl, rfl⟩
theorem fsRX4_65 : Cond.methodLink RX4 65 yX4_ofTwo ∈ TBL := tmem 608 (by decide +kernel) rfl
theorem feX4_ofTwo : CLE yX4_ofTwo 3 cX4_ofTwo 3 (some .int) := ⟨tmem 5 (by decide +kernel) rfl, tmem 610 (by decide +kernel) rfl, by decide +kernel, by decide +kernel⟩
theorem ftX4_ofTwo : Cond.static yX4_ofTwo ∈ TBL := tmem 609 (by decide +kernel) rfl
theorem ffRX7_9 : FLT shA RX7 33 7 9 0 (.ref 1) := ⟨⟨RX7, TX7, 2, rfl, by decide, wsIn7, Or.inl (tmem 188 (by decide +kernel) rfl)⟩, _, rfl, rfl⟩
theorem fkRX7_25 : LNK RX7 25 yX2_holds := Or.inr ⟨"KeepOurPlace", nmem 601 (by decide +kernel) rfl⟩
theorem feX2_holds : CLE yX2_holds 1 cX2_holds 2 (some .boolean) := ⟨tmem 2 (by decide +kernel) rfl, tmem 585 (by decide +kernel) rfl, by decide +kernel, by decide +kernel⟩
theorem fvX2_holds : CLV yX2_holds := ⟨tmem 584 (by decide +kernel) rfl, smem 26 (by decide +kernel) rfl⟩
theorem ffRX7_31 : FLT shA RX7 1 2 31 1 (.ref 3) := ⟨⟨RX2, TX2, 6, rfl, by decide, wsIn2, Or.inr ⟨"KeepOurPlace", nmem 38 (by decide +kernel) rfl⟩⟩, _, rfl, rfl⟩
theorem ffRX7_35 : FLT shA RX7 1 2 35 2 (.ref 4) := ⟨⟨RX2, TX2, 6, rfl, by decide, wsIn2, Or.inr ⟨"KeepOurPlace", nmem 42 (by decide +kernel) rfl⟩⟩, _, rfl, rfl⟩
theorem ffRX7_15 : FLT shA RX7 33 7 15 1 (.ref 16) := ⟨⟨RX7, TX7, 2, rfl, by decide, wsIn7, Or.inl (tmem 189 (by decide +kernel) rfl)⟩, _, rfl, rfl⟩
theorem fkRX7_19 : LNK RX7 19 yX4_tell := Or.inr ⟨"KeepOurPlace", nmem 602 (by decide +kernel) rfl⟩
theorem feX4_tell : CLE yX4_tell 5 cX4_tell 12 (some .int) := ⟨tmem 5 (by decide +kernel) rfl, tmem 605 (by decide +kernel) rfl, by decide +kernel, by decide +kernel⟩
theorem fvX4_tell : CLV yX4_tell := ⟨tmem 604 (by decide +kernel) rfl, smem 29 (by decide +kernel) rfl⟩
theorem fmRX7_38 : Cond.methodLink RX7 38 Lib.Math.min.name ∈ TBL := tmem 611 (by decide +kernel) rfl
theorem ffRX7_44 : FLT shA RX7 1 2 44 0 (.ref 2) := ⟨⟨RX2, TX2, 6, rfl, by decide, wsIn2, Or.inr ⟨"KeepOurPlace", nmem 34 (by decide +kernel) rfl⟩⟩, _, rfl, rfl⟩
theorem fmRX7_47 : Cond.methodLink RX7 47 Lib.Math.max.name ∈ TBL := tmem 616 (by decide +kernel) rfl
theorem ffRX7_50 : FLT shA RX7 1 2 50 4 (.int 0) := ⟨⟨RX2, TX2, 6, rfl, by decide, wsIn2, Or.inr ⟨"KeepOurPlace", nmem 54 (by decide +kernel) rfl⟩⟩, _, rfl, rfl⟩
theorem ffRX7_54 : FLT shA RX7 1 2 54 3 (.int 0) := ⟨⟨RX2, TX2, 6, rfl, by decide, wsIn2, Or.inr ⟨"KeepOurPlace", nmem 48 (by decide +kernel) rfl⟩⟩, _, rfl, rfl⟩
theorem fkRX7_57 : LNK RX7 57 yX7_seconds := Or.inl (tmem 645 (by decide +kernel) rfl)
theorem feX7_seconds : CLE yX7_seconds 3 cX7_seconds 7 (some .int) := ⟨tmem 6 (by decide +kernel) rfl, tmem 600 (by decide +kernel) rfl, by decide +kernel, by decide +kernel⟩
theorem fvX7_seconds : CLV yX7_seconds := ⟨tmem 599 (by decide +kernel) rfl, smem 28 (by decide +kernel) rfl⟩
theorem fkRX5_23 : LNK RX5 23 yX5_holds := Or.inl (tmem 662 (by decide +kernel) rfl)
theorem feX5_holds : CLE yX5_holds 1 cX5_holds 2 (some .boolean) := ⟨tmem 8 (by decide +kernel) rfl, tmem 657 (by decide +kernel) rfl, by decide +kernel, by decide +kernel⟩
theorem fvX5_holds : CLV yX5_holds := ⟨tmem 656 (by decide +kernel) rfl, smem 34 (by decide +kernel) rfl⟩
theorem ffRX5_9 : FLT shA RX5 42 5 9 0 (.ref 43) := ⟨⟨RX5, TX5, 3, rfl, by decide, wsIn5, Or.inl (tmem 264 (by decide +kernel) rfl)⟩, _, rfl, rfl⟩
theorem ffRX5_15 : FLT shA RX5 42 5 15 1 (.ref 44) := ⟨⟨RX5, TX5, 3, rfl, by decide, wsIn5, Or.inl (tmem 266 (by decide +kernel) rfl)⟩, _, rfl, rfl⟩
theorem ffRX5_20 : FLT shA RX5 42 5 20 2 (.ref 45) := ⟨⟨RX5, TX5, 3, rfl, by decide, wsIn5, Or.inl (tmem 268 (by decide +kernel) rfl)⟩, _, rfl, rfl⟩
theorem fsRX5_27 : Cond.methodLink RX5 27 yX5_narrow ∈ TBL := tmem 850 (by decide +kernel) rfl
theorem feX5_narrow : CLE yX5_narrow 2 cX5_narrow 2 (some .int) := ⟨tmem 8 (by decide +kernel) rfl, tmem 852 (by decide +kernel) rfl, by decide +kernel, by decide +kernel⟩
theorem ftX5_narrow : Cond.static yX5_narrow ∈ TBL := tmem 851 (by decide +kernel) rfl
theorem ffRX1_27 : FLT shA RX1 50 1 27 0 (.int 0) := ⟨⟨RX1, TX1, 11, rfl, by decide, wsIn1, Or.inl (tmem 283 (by decide +kernel) rfl)⟩, _, rfl, rfl⟩
theorem fw1_0 : FLW 1 0 .boolean := ⟨RX1, TX1, 11, tyX1, rfl, tyX1_ok, nmX1, rfl, by decide +kernel⟩
theorem ffRX1_31 : FLT shA RX1 1 2 31 5 (.int 0) := ⟨⟨RX2, TX2, 6, rfl, by decide, wsIn2, Or.inr ⟨"KeepOurPlace", nmem 56 (by decide +kernel) rfl⟩⟩, _, rfl, rfl⟩
theorem ffRX1_37 : FLT shA RX1 50 1 37 1 (.int 0) := ⟨⟨RX1, TX1, 11, rfl, by decide, wsIn1, Or.inl (tmem 285 (by decide +kernel) rfl)⟩, _, rfl, rfl⟩
theorem fw1_1 : FLW 1 1 .int := ⟨RX1, TX1, 11, tyX1, rfl, tyX1_ok, nmX1, rfl, by decide +kernel⟩
theorem ffRX1_38 : FLT shA RX1 1 2 38 3 (.int 0) := ⟨⟨RX2, TX2, 6, rfl, by decide, wsIn2, Or.inr ⟨"KeepOurPlace", nmem 45 (by decide +kernel) rfl⟩⟩, _, rfl, rfl⟩
theorem ffRX1_41 : FLT shA RX1 50 1 41 2 (.int 0) := ⟨⟨RX1, TX1, 11, rfl, by decide, wsIn1, Or.inl (tmem 287 (by decide +kernel) rfl)⟩, _, rfl, rfl⟩
theorem fw1_2 : FLW 1 2 .int := ⟨RX1, TX1, 11, tyX1, rfl, tyX1_ok, nmX1, rfl, by decide +kernel⟩
theorem ffRX1_44 : FLT shA RX1 1 2 44 4 (.int 0) := ⟨⟨RX2, TX2, 6, rfl, by decide, wsIn2, Or.inr ⟨"KeepOurPlace", nmem 50 (by decide +kernel) rfl⟩⟩, _, rfl, rfl⟩
theorem ffRX1_47 : FLT shA RX1 50 1 47 3 (.int 0) := ⟨⟨RX1, TX1, 11, rfl, by decide, wsIn1, Or.inl (tmem 288 (by decide +kernel) rfl)⟩, _, rfl, rfl⟩
theorem fw1_3 : FLW 1 3 .int := ⟨RX1, TX1, 11, tyX1, rfl, tyX1_ok, nmX1, rfl, by decide +kernel⟩
theorem ffRX1_48 : FLT shA RX1 16 4 48 6 (.int 0) := ⟨⟨RX4, TX4, 7, rfl, by decide, wsIn4, Or.inr ⟨"KeepOurPlace", nmem 164 (by decide +kernel) rfl⟩⟩, _, rfl, rfl⟩
theorem ffRX1_53 : FLT shA RX1 50 1 53 4 (.int 0) := ⟨⟨RX1, TX1, 11, rfl, by decide, wsIn1, Or.inl (tmem 289 (by decide +kernel) rfl)⟩, _, rfl, rfl⟩
theorem fw1_4 : FLW 1 4 .int := ⟨RX1, TX1, 11, tyX1, rfl, tyX1_ok, nmX1, rfl, by decide +kernel⟩
theorem ffRX1_54 : FLT shA RX1 5 6 54 3 (.int 0) := ⟨⟨RX6, TX6, 4, rfl, by decide, wsIn6, Or.inr ⟨"KeepOurPlace", nmem 90 (by decide +kernel) rfl⟩⟩, _, rfl, rfl⟩
theorem ffRX1_57 : FLT shA RX1 50 1 57 5 (.int 0) := ⟨⟨RX1, TX1, 11, rfl, by decide, wsIn1, Or.inl (tmem 290 (by decide +kernel) rfl)⟩, _, rfl, rfl⟩
theorem fw1_5 : FLW 1 5 .int := ⟨RX1, TX1, 11, tyX1, rfl, tyX1_ok, nmX1, rfl, by decide +kernel⟩
theorem ffRX1_58 : FLT shA RX1 1 2 58 1 (.ref 3) := ⟨⟨RX2, TX2, 6, rfl, by decide, wsIn2, Or.inr ⟨"KeepOurPlace", nmem 37 (by decide +kernel) rfl⟩⟩, _, rfl, rfl⟩
theorem ffRX1_9 : FLT shA RX1 50 1 9 6 (.ref 51) := ⟨⟨RX1, TX1, 11, rfl, by decide, wsIn1, Or.inl (tmem 291 (by decide +kernel) rfl)⟩, _, rfl, rfl⟩
theorem fmRX1_59 : Cond.methodLink RX1 59 arraycopyName ∈ TBL := tmem 878 (by decide +kernel) rfl
theorem ffRX1_65 : FLT shA RX1 1 2 65 2 (.ref 4) := ⟨⟨RX2, TX2, 6, rfl, by decide, wsIn2, Or.inr ⟨"KeepOurPlace", nmem 41 (by decide +kernel) rfl⟩⟩, _, rfl, rfl⟩
theorem ffRX1_15 : FLT shA RX1 50 1 15 7 (.ref 52) := ⟨⟨RX1, TX1, 11, rfl, by decide, wsIn1, Or.inl (tmem 292 (by decide +kernel) rfl)⟩, _, rfl, rfl⟩
theorem ffRX1_66 : FLT shA RX1 5 6 66 0 (.ref 6) := ⟨⟨RX6, TX6, 4, rfl, by decide, wsIn6, Or.inr ⟨"KeepOurPlace", nmem 80 (by decide +kernel) rfl⟩⟩, _, rfl, rfl⟩
theorem ffRX1_18 : FLT shA RX1 50 1 18 8 (.ref 53) := ⟨⟨RX1, TX1, 11, rfl, by decide, wsIn1, Or.inl (tmem 293 (by decide +kernel) rfl)⟩, _, rfl, rfl⟩
theorem ffRX1_67 : FLT shA RX1 5 6 67 1 (.ref 7) := ⟨⟨RX6, TX6, 4, rfl, by decide, wsIn6, Or.inr ⟨"KeepOurPlace", nmem 83 (by decide +kernel) rfl⟩⟩, _, rfl, rfl⟩
theorem ffRX1_21 : FLT shA RX1 50 1 21 9 (.ref 54) := ⟨⟨RX1, TX1, 11, rfl, by decide, wsIn1, Or.inl (tmem 294 (by decide +kernel) rfl)⟩, _, rfl, rfl⟩
theorem ffRX1_68 : FLT shA RX1 5 6 68 2 (.ref 8) := ⟨⟨RX6, TX6, 4, rfl, by decide, wsIn6, Or.inr ⟨"KeepOurPlace", nmem 87 (by decide +kernel) rfl⟩⟩, _, rfl, rfl⟩
theorem ffRX1_24 : FLT shA RX1 50 1 24 10 (.ref 55) := ⟨⟨RX1, TX1, 11, rfl, by decide, wsIn1, Or.inl (tmem 295 (by decide +kernel) rfl)⟩, _, rfl, rfl⟩
theorem fw4_6 : FLW 4 6 .int := ⟨RX4, TX4, 7, tyX4, rfl, tyX4_ok, nmX4, rfl, by decide +kernel⟩
theorem dX4_add_0 : decode cX4_add 0 = .ok (.aload_n 0, 1) := by decide +kernel
theorem dX4_add_1 : decode cX4_add 1 = .ok (.getfield 32, 3) := by decide +kernel
theorem dX4_add_4 : decode cX4_add 4 = .ok (.bipush 6, 2) := by decide +kernel
theorem dX4_add_6 : decode cX4_add 6 = .ok (.if_icmp .lt 6, 3) := by decide +kernel
theorem dX4_add_9 : decode cX4_add 9 = .ok (.bipush (-4), 2) := by decide +kernel
theorem dX4_add_11 : decode cX4_add 11 = .ok (.ireturn, 1) := by decide +kernel
theorem dX4_add_12 : decode cX4_add 12 = .ok (.aload_n 1, 1) := by decide +kernel
theorem dX4_add_13 : decode cX4_add 13 = .ok (.getfield 36, 3) := by decide +kernel
theorem dX4_add_16 : decode cX4_add 16 = .ok (.iconst 0, 1) := by decide +kernel
theorem dX4_add_17 : decode cX4_add 17 = .ok (.aload_n 0, 1) := by decide +kernel
theorem dX4_add_18 : decode cX4_add 18 = .ok (.getfield 11, 3) := by decide +kernel
theorem dX4_add_21 : decode cX4_add 21 = .ok (.aload_n 0, 1) := by decide +kernel
theorem dX4_add_22 : decode cX4_add 22 = .ok (.getfield 32, 3) := by decide +kernel
theorem dX4_add_25 : decode cX4_add 25 = .ok (.aaload, 1) := by decide +kernel
theorem dX4_add_26 : decode cX4_add 26 = .ok (.iconst 0, 1) := by decide +kernel
theorem dX4_add_27 : decode cX4_add 27 = .ok (.sipush 160, 3) := by decide +kernel
theorem dX4_add_30 : decode cX4_add 30 = .ok (.invokestatic 39, 3) := by decide +kernel
theorem dX4_add_33 : decode cX4_add 33 = .ok (.aload_n 1, 1) := by decide +kernel
theorem dX4_add_34 : decode cX4_add 34 = .ok (.getfield 45, 3) := by decide +kernel
theorem dX4_add_37 : decode cX4_add 37 = .ok (.iconst 0, 1) := by decide +kernel
theorem dX4_add_38 : decode cX4_add 38 = .ok (.aload_n 0, 1) := by decide +kernel
theorem dX4_add_39 : decode cX4_add 39 = .ok (.getfield 16, 3) := by decide +kernel
theorem dX4_add_42 : decode cX4_add 42 = .ok (.aload_n 0, 1) := by decide +kernel
theorem dX4_add_43 : decode cX4_add 43 = .ok (.getfield 32, 3) := by decide +kernel
theorem dX4_add_46 : decode cX4_add 46 = .ok (.aaload, 1) := by decide +kernel
theorem dX4_add_47 : decode cX4_add 47 = .ok (.iconst 0, 1) := by decide +kernel
theorem dX4_add_48 : decode cX4_add 48 = .ok (.iconst 4, 1) := by decide +kernel
theorem dX4_add_49 : decode cX4_add 49 = .ok (.invokestatic 39, 3) := by decide +kernel
theorem dX4_add_52 : decode cX4_add 52 = .ok (.aload_n 0, 1) := by decide +kernel
theorem dX4_add_53 : decode cX4_add 53 = .ok (.dup, 1) := by decide +kernel
theorem dX4_add_54 : decode cX4_add 54 = .ok (.getfield 32, 3) := by decide +kernel
theorem dX4_add_57 : decode cX4_add 57 = .ok (.iconst 1, 1) := by decide +kernel
theorem dX4_add_58 : decode cX4_add 58 = .ok (.iadd, 1) := by decide +kernel
theorem dX4_add_59 : decode cX4_add 59 = .ok (.putfield 32, 3) := by decide +kernel
theorem dX4_add_62 : decode cX4_add 62 = .ok (.aload_n 0, 1) := by decide +kernel
theorem dX4_add_63 : decode cX4_add 63 = .ok (.getfield 32, 3) := by decide +kernel
theorem dX4_add_66 : decode cX4_add 66 = .ok (.iconst 1, 1) := by decide +kernel
theorem dX4_add_67 : decode cX4_add 67 = .ok (.isub, 1) := by decide +kernel
theorem dX4_add_68 : decode cX4_add 68 = .ok (.ireturn, 1) := by decide +kernel
theorem dX4_ofTwo_0 : decode cX4_ofTwo 0 = .ok (.iload_n 0, 1) := by decide +kernel
theorem dX4_ofTwo_1 : decode cX4_ofTwo 1 = .ok (.tableswitch 97 (-14) (-9) #[93, 89, 78, 67, 53, 39], 39) := by decide +kernel
theorem dX4_ofTwo_40 : decode cX4_ofTwo 40 = .ok (.iload_n 1, 1) := by decide +kernel
theorem dX4_ofTwo_41 : decode cX4_ofTwo 41 = .ok (.ifCond .ne 7, 3) := by decide +kernel
theorem dX4_ofTwo_44 : decode cX4_ofTwo 44 = .ok (.iload_n 2, 1) := by decide +kernel
theorem dX4_ofTwo_45 : decode cX4_ofTwo 45 = .ok (.ifCond .eq 7, 3) := by decide +kernel
theorem dX4_ofTwo_48 : decode cX4_ofTwo 48 = .ok (.iconst 1, 1) := by decide +kernel
theorem dX4_ofTwo_49 : decode cX4_ofTwo 49 = .ok (.goto 4, 3) := by decide +kernel
theorem dX4_ofTwo_52 : decode cX4_ofTwo 52 = .ok (.iconst 0, 1) := by decide +kernel
theorem dX4_ofTwo_53 : decode cX4_ofTwo 53 = .ok (.ireturn, 1) := by decide +kernel
theorem dX4_ofTwo_54 : decode cX4_ofTwo 54 = .ok (.iload_n 1, 1) := by decide +kernel
theorem dX4_ofTwo_55 : decode cX4_ofTwo 55 = .ok (.ifCond .eq 11, 3) := by decide +kernel
theorem dX4_ofTwo_58 : decode cX4_ofTwo 58 = .ok (.iload_n 2, 1) := by decide +kernel
theorem dX4_ofTwo_59 : decode cX4_ofTwo 59 = .ok (.ifCond .eq 7, 3) := by decide +kernel
theorem dX4_ofTwo_62 : decode cX4_ofTwo 62 = .ok (.iconst 1, 1) := by decide +kernel
theorem dX4_ofTwo_63 : decode cX4_ofTwo 63 = .ok (.goto 4, 3) := by decide +kernel
theorem dX4_ofTwo_66 : decode cX4_ofTwo 66 = .ok (.iconst 0, 1) := by decide +kernel
theorem dX4_ofTwo_67 : decode cX4_ofTwo 67 = .ok (.ireturn, 1) := by decide +kernel
theorem dX4_ofTwo_68 : decode cX4_ofTwo 68 = .ok (.iload_n 1, 1) := by decide +kernel
theorem dX4_ofTwo_69 : decode cX4_ofTwo 69 = .ok (.iload_n 2, 1) := by decide +kernel
theorem dX4_ofTwo_70 : decode cX4_ofTwo 70 = .ok (.if_icmp .ge 7, 3) := by decide +kernel
theorem dX4_ofTwo_73 : decode cX4_ofTwo 73 = .ok (.iconst 1, 1) := by decide +kernel
theorem dX4_ofTwo_74 : decode cX4_ofTwo 74 = .ok (.goto 4, 3) := by decide +kernel
theorem dX4_ofTwo_77 : decode cX4_ofTwo 77 = .ok (.iconst 0, 1) := by decide +kernel
theorem dX4_ofTwo_78 : decode cX4_ofTwo 78 = .ok (.ireturn, 1) := by decide +kernel
theorem dX4_ofTwo_79 : decode cX4_ofTwo 79 = .ok (.iload_n 1, 1) := by decide +kernel
theorem dX4_ofTwo_80 : decode cX4_ofTwo 80 = .ok (.iload_n 2, 1) := by decide +kernel
theorem dX4_ofTwo_81 : decode cX4_ofTwo 81 = .ok (.if_icmp .ne 7, 3) := by decide +kernel
theorem dX4_ofTwo_84 : decode cX4_ofTwo 84 = .ok (.iconst 1, 1) := by decide +kernel
theorem dX4_ofTwo_85 : decode cX4_ofTwo 85 = .ok (.goto 4, 3) := by decide +kernel
theorem dX4_ofTwo_88 : decode cX4_ofTwo 88 = .ok (.iconst 0, 1) := by decide +kernel
theorem dX4_ofTwo_89 : decode cX4_ofTwo 89 = .ok (.ireturn, 1) := by decide +kernel
theorem dX4_ofTwo_90 : decode cX4_ofTwo 90 = .ok (.iload_n 1, 1) := by decide +kernel
theorem dX4_ofTwo_91 : decode cX4_ofTwo 91 = .ok (.iload_n 2, 1) := by decide +kernel
theorem dX4_ofTwo_92 : decode cX4_ofTwo 92 = .ok (.iadd, 1) := by decide +kernel
theorem dX4_ofTwo_93 : decode cX4_ofTwo 93 = .ok (.ireturn, 1) := by decide +kernel
theorem dX4_ofTwo_94 : decode cX4_ofTwo 94 = .ok (.iload_n 1, 1) := by decide +kernel
theorem dX4_ofTwo_95 : decode cX4_ofTwo 95 = .ok (.iload_n 2, 1) := by decide +kernel
theorem dX4_ofTwo_96 : decode cX4_ofTwo 96 = .ok (.isub, 1) := by decide +kernel
theorem dX4_ofTwo_97 : decode cX4_ofTwo 97 = .ok (.ireturn, 1) := by decide +kernel
theorem dX4_ofTwo_98 : decode cX4_ofTwo 98 = .ok (.iload_n 1, 1) := by decide +kernel
theorem dX4_ofTwo_99 : decode cX4_ofTwo 99 = .ok (.iload_n 2, 1) := by decide +kernel
theorem dX4_ofTwo_100 : decode cX4_ofTwo 100 = .ok (.imul, 1) := by decide +kernel
theorem dX4_ofTwo_101 : decode cX4_ofTwo 101 = .ok (.ireturn, 1) := by decide +kernel
theorem dX4_tell_0 : decode cX4_tell 0 = .ok (.aload_n 0, 1) := by decide +kernel
theorem dX4_tell_1 : decode cX4_tell 1 = .ok (.getfield 47, 3) := by decide +kernel
theorem dX4_tell_4 : decode cX4_tell 4 = .ok (.ifCond .lt 23, 3) := by decide +kernel
theorem dX4_tell_7 : decode cX4_tell 7 = .ok (.aload_n 0, 1) := by decide +kernel
theorem dX4_tell_8 : decode cX4_tell 8 = .ok (.getfield 47, 3) := by decide +kernel
theorem dX4_tell_11 : decode cX4_tell 11 = .ok (.aload_n 0, 1) := by decide +kernel
theorem dX4_tell_12 : decode cX4_tell 12 = .ok (.getfield 32, 3) := by decide +kernel
theorem dX4_tell_15 : decode cX4_tell 15 = .ok (.if_icmp .ge 12, 3) := by decide +kernel
theorem dX4_tell_18 : decode cX4_tell 18 = .ok (.iload_n 1, 1) := by decide +kernel
theorem dX4_tell_19 : decode cX4_tell 19 = .ok (.ifCond .lt 8, 3) := by decide +kernel
theorem dX4_tell_22 : decode cX4_tell 22 = .ok (.iload_n 1, 1) := by decide +kernel
theorem dX4_tell_23 : decode cX4_tell 23 = .ok (.iconst 3, 1) := by decide +kernel
theorem dX4_tell_24 : decode cX4_tell 24 = .ok (.if_icmp .lt 5, 3) := by decide +kernel
theorem dX4_tell_27 : decode cX4_tell 27 = .ok (.iconst 0, 1) := by decide +kernel
theorem dX4_tell_28 : decode cX4_tell 28 = .ok (.ireturn, 1) := by decide +kernel
theorem dX4_tell_29 : decode cX4_tell 29 = .ok (.aload_n 0, 1) := by decide +kernel
theorem dX4_tell_30 : decode cX4_tell 30 = .ok (.getfield 21, 3) := by decide +kernel
theorem dX4_tell_33 : decode cX4_tell 33 = .ok (.iconst 0, 1) := by decide +kernel
theorem dX4_tell_34 : decode cX4_tell 34 = .ok (.iload_n 2, 1) := by decide +kernel
theorem dX4_tell_35 : decode cX4_tell 35 = .ok (.iastore, 1) := by decide +kernel
theorem dX4_tell_36 : decode cX4_tell 36 = .ok (.aload_n 0, 1) := by decide +kernel
theorem dX4_tell_37 : decode cX4_tell 37 = .ok (.getfield 21, 3) := by decide +kernel
theorem dX4_tell_40 : decode cX4_tell 40 = .ok (.iconst 1, 1) := by decide +kernel
theorem dX4_tell_41 : decode cX4_tell 41 = .ok (.iload_n 3, 1) := by decide +kernel
theorem dX4_tell_42 : decode cX4_tell 42 = .ok (.iastore, 1) := by decide +kernel
theorem dX4_tell_43 : decode cX4_tell 43 = .ok (.aload_n 0, 1) := by decide +kernel
theorem dX4_tell_44 : decode cX4_tell 44 = .ok (.getfield 21, 3) := by decide +kernel
theorem dX4_tell_47 : decode cX4_tell 47 = .ok (.iconst 2, 1) := by decide +kernel
theorem dX4_tell_48 : decode cX4_tell 48 = .ok (.iload 4, 2) := by decide +kernel
theorem dX4_tell_50 : decode cX4_tell 50 = .ok (.iastore, 1) := by decide +kernel
theorem dX4_tell_51 : decode cX4_tell 51 = .ok (.aload_n 0, 1) := by decide +kernel
theorem dX4_tell_52 : decode cX4_tell 52 = .ok (.getfield 21, 3) := by decide +kernel
theorem dX4_tell_55 : decode cX4_tell 55 = .ok (.iconst 3, 1) := by decide +kernel
theorem dX4_tell_56 : decode cX4_tell 56 = .ok (.aload_n 0, 1) := by decide +kernel
theorem dX4_tell_57 : decode cX4_tell 57 = .ok (.getfield 28, 3) := by decide +kernel
theorem dX4_tell_60 : decode cX4_tell 60 = .ok (.getfield 50, 3) := by decide +kernel
theorem dX4_tell_63 : decode cX4_tell 63 = .ok (.iastore, 1) := by decide +kernel
theorem dX4_tell_64 : decode cX4_tell 64 = .ok (.aload_n 0, 1) := by decide +kernel
theorem dX4_tell_65 : decode cX4_tell 65 = .ok (.getfield 21, 3) := by decide +kernel
theorem dX4_tell_68 : decode cX4_tell 68 = .ok (.iconst 4, 1) := by decide +kernel
theorem dX4_tell_69 : decode cX4_tell 69 = .ok (.iload 5, 2) := by decide +kernel
theorem dX4_tell_71 : decode cX4_tell 71 = .ok (.iastore, 1) := by decide +kernel
theorem dX4_tell_72 : decode cX4_tell 72 = .ok (.aload_n 0, 1) := by decide +kernel
theorem dX4_tell_73 : decode cX4_tell 73 = .ok (.getfield 21, 3) := by decide +kernel
theorem dX4_tell_76 : decode cX4_tell 76 = .ok (.iconst 5, 1) := by decide +kernel
theorem dX4_tell_77 : decode cX4_tell 77 = .ok (.aload_n 0, 1) := by decide +kernel
theorem dX4_tell_78 : decode cX4_tell 78 = .ok (.getfield 28, 3) := by decide +kernel
theorem dX4_tell_81 : decode cX4_tell 81 = .ok (.getfield 55, 3) := by decide +kernel
theorem dX4_tell_84 : decode cX4_tell 84 = .ok (.iastore, 1) := by decide +kernel
theorem dX4_tell_85 : decode cX4_tell 85 = .ok (.aload_n 0, 1) := by decide +kernel
theorem dX4_tell_86 : decode cX4_tell 86 = .ok (.getfield 11, 3) := by decide +kernel
theorem dX4_tell_89 : decode cX4_tell 89 = .ok (.aload_n 0, 1) := by decide +kernel
theorem dX4_tell_90 : decode cX4_tell 90 = .ok (.getfield 47, 3) := by decide +kernel
theorem dX4_tell_93 : decode cX4_tell 93 = .ok (.aaload, 1) := by decide +kernel
theorem dX4_tell_94 : decode cX4_tell 94 = .ok (.astore 6, 2) := by decide +kernel
theorem dX4_tell_96 : decode cX4_tell 96 = .ok (.aload 6, 2) := by decide +kernel
theorem dX4_tell_98 : decode cX4_tell 98 = .ok (.arraylength, 1) := by decide +kernel
theorem dX4_tell_99 : decode cX4_tell 99 = .ok (.aload_n 0, 1) := by decide +kernel
theorem dX4_tell_100 : decode cX4_tell 100 = .ok (.getfield 16, 3) := by decide +kernel
theorem dX4_tell_103 : decode cX4_tell 103 = .ok (.aload_n 0, 1) := by decide +kernel
theorem dX4_tell_104 : decode cX4_tell 104 = .ok (.getfield 47, 3) := by decide +kernel
theorem dX4_tell_107 : decode cX4_tell 107 = .ok (.aaload, 1) := by decide +kernel
theorem dX4_tell_108 : decode cX4_tell 108 = .ok (.iload_n 1, 1) := by decide +kernel
theorem dX4_tell_109 : decode cX4_tell 109 = .ok (.iconst 1, 1) := by decide +kernel
theorem dX4_tell_110 : decode cX4_tell 110 = .ok (.iadd, 1) := by decide +kernel
theorem dX4_tell_111 : decode cX4_tell 111 = .ok (.iaload, 1) := by decide +kernel
theorem dX4_tell_112 : decode cX4_tell 112 = .ok (.invokestatic 56, 3) := by decide +kernel
theorem dX4_tell_115 : decode cX4_tell 115 = .ok (.istore 7, 2) := by decide +kernel
theorem dX4_tell_117 : decode cX4_tell 117 = .ok (.iconst 0, 1) := by decide +kernel
theorem dX4_tell_118 : decode cX4_tell 118 = .ok (.istore 8, 2) := by decide +kernel
theorem dX4_tell_120 : decode cX4_tell 120 = .ok (.iconst 0, 1) := by decide +kernel
theorem dX4_tell_121 : decode cX4_tell 121 = .ok (.aload_n 0, 1) := by decide +kernel
theorem dX4_tell_122 : decode cX4_tell 122 = .ok (.getfield 16, 3) := by decide +kernel
theorem dX4_tell_125 : decode cX4_tell 125 = .ok (.aload_n 0, 1) := by decide +kernel
theorem dX4_tell_126 : decode cX4_tell 126 = .ok (.getfield 47, 3) := by decide +kernel
theorem dX4_tell_129 : decode cX4_tell 129 = .ok (.aaload, 1) := by decide +kernel
theorem dX4_tell_130 : decode cX4_tell 130 = .ok (.iload_n 1, 1) := by decide +kernel
theorem dX4_tell_131 : decode cX4_tell 131 = .ok (.iaload, 1) := by decide +kernel
theorem dX4_tell_132 : decode cX4_tell 132 = .ok (.invokestatic 62, 3) := by decide +kernel
theorem dX4_tell_135 : decode cX4_tell 135 = .ok (.istore 9, 2) := by decide +kernel
theorem dX4_tell_137 : decode cX4_tell 137 = .ok (.iload 9, 2) := by decide +kernel
theorem dX4_tell_139 : decode cX4_tell 139 = .ok (.iload 7, 2) := by decide +kernel
theorem dX4_tell_141 : decode cX4_tell 141 = .ok (.if_icmp .ge 176, 3) := by decide +kernel
theorem dX4_tell_144 : decode cX4_tell 144 = .ok (.aload 6, 2) := by decide +kernel
theorem dX4_tell_146 : decode cX4_tell 146 = .ok (.iload 9, 2) := by decide +kernel
theorem dX4_tell_148 : decode cX4_tell 148 = .ok (.iaload, 1) := by decide +kernel
theorem dX4_tell_149 : decode cX4_tell 149 = .ok (.istore 10, 2) := by decide +kernel
theorem dX4_tell_151 : decode cX4_tell 151 = .ok (.iload 10, 2) := by decide +kernel
theorem dX4_tell_153 : decode cX4_tell 153 = .ok (.bipush (-6), 2) := by decide +kernel
theorem dX4_tell_155 : decode cX4_tell 155 = .ok (.if_icmp .lt 47, 3) := by decide +kernel
theorem dX4_tell_158 : decode cX4_tell 158 = .ok (.iload 8, 2) := by decide +kernel
theorem dX4_tell_160 : decode cX4_tell 160 = .ok (.aload_n 0, 1) := by decide +kernel
theorem dX4_tell_161 : decode cX4_tell 161 = .ok (.getfield 25, 3) := by decide +kernel
theorem dX4_tell_164 : decode cX4_tell 164 = .ok (.arraylength, 1) := by decide +kernel
theorem dX4_tell_165 : decode cX4_tell 165 = .ok (.if_icmp .lt 5, 3) := by decide +kernel
theorem dX4_tell_168 : decode cX4_tell 168 = .ok (.iconst 0, 1) := by decide +kernel
theorem dX4_tell_169 : decode cX4_tell 169 = .ok (.ireturn, 1) := by decide +kernel
theorem dX4_tell_170 : decode cX4_tell 170 = .ok (.aload_n 0, 1) := by decide +kernel
theorem dX4_tell_171 : decode cX4_tell 171 = .ok (.getfield 25, 3) := by decide +kernel
theorem dX4_tell_174 : decode cX4_tell 174 = .ok (.iload 8, 2) := by decide +kernel
theorem dX4_tell_176 : decode cX4_tell 176 = .ok (.iload 10, 2) := by decide +kernel
theorem dX4_tell_178 : decode cX4_tell 178 = .ok (.ifCond .lt 8, 3) := by decide +kernel
theorem dX4_tell_181 : decode cX4_tell 181 = .ok (.iload 10, 2) := by decide +kernel
theorem dX4_tell_183 : decode cX4_tell 183 = .ok (.goto 12, 3) := by decide +kernel
theorem dX4_tell_186 : decode cX4_tell 186 = .ok (.aload_n 0, 1) := by decide +kernel
theorem dX4_tell_187 : decode cX4_tell 187 = .ok (.getfield 21, 3) := by decide +kernel
theorem dX4_tell_190 : decode cX4_tell 190 = .ok (.iconst (-1), 1) := by decide +kernel
theorem dX4_tell_191 : decode cX4_tell 191 = .ok (.iload 10, 2) := by decide +kernel
theorem dX4_tell_193 : decode cX4_tell 193 = .ok (.isub, 1) := by decide +kernel
theorem dX4_tell_194 : decode cX4_tell 194 = .ok (.iaload, 1) := by decide +kernel
theorem dX4_tell_195 : decode cX4_tell 195 = .ok (.iastore, 1) := by decide +kernel
theorem dX4_tell_196 : decode cX4_tell 196 = .ok (.iinc 8 1, 3) := by decide +kernel
theorem dX4_tell_199 : decode cX4_tell 199 = .ok (.goto 112, 3) := by decide +kernel
theorem dX4_tell_202 : decode cX4_tell 202 = .ok (.iload 10, 2) := by decide +kernel
theorem dX4_tell_204 : decode cX4_tell 204 = .ok (.bipush (-7), 2) := by decide +kernel
theorem dX4_tell_206 : decode cX4_tell 206 = .ok (.if_icmp .eq 10, 3) := by decide +kernel
theorem dX4_tell_209 : decode cX4_tell 209 = .ok (.iload 10, 2) := by decide +kernel
theorem dX4_tell_211 : decode cX4_tell 211 = .ok (.bipush (-8), 2) := by decide +kernel
theorem dX4_tell_213 : decode cX4_tell 213 = .ok (.if_icmp .ne 57, 3) := by decide +kernel
theorem dX4_tell_216 : decode cX4_tell 216 = .ok (.iload 8, 2) := by decide +kernel
theorem dX4_tell_218 : decode cX4_tell 218 = .ok (.iconst 1, 1) := by decide +kernel
theorem dX4_tell_219 : decode cX4_tell 219 = .ok (.if_icmp .ge 5, 3) := by decide +kernel
theorem dX4_tell_222 : decode cX4_tell 222 = .ok (.iconst 0, 1) := by decide +kernel
theorem dX4_tell_223 : decode cX4_tell 223 = .ok (.ireturn, 1) := by decide +kernel
theorem dX4_tell_224 : decode cX4_tell 224 = .ok (.aload_n 0, 1) := by decide +kernel
theorem dX4_tell_225 : decode cX4_tell 225 = .ok (.getfield 25, 3) := by decide +kernel
theorem dX4_tell_228 : decode cX4_tell 228 = .ok (.iload 8, 2) := by decide +kernel
theorem dX4_tell_230 : decode cX4_tell 230 = .ok (.iconst 1, 1) := by decide +kernel
theorem dX4_tell_231 : decode cX4_tell 231 = .ok (.isub, 1) := by decide +kernel
theorem dX4_tell_232 : decode cX4_tell 232 = .ok (.iaload, 1) := by decide +kernel
theorem dX4_tell_233 : decode cX4_tell 233 = .ok (.istore 11, 2) := by decide +kernel
theorem dX4_tell_235 : decode cX4_tell 235 = .ok (.aload_n 0, 1) := by decide +kernel
theorem dX4_tell_236 : decode cX4_tell 236 = .ok (.getfield 25, 3) := by decide +kernel
theorem dX4_tell_239 : decode cX4_tell 239 = .ok (.iload 8, 2) := by decide +kernel
theorem dX4_tell_241 : decode cX4_tell 241 = .ok (.iconst 1, 1) := by decide +kernel
theorem dX4_tell_242 : decode cX4_tell 242 = .ok (.isub, 1) := by decide +kernel
theorem dX4_tell_243 : decode cX4_tell 243 = .ok (.iload 10, 2) := by decide +kernel
theorem dX4_tell_245 : decode cX4_tell 245 = .ok (.bipush (-7), 2) := by decide +kernel
theorem dX4_tell_247 : decode cX4_tell 247 = .ok (.if_icmp .ne 9, 3) := by decide +kernel
theorem dX4_tell_250 : decode cX4_tell 250 = .ok (.iload 11, 2) := by decide +kernel
theorem dX4_tell_252 : decode cX4_tell 252 = .ok (.ineg, 1) := by decide +kernel
theorem dX4_tell_253 : decode cX4_tell 253 = .ok (.goto 13, 3) := by decide +kernel
theorem dX4_tell_256 : decode cX4_tell 256 = .ok (.iload 11, 2) := by decide +kernel
theorem dX4_tell_258 : decode cX4_tell 258 = .ok (.ifCond .ne 7, 3) := by decide +kernel
theorem dX4_tell_261 : decode cX4_tell 261 = .ok (.iconst 1, 1) := by decide +kernel
theorem dX4_tell_262 : decode cX4_tell 262 = .ok (.goto 4, 3) := by decide +kernel
theorem dX4_tell_265 : decode cX4_tell 265 = .ok (.iconst 0, 1) := by decide +kernel
theorem dX4_tell_266 : decode cX4_tell 266 = .ok (.iastore, 1) := by decide +kernel
theorem dX4_tell_267 : decode cX4_tell 267 = .ok (.goto 44, 3) := by decide +kernel
theorem dX4_tell_270 : decode cX4_tell 270 = .ok (.iload 8, 2) := by decide +kernel
theorem dX4_tell_272 : decode cX4_tell 272 = .ok (.iconst 2, 1) := by decide +kernel
theorem dX4_tell_273 : decode cX4_tell 273 = .ok (.if_icmp .ge 5, 3) := by decide +kernel
theorem dX4_tell_276 : decode cX4_tell 276 = .ok (.iconst 0, 1) := by decide +kernel
theorem dX4_tell_277 : decode cX4_tell 277 = .ok (.ireturn, 1) := by decide +kernel
theorem dX4_tell_278 : decode cX4_tell 278 = .ok (.iinc 8 (-1), 3) := by decide +kernel
theorem dX4_tell_281 : decode cX4_tell 281 = .ok (.aload_n 0, 1) := by decide +kernel
theorem dX4_tell_282 : decode cX4_tell 282 = .ok (.getfield 25, 3) := by decide +kernel
theorem dX4_tell_285 : decode cX4_tell 285 = .ok (.iload 8, 2) := by decide +kernel
theorem dX4_tell_287 : decode cX4_tell 287 = .ok (.iconst 1, 1) := by decide +kernel
theorem dX4_tell_288 : decode cX4_tell 288 = .ok (.isub, 1) := by decide +kernel
theorem dX4_tell_289 : decode cX4_tell 289 = .ok (.iload 10, 2) := by decide +kernel
theorem dX4_tell_291 : decode cX4_tell 291 = .ok (.aload_n 0, 1) := by decide +kernel
theorem dX4_tell_292 : decode cX4_tell 292 = .ok (.getfield 25, 3) := by decide +kernel
theorem dX4_tell_295 : decode cX4_tell 295 = .ok (.iload 8, 2) := by decide +kernel
theorem dX4_tell_297 : decode cX4_tell 297 = .ok (.iconst 1, 1) := by decide +kernel
theorem dX4_tell_298 : decode cX4_tell 298 = .ok (.isub, 1) := by decide +kernel
theorem dX4_tell_299 : decode cX4_tell 299 = .ok (.iaload, 1) := by decide +kernel
theorem dX4_tell_300 : decode cX4_tell 300 = .ok (.aload_n 0, 1) := by decide +kernel
theorem dX4_tell_301 : decode cX4_tell 301 = .ok (.getfield 25, 3) := by decide +kernel
theorem dX4_tell_304 : decode cX4_tell 304 = .ok (.iload 8, 2) := by decide +kernel
theorem dX4_tell_306 : decode cX4_tell 306 = .ok (.iaload, 1) := by decide +kernel
theorem dX4_tell_307 : decode cX4_tell 307 = .ok (.invokestatic 65, 3) := by decide +kernel
theorem dX4_tell_310 : decode cX4_tell 310 = .ok (.iastore, 1) := by decide +kernel
theorem dX4_tell_311 : decode cX4_tell 311 = .ok (.iinc 9 1, 3) := by decide +kernel
theorem dX4_tell_314 : decode cX4_tell 314 = .ok (.goto (-177), 3) := by decide +kernel
theorem dX4_tell_317 : decode cX4_tell 317 = .ok (.iload 8, 2) := by decide +kernel
theorem dX4_tell_319 : decode cX4_tell 319 = .ok (.iconst 1, 1) := by decide +kernel
theorem dX4_tell_320 : decode cX4_tell 320 = .ok (.if_icmp .ge 7, 3) := by decide +kernel
theorem dX4_tell_323 : decode cX4_tell 323 = .ok (.iconst 0, 1) := by decide +kernel
theorem dX4_tell_324 : decode cX4_tell 324 = .ok (.goto 21, 3) := by decide +kernel
theorem dX4_tell_327 : decode cX4_tell 327 = .ok (.iconst 0, 1) := by decide +kernel
theorem dX4_tell_328 : decode cX4_tell 328 = .ok (.bipush 99, 2) := by decide +kernel
theorem dX4_tell_330 : decode cX4_tell 330 = .ok (.aload_n 0, 1) := by decide +kernel
theorem dX4_tell_331 : decode cX4_tell 331 = .ok (.getfield 25, 3) := by decide +kernel
theorem dX4_tell_334 : decode cX4_tell 334 = .ok (.iload 8, 2) := by decide +kernel
theorem dX4_tell_336 : decode cX4_tell 336 = .ok (.iconst 1, 1) := by decide +kernel
theorem dX4_tell_337 : decode cX4_tell 337 = .ok (.isub, 1) := by decide +kernel
theorem dX4_tell_338 : decode cX4_tell 338 = .ok (.iaload, 1) := by decide +kernel
theorem dX4_tell_339 : decode cX4_tell 339 = .ok (.invokestatic 56, 3) := by decide +kernel
theorem dX4_tell_342 : decode cX4_tell 342 = .ok (.invokestatic 62, 3) := by decide +kernel
theorem dX4_tell_345 : decode cX4_tell 345 = .ok (.ireturn, 1) := by decide +kernel
theorem dX7_seconds_0 : decode cX7_seconds 0 = .ok (.aload_n 0, 1) := by decide +kernel
theorem dX7_seconds_1 : decode cX7_seconds 1 = .ok (.getfield 9, 3) := by decide +kernel
theorem dX7_seconds_4 : decode cX7_seconds 4 = .ok (.iload_n 2, 1) := by decide +kernel
theorem dX7_seconds_5 : decode cX7_seconds 5 = .ok (.invokevirtual 25, 3) := by decide +kernel
theorem dX7_seconds_8 : decode cX7_seconds 8 = .ok (.ifCond .ne 5, 3) := by decide +kernel
theorem dX7_seconds_11 : decode cX7_seconds 11 = .ok (.iconst 0, 1) := by decide +kernel
theorem dX7_seconds_12 : decode cX7_seconds 12 = .ok (.ireturn, 1) := by decide +kernel
theorem dX7_seconds_13 : decode cX7_seconds 13 = .ok (.aload_n 0, 1) := by decide +kernel
theorem dX7_seconds_14 : decode cX7_seconds 14 = .ok (.getfield 9, 3) := by decide +kernel
theorem dX7_seconds_17 : decode cX7_seconds 17 = .ok (.getfield 31, 3) := by decide +kernel
theorem dX7_seconds_20 : decode cX7_seconds 20 = .ok (.iload_n 2, 1) := by decide +kernel
theorem dX7_seconds_21 : decode cX7_seconds 21 = .ok (.iaload, 1) := by decide +kernel
theorem dX7_seconds_22 : decode cX7_seconds 22 = .ok (.istore 4, 2) := by decide +kernel
theorem dX7_seconds_24 : decode cX7_seconds 24 = .ok (.aload_n 0, 1) := by decide +kernel
theorem dX7_seconds_25 : decode cX7_seconds 25 = .ok (.getfield 9, 3) := by decide +kernel
theorem dX7_seconds_28 : decode cX7_seconds 28 = .ok (.getfield 35, 3) := by decide +kernel
theorem dX7_seconds_31 : decode cX7_seconds 31 = .ok (.iload_n 2, 1) := by decide +kernel
theorem dX7_seconds_32 : decode cX7_seconds 32 = .ok (.iaload, 1) := by decide +kernel
theorem dX7_seconds_33 : decode cX7_seconds 33 = .ok (.istore 5, 2) := by decide +kernel
theorem dX7_seconds_35 : decode cX7_seconds 35 = .ok (.iload 4, 2) := by decide +kernel
theorem dX7_seconds_37 : decode cX7_seconds 37 = .ok (.aload_n 0, 1) := by decide +kernel
theorem dX7_seconds_38 : decode cX7_seconds 38 = .ok (.getfield 15, 3) := by decide +kernel
theorem dX7_seconds_41 : decode cX7_seconds 41 = .ok (.iconst 0, 1) := by decide +kernel
theorem dX7_seconds_42 : decode cX7_seconds 42 = .ok (.iload 4, 2) := by decide +kernel
theorem dX7_seconds_44 : decode cX7_seconds 44 = .ok (.iload 5, 2) := by decide +kernel
theorem dX7_seconds_46 : decode cX7_seconds 46 = .ok (.iload_n 3, 1) := by decide +kernel
theorem dX7_seconds_47 : decode cX7_seconds 47 = .ok (.iconst 0, 1) := by decide +kernel
theorem dX7_seconds_48 : decode cX7_seconds 48 = .ok (.invokevirtual 19, 3) := by decide +kernel
theorem dX7_seconds_51 : decode cX7_seconds 51 = .ok (.imul, 1) := by decide +kernel
theorem dX7_seconds_52 : decode cX7_seconds 52 = .ok (.istore 6, 2) := by decide +kernel
theorem dX7_seconds_54 : decode cX7_seconds 54 = .ok (.iload_n 1, 1) := by decide +kernel
theorem dX7_seconds_55 : decode cX7_seconds 55 = .ok (.tableswitch 88 1 5 #[33, 41, 49, 72, 83], 33) := by decide +kernel
theorem dX7_seconds_88 : decode cX7_seconds 88 = .ok (.iload 6, 2) := by decide +kernel
theorem dX7_seconds_90 : decode cX7_seconds 90 = .ok (.iconst 5, 1) := by decide +kernel
theorem dX7_seconds_91 : decode cX7_seconds 91 = .ok (.iload 5, 2) := by decide +kernel
theorem dX7_seconds_93 : decode cX7_seconds 93 = .ok (.imul, 1) := by decide +kernel
theorem dX7_seconds_94 : decode cX7_seconds 94 = .ok (.iadd, 1) := by decide +kernel
theorem dX7_seconds_95 : decode cX7_seconds 95 = .ok (.ireturn, 1) := by decide +kernel
theorem dX7_seconds_96 : decode cX7_seconds 96 = .ok (.iload 6, 2) := by decide +kernel
theorem dX7_seconds_98 : decode cX7_seconds 98 = .ok (.bipush 60, 2) := by decide +kernel
theorem dX7_seconds_100 : decode cX7_seconds 100 = .ok (.invokestatic 38, 3) := by decide +kernel
theorem dX7_seconds_103 : decode cX7_seconds 103 = .ok (.ireturn, 1) := by decide +kernel
theorem dX7_seconds_104 : decode cX7_seconds 104 = .ok (.iload 6, 2) := by decide +kernel
theorem dX7_seconds_106 : decode cX7_seconds 106 = .ok (.iconst 5, 1) := by decide +kernel
theorem dX7_seconds_107 : decode cX7_seconds 107 = .ok (.iload 5, 2) := by decide +kernel
theorem dX7_seconds_109 : decode cX7_seconds 109 = .ok (.imul, 1) := by decide +kernel
theorem dX7_seconds_110 : decode cX7_seconds 110 = .ok (.iadd, 1) := by decide +kernel
theorem dX7_seconds_111 : decode cX7_seconds 111 = .ok (.iload 4, 2) := by decide +kernel
theorem dX7_seconds_113 : decode cX7_seconds 113 = .ok (.iconst 2, 1) := by decide +kernel
theorem dX7_seconds_114 : decode cX7_seconds 114 = .ok (.irem, 1) := by decide +kernel
theorem dX7_seconds_115 : decode cX7_seconds 115 = .ok (.iconst 1, 1) := by decide +kernel
theorem dX7_seconds_116 : decode cX7_seconds 116 = .ok (.if_icmp .ne 8, 3) := by decide +kernel
theorem dX7_seconds_119 : decode cX7_seconds 119 = .ok (.bipush 20, 2) := by decide +kernel
theorem dX7_seconds_121 : decode cX7_seconds 121 = .ok (.goto 4, 3) := by decide +kernel
theorem dX7_seconds_124 : decode cX7_seconds 124 = .ok (.iconst 0, 1) := by decide +kernel
theorem dX7_seconds_125 : decode cX7_seconds 125 = .ok (.iadd, 1) := by decide +kernel
theorem dX7_seconds_126 : decode cX7_seconds 126 = .ok (.ireturn, 1) := by decide +kernel
theorem dX7_seconds_127 : decode cX7_seconds 127 = .ok (.iload 6, 2) := by decide +kernel
theorem dX7_seconds_129 : decode cX7_seconds 129 = .ok (.bipush 60, 2) := by decide +kernel
theorem dX7_seconds_131 : decode cX7_seconds 131 = .ok (.invokestatic 38, 3) := by decide +kernel
theorem dX7_seconds_134 : decode cX7_seconds 134 = .ok (.iload 5, 2) := by decide +kernel
theorem dX7_seconds_136 : decode cX7_seconds 136 = .ok (.iadd, 1) := by decide +kernel
theorem dX7_seconds_137 : decode cX7_seconds 137 = .ok (.ireturn, 1) := by decide +kernel
theorem dX7_seconds_138 : decode cX7_seconds 138 = .ok (.iload 6, 2) := by decide +kernel
theorem dX7_seconds_140 : decode cX7_seconds 140 = .ok (.iconst 2, 1) := by decide +kernel
theorem dX7_seconds_141 : decode cX7_seconds 141 = .ok (.idiv, 1) := by decide +kernel
theorem dX7_seconds_142 : decode cX7_seconds 142 = .ok (.ireturn, 1) := by decide +kernel
theorem dX7_seconds_143 : decode cX7_seconds 143 = .ok (.iload 6, 2) := by decide +kernel
theorem dX7_seconds_145 : decode cX7_seconds 145 = .ok (.ireturn, 1) := by decide +kernel
theorem dX7_minds_0 : decode cX7_minds 0 = .ok (.aload_n 0, 1) := by decide +kernel
theorem dX7_minds_1 : decode cX7_minds 1 = .ok (.getfield 9, 3) := by decide +kernel
theorem dX7_minds_4 : decode cX7_minds 4 = .ok (.iload_n 1, 1) := by decide +kernel
theorem dX7_minds_5 : decode cX7_minds 5 = .ok (.invokevirtual 25, 3) := by decide +kernel
theorem dX7_minds_8 : decode cX7_minds 8 = .ok (.ifCond .ne 5, 3) := by decide +kernel
theorem dX7_minds_11 : decode cX7_minds 11 = .ok (.iconst 0, 1) := by decide +kernel
theorem dX7_minds_12 : decode cX7_minds 12 = .ok (.ireturn, 1) := by decide +kernel
theorem dX7_minds_13 : decode cX7_minds 13 = .ok (.aload_n 0, 1) := by decide +kernel
theorem dX7_minds_14 : decode cX7_minds 14 = .ok (.getfield 9, 3) := by decide +kernel
theorem dX7_minds_17 : decode cX7_minds 17 = .ok (.getfield 35, 3) := by decide +kernel
theorem dX7_minds_20 : decode cX7_minds 20 = .ok (.iload_n 1, 1) := by decide +kernel
theorem dX7_minds_21 : decode cX7_minds 21 = .ok (.iaload, 1) := by decide +kernel
theorem dX7_minds_22 : decode cX7_minds 22 = .ok (.istore_n 3, 1) := by decide +kernel
theorem dX7_minds_23 : decode cX7_minds 23 = .ok (.aload_n 0, 1) := by decide +kernel
theorem dX7_minds_24 : decode cX7_minds 24 = .ok (.getfield 15, 3) := by decide +kernel
theorem dX7_minds_27 : decode cX7_minds 27 = .ok (.iconst 1, 1) := by decide +kernel
theorem dX7_minds_28 : decode cX7_minds 28 = .ok (.aload_n 0, 1) := by decide +kernel
theorem dX7_minds_29 : decode cX7_minds 29 = .ok (.getfield 9, 3) := by decide +kernel
theorem dX7_minds_32 : decode cX7_minds 32 = .ok (.getfield 31, 3) := by decide +kernel
theorem dX7_minds_35 : decode cX7_minds 35 = .ok (.iload_n 1, 1) := by decide +kernel
theorem dX7_minds_36 : decode cX7_minds 36 = .ok (.iaload, 1) := by decide +kernel
theorem dX7_minds_37 : decode cX7_minds 37 = .ok (.iload_n 3, 1) := by decide +kernel
theorem dX7_minds_38 : decode cX7_minds 38 = .ok (.iload_n 1, 1) := by decide +kernel
theorem dX7_minds_39 : decode cX7_minds 39 = .ok (.iload_n 2, 1) := by decide +kernel
theorem dX7_minds_40 : decode cX7_minds 40 = .ok (.invokevirtual 19, 3) := by decide +kernel
theorem dX7_minds_43 : decode cX7_minds 43 = .ok (.istore 4, 2) := by decide +kernel
theorem dX7_minds_45 : decode cX7_minds 45 = .ok (.aload_n 0, 1) := by decide +kernel
theorem dX7_minds_46 : decode cX7_minds 46 = .ok (.getfield 9, 3) := by decide +kernel
theorem dX7_minds_49 : decode cX7_minds 49 = .ok (.getfield 44, 3) := by decide +kernel
theorem dX7_minds_52 : decode cX7_minds 52 = .ok (.iload_n 1, 1) := by decide +kernel
theorem dX7_minds_53 : decode cX7_minds 53 = .ok (.iaload, 1) := by decide +kernel
theorem dX7_minds_54 : decode cX7_minds 54 = .ok (.tableswitch 53 2 5 #[30, 35, 37, 48], 30) := by decide +kernel
theorem dX7_minds_84 : decode cX7_minds 84 = .ok (.iconst 2, 1) := by decide +kernel
theorem dX7_minds_85 : decode cX7_minds 85 = .ok (.iload 4, 2) := by decide +kernel
theorem dX7_minds_87 : decode cX7_minds 87 = .ok (.imul, 1) := by decide +kernel
theorem dX7_minds_88 : decode cX7_minds 88 = .ok (.ireturn, 1) := by decide +kernel
theorem dX7_minds_89 : decode cX7_minds 89 = .ok (.iconst 0, 1) := by decide +kernel
theorem dX7_minds_90 : decode cX7_minds 90 = .ok (.ireturn, 1) := by decide +kernel
theorem dX7_minds_91 : decode cX7_minds 91 = .ok (.iconst 0, 1) := by decide +kernel
theorem dX7_minds_92 : decode cX7_minds 92 = .ok (.iconst 2, 1) := by decide +kernel
theorem dX7_minds_93 : decode cX7_minds 93 = .ok (.iload 4, 2) := by decide +kernel
theorem dX7_minds_95 : decode cX7_minds 95 = .ok (.imul, 1) := by decide +kernel
theorem dX7_minds_96 : decode cX7_minds 96 = .ok (.iload_n 3, 1) := by decide +kernel
theorem dX7_minds_97 : decode cX7_minds 97 = .ok (.isub, 1) := by decide +kernel
theorem dX7_minds_98 : decode cX7_minds 98 = .ok (.invokestatic 47, 3) := by decide +kernel
theorem dX7_minds_101 : decode cX7_minds 101 = .ok (.ireturn, 1) := by decide +kernel
theorem dX7_minds_102 : decode cX7_minds 102 = .ok (.iload 4, 2) := by decide +kernel
theorem dX7_minds_104 : decode cX7_minds 104 = .ok (.iconst 1, 1) := by decide +kernel
theorem dX7_minds_105 : decode cX7_minds 105 = .ok (.iadd, 1) := by decide +kernel
theorem dX7_minds_106 : decode cX7_minds 106 = .ok (.ireturn, 1) := by decide +kernel
theorem dX7_minds_107 : decode cX7_minds 107 = .ok (.iload 4, 2) := by decide +kernel
theorem dX7_minds_109 : decode cX7_minds 109 = .ok (.ireturn, 1) := by decide +kernel
theorem dX7_turnChanged_0 : decode cX7_turnChanged 0 = .ok (.iconst 0, 1) := by decide +kernel
theorem dX7_turnChanged_1 : decode cX7_turnChanged 1 = .ok (.istore_n 3, 1) := by decide +kernel
theorem dX7_turnChanged_2 : decode cX7_turnChanged 2 = .ok (.iconst 0, 1) := by decide +kernel
theorem dX7_turnChanged_3 : decode cX7_turnChanged 3 = .ok (.istore 4, 2) := by decide +kernel
theorem dX7_turnChanged_5 : decode cX7_turnChanged 5 = .ok (.iload 4, 2) := by decide +kernel
theorem dX7_turnChanged_7 : decode cX7_turnChanged 7 = .ok (.aload_n 0, 1) := by decide +kernel
theorem dX7_turnChanged_8 : decode cX7_turnChanged 8 = .ok (.getfield 9, 3) := by decide +kernel
theorem dX7_turnChanged_11 : decode cX7_turnChanged 11 = .ok (.getfield 50, 3) := by decide +kernel
theorem dX7_turnChanged_14 : decode cX7_turnChanged 14 = .ok (.if_icmp .ge 67, 3) := by decide +kernel
theorem dX7_turnChanged_17 : decode cX7_turnChanged 17 = .ok (.iload 4, 2) := by decide +kernel
theorem dX7_turnChanged_19 : decode cX7_turnChanged 19 = .ok (.aload_n 0, 1) := by decide +kernel
theorem dX7_turnChanged_20 : decode cX7_turnChanged 20 = .ok (.getfield 9, 3) := by decide +kernel
theorem dX7_turnChanged_23 : decode cX7_turnChanged 23 = .ok (.getfield 54, 3) := by decide +kernel
theorem dX7_turnChanged_26 : decode cX7_turnChanged 26 = .ok (.if_icmp .ge 55, 3) := by decide +kernel
theorem dX7_turnChanged_29 : decode cX7_turnChanged 29 = .ok (.iload 4, 2) := by decide +kernel
theorem dX7_turnChanged_31 : decode cX7_turnChanged 31 = .ok (.iload_n 1, 1) := by decide +kernel
theorem dX7_turnChanged_32 : decode cX7_turnChanged 32 = .ok (.if_icmp .ne 18, 3) := by decide +kernel
theorem dX7_turnChanged_35 : decode cX7_turnChanged 35 = .ok (.aload_n 0, 1) := by decide +kernel
theorem dX7_turnChanged_36 : decode cX7_turnChanged 36 = .ok (.getfield 9, 3) := by decide +kernel
theorem dX7_turnChanged_39 : decode cX7_turnChanged 39 = .ok (.iload_n 2, 1) := by decide +kernel
theorem dX7_turnChanged_40 : decode cX7_turnChanged 40 = .ok (.invokevirtual 25, 3) := by decide +kernel
theorem dX7_turnChanged_43 : decode cX7_turnChanged 43 = .ok (.ifCond .eq 7, 3) := by decide +kernel
theorem dX7_turnChanged_46 : decode cX7_turnChanged 46 = .ok (.iload_n 2, 1) := by decide +kernel
theorem dX7_turnChanged_47 : decode cX7_turnChanged 47 = .ok (.goto 5, 3) := by decide +kernel
theorem dX7_turnChanged_50 : decode cX7_turnChanged 50 = .ok (.iload 4, 2) := by decide +kernel
theorem dX7_turnChanged_52 : decode cX7_turnChanged 52 = .ok (.istore 5, 2) := by decide +kernel
theorem dX7_turnChanged_54 : decode cX7_turnChanged 54 = .ok (.iload_n 3, 1) := by decide +kernel
theorem dX7_turnChanged_55 : decode cX7_turnChanged 55 = .ok (.aload_n 0, 1) := by decide +kernel
theorem dX7_turnChanged_56 : decode cX7_turnChanged 56 = .ok (.aload_n 0, 1) := by decide +kernel
theorem dX7_turnChanged_57 : decode cX7_turnChanged 57 = .ok (.getfield 9, 3) := by decide +kernel
theorem dX7_turnChanged_60 : decode cX7_turnChanged 60 = .ok (.getfield 44, 3) := by decide +kernel
theorem dX7_turnChanged_63 : decode cX7_turnChanged 63 = .ok (.iload 5, 2) := by decide +kernel
theorem dX7_turnChanged_65 : decode cX7_turnChanged 65 = .ok (.iaload, 1) := by decide +kernel
theorem dX7_turnChanged_66 : decode cX7_turnChanged 66 = .ok (.iload 5, 2) := by decide +kernel
theorem dX7_turnChanged_68 : decode cX7_turnChanged 68 = .ok (.iload 4, 2) := by decide +kernel
theorem dX7_turnChanged_70 : decode cX7_turnChanged 70 = .ok (.invokevirtual 57, 3) := by decide +kernel
theorem dX7_turnChanged_73 : decode cX7_turnChanged 73 = .ok (.iadd, 1) := by decide +kernel
theorem dX7_turnChanged_74 : decode cX7_turnChanged 74 = .ok (.istore_n 3, 1) := by decide +kernel
theorem dX7_turnChanged_75 : decode cX7_turnChanged 75 = .ok (.iinc 4 1, 3) := by decide +kernel
theorem dX7_turnChanged_78 : decode cX7_turnChanged 78 = .ok (.goto (-73), 3) := by decide +kernel
theorem dX7_turnChanged_81 : decode cX7_turnChanged 81 = .ok (.iload_n 3, 1) := by decide +kernel
theorem dX7_turnChanged_82 : decode cX7_turnChanged 82 = .ok (.ireturn, 1) := by decide +kernel
theorem dX5_holds_0 : decode cX5_holds 0 = .ok (.iload_n 1, 1) := by decide +kernel
theorem dX5_holds_1 : decode cX5_holds 1 = .ok (.ifCond .lt 12, 3) := by decide +kernel
theorem dX5_holds_4 : decode cX5_holds 4 = .ok (.iload_n 1, 1) := by decide +kernel
theorem dX5_holds_5 : decode cX5_holds 5 = .ok (.iconst 4, 1) := by decide +kernel
theorem dX5_holds_6 : decode cX5_holds 6 = .ok (.if_icmp .ge 7, 3) := by decide +kernel
theorem dX5_holds_9 : decode cX5_holds 9 = .ok (.iconst 1, 1) := by decide +kernel
theorem dX5_holds_10 : decode cX5_holds 10 = .ok (.goto 4, 3) := by decide +kernel
theorem dX5_holds_13 : decode cX5_holds 13 = .ok (.iconst 0, 1) := by decide +kernel
theorem dX5_holds_14 : decode cX5_holds 14 = .ok (.ireturn, 1) := by decide +kernel
theorem dX5_isMissing_0 : decode cX5_isMissing 0 = .ok (.aload_n 0, 1) := by decide +kernel
theorem dX5_isMissing_1 : decode cX5_isMissing 1 = .ok (.iload_n 1, 1) := by decide +kernel
theorem dX5_isMissing_2 : decode cX5_isMissing 2 = .ok (.invokevirtual 23, 3) := by decide +kernel
theorem dX5_isMissing_5 : decode cX5_isMissing 5 = .ok (.ifCond .eq 13, 3) := by decide +kernel
theorem dX5_isMissing_8 : decode cX5_isMissing 8 = .ok (.aload_n 0, 1) := by decide +kernel
theorem dX5_isMissing_9 : decode cX5_isMissing 9 = .ok (.getfield 9, 3) := by decide +kernel
theorem dX5_isMissing_12 : decode cX5_isMissing 12 = .ok (.iload_n 1, 1) := by decide +kernel
theorem dX5_isMissing_13 : decode cX5_isMissing 13 = .ok (.iaload, 1) := by decide +kernel
theorem dX5_isMissing_14 : decode cX5_isMissing 14 = .ok (.iconst (-1), 1) := by decide +kernel
theorem dX5_isMissing_15 : decode cX5_isMissing 15 = .ok (.if_icmp .ne 7, 3) := by decide +kernel
theorem dX5_isMissing_18 : decode cX5_isMissing 18 = .ok (.iconst 1, 1) := by decide +kernel
theorem dX5_isMissing_19 : decode cX5_isMissing 19 = .ok (.goto 4, 3) := by decide +kernel
theorem dX5_isMissing_22 : decode cX5_isMissing 22 = .ok (.iconst 0, 1) := by decide +kernel
theorem dX5_isMissing_23 : decode cX5_isMissing 23 = .ok (.ireturn, 1) := by decide +kernel
theorem dX7_pace_0 : decode cX7_pace 0 = .ok (.aload_n 0, 1) := by decide +kernel
theorem dX7_pace_1 : decode cX7_pace 1 = .ok (.getfield 15, 3) := by decide +kernel
theorem dX7_pace_4 : decode cX7_pace 4 = .ok (.iconst 2, 1) := by decide +kernel
theorem dX7_pace_5 : decode cX7_pace 5 = .ok (.iload_n 1, 1) := by decide +kernel
theorem dX7_pace_6 : decode cX7_pace 6 = .ok (.iconst 0, 1) := by decide +kernel
theorem dX7_pace_7 : decode cX7_pace 7 = .ok (.iconst 0, 1) := by decide +kernel
theorem dX7_pace_8 : decode cX7_pace 8 = .ok (.iconst 0, 1) := by decide +kernel
theorem dX7_pace_9 : decode cX7_pace 9 = .ok (.invokevirtual 19, 3) := by decide +kernel
theorem dX7_pace_12 : decode cX7_pace 12 = .ok (.ireturn, 1) := by decide +kernel
theorem dX5_lay_0 : decode cX5_lay 0 = .ok (.aload_n 0, 1) := by decide +kernel
theorem dX5_lay_1 : decode cX5_lay 1 = .ok (.iload_n 1, 1) := by decide +kernel
theorem dX5_lay_2 : decode cX5_lay 2 = .ok (.invokevirtual 23, 3) := by decide +kernel
theorem dX5_lay_5 : decode cX5_lay 5 = .ok (.ifCond .eq 13, 3) := by decide +kernel
theorem dX5_lay_8 : decode cX5_lay 8 = .ok (.iload_n 3, 1) := by decide +kernel
theorem dX5_lay_9 : decode cX5_lay 9 = .ok (.ifCond .lt 9, 3) := by decide +kernel
theorem dX5_lay_12 : decode cX5_lay 12 = .ok (.iload_n 3, 1) := by decide +kernel
theorem dX5_lay_13 : decode cX5_lay 13 = .ok (.bipush 40, 2) := by decide +kernel
theorem dX5_lay_15 : decode cX5_lay 15 = .ok (.if_icmp .le 4, 3) := by decide +kernel
theorem dX5_lay_18 : decode cX5_lay 18 = .ok (.return_, 1) := by decide +kernel
theorem dX5_lay_19 : decode cX5_lay 19 = .ok (.aload_n 0, 1) := by decide +kernel
theorem dX5_lay_20 : decode cX5_lay 20 = .ok (.getfield 9, 3) := by decide +kernel
theorem dX5_lay_23 : decode cX5_lay 23 = .ok (.iload_n 1, 1) := by decide +kernel
theorem dX5_lay_24 : decode cX5_lay 24 = .ok (.iload_n 2, 1) := by decide +kernel
theorem dX5_lay_25 : decode cX5_lay 25 = .ok (.iastore, 1) := by decide +kernel
theorem dX5_lay_26 : decode cX5_lay 26 = .ok (.aload_n 0, 1) := by decide +kernel
theorem dX5_lay_27 : decode cX5_lay 27 = .ok (.getfield 15, 3) := by decide +kernel
theorem dX5_lay_30 : decode cX5_lay 30 = .ok (.iload_n 1, 1) := by decide +kernel
theorem dX5_lay_31 : decode cX5_lay 31 = .ok (.iload_n 3, 1) := by decide +kernel
theorem dX5_lay_32 : decode cX5_lay 32 = .ok (.iastore, 1) := by decide +kernel
theorem dX5_lay_33 : decode cX5_lay 33 = .ok (.iconst 0, 1) := by decide +kernel
theorem dX5_lay_34 : decode cX5_lay 34 = .ok (.istore 4, 2) := by decide +kernel
theorem dX5_lay_36 : decode cX5_lay 36 = .ok (.iload 4, 2) := by decide +kernel
theorem dX5_lay_38 : decode cX5_lay 38 = .ok (.bipush 40, 2) := by decide +kernel
theorem dX5_lay_40 : decode cX5_lay 40 = .ok (.if_icmp .ge 19, 3) := by decide +kernel
theorem dX5_lay_43 : decode cX5_lay 43 = .ok (.aload_n 0, 1) := by decide +kernel
theorem dX5_lay_44 : decode cX5_lay 44 = .ok (.getfield 20, 3) := by decide +kernel
theorem dX5_lay_47 : decode cX5_lay 47 = .ok (.iload_n 1, 1) := by decide +kernel
theorem dX5_lay_48 : decode cX5_lay 48 = .ok (.aaload, 1) := by decide +kernel
theorem dX5_lay_49 : decode cX5_lay 49 = .ok (.iload 4, 2) := by decide +kernel
theorem dX5_lay_51 : decode cX5_lay 51 = .ok (.iconst 0, 1) := by decide +kernel
theorem dX5_lay_52 : decode cX5_lay 52 = .ok (.iastore, 1) := by decide +kernel
theorem dX5_lay_53 : decode cX5_lay 53 = .ok (.iinc 4 1, 3) := by decide +kernel
theorem dX5_lay_56 : decode cX5_lay 56 = .ok (.goto (-20), 3) := by decide +kernel
theorem dX5_lay_59 : decode cX5_lay 59 = .ok (.return_, 1) := by decide +kernel
theorem dX5_narrow_0 : decode cX5_narrow 0 = .ok (.iload_n 0, 1) := by decide +kernel
theorem dX5_narrow_1 : decode cX5_narrow 1 = .ok (.ifCond .ne 6, 3) := by decide +kernel
theorem dX5_narrow_4 : decode cX5_narrow 4 = .ok (.iload_n 1, 1) := by decide +kernel
theorem dX5_narrow_5 : decode cX5_narrow 5 = .ok (.i2b, 1) := by decide +kernel
theorem dX5_narrow_6 : decode cX5_narrow 6 = .ok (.ireturn, 1) := by decide +kernel
theorem dX5_narrow_7 : decode cX5_narrow 7 = .ok (.iload_n 0, 1) := by decide +kernel
theorem dX5_narrow_8 : decode cX5_narrow 8 = .ok (.iconst 2, 1) := by decide +kernel
theorem dX5_narrow_9 : decode cX5_narrow 9 = .ok (.if_icmp .ne 7, 3) := by decide +kernel
theorem dX5_narrow_12 : decode cX5_narrow 12 = .ok (.iload_n 1, 1) := by decide +kernel
theorem dX5_narrow_13 : decode cX5_narrow 13 = .ok (.goto 5, 3) := by decide +kernel
theorem dX5_narrow_16 : decode cX5_narrow 16 = .ok (.iload_n 1, 1) := by decide +kernel
theorem dX5_narrow_17 : decode cX5_narrow 17 = .ok (.i2s, 1) := by decide +kernel
theorem dX5_narrow_18 : decode cX5_narrow 18 = .ok (.ireturn, 1) := by decide +kernel
theorem dX5_write_0 : decode cX5_write 0 = .ok (.aload_n 0, 1) := by decide +kernel
theorem dX5_write_1 : decode cX5_write 1 = .ok (.iload_n 1, 1) := by decide +kernel
theorem dX5_write_2 : decode cX5_write 2 = .ok (.invokevirtual 23, 3) := by decide +kernel
theorem dX5_write_5 : decode cX5_write 5 = .ok (.ifCond .eq 17, 3) := by decide +kernel
theorem dX5_write_8 : decode cX5_write 8 = .ok (.iload_n 2, 1) := by decide +kernel
theorem dX5_write_9 : decode cX5_write 9 = .ok (.ifCond .lt 13, 3) := by decide +kernel
theorem dX5_write_12 : decode cX5_write 12 = .ok (.iload_n 2, 1) := by decide +kernel
theorem dX5_write_13 : decode cX5_write 13 = .ok (.aload_n 0, 1) := by decide +kernel
theorem dX5_write_14 : decode cX5_write 14 = .ok (.getfield 15, 3) := by decide +kernel
theorem dX5_write_17 : decode cX5_write 17 = .ok (.iload_n 1, 1) := by decide +kernel
theorem dX5_write_18 : decode cX5_write 18 = .ok (.iaload, 1) := by decide +kernel
theorem dX5_write_19 : decode cX5_write 19 = .ok (.if_icmp .lt 5, 3) := by decide +kernel
theorem dX5_write_22 : decode cX5_write 22 = .ok (.iconst 0, 1) := by decide +kernel
theorem dX5_write_23 : decode cX5_write 23 = .ok (.ireturn, 1) := by decide +kernel
theorem dX5_write_24 : decode cX5_write 24 = .ok (.aload_n 0, 1) := by decide +kernel
theorem dX5_write_25 : decode cX5_write 25 = .ok (.getfield 20, 3) := by decide +kernel
theorem dX5_write_28 : decode cX5_write 28 = .ok (.iload_n 1, 1) := by decide +kernel
theorem dX5_write_29 : decode cX5_write 29 = .ok (.aaload, 1) := by decide +kernel
theorem dX5_write_30 : decode cX5_write 30 = .ok (.iload_n 2, 1) := by decide +kernel
theorem dX5_write_31 : decode cX5_write 31 = .ok (.aload_n 0, 1) := by decide +kernel
theorem dX5_write_32 : decode cX5_write 32 = .ok (.getfield 9, 3) := by decide +kernel
theorem dX5_write_35 : decode cX5_write 35 = .ok (.iload_n 1, 1) := by decide +kernel
theorem dX5_write_36 : decode cX5_write 36 = .ok (.iaload, 1) := by decide +kernel
theorem dX5_write_37 : decode cX5_write 37 = .ok (.iload_n 3, 1) := by decide +kernel
theorem dX5_write_38 : decode cX5_write 38 = .ok (.invokestatic 27, 3) := by decide +kernel
theorem dX5_write_41 : decode cX5_write 41 = .ok (.iastore, 1) := by decide +kernel
theorem dX5_write_42 : decode cX5_write 42 = .ok (.iconst 1, 1) := by decide +kernel
theorem dX5_write_43 : decode cX5_write 43 = .ok (.ireturn, 1) := by decide +kernel
theorem dX1_keep_0 : decode cX1_keep 0 = .ok (.aload_n 0, 1) := by decide +kernel
theorem dX1_keep_1 : decode cX1_keep 1 = .ok (.iconst 1, 1) := by decide +kernel
theorem dX1_keep_2 : decode cX1_keep 2 = .ok (.putfield 27, 3) := by decide +kernel
theorem dX1_keep_5 : decode cX1_keep 5 = .ok (.aload_n 0, 1) := by decide +kernel
theorem dX1_keep_6 : decode cX1_keep 6 = .ok (.aload_n 1, 1) := by decide +kernel
theorem dX1_keep_7 : decode cX1_keep 7 = .ok (.getfield 31, 3) := by decide +kernel
theorem dX1_keep_10 : decode cX1_keep 10 = .ok (.putfield 37, 3) := by decide +kernel
theorem dX1_keep_13 : decode cX1_keep 13 = .ok (.aload_n 0, 1) := by decide +kernel
theorem dX1_keep_14 : decode cX1_keep 14 = .ok (.aload_n 1, 1) := by decide +kernel
theorem dX1_keep_15 : decode cX1_keep 15 = .ok (.getfield 38, 3) := by decide +kernel
theorem dX1_keep_18 : decode cX1_keep 18 = .ok (.putfield 41, 3) := by decide +kernel
theorem dX1_keep_21 : decode cX1_keep 21 = .ok (.aload_n 0, 1) := by decide +kernel
theorem dX1_keep_22 : decode cX1_keep 22 = .ok (.aload_n 1, 1) := by decide +kernel
theorem dX1_keep_23 : decode cX1_keep 23 = .ok (.getfield 44, 3) := by decide +kernel
theorem dX1_keep_26 : decode cX1_keep 26 = .ok (.putfield 47, 3) := by decide +kernel
theorem dX1_keep_29 : decode cX1_keep 29 = .ok (.aload_n 0, 1) := by decide +kernel
theorem dX1_keep_30 : decode cX1_keep 30 = .ok (.aload_n 3, 1) := by decide +kernel
theorem dX1_keep_31 : decode cX1_keep 31 = .ok (.getfield 48, 3) := by decide +kernel
theorem dX1_keep_34 : decode cX1_keep 34 = .ok (.putfield 53, 3) := by decide +kernel
theorem dX1_keep_37 : decode cX1_keep 37 = .ok (.aload_n 0, 1) := by decide +kernel
theorem dX1_keep_38 : decode cX1_keep 38 = .ok (.aload_n 2, 1) := by decide +kernel
theorem dX1_keep_39 : decode cX1_keep 39 = .ok (.getfield 54, 3) := by decide +kernel
theorem dX1_keep_42 : decode cX1_keep 42 = .ok (.putfield 57, 3) := by decide +kernel
theorem dX1_keep_45 : decode cX1_keep 45 = .ok (.aload_n 1, 1) := by decide +kernel
theorem dX1_keep_46 : decode cX1_keep 46 = .ok (.getfield 58, 3) := by decide +kernel
theorem dX1_keep_49 : decode cX1_keep 49 = .ok (.iconst 0, 1) := by decide +kernel
theorem dX1_keep_50 : decode cX1_keep 50 = .ok (.aload_n 0, 1) := by decide +kernel
theorem dX1_keep_51 : decode cX1_keep 51 = .ok (.getfield 9, 3) := by decide +kernel
theorem dX1_keep_54 : decode cX1_keep 54 = .ok (.iconst 0, 1) := by decide +kernel
theorem dX1_keep_55 : decode cX1_keep 55 = .ok (.bipush 8, 2) := by decide +kernel
theorem dX1_keep_57 : decode cX1_keep 57 = .ok (.invokestatic 59, 3) := by decide +kernel
theorem dX1_keep_60 : decode cX1_keep 60 = .ok (.aload_n 1, 1) := by decide +kernel
theorem dX1_keep_61 : decode cX1_keep 61 = .ok (.getfield 65, 3) := by decide +kernel
theorem dX1_keep_64 : decode cX1_keep 64 = .ok (.iconst 0, 1) := by decide +kernel
theorem dX1_keep_65 : decode cX1_keep 65 = .ok (.aload_n 0, 1) := by decide +kernel
theorem dX1_keep_66 : decode cX1_keep 66 = .ok (.getfield 15, 3) := by decide +kernel
theorem dX1_keep_69 : decode cX1_keep 69 = .ok (.iconst 0, 1) := by decide +kernel
theorem dX1_keep_70 : decode cX1_keep 70 = .ok (.bipush 8, 2) := by decide +kernel
theorem dX1_keep_72 : decode cX1_keep 72 = .ok (.invokestatic 59, 3) := by decide +kernel
theorem dX1_keep_75 : decode cX1_keep 75 = .ok (.aload_n 2, 1) := by decide +kernel
theorem dX1_keep_76 : decode cX1_keep 76 = .ok (.getfield 66, 3) := by decide +kernel
theorem dX1_keep_79 : decode cX1_keep 79 = .ok (.iconst 0, 1) := by decide +kernel
theorem dX1_keep_80 : decode cX1_keep 80 = .ok (.aload_n 0, 1) := by decide +kernel
theorem dX1_keep_81 : decode cX1_keep 81 = .ok (.getfield 18, 3) := by decide +kernel
theorem dX1_keep_84 : decode cX1_keep 84 = .ok (.iconst 0, 1) := by decide +kernel
theorem dX1_keep_85 : decode cX1_keep 85 = .ok (.bipush 6, 2) := by decide +kernel
theorem dX1_keep_87 : decode cX1_keep 87 = .ok (.invokestatic 59, 3) := by decide +kernel
theorem dX1_keep_90 : decode cX1_keep 90 = .ok (.aload_n 2, 1) := by decide +kernel
theorem dX1_keep_91 : decode cX1_keep 91 = .ok (.getfield 67, 3) := by decide +kernel
theorem dX1_keep_94 : decode cX1_keep 94 = .ok (.iconst 0, 1) := by decide +kernel
theorem dX1_keep_95 : decode cX1_keep 95 = .ok (.aload_n 0, 1) := by decide +kernel
theorem dX1_keep_96 : decode cX1_keep 96 = .ok (.getfield 21, 3) := by decide +kernel
theorem dX1_keep_99 : decode cX1_keep 99 = .ok (.iconst 0, 1) := by decide +kernel
theorem dX1_keep_100 : decode cX1_keep 100 = .ok (.bipush 6, 2) := by decide +kernel
theorem dX1_keep_102 : decode cX1_keep 102 = .ok (.invokestatic 59, 3) := by decide +kernel
theorem dX1_keep_105 : decode cX1_keep 105 = .ok (.aload_n 2, 1) := by decide +kernel
theorem dX1_keep_106 : decode cX1_keep 106 = .ok (.getfield 68, 3) := by decide +kernel
theorem dX1_keep_109 : decode cX1_keep 109 = .ok (.iconst 0, 1) := by decide +kernel
theorem dX1_keep_110 : decode cX1_keep 110 = .ok (.aload_n 0, 1) := by decide +kernel
theorem dX1_keep_111 : decode cX1_keep 111 = .ok (.getfield 24, 3) := by decide +kernel
theorem dX1_keep_114 : decode cX1_keep 114 = .ok (.iconst 0, 1) := by decide +kernel
theorem dX1_keep_115 : decode cX1_keep 115 = .ok (.bipush 6, 2) := by decide +kernel
theorem dX1_keep_117 : decode cX1_keep 117 = .ok (.invokestatic 59, 3) := by decide +kernel
theorem dX1_keep_120 : decode cX1_keep 120 = .ok (.return_, 1) := by decide +kernel
theorem dX1_restore_0 : decode cX1_restore 0 = .ok (.aload_n 1, 1) := by decide +kernel
theorem dX1_restore_1 : decode cX1_restore 1 = .ok (.aload_n 0, 1) := by decide +kernel
theorem dX1_restore_2 : decode cX1_restore 2 = .ok (.getfield 41, 3) := by decide +kernel
theorem dX1_restore_5 : decode cX1_restore 5 = .ok (.putfield 38, 3) := by decide +kernel
theorem dX1_restore_8 : decode cX1_restore 8 = .ok (.aload_n 1, 1) := by decide +kernel
theorem dX1_restore_9 : decode cX1_restore 9 = .ok (.aload_n 0, 1) := by decide +kernel
theorem dX1_restore_10 : decode cX1_restore 10 = .ok (.getfield 47, 3) := by decide +kernel
theorem dX1_restore_13 : decode cX1_restore 13 = .ok (.putfield 44, 3) := by decide +kernel
theorem dX1_restore_16 : decode cX1_restore 16 = .ok (.aload_n 3, 1) := by decide +kernel
theorem dX1_restore_17 : decode cX1_restore 17 = .ok (.aload_n 0, 1) := by decide +kernel
theorem dX1_restore_18 : decode cX1_restore 18 = .ok (.getfield 53, 3) := by decide +kernel
theorem dX1_restore_21 : decode cX1_restore 21 = .ok (.putfield 48, 3) := by decide +kernel
theorem dX1_restore_24 : decode cX1_restore 24 = .ok (.aload_n 2, 1) := by decide +kernel
theorem dX1_restore_25 : decode cX1_restore 25 = .ok (.aload_n 0, 1) := by decide +kernel
theorem dX1_restore_26 : decode cX1_restore 26 = .ok (.getfield 57, 3) := by decide +kernel
theorem dX1_restore_29 : decode cX1_restore 29 = .ok (.putfield 54, 3) := by decide +kernel
theorem dX1_restore_32 : decode cX1_restore 32 = .ok (.aload_n 0, 1) := by decide +kernel
theorem dX1_restore_33 : decode cX1_restore 33 = .ok (.getfield 9, 3) := by decide +kernel
theorem dX1_restore_36 : decode cX1_restore 36 = .ok (.iconst 0, 1) := by decide +kernel
theorem dX1_restore_37 : decode cX1_restore 37 = .ok (.aload_n 1, 1) := by decide +kernel
theorem dX1_restore_38 : decode cX1_restore 38 = .ok (.getfield 58, 3) := by decide +kernel
theorem dX1_restore_41 : decode cX1_restore 41 = .ok (.iconst 0, 1) := by decide +kernel
theorem dX1_restore_42 : decode cX1_restore 42 = .ok (.bipush 8, 2) := by decide +kernel
theorem dX1_restore_44 : decode cX1_restore 44 = .ok (.invokestatic 59, 3) := by decide +kernel
theorem dX1_restore_47 : decode cX1_restore 47 = .ok (.aload_n 0, 1) := by decide +kernel
theorem dX1_restore_48 : decode cX1_restore 48 = .ok (.getfield 15, 3) := by decide +kernel
theorem dX1_restore_51 : decode cX1_restore 51 = .ok (.iconst 0, 1) := by decide +kernel
theorem dX1_restore_52 : decode cX1_restore 52 = .ok (.aload_n 1, 1) := by decide +kernel
theorem dX1_restore_53 : decode cX1_restore 53 = .ok (.getfield 65, 3) := by decide +kernel
theorem dX1_restore_56 : decode cX1_restore 56 = .ok (.iconst 0, 1) := by decide +kernel
theorem dX1_restore_57 : decode cX1_restore 57 = .ok (.bipush 8, 2) := by decide +kernel
theorem dX1_restore_59 : decode cX1_restore 59 = .ok (.invokestatic 59, 3) := by decide +kernel
theorem dX1_restore_62 : decode cX1_restore 62 = .ok (.aload_n 0, 1) := by decide +kernel
theorem dX1_restore_63 : decode cX1_restore 63 = .ok (.getfield 18, 3) := by decide +kernel
theorem dX1_restore_66 : decode cX1_restore 66 = .ok (.iconst 0, 1) := by decide +kernel
theorem dX1_restore_67 : decode cX1_restore 67 = .ok (.aload_n 2, 1) := by decide +kernel
theorem dX1_restore_68 : decode cX1_restore 68 = .ok (.getfield 66, 3) := by decide +kernel
theorem dX1_restore_71 : decode cX1_restore 71 = .ok (.iconst 0, 1) := by decide +kernel
theorem dX1_restore_72 : decode cX1_restore 72 = .ok (.bipush 6, 2) := by decide +kernel
theorem dX1_restore_74 : decode cX1_restore 74 = .ok (.invokestatic 59, 3) := by decide +kernel
theorem dX1_restore_77 : decode cX1_restore 77 = .ok (.aload_n 0, 1) := by decide +kernel
theorem dX1_restore_78 : decode cX1_restore 78 = .ok (.getfield 21, 3) := by decide +kernel
theorem dX1_restore_81 : decode cX1_restore 81 = .ok (.iconst 0, 1) := by decide +kernel
theorem dX1_restore_82 : decode cX1_restore 82 = .ok (.aload_n 2, 1) := by decide +kernel
theorem dX1_restore_83 : decode cX1_restore 83 = .ok (.getfield 67, 3) := by decide +kernel
theorem dX1_restore_86 : decode cX1_restore 86 = .ok (.iconst 0, 1) := by decide +kernel
theorem dX1_restore_87 : decode cX1_restore 87 = .ok (.bipush 6, 2) := by decide +kernel
theorem dX1_restore_89 : decode cX1_restore 89 = .ok (.invokestatic 59, 3) := by decide +kernel
theorem dX1_restore_92 : decode cX1_restore 92 = .ok (.aload_n 0, 1) := by decide +kernel
theorem dX1_restore_93 : decode cX1_restore 93 = .ok (.getfield 24, 3) := by decide +kernel
theorem dX1_restore_96 : decode cX1_restore 96 = .ok (.iconst 0, 1) := by decide +kernel
theorem dX1_restore_97 : decode cX1_restore 97 = .ok (.aload_n 2, 1) := by decide +kernel
theorem dX1_restore_98 : decode cX1_restore 98 = .ok (.getfield 68, 3) := by decide +kernel
theorem dX1_restore_101 : decode cX1_restore 101 = .ok (.iconst 0, 1) := by decide +kernel
theorem dX1_restore_102 : decode cX1_restore 102 = .ok (.bipush 6, 2) := by decide +kernel
theorem dX1_restore_104 : decode cX1_restore 104 = .ok (.invokestatic 59, 3) := by decide +kernel
theorem dX1_restore_107 : decode cX1_restore 107 = .ok (.return_, 1) := by decide +kernel
theorem dX5_spans_0 : decode cX5_spans 0 = .ok (.aload_n 0, 1) := by decide +kernel
theorem dX5_spans_1 : decode cX5_spans 1 = .ok (.iload_n 1, 1) := by decide +kernel
theorem dX5_spans_2 : decode cX5_spans 2 = .ok (.invokevirtual 23, 3) := by decide +kernel
theorem dX5_spans_5 : decode cX5_spans 5 = .ok (.ifCond .eq 31, 3) := by decide +kernel
theorem dX5_spans_8 : decode cX5_spans 8 = .ok (.iload_n 2, 1) := by decide +kernel
theorem dX5_spans_9 : decode cX5_spans 9 = .ok (.ifCond .lt 27, 3) := by decide +kernel
theorem dX5_spans_12 : decode cX5_spans 12 = .ok (.iload_n 3, 1) := by decide +kernel
theorem dX5_spans_13 : decode cX5_spans 13 = .ok (.ifCond .lt 23, 3) := by decide +kernel
theorem dX5_spans_16 : decode cX5_spans 16 = .ok (.iload_n 2, 1) := by decide +kernel
theorem dX5_spans_17 : decode cX5_spans 17 = .ok (.i2l, 1) := by decide +kernel
theorem dX5_spans_18 : decode cX5_spans 18 = .ok (.iload_n 3, 1) := by decide +kernel
theorem dX5_spans_19 : decode cX5_spans 19 = .ok (.i2l, 1) := by decide +kernel
theorem dX5_spans_20 : decode cX5_spans 20 = .ok (.ladd, 1) := by decide +kernel
theorem dX5_spans_21 : decode cX5_spans 21 = .ok (.aload_n 0, 1) := by decide +kernel
theorem dX5_spans_22 : decode cX5_spans 22 = .ok (.getfield 15, 3) := by decide +kernel
theorem dX5_spans_25 : decode cX5_spans 25 = .ok (.iload_n 1, 1) := by decide +kernel
theorem dX5_spans_26 : decode cX5_spans 26 = .ok (.iaload, 1) := by decide +kernel
theorem dX5_spans_27 : decode cX5_spans 27 = .ok (.i2l, 1) := by decide +kernel
theorem dX5_spans_28 : decode cX5_spans 28 = .ok (.lcmp, 1) := by decide +kernel
theorem dX5_spans_29 : decode cX5_spans 29 = .ok (.ifCond .gt 7, 3) := by decide +kernel
theorem dX5_spans_32 : decode cX5_spans 32 = .ok (.iconst 1, 1) := by decide +kernel
theorem dX5_spans_33 : decode cX5_spans 33 = .ok (.goto 4, 3) := by decide +kernel
theorem dX5_spans_36 : decode cX5_spans 36 = .ok (.iconst 0, 1) := by decide +kernel
theorem dX5_spans_37 : decode cX5_spans 37 = .ok (.ireturn, 1) := by decide +kernel
-- KeepOurPlace$Rules.add
def F4_add (M : Mem) : Option (Int32 × Mem) :=
    if (M 16 5) < (6 : Int32) then
      if inb (M 16 5) 6 = true then
      if inb ((upA M (18 + (Int32.toNatClampNeg (M 16 5))) (va_cpy (M 14) (M (18 + (Int32.toNatClampNeg (M 16 5)))) 0 0 160)) 16 5) 6 = true then
      some (((((upA (upA M (18 + (Int32.toNatClampNeg (M 16 5))) (va_cpy (M 14) (M (18 + (Int32.toNatClampNeg (M 16 5)))) 0 0 160)) (25 + (Int32.toNatClampNeg ((upA M (18 + (Int32.toNatClampNeg (M 16 5))) (va_cpy (M 14) (M (18 + (Int32.toNatClampNeg (M 16 5)))) 0 0 160)) 16 5))) (va_cpy ((upA M (18 + (Int32.toNatClampNeg (M 16 5))) (va_cpy (M 14) (M (18 + (Int32.toNatClampNeg (M 16 5)))) 0 0 160)) 15) ((upA M (18 + (Int32.toNatClampNeg (M 16 5))) (va_cpy (M 14) (M (18 + (Int32.toNatClampNeg (M 16 5)))) 0 0 160)) (25 + (Int32.toNatClampNeg ((upA M (18 + (Int32.toNatClampNeg (M 16 5))) (va_cpy (M 14) (M (18 + (Int32.toNatClampNeg (M 16 5)))) 0 0 160)) 16 5)))) 0 0 4)) 16 5) + (1 : Int32)) - (1 : Int32)), (up2 (upA (upA M (18 + (Int32.toNatClampNeg (M 16 5))) (va_cpy (M 14) (M (18 + (Int32.toNatClampNeg (M 16 5)))) 0 0 160)) (25 + (Int32.toNatClampNeg ((upA M (18 + (Int32.toNatClampNeg (M 16 5))) (va_cpy (M 14) (M (18 + (Int32.toNatClampNeg (M 16 5)))) 0 0 160)) 16 5))) (va_cpy ((upA M (18 + (Int32.toNatClampNeg (M 16 5))) (va_cpy (M 14) (M (18 + (Int32.toNatClampNeg (M 16 5)))) 0 0 160)) 15) ((upA M (18 + (Int32.toNatClampNeg (M 16 5))) (va_cpy (M 14) (M (18 + (Int32.toNatClampNeg (M 16 5)))) 0 0 160)) (25 + (Int32.toNatClampNeg ((upA M (18 + (Int32.toNatClampNeg (M 16 5))) (va_cpy (M 14) (M (18 + (Int32.toNatClampNeg (M 16 5)))) 0 0 160)) 16 5)))) 0 0 4)) 16 5 (((upA (upA M (18 + (Int32.toNatClampNeg (M 16 5))) (va_cpy (M 14) (M (18 + (Int32.toNatClampNeg (M 16 5)))) 0 0 160)) (25 + (Int32.toNatClampNeg ((upA M (18 + (Int32.toNatClampNeg (M 16 5))) (va_cpy (M 14) (M (18 + (Int32.toNatClampNeg (M 16 5)))) 0 0 160)) 16 5))) (va_cpy ((upA M (18 + (Int32.toNatClampNeg (M 16 5))) (va_cpy (M 14) (M (18 + (Int32.toNatClampNeg (M 16 5)))) 0 0 160)) 15) ((upA M (18 + (Int32.toNatClampNeg (M 16 5))) (va_cpy (M 14) (M (18 + (Int32.toNatClampNeg (M 16 5)))) 0 0 160)) (25 + (Int32.toNatClampNeg ((upA M (18 + (Int32.toNatClampNeg (M 16 5))) (va_cpy (M 14) (M (18 + (Int32.toNatClampNeg (M 16 5)))) 0 0 160)) 16 5)))) 0 0 4)) 16 5) + (1 : Int32))))
      else none
      else none
    else
      some ((-4 : Int32), M)
set_option maxRecDepth 20000 in
theorem F4_add_ok {p : Program} {l : Launch} {e : Env} {s : State} {m : MethodId} {args : Array Value} {below : List Frame} {meth : Method} {c : Code} {G : GG} {D : Nat} {r : Int32 × Mem} (F : FrP shA G p s m args c RX4 cX4_add 2) (hr : meth.sig.returnType = (some .int)) (hlk : meth.locks = false) (hD : 1 ≤ D) {M : Mem} (h : F4_add M = some r) : XJ shA p l e (rmX D) s m args below meth c 0 0 G 2 (MQ below (QcX shA G ((some (.int r.1), r.2) : Option Value × Mem).1 ((some (.int r.1), r.2) : Option Value × Mem).2) args s 0 0 (AW shA G.2.1)) 0 [(0, .ref 16), (1, .ref 9)] [] M := by
  unfold F4_add at h
  refine X_aload_n F dX4_add_0 rfl ?_
  refine X_geti (v := (M 16 5)) F ffRX4_32 dX4_add_1 rfl ?_
  refine X_bipush F dX4_add_4 (v := (6 : Int32)) rfl ?_
  refine X_icmp_lt (tgt := 12) F dX4_add_6 (by decide) (fun q1 => ?_) (fun q1 => ?_)
  · rw [if_pos q1] at h
    refine X_aload_n F dX4_add_12 rfl ?_
    refine X_getr F ffRX4_36 dX4_add_13 ?_
    refine X_iconst F dX4_add_16 (v := (0 : Int32)) rfl ?_
    refine X_aload_n F dX4_add_17 rfl ?_
    refine X_getr F ffRX4_11 dX4_add_18 ?_
    refine X_aload_n F dX4_add_21 rfl ?_
    refine X_geti (v := (M 16 5)) F ffRX4_32 dX4_add_22 rfl ?_
    obtain ⟨q2, h⟩ := ifS h
    refine X_aald (b := 18) F rfl (inbV q2) rfl dX4_add_25 ?_
    refine X_iconst F dX4_add_26 (v := (0 : Int32)) rfl ?_
    refine X_sipush F dX4_add_27 (v := (160 : Int32)) rfl ?_
    refine X_acopy (n0 := 160) (n1 := 160) F fmRX4_39 sys_n sys_s sys_i rfl (shR18 (inbV q2)) (by decide) (by decide) (by decide) (Nat.le_of_ble_eq_true rfl) (Nat.le_of_ble_eq_true rfl) (rm_1 (by omega)).1 (rm_w (n := 18) (by omega) (Nat.le_of_ble_eq_true rfl) (by decide)) dX4_add_30 ?_
    refine X_aload_n F dX4_add_33 rfl ?_
    refine X_getr F ffRX4_45 dX4_add_34 ?_
    refine X_iconst F dX4_add_37 (v := (0 : Int32)) rfl ?_
    refine X_aload_n F dX4_add_38 rfl ?_
    refine X_getr F ffRX4_16 dX4_add_39 ?_
    refine X_aload_n F dX4_add_42 rfl ?_
    refine X_geti (v := ((upA M (18 + (Int32.toNatClampNeg (M 16 5))) (va_cpy (M 14) (M (18 + (Int32.toNatClampNeg (M 16 5)))) 0 0 160)) 16 5)) F ffRX4_32 dX4_add_43 rfl ?_
    obtain ⟨q3, h⟩ := ifS h
    refine X_aald (b := 25) F rfl (inbV q3) rfl dX4_add_46 ?_
    refine X_iconst F dX4_add_47 (v := (0 : Int32)) rfl ?_
    refine X_iconst F dX4_add_48 (v := (4 : Int32)) rfl ?_
    refine X_acopy (n0 := 4) (n1 := 4) F fmRX4_39 sys_n sys_s sys_i rfl (shR25 (inbV q3)) (by decide) (by decide) (by decide) (Nat.le_of_ble_eq_true rfl) (Nat.le_of_ble_eq_true rfl) (rm_1 (by omega)).1 (rm_w (n := 18) (by omega) (Nat.le_of_ble_eq_true rfl) (by decide)) dX4_add_49 ?_
    refine X_aload_n F dX4_add_52 rfl ?_
    refine X_dup F dX4_add_53 rfl ?_
    refine X_geti (v := ((upA (upA M (18 + (Int32.toNatClampNeg (M 16 5))) (va_cpy (M 14) (M (18 + (Int32.toNatClampNeg (M 16 5)))) 0 0 160)) (25 + (Int32.toNatClampNeg ((upA M (18 + (Int32.toNatClampNeg (M 16 5))) (va_cpy (M 14) (M (18 + (Int32.toNatClampNeg (M 16 5)))) 0 0 160)) 16 5))) (va_cpy ((upA M (18 + (Int32.toNatClampNeg (M 16 5))) (va_cpy (M 14) (M (18 + (Int32.toNatClampNeg (M 16 5)))) 0 0 160)) 15) ((upA M (18 + (Int32.toNatClampNeg (M 16 5))) (va_cpy (M 14) (M (18 + (Int32.toNatClampNeg (M 16 5)))) 0 0 160)) (25 + (Int32.toNatClampNeg ((upA M (18 + (Int32.toNatClampNeg (M 16 5))) (va_cpy (M 14) (M (18 + (Int32.toNatClampNeg (M 16 5)))) 0 0 160)) 16 5)))) 0 0 4)) 16 5)) F ffRX4_32 dX4_add_54 rfl ?_
    refine X_iconst F dX4_add_57 (v := (1 : Int32)) rfl ?_
    refine X_iadd F dX4_add_58 ?_
    refine X_puti F ffRX4_32 fw4_5 (by decide) dX4_add_59 ?_
    refine X_aload_n F dX4_add_62 rfl ?_
    refine X_geti (v := (((upA (upA M (18 + (Int32.toNatClampNeg (M 16 5))) (va_cpy (M 14) (M (18 + (Int32.toNatClampNeg (M 16 5)))) 0 0 160)) (25 + (Int32.toNatClampNeg ((upA M (18 + (Int32.toNatClampNeg (M 16 5))) (va_cpy (M 14) (M (18 + (Int32.toNatClampNeg (M 16 5)))) 0 0 160)) 16 5))) (va_cpy ((upA M (18 + (Int32.toNatClampNeg (M 16 5))) (va_cpy (M 14) (M (18 + (Int32.toNatClampNeg (M 16 5)))) 0 0 160)) 15) ((upA M (18 + (Int32.toNatClampNeg (M 16 5))) (va_cpy (M 14) (M (18 + (Int32.toNatClampNeg (M 16 5)))) 0 0 160)) (25 + (Int32.toNatClampNeg ((upA M (18 + (Int32.toNatClampNeg (M 16 5))) (va_cpy (M 14) (M (18 + (Int32.toNatClampNeg (M 16 5)))) 0 0 160)) 16 5)))) 0 0 4)) 16 5) + (1 : Int32))) F ffRX4_32 dX4_add_63 rfl ?_
    refine X_iconst F dX4_add_66 (v := (1 : Int32)) rfl ?_
    refine X_isub F dX4_add_67 ?_
    exact X_iret F hr hlk (retI h) dX4_add_68
  · rw [if_neg q1] at h
    refine X_bipush F dX4_add_9 (v := (-4 : Int32)) rfl ?_
    exact X_iret F hr hlk (retI h) dX4_add_11
set_option maxRecDepth 20000 in
theorem F4_add_met {l : Launch} {G : GG} {D : Nat} {r : Int32 × Mem} {M : Mem} (hI : Inj shA G.2.1) (hD : 1 ≤ D) (h : F4_add M = some r) : MetX shA l G yX4_add cX4_add 2 (some .int) D [.ref 16, .ref 9] M (some (.int r.1), r.2) :=
  X_met hI (by decide +kernel) (Nat.le_of_ble_eq_true rfl) (fun p e s m args below meth c F hr hlk => F4_add_ok F hr hlk hD h)
-- KeepOurPlace$Rules.ofTwo
def F4_ofTwo (M : Mem) (a0 : Int32) (a1 : Int32) (a2 : Int32) : Option (Int32 × Mem) :=
    if a0 = (-14 : Int32) then
      some ((a1 - a2), M)
    else
    if a0 = (-13 : Int32) then
      some ((a1 + a2), M)
    else
    if a0 = (-12 : Int32) then
      if ¬ a1 = a2 then
        some ((0 : Int32), M)
      else
        some ((1 : Int32), M)
    else
    if a0 = (-11 : Int32) then
      if a2 ≤ a1 then
        some ((0 : Int32), M)
      else
        some ((1 : Int32), M)
    else
    if a0 = (-10 : Int32) then
      if a1 = 0 then
        some ((0 : Int32), M)
      else
        if a2 = 0 then
          some ((0 : Int32), M)
        else
          some ((1 : Int32), M)
    else
    if a0 = (-9 : Int32) then
      if ¬ a1 = 0 then
        some ((1 : Int32), M)
      else
        if a2 = 0 then
          some ((0 : Int32), M)
        else
          some ((1 : Int32), M)
    else
    some ((a1 * a2), M)
set_option maxRecDepth 20000 in
theorem F4_ofTwo_ok {p : Program} {l : Launch} {e : Env} {s : State} {m : MethodId} {args : Array Value} {below : List Frame} {meth : Method} {c : Code} {G : GG} {D : Nat} {r : Int32 × Mem} (F : FrP shA G p s m args c RX4 cX4_ofTwo 3) (hr : meth.sig.returnType = (some .int)) (hlk : meth.locks = false) (hD : 1 ≤ D) {M : Mem} {a0 : Int32} {a1 : Int32} {a2 : Int32} (h : F4_ofTwo M a0 a1 a2 = some r) : XJ shA p l e (rmX D) s m args below meth c 0 0 G 3 (MQ below (QcX shA G ((some (.int r.1), r.2) : Option Value × Mem).1 ((some (.int r.1), r.2) : Option Value × Mem).2) args s 0 0 (AW shA G.2.1)) 0 [(0, .int a0), (1, .int a1), (2, .int a2)] [] M := by
  unfold F4_ofTwo at h
  refine X_iload_n F dX4_ofTwo_0 rfl ?_
  by_cases q1 : a0 = (-14 : Int32)
  · rw [if_pos q1] at h
    refine X_tin (tgt := 94) (off := 93) F dX4_ofTwo_1 (by rw [q1]; decide) (by decide) ?_
    refine X_iload_n F dX4_ofTwo_94 rfl ?_
    refine X_iload_n F dX4_ofTwo_95 rfl ?_
    refine X_isub F dX4_ofTwo_96 ?_
    exact X_iret F hr hlk (retI h) dX4_ofTwo_97
  rw [if_neg q1] at h
  by_cases q2 : a0 = (-13 : Int32)
  · rw [if_pos q2] at h
    refine X_tin (tgt := 90) (off := 89) F dX4_ofTwo_1 (by rw [q2]; decide) (by decide) ?_
    refine X_iload_n F dX4_ofTwo_90 rfl ?_
    refine X_iload_n F dX4_ofTwo_91 rfl ?_
    refine X_iadd F dX4_ofTwo_92 ?_
    exact X_iret F hr hlk (retI h) dX4_ofTwo_93
  rw [if_neg q2] at h
  by_cases q3 : a0 = (-12 : Int32)
  · rw [if_pos q3] at h
    refine X_tin (tgt := 79) (off := 78) F dX4_ofTwo_1 (by rw [q3]; decide) (by decide) ?_
    refine X_iload_n F dX4_ofTwo_79 rfl ?_
    refine X_iload_n F dX4_ofTwo_80 rfl ?_
    refine X_icmp_ne (tgt := 88) F dX4_ofTwo_81 (by decide) (fun q4 => ?_) (fun q4 => ?_)
    · rw [if_pos q4] at h
      refine X_iconst F dX4_ofTwo_88 (v := (0 : Int32)) rfl ?_
      exact X_iret F hr hlk (retI h) dX4_ofTwo_89
    · rw [if_neg (fun z => z q4)] at h
      refine X_iconst F dX4_ofTwo_84 (v := (1 : Int32)) rfl ?_
      refine X_goto (tgt := 89) F dX4_ofTwo_85 (by decide) ?_
      exact X_iret F hr hlk (retI h) dX4_ofTwo_89
  rw [if_neg q3] at h
  by_cases q5 : a0 = (-11 : Int32)
  · rw [if_pos q5] at h
    refine X_tin (tgt := 68) (off := 67) F dX4_ofTwo_1 (by rw [q5]; decide) (by decide) ?_
    refine X_iload_n F dX4_ofTwo_68 rfl ?_
    refine X_iload_n F dX4_ofTwo_69 rfl ?_
    refine X_icmp_ge (tgt := 77) F dX4_ofTwo_70 (by decide) (fun q6 => ?_) (fun q6 => ?_)
    · rw [if_pos q6] at h
      refine X_iconst F dX4_ofTwo_77 (v := (0 : Int32)) rfl ?_
      exact X_iret F hr hlk (retI h) dX4_ofTwo_78
    · rw [if_neg q6] at h
      refine X_iconst F dX4_ofTwo_73 (v := (1 : Int32)) rfl ?_
      refine X_goto (tgt := 78) F dX4_ofTwo_74 (by decide) ?_
      exact X_iret F hr hlk (retI h) dX4_ofTwo_78
  rw [if_neg q5] at h
  by_cases q7 : a0 = (-10 : Int32)
  · rw [if_pos q7] at h
    refine X_tin (tgt := 54) (off := 53) F dX4_ofTwo_1 (by rw [q7]; decide) (by decide) ?_
    refine X_iload_n F dX4_ofTwo_54 rfl ?_
    refine X_if_eq (tgt := 66) F dX4_ofTwo_55 (by decide) (fun q8 => ?_) (fun q8 => ?_)
    · rw [if_pos q8] at h
      refine X_iconst F dX4_ofTwo_66 (v := (0 : Int32)) rfl ?_
      exact X_iret F hr hlk (retI h) dX4_ofTwo_67
    · rw [if_neg q8] at h
      refine X_iload_n F dX4_ofTwo_58 rfl ?_
      refine X_if_eq (tgt := 66) F dX4_ofTwo_59 (by decide) (fun q9 => ?_) (fun q9 => ?_)
      · rw [if_pos q9] at h
        refine X_iconst F dX4_ofTwo_66 (v := (0 : Int32)) rfl ?_
        exact X_iret F hr hlk (retI h) dX4_ofTwo_67
      · rw [if_neg q9] at h
        refine X_iconst F dX4_ofTwo_62 (v := (1 : Int32)) rfl ?_
        refine X_goto (tgt := 67) F dX4_ofTwo_63 (by decide) ?_
        exact X_iret F hr hlk (retI h) dX4_ofTwo_67
  rw [if_neg q7] at h
  by_cases q10 : a0 = (-9 : Int32)
  · rw [if_pos q10] at h
    refine X_tin (tgt := 40) (off := 39) F dX4_ofTwo_1 (by rw [q10]; decide) (by decide) ?_
    refine X_iload_n F dX4_ofTwo_40 rfl ?_
    refine X_if_ne (tgt := 48) F dX4_ofTwo_41 (by decide) (fun q11 => ?_) (fun q11 => ?_)
    · rw [if_pos q11] at h
      refine X_iconst F dX4_ofTwo_48 (v := (1 : Int32)) rfl ?_
      refine X_goto (tgt := 53) F dX4_ofTwo_49 (by decide) ?_
      exact X_iret F hr hlk (retI h) dX4_ofTwo_53
    · rw [if_neg (fun z => z q11)] at h
      refine X_iload_n F dX4_ofTwo_44 rfl ?_
      refine X_if_eq (tgt := 52) F dX4_ofTwo_45 (by decide) (fun q12 => ?_) (fun q12 => ?_)
      · rw [if_pos q12] at h
        refine X_iconst F dX4_ofTwo_52 (v := (0 : Int32)) rfl ?_
        exact X_iret F hr hlk (retI h) dX4_ofTwo_53
      · rw [if_neg q12] at h
        refine X_iconst F dX4_ofTwo_48 (v := (1 : Int32)) rfl ?_
        refine X_goto (tgt := 53) F dX4_ofTwo_49 (by decide) ?_
        exact X_iret F hr hlk (retI h) dX4_ofTwo_53
  rw [if_neg q10] at h
  have eq1 := lv_neT q1 (a := -14) (by decide)
  have eq2 := lv_neT q2 (a := -13) (by decide)
  have eq3 := lv_neT q3 (a := -12) (by decide)
  have eq5 := lv_neT q5 (a := -11) (by decide)
  have eq7 := lv_neT q7 (a := -10) (by decide)
  have eq10 := lv_neT q10 (a := -9) (by decide)
  refine X_tout (tgt := 98) F dX4_ofTwo_1 (by omega) (by decide) ?_
  refine X_iload_n F dX4_ofTwo_98 rfl ?_
  refine X_iload_n F dX4_ofTwo_99 rfl ?_
  refine X_imul F dX4_ofTwo_100 ?_
  exact X_iret F hr hlk (retI h) dX4_ofTwo_101
set_option maxRecDepth 20000 in
theorem F4_ofTwo_met {l : Launch} {G : GG} {D : Nat} {r : Int32 × Mem} {M : Mem} {a0 : Int32} {a1 : Int32} {a2 : Int32} (hI : Inj shA G.2.1) (hD : 1 ≤ D) (h : F4_ofTwo M a0 a1 a2 = some r) : MetX shA l G yX4_ofTwo cX4_ofTwo 3 (some .int) D [.int a0, .int a1, .int a2] M (some (.int r.1), r.2) :=
  X_met hI (by decide +kernel) (Nat.le_of_ble_eq_true rfl) (fun p e s m args below meth c F hr hlk => F4_ofTwo_ok F hr hlk hD h)
-- KeepOurPlace$Rules.tell
def F4_tell_j311 (rec137 : Mem → Nat → Int32 → Int32 → Int32 → Option (Int32 × Mem)) (M : Mem) (x6 : Nat) (x7 : Int32) (x8 : Int32) (x9 : Int32) : Option (Int32 × Mem) :=
    rec137 M x6 x7 x8 (x9 + (1 : Int32))
def F4_tell_j266 (rec137 : Mem → Nat → Int32 → Int32 → Int32 → Option (Int32 × Mem)) (M : Mem) (x6 : Nat) (x7 : Int32) (x8 : Int32) (x9 : Int32) (y0 : Int32) (y1 : Int32) : Option (Int32 × Mem) :=
    if inb y1 160 = true then
    F4_tell_j311 rec137 (up2 M 32 (Int32.toNatClampNeg y1) y0) x6 x7 x8 x9
    else none
def F4_tell_j216 (rec137 : Mem → Nat → Int32 → Int32 → Int32 → Option (Int32 × Mem)) (M : Mem) (x6 : Nat) (x7 : Int32) (x8 : Int32) (x9 : Int32) (x10 : Int32) : Option (Int32 × Mem) :=
    if (1 : Int32) ≤ x8 then
      if inb (x8 - (1 : Int32)) 160 = true then
      if ¬ x10 = (-7 : Int32) then
        if ¬ (M 32 (Int32.toNatClampNeg (x8 - (1 : Int32)))) = 0 then
          F4_tell_j266 rec137 M x6 x7 x8 x9 (0 : Int32) (x8 - (1 : Int32))
        else
          F4_tell_j266 rec137 M x6 x7 x8 x9 (1 : Int32) (x8 - (1 : Int32))
      else
        F4_tell_j266 rec137 M x6 x7 x8 x9 (-(M 32 (Int32.toNatClampNeg (x8 - (1 : Int32))))) (x8 - (1 : Int32))
      else none
    else
      some ((0 : Int32), M)
def F4_tell_j195 (rec137 : Mem → Nat → Int32 → Int32 → Int32 → Option (Int32 × Mem)) (M : Mem) (x6 : Nat) (x7 : Int32) (x8 : Int32) (x9 : Int32) (y0 : Int32) (y1 : Int32) : Option (Int32 × Mem) :=
    if inb y1 160 = true then
    F4_tell_j311 rec137 (up2 M 32 (Int32.toNatClampNeg y1) y0) x6 x7 (x8 + (1 : Int32)) x9
    else none
def F4_tell_l137_b (rec137 : Mem → Nat → Int32 → Int32 → Int32 → Option (Int32 × Mem)) (M : Mem) (x6 : Nat) (x7 : Int32) (x8 : Int32) (x9 : Int32) : Option (Int32 × Mem) :=
    if x7 ≤ x9 then
      if (1 : Int32) ≤ x8 then
        if inb (x8 - (1 : Int32)) 160 = true then
        some ((jmax (0 : Int32) (jmin (99 : Int32) (M 32 (Int32.toNatClampNeg (x8 - (1 : Int32)))))), M)
        else none
      else
        some ((0 : Int32), M)
    else
      if inb x9 160 = true then
      if (M x6 (Int32.toNatClampNeg x9)) < (-6 : Int32) then
        if (M x6 (Int32.toNatClampNeg x9)) = (-7 : Int32) then
          F4_tell_j216 rec137 M x6 x7 x8 x9 (M x6 (Int32.toNatClampNeg x9))
        else
          if ¬ (M x6 (Int32.toNatClampNeg x9)) = (-8 : Int32) then
            if (2 : Int32) ≤ x8 then
              if inb ((x8 + (-1 : Int32)) - (1 : Int32)) 160 = true then
              if inb (x8 + (-1 : Int32)) 160 = true then
              Option.bind (F4_ofTwo M (M x6 (Int32.toNatClampNeg x9)) (M 32 (Int32.toNatClampNeg ((x8 + (-1 : Int32)) - (1 : Int32)))) (M 32 (Int32.toNatClampNeg (x8 + (-1 : Int32))))) fun r18 =>
              F4_tell_j311 rec137 (up2 r18.2 32 (Int32.toNatClampNeg ((x8 + (-1 : Int32)) - (1 : Int32))) r18.1) x6 x7 (x8 + (-1 : Int32)) x9
              else none
              else none
            else
              some ((0 : Int32), M)
          else
            F4_tell_j216 rec137 M x6 x7 x8 x9 (M x6 (Int32.toNatClampNeg x9))
      else
        if x8 < (160 : Int32) then
          if (M x6 (Int32.toNatClampNeg x9)) < 0 then
            if inb ((-1 : Int32) - (M x6 (Int32.toNatClampNeg x9))) 6 = true then
            F4_tell_j195 rec137 M x6 x7 x8 x9 (M 31 (Int32.toNatClampNeg ((-1 : Int32) - (M x6 (Int32.toNatClampNeg x9))))) x8
            else none
          else
            F4_tell_j195 rec137 M x6 x7 x8 x9 (M x6 (Int32.toNatClampNeg x9)) x8
        else
          some ((0 : Int32), M)
      else none
def F4_tell_l137 : Nat → Mem → Nat → Int32 → Int32 → Int32 → Option (Int32 × Mem)
  | 0, _, _, _, _, _ => none
  | fu + 1, M, x6, x7, x8, x9 => F4_tell_l137_b (F4_tell_l137 fu) M x6 x7 x8 x9
def F4_tell (M : Mem) (a1 : Int32) (a2 : Int32) (a3 : Int32) (a4 : Int32) (a5 : Int32) : Option (Int32 × Mem) :=
    if (M 16 6) < 0 then
      some ((0 : Int32), M)
    else
      if (M 16 5) ≤ (M 16 6) then
        some ((0 : Int32), M)
      else
        if a1 < 0 then
          some ((0 : Int32), M)
        else
          if a1 < (3 : Int32) then
            if inb (M 16 6) 6 = true then
            if inb (a1 + (1 : Int32)) 4 = true then
            if inb a1 4 = true then
            F4_tell_l137 FUEL (up2 (up2 (up2 (up2 (up2 (up2 M 31 0 a2) 31 1 a3) 31 2 a4) 31 3 (M 1 4)) 31 4 a5) 31 5 (M 1 3)) (18 + (Int32.toNatClampNeg (M 16 6))) (jmin (160 : Int32) ((up2 (up2 (up2 (up2 (up2 (up2 M 31 0 a2) 31 1 a3) 31 2 a4) 31 3 (M 1 4)) 31 4 a5) 31 5 (M 1 3)) (25 + (Int32.toNatClampNeg (M 16 6))) (Int32.toNatClampNeg (a1 + (1 : Int32))))) (0 : Int32) (jmax (0 : Int32) ((up2 (up2 (up2 (up2 (up2 (up2 M 31 0 a2) 31 1 a3) 31 2 a4) 31 3 (M 1 4)) 31 4 a5) 31 5 (M 1 3)) (25 + (Int32.toNatClampNeg (M 16 6))) (Int32.toNatClampNeg a1)))
            else none
            else none
            else none
          else
            some ((0 : Int32), M)
set_option maxRecDepth 20000 in
theorem F4_tell_j311_ok {p : Program} {l : Launch} {e : Env} {s : State} {m : MethodId} {args : Array Value} {below : List Frame} {meth : Method} {c : Code} {G : GG} {D : Nat} {r : Int32 × Mem} {rec137 : Mem → Nat → Int32 → Int32 → Int32 → Option (Int32 × Mem)} (F : FrP shA G p s m args c RX4 cX4_tell 12) (hr : meth.sig.returnType = (some .int)) (hlk : meth.locks = false) (hD : 2 ≤ D) (hrec137 : ∀ (M : Mem) (x6 : Nat) (x7 : Int32) (x8 : Int32) (x9 : Int32), shA[x6]? = some (.inl (0, 160)) → rec137 M x6 x7 x8 x9 = some r → XJ shA p l e (rmX D) s m args below meth c 0 0 G 12 (MQ below (QcX shA G ((some (.int r.1), r.2) : Option Value × Mem).1 ((some (.int r.1), r.2) : Option Value × Mem).2) args s 0 0 (AW shA G.2.1)) 137 [(0, .ref 16), (6, .ref x6), (7, .int x7), (8, .int x8), (9, .int x9)] [] M) {M : Mem} {x6 : Nat} {x7 : Int32} {x8 : Int32} {x9 : Int32} (hx6 : shA[x6]? = some (.inl (0, 160))) (h : F4_tell_j311 rec137 M x6 x7 x8 x9 = some r) : XJ shA p l e (rmX D) s m args below meth c 0 0 G 12 (MQ below (QcX shA G ((some (.int r.1), r.2) : Option Value × Mem).1 ((some (.int r.1), r.2) : Option Value × Mem).2) args s 0 0 (AW shA G.2.1)) 311 [(0, .ref 16), (6, .ref x6), (7, .int x7), (8, .int x8), (9, .int x9)] [] M := by
  unfold F4_tell_j311 at h
  refine X_iinc F dX4_tell_311 rfl (v := (1 : Int32)) rfl (by decide) rfl ?_
  refine X_goto (tgt := 137) F dX4_tell_314 (by decide) ?_
  refine X_pick [1, 2, 3, 4, 0] rfl ?_
  exact hrec137 _ _ _ _ _ hx6 h
set_option maxRecDepth 20000 in
theorem F4_tell_j266_ok {p : Program} {l : Launch} {e : Env} {s : State} {m : MethodId} {args : Array Value} {below : List Frame} {meth : Method} {c : Code} {G : GG} {D : Nat} {r : Int32 × Mem} {rec137 : Mem → Nat → Int32 → Int32 → Int32 → Option (Int32 × Mem)} (F : FrP shA G p s m args c RX4 cX4_tell 12) (hr : meth.sig.returnType = (some .int)) (hlk : meth.locks = false) (hD : 2 ≤ D) (hrec137 : ∀ (M : Mem) (x6 : Nat) (x7 : Int32) (x8 : Int32) (x9 : Int32), shA[x6]? = some (.inl (0, 160)) → rec137 M x6 x7 x8 x9 = some r → XJ shA p l e (rmX D) s m args below meth c 0 0 G 12 (MQ below (QcX shA G ((some (.int r.1), r.2) : Option Value × Mem).1 ((some (.int r.1), r.2) : Option Value × Mem).2) args s 0 0 (AW shA G.2.1)) 137 [(0, .ref 16), (6, .ref x6), (7, .int x7), (8, .int x8), (9, .int x9)] [] M) {M : Mem} {x6 : Nat} {x7 : Int32} {x8 : Int32} {x9 : Int32} {y0 : Int32} {y1 : Int32} (hx6 : shA[x6]? = some (.inl (0, 160))) (h : F4_tell_j266 rec137 M x6 x7 x8 x9 y0 y1 = some r) : XJ shA p l e (rmX D) s m args below meth c 0 0 G 12 (MQ below (QcX shA G ((some (.int r.1), r.2) : Option Value × Mem).1 ((some (.int r.1), r.2) : Option Value × Mem).2) args s 0 0 (AW shA G.2.1)) 266 [(0, .ref 16), (6, .ref x6), (7, .int x7), (8, .int x8), (9, .int x9)] [.int y0, .int y1, .ref 32] M := by
  unfold F4_tell_j266 at h
  obtain ⟨q28, h⟩ := ifS h
  refine X_iast (j := (Int32.toNatClampNeg y1)) F rfl (inbV q28) rfl dX4_tell_266 ?_
  refine X_goto (tgt := 311) F dX4_tell_267 (by decide) ?_
  exact F4_tell_j311_ok F hr hlk hD hrec137 hx6 h
set_option maxRecDepth 20000 in
theorem F4_tell_j216_ok {p : Program} {l : Launch} {e : Env} {s : State} {m : MethodId} {args : Array Value} {below : List Frame} {meth : Method} {c : Code} {G : GG} {D : Nat} {r : Int32 × Mem} {rec137 : Mem → Nat → Int32 → Int32 → Int32 → Option (Int32 × Mem)} (F : FrP shA G p s m args c RX4 cX4_tell 12) (hr : meth.sig.returnType = (some .int)) (hlk : meth.locks = false) (hD : 2 ≤ D) (hrec137 : ∀ (M : Mem) (x6 : Nat) (x7 : Int32) (x8 : Int32) (x9 : Int32), shA[x6]? = some (.inl (0, 160)) → rec137 M x6 x7 x8 x9 = some r → XJ shA p l e (rmX D) s m args below meth c 0 0 G 12 (MQ below (QcX shA G ((some (.int r.1), r.2) : Option Value × Mem).1 ((some (.int r.1), r.2) : Option Value × Mem).2) args s 0 0 (AW shA G.2.1)) 137 [(0, .ref 16), (6, .ref x6), (7, .int x7), (8, .int x8), (9, .int x9)] [] M) {M : Mem} {x6 : Nat} {x7 : Int32} {x8 : Int32} {x9 : Int32} {x10 : Int32} (hx6 : shA[x6]? = some (.inl (0, 160))) (h : F4_tell_j216 rec137 M x6 x7 x8 x9 x10 = some r) : XJ shA p l e (rmX D) s m args below meth c 0 0 G 12 (MQ below (QcX shA G ((some (.int r.1), r.2) : Option Value × Mem).1 ((some (.int r.1), r.2) : Option Value × Mem).2) args s 0 0 (AW shA G.2.1)) 216 [(0, .ref 16), (6, .ref x6), (7, .int x7), (8, .int x8), (9, .int x9), (10, .int x10)] [] M := by
  unfold F4_tell_j216 at h
  refine X_iload F dX4_tell_216 rfl ?_
  refine X_iconst F dX4_tell_218 (v := (1 : Int32)) rfl ?_
  refine X_icmp_ge (tgt := 224) F dX4_tell_219 (by decide) (fun q24 => ?_) (fun q24 => ?_)
  · rw [if_pos q24] at h
    refine X_aload_n F dX4_tell_224 rfl ?_
    refine X_getr F ffRX4_25 dX4_tell_225 ?_
    refine X_iload F dX4_tell_228 rfl ?_
    refine X_iconst F dX4_tell_230 (v := (1 : Int32)) rfl ?_
    refine X_isub F dX4_tell_231 ?_
    obtain ⟨q25, h⟩ := ifS h
    refine X_iald (j := (Int32.toNatClampNeg (x8 - (1 : Int32)))) (v := (M 32 (Int32.toNatClampNeg (x8 - (1 : Int32))))) F rfl (inbV q25) rfl rfl dX4_tell_232 ?_
    refine X_istore F dX4_tell_233 (by decide) rfl ?_
    refine X_aload_n F dX4_tell_235 rfl ?_
    refine X_getr F ffRX4_25 dX4_tell_236 ?_
    refine X_iload F dX4_tell_239 rfl ?_
    refine X_iconst F dX4_tell_241 (v := (1 : Int32)) rfl ?_
    refine X_isub F dX4_tell_242 ?_
    refine X_iload F dX4_tell_243 rfl ?_
    refine X_bipush F dX4_tell_245 (v := (-7 : Int32)) rfl ?_
    refine X_icmp_ne (tgt := 256) F dX4_tell_247 (by decide) (fun q26 => ?_) (fun q26 => ?_)
    · rw [if_pos q26] at h
      refine X_iload F dX4_tell_256 rfl ?_
      refine X_if_ne (tgt := 265) F dX4_tell_258 (by decide) (fun q27 => ?_) (fun q27 => ?_)
      · rw [if_pos q27] at h
        refine X_iconst F dX4_tell_265 (v := (0 : Int32)) rfl ?_
        refine X_pick [1, 2, 3, 4, 5] rfl ?_
        exact F4_tell_j266_ok F hr hlk hD hrec137 hx6 h
      · rw [if_neg (fun z => z q27)] at h
        refine X_iconst F dX4_tell_261 (v := (1 : Int32)) rfl ?_
        refine X_goto (tgt := 266) F dX4_tell_262 (by decide) ?_
        refine X_pick [1, 2, 3, 4, 5] rfl ?_
        exact F4_tell_j266_ok F hr hlk hD hrec137 hx6 h
    · rw [if_neg (fun z => z q26)] at h
      refine X_iload F dX4_tell_250 rfl ?_
      refine X_ineg F dX4_tell_252 ?_
      refine X_goto (tgt := 266) F dX4_tell_253 (by decide) ?_
      refine X_pick [1, 2, 3, 4, 5] rfl ?_
      exact F4_tell_j266_ok F hr hlk hD hrec137 hx6 h
  · rw [if_neg q24] at h
    refine X_iconst F dX4_tell_222 (v := (0 : Int32)) rfl ?_
    exact X_iret F hr hlk (retI h) dX4_tell_223
set_option maxRecDepth 20000 in
theorem F4_tell_j195_ok {p : Program} {l : Launch} {e : Env} {s : State} {m : MethodId} {args : Array Value} {below : List Frame} {meth : Method} {c : Code} {G : GG} {D : Nat} {r : Int32 × Mem} {rec137 : Mem → Nat → Int32 → Int32 → Int32 → Option (Int32 × Mem)} (F : FrP shA G p s m args c RX4 cX4_tell 12) (hr : meth.sig.returnType = (some .int)) (hlk : meth.locks = false) (hD : 2 ≤ D) (hrec137 : ∀ (M : Mem) (x6 : Nat) (x7 : Int32) (x8 : Int32) (x9 : Int32), shA[x6]? = some (.inl (0, 160)) → rec137 M x6 x7 x8 x9 = some r → XJ shA p l e (rmX D) s m args below meth c 0 0 G 12 (MQ below (QcX shA G ((some (.int r.1), r.2) : Option Value × Mem).1 ((some (.int r.1), r.2) : Option Value × Mem).2) args s 0 0 (AW shA G.2.1)) 137 [(0, .ref 16), (6, .ref x6), (7, .int x7), (8, .int x8), (9, .int x9)] [] M) {M : Mem} {x6 : Nat} {x7 : Int32} {x8 : Int32} {x9 : Int32} {y0 : Int32} {y1 : Int32} (hx6 : shA[x6]? = some (.inl (0, 160))) (h : F4_tell_j195 rec137 M x6 x7 x8 x9 y0 y1 = some r) : XJ shA p l e (rmX D) s m args below meth c 0 0 G 12 (MQ below (QcX shA G ((some (.int r.1), r.2) : Option Value × Mem).1 ((some (.int r.1), r.2) : Option Value × Mem).2) args s 0 0 (AW shA G.2.1)) 195 [(0, .ref 16), (6, .ref x6), (7, .int x7), (8, .int x8), (9, .int x9)] [.int y0, .int y1, .ref 32] M := by
  unfold F4_tell_j195 at h
  obtain ⟨q23, h⟩ := ifS h
  refine X_iast (j := (Int32.toNatClampNeg y1)) F rfl (inbV q23) rfl dX4_tell_195 ?_
  refine X_iinc F dX4_tell_196 rfl (v := (1 : Int32)) rfl (by decide) rfl ?_
  refine X_goto (tgt := 311) F dX4_tell_199 (by decide) ?_
  refine X_pick [1, 2, 3, 0, 4] rfl ?_
  exact F4_tell_j311_ok F hr hlk hD hrec137 hx6 h
set_option maxRecDepth 20000 in
theorem F4_tell_l137_bok {p : Program} {l : Launch} {e : Env} {s : State} {m : MethodId} {args : Array Value} {below : List Frame} {meth : Method} {c : Code} {G : GG} {D : Nat} {r : Int32 × Mem} {rec137 : Mem → Nat → Int32 → Int32 → Int32 → Option (Int32 × Mem)} (F : FrP shA G p s m args c RX4 cX4_tell 12) (hr : meth.sig.returnType = (some .int)) (hlk : meth.locks = false) (hD : 2 ≤ D) (hrec137 : ∀ (M : Mem) (x6 : Nat) (x7 : Int32) (x8 : Int32) (x9 : Int32), shA[x6]? = some (.inl (0, 160)) → rec137 M x6 x7 x8 x9 = some r → XJ shA p l e (rmX D) s m args below meth c 0 0 G 12 (MQ below (QcX shA G ((some (.int r.1), r.2) : Option Value × Mem).1 ((some (.int r.1), r.2) : Option Value × Mem).2) args s 0 0 (AW shA G.2.1)) 137 [(0, .ref 16), (6, .ref x6), (7, .int x7), (8, .int x8), (9, .int x9)] [] M) {M : Mem} {x6 : Nat} {x7 : Int32} {x8 : Int32} {x9 : Int32} (hx6 : shA[x6]? = some (.inl (0, 160))) (h : F4_tell_l137_b rec137 M x6 x7 x8 x9 = some r) : XJ shA p l e (rmX D) s m args below meth c 0 0 G 12 (MQ below (QcX shA G ((some (.int r.1), r.2) : Option Value × Mem).1 ((some (.int r.1), r.2) : Option Value × Mem).2) args s 0 0 (AW shA G.2.1)) 137 [(0, .ref 16), (6, .ref x6), (7, .int x7), (8, .int x8), (9, .int x9)] [] M := by
  unfold F4_tell_l137_b at h
  refine X_iload F dX4_tell_137 rfl ?_
  refine X_iload F dX4_tell_139 rfl ?_
  refine X_icmp_ge (tgt := 317) F dX4_tell_141 (by decide) (fun q8 => ?_) (fun q8 => ?_)
  · rw [if_pos q8] at h
    refine X_iload F dX4_tell_317 rfl ?_
    refine X_iconst F dX4_tell_319 (v := (1 : Int32)) rfl ?_
    refine X_icmp_ge (tgt := 327) F dX4_tell_320 (by decide) (fun q9 => ?_) (fun q9 => ?_)
    · rw [if_pos q9] at h
      refine X_iconst F dX4_tell_327 (v := (0 : Int32)) rfl ?_
      refine X_bipush F dX4_tell_328 (v := (99 : Int32)) rfl ?_
      refine X_aload_n F dX4_tell_330 rfl ?_
      refine X_getr F ffRX4_25 dX4_tell_331 ?_
      refine X_iload F dX4_tell_334 rfl ?_
      refine X_iconst F dX4_tell_336 (v := (1 : Int32)) rfl ?_
      refine X_isub F dX4_tell_337 ?_
      obtain ⟨q10, h⟩ := ifS h
      refine X_iald (j := (Int32.toNatClampNeg (x8 - (1 : Int32)))) (v := (M 32 (Int32.toNatClampNeg (x8 - (1 : Int32))))) F rfl (inbV q10) rfl rfl dX4_tell_338 ?_
      refine X_mmin F fmRX4_56 math_smin math_i math_cmin (rm_1 (by omega)) (rm_w (n := 14) (by omega) (Nat.le_of_ble_eq_true rfl) (by decide)) dX4_tell_339 ?_
      refine X_mmax F fmRX4_62 math_smax math_i math_cmax (rm_1 (by omega)) (rm_w (n := 13) (by omega) (Nat.le_of_ble_eq_true rfl) (by decide)) dX4_tell_342 ?_
      exact X_iret F hr hlk (retI h) dX4_tell_345
    · rw [if_neg q9] at h
      refine X_iconst F dX4_tell_323 (v := (0 : Int32)) rfl ?_
      refine X_goto (tgt := 345) F dX4_tell_324 (by decide) ?_
      exact X_iret F hr hlk (retI h) dX4_tell_345
  · rw [if_neg q8] at h
    refine X_aload F dX4_tell_144 rfl ?_
    refine X_iload F dX4_tell_146 rfl ?_
    obtain ⟨q11, h⟩ := ifS h
    refine X_iald (j := (Int32.toNatClampNeg x9)) (v := (M x6 (Int32.toNatClampNeg x9))) F hx6 (inbV q11) rfl rfl dX4_tell_148 ?_
    refine X_istore F dX4_tell_149 (by decide) rfl ?_
    refine X_iload F dX4_tell_151 rfl ?_
    refine X_bipush F dX4_tell_153 (v := (-6 : Int32)) rfl ?_
    refine X_icmp_lt (tgt := 202) F dX4_tell_155 (by decide) (fun q12 => ?_) (fun q12 => ?_)
    · rw [if_pos q12] at h
      refine X_iload F dX4_tell_202 rfl ?_
      refine X_bipush F dX4_tell_204 (v := (-7 : Int32)) rfl ?_
      refine X_icmp_eq (tgt := 216) F dX4_tell_206 (by decide) (fun q13 => ?_) (fun q13 => ?_)
      · rw [if_pos q13] at h
        refine X_pick [1, 2, 3, 4, 5, 0] rfl ?_
        exact F4_tell_j216_ok F hr hlk hD hrec137 hx6 h
      · rw [if_neg q13] at h
        refine X_iload F dX4_tell_209 rfl ?_
        refine X_bipush F dX4_tell_211 (v := (-8 : Int32)) rfl ?_
        refine X_icmp_ne (tgt := 270) F dX4_tell_213 (by decide) (fun q14 => ?_) (fun q14 => ?_)
        · rw [if_pos q14] at h
          refine X_iload F dX4_tell_270 rfl ?_
          refine X_iconst F dX4_tell_272 (v := (2 : Int32)) rfl ?_
          refine X_icmp_ge (tgt := 278) F dX4_tell_273 (by decide) (fun q15 => ?_) (fun q15 => ?_)
          · rw [if_pos q15] at h
            refine X_iinc F dX4_tell_278 rfl (v := (-1 : Int32)) rfl (by decide) rfl ?_
            refine X_aload_n F dX4_tell_281 rfl ?_
            refine X_getr F ffRX4_25 dX4_tell_282 ?_
            refine X_iload F dX4_tell_285 rfl ?_
            refine X_iconst F dX4_tell_287 (v := (1 : Int32)) rfl ?_
            refine X_isub F dX4_tell_288 ?_
            refine X_iload F dX4_tell_289 rfl ?_
            refine X_aload_n F dX4_tell_291 rfl ?_
            refine X_getr F ffRX4_25 dX4_tell_292 ?_
            refine X_iload F dX4_tell_295 rfl ?_
            refine X_iconst F dX4_tell_297 (v := (1 : Int32)) rfl ?_
            refine X_isub F dX4_tell_298 ?_
            obtain ⟨q16, h⟩ := ifS h
            refine X_iald (j := (Int32.toNatClampNeg ((x8 + (-1 : Int32)) - (1 : Int32)))) (v := (M 32 (Int32.toNatClampNeg ((x8 + (-1 : Int32)) - (1 : Int32))))) F rfl (inbV q16) rfl rfl dX4_tell_299 ?_
            refine X_aload_n F dX4_tell_300 rfl ?_
            refine X_getr F ffRX4_25 dX4_tell_301 ?_
            refine X_iload F dX4_tell_304 rfl ?_
            obtain ⟨q17, h⟩ := ifS h
            refine X_iald (j := (Int32.toNatClampNeg (x8 + (-1 : Int32)))) (v := (M 32 (Int32.toNatClampNeg (x8 + (-1 : Int32))))) F rfl (inbV q17) rfl rfl dX4_tell_306 ?_
            obtain ⟨r18, h19, h⟩ := bndS h
            refine X_callS (As := [.int (M x6 (Int32.toNatClampNeg x9)), .int (M 32 (Int32.toNatClampNeg ((x8 + (-1 : Int32)) - (1 : Int32)))), .int (M 32 (Int32.toNatClampNeg (x8 + (-1 : Int32))))]) (rest := [.int ((x8 + (-1 : Int32)) - (1 : Int32)), .ref 32]) F fsRX4_65 feX4_ofTwo ftX4_ofTwo (F4_ofTwo_met (D := D - 1) F.2.2.2.2.2.2.2.1 (by omega) h19) rfl rfl (Nat.le_of_ble_eq_true rfl) (rm_ok (by omega) (by decide)) dX4_tell_307 ?_
            show XJ shA p l e (rmX D) s m args below meth c 0 0 G 12 (MQ below (QcX shA G ((some (.int r.1), r.2) : Option Value × Mem).1 ((some (.int r.1), r.2) : Option Value × Mem).2) args s 0 0 (AW shA G.2.1)) 310 [(8, .int (x8 + (-1 : Int32))), (10, .int (M x6 (Int32.toNatClampNeg x9))), (0, .ref 16), (6, .ref x6), (7, .int x7), (9, .int x9)] [.int r18.1, .int ((x8 + (-1 : Int32)) - (1 : Int32)), .ref 32] r18.2
            refine X_iast (j := (Int32.toNatClampNeg ((x8 + (-1 : Int32)) - (1 : Int32)))) F rfl (inbV q16) rfl dX4_tell_310 ?_
            refine X_pick [2, 3, 4, 0, 5] rfl ?_
            exact F4_tell_j311_ok F hr hlk hD hrec137 hx6 h
          · rw [if_neg q15] at h
            refine X_iconst F dX4_tell_276 (v := (0 : Int32)) rfl ?_
            exact X_iret F hr hlk (retI h) dX4_tell_277
        · rw [if_neg (fun z => z q14)] at h
          refine X_pick [1, 2, 3, 4, 5, 0] rfl ?_
          exact F4_tell_j216_ok F hr hlk hD hrec137 hx6 h
    · rw [if_neg q12] at h
      refine X_iload F dX4_tell_158 rfl ?_
      refine X_aload_n F dX4_tell_160 rfl ?_
      refine X_getr F ffRX4_25 dX4_tell_161 ?_
      refine X_alen (v := (160 : Int32)) F rfl rfl dX4_tell_164 ?_
      refine X_icmp_lt (tgt := 170) F dX4_tell_165 (by decide) (fun q20 => ?_) (fun q20 => ?_)
      · rw [if_pos q20] at h
        refine X_aload_n F dX4_tell_170 rfl ?_
        refine X_getr F ffRX4_25 dX4_tell_171 ?_
        refine X_iload F dX4_tell_174 rfl ?_
        refine X_iload F dX4_tell_176 rfl ?_
        refine X_if_lt (tgt := 186) F dX4_tell_178 (by decide) (fun q21 => ?_) (fun q21 => ?_)
        · rw [if_pos q21] at h
          refine X_aload_n F dX4_tell_186 rfl ?_
          refine X_getr F ffRX4_21 dX4_tell_187 ?_
          refine X_iconst F dX4_tell_190 (v := (-1 : Int32)) rfl ?_
          refine X_iload F dX4_tell_191 rfl ?_
          refine X_isub F dX4_tell_193 ?_
          obtain ⟨q22, h⟩ := ifS h
          refine X_iald (j := (Int32.toNatClampNeg ((-1 : Int32) - (M x6 (Int32.toNatClampNeg x9))))) (v := (M 31 (Int32.toNatClampNeg ((-1 : Int32) - (M x6 (Int32.toNatClampNeg x9)))))) F rfl (inbV q22) rfl rfl dX4_tell_194 ?_
          refine X_pick [1, 2, 3, 4, 5] rfl ?_
          exact F4_tell_j195_ok F hr hlk hD hrec137 hx6 h
        · rw [if_neg q21] at h
          refine X_iload F dX4_tell_181 rfl ?_
          refine X_goto (tgt := 195) F dX4_tell_183 (by decide) ?_
          refine X_pick [1, 2, 3, 4, 5] rfl ?_
          exact F4_tell_j195_ok F hr hlk hD hrec137 hx6 h
      · rw [if_neg q20] at h
        refine X_iconst F dX4_tell_168 (v := (0 : Int32)) rfl ?_
        exact X_iret F hr hlk (retI h) dX4_tell_169
set_option maxRecDepth 20000 in
theorem F4_tell_l137_ok {p : Program} {l : Launch} {e : Env} {s : State} {m : MethodId} {args : Array Value} {below : List Frame} {meth : Method} {c : Code} {G : GG} {D : Nat} {r : Int32 × Mem} (F : FrP shA G p s m args c RX4 cX4_tell 12) (hr : meth.sig.returnType = (some .int)) (hlk : meth.locks = false) (hD : 2 ≤ D) : ∀ (fu : Nat) (M : Mem) (x6 : Nat) (x7 : Int32) (x8 : Int32) (x9 : Int32) (hx6 : shA[x6]? = some (.inl (0, 160))), F4_tell_l137 fu M x6 x7 x8 x9 = some r → XJ shA p l e (rmX D) s m args below meth c 0 0 G 12 (MQ below (QcX shA G ((some (.int r.1), r.2) : Option Value × Mem).1 ((some (.int r.1), r.2) : Option Value × Mem).2) args s 0 0 (AW shA G.2.1)) 137 [(0, .ref 16), (6, .ref x6), (7, .int x7), (8, .int x8), (9, .int x9)] [] M := by
  intro fu
  induction fu with
  | zero => intro M x6 x7 x8 x9 hx6 h; cases h
  | succ fu ih => intro M x6 x7 x8 x9 hx6 h; exact F4_tell_l137_bok F hr hlk hD (fun M x6 x7 x8 x9 hx6 => ih M x6 x7 x8 x9 hx6) hx6 h
set_option maxRecDepth 20000 in
theorem F4_tell_ok {p : Program} {l : Launch} {e : Env} {s : State} {m : MethodId} {args : Array Value} {below : List Frame} {meth : Method} {c : Code} {G : GG} {D : Nat} {r : Int32 × Mem} (F : FrP shA G p s m args c RX4 cX4_tell 12) (hr : meth.sig.returnType = (some .int)) (hlk : meth.locks = false) (hD : 2 ≤ D) {M : Mem} {a1 : Int32} {a2 : Int32} {a3 : Int32} {a4 : Int32} {a5 : Int32} (h : F4_tell M a1 a2 a3 a4 a5 = some r) : XJ shA p l e (rmX D) s m args below meth c 0 0 G 12 (MQ below (QcX shA G ((some (.int r.1), r.2) : Option Value × Mem).1 ((some (.int r.1), r.2) : Option Value × Mem).2) args s 0 0 (AW shA G.2.1)) 0 [(0, .ref 16), (1, .int a1), (2, .int a2), (3, .int a3), (4, .int a4), (5, .int a5)] [] M := by
  unfold F4_tell at h
  refine X_aload_n F dX4_tell_0 rfl ?_
  refine X_geti (v := (M 16 6)) F ffRX4_47 dX4_tell_1 rfl ?_
  refine X_if_lt (tgt := 27) F dX4_tell_4 (by decide) (fun q1 => ?_) (fun q1 => ?_)
  · rw [if_pos q1] at h
    refine X_iconst F dX4_tell_27 (v := (0 : Int32)) rfl ?_
    exact X_iret F hr hlk (retI h) dX4_tell_28
  · rw [if_neg q1] at h
    refine X_aload_n F dX4_tell_7 rfl ?_
    refine X_geti (v := (M 16 6)) F ffRX4_47 dX4_tell_8 rfl ?_
    refine X_aload_n F dX4_tell_11 rfl ?_
    refine X_geti (v := (M 16 5)) F ffRX4_32 dX4_tell_12 rfl ?_
    refine X_icmp_ge (tgt := 27) F dX4_tell_15 (by decide) (fun q2 => ?_) (fun q2 => ?_)
    · rw [if_pos q2] at h
      refine X_iconst F dX4_tell_27 (v := (0 : Int32)) rfl ?_
      exact X_iret F hr hlk (retI h) dX4_tell_28
    · rw [if_neg q2] at h
      refine X_iload_n F dX4_tell_18 rfl ?_
      refine X_if_lt (tgt := 27) F dX4_tell_19 (by decide) (fun q3 => ?_) (fun q3 => ?_)
      · rw [if_pos q3] at h
        refine X_iconst F dX4_tell_27 (v := (0 : Int32)) rfl ?_
        exact X_iret F hr hlk (retI h) dX4_tell_28
      · rw [if_neg q3] at h
        refine X_iload_n F dX4_tell_22 rfl ?_
        refine X_iconst F dX4_tell_23 (v := (3 : Int32)) rfl ?_
        refine X_icmp_lt (tgt := 29) F dX4_tell_24 (by decide) (fun q4 => ?_) (fun q4 => ?_)
        · rw [if_pos q4] at h
          refine X_aload_n F dX4_tell_29 rfl ?_
          refine X_getr F ffRX4_21 dX4_tell_30 ?_
          refine X_iconst F dX4_tell_33 (v := (0 : Int32)) rfl ?_
          refine X_iload_n F dX4_tell_34 rfl ?_
          refine X_iast (j := 0) F rfl (inbV (by decide)) (by decide) dX4_tell_35 ?_
          refine X_aload_n F dX4_tell_36 rfl ?_
          refine X_getr F ffRX4_21 dX4_tell_37 ?_
          refine X_iconst F dX4_tell_40 (v := (1 : Int32)) rfl ?_
          refine X_iload_n F dX4_tell_41 rfl ?_
          refine X_iast (j := 1) F rfl (inbV (by decide)) (by decide) dX4_tell_42 ?_
          refine X_aload_n F dX4_tell_43 rfl ?_
          refine X_getr F ffRX4_21 dX4_tell_44 ?_
          refine X_iconst F dX4_tell_47 (v := (2 : Int32)) rfl ?_
          refine X_iload F dX4_tell_48 rfl ?_
          refine X_iast (j := 2) F rfl (inbV (by decide)) (by decide) dX4_tell_50 ?_
          refine X_aload_n F dX4_tell_51 rfl ?_
          refine X_getr F ffRX4_21 dX4_tell_52 ?_
          refine X_iconst F dX4_tell_55 (v := (3 : Int32)) rfl ?_
          refine X_aload_n F dX4_tell_56 rfl ?_
          refine X_getr F ffRX4_28 dX4_tell_57 ?_
          refine X_geti (v := (M 1 4)) F ffRX4_50 dX4_tell_60 rfl ?_
          refine X_iast (j := 3) F rfl (inbV (by decide)) (by decide) dX4_tell_63 ?_
          refine X_aload_n F dX4_tell_64 rfl ?_
          refine X_getr F ffRX4_21 dX4_tell_65 ?_
          refine X_iconst F dX4_tell_68 (v := (4 : Int32)) rfl ?_
          refine X_iload F dX4_tell_69 rfl ?_
          refine X_iast (j := 4) F rfl (inbV (by decide)) (by decide) dX4_tell_71 ?_
          refine X_aload_n F dX4_tell_72 rfl ?_
          refine X_getr F ffRX4_21 dX4_tell_73 ?_
          refine X_iconst F dX4_tell_76 (v := (5 : Int32)) rfl ?_
          refine X_aload_n F dX4_tell_77 rfl ?_
          refine X_getr F ffRX4_28 dX4_tell_78 ?_
          refine X_geti (v := (M 1 3)) F ffRX4_55 dX4_tell_81 rfl ?_
          refine X_iast (j := 5) F rfl (inbV (by decide)) (by decide) dX4_tell_84 ?_
          refine X_aload_n F dX4_tell_85 rfl ?_
          refine X_getr F ffRX4_11 dX4_tell_86 ?_
          refine X_aload_n F dX4_tell_89 rfl ?_
          refine X_geti (v := (M 16 6)) F ffRX4_47 dX4_tell_90 rfl ?_
          obtain ⟨q5, h⟩ := ifS h
          refine X_aald (b := 18) F rfl (inbV q5) rfl dX4_tell_93 ?_
          refine X_astore F dX4_tell_94 (by decide) rfl ?_
          refine X_aload F dX4_tell_96 rfl ?_
          refine X_alen (v := (160 : Int32)) F (shR18 (inbV q5)) rfl dX4_tell_98 ?_
          refine X_aload_n F dX4_tell_99 rfl ?_
          refine X_getr F ffRX4_16 dX4_tell_100 ?_
          refine X_aload_n F dX4_tell_103 rfl ?_
          refine X_geti (v := (M 16 6)) F ffRX4_47 dX4_tell_104 rfl ?_
          refine X_aald (b := 25) F rfl (inbV q5) rfl dX4_tell_107 ?_
          refine X_iload_n F dX4_tell_108 rfl ?_
          refine X_iconst F dX4_tell_109 (v := (1 : Int32)) rfl ?_
          refine X_iadd F dX4_tell_110 ?_
          obtain ⟨q6, h⟩ := ifS h
          refine X_iald (j := (Int32.toNatClampNeg (a1 + (1 : Int32)))) (v := ((up2 (up2 (up2 (up2 (up2 (up2 M 31 0 a2) 31 1 a3) 31 2 a4) 31 3 (M 1 4)) 31 4 a5) 31 5 (M 1 3)) (25 + (Int32.toNatClampNeg (M 16 6))) (Int32.toNatClampNeg (a1 + (1 : Int32))))) F (shR25 (inbV q5)) (inbV q6) rfl rfl dX4_tell_111 ?_
          refine X_mmin F fmRX4_56 math_smin math_i math_cmin (rm_1 (by omega)) (rm_w (n := 13) (by omega) (Nat.le_of_ble_eq_true rfl) (by decide)) dX4_tell_112 ?_
          refine X_istore F dX4_tell_115 (by decide) rfl ?_
          refine X_iconst F dX4_tell_117 (v := (0 : Int32)) rfl ?_
          refine X_istore F dX4_tell_118 (by decide) rfl ?_
          refine X_iconst F dX4_tell_120 (v := (0 : Int32)) rfl ?_
          refine X_aload_n F dX4_tell_121 rfl ?_
          refine X_getr F ffRX4_16 dX4_tell_122 ?_
          refine X_aload_n F dX4_tell_125 rfl ?_
          refine X_geti (v := (M 16 6)) F ffRX4_47 dX4_tell_126 rfl ?_
          refine X_aald (b := 25) F rfl (inbV q5) rfl dX4_tell_129 ?_
          refine X_iload_n F dX4_tell_130 rfl ?_
          obtain ⟨q7, h⟩ := ifS h
          refine X_iald (j := (Int32.toNatClampNeg a1)) (v := ((up2 (up2 (up2 (up2 (up2 (up2 M 31 0 a2) 31 1 a3) 31 2 a4) 31 3 (M 1 4)) 31 4 a5) 31 5 (M 1 3)) (25 + (Int32.toNatClampNeg (M 16 6))) (Int32.toNatClampNeg a1))) F (shR25 (inbV q5)) (inbV q7) rfl rfl dX4_tell_131 ?_
          refine X_mmax F fmRX4_62 math_smax math_i math_cmax (rm_1 (by omega)) (rm_w (n := 13) (by omega) (Nat.le_of_ble_eq_true rfl) (by decide)) dX4_tell_132 ?_
          refine X_istore F dX4_tell_135 (by decide) rfl ?_
          refine X_pick [4, 3, 2, 1, 0] rfl ?_
          exact F4_tell_l137_ok F hr hlk hD FUEL _ _ _ _ _ (shR18 (inbV q5)) h
        · rw [if_neg q4] at h
          refine X_iconst F dX4_tell_27 (v := (0 : Int32)) rfl ?_
          exact X_iret F hr hlk (retI h) dX4_tell_28
set_option maxRecDepth 20000 in
theorem F4_tell_met {l : Launch} {G : GG} {D : Nat} {r : Int32 × Mem} {M : Mem} {a1 : Int32} {a2 : Int32} {a3 : Int32} {a4 : Int32} {a5 : Int32} (hI : Inj shA G.2.1) (hD : 2 ≤ D) (h : F4_tell M a1 a2 a3 a4 a5 = some r) : MetX shA l G yX4_tell cX4_tell 12 (some .int) D [.ref 16, .int a1, .int a2, .int a3, .int a4, .int a5] M (some (.int r.1), r.2) :=
  X_met hI (by decide +kernel) (Nat.le_of_ble_eq_true rfl) (fun p e s m args below meth c F hr hlk => F4_tell_ok F hr hlk hD h)
-- KeepOurPlace$Till.seconds
def F7_seconds (M : Mem) (a1 : Int32) (a2 : Int32) (a3 : Int32) : Option (Int32 × Mem) :=
    Option.bind (F2_holds M a2) fun r1 =>
    if ¬ r1.1 = 0 then
      if inb a2 8 = true then
      Option.bind (F4_tell r1.2 (0 : Int32) (r1.2 3 (Int32.toNatClampNeg a2)) (r1.2 4 (Int32.toNatClampNeg a2)) a3 (0 : Int32)) fun r5 =>
      if a1 = (1 : Int32) then
        some ((((r1.2 3 (Int32.toNatClampNeg a2)) * r5.1) + ((5 : Int32) * (r1.2 4 (Int32.toNatClampNeg a2)))), r5.2)
      else
      if a1 = (2 : Int32) then
        some ((jmin ((r1.2 3 (Int32.toNatClampNeg a2)) * r5.1) (60 : Int32)), r5.2)
      else
      if a1 = (3 : Int32) then
        if ¬ (jrem (r1.2 3 (Int32.toNatClampNeg a2)) (2 : Int32)) = (1 : Int32) then
          some (((((r1.2 3 (Int32.toNatClampNeg a2)) * r5.1) + ((5 : Int32) * (r1.2 4 (Int32.toNatClampNeg a2)))) + (0 : Int32)), r5.2)
        else
          some (((((r1.2 3 (Int32.toNatClampNeg a2)) * r5.1) + ((5 : Int32) * (r1.2 4 (Int32.toNatClampNeg a2)))) + (20 : Int32)), r5.2)
      else
      if a1 = (4 : Int32) then
        some (((jmin ((r1.2 3 (Int32.toNatClampNeg a2)) * r5.1) (60 : Int32)) + (r1.2 4 (Int32.toNatClampNeg a2))), r5.2)
      else
      if a1 = (5 : Int32) then
        some ((((r1.2 3 (Int32.toNatClampNeg a2)) * r5.1) / (2 : Int32)), r5.2)
      else
      some (((r1.2 3 (Int32.toNatClampNeg a2)) * r5.1), r5.2)
      else none
    else
      some ((0 : Int32), r1.2)
set_option maxRecDepth 20000 in
theorem F7_seconds_ok {p : Program} {l : Launch} {e : Env} {s : State} {m : MethodId} {args : Array Value} {below : List Frame} {meth : Method} {c : Code} {G : GG} {D : Nat} {r : Int32 × Mem} (F : FrP shA G p s m args c RX7 cX7_seconds 7) (hr : meth.sig.returnType = (some .int)) (hlk : meth.locks = false) (hD : 3 ≤ D) {M : Mem} {a1 : Int32} {a2 : Int32} {a3 : Int32} (h : F7_seconds M a1 a2 a3 = some r) : XJ shA p l e (rmX D) s m args below meth c 0 0 G 7 (MQ below (QcX shA G ((some (.int r.1), r.2) : Option Value × Mem).1 ((some (.int r.1), r.2) : Option Value × Mem).2) args s 0 0 (AW shA G.2.1)) 0 [(0, .ref 33), (1, .int a1), (2, .int a2), (3, .int a3)] [] M := by
  unfold F7_seconds at h
  refine X_aload_n F dX7_seconds_0 rfl ?_
  refine X_getr F ffRX7_9 dX7_seconds_1 ?_
  refine X_iload_n F dX7_seconds_4 rfl ?_
  obtain ⟨r1, h2, h⟩ := bndS h
  refine X_callV (ci := 1) (As := [.int a2]) (rest := []) F fkRX7_25 feX2_holds fvX2_holds ⟨_, _, _, rfl, rfl, rfl⟩ (F2_holds_met (D := D - 1) F.2.2.2.2.2.2.2.1 (by omega) h2) rfl rfl (Nat.le_of_ble_eq_true rfl) (rm_ok (by omega) (by decide)) dX7_seconds_5 ?_
  show XJ shA p l e (rmX D) s m args below meth c 0 0 G 7 (MQ below (QcX shA G ((some (.int r.1), r.2) : Option Value × Mem).1 ((some (.int r.1), r.2) : Option Value × Mem).2) args s 0 0 (AW shA G.2.1)) 8 [(0, .ref 33), (1, .int a1), (2, .int a2), (3, .int a3)] [.int r1.1] r1.2
  refine X_if_ne (tgt := 13) F dX7_seconds_8 (by decide) (fun q3 => ?_) (fun q3 => ?_)
  · rw [if_pos q3] at h
    refine X_aload_n F dX7_seconds_13 rfl ?_
    refine X_getr F ffRX7_9 dX7_seconds_14 ?_
    refine X_getr F ffRX7_31 dX7_seconds_17 ?_
    refine X_iload_n F dX7_seconds_20 rfl ?_
    obtain ⟨q4, h⟩ := ifS h
    refine X_iald (j := (Int32.toNatClampNeg a2)) (v := (r1.2 3 (Int32.toNatClampNeg a2))) F rfl (inbV q4) rfl rfl dX7_seconds_21 ?_
    refine X_istore F dX7_seconds_22 (by decide) rfl ?_
    refine X_aload_n F dX7_seconds_24 rfl ?_
    refine X_getr F ffRX7_9 dX7_seconds_25 ?_
    refine X_getr F ffRX7_35 dX7_seconds_28 ?_
    refine X_iload_n F dX7_seconds_31 rfl ?_
    refine X_iald (j := (Int32.toNatClampNeg a2)) (v := (r1.2 4 (Int32.toNatClampNeg a2))) F rfl (inbV q4) rfl rfl dX7_seconds_32 ?_
    refine X_istore F dX7_seconds_33 (by decide) rfl ?_
    refine X_iload F dX7_seconds_35 rfl ?_
    refine X_aload_n F dX7_seconds_37 rfl ?_
    refine X_getr F ffRX7_15 dX7_seconds_38 ?_
    refine X_iconst F dX7_seconds_41 (v := (0 : Int32)) rfl ?_
    refine X_iload F dX7_seconds_42 rfl ?_
    refine X_iload F dX7_seconds_44 rfl ?_
    refine X_iload_n F dX7_seconds_46 rfl ?_
    refine X_iconst F dX7_seconds_47 (v := (0 : Int32)) rfl ?_
    obtain ⟨r5, h6, h⟩ := bndS h
    refine X_callV (ci := 16) (As := [.int (0 : Int32), .int (r1.2 3 (Int32.toNatClampNeg a2)), .int (r1.2 4 (Int32.toNatClampNeg a2)), .int a3, .int (0 : Int32)]) (rest := [.int (r1.2 3 (Int32.toNatClampNeg a2))]) F fkRX7_19 feX4_tell fvX4_tell ⟨_, _, _, rfl, rfl, rfl⟩ (F4_tell_met (D := D - 1) F.2.2.2.2.2.2.2.1 (by omega) h6) rfl rfl (Nat.le_of_ble_eq_true rfl) (rm_ok (by omega) (by decide)) dX7_seconds_48 ?_
    show XJ shA p l e (rmX D) s m args below meth c 0 0 G 7 (MQ below (QcX shA G ((some (.int r.1), r.2) : Option Value × Mem).1 ((some (.int r.1), r.2) : Option Value × Mem).2) args s 0 0 (AW shA G.2.1)) 51 [(5, .int (r1.2 4 (Int32.toNatClampNeg a2))), (4, .int (r1.2 3 (Int32.toNatClampNeg a2))), (0, .ref 33), (1, .int a1), (2, .int a2), (3, .int a3)] [.int r5.1, .int (r1.2 3 (Int32.toNatClampNeg a2))] r5.2
    refine X_imul F dX7_seconds_51 ?_
    refine X_istore F dX7_seconds_52 (by decide) rfl ?_
    refine X_iload_n F dX7_seconds_54 rfl ?_
    by_cases q7 : a1 = (1 : Int32)
    · rw [if_pos q7] at h
      refine X_tin (tgt := 88) (off := 33) F dX7_seconds_55 (by rw [q7]; decide) (by decide) ?_
      refine X_iload F dX7_seconds_88 rfl ?_
      refine X_iconst F dX7_seconds_90 (v := (5 : Int32)) rfl ?_
      refine X_iload F dX7_seconds_91 rfl ?_
      refine X_imul F dX7_seconds_93 ?_
      refine X_iadd F dX7_seconds_94 ?_
      exact X_iret F hr hlk (retI h) dX7_seconds_95
    rw [if_neg q7] at h
    by_cases q8 : a1 = (2 : Int32)
    · rw [if_pos q8] at h
      refine X_tin (tgt := 96) (off := 41) F dX7_seconds_55 (by rw [q8]; decide) (by decide) ?_
      refine X_iload F dX7_seconds_96 rfl ?_
      refine X_bipush F dX7_seconds_98 (v := (60 : Int32)) rfl ?_
      refine X_mmin F fmRX7_38 math_smin math_i math_cmin (rm_1 (by omega)) (rm_w (n := 13) (by omega) (Nat.le_of_ble_eq_true rfl) (by decide)) dX7_seconds_100 ?_
      exact X_iret F hr hlk (retI h) dX7_seconds_103
    rw [if_neg q8] at h
    by_cases q9 : a1 = (3 : Int32)
    · rw [if_pos q9] at h
      refine X_tin (tgt := 104) (off := 49) F dX7_seconds_55 (by rw [q9]; decide) (by decide) ?_
      refine X_iload F dX7_seconds_104 rfl ?_
      refine X_iconst F dX7_seconds_106 (v := (5 : Int32)) rfl ?_
      refine X_iload F dX7_seconds_107 rfl ?_
      refine X_imul F dX7_seconds_109 ?_
      refine X_iadd F dX7_seconds_110 ?_
      refine X_iload F dX7_seconds_111 rfl ?_
      refine X_iconst F dX7_seconds_113 (v := (2 : Int32)) rfl ?_
      refine X_irem F dX7_seconds_114 (by decide) ?_
      refine X_iconst F dX7_seconds_115 (v := (1 : Int32)) rfl ?_
      refine X_icmp_ne (tgt := 124) F dX7_seconds_116 (by decide) (fun q10 => ?_) (fun q10 => ?_)
      · rw [if_pos q10] at h
        refine X_iconst F dX7_seconds_124 (v := (0 : Int32)) rfl ?_
        refine X_iadd F dX7_seconds_125 ?_
        exact X_iret F hr hlk (retI h) dX7_seconds_126
      · rw [if_neg (fun z => z q10)] at h
        refine X_bipush F dX7_seconds_119 (v := (20 : Int32)) rfl ?_
        refine X_goto (tgt := 125) F dX7_seconds_121 (by decide) ?_
        refine X_iadd F dX7_seconds_125 ?_
        exact X_iret F hr hlk (retI h) dX7_seconds_126
    rw [if_neg q9] at h
    by_cases q11 : a1 = (4 : Int32)
    · rw [if_pos q11] at h
      refine X_tin (tgt := 127) (off := 72) F dX7_seconds_55 (by rw [q11]; decide) (by decide) ?_
      refine X_iload F dX7_seconds_127 rfl ?_
      refine X_bipush F dX7_seconds_129 (v := (60 : Int32)) rfl ?_
      refine X_mmin F fmRX7_38 math_smin math_i math_cmin (rm_1 (by omega)) (rm_w (n := 13) (by omega) (Nat.le_of_ble_eq_true rfl) (by decide)) dX7_seconds_131 ?_
      refine X_iload F dX7_seconds_134 rfl ?_
      refine X_iadd F dX7_seconds_136 ?_
      exact X_iret F hr hlk (retI h) dX7_seconds_137
    rw [if_neg q11] at h
    by_cases q12 : a1 = (5 : Int32)
    · rw [if_pos q12] at h
      refine X_tin (tgt := 138) (off := 83) F dX7_seconds_55 (by rw [q12]; decide) (by decide) ?_
      refine X_iload F dX7_seconds_138 rfl ?_
      refine X_iconst F dX7_seconds_140 (v := (2 : Int32)) rfl ?_
      refine X_idiv F dX7_seconds_141 (by decide) ?_
      exact X_iret F hr hlk (retI h) dX7_seconds_142
    rw [if_neg q12] at h
    have eq7 := lv_neT q7 (a := 1) (by decide)
    have eq8 := lv_neT q8 (a := 2) (by decide)
    have eq9 := lv_neT q9 (a := 3) (by decide)
    have eq11 := lv_neT q11 (a := 4) (by decide)
    have eq12 := lv_neT q12 (a := 5) (by decide)
    refine X_tout (tgt := 143) F dX7_seconds_55 (by omega) (by decide) ?_
    refine X_iload F dX7_seconds_143 rfl ?_
    exact X_iret F hr hlk (retI h) dX7_seconds_145
  · rw [if_neg (fun z => z q3)] at h
    refine X_iconst F dX7_seconds_11 (v := (0 : Int32)) rfl ?_
    exact X_iret F hr hlk (retI h) dX7_seconds_12
set_option maxRecDepth 20000 in
theorem F7_seconds_met {l : Launch} {G : GG} {D : Nat} {r : Int32 × Mem} {M : Mem} {a1 : Int32} {a2 : Int32} {a3 : Int32} (hI : Inj shA G.2.1) (hD : 3 ≤ D) (h : F7_seconds M a1 a2 a3 = some r) : MetX shA l G yX7_seconds cX7_seconds 7 (some .int) D [.ref 33, .int a1, .int a2, .int a3] M (some (.int r.1), r.2) :=
  X_met hI (by decide +kernel) (Nat.le_of_ble_eq_true rfl) (fun p e s m args below meth c F hr hlk => F7_seconds_ok F hr hlk hD h)
-- KeepOurPlace$Till.minds
def F7_minds (M : Mem) (a1 : Int32) (a2 : Int32) : Option (Int32 × Mem) :=
    Option.bind (F2_holds M a1) fun r1 =>
    if ¬ r1.1 = 0 then
      if inb a1 8 = true then
      Option.bind (F4_tell r1.2 (1 : Int32) (r1.2 3 (Int32.toNatClampNeg a1)) (r1.2 4 (Int32.toNatClampNeg a1)) a1 a2) fun r5 =>
      if (r5.2 2 (Int32.toNatClampNeg a1)) = (2 : Int32) then
        some (((2 : Int32) * r5.1), r5.2)
      else
      if (r5.2 2 (Int32.toNatClampNeg a1)) = (3 : Int32) then
        some ((0 : Int32), r5.2)
      else
      if (r5.2 2 (Int32.toNatClampNeg a1)) = (4 : Int32) then
        some ((jmax (0 : Int32) (((2 : Int32) * r5.1) - (r1.2 4 (Int32.toNatClampNeg a1)))), r5.2)
      else
      if (r5.2 2 (Int32.toNatClampNeg a1)) = (5 : Int32) then
        some ((r5.1 + (1 : Int32)), r5.2)
      else
      some (r5.1, r5.2)
      else none
    else
      some ((0 : Int32), r1.2)
set_option maxRecDepth 20000 in
theorem F7_minds_ok {p : Program} {l : Launch} {e : Env} {s : State} {m : MethodId} {args : Array Value} {below : List Frame} {meth : Method} {c : Code} {G : GG} {D : Nat} {r : Int32 × Mem} (F : FrP shA G p s m args c RX7 cX7_minds 5) (hr : meth.sig.returnType = (some .int)) (hlk : meth.locks = false) (hD : 3 ≤ D) {M : Mem} {a1 : Int32} {a2 : Int32} (h : F7_minds M a1 a2 = some r) : XJ shA p l e (rmX D) s m args below meth c 0 0 G 5 (MQ below (QcX shA G ((some (.int r.1), r.2) : Option Value × Mem).1 ((some (.int r.1), r.2) : Option Value × Mem).2) args s 0 0 (AW shA G.2.1)) 0 [(0, .ref 33), (1, .int a1), (2, .int a2)] [] M := by
  unfold F7_minds at h
  refine X_aload_n F dX7_minds_0 rfl ?_
  refine X_getr F ffRX7_9 dX7_minds_1 ?_
  refine X_iload_n F dX7_minds_4 rfl ?_
  obtain ⟨r1, h2, h⟩ := bndS h
  refine X_callV (ci := 1) (As := [.int a1]) (rest := []) F fkRX7_25 feX2_holds fvX2_holds ⟨_, _, _, rfl, rfl, rfl⟩ (F2_holds_met (D := D - 1) F.2.2.2.2.2.2.2.1 (by omega) h2) rfl rfl (Nat.le_of_ble_eq_true rfl) (rm_ok (by omega) (by decide)) dX7_minds_5 ?_
  show XJ shA p l e (rmX D) s m args below meth c 0 0 G 5 (MQ below (QcX shA G ((some (.int r.1), r.2) : Option Value × Mem).1 ((some (.int r.1), r.2) : Option Value × Mem).2) args s 0 0 (AW shA G.2.1)) 8 [(0, .ref 33), (1, .int a1), (2, .int a2)] [.int r1.1] r1.2
  refine X_if_ne (tgt := 13) F dX7_minds_8 (by decide) (fun q3 => ?_) (fun q3 => ?_)
  · rw [if_pos q3] at h
    refine X_aload_n F dX7_minds_13 rfl ?_
    refine X_getr F ffRX7_9 dX7_minds_14 ?_
    refine X_getr F ffRX7_35 dX7_minds_17 ?_
    refine X_iload_n F dX7_minds_20 rfl ?_
    obtain ⟨q4, h⟩ := ifS h
    refine X_iald (j := (Int32.toNatClampNeg a1)) (v := (r1.2 4 (Int32.toNatClampNeg a1))) F rfl (inbV q4) rfl rfl dX7_minds_21 ?_
    refine X_istore_n F dX7_minds_22 (by decide) rfl ?_
    refine X_aload_n F dX7_minds_23 rfl ?_
    refine X_getr F ffRX7_15 dX7_minds_24 ?_
    refine X_iconst F dX7_minds_27 (v := (1 : Int32)) rfl ?_
    refine X_aload_n F dX7_minds_28 rfl ?_
    refine X_getr F ffRX7_9 dX7_minds_29 ?_
    refine X_getr F ffRX7_31 dX7_minds_32 ?_
    refine X_iload_n F dX7_minds_35 rfl ?_
    refine X_iald (j := (Int32.toNatClampNeg a1)) (v := (r1.2 3 (Int32.toNatClampNeg a1))) F rfl (inbV q4) rfl rfl dX7_minds_36 ?_
    refine X_iload_n F dX7_minds_37 rfl ?_
    refine X_iload_n F dX7_minds_38 rfl ?_
    refine X_iload_n F dX7_minds_39 rfl ?_
    obtain ⟨r5, h6, h⟩ := bndS h
    refine X_callV (ci := 16) (As := [.int (1 : Int32), .int (r1.2 3 (Int32.toNatClampNeg a1)), .int (r1.2 4 (Int32.toNatClampNeg a1)), .int a1, .int a2]) (rest := []) F fkRX7_19 feX4_tell fvX4_tell ⟨_, _, _, rfl, rfl, rfl⟩ (F4_tell_met (D := D - 1) F.2.2.2.2.2.2.2.1 (by omega) h6) rfl rfl (Nat.le_of_ble_eq_true rfl) (rm_ok (by omega) (by decide)) dX7_minds_40 ?_
    show XJ shA p l e (rmX D) s m args below meth c 0 0 G 5 (MQ below (QcX shA G ((some (.int r.1), r.2) : Option Value × Mem).1 ((some (.int r.1), r.2) : Option Value × Mem).2) args s 0 0 (AW shA G.2.1)) 43 [(3, .int (r1.2 4 (Int32.toNatClampNeg a1))), (0, .ref 33), (1, .int a1), (2, .int a2)] [.int r5.1] r5.2
    refine X_istore F dX7_minds_43 (by decide) rfl ?_
    refine X_aload_n F dX7_minds_45 rfl ?_
    refine X_getr F ffRX7_9 dX7_minds_46 ?_
    refine X_getr F ffRX7_44 dX7_minds_49 ?_
    refine X_iload_n F dX7_minds_52 rfl ?_
    refine X_iald (j := (Int32.toNatClampNeg a1)) (v := (r5.2 2 (Int32.toNatClampNeg a1))) F rfl (inbV q4) rfl rfl dX7_minds_53 ?_
    by_cases q7 : (r5.2 2 (Int32.toNatClampNeg a1)) = (2 : Int32)
    · rw [if_pos q7] at h
      refine X_tin (tgt := 84) (off := 30) F dX7_minds_54 (by rw [q7]; decide) (by decide) ?_
      refine X_iconst F dX7_minds_84 (v := (2 : Int32)) rfl ?_
      refine X_iload F dX7_minds_85 rfl ?_
      refine X_imul F dX7_minds_87 ?_
      exact X_iret F hr hlk (retI h) dX7_minds_88
    rw [if_neg q7] at h
    by_cases q8 : (r5.2 2 (Int32.toNatClampNeg a1)) = (3 : Int32)
    · rw [if_pos q8] at h
      refine X_tin (tgt := 89) (off := 35) F dX7_minds_54 (by rw [q8]; decide) (by decide) ?_
      refine X_iconst F dX7_minds_89 (v := (0 : Int32)) rfl ?_
      exact X_iret F hr hlk (retI h) dX7_minds_90
    rw [if_neg q8] at h
    by_cases q9 : (r5.2 2 (Int32.toNatClampNeg a1)) = (4 : Int32)
    · rw [if_pos q9] at h
      refine X_tin (tgt := 91) (off := 37) F dX7_minds_54 (by rw [q9]; decide) (by decide) ?_
      refine X_iconst F dX7_minds_91 (v := (0 : Int32)) rfl ?_
      refine X_iconst F dX7_minds_92 (v := (2 : Int32)) rfl ?_
      refine X_iload F dX7_minds_93 rfl ?_
      refine X_imul F dX7_minds_95 ?_
      refine X_iload_n F dX7_minds_96 rfl ?_
      refine X_isub F dX7_minds_97 ?_
      refine X_mmax F fmRX7_47 math_smax math_i math_cmax (rm_1 (by omega)) (rm_w (n := 13) (by omega) (Nat.le_of_ble_eq_true rfl) (by decide)) dX7_minds_98 ?_
      exact X_iret F hr hlk (retI h) dX7_minds_101
    rw [if_neg q9] at h
    by_cases q10 : (r5.2 2 (Int32.toNatClampNeg a1)) = (5 : Int32)
    · rw [if_pos q10] at h
      refine X_tin (tgt := 102) (off := 48) F dX7_minds_54 (by rw [q10]; decide) (by decide) ?_
      refine X_iload F dX7_minds_102 rfl ?_
      refine X_iconst F dX7_minds_104 (v := (1 : Int32)) rfl ?_
      refine X_iadd F dX7_minds_105 ?_
      exact X_iret F hr hlk (retI h) dX7_minds_106
    rw [if_neg q10] at h
    have eq7 := lv_neT q7 (a := 2) (by decide)
    have eq8 := lv_neT q8 (a := 3) (by decide)
    have eq9 := lv_neT q9 (a := 4) (by decide)
    have eq10 := lv_neT q10 (a := 5) (by decide)
    refine X_tout (tgt := 107) F dX7_minds_54 (by omega) (by decide) ?_
    refine X_iload F dX7_minds_107 rfl ?_
    exact X_iret F hr hlk (retI h) dX7_minds_109
  · rw [if_neg (fun z => z q3)] at h
    refine X_iconst F dX7_minds_11 (v := (0 : Int32)) rfl ?_
    exact X_iret F hr hlk (retI h) dX7_minds_12
set_option maxRecDepth 20000 in
theorem F7_minds_met {l : Launch} {G : GG} {D : Nat} {r : Int32 × Mem} {M : Mem} {a1 : Int32} {a2 : Int32} (hI : Inj shA G.2.1) (hD : 3 ≤ D) (h : F7_minds M a1 a2 = some r) : MetX shA l G yX7_minds cX7_minds 5 (some .int) D [.ref 33, .int a1, .int a2] M (some (.int r.1), r.2) :=
  X_met hI (by decide +kernel) (Nat.le_of_ble_eq_true rfl) (fun p e s m args below meth c F hr hlk => F7_minds_ok F hr hlk hD h)
-- KeepOurPlace$Till.turnChanged
def F7_turnChanged_j52 (rec5 : Mem → Int32 → Int32 → Int32 → Int32 → Option (Int32 × Mem)) (M : Mem) (x1 : Int32) (x2 : Int32) (x3 : Int32) (x4 : Int32) (y0 : Int32) : Option (Int32 × Mem) :=
    if inb y0 8 = true then
    Option.bind (F7_seconds M (M 2 (Int32.toNatClampNeg y0)) y0 x4) fun r8 =>
    rec5 r8.2 x1 x2 (x3 + r8.1) (x4 + (1 : Int32))
    else none
def F7_turnChanged_j50 (rec5 : Mem → Int32 → Int32 → Int32 → Int32 → Option (Int32 × Mem)) (M : Mem) (x1 : Int32) (x2 : Int32) (x3 : Int32) (x4 : Int32) : Option (Int32 × Mem) :=
    F7_turnChanged_j52 rec5 M x1 x2 x3 x4 x4
def F7_turnChanged_l5_b (rec5 : Mem → Int32 → Int32 → Int32 → Int32 → Option (Int32 × Mem)) (M : Mem) (x1 : Int32) (x2 : Int32) (x3 : Int32) (x4 : Int32) : Option (Int32 × Mem) :=
    if (M 1 4) ≤ x4 then
      some (x3, M)
    else
      if (M 1 3) ≤ x4 then
        some (x3, M)
      else
        if ¬ x4 = x1 then
          F7_turnChanged_j50 rec5 M x1 x2 x3 x4
        else
          Option.bind (F2_holds M x2) fun r4 =>
          if r4.1 = 0 then
            F7_turnChanged_j50 rec5 r4.2 x1 x2 x3 x4
          else
            F7_turnChanged_j52 rec5 r4.2 x1 x2 x3 x4 x2
def F7_turnChanged_l5 : Nat → Mem → Int32 → Int32 → Int32 → Int32 → Option (Int32 × Mem)
  | 0, _, _, _, _, _ => none
  | fu + 1, M, x1, x2, x3, x4 => F7_turnChanged_l5_b (F7_turnChanged_l5 fu) M x1 x2 x3 x4
def F7_turnChanged (M : Mem) (a1 : Int32) (a2 : Int32) : Option (Int32 × Mem) :=
    F7_turnChanged_l5 FUEL M a1 a2 (0 : Int32) (0 : Int32)
set_option maxRecDepth 20000 in
theorem F7_turnChanged_j52_ok {p : Program} {l : Launch} {e : Env} {s : State} {m : MethodId} {args : Array Value} {below : List Frame} {meth : Method} {c : Code} {G : GG} {D : Nat} {r : Int32 × Mem} {rec5 : Mem → Int32 → Int32 → Int32 → Int32 → Option (Int32 × Mem)} (F : FrP shA G p s m args c RX7 cX7_turnChanged 6) (hr : meth.sig.returnType = (some .int)) (hlk : meth.locks = false) (hD : 4 ≤ D) (hrec5 : ∀ (M : Mem) (x1 : Int32) (x2 : Int32) (x3 : Int32) (x4 : Int32), rec5 M x1 x2 x3 x4 = some r → XJ shA p l e (rmX D) s m args below meth c 0 0 G 6 (MQ below (QcX shA G ((some (.int r.1), r.2) : Option Value × Mem).1 ((some (.int r.1), r.2) : Option Value × Mem).2) args s 0 0 (AW shA G.2.1)) 5 [(0, .ref 33), (1, .int x1), (2, .int x2), (3, .int x3), (4, .int x4)] [] M) {M : Mem} {x1 : Int32} {x2 : Int32} {x3 : Int32} {x4 : Int32} {y0 : Int32} (h : F7_turnChanged_j52 rec5 M x1 x2 x3 x4 y0 = some r) : XJ shA p l e (rmX D) s m args below meth c 0 0 G 6 (MQ below (QcX shA G ((some (.int r.1), r.2) : Option Value × Mem).1 ((some (.int r.1), r.2) : Option Value × Mem).2) args s 0 0 (AW shA G.2.1)) 52 [(0, .ref 33), (1, .int x1), (2, .int x2), (3, .int x3), (4, .int x4)] [.int y0] M := by
  unfold F7_turnChanged_j52 at h
  refine X_istore F dX7_turnChanged_52 (by decide) rfl ?_
  refine X_iload_n F dX7_turnChanged_54 rfl ?_
  refine X_aload_n F dX7_turnChanged_55 rfl ?_
  refine X_aload_n F dX7_turnChanged_56 rfl ?_
  refine X_getr F ffRX7_9 dX7_turnChanged_57 ?_
  refine X_getr F ffRX7_44 dX7_turnChanged_60 ?_
  refine X_iload F dX7_turnChanged_63 rfl ?_
  obtain ⟨q7, h⟩ := ifS h
  refine X_iald (j := (Int32.toNatClampNeg y0)) (v := (M 2 (Int32.toNatClampNeg y0))) F rfl (inbV q7) rfl rfl dX7_turnChanged_65 ?_
  refine X_iload F dX7_turnChanged_66 rfl ?_
  refine X_iload F dX7_turnChanged_68 rfl ?_
  obtain ⟨r8, h9, h⟩ := bndS h
  refine X_callV (ci := 33) (As := [.int (M 2 (Int32.toNatClampNeg y0)), .int y0, .int x4]) (rest := [.int x3]) F fkRX7_57 feX7_seconds fvX7_seconds ⟨_, _, _, rfl, rfl, rfl⟩ (F7_seconds_met (D := D - 1) F.2.2.2.2.2.2.2.1 (by omega) h9) rfl rfl (Nat.le_of_ble_eq_true rfl) (rm_ok (by omega) (by decide)) dX7_turnChanged_70 ?_
  show XJ shA p l e (rmX D) s m args below meth c 0 0 G 6 (MQ below (QcX shA G ((some (.int r.1), r.2) : Option Value × Mem).1 ((some (.int r.1), r.2) : Option Value × Mem).2) args s 0 0 (AW shA G.2.1)) 73 [(5, .int y0), (0, .ref 33), (1, .int x1), (2, .int x2), (3, .int x3), (4, .int x4)] [.int r8.1, .int x3] r8.2
  refine X_iadd F dX7_turnChanged_73 ?_
  refine X_istore_n F dX7_turnChanged_74 (by decide) rfl ?_
  refine X_iinc F dX7_turnChanged_75 rfl (v := (1 : Int32)) rfl (by decide) rfl ?_
  refine X_goto (tgt := 5) F dX7_turnChanged_78 (by decide) ?_
  refine X_pick [3, 4, 5, 1, 0] rfl ?_
  exact hrec5 _ _ _ _ _ h
set_option maxRecDepth 20000 in
theorem F7_turnChanged_j50_ok {p : Program} {l : Launch} {e : Env} {s : State} {m : MethodId} {args : Array Value} {below : List Frame} {meth : Method} {c : Code} {G : GG} {D : Nat} {r : Int32 × Mem} {rec5 : Mem → Int32 → Int32 → Int32 → Int32 → Option (Int32 × Mem)} (F : FrP shA G p s m args c RX7 cX7_turnChanged 6) (hr : meth.sig.returnType = (some .int)) (hlk : meth.locks = false) (hD : 4 ≤ D) (hrec5 : ∀ (M : Mem) (x1 : Int32) (x2 : Int32) (x3 : Int32) (x4 : Int32), rec5 M x1 x2 x3 x4 = some r → XJ shA p l e (rmX D) s m args below meth c 0 0 G 6 (MQ below (QcX shA G ((some (.int r.1), r.2) : Option Value × Mem).1 ((some (.int r.1), r.2) : Option Value × Mem).2) args s 0 0 (AW shA G.2.1)) 5 [(0, .ref 33), (1, .int x1), (2, .int x2), (3, .int x3), (4, .int x4)] [] M) {M : Mem} {x1 : Int32} {x2 : Int32} {x3 : Int32} {x4 : Int32} (h : F7_turnChanged_j50 rec5 M x1 x2 x3 x4 = some r) : XJ shA p l e (rmX D) s m args below meth c 0 0 G 6 (MQ below (QcX shA G ((some (.int r.1), r.2) : Option Value × Mem).1 ((some (.int r.1), r.2) : Option Value × Mem).2) args s 0 0 (AW shA G.2.1)) 50 [(0, .ref 33), (1, .int x1), (2, .int x2), (3, .int x3), (4, .int x4)] [] M := by
  unfold F7_turnChanged_j50 at h
  refine X_iload F dX7_turnChanged_50 rfl ?_
  exact F7_turnChanged_j52_ok F hr hlk hD hrec5 h
set_option maxRecDepth 20000 in
theorem F7_turnChanged_l5_bok {p : Program} {l : Launch} {e : Env} {s : State} {m : MethodId} {args : Array Value} {below : List Frame} {meth : Method} {c : Code} {G : GG} {D : Nat} {r : Int32 × Mem} {rec5 : Mem → Int32 → Int32 → Int32 → Int32 → Option (Int32 × Mem)} (F : FrP shA G p s m args c RX7 cX7_turnChanged 6) (hr : meth.sig.returnType = (some .int)) (hlk : meth.locks = false) (hD : 4 ≤ D) (hrec5 : ∀ (M : Mem) (x1 : Int32) (x2 : Int32) (x3 : Int32) (x4 : Int32), rec5 M x1 x2 x3 x4 = some r → XJ shA p l e (rmX D) s m args below meth c 0 0 G 6 (MQ below (QcX shA G ((some (.int r.1), r.2) : Option Value × Mem).1 ((some (.int r.1), r.2) : Option Value × Mem).2) args s 0 0 (AW shA G.2.1)) 5 [(0, .ref 33), (1, .int x1), (2, .int x2), (3, .int x3), (4, .int x4)] [] M) {M : Mem} {x1 : Int32} {x2 : Int32} {x3 : Int32} {x4 : Int32} (h : F7_turnChanged_l5_b rec5 M x1 x2 x3 x4 = some r) : XJ shA p l e (rmX D) s m args below meth c 0 0 G 6 (MQ below (QcX shA G ((some (.int r.1), r.2) : Option Value × Mem).1 ((some (.int r.1), r.2) : Option Value × Mem).2) args s 0 0 (AW shA G.2.1)) 5 [(0, .ref 33), (1, .int x1), (2, .int x2), (3, .int x3), (4, .int x4)] [] M := by
  unfold F7_turnChanged_l5_b at h
  refine X_iload F dX7_turnChanged_5 rfl ?_
  refine X_aload_n F dX7_turnChanged_7 rfl ?_
  refine X_getr F ffRX7_9 dX7_turnChanged_8 ?_
  refine X_geti (v := (M 1 4)) F ffRX7_50 dX7_turnChanged_11 rfl ?_
  refine X_icmp_ge (tgt := 81) F dX7_turnChanged_14 (by decide) (fun q1 => ?_) (fun q1 => ?_)
  · rw [if_pos q1] at h
    refine X_iload_n F dX7_turnChanged_81 rfl ?_
    exact X_iret F hr hlk (retI h) dX7_turnChanged_82
  · rw [if_neg q1] at h
    refine X_iload F dX7_turnChanged_17 rfl ?_
    refine X_aload_n F dX7_turnChanged_19 rfl ?_
    refine X_getr F ffRX7_9 dX7_turnChanged_20 ?_
    refine X_geti (v := (M 1 3)) F ffRX7_54 dX7_turnChanged_23 rfl ?_
    refine X_icmp_ge (tgt := 81) F dX7_turnChanged_26 (by decide) (fun q2 => ?_) (fun q2 => ?_)
    · rw [if_pos q2] at h
      refine X_iload_n F dX7_turnChanged_81 rfl ?_
      exact X_iret F hr hlk (retI h) dX7_turnChanged_82
    · rw [if_neg q2] at h
      refine X_iload F dX7_turnChanged_29 rfl ?_
      refine X_iload_n F dX7_turnChanged_31 rfl ?_
      refine X_icmp_ne (tgt := 50) F dX7_turnChanged_32 (by decide) (fun q3 => ?_) (fun q3 => ?_)
      · rw [if_pos q3] at h
        exact F7_turnChanged_j50_ok F hr hlk hD hrec5 h
      · rw [if_neg (fun z => z q3)] at h
        refine X_aload_n F dX7_turnChanged_35 rfl ?_
        refine X_getr F ffRX7_9 dX7_turnChanged_36 ?_
        refine X_iload_n F dX7_turnChanged_39 rfl ?_
        obtain ⟨r4, h5, h⟩ := bndS h
        refine X_callV (ci := 1) (As := [.int x2]) (rest := []) F fkRX7_25 feX2_holds fvX2_holds ⟨_, _, _, rfl, rfl, rfl⟩ (F2_holds_met (D := D - 1) F.2.2.2.2.2.2.2.1 (by omega) h5) rfl rfl (Nat.le_of_ble_eq_true rfl) (rm_ok (by omega) (by decide)) dX7_turnChanged_40 ?_
        show XJ shA p l e (rmX D) s m args below meth c 0 0 G 6 (MQ below (QcX shA G ((some (.int r.1), r.2) : Option Value × Mem).1 ((some (.int r.1), r.2) : Option Value × Mem).2) args s 0 0 (AW shA G.2.1)) 43 [(0, .ref 33), (1, .int x1), (2, .int x2), (3, .int x3), (4, .int x4)] [.int r4.1] r4.2
        refine X_if_eq (tgt := 50) F dX7_turnChanged_43 (by decide) (fun q6 => ?_) (fun q6 => ?_)
        · rw [if_pos q6] at h
          exact F7_turnChanged_j50_ok F hr hlk hD hrec5 h
        · rw [if_neg q6] at h
          refine X_iload_n F dX7_turnChanged_46 rfl ?_
          refine X_goto (tgt := 52) F dX7_turnChanged_47 (by decide) ?_
          exact F7_turnChanged_j52_ok F hr hlk hD hrec5 h
set_option maxRecDepth 20000 in
theorem F7_turnChanged_l5_ok {p : Program} {l : Launch} {e : Env} {s : State} {m : MethodId} {args : Array Value} {below : List Frame} {meth : Method} {c : Code} {G : GG} {D : Nat} {r : Int32 × Mem} (F : FrP shA G p s m args c RX7 cX7_turnChanged 6) (hr : meth.sig.returnType = (some .int)) (hlk : meth.locks = false) (hD : 4 ≤ D) : ∀ (fu : Nat) (M : Mem) (x1 : Int32) (x2 : Int32) (x3 : Int32) (x4 : Int32), F7_turnChanged_l5 fu M x1 x2 x3 x4 = some r → XJ shA p l e (rmX D) s m args below meth c 0 0 G 6 (MQ below (QcX shA G ((some (.int r.1), r.2) : Option Value × Mem).1 ((some (.int r.1), r.2) : Option Value × Mem).2) args s 0 0 (AW shA G.2.1)) 5 [(0, .ref 33), (1, .int x1), (2, .int x2), (3, .int x3), (4, .int x4)] [] M := by
  intro fu
  induction fu with
  | zero => intro M x1 x2 x3 x4 h; cases h
  | succ fu ih => intro M x1 x2 x3 x4 h; exact F7_turnChanged_l5_bok F hr hlk hD (fun M x1 x2 x3 x4 => ih M x1 x2 x3 x4) h
set_option maxRecDepth 20000 in
theorem F7_turnChanged_ok {p : Program} {l : Launch} {e : Env} {s : State} {m : MethodId} {args : Array Value} {below : List Frame} {meth : Method} {c : Code} {G : GG} {D : Nat} {r : Int32 × Mem} (F : FrP shA G p s m args c RX7 cX7_turnChanged 6) (hr : meth.sig.returnType = (some .int)) (hlk : meth.locks = false) (hD : 4 ≤ D) {M : Mem} {a1 : Int32} {a2 : Int32} (h : F7_turnChanged M a1 a2 = some r) : XJ shA p l e (rmX D) s m args below meth c 0 0 G 6 (MQ below (QcX shA G ((some (.int r.1), r.2) : Option Value × Mem).1 ((some (.int r.1), r.2) : Option Value × Mem).2) args s 0 0 (AW shA G.2.1)) 0 [(0, .ref 33), (1, .int a1), (2, .int a2)] [] M := by
  unfold F7_turnChanged at h
  refine X_iconst F dX7_turnChanged_0 (v := (0 : Int32)) rfl ?_
  refine X_istore_n F dX7_turnChanged_1 (by decide) rfl ?_
  refine X_iconst F dX7_turnChanged_2 (v := (0 : Int32)) rfl ?_
  refine X_istore F dX7_turnChanged_3 (by decide) rfl ?_
  refine X_pick [2, 3, 4, 1, 0] rfl ?_
  exact F7_turnChanged_l5_ok F hr hlk hD FUEL _ _ _ _ _ h
set_option maxRecDepth 20000 in
theorem F7_turnChanged_met {l : Launch} {G : GG} {D : Nat} {r : Int32 × Mem} {M : Mem} {a1 : Int32} {a2 : Int32} (hI : Inj shA G.2.1) (hD : 4 ≤ D) (h : F7_turnChanged M a1 a2 = some r) : MetX shA l G yX7_turnChanged cX7_turnChanged 6 (some .int) D [.ref 33, .int a1, .int a2] M (some (.int r.1), r.2) :=
  X_met hI (by decide +kernel) (Nat.le_of_ble_eq_true rfl) (fun p e s m args below meth c F hr hlk => F7_turnChanged_ok F hr hlk hD h)
-- KeepOurPlace$Sheets.holds
def F5_holds (M : Mem) (a1 : Int32) : Option (Int32 × Mem) :=
    if a1 < 0 then
      some ((0 : Int32), M)
    else
      if (4 : Int32) ≤ a1 then
        some ((0 : Int32), M)
      else
        some ((1 : Int32), M)
set_option maxRecDepth 20000 in
theorem F5_holds_ok {p : Program} {l : Launch} {e : Env} {s : State} {m : MethodId} {args : Array Value} {below : List Frame} {meth : Method} {c : Code} {G : GG} {D : Nat} {r : Int32 × Mem} (F : FrP shA G p s m args c RX5 cX5_holds 2) (hr : meth.sig.returnType = (some .boolean)) (hlk : meth.locks = false) (hD : 1 ≤ D) {M : Mem} {a1 : Int32} (h : F5_holds M a1 = some r) : XJ shA p l e (rmX D) s m args below meth c 0 0 G 2 (MQ below (QcX shA G ((some (.int r.1), r.2) : Option Value × Mem).1 ((some (.int r.1), r.2) : Option Value × Mem).2) args s 0 0 (AW shA G.2.1)) 0 [(0, .ref 42), (1, .int a1)] [] M := by
  unfold F5_holds at h
  refine X_iload_n F dX5_holds_0 rfl ?_
  refine X_if_lt (tgt := 13) F dX5_holds_1 (by decide) (fun q1 => ?_) (fun q1 => ?_)
  · rw [if_pos q1] at h
    refine X_iconst F dX5_holds_13 (v := (0 : Int32)) rfl ?_
    exact X_zret F hr hlk rfl (retI h) dX5_holds_14
  · rw [if_neg q1] at h
    refine X_iload_n F dX5_holds_4 rfl ?_
    refine X_iconst F dX5_holds_5 (v := (4 : Int32)) rfl ?_
    refine X_icmp_ge (tgt := 13) F dX5_holds_6 (by decide) (fun q2 => ?_) (fun q2 => ?_)
    · rw [if_pos q2] at h
      refine X_iconst F dX5_holds_13 (v := (0 : Int32)) rfl ?_
      exact X_zret F hr hlk rfl (retI h) dX5_holds_14
    · rw [if_neg q2] at h
      refine X_iconst F dX5_holds_9 (v := (1 : Int32)) rfl ?_
      refine X_goto (tgt := 14) F dX5_holds_10 (by decide) ?_
      exact X_zret F hr hlk rfl (retI h) dX5_holds_14
set_option maxRecDepth 20000 in
theorem F5_holds_met {l : Launch} {G : GG} {D : Nat} {r : Int32 × Mem} {M : Mem} {a1 : Int32} (hI : Inj shA G.2.1) (hD : 1 ≤ D) (h : F5_holds M a1 = some r) : MetX shA l G yX5_holds cX5_holds 2 (some .boolean) D [.ref 42, .int a1] M (some (.int r.1), r.2) :=
  X_met hI (by decide +kernel) (Nat.le_of_ble_eq_true rfl) (fun p e s m args below meth c F hr hlk => F5_holds_ok F hr hlk hD h)
-- KeepOurPlace$Sheets.isMissing
def F5_isMissing (M : Mem) (a1 : Int32) : Option (Int32 × Mem) :=
    Option.bind (F5_holds M a1) fun r1 =>
    if r1.1 = 0 then
      some ((1 : Int32), r1.2)
    else
      if inb a1 4 = true then
      if ¬ (r1.2 43 (Int32.toNatClampNeg a1)) = (-1 : Int32) then
        some ((0 : Int32), r1.2)
      else
        some ((1 : Int32), r1.2)
      else none
set_option maxRecDepth 20000 in
theorem F5_isMissing_ok {p : Program} {l : Launch} {e : Env} {s : State} {m : MethodId} {args : Array Value} {below : List Frame} {meth : Method} {c : Code} {G : GG} {D : Nat} {r : Int32 × Mem} (F : FrP shA G p s m args c RX5 cX5_isMissing 2) (hr : meth.sig.returnType = (some .boolean)) (hlk : meth.locks = false) (hD : 2 ≤ D) {M : Mem} {a1 : Int32} (h : F5_isMissing M a1 = some r) : XJ shA p l e (rmX D) s m args below meth c 0 0 G 2 (MQ below (QcX shA G ((some (.int r.1), r.2) : Option Value × Mem).1 ((some (.int r.1), r.2) : Option Value × Mem).2) args s 0 0 (AW shA G.2.1)) 0 [(0, .ref 42), (1, .int a1)] [] M := by
  unfold F5_isMissing at h
  refine X_aload_n F dX5_isMissing_0 rfl ?_
  refine X_iload_n F dX5_isMissing_1 rfl ?_
  obtain ⟨r1, h2, h⟩ := bndS h
  refine X_callV (ci := 42) (As := [.int a1]) (rest := []) F fkRX5_23 feX5_holds fvX5_holds ⟨_, _, _, rfl, rfl, rfl⟩ (F5_holds_met (D := D - 1) F.2.2.2.2.2.2.2.1 (by omega) h2) rfl rfl (Nat.le_of_ble_eq_true rfl) (rm_ok (by omega) (by decide)) dX5_isMissing_2 ?_
  show XJ shA p l e (rmX D) s m args below meth c 0 0 G 2 (MQ below (QcX shA G ((some (.int r.1), r.2) : Option Value × Mem).1 ((some (.int r.1), r.2) : Option Value × Mem).2) args s 0 0 (AW shA G.2.1)) 5 [(0, .ref 42), (1, .int a1)] [.int r1.1] r1.2
  refine X_if_eq (tgt := 18) F dX5_isMissing_5 (by decide) (fun q3 => ?_) (fun q3 => ?_)
  · rw [if_pos q3] at h
    refine X_iconst F dX5_isMissing_18 (v := (1 : Int32)) rfl ?_
    refine X_goto (tgt := 23) F dX5_isMissing_19 (by decide) ?_
    exact X_zret F hr hlk rfl (retI h) dX5_isMissing_23
  · rw [if_neg q3] at h
    refine X_aload_n F dX5_isMissing_8 rfl ?_
    refine X_getr F ffRX5_9 dX5_isMissing_9 ?_
    refine X_iload_n F dX5_isMissing_12 rfl ?_
    obtain ⟨q4, h⟩ := ifS h
    refine X_iald (j := (Int32.toNatClampNeg a1)) (v := (r1.2 43 (Int32.toNatClampNeg a1))) F rfl (inbV q4) rfl rfl dX5_isMissing_13 ?_
    refine X_iconst F dX5_isMissing_14 (v := (-1 : Int32)) rfl ?_
    refine X_icmp_ne (tgt := 22) F dX5_isMissing_15 (by decide) (fun q5 => ?_) (fun q5 => ?_)
    · rw [if_pos q5] at h
      refine X_iconst F dX5_isMissing_22 (v := (0 : Int32)) rfl ?_
      exact X_zret F hr hlk rfl (retI h) dX5_isMissing_23
    · rw [if_neg (fun z => z q5)] at h
      refine X_iconst F dX5_isMissing_18 (v := (1 : Int32)) rfl ?_
      refine X_goto (tgt := 23) F dX5_isMissing_19 (by decide) ?_
      exact X_zret F hr hlk rfl (retI h) dX5_isMissing_23
set_option maxRecDepth 20000 in
theorem F5_isMissing_met {l : Launch} {G : GG} {D : Nat} {r : Int32 × Mem} {M : Mem} {a1 : Int32} (hI : Inj shA G.2.1) (hD : 2 ≤ D) (h : F5_isMissing M a1 = some r) : MetX shA l G yX5_isMissing cX5_isMissing 2 (some .boolean) D [.ref 42, .int a1] M (some (.int r.1), r.2) :=
  X_met hI (by decide +kernel) (Nat.le_of_ble_eq_true rfl) (fun p e s m args below meth c F hr hlk => F5_isMissing_ok F hr hlk hD h)
-- KeepOurPlace$Till.pace
def F7_pace (M : Mem) (a1 : Int32) : Option (Int32 × Mem) :=
    Option.bind (F4_tell M (2 : Int32) a1 (0 : Int32) (0 : Int32) (0 : Int32)) fun r1 =>
    some (r1.1, r1.2)
set_option maxRecDepth 20000 in
theorem F7_pace_ok {p : Program} {l : Launch} {e : Env} {s : State} {m : MethodId} {args : Array Value} {below : List Frame} {meth : Method} {c : Code} {G : GG} {D : Nat} {r : Int32 × Mem} (F : FrP shA G p s m args c RX7 cX7_pace 2) (hr : meth.sig.returnType = (some .int)) (hlk : meth.locks = false) (hD : 3 ≤ D) {M : Mem} {a1 : Int32} (h : F7_pace M a1 = some r) : XJ shA p l e (rmX D) s m args below meth c 0 0 G 2 (MQ below (QcX shA G ((some (.int r.1), r.2) : Option Value × Mem).1 ((some (.int r.1), r.2) : Option Value × Mem).2) args s 0 0 (AW shA G.2.1)) 0 [(0, .ref 33), (1, .int a1)] [] M := by
  unfold F7_pace at h
  refine X_aload_n F dX7_pace_0 rfl ?_
  refine X_getr F ffRX7_15 dX7_pace_1 ?_
  refine X_iconst F dX7_pace_4 (v := (2 : Int32)) rfl ?_
  refine X_iload_n F dX7_pace_5 rfl ?_
  refine X_iconst F dX7_pace_6 (v := (0 : Int32)) rfl ?_
  refine X_iconst F dX7_pace_7 (v := (0 : Int32)) rfl ?_
  refine X_iconst F dX7_pace_8 (v := (0 : Int32)) rfl ?_
  obtain ⟨r1, h2, h⟩ := bndS h
  refine X_callV (ci := 16) (As := [.int (2 : Int32), .int a1, .int (0 : Int32), .int (0 : Int32), .int (0 : Int32)]) (rest := []) F fkRX7_19 feX4_tell fvX4_tell ⟨_, _, _, rfl, rfl, rfl⟩ (F4_tell_met (D := D - 1) F.2.2.2.2.2.2.2.1 (by omega) h2) rfl rfl (Nat.le_of_ble_eq_true rfl) (rm_ok (by omega) (by decide)) dX7_pace_9 ?_
  show XJ shA p l e (rmX D) s m args below meth c 0 0 G 2 (MQ below (QcX shA G ((some (.int r.1), r.2) : Option Value × Mem).1 ((some (.int r.1), r.2) : Option Value × Mem).2) args s 0 0 (AW shA G.2.1)) 12 [(0, .ref 33), (1, .int a1)] [.int r1.1] r1.2
  exact X_iret F hr hlk (retI h) dX7_pace_12
set_option maxRecDepth 20000 in
theorem F7_pace_met {l : Launch} {G : GG} {D : Nat} {r : Int32 × Mem} {M : Mem} {a1 : Int32} (hI : Inj shA G.2.1) (hD : 3 ≤ D) (h : F7_pace M a1 = some r) : MetX shA l G yX7_pace cX7_pace 2 (some .int) D [.ref 33, .int a1] M (some (.int r.1), r.2) :=
  X_met hI (by decide +kernel) (Nat.le_of_ble_eq_true rfl) (fun p e s m args below meth c F hr hlk => F7_pace_ok F hr hlk hD h)
-- KeepOurPlace$Sheets.lay
def F5_lay_l36_b (rec36 : Mem → Int32 → Int32 → Option (Int32 × Mem)) (M : Mem) (x1 : Int32) (x4 : Int32) : Option (Int32 × Mem) :=
    if (40 : Int32) ≤ x4 then
      some ((0 : Int32), M)
    else
      if inb x1 4 = true then
      if inb x4 40 = true then
      rec36 (up2 M (46 + (Int32.toNatClampNeg x1)) (Int32.toNatClampNeg x4) (0 : Int32)) x1 (x4 + (1 : Int32))
      else none
      else none
def F5_lay_l36 : Nat → Mem → Int32 → Int32 → Option (Int32 × Mem)
  | 0, _, _, _ => none
  | fu + 1, M, x1, x4 => F5_lay_l36_b (F5_lay_l36 fu) M x1 x4
def F5_lay (M : Mem) (a1 : Int32) (a2 : Int32) (a3 : Int32) : Option (Int32 × Mem) :=
    Option.bind (F5_holds M a1) fun r1 =>
    if r1.1 = 0 then
      some ((0 : Int32), r1.2)
    else
      if a3 < 0 then
        some ((0 : Int32), r1.2)
      else
        if a3 ≤ (40 : Int32) then
          if inb a1 4 = true then
          F5_lay_l36 FUEL (up2 (up2 r1.2 43 (Int32.toNatClampNeg a1) a2) 44 (Int32.toNatClampNeg a1) a3) a1 (0 : Int32)
          else none
        else
          some ((0 : Int32), r1.2)
set_option maxRecDepth 20000 in
theorem F5_lay_l36_bok {p : Program} {l : Launch} {e : Env} {s : State} {m : MethodId} {args : Array Value} {below : List Frame} {meth : Method} {c : Code} {G : GG} {D : Nat} {r : Int32 × Mem} {rec36 : Mem → Int32 → Int32 → Option (Int32 × Mem)} (F : FrP shA G p s m args c RX5 cX5_lay 5) (hr : meth.sig.returnType = none) (hlk : meth.locks = false) (hD : 2 ≤ D) (hrec36 : ∀ (M : Mem) (x1 : Int32) (x4 : Int32), rec36 M x1 x4 = some r → XJ shA p l e (rmX D) s m args below meth c 0 0 G 5 (MQ below (QcX shA G ((none, r.2) : Option Value × Mem).1 ((none, r.2) : Option Value × Mem).2) args s 0 0 (AW shA G.2.1)) 36 [(0, .ref 42), (1, .int x1), (4, .int x4)] [] M) {M : Mem} {x1 : Int32} {x4 : Int32} (h : F5_lay_l36_b rec36 M x1 x4 = some r) : XJ shA p l e (rmX D) s m args below meth c 0 0 G 5 (MQ below (QcX shA G ((none, r.2) : Option Value × Mem).1 ((none, r.2) : Option Value × Mem).2) args s 0 0 (AW shA G.2.1)) 36 [(0, .ref 42), (1, .int x1), (4, .int x4)] [] M := by
  unfold F5_lay_l36_b at h
  refine X_iload F dX5_lay_36 rfl ?_
  refine X_bipush F dX5_lay_38 (v := (40 : Int32)) rfl ?_
  refine X_icmp_ge (tgt := 59) F dX5_lay_40 (by decide) (fun q7 => ?_) (fun q7 => ?_)
  · rw [if_pos q7] at h
    exact X_vret F hr hlk (retV h) dX5_lay_59
  · rw [if_neg q7] at h
    refine X_aload_n F dX5_lay_43 rfl ?_
    refine X_getr F ffRX5_20 dX5_lay_44 ?_
    refine X_iload_n F dX5_lay_47 rfl ?_
    obtain ⟨q8, h⟩ := ifS h
    refine X_aald (b := 46) F rfl (inbV q8) rfl dX5_lay_48 ?_
    refine X_iload F dX5_lay_49 rfl ?_
    refine X_iconst F dX5_lay_51 (v := (0 : Int32)) rfl ?_
    obtain ⟨q9, h⟩ := ifS h
    refine X_iast (j := (Int32.toNatClampNeg x4)) F (shR46 (inbV q8)) (inbV q9) rfl dX5_lay_52 ?_
    refine X_iinc F dX5_lay_53 rfl (v := (1 : Int32)) rfl (by decide) rfl ?_
    refine X_goto (tgt := 36) F dX5_lay_56 (by decide) ?_
    refine X_pick [1, 2, 0] rfl ?_
    exact hrec36 _ _ _ h
set_option maxRecDepth 20000 in
theorem F5_lay_l36_ok {p : Program} {l : Launch} {e : Env} {s : State} {m : MethodId} {args : Array Value} {below : List Frame} {meth : Method} {c : Code} {G : GG} {D : Nat} {r : Int32 × Mem} (F : FrP shA G p s m args c RX5 cX5_lay 5) (hr : meth.sig.returnType = none) (hlk : meth.locks = false) (hD : 2 ≤ D) : ∀ (fu : Nat) (M : Mem) (x1 : Int32) (x4 : Int32), F5_lay_l36 fu M x1 x4 = some r → XJ shA p l e (rmX D) s m args below meth c 0 0 G 5 (MQ below (QcX shA G ((none, r.2) : Option Value × Mem).1 ((none, r.2) : Option Value × Mem).2) args s 0 0 (AW shA G.2.1)) 36 [(0, .ref 42), (1, .int x1), (4, .int x4)] [] M := by
  intro fu
  induction fu with
  | zero => intro M x1 x4 h; cases h
  | succ fu ih => intro M x1 x4 h; exact F5_lay_l36_bok F hr hlk hD (fun M x1 x4 => ih M x1 x4) h
set_option maxRecDepth 20000 in
theorem F5_lay_ok {p : Program} {l : Launch} {e : Env} {s : State} {m : MethodId} {args : Array Value} {below : List Frame} {meth : Method} {c : Code} {G : GG} {D : Nat} {r : Int32 × Mem} (F : FrP shA G p s m args c RX5 cX5_lay 5) (hr : meth.sig.returnType = none) (hlk : meth.locks = false) (hD : 2 ≤ D) {M : Mem} {a1 : Int32} {a2 : Int32} {a3 : Int32} (h : F5_lay M a1 a2 a3 = some r) : XJ shA p l e (rmX D) s m args below meth c 0 0 G 5 (MQ below (QcX shA G ((none, r.2) : Option Value × Mem).1 ((none, r.2) : Option Value × Mem).2) args s 0 0 (AW shA G.2.1)) 0 [(0, .ref 42), (1, .int a1), (2, .int a2), (3, .int a3)] [] M := by
  unfold F5_lay at h
  refine X_aload_n F dX5_lay_0 rfl ?_
  refine X_iload_n F dX5_lay_1 rfl ?_
  obtain ⟨r1, h2, h⟩ := bndS h
  refine X_callV (ci := 42) (As := [.int a1]) (rest := []) F fkRX5_23 feX5_holds fvX5_holds ⟨_, _, _, rfl, rfl, rfl⟩ (F5_holds_met (D := D - 1) F.2.2.2.2.2.2.2.1 (by omega) h2) rfl rfl (Nat.le_of_ble_eq_true rfl) (rm_ok (by omega) (by decide)) dX5_lay_2 ?_
  show XJ shA p l e (rmX D) s m args below meth c 0 0 G 5 (MQ below (QcX shA G ((none, r.2) : Option Value × Mem).1 ((none, r.2) : Option Value × Mem).2) args s 0 0 (AW shA G.2.1)) 5 [(0, .ref 42), (1, .int a1), (2, .int a2), (3, .int a3)] [.int r1.1] r1.2
  refine X_if_eq (tgt := 18) F dX5_lay_5 (by decide) (fun q3 => ?_) (fun q3 => ?_)
  · rw [if_pos q3] at h
    exact X_vret F hr hlk (retV h) dX5_lay_18
  · rw [if_neg q3] at h
    refine X_iload_n F dX5_lay_8 rfl ?_
    refine X_if_lt (tgt := 18) F dX5_lay_9 (by decide) (fun q4 => ?_) (fun q4 => ?_)
    · rw [if_pos q4] at h
      exact X_vret F hr hlk (retV h) dX5_lay_18
    · rw [if_neg q4] at h
      refine X_iload_n F dX5_lay_12 rfl ?_
      refine X_bipush F dX5_lay_13 (v := (40 : Int32)) rfl ?_
      refine X_icmp_le (tgt := 19) F dX5_lay_15 (by decide) (fun q5 => ?_) (fun q5 => ?_)
      · rw [if_pos q5] at h
        refine X_aload_n F dX5_lay_19 rfl ?_
        refine X_getr F ffRX5_9 dX5_lay_20 ?_
        refine X_iload_n F dX5_lay_23 rfl ?_
        refine X_iload_n F dX5_lay_24 rfl ?_
        obtain ⟨q6, h⟩ := ifS h
        refine X_iast (j := (Int32.toNatClampNeg a1)) F rfl (inbV q6) rfl dX5_lay_25 ?_
        refine X_aload_n F dX5_lay_26 rfl ?_
        refine X_getr F ffRX5_15 dX5_lay_27 ?_
        refine X_iload_n F dX5_lay_30 rfl ?_
        refine X_iload_n F dX5_lay_31 rfl ?_
        refine X_iast (j := (Int32.toNatClampNeg a1)) F rfl (inbV q6) rfl dX5_lay_32 ?_
        refine X_iconst F dX5_lay_33 (v := (0 : Int32)) rfl ?_
        refine X_istore F dX5_lay_34 (by decide) rfl ?_
        refine X_pick [1, 2, 0] rfl ?_
        exact F5_lay_l36_ok F hr hlk hD FUEL _ _ _ h
      · rw [if_neg q5] at h
        exact X_vret F hr hlk (retV h) dX5_lay_18
set_option maxRecDepth 20000 in
theorem F5_lay_met {l : Launch} {G : GG} {D : Nat} {r : Int32 × Mem} {M : Mem} {a1 : Int32} {a2 : Int32} {a3 : Int32} (hI : Inj shA G.2.1) (hD : 2 ≤ D) (h : F5_lay M a1 a2 a3 = some r) : MetX shA l G yX5_lay cX5_lay 5 none D [.ref 42, .int a1, .int a2, .int a3] M (none, r.2) :=
  X_met hI (by decide +kernel) (Nat.le_of_ble_eq_true rfl) (fun p e s m args below meth c F hr hlk => F5_lay_ok F hr hlk hD h)
-- KeepOurPlace$Sheets.narrow
def F5_narrow (M : Mem) (a0 : Int32) (a1 : Int32) : Option (Int32 × Mem) :=
    if ¬ a0 = 0 then
      if ¬ a0 = (2 : Int32) then
        some ((Int16.toInt32 (Int32.toInt16 a1)), M)
      else
        some (a1, M)
    else
      some ((Int8.toInt32 (Int32.toInt8 a1)), M)
set_option maxRecDepth 20000 in
theorem F5_narrow_ok {p : Program} {l : Launch} {e : Env} {s : State} {m : MethodId} {args : Array Value} {below : List Frame} {meth : Method} {c : Code} {G : GG} {D : Nat} {r : Int32 × Mem} (F : FrP shA G p s m args c RX5 cX5_narrow 2) (hr : meth.sig.returnType = (some .int)) (hlk : meth.locks = false) (hD : 1 ≤ D) {M : Mem} {a0 : Int32} {a1 : Int32} (h : F5_narrow M a0 a1 = some r) : XJ shA p l e (rmX D) s m args below meth c 0 0 G 2 (MQ below (QcX shA G ((some (.int r.1), r.2) : Option Value × Mem).1 ((some (.int r.1), r.2) : Option Value × Mem).2) args s 0 0 (AW shA G.2.1)) 0 [(0, .int a0), (1, .int a1)] [] M := by
  unfold F5_narrow at h
  refine X_iload_n F dX5_narrow_0 rfl ?_
  refine X_if_ne (tgt := 7) F dX5_narrow_1 (by decide) (fun q1 => ?_) (fun q1 => ?_)
  · rw [if_pos q1] at h
    refine X_iload_n F dX5_narrow_7 rfl ?_
    refine X_iconst F dX5_narrow_8 (v := (2 : Int32)) rfl ?_
    refine X_icmp_ne (tgt := 16) F dX5_narrow_9 (by decide) (fun q2 => ?_) (fun q2 => ?_)
    · rw [if_pos q2] at h
      refine X_iload_n F dX5_narrow_16 rfl ?_
      refine X_i2s F dX5_narrow_17 ?_
      exact X_iret F hr hlk (retI h) dX5_narrow_18
    · rw [if_neg (fun z => z q2)] at h
      refine X_iload_n F dX5_narrow_12 rfl ?_
      refine X_goto (tgt := 18) F dX5_narrow_13 (by decide) ?_
      exact X_iret F hr hlk (retI h) dX5_narrow_18
  · rw [if_neg (fun z => z q1)] at h
    refine X_iload_n F dX5_narrow_4 rfl ?_
    refine X_i2b F dX5_narrow_5 ?_
    exact X_iret F hr hlk (retI h) dX5_narrow_6
set_option maxRecDepth 20000 in
theorem F5_narrow_met {l : Launch} {G : GG} {D : Nat} {r : Int32 × Mem} {M : Mem} {a0 : Int32} {a1 : Int32} (hI : Inj shA G.2.1) (hD : 1 ≤ D) (h : F5_narrow M a0 a1 = some r) : MetX shA l G yX5_narrow cX5_narrow 2 (some .int) D [.int a0, .int a1] M (some (.int r.1), r.2) :=
  X_met hI (by decide +kernel) (Nat.le_of_ble_eq_true rfl) (fun p e s m args below meth c F hr hlk => F5_narrow_ok F hr hlk hD h)
-- KeepOurPlace$Sheets.write
def F5_write (M : Mem) (a1 : Int32) (a2 : Int32) (a3 : Int32) : Option (Int32 × Mem) :=
    Option.bind (F5_holds M a1) fun r1 =>
    if r1.1 = 0 then
      some ((0 : Int32), r1.2)
    else
      if a2 < 0 then
        some ((0 : Int32), r1.2)
      else
        if inb a1 4 = true then
        if a2 < (r1.2 44 (Int32.toNatClampNeg a1)) then
          Option.bind (F5_narrow r1.2 (r1.2 43 (Int32.toNatClampNeg a1)) a3) fun r7 =>
          if inb a2 40 = true then
          some ((1 : Int32), (up2 r7.2 (46 + (Int32.toNatClampNeg a1)) (Int32.toNatClampNeg a2) r7.1))
          else none
        else
          some ((0 : Int32), r1.2)
        else none
set_option maxRecDepth 20000 in
theorem F5_write_ok {p : Program} {l : Launch} {e : Env} {s : State} {m : MethodId} {args : Array Value} {below : List Frame} {meth : Method} {c : Code} {G : GG} {D : Nat} {r : Int32 × Mem} (F : FrP shA G p s m args c RX5 cX5_write 4) (hr : meth.sig.returnType = (some .boolean)) (hlk : meth.locks = false) (hD : 2 ≤ D) {M : Mem} {a1 : Int32} {a2 : Int32} {a3 : Int32} (h : F5_write M a1 a2 a3 = some r) : XJ shA p l e (rmX D) s m args below meth c 0 0 G 4 (MQ below (QcX shA G ((some (.int r.1), r.2) : Option Value × Mem).1 ((some (.int r.1), r.2) : Option Value × Mem).2) args s 0 0 (AW shA G.2.1)) 0 [(0, .ref 42), (1, .int a1), (2, .int a2), (3, .int a3)] [] M := by
  unfold F5_write at h
  refine X_aload_n F dX5_write_0 rfl ?_
  refine X_iload_n F dX5_write_1 rfl ?_
  obtain ⟨r1, h2, h⟩ := bndS h
  refine X_callV (ci := 42) (As := [.int a1]) (rest := []) F fkRX5_23 feX5_holds fvX5_holds ⟨_, _, _, rfl, rfl, rfl⟩ (F5_holds_met (D := D - 1) F.2.2.2.2.2.2.2.1 (by omega) h2) rfl rfl (Nat.le_of_ble_eq_true rfl) (rm_ok (by omega) (by decide)) dX5_write_2 ?_
  show XJ shA p l e (rmX D) s m args below meth c 0 0 G 4 (MQ below (QcX shA G ((some (.int r.1), r.2) : Option Value × Mem).1 ((some (.int r.1), r.2) : Option Value × Mem).2) args s 0 0 (AW shA G.2.1)) 5 [(0, .ref 42), (1, .int a1), (2, .int a2), (3, .int a3)] [.int r1.1] r1.2
  refine X_if_eq (tgt := 22) F dX5_write_5 (by decide) (fun q3 => ?_) (fun q3 => ?_)
  · rw [if_pos q3] at h
    refine X_iconst F dX5_write_22 (v := (0 : Int32)) rfl ?_
    exact X_zret F hr hlk rfl (retI h) dX5_write_23
  · rw [if_neg q3] at h
    refine X_iload_n F dX5_write_8 rfl ?_
    refine X_if_lt (tgt := 22) F dX5_write_9 (by decide) (fun q4 => ?_) (fun q4 => ?_)
    · rw [if_pos q4] at h
      refine X_iconst F dX5_write_22 (v := (0 : Int32)) rfl ?_
      exact X_zret F hr hlk rfl (retI h) dX5_write_23
    · rw [if_neg q4] at h
      refine X_iload_n F dX5_write_12 rfl ?_
      refine X_aload_n F dX5_write_13 rfl ?_
      refine X_getr F ffRX5_15 dX5_write_14 ?_
      refine X_iload_n F dX5_write_17 rfl ?_
      obtain ⟨q5, h⟩ := ifS h
      refine X_iald (j := (Int32.toNatClampNeg a1)) (v := (r1.2 44 (Int32.toNatClampNeg a1))) F rfl (inbV q5) rfl rfl dX5_write_18 ?_
      refine X_icmp_lt (tgt := 24) F dX5_write_19 (by decide) (fun q6 => ?_) (fun q6 => ?_)
      · rw [if_pos q6] at h
        refine X_aload_n F dX5_write_24 rfl ?_
        refine X_getr F ffRX5_20 dX5_write_25 ?_
        refine X_iload_n F dX5_write_28 rfl ?_
        refine X_aald (b := 46) F rfl (inbV q5) rfl dX5_write_29 ?_
        refine X_iload_n F dX5_write_30 rfl ?_
        refine X_aload_n F dX5_write_31 rfl ?_
        refine X_getr F ffRX5_9 dX5_write_32 ?_
        refine X_iload_n F dX5_write_35 rfl ?_
        refine X_iald (j := (Int32.toNatClampNeg a1)) (v := (r1.2 43 (Int32.toNatClampNeg a1))) F rfl (inbV q5) rfl rfl dX5_write_36 ?_
        refine X_iload_n F dX5_write_37 rfl ?_
        obtain ⟨r7, h8, h⟩ := bndS h
        refine X_callS (As := [.int (r1.2 43 (Int32.toNatClampNeg a1)), .int a3]) (rest := [.int a2, .ref (46 + (Int32.toNatClampNeg a1))]) F fsRX5_27 feX5_narrow ftX5_narrow (F5_narrow_met (D := D - 1) F.2.2.2.2.2.2.2.1 (by omega) h8) rfl rfl (Nat.le_of_ble_eq_true rfl) (rm_ok (by omega) (by decide)) dX5_write_38 ?_
        show XJ shA p l e (rmX D) s m args below meth c 0 0 G 4 (MQ below (QcX shA G ((some (.int r.1), r.2) : Option Value × Mem).1 ((some (.int r.1), r.2) : Option Value × Mem).2) args s 0 0 (AW shA G.2.1)) 41 [(0, .ref 42), (1, .int a1), (2, .int a2), (3, .int a3)] [.int r7.1, .int a2, .ref (46 + (Int32.toNatClampNeg a1))] r7.2
        obtain ⟨q9, h⟩ := ifS h
        refine X_iast (j := (Int32.toNatClampNeg a2)) F (shR46 (inbV q5)) (inbV q9) rfl dX5_write_41 ?_
        refine X_iconst F dX5_write_42 (v := (1 : Int32)) rfl ?_
        exact X_zret F hr hlk rfl (retI h) dX5_write_43
      · rw [if_neg q6] at h
        refine X_iconst F dX5_write_22 (v := (0 : Int32)) rfl ?_
        exact X_zret F hr hlk rfl (retI h) dX5_write_23
set_option maxRecDepth 20000 in
theorem F5_write_met {l : Launch} {G : GG} {D : Nat} {r : Int32 × Mem} {M : Mem} {a1 : Int32} {a2 : Int32} {a3 : Int32} (hI : Inj shA G.2.1) (hD : 2 ≤ D) (h : F5_write M a1 a2 a3 = some r) : MetX shA l G yX5_write cX5_write 4 (some .boolean) D [.ref 42, .int a1, .int a2, .int a3] M (some (.int r.1), r.2) :=
  X_met hI (by decide +kernel) (Nat.le_of_ble_eq_true rfl) (fun p e s m args below meth c F hr hlk => F5_write_ok F hr hlk hD h)
-- KeepOurPlace$Image.keep
def F1_keep (M : Mem) : Option (Int32 × Mem) :=
    some ((0 : Int32), (upA (upA (upA (upA (upA (up2 (up2 (up2 (up2 (up2 (up2 M 50 0 (1 : Int32)) 50 1 (M 1 5)) 50 2 (M 1 3)) 50 3 (M 1 4)) 50 4 (M 16 6)) 50 5 (M 5 3)) 51 (va_cpy (M 3) (M 51) 0 0 8)) 52 (va_cpy (M 4) (M 52) 0 0 8)) 53 (va_cpy (M 6) (M 53) 0 0 6)) 54 (va_cpy (M 7) (M 54) 0 0 6)) 55 (va_cpy (M 8) (M 55) 0 0 6)))
set_option maxRecDepth 20000 in
theorem F1_keep_ok {p : Program} {l : Launch} {e : Env} {s : State} {m : MethodId} {args : Array Value} {below : List Frame} {meth : Method} {c : Code} {G : GG} {D : Nat} {r : Int32 × Mem} (F : FrP shA G p s m args c RX1 cX1_keep 4) (hr : meth.sig.returnType = none) (hlk : meth.locks = false) (hD : 1 ≤ D) {M : Mem} (h : F1_keep M = some r) : XJ shA p l e (rmX D) s m args below meth c 0 0 G 4 (MQ below (QcX shA G ((none, r.2) : Option Value × Mem).1 ((none, r.2) : Option Value × Mem).2) args s 0 0 (AW shA G.2.1)) 0 [(0, .ref 50), (1, .ref 1), (2, .ref 5), (3, .ref 16)] [] M := by
  unfold F1_keep at h
  refine X_aload_n F dX1_keep_0 rfl ?_
  refine X_iconst F dX1_keep_1 (v := (1 : Int32)) rfl ?_
  refine X_putz F ffRX1_27 fw1_0 (by decide) dX1_keep_2 ⟨rfl, rfl⟩ ?_
  refine X_aload_n F dX1_keep_5 rfl ?_
  refine X_aload_n F dX1_keep_6 rfl ?_
  refine X_geti (v := (M 1 5)) F ffRX1_31 dX1_keep_7 rfl ?_
  refine X_puti F ffRX1_37 fw1_1 (by decide) dX1_keep_10 ?_
  refine X_aload_n F dX1_keep_13 rfl ?_
  refine X_aload_n F dX1_keep_14 rfl ?_
  refine X_geti (v := (M 1 3)) F ffRX1_38 dX1_keep_15 rfl ?_
  refine X_puti F ffRX1_41 fw1_2 (by decide) dX1_keep_18 ?_
  refine X_aload_n F dX1_keep_21 rfl ?_
  refine X_aload_n F dX1_keep_22 rfl ?_
  refine X_geti (v := (M 1 4)) F ffRX1_44 dX1_keep_23 rfl ?_
  refine X_puti F ffRX1_47 fw1_3 (by decide) dX1_keep_26 ?_
  refine X_aload_n F dX1_keep_29 rfl ?_
  refine X_aload_n F dX1_keep_30 rfl ?_
  refine X_geti (v := (M 16 6)) F ffRX1_48 dX1_keep_31 rfl ?_
  refine X_puti F ffRX1_53 fw1_4 (by decide) dX1_keep_34 ?_
  refine X_aload_n F dX1_keep_37 rfl ?_
  refine X_aload_n F dX1_keep_38 rfl ?_
  refine X_geti (v := (M 5 3)) F ffRX1_54 dX1_keep_39 rfl ?_
  refine X_puti F ffRX1_57 fw1_5 (by decide) dX1_keep_42 ?_
  refine X_aload_n F dX1_keep_45 rfl ?_
  refine X_getr F ffRX1_58 dX1_keep_46 ?_
  refine X_iconst F dX1_keep_49 (v := (0 : Int32)) rfl ?_
  refine X_aload_n F dX1_keep_50 rfl ?_
  refine X_getr F ffRX1_9 dX1_keep_51 ?_
  refine X_iconst F dX1_keep_54 (v := (0 : Int32)) rfl ?_
  refine X_bipush F dX1_keep_55 (v := (8 : Int32)) rfl ?_
  refine X_acopy (n0 := 8) (n1 := 8) F fmRX1_59 sys_n sys_s sys_i rfl rfl (by decide) (by decide) (by decide) (Nat.le_of_ble_eq_true rfl) (Nat.le_of_ble_eq_true rfl) (rm_1 (by omega)).1 (rm_w (n := 18) (by omega) (Nat.le_of_ble_eq_true rfl) (by decide)) dX1_keep_57 ?_
  refine X_aload_n F dX1_keep_60 rfl ?_
  refine X_getr F ffRX1_65 dX1_keep_61 ?_
  refine X_iconst F dX1_keep_64 (v := (0 : Int32)) rfl ?_
  refine X_aload_n F dX1_keep_65 rfl ?_
  refine X_getr F ffRX1_15 dX1_keep_66 ?_
  refine X_iconst F dX1_keep_69 (v := (0 : Int32)) rfl ?_
  refine X_bipush F dX1_keep_70 (v := (8 : Int32)) rfl ?_
  refine X_acopy (n0 := 8) (n1 := 8) F fmRX1_59 sys_n sys_s sys_i rfl rfl (by decide) (by decide) (by decide) (Nat.le_of_ble_eq_true rfl) (Nat.le_of_ble_eq_true rfl) (rm_1 (by omega)).1 (rm_w (n := 18) (by omega) (Nat.le_of_ble_eq_true rfl) (by decide)) dX1_keep_72 ?_
  refine X_aload_n F dX1_keep_75 rfl ?_
  refine X_getr F ffRX1_66 dX1_keep_76 ?_
  refine X_iconst F dX1_keep_79 (v := (0 : Int32)) rfl ?_
  refine X_aload_n F dX1_keep_80 rfl ?_
  refine X_getr F ffRX1_18 dX1_keep_81 ?_
  refine X_iconst F dX1_keep_84 (v := (0 : Int32)) rfl ?_
  refine X_bipush F dX1_keep_85 (v := (6 : Int32)) rfl ?_
  refine X_acopy (n0 := 6) (n1 := 6) F fmRX1_59 sys_n sys_s sys_i rfl rfl (by decide) (by decide) (by decide) (Nat.le_of_ble_eq_true rfl) (Nat.le_of_ble_eq_true rfl) (rm_1 (by omega)).1 (rm_w (n := 18) (by omega) (Nat.le_of_ble_eq_true rfl) (by decide)) dX1_keep_87 ?_
  refine X_aload_n F dX1_keep_90 rfl ?_
  refine X_getr F ffRX1_67 dX1_keep_91 ?_
  refine X_iconst F dX1_keep_94 (v := (0 : Int32)) rfl ?_
  refine X_aload_n F dX1_keep_95 rfl ?_
  refine X_getr F ffRX1_21 dX1_keep_96 ?_
  refine X_iconst F dX1_keep_99 (v := (0 : Int32)) rfl ?_
  refine X_bipush F dX1_keep_100 (v := (6 : Int32)) rfl ?_
  refine X_acopy (n0 := 6) (n1 := 6) F fmRX1_59 sys_n sys_s sys_i rfl rfl (by decide) (by decide) (by decide) (Nat.le_of_ble_eq_true rfl) (Nat.le_of_ble_eq_true rfl) (rm_1 (by omega)).1 (rm_w (n := 18) (by omega) (Nat.le_of_ble_eq_true rfl) (by decide)) dX1_keep_102 ?_
  refine X_aload_n F dX1_keep_105 rfl ?_
  refine X_getr F ffRX1_68 dX1_keep_106 ?_
  refine X_iconst F dX1_keep_109 (v := (0 : Int32)) rfl ?_
  refine X_aload_n F dX1_keep_110 rfl ?_
  refine X_getr F ffRX1_24 dX1_keep_111 ?_
  refine X_iconst F dX1_keep_114 (v := (0 : Int32)) rfl ?_
  refine X_bipush F dX1_keep_115 (v := (6 : Int32)) rfl ?_
  refine X_acopy (n0 := 6) (n1 := 6) F fmRX1_59 sys_n sys_s sys_i rfl rfl (by decide) (by decide) (by decide) (Nat.le_of_ble_eq_true rfl) (Nat.le_of_ble_eq_true rfl) (rm_1 (by omega)).1 (rm_w (n := 18) (by omega) (Nat.le_of_ble_eq_true rfl) (by decide)) dX1_keep_117 ?_
  exact X_vret F hr hlk (retV h) dX1_keep_120
set_option maxRecDepth 20000 in
theorem F1_keep_met {l : Launch} {G : GG} {D : Nat} {r : Int32 × Mem} {M : Mem} (hI : Inj shA G.2.1) (hD : 1 ≤ D) (h : F1_keep M = some r) : MetX shA l G yX1_keep cX1_keep 4 none D [.ref 50, .ref 1, .ref 5, .ref 16] M (none, r.2) :=
  X_met hI (by decide +kernel) (Nat.le_of_ble_eq_true rfl) (fun p e s m args below meth c F hr hlk => F1_keep_ok F hr hlk hD h)
-- KeepOurPlace$Image.restore
def F1_restore (M : Mem) : Option (Int32 × Mem) :=
    some ((0 : Int32), (upA (upA (upA (upA (upA (up2 (up2 (up2 (up2 M 1 3 (M 50 2)) 1 4 (M 50 3)) 16 6 (M 50 4)) 5 3 (M 50 5)) 3 (va_cpy (M 51) (M 3) 0 0 8)) 4 (va_cpy (M 52) (M 4) 0 0 8)) 6 (va_cpy (M 53) (M 6) 0 0 6)) 7 (va_cpy (M 54) (M 7) 0 0 6)) 8 (va_cpy (M 55) (M 8) 0 0 6)))
set_option maxRecDepth 20000 in
theorem F1_restore_ok {p : Program} {l : Launch} {e : Env} {s : State} {m : MethodId} {args : Array Value} {below : List Frame} {meth : Method} {c : Code} {G : GG} {D : Nat} {r : Int32 × Mem} (F : FrP shA G p s m args c RX1 cX1_restore 4) (hr : meth.sig.returnType = none) (hlk : meth.locks = false) (hD : 1 ≤ D) {M : Mem} (h : F1_restore M = some r) : XJ shA p l e (rmX D) s m args below meth c 0 0 G 4 (MQ below (QcX shA G ((none, r.2) : Option Value × Mem).1 ((none, r.2) : Option Value × Mem).2) args s 0 0 (AW shA G.2.1)) 0 [(0, .ref 50), (1, .ref 1), (2, .ref 5), (3, .ref 16)] [] M := by
  unfold F1_restore at h
  refine X_aload_n F dX1_restore_0 rfl ?_
  refine X_aload_n F dX1_restore_1 rfl ?_
  refine X_geti (v := (M 50 2)) F ffRX1_41 dX1_restore_2 rfl ?_
  refine X_puti F ffRX1_38 fw2_3 (by decide) dX1_restore_5 ?_
  refine X_aload_n F dX1_restore_8 rfl ?_
  refine X_aload_n F dX1_restore_9 rfl ?_
  refine X_geti (v := (M 50 3)) F ffRX1_47 dX1_restore_10 rfl ?_
  refine X_puti F ffRX1_44 fw2_4 (by decide) dX1_restore_13 ?_
  refine X_aload_n F dX1_restore_16 rfl ?_
  refine X_aload_n F dX1_restore_17 rfl ?_
  refine X_geti (v := (M 50 4)) F ffRX1_53 dX1_restore_18 rfl ?_
  refine X_puti F ffRX1_48 fw4_6 (by decide) dX1_restore_21 ?_
  refine X_aload_n F dX1_restore_24 rfl ?_
  refine X_aload_n F dX1_restore_25 rfl ?_
  refine X_geti (v := (M 50 5)) F ffRX1_57 dX1_restore_26 rfl ?_
  refine X_puti F ffRX1_54 fw6_3 (by decide) dX1_restore_29 ?_
  refine X_aload_n F dX1_restore_32 rfl ?_
  refine X_getr F ffRX1_9 dX1_restore_33 ?_
  refine X_iconst F dX1_restore_36 (v := (0 : Int32)) rfl ?_
  refine X_aload_n F dX1_restore_37 rfl ?_
  refine X_getr F ffRX1_58 dX1_restore_38 ?_
  refine X_iconst F dX1_restore_41 (v := (0 : Int32)) rfl ?_
  refine X_bipush F dX1_restore_42 (v := (8 : Int32)) rfl ?_
  refine X_acopy (n0 := 8) (n1 := 8) F fmRX1_59 sys_n sys_s sys_i rfl rfl (by decide) (by decide) (by decide) (Nat.le_of_ble_eq_true rfl) (Nat.le_of_ble_eq_true rfl) (rm_1 (by omega)).1 (rm_w (n := 18) (by omega) (Nat.le_of_ble_eq_true rfl) (by decide)) dX1_restore_44 ?_
  refine X_aload_n F dX1_restore_47 rfl ?_
  refine X_getr F ffRX1_15 dX1_restore_48 ?_
  refine X_iconst F dX1_restore_51 (v := (0 : Int32)) rfl ?_
  refine X_aload_n F dX1_restore_52 rfl ?_
  refine X_getr F ffRX1_65 dX1_restore_53 ?_
  refine X_iconst F dX1_restore_56 (v := (0 : Int32)) rfl ?_
  refine X_bipush F dX1_restore_57 (v := (8 : Int32)) rfl ?_
  refine X_acopy (n0 := 8) (n1 := 8) F fmRX1_59 sys_n sys_s sys_i rfl rfl (by decide) (by decide) (by decide) (Nat.le_of_ble_eq_true rfl) (Nat.le_of_ble_eq_true rfl) (rm_1 (by omega)).1 (rm_w (n := 18) (by omega) (Nat.le_of_ble_eq_true rfl) (by decide)) dX1_restore_59 ?_
  refine X_aload_n F dX1_restore_62 rfl ?_
  refine X_getr F ffRX1_18 dX1_restore_63 ?_
  refine X_iconst F dX1_restore_66 (v := (0 : Int32)) rfl ?_
  refine X_aload_n F dX1_restore_67 rfl ?_
  refine X_getr F ffRX1_66 dX1_restore_68 ?_
  refine X_iconst F dX1_restore_71 (v := (0 : Int32)) rfl ?_
  refine X_bipush F dX1_restore_72 (v := (6 : Int32)) rfl ?_
  refine X_acopy (n0 := 6) (n1 := 6) F fmRX1_59 sys_n sys_s sys_i rfl rfl (by decide) (by decide) (by decide) (Nat.le_of_ble_eq_true rfl) (Nat.le_of_ble_eq_true rfl) (rm_1 (by omega)).1 (rm_w (n := 18) (by omega) (Nat.le_of_ble_eq_true rfl) (by decide)) dX1_restore_74 ?_
  refine X_aload_n F dX1_restore_77 rfl ?_
  refine X_getr F ffRX1_21 dX1_restore_78 ?_
  refine X_iconst F dX1_restore_81 (v := (0 : Int32)) rfl ?_
  refine X_aload_n F dX1_restore_82 rfl ?_
  refine X_getr F ffRX1_67 dX1_restore_83 ?_
  refine X_iconst F dX1_restore_86 (v := (0 : Int32)) rfl ?_
  refine X_bipush F dX1_restore_87 (v := (6 : Int32)) rfl ?_
  refine X_acopy (n0 := 6) (n1 := 6) F fmRX1_59 sys_n sys_s sys_i rfl rfl (by decide) (by decide) (by decide) (Nat.le_of_ble_eq_true rfl) (Nat.le_of_ble_eq_true rfl) (rm_1 (by omega)).1 (rm_w (n := 18) (by omega) (Nat.le_of_ble_eq_true rfl) (by decide)) dX1_restore_89 ?_
  refine X_aload_n F dX1_restore_92 rfl ?_
  refine X_getr F ffRX1_24 dX1_restore_93 ?_
  refine X_iconst F dX1_restore_96 (v := (0 : Int32)) rfl ?_
  refine X_aload_n F dX1_restore_97 rfl ?_
  refine X_getr F ffRX1_68 dX1_restore_98 ?_
  refine X_iconst F dX1_restore_101 (v := (0 : Int32)) rfl ?_
  refine X_bipush F dX1_restore_102 (v := (6 : Int32)) rfl ?_
  refine X_acopy (n0 := 6) (n1 := 6) F fmRX1_59 sys_n sys_s sys_i rfl rfl (by decide) (by decide) (by decide) (Nat.le_of_ble_eq_true rfl) (Nat.le_of_ble_eq_true rfl) (rm_1 (by omega)).1 (rm_w (n := 18) (by omega) (Nat.le_of_ble_eq_true rfl) (by decide)) dX1_restore_104 ?_
  exact X_vret F hr hlk (retV h) dX1_restore_107
set_option maxRecDepth 20000 in
theorem F1_restore_met {l : Launch} {G : GG} {D : Nat} {r : Int32 × Mem} {M : Mem} (hI : Inj shA G.2.1) (hD : 1 ≤ D) (h : F1_restore M = some r) : MetX shA l G yX1_restore cX1_restore 4 none D [.ref 50, .ref 1, .ref 5, .ref 16] M (none, r.2) :=
  X_met hI (by decide +kernel) (Nat.le_of_ble_eq_true rfl) (fun p e s m args below meth c F hr hlk => F1_restore_ok F hr hlk hD h)
-- KeepOurPlace$Sheets.spans
def F5_spans (M : Mem) (a1 : Int32) (a2 : Int32) (a3 : Int32) : Option (Int32 × Mem) :=
    Option.bind (F5_holds M a1) fun r1 =>
    if r1.1 = 0 then
      some ((0 : Int32), r1.2)
    else
      if a2 < 0 then
        some ((0 : Int32), r1.2)
      else
        if a3 < 0 then
          some ((0 : Int32), r1.2)
        else
          if inb a1 4 = true then
          if 0 < (lg_cmp ((Int32.toInt64 a2) + (Int32.toInt64 a3)) (Int32.toInt64 (r1.2 44 (Int32.toNatClampNeg a1)))) then
            some ((0 : Int32), r1.2)
          else
            some ((1 : Int32), r1.2)
          else none
set_option maxRecDepth 20000 in
theorem F5_spans_ok {p : Program} {l : Launch} {e : Env} {s : State} {m : MethodId} {args : Array Value} {below : List Frame} {meth : Method} {c : Code} {G : GG} {D : Nat} {r : Int32 × Mem} (F : FrP shA G p s m args c RX5 cX5_spans 4) (hr : meth.sig.returnType = (some .boolean)) (hlk : meth.locks = false) (hD : 2 ≤ D) {M : Mem} {a1 : Int32} {a2 : Int32} {a3 : Int32} (h : F5_spans M a1 a2 a3 = some r) : XJ shA p l e (rmX D) s m args below meth c 0 0 G 4 (MQ below (QcX shA G ((some (.int r.1), r.2) : Option Value × Mem).1 ((some (.int r.1), r.2) : Option Value × Mem).2) args s 0 0 (AW shA G.2.1)) 0 [(0, .ref 42), (1, .int a1), (2, .int a2), (3, .int a3)] [] M := by
  unfold F5_spans at h
  refine X_aload_n F dX5_spans_0 rfl ?_
  refine X_iload_n F dX5_spans_1 rfl ?_
  obtain ⟨r1, h2, h⟩ := bndS h
  refine X_callV (ci := 42) (As := [.int a1]) (rest := []) F fkRX5_23 feX5_holds fvX5_holds ⟨_, _, _, rfl, rfl, rfl⟩ (F5_holds_met (D := D - 1) F.2.2.2.2.2.2.2.1 (by omega) h2) rfl rfl (Nat.le_of_ble_eq_true rfl) (rm_ok (by omega) (by decide)) dX5_spans_2 ?_
  show XJ shA p l e (rmX D) s m args below meth c 0 0 G 4 (MQ below (QcX shA G ((some (.int r.1), r.2) : Option Value × Mem).1 ((some (.int r.1), r.2) : Option Value × Mem).2) args s 0 0 (AW shA G.2.1)) 5 [(0, .ref 42), (1, .int a1), (2, .int a2), (3, .int a3)] [.int r1.1] r1.2
  refine X_if_eq (tgt := 36) F dX5_spans_5 (by decide) (fun q3 => ?_) (fun q3 => ?_)
  · rw [if_pos q3] at h
    refine X_iconst F dX5_spans_36 (v := (0 : Int32)) rfl ?_
    exact X_zret F hr hlk rfl (retI h) dX5_spans_37
  · rw [if_neg q3] at h
    refine X_iload_n F dX5_spans_8 rfl ?_
    refine X_if_lt (tgt := 36) F dX5_spans_9 (by decide) (fun q4 => ?_) (fun q4 => ?_)
    · rw [if_pos q4] at h
      refine X_iconst F dX5_spans_36 (v := (0 : Int32)) rfl ?_
      exact X_zret F hr hlk rfl (retI h) dX5_spans_37
    · rw [if_neg q4] at h
      refine X_iload_n F dX5_spans_12 rfl ?_
      refine X_if_lt (tgt := 36) F dX5_spans_13 (by decide) (fun q5 => ?_) (fun q5 => ?_)
      · rw [if_pos q5] at h
        refine X_iconst F dX5_spans_36 (v := (0 : Int32)) rfl ?_
        exact X_zret F hr hlk rfl (retI h) dX5_spans_37
      · rw [if_neg q5] at h
        refine X_iload_n F dX5_spans_16 rfl ?_
        refine X_i2l F dX5_spans_17 ?_
        refine X_iload_n F dX5_spans_18 rfl ?_
        refine X_i2l F dX5_spans_19 ?_
        refine X_ladd F dX5_spans_20 ?_
        refine X_aload_n F dX5_spans_21 rfl ?_
        refine X_getr F ffRX5_15 dX5_spans_22 ?_
        refine X_iload_n F dX5_spans_25 rfl ?_
        obtain ⟨q6, h⟩ := ifS h
        refine X_iald (j := (Int32.toNatClampNeg a1)) (v := (r1.2 44 (Int32.toNatClampNeg a1))) F rfl (inbV q6) rfl rfl dX5_spans_26 ?_
        refine X_i2l F dX5_spans_27 ?_
        refine X_lcmp F dX5_spans_28 ?_
        refine X_if_gt (tgt := 36) F dX5_spans_29 (by decide) (fun q7 => ?_) (fun q7 => ?_)
        · rw [if_pos q7] at h
          refine X_iconst F dX5_spans_36 (v := (0 : Int32)) rfl ?_
          exact X_zret F hr hlk rfl (retI h) dX5_spans_37
        · rw [if_neg q7] at h
          refine X_iconst F dX5_spans_32 (v := (1 : Int32)) rfl ?_
          refine X_goto (tgt := 37) F dX5_spans_33 (by decide) ?_
          exact X_zret F hr hlk rfl (retI h) dX5_spans_37
set_option maxRecDepth 20000 in
theorem F5_spans_met {l : Launch} {G : GG} {D : Nat} {r : Int32 × Mem} {M : Mem} {a1 : Int32} {a2 : Int32} {a3 : Int32} (hI : Inj shA G.2.1) (hD : 2 ≤ D) (h : F5_spans M a1 a2 a3 = some r) : MetX shA l G yX5_spans cX5_spans 4 (some .boolean) D [.ref 42, .int a1, .int a2, .int a3] M (some (.int r.1), r.2) :=
  X_met hI (by decide +kernel) (Nat.le_of_ble_eq_true rfl) (fun p e s m args below meth c F hr hlk => F5_spans_ok F hr hlk hD h)
