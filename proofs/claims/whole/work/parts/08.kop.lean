/-! written by wip/whole/gen: the pure functions of these methods, read off their bytecode, and the walks that prove them -/
theorem fcRX8_226 : Cond.constantLong RX8 226 (-4611686018427387904 : Int64) ∈ TBL := tmem 815 (by decide +kernel) rfl
theorem fcRX8_228 : Cond.constantLong RX8 228 (100 : Int64) ∈ TBL := tmem 816 (by decide +kernel) rfl
theorem fkRX8_245 : LNK RX8 245 yX0_seek := Or.inr ⟨"KeepOurPlace", nmem 821 (by decide +kernel) rfl⟩
theorem feX0_seek : CLE yX0_seek 1 cX0_seek 2 none := ⟨tmem 7 (by decide +kernel) rfl, tmem 824 (by decide +kernel) rfl, by decide +kernel, by decide +kernel⟩
theorem fvX0_seek : CLV yX0_seek := ⟨tmem 823 (by decide +kernel) rfl, smem 60 (by decide +kernel) rfl⟩
theorem fkRX8_248 : LNK RX8 248 yX0_bits := Or.inr ⟨"KeepOurPlace", nmem 825 (by decide +kernel) rfl⟩
theorem ffRX8_254 : FLT shA RX8 34 0 254 15 (.int 0) := ⟨⟨RX0, TX0, 16, rfl, by decide, wsIn0, Or.inr ⟨"KeepOurPlace", nmem 223 (by decide +kernel) rfl⟩⟩, _, rfl, rfl⟩
theorem ffRX8_251 : FLT shA RX8 34 0 251 14 (.int 0) := ⟨⟨RX0, TX0, 16, rfl, by decide, wsIn0, Or.inr ⟨"KeepOurPlace", nmem 221 (by decide +kernel) rfl⟩⟩, _, rfl, rfl⟩
theorem fkRX8_257 : LNK RX8 257 yX8_ownSeconds := Or.inl (tmem 830 (by decide +kernel) rfl)
theorem feX8_ownSeconds : CLE yX8_ownSeconds 2 cX8_ownSeconds 5 (some .long) := ⟨tmem 1 (by decide +kernel) rfl, tmem 833 (by decide +kernel) rfl, by decide +kernel, by decide +kernel⟩
theorem fvX8_ownSeconds : CLV yX8_ownSeconds := ⟨tmem 832 (by decide +kernel) rfl, smem 61 (by decide +kernel) rfl⟩
theorem fkRX8_261 : LNK RX8 261 yX8_kindsOf := Or.inl (tmem 834 (by decide +kernel) rfl)
theorem feX8_kindsOf : CLE yX8_kindsOf 2 cX8_kindsOf 6 (some .int) := ⟨tmem 1 (by decide +kernel) rfl, tmem 837 (by decide +kernel) rfl, by decide +kernel, by decide +kernel⟩
theorem fvX8_kindsOf : CLV yX8_kindsOf := ⟨tmem 836 (by decide +kernel) rfl, smem 62 (by decide +kernel) rfl⟩
theorem fkRX8_265 : LNK RX8 265 yX5_lay := Or.inr ⟨"KeepOurPlace", nmem 842 (by decide +kernel) rfl⟩
theorem feX5_lay : CLE yX5_lay 3 cX5_lay 5 none := ⟨tmem 8 (by decide +kernel) rfl, tmem 845 (by decide +kernel) rfl, by decide +kernel, by decide +kernel⟩
theorem fvX5_lay : CLV yX5_lay := ⟨tmem 844 (by decide +kernel) rfl, smem 63 (by decide +kernel) rfl⟩
theorem fkRX8_268 : LNK RX8 268 yX5_write := Or.inr ⟨"KeepOurPlace", nmem 846 (by decide +kernel) rfl⟩
theorem feX5_write : CLE yX5_write 3 cX5_write 4 (some .boolean) := ⟨tmem 8 (by decide +kernel) rfl, tmem 849 (by decide +kernel) rfl, by decide +kernel, by decide +kernel⟩
theorem fvX5_write : CLV yX5_write := ⟨tmem 848 (by decide +kernel) rfl, smem 64 (by decide +kernel) rfl⟩
theorem fkRX8_272 : LNK RX8 272 yX6_draw := Or.inr ⟨"KeepOurPlace", nmem 857 (by decide +kernel) rfl⟩
theorem feX6_draw : CLE yX6_draw 1 cX6_draw 5 (some .int) := ⟨tmem 3 (by decide +kernel) rfl, tmem 860 (by decide +kernel) rfl, by decide +kernel, by decide +kernel⟩
theorem fvX6_draw : CLV yX6_draw := ⟨tmem 859 (by decide +kernel) rfl, smem 65 (by decide +kernel) rfl⟩
theorem fmRX8_315 : Cond.methodLink RX8 315 Lib.Math.max.name ∈ TBL := tmem 869 (by decide +kernel) rfl
theorem fsRX8_275 : Cond.methodLink RX8 275 yX8_commonDivisor ∈ TBL := tmem 866 (by decide +kernel) rfl
theorem feX8_commonDivisor : CLE yX8_commonDivisor 2 cX8_commonDivisor 6 (some .int) := ⟨tmem 1 (by decide +kernel) rfl, tmem 868 (by decide +kernel) rfl, by decide +kernel, by decide +kernel⟩
theorem ftX8_commonDivisor : Cond.static yX8_commonDivisor ∈ TBL := tmem 867 (by decide +kernel) rfl
theorem ffRX8_67 : FLT shA RX8 0 8 67 7 (.ref 50) := ⟨⟨RX8, TX8, 8, rfl, by decide, wsIn8, Or.inl (tmem 539 (by decide +kernel) rfl)⟩, _, rfl, rfl⟩
theorem fkRX8_278 : LNK RX8 278 yX1_keep := Or.inr ⟨"KeepOurPlace", nmem 874 (by decide +kernel) rfl⟩
theorem feX1_keep : CLE yX1_keep 3 cX1_keep 4 none := ⟨tmem 9 (by decide +kernel) rfl, tmem 877 (by decide +kernel) rfl, by decide +kernel, by decide +kernel⟩
theorem fvX1_keep : CLV yX1_keep := ⟨tmem 876 (by decide +kernel) rfl, smem 66 (by decide +kernel) rfl⟩
theorem ffRX8_282 : FLT shA RX8 50 1 282 0 (.int 0) := ⟨⟨RX1, TX1, 11, rfl, by decide, wsIn1, Or.inr ⟨"KeepOurPlace", nmem 284 (by decide +kernel) rfl⟩⟩, _, rfl, rfl⟩
theorem ffRX8_286 : FLT shA RX8 50 1 286 1 (.int 0) := ⟨⟨RX1, TX1, 11, rfl, by decide, wsIn1, Or.inr ⟨"KeepOurPlace", nmem 286 (by decide +kernel) rfl⟩⟩, _, rfl, rfl⟩
theorem ffRX8_289 : FLT shA RX8 1 2 289 5 (.int 0) := ⟨⟨RX2, TX2, 6, rfl, by decide, wsIn2, Or.inr ⟨"KeepOurPlace", nmem 58 (by decide +kernel) rfl⟩⟩, _, rfl, rfl⟩
theorem fkRX8_290 : LNK RX8 290 yX1_restore := Or.inr ⟨"KeepOurPlace", nmem 883 (by decide +kernel) rfl⟩
theorem feX1_restore : CLE yX1_restore 3 cX1_restore 4 none := ⟨tmem 9 (by decide +kernel) rfl, tmem 886 (by decide +kernel) rfl, by decide +kernel, by decide +kernel⟩
theorem fvX1_restore : CLV yX1_restore := ⟨tmem 885 (by decide +kernel) rfl, smem 67 (by decide +kernel) rfl⟩
theorem ffRX8_293 : FLT shA RX8 5 6 293 3 (.int 0) := ⟨⟨RX6, TX6, 4, rfl, by decide, wsIn6, Or.inr ⟨"KeepOurPlace", nmem 92 (by decide +kernel) rfl⟩⟩, _, rfl, rfl⟩
theorem ffRX8_294 : FLT shA RX8 42 5 294 0 (.ref 43) := ⟨⟨RX5, TX5, 3, rfl, by decide, wsIn5, Or.inr ⟨"KeepOurPlace", nmem 265 (by decide +kernel) rfl⟩⟩, _, rfl, rfl⟩
theorem fkRX8_297 : LNK RX8 297 yX5_spans := Or.inr ⟨"KeepOurPlace", nmem 903 (by decide +kernel) rfl⟩
theorem feX5_spans : CLE yX5_spans 3 cX5_spans 4 (some .boolean) := ⟨tmem 8 (by decide +kernel) rfl, tmem 906 (by decide +kernel) rfl, by decide +kernel, by decide +kernel⟩
theorem fvX5_spans : CLV yX5_spans := ⟨tmem 905 (by decide +kernel) rfl, smem 68 (by decide +kernel) rfl⟩
theorem fmRX8_300 : Cond.methodLink RX8 300 arraycopyName ∈ TBL := tmem 907 (by decide +kernel) rfl
theorem fcRX8_306 : Cond.constantLong RX8 306 (2 : Int64) ∈ TBL := tmem 912 (by decide +kernel) rfl
theorem fuRX8_312 : Cond.fieldLink RX8 312 "KeepOurPlace" "UNDER" "[I" ∈ TBL := tmem 920 (by decide +kernel) rfl
theorem fsRX8_308 : Cond.methodLink RX8 308 yX8_isUnder ∈ TBL := tmem 917 (by decide +kernel) rfl
theorem feX8_isUnder : CLE yX8_isUnder 2 cX8_isUnder 4 (some .boolean) := ⟨tmem 1 (by decide +kernel) rfl, tmem 919 (by decide +kernel) rfl, by decide +kernel, by decide +kernel⟩
theorem ftX8_isUnder : Cond.static yX8_isUnder ∈ TBL := tmem 918 (by decide +kernel) rfl
theorem dX8_lines_0 : decode cX8_lines 0 = .ok (.iload_n 1, 1) := by decide +kernel
theorem dX8_lines_1 : decode cX8_lines 1 = .ok (.ifCond .lt 8, 3) := by decide +kernel
theorem dX8_lines_4 : decode cX8_lines 4 = .ok (.iload_n 1, 1) := by decide +kernel
theorem dX8_lines_5 : decode cX8_lines 5 = .ok (.iconst 2, 1) := by decide +kernel
theorem dX8_lines_6 : decode cX8_lines 6 = .ok (.if_icmp .le 6, 3) := by decide +kernel
theorem dX8_lines_9 : decode cX8_lines 9 = .ok (.bipush (-2), 2) := by decide +kernel
theorem dX8_lines_11 : decode cX8_lines 11 = .ok (.ireturn, 1) := by decide +kernel
theorem dX8_lines_12 : decode cX8_lines 12 = .ok (.iconst 0, 1) := by decide +kernel
theorem dX8_lines_13 : decode cX8_lines 13 = .ok (.istore_n 2, 1) := by decide +kernel
theorem dX8_lines_14 : decode cX8_lines 14 = .ok (.iconst 0, 1) := by decide +kernel
theorem dX8_lines_15 : decode cX8_lines 15 = .ok (.istore_n 3, 1) := by decide +kernel
theorem dX8_lines_16 : decode cX8_lines 16 = .ok (.iconst 0, 1) := by decide +kernel
theorem dX8_lines_17 : decode cX8_lines 17 = .ok (.istore 4, 2) := by decide +kernel
theorem dX8_lines_19 : decode cX8_lines 19 = .ok (.iload 4, 2) := by decide +kernel
theorem dX8_lines_21 : decode cX8_lines 21 = .ok (.aload_n 0, 1) := by decide +kernel
theorem dX8_lines_22 : decode cX8_lines 22 = .ok (.getfield 10, 3) := by decide +kernel
theorem dX8_lines_25 : decode cX8_lines 25 = .ok (.getfield 223, 3) := by decide +kernel
theorem dX8_lines_28 : decode cX8_lines 28 = .ok (.if_icmp .ge 64, 3) := by decide +kernel
theorem dX8_lines_31 : decode cX8_lines 31 = .ok (.iload 4, 2) := by decide +kernel
theorem dX8_lines_33 : decode cX8_lines 33 = .ok (.aload_n 0, 1) := by decide +kernel
theorem dX8_lines_34 : decode cX8_lines 34 = .ok (.getfield 10, 3) := by decide +kernel
theorem dX8_lines_37 : decode cX8_lines 37 = .ok (.getfield 142, 3) := by decide +kernel
theorem dX8_lines_40 : decode cX8_lines 40 = .ok (.if_icmp .ge 52, 3) := by decide +kernel
theorem dX8_lines_43 : decode cX8_lines 43 = .ok (.aload_n 0, 1) := by decide +kernel
theorem dX8_lines_44 : decode cX8_lines 44 = .ok (.getfield 44, 3) := by decide +kernel
theorem dX8_lines_47 : decode cX8_lines 47 = .ok (.aload_n 0, 1) := by decide +kernel
theorem dX8_lines_48 : decode cX8_lines 48 = .ok (.getfield 10, 3) := by decide +kernel
theorem dX8_lines_51 : decode cX8_lines 51 = .ok (.getfield 132, 3) := by decide +kernel
theorem dX8_lines_54 : decode cX8_lines 54 = .ok (.iload 4, 2) := by decide +kernel
theorem dX8_lines_56 : decode cX8_lines 56 = .ok (.iaload, 1) := by decide +kernel
theorem dX8_lines_57 : decode cX8_lines 57 = .ok (.iload 4, 2) := by decide +kernel
theorem dX8_lines_59 : decode cX8_lines 59 = .ok (.iload 4, 2) := by decide +kernel
theorem dX8_lines_61 : decode cX8_lines 61 = .ok (.invokevirtual 135, 3) := by decide +kernel
theorem dX8_lines_64 : decode cX8_lines 64 = .ok (.istore 5, 2) := by decide +kernel
theorem dX8_lines_66 : decode cX8_lines 66 = .ok (.iload 4, 2) := by decide +kernel
theorem dX8_lines_68 : decode cX8_lines 68 = .ok (.iconst 2, 1) := by decide +kernel
theorem dX8_lines_69 : decode cX8_lines 69 = .ok (.irem, 1) := by decide +kernel
theorem dX8_lines_70 : decode cX8_lines 70 = .ok (.ifCond .ne 11, 3) := by decide +kernel
theorem dX8_lines_73 : decode cX8_lines 73 = .ok (.iload_n 2, 1) := by decide +kernel
theorem dX8_lines_74 : decode cX8_lines 74 = .ok (.iload 5, 2) := by decide +kernel
theorem dX8_lines_76 : decode cX8_lines 76 = .ok (.iadd, 1) := by decide +kernel
theorem dX8_lines_77 : decode cX8_lines 77 = .ok (.istore_n 2, 1) := by decide +kernel
theorem dX8_lines_78 : decode cX8_lines 78 = .ok (.goto 8, 3) := by decide +kernel
theorem dX8_lines_81 : decode cX8_lines 81 = .ok (.iload_n 3, 1) := by decide +kernel
theorem dX8_lines_82 : decode cX8_lines 82 = .ok (.iload 5, 2) := by decide +kernel
theorem dX8_lines_84 : decode cX8_lines 84 = .ok (.iadd, 1) := by decide +kernel
theorem dX8_lines_85 : decode cX8_lines 85 = .ok (.istore_n 3, 1) := by decide +kernel
theorem dX8_lines_86 : decode cX8_lines 86 = .ok (.iinc 4 1, 3) := by decide +kernel
theorem dX8_lines_89 : decode cX8_lines 89 = .ok (.goto (-70), 3) := by decide +kernel
theorem dX8_lines_92 : decode cX8_lines 92 = .ok (.iload_n 1, 1) := by decide +kernel
theorem dX8_lines_93 : decode cX8_lines 93 = .ok (.ifCond .ne 5, 3) := by decide +kernel
theorem dX8_lines_96 : decode cX8_lines 96 = .ok (.iload_n 2, 1) := by decide +kernel
theorem dX8_lines_97 : decode cX8_lines 97 = .ok (.ireturn, 1) := by decide +kernel
theorem dX8_lines_98 : decode cX8_lines 98 = .ok (.iload_n 1, 1) := by decide +kernel
theorem dX8_lines_99 : decode cX8_lines 99 = .ok (.iconst 1, 1) := by decide +kernel
theorem dX8_lines_100 : decode cX8_lines 100 = .ok (.if_icmp .ne 5, 3) := by decide +kernel
theorem dX8_lines_103 : decode cX8_lines 103 = .ok (.iload_n 3, 1) := by decide +kernel
theorem dX8_lines_104 : decode cX8_lines 104 = .ok (.ireturn, 1) := by decide +kernel
theorem dX8_lines_105 : decode cX8_lines 105 = .ok (.iload_n 3, 1) := by decide +kernel
theorem dX8_lines_106 : decode cX8_lines 106 = .ok (.iload_n 2, 1) := by decide +kernel
theorem dX8_lines_107 : decode cX8_lines 107 = .ok (.if_icmp .ge 7, 3) := by decide +kernel
theorem dX8_lines_110 : decode cX8_lines 110 = .ok (.iconst 1, 1) := by decide +kernel
theorem dX8_lines_111 : decode cX8_lines 111 = .ok (.goto 4, 3) := by decide +kernel
theorem dX8_lines_114 : decode cX8_lines 114 = .ok (.iconst 0, 1) := by decide +kernel
theorem dX8_lines_115 : decode cX8_lines 115 = .ok (.ireturn, 1) := by decide +kernel
theorem dX8_likely_0 : decode cX8_likely 0 = .ok (.aload_n 0, 1) := by decide +kernel
theorem dX8_likely_1 : decode cX8_likely 1 = .ok (.iload_n 1, 1) := by decide +kernel
theorem dX8_likely_2 : decode cX8_likely 2 = .ok (.invokevirtual 162, 3) := by decide +kernel
theorem dX8_likely_5 : decode cX8_likely 5 = .ok (.ifCond .ne 7, 3) := by decide +kernel
theorem dX8_likely_8 : decode cX8_likely 8 = .ok (.ldc2_w 226, 3) := by decide +kernel
theorem dX8_likely_11 : decode cX8_likely 11 = .ok (.lreturn, 1) := by decide +kernel
theorem dX8_likely_12 : decode cX8_likely 12 = .ok (.aload_n 0, 1) := by decide +kernel
theorem dX8_likely_13 : decode cX8_likely 13 = .ok (.getfield 53, 3) := by decide +kernel
theorem dX8_likely_16 : decode cX8_likely 16 = .ok (.invokevirtual 166, 3) := by decide +kernel
theorem dX8_likely_19 : decode cX8_likely 19 = .ok (.lconst 0, 1) := by decide +kernel
theorem dX8_likely_20 : decode cX8_likely 20 = .ok (.lstore_n 2, 1) := by decide +kernel
theorem dX8_likely_21 : decode cX8_likely 21 = .ok (.iconst 0, 1) := by decide +kernel
theorem dX8_likely_22 : decode cX8_likely 22 = .ok (.istore 4, 2) := by decide +kernel
theorem dX8_likely_24 : decode cX8_likely 24 = .ok (.iload 4, 2) := by decide +kernel
theorem dX8_likely_26 : decode cX8_likely 26 = .ok (.aload_n 0, 1) := by decide +kernel
theorem dX8_likely_27 : decode cX8_likely 27 = .ok (.getfield 53, 3) := by decide +kernel
theorem dX8_likely_30 : decode cX8_likely 30 = .ok (.getfield 215, 3) := by decide +kernel
theorem dX8_likely_33 : decode cX8_likely 33 = .ok (.if_icmp .ge 46, 3) := by decide +kernel
theorem dX8_likely_36 : decode cX8_likely 36 = .ok (.aload_n 0, 1) := by decide +kernel
theorem dX8_likely_37 : decode cX8_likely 37 = .ok (.getfield 53, 3) := by decide +kernel
theorem dX8_likely_40 : decode cX8_likely 40 = .ok (.getfield 217, 3) := by decide +kernel
theorem dX8_likely_43 : decode cX8_likely 43 = .ok (.iload 4, 2) := by decide +kernel
theorem dX8_likely_45 : decode cX8_likely 45 = .ok (.iaload, 1) := by decide +kernel
theorem dX8_likely_46 : decode cX8_likely 46 = .ok (.istore 5, 2) := by decide +kernel
theorem dX8_likely_48 : decode cX8_likely 48 = .ok (.lload_n 2, 1) := by decide +kernel
theorem dX8_likely_49 : decode cX8_likely 49 = .ok (.aload_n 0, 1) := by decide +kernel
theorem dX8_likely_50 : decode cX8_likely 50 = .ok (.getfield 19, 3) := by decide +kernel
theorem dX8_likely_53 : decode cX8_likely 53 = .ok (.getfield 126, 3) := by decide +kernel
theorem dX8_likely_56 : decode cX8_likely 56 = .ok (.iload 5, 2) := by decide +kernel
theorem dX8_likely_58 : decode cX8_likely 58 = .ok (.iaload, 1) := by decide +kernel
theorem dX8_likely_59 : decode cX8_likely 59 = .ok (.aload_n 0, 1) := by decide +kernel
theorem dX8_likely_60 : decode cX8_likely 60 = .ok (.getfield 19, 3) := by decide +kernel
theorem dX8_likely_63 : decode cX8_likely 63 = .ok (.getfield 129, 3) := by decide +kernel
theorem dX8_likely_66 : decode cX8_likely 66 = .ok (.iload 5, 2) := by decide +kernel
theorem dX8_likely_68 : decode cX8_likely 68 = .ok (.iaload, 1) := by decide +kernel
theorem dX8_likely_69 : decode cX8_likely 69 = .ok (.imul, 1) := by decide +kernel
theorem dX8_likely_70 : decode cX8_likely 70 = .ok (.i2l, 1) := by decide +kernel
theorem dX8_likely_71 : decode cX8_likely 71 = .ok (.ladd, 1) := by decide +kernel
theorem dX8_likely_72 : decode cX8_likely 72 = .ok (.lstore_n 2, 1) := by decide +kernel
theorem dX8_likely_73 : decode cX8_likely 73 = .ok (.iinc 4 1, 3) := by decide +kernel
theorem dX8_likely_76 : decode cX8_likely 76 = .ok (.goto (-52), 3) := by decide +kernel
theorem dX8_likely_79 : decode cX8_likely 79 = .ok (.lload_n 2, 1) := by decide +kernel
theorem dX8_likely_80 : decode cX8_likely 80 = .ok (.ldc2_w 228, 3) := by decide +kernel
theorem dX8_likely_83 : decode cX8_likely 83 = .ok (.aload_n 0, 1) := by decide +kernel
theorem dX8_likely_84 : decode cX8_likely 84 = .ok (.getfield 53, 3) := by decide +kernel
theorem dX8_likely_87 : decode cX8_likely 87 = .ok (.invokevirtual 178, 3) := by decide +kernel
theorem dX8_likely_90 : decode cX8_likely 90 = .ok (.aload_n 0, 1) := by decide +kernel
theorem dX8_likely_91 : decode cX8_likely 91 = .ok (.getfield 53, 3) := by decide +kernel
theorem dX8_likely_94 : decode cX8_likely 94 = .ok (.invokevirtual 175, 3) := by decide +kernel
theorem dX8_likely_97 : decode cX8_likely 97 = .ok (.isub, 1) := by decide +kernel
theorem dX8_likely_98 : decode cX8_likely 98 = .ok (.i2l, 1) := by decide +kernel
theorem dX8_likely_99 : decode cX8_likely 99 = .ok (.lmul, 1) := by decide +kernel
theorem dX8_likely_100 : decode cX8_likely 100 = .ok (.lsub, 1) := by decide +kernel
theorem dX8_likely_101 : decode cX8_likely 101 = .ok (.lreturn, 1) := by decide +kernel
theorem dX8_slip_0 : decode cX8_slip 0 = .ok (.aload_n 0, 1) := by decide +kernel
theorem dX8_slip_1 : decode cX8_slip 1 = .ok (.getfield 60, 3) := by decide +kernel
theorem dX8_slip_4 : decode cX8_slip 4 = .ok (.iload_n 1, 1) := by decide +kernel
theorem dX8_slip_5 : decode cX8_slip 5 = .ok (.invokevirtual 230, 3) := by decide +kernel
theorem dX8_slip_8 : decode cX8_slip 8 = .ok (.ifCond .eq 12, 3) := by decide +kernel
theorem dX8_slip_11 : decode cX8_slip 11 = .ok (.iload_n 2, 1) := by decide +kernel
theorem dX8_slip_12 : decode cX8_slip 12 = .ok (.ifCond .lt 8, 3) := by decide +kernel
theorem dX8_slip_15 : decode cX8_slip 15 = .ok (.iload_n 2, 1) := by decide +kernel
theorem dX8_slip_16 : decode cX8_slip 16 = .ok (.iconst 1, 1) := by decide +kernel
theorem dX8_slip_17 : decode cX8_slip 17 = .ok (.if_icmp .le 6, 3) := by decide +kernel
theorem dX8_slip_20 : decode cX8_slip 20 = .ok (.bipush (-2), 2) := by decide +kernel
theorem dX8_slip_22 : decode cX8_slip 22 = .ok (.ireturn, 1) := by decide +kernel
theorem dX8_slip_23 : decode cX8_slip 23 = .ok (.aload_n 0, 1) := by decide +kernel
theorem dX8_slip_24 : decode cX8_slip 24 = .ok (.getfield 60, 3) := by decide +kernel
theorem dX8_slip_27 : decode cX8_slip 27 = .ok (.iload_n 1, 1) := by decide +kernel
theorem dX8_slip_28 : decode cX8_slip 28 = .ok (.invokevirtual 231, 3) := by decide +kernel
theorem dX8_slip_31 : decode cX8_slip 31 = .ok (.ifCond .eq 6, 3) := by decide +kernel
theorem dX8_slip_34 : decode cX8_slip 34 = .ok (.bipush (-11), 2) := by decide +kernel
theorem dX8_slip_36 : decode cX8_slip 36 = .ok (.ireturn, 1) := by decide +kernel
theorem dX8_slip_37 : decode cX8_slip 37 = .ok (.aload_n 0, 1) := by decide +kernel
theorem dX8_slip_38 : decode cX8_slip 38 = .ok (.getfield 60, 3) := by decide +kernel
theorem dX8_slip_41 : decode cX8_slip 41 = .ok (.getfield 234, 3) := by decide +kernel
theorem dX8_slip_44 : decode cX8_slip 44 = .ok (.iload_n 1, 1) := by decide +kernel
theorem dX8_slip_45 : decode cX8_slip 45 = .ok (.iaload, 1) := by decide +kernel
theorem dX8_slip_46 : decode cX8_slip 46 = .ok (.iconst 1, 1) := by decide +kernel
theorem dX8_slip_47 : decode cX8_slip 47 = .ok (.isub, 1) := by decide +kernel
theorem dX8_slip_48 : decode cX8_slip 48 = .ok (.istore_n 3, 1) := by decide +kernel
theorem dX8_slip_49 : decode cX8_slip 49 = .ok (.iload_n 3, 1) := by decide +kernel
theorem dX8_slip_50 : decode cX8_slip 50 = .ok (.ifCond .lt 23, 3) := by decide +kernel
theorem dX8_slip_53 : decode cX8_slip 53 = .ok (.aload_n 0, 1) := by decide +kernel
theorem dX8_slip_54 : decode cX8_slip 54 = .ok (.getfield 53, 3) := by decide +kernel
theorem dX8_slip_57 : decode cX8_slip 57 = .ok (.aload_n 0, 1) := by decide +kernel
theorem dX8_slip_58 : decode cX8_slip 58 = .ok (.getfield 60, 3) := by decide +kernel
theorem dX8_slip_61 : decode cX8_slip 61 = .ok (.getfield 237, 3) := by decide +kernel
theorem dX8_slip_64 : decode cX8_slip 64 = .ok (.iload_n 1, 1) := by decide +kernel
theorem dX8_slip_65 : decode cX8_slip 65 = .ok (.aaload, 1) := by decide +kernel
theorem dX8_slip_66 : decode cX8_slip 66 = .ok (.iload_n 3, 1) := by decide +kernel
theorem dX8_slip_67 : decode cX8_slip 67 = .ok (.invokevirtual 241, 3) := by decide +kernel
theorem dX8_slip_70 : decode cX8_slip 70 = .ok (.ifCond .ne 6, 3) := by decide +kernel
theorem dX8_slip_73 : decode cX8_slip 73 = .ok (.bipush (-2), 2) := by decide +kernel
theorem dX8_slip_75 : decode cX8_slip 75 = .ok (.ireturn, 1) := by decide +kernel
theorem dX8_slip_76 : decode cX8_slip 76 = .ok (.aload_n 0, 1) := by decide +kernel
theorem dX8_slip_77 : decode cX8_slip 77 = .ok (.getfield 53, 3) := by decide +kernel
theorem dX8_slip_80 : decode cX8_slip 80 = .ok (.aload_n 0, 1) := by decide +kernel
theorem dX8_slip_81 : decode cX8_slip 81 = .ok (.getfield 60, 3) := by decide +kernel
theorem dX8_slip_84 : decode cX8_slip 84 = .ok (.getfield 237, 3) := by decide +kernel
theorem dX8_slip_87 : decode cX8_slip 87 = .ok (.iload_n 1, 1) := by decide +kernel
theorem dX8_slip_88 : decode cX8_slip 88 = .ok (.aaload, 1) := by decide +kernel
theorem dX8_slip_89 : decode cX8_slip 89 = .ok (.iload_n 3, 1) := by decide +kernel
theorem dX8_slip_90 : decode cX8_slip 90 = .ok (.iaload, 1) := by decide +kernel
theorem dX8_slip_91 : decode cX8_slip 91 = .ok (.invokevirtual 245, 3) := by decide +kernel
theorem dX8_slip_94 : decode cX8_slip 94 = .ok (.aload_n 0, 1) := by decide +kernel
theorem dX8_slip_95 : decode cX8_slip 95 = .ok (.getfield 53, 3) := by decide +kernel
theorem dX8_slip_98 : decode cX8_slip 98 = .ok (.aload_n 0, 1) := by decide +kernel
theorem dX8_slip_99 : decode cX8_slip 99 = .ok (.getfield 53, 3) := by decide +kernel
theorem dX8_slip_102 : decode cX8_slip 102 = .ok (.invokevirtual 248, 3) := by decide +kernel
theorem dX8_slip_105 : decode cX8_slip 105 = .ok (.invokevirtual 190, 3) := by decide +kernel
theorem dX8_slip_108 : decode cX8_slip 108 = .ok (.iload_n 2, 1) := by decide +kernel
theorem dX8_slip_109 : decode cX8_slip 109 = .ok (.ifCond .ne 13, 3) := by decide +kernel
theorem dX8_slip_112 : decode cX8_slip 112 = .ok (.aload_n 0, 1) := by decide +kernel
theorem dX8_slip_113 : decode cX8_slip 113 = .ok (.getfield 53, 3) := by decide +kernel
theorem dX8_slip_116 : decode cX8_slip 116 = .ok (.getfield 251, 3) := by decide +kernel
theorem dX8_slip_119 : decode cX8_slip 119 = .ok (.goto 10, 3) := by decide +kernel
theorem dX8_slip_122 : decode cX8_slip 122 = .ok (.aload_n 0, 1) := by decide +kernel
theorem dX8_slip_123 : decode cX8_slip 123 = .ok (.getfield 53, 3) := by decide +kernel
theorem dX8_slip_126 : decode cX8_slip 126 = .ok (.getfield 254, 3) := by decide +kernel
theorem dX8_slip_129 : decode cX8_slip 129 = .ok (.ireturn, 1) := by decide +kernel
theorem dX8_ownSeconds_0 : decode cX8_ownSeconds 0 = .ok (.iload_n 2, 1) := by decide +kernel
theorem dX8_ownSeconds_1 : decode cX8_ownSeconds 1 = .ok (.ifCond .lt 9, 3) := by decide +kernel
theorem dX8_ownSeconds_4 : decode cX8_ownSeconds 4 = .ok (.iload_n 2, 1) := by decide +kernel
theorem dX8_ownSeconds_5 : decode cX8_ownSeconds 5 = .ok (.bipush 40, 2) := by decide +kernel
theorem dX8_ownSeconds_7 : decode cX8_ownSeconds 7 = .ok (.if_icmp .lt 5, 3) := by decide +kernel
theorem dX8_ownSeconds_10 : decode cX8_ownSeconds 10 = .ok (.lconst 0, 1) := by decide +kernel
theorem dX8_ownSeconds_11 : decode cX8_ownSeconds 11 = .ok (.lreturn, 1) := by decide +kernel
theorem dX8_ownSeconds_12 : decode cX8_ownSeconds 12 = .ok (.aload_n 0, 1) := by decide +kernel
theorem dX8_ownSeconds_13 : decode cX8_ownSeconds 13 = .ok (.getfield 60, 3) := by decide +kernel
theorem dX8_ownSeconds_16 : decode cX8_ownSeconds 16 = .ok (.getfield 237, 3) := by decide +kernel
theorem dX8_ownSeconds_19 : decode cX8_ownSeconds 19 = .ok (.iload_n 1, 1) := by decide +kernel
theorem dX8_ownSeconds_20 : decode cX8_ownSeconds 20 = .ok (.aaload, 1) := by decide +kernel
theorem dX8_ownSeconds_21 : decode cX8_ownSeconds 21 = .ok (.iload_n 2, 1) := by decide +kernel
theorem dX8_ownSeconds_22 : decode cX8_ownSeconds 22 = .ok (.iaload, 1) := by decide +kernel
theorem dX8_ownSeconds_23 : decode cX8_ownSeconds 23 = .ok (.i2l, 1) := by decide +kernel
theorem dX8_ownSeconds_24 : decode cX8_ownSeconds 24 = .ok (.lstore_n 3, 1) := by decide +kernel
theorem dX8_ownSeconds_25 : decode cX8_ownSeconds 25 = .ok (.iload_n 2, 1) := by decide +kernel
theorem dX8_ownSeconds_26 : decode cX8_ownSeconds 26 = .ok (.ifCond .ne 7, 3) := by decide +kernel
theorem dX8_ownSeconds_29 : decode cX8_ownSeconds 29 = .ok (.lload_n 3, 1) := by decide +kernel
theorem dX8_ownSeconds_30 : decode cX8_ownSeconds 30 = .ok (.goto 19, 3) := by decide +kernel
theorem dX8_ownSeconds_33 : decode cX8_ownSeconds 33 = .ok (.lload_n 3, 1) := by decide +kernel
theorem dX8_ownSeconds_34 : decode cX8_ownSeconds 34 = .ok (.aload_n 0, 1) := by decide +kernel
theorem dX8_ownSeconds_35 : decode cX8_ownSeconds 35 = .ok (.getfield 60, 3) := by decide +kernel
theorem dX8_ownSeconds_38 : decode cX8_ownSeconds 38 = .ok (.getfield 237, 3) := by decide +kernel
theorem dX8_ownSeconds_41 : decode cX8_ownSeconds 41 = .ok (.iload_n 1, 1) := by decide +kernel
theorem dX8_ownSeconds_42 : decode cX8_ownSeconds 42 = .ok (.aaload, 1) := by decide +kernel
theorem dX8_ownSeconds_43 : decode cX8_ownSeconds 43 = .ok (.iload_n 2, 1) := by decide +kernel
theorem dX8_ownSeconds_44 : decode cX8_ownSeconds 44 = .ok (.iconst 1, 1) := by decide +kernel
theorem dX8_ownSeconds_45 : decode cX8_ownSeconds 45 = .ok (.isub, 1) := by decide +kernel
theorem dX8_ownSeconds_46 : decode cX8_ownSeconds 46 = .ok (.iaload, 1) := by decide +kernel
theorem dX8_ownSeconds_47 : decode cX8_ownSeconds 47 = .ok (.i2l, 1) := by decide +kernel
theorem dX8_ownSeconds_48 : decode cX8_ownSeconds 48 = .ok (.lsub, 1) := by decide +kernel
theorem dX8_ownSeconds_49 : decode cX8_ownSeconds 49 = .ok (.lreturn, 1) := by decide +kernel
theorem dX8_kindsOf_0 : decode cX8_kindsOf 0 = .ok (.iconst 0, 1) := by decide +kernel
theorem dX8_kindsOf_1 : decode cX8_kindsOf 1 = .ok (.istore 4, 2) := by decide +kernel
theorem dX8_kindsOf_3 : decode cX8_kindsOf 3 = .ok (.iconst 0, 1) := by decide +kernel
theorem dX8_kindsOf_4 : decode cX8_kindsOf 4 = .ok (.istore 5, 2) := by decide +kernel
theorem dX8_kindsOf_6 : decode cX8_kindsOf 6 = .ok (.iload 5, 2) := by decide +kernel
theorem dX8_kindsOf_8 : decode cX8_kindsOf 8 = .ok (.bipush 6, 2) := by decide +kernel
theorem dX8_kindsOf_10 : decode cX8_kindsOf 10 = .ok (.if_icmp .ge 35, 3) := by decide +kernel
theorem dX8_kindsOf_13 : decode cX8_kindsOf 13 = .ok (.aload_n 0, 1) := by decide +kernel
theorem dX8_kindsOf_14 : decode cX8_kindsOf 14 = .ok (.getfield 44, 3) := by decide +kernel
theorem dX8_kindsOf_17 : decode cX8_kindsOf 17 = .ok (.iload 5, 2) := by decide +kernel
theorem dX8_kindsOf_19 : decode cX8_kindsOf 19 = .ok (.iload_n 1, 1) := by decide +kernel
theorem dX8_kindsOf_20 : decode cX8_kindsOf 20 = .ok (.iload_n 1, 1) := by decide +kernel
theorem dX8_kindsOf_21 : decode cX8_kindsOf 21 = .ok (.invokevirtual 135, 3) := by decide +kernel
theorem dX8_kindsOf_24 : decode cX8_kindsOf 24 = .ok (.i2l, 1) := by decide +kernel
theorem dX8_kindsOf_25 : decode cX8_kindsOf 25 = .ok (.lload_n 2, 1) := by decide +kernel
theorem dX8_kindsOf_26 : decode cX8_kindsOf 26 = .ok (.lcmp, 1) := by decide +kernel
theorem dX8_kindsOf_27 : decode cX8_kindsOf 27 = .ok (.ifCond .ne 12, 3) := by decide +kernel
theorem dX8_kindsOf_30 : decode cX8_kindsOf 30 = .ok (.iload 4, 2) := by decide +kernel
theorem dX8_kindsOf_32 : decode cX8_kindsOf 32 = .ok (.iconst 1, 1) := by decide +kernel
theorem dX8_kindsOf_33 : decode cX8_kindsOf 33 = .ok (.iload 5, 2) := by decide +kernel
theorem dX8_kindsOf_35 : decode cX8_kindsOf 35 = .ok (.ishl, 1) := by decide +kernel
theorem dX8_kindsOf_36 : decode cX8_kindsOf 36 = .ok (.ior, 1) := by decide +kernel
theorem dX8_kindsOf_37 : decode cX8_kindsOf 37 = .ok (.istore 4, 2) := by decide +kernel
theorem dX8_kindsOf_39 : decode cX8_kindsOf 39 = .ok (.iinc 5 1, 3) := by decide +kernel
theorem dX8_kindsOf_42 : decode cX8_kindsOf 42 = .ok (.goto (-36), 3) := by decide +kernel
theorem dX8_kindsOf_45 : decode cX8_kindsOf 45 = .ok (.iload 4, 2) := by decide +kernel
theorem dX8_kindsOf_47 : decode cX8_kindsOf 47 = .ok (.ireturn, 1) := by decide +kernel
theorem dX8_served_0 : decode cX8_served 0 = .ok (.aload_n 0, 1) := by decide +kernel
theorem dX8_served_1 : decode cX8_served 1 = .ok (.getfield 60, 3) := by decide +kernel
theorem dX8_served_4 : decode cX8_served 4 = .ok (.iload_n 1, 1) := by decide +kernel
theorem dX8_served_5 : decode cX8_served 5 = .ok (.invokevirtual 230, 3) := by decide +kernel
theorem dX8_served_8 : decode cX8_served 8 = .ok (.ifCond .ne 6, 3) := by decide +kernel
theorem dX8_served_11 : decode cX8_served 11 = .ok (.bipush (-2), 2) := by decide +kernel
theorem dX8_served_13 : decode cX8_served 13 = .ok (.ireturn, 1) := by decide +kernel
theorem dX8_served_14 : decode cX8_served 14 = .ok (.aload_n 0, 1) := by decide +kernel
theorem dX8_served_15 : decode cX8_served 15 = .ok (.getfield 60, 3) := by decide +kernel
theorem dX8_served_18 : decode cX8_served 18 = .ok (.iload_n 1, 1) := by decide +kernel
theorem dX8_served_19 : decode cX8_served 19 = .ok (.invokevirtual 231, 3) := by decide +kernel
theorem dX8_served_22 : decode cX8_served 22 = .ok (.ifCond .eq 6, 3) := by decide +kernel
theorem dX8_served_25 : decode cX8_served 25 = .ok (.bipush (-11), 2) := by decide +kernel
theorem dX8_served_27 : decode cX8_served 27 = .ok (.ireturn, 1) := by decide +kernel
theorem dX8_served_28 : decode cX8_served 28 = .ok (.aload_n 0, 1) := by decide +kernel
theorem dX8_served_29 : decode cX8_served 29 = .ok (.getfield 60, 3) := by decide +kernel
theorem dX8_served_32 : decode cX8_served 32 = .ok (.getfield 234, 3) := by decide +kernel
theorem dX8_served_35 : decode cX8_served 35 = .ok (.iload_n 1, 1) := by decide +kernel
theorem dX8_served_36 : decode cX8_served 36 = .ok (.iaload, 1) := by decide +kernel
theorem dX8_served_37 : decode cX8_served 37 = .ok (.istore_n 3, 1) := by decide +kernel
theorem dX8_served_38 : decode cX8_served 38 = .ok (.iload_n 3, 1) := by decide +kernel
theorem dX8_served_39 : decode cX8_served 39 = .ok (.aload_n 0, 1) := by decide +kernel
theorem dX8_served_40 : decode cX8_served 40 = .ok (.getfield 10, 3) := by decide +kernel
theorem dX8_served_43 : decode cX8_served 43 = .ok (.getfield 142, 3) := by decide +kernel
theorem dX8_served_46 : decode cX8_served 46 = .ok (.if_icmp .gt 13, 3) := by decide +kernel
theorem dX8_served_49 : decode cX8_served 49 = .ok (.iload_n 2, 1) := by decide +kernel
theorem dX8_served_50 : decode cX8_served 50 = .ok (.iconst (-1), 1) := by decide +kernel
theorem dX8_served_51 : decode cX8_served 51 = .ok (.if_icmp .lt 8, 3) := by decide +kernel
theorem dX8_served_54 : decode cX8_served 54 = .ok (.iload_n 2, 1) := by decide +kernel
theorem dX8_served_55 : decode cX8_served 55 = .ok (.iload_n 3, 1) := by decide +kernel
theorem dX8_served_56 : decode cX8_served 56 = .ok (.if_icmp .lt 6, 3) := by decide +kernel
theorem dX8_served_59 : decode cX8_served 59 = .ok (.bipush (-2), 2) := by decide +kernel
theorem dX8_served_61 : decode cX8_served 61 = .ok (.ireturn, 1) := by decide +kernel
theorem dX8_served_62 : decode cX8_served 62 = .ok (.iload_n 2, 1) := by decide +kernel
theorem dX8_served_63 : decode cX8_served 63 = .ok (.iconst (-1), 1) := by decide +kernel
theorem dX8_served_64 : decode cX8_served 64 = .ok (.if_icmp .eq 15, 3) := by decide +kernel
theorem dX8_served_67 : decode cX8_served 67 = .ok (.aload_n 0, 1) := by decide +kernel
theorem dX8_served_68 : decode cX8_served 68 = .ok (.iload_n 2, 1) := by decide +kernel
theorem dX8_served_69 : decode cX8_served 69 = .ok (.aload_n 0, 1) := by decide +kernel
theorem dX8_served_70 : decode cX8_served 70 = .ok (.iload_n 1, 1) := by decide +kernel
theorem dX8_served_71 : decode cX8_served 71 = .ok (.iload_n 2, 1) := by decide +kernel
theorem dX8_served_72 : decode cX8_served 72 = .ok (.invokevirtual 257, 3) := by decide +kernel
theorem dX8_served_75 : decode cX8_served 75 = .ok (.invokevirtual 261, 3) := by decide +kernel
theorem dX8_served_78 : decode cX8_served 78 = .ok (.ireturn, 1) := by decide +kernel
theorem dX8_served_79 : decode cX8_served 79 = .ok (.iconst 0, 1) := by decide +kernel
theorem dX8_served_80 : decode cX8_served 80 = .ok (.istore 4, 2) := by decide +kernel
theorem dX8_served_82 : decode cX8_served 82 = .ok (.iload 4, 2) := by decide +kernel
theorem dX8_served_84 : decode cX8_served 84 = .ok (.iload_n 3, 1) := by decide +kernel
theorem dX8_served_85 : decode cX8_served 85 = .ok (.if_icmp .ge 45, 3) := by decide +kernel
theorem dX8_served_88 : decode cX8_served 88 = .ok (.aload_n 0, 1) := by decide +kernel
theorem dX8_served_89 : decode cX8_served 89 = .ok (.iload_n 1, 1) := by decide +kernel
theorem dX8_served_90 : decode cX8_served 90 = .ok (.iload 4, 2) := by decide +kernel
theorem dX8_served_92 : decode cX8_served 92 = .ok (.invokevirtual 257, 3) := by decide +kernel
theorem dX8_served_95 : decode cX8_served 95 = .ok (.aload_n 0, 1) := by decide +kernel
theorem dX8_served_96 : decode cX8_served 96 = .ok (.getfield 44, 3) := by decide +kernel
theorem dX8_served_99 : decode cX8_served 99 = .ok (.aload_n 0, 1) := by decide +kernel
theorem dX8_served_100 : decode cX8_served 100 = .ok (.getfield 10, 3) := by decide +kernel
theorem dX8_served_103 : decode cX8_served 103 = .ok (.getfield 132, 3) := by decide +kernel
theorem dX8_served_106 : decode cX8_served 106 = .ok (.iload 4, 2) := by decide +kernel
theorem dX8_served_108 : decode cX8_served 108 = .ok (.iaload, 1) := by decide +kernel
theorem dX8_served_109 : decode cX8_served 109 = .ok (.iload 4, 2) := by decide +kernel
theorem dX8_served_111 : decode cX8_served 111 = .ok (.iload 4, 2) := by decide +kernel
theorem dX8_served_113 : decode cX8_served 113 = .ok (.invokevirtual 135, 3) := by decide +kernel
theorem dX8_served_116 : decode cX8_served 116 = .ok (.i2l, 1) := by decide +kernel
theorem dX8_served_117 : decode cX8_served 117 = .ok (.lcmp, 1) := by decide +kernel
theorem dX8_served_118 : decode cX8_served 118 = .ok (.ifCond .eq 6, 3) := by decide +kernel
theorem dX8_served_121 : decode cX8_served 121 = .ok (.iload 4, 2) := by decide +kernel
theorem dX8_served_123 : decode cX8_served 123 = .ok (.ireturn, 1) := by decide +kernel
theorem dX8_served_124 : decode cX8_served 124 = .ok (.iinc 4 1, 3) := by decide +kernel
theorem dX8_served_127 : decode cX8_served 127 = .ok (.goto (-45), 3) := by decide +kernel
theorem dX8_served_130 : decode cX8_served 130 = .ok (.iconst (-1), 1) := by decide +kernel
theorem dX8_served_131 : decode cX8_served 131 = .ok (.ireturn, 1) := by decide +kernel
theorem dX8_film_0 : decode cX8_film 0 = .ok (.aload_n 0, 1) := by decide +kernel
theorem dX8_film_1 : decode cX8_film 1 = .ok (.getfield 60, 3) := by decide +kernel
theorem dX8_film_4 : decode cX8_film 4 = .ok (.iload_n 1, 1) := by decide +kernel
theorem dX8_film_5 : decode cX8_film 5 = .ok (.invokevirtual 230, 3) := by decide +kernel
theorem dX8_film_8 : decode cX8_film 8 = .ok (.ifCond .eq 18, 3) := by decide +kernel
theorem dX8_film_11 : decode cX8_film 11 = .ok (.iload_n 2, 1) := by decide +kernel
theorem dX8_film_12 : decode cX8_film 12 = .ok (.ifCond .lt 14, 3) := by decide +kernel
theorem dX8_film_15 : decode cX8_film 15 = .ok (.iload_n 2, 1) := by decide +kernel
theorem dX8_film_16 : decode cX8_film 16 = .ok (.aload_n 0, 1) := by decide +kernel
theorem dX8_film_17 : decode cX8_film 17 = .ok (.getfield 10, 3) := by decide +kernel
theorem dX8_film_20 : decode cX8_film 20 = .ok (.getfield 142, 3) := by decide +kernel
theorem dX8_film_23 : decode cX8_film 23 = .ok (.if_icmp .le 6, 3) := by decide +kernel
theorem dX8_film_26 : decode cX8_film 26 = .ok (.bipush (-2), 2) := by decide +kernel
theorem dX8_film_28 : decode cX8_film 28 = .ok (.ireturn, 1) := by decide +kernel
theorem dX8_film_29 : decode cX8_film 29 = .ok (.aload_n 0, 1) := by decide +kernel
theorem dX8_film_30 : decode cX8_film 30 = .ok (.getfield 60, 3) := by decide +kernel
theorem dX8_film_33 : decode cX8_film 33 = .ok (.iload_n 1, 1) := by decide +kernel
theorem dX8_film_34 : decode cX8_film 34 = .ok (.iconst 2, 1) := by decide +kernel
theorem dX8_film_35 : decode cX8_film 35 = .ok (.iload_n 2, 1) := by decide +kernel
theorem dX8_film_36 : decode cX8_film 36 = .ok (.invokevirtual 265, 3) := by decide +kernel
theorem dX8_film_39 : decode cX8_film 39 = .ok (.iconst 0, 1) := by decide +kernel
theorem dX8_film_40 : decode cX8_film 40 = .ok (.istore_n 3, 1) := by decide +kernel
theorem dX8_film_41 : decode cX8_film 41 = .ok (.iconst 0, 1) := by decide +kernel
theorem dX8_film_42 : decode cX8_film 42 = .ok (.istore 4, 2) := by decide +kernel
theorem dX8_film_44 : decode cX8_film 44 = .ok (.iload 4, 2) := by decide +kernel
theorem dX8_film_46 : decode cX8_film 46 = .ok (.iload_n 2, 1) := by decide +kernel
theorem dX8_film_47 : decode cX8_film 47 = .ok (.if_icmp .ge 45, 3) := by decide +kernel
theorem dX8_film_50 : decode cX8_film 50 = .ok (.iload_n 3, 1) := by decide +kernel
theorem dX8_film_51 : decode cX8_film 51 = .ok (.aload_n 0, 1) := by decide +kernel
theorem dX8_film_52 : decode cX8_film 52 = .ok (.getfield 44, 3) := by decide +kernel
theorem dX8_film_55 : decode cX8_film 55 = .ok (.aload_n 0, 1) := by decide +kernel
theorem dX8_film_56 : decode cX8_film 56 = .ok (.getfield 10, 3) := by decide +kernel
theorem dX8_film_59 : decode cX8_film 59 = .ok (.getfield 132, 3) := by decide +kernel
theorem dX8_film_62 : decode cX8_film 62 = .ok (.iload 4, 2) := by decide +kernel
theorem dX8_film_64 : decode cX8_film 64 = .ok (.iaload, 1) := by decide +kernel
theorem dX8_film_65 : decode cX8_film 65 = .ok (.iload 4, 2) := by decide +kernel
theorem dX8_film_67 : decode cX8_film 67 = .ok (.iload 4, 2) := by decide +kernel
theorem dX8_film_69 : decode cX8_film 69 = .ok (.invokevirtual 135, 3) := by decide +kernel
theorem dX8_film_72 : decode cX8_film 72 = .ok (.iadd, 1) := by decide +kernel
theorem dX8_film_73 : decode cX8_film 73 = .ok (.istore_n 3, 1) := by decide +kernel
theorem dX8_film_74 : decode cX8_film 74 = .ok (.aload_n 0, 1) := by decide +kernel
theorem dX8_film_75 : decode cX8_film 75 = .ok (.getfield 60, 3) := by decide +kernel
theorem dX8_film_78 : decode cX8_film 78 = .ok (.iload_n 1, 1) := by decide +kernel
theorem dX8_film_79 : decode cX8_film 79 = .ok (.iload 4, 2) := by decide +kernel
theorem dX8_film_81 : decode cX8_film 81 = .ok (.iload_n 3, 1) := by decide +kernel
theorem dX8_film_82 : decode cX8_film 82 = .ok (.invokevirtual 268, 3) := by decide +kernel
theorem dX8_film_85 : decode cX8_film 85 = .ok (.pop, 1) := by decide +kernel
theorem dX8_film_86 : decode cX8_film 86 = .ok (.iinc 4 1, 3) := by decide +kernel
theorem dX8_film_89 : decode cX8_film 89 = .ok (.goto (-45), 3) := by decide +kernel
theorem dX8_film_92 : decode cX8_film 92 = .ok (.iload_n 2, 1) := by decide +kernel
theorem dX8_film_93 : decode cX8_film 93 = .ok (.ireturn, 1) := by decide +kernel
theorem dX8_drawn_0 : decode cX8_drawn 0 = .ok (.aload_n 0, 1) := by decide +kernel
theorem dX8_drawn_1 : decode cX8_drawn 1 = .ok (.getfield 53, 3) := by decide +kernel
theorem dX8_drawn_4 : decode cX8_drawn 4 = .ok (.aload_n 0, 1) := by decide +kernel
theorem dX8_drawn_5 : decode cX8_drawn 5 = .ok (.getfield 19, 3) := by decide +kernel
theorem dX8_drawn_8 : decode cX8_drawn 8 = .ok (.invokevirtual 187, 3) := by decide +kernel
theorem dX8_drawn_11 : decode cX8_drawn 11 = .ok (.invokevirtual 190, 3) := by decide +kernel
theorem dX8_drawn_14 : decode cX8_drawn 14 = .ok (.aload_n 0, 1) := by decide +kernel
theorem dX8_drawn_15 : decode cX8_drawn 15 = .ok (.getfield 53, 3) := by decide +kernel
theorem dX8_drawn_18 : decode cX8_drawn 18 = .ok (.aload_n 0, 1) := by decide +kernel
theorem dX8_drawn_19 : decode cX8_drawn 19 = .ok (.getfield 19, 3) := by decide +kernel
theorem dX8_drawn_22 : decode cX8_drawn 22 = .ok (.iload_n 1, 1) := by decide +kernel
theorem dX8_drawn_23 : decode cX8_drawn 23 = .ok (.invokevirtual 272, 3) := by decide +kernel
theorem dX8_drawn_26 : decode cX8_drawn 26 = .ok (.invokevirtual 220, 3) := by decide +kernel
theorem dX8_drawn_29 : decode cX8_drawn 29 = .ok (.ireturn, 1) := by decide +kernel
theorem dX8_commonDivisor_0 : decode cX8_commonDivisor 0 = .ok (.iload_n 0, 1) := by decide +kernel
theorem dX8_commonDivisor_1 : decode cX8_commonDivisor 1 = .ok (.istore_n 2, 1) := by decide +kernel
theorem dX8_commonDivisor_2 : decode cX8_commonDivisor 2 = .ok (.iload_n 1, 1) := by decide +kernel
theorem dX8_commonDivisor_3 : decode cX8_commonDivisor 3 = .ok (.istore_n 3, 1) := by decide +kernel
theorem dX8_commonDivisor_4 : decode cX8_commonDivisor 4 = .ok (.iconst 0, 1) := by decide +kernel
theorem dX8_commonDivisor_5 : decode cX8_commonDivisor 5 = .ok (.istore 4, 2) := by decide +kernel
theorem dX8_commonDivisor_7 : decode cX8_commonDivisor 7 = .ok (.iload 4, 2) := by decide +kernel
theorem dX8_commonDivisor_9 : decode cX8_commonDivisor 9 = .ok (.bipush 20, 2) := by decide +kernel
theorem dX8_commonDivisor_11 : decode cX8_commonDivisor 11 = .ok (.if_icmp .ge 23, 3) := by decide +kernel
theorem dX8_commonDivisor_14 : decode cX8_commonDivisor 14 = .ok (.iload_n 2, 1) := by decide +kernel
theorem dX8_commonDivisor_15 : decode cX8_commonDivisor 15 = .ok (.ifCond .le 19, 3) := by decide +kernel
theorem dX8_commonDivisor_18 : decode cX8_commonDivisor 18 = .ok (.iload_n 3, 1) := by decide +kernel
theorem dX8_commonDivisor_19 : decode cX8_commonDivisor 19 = .ok (.iload_n 2, 1) := by decide +kernel
theorem dX8_commonDivisor_20 : decode cX8_commonDivisor 20 = .ok (.irem, 1) := by decide +kernel
theorem dX8_commonDivisor_21 : decode cX8_commonDivisor 21 = .ok (.istore 5, 2) := by decide +kernel
theorem dX8_commonDivisor_23 : decode cX8_commonDivisor 23 = .ok (.iload_n 2, 1) := by decide +kernel
theorem dX8_commonDivisor_24 : decode cX8_commonDivisor 24 = .ok (.istore_n 3, 1) := by decide +kernel
theorem dX8_commonDivisor_25 : decode cX8_commonDivisor 25 = .ok (.iload 5, 2) := by decide +kernel
theorem dX8_commonDivisor_27 : decode cX8_commonDivisor 27 = .ok (.istore_n 2, 1) := by decide +kernel
theorem dX8_commonDivisor_28 : decode cX8_commonDivisor 28 = .ok (.iinc 4 1, 3) := by decide +kernel
theorem dX8_commonDivisor_31 : decode cX8_commonDivisor 31 = .ok (.goto (-24), 3) := by decide +kernel
theorem dX8_commonDivisor_34 : decode cX8_commonDivisor 34 = .ok (.iconst 1, 1) := by decide +kernel
theorem dX8_commonDivisor_35 : decode cX8_commonDivisor 35 = .ok (.iload_n 3, 1) := by decide +kernel
theorem dX8_commonDivisor_36 : decode cX8_commonDivisor 36 = .ok (.invokestatic 315, 3) := by decide +kernel
theorem dX8_commonDivisor_39 : decode cX8_commonDivisor 39 = .ok (.ireturn, 1) := by decide +kernel
theorem dX8_chance_0 : decode cX8_chance 0 = .ok (.iload_n 2, 1) := by decide +kernel
theorem dX8_chance_1 : decode cX8_chance 1 = .ok (.iconst 1, 1) := by decide +kernel
theorem dX8_chance_2 : decode cX8_chance 2 = .ok (.if_icmp .lt 18, 3) := by decide +kernel
theorem dX8_chance_5 : decode cX8_chance 5 = .ok (.iload_n 2, 1) := by decide +kernel
theorem dX8_chance_6 : decode cX8_chance 6 = .ok (.bipush 20, 2) := by decide +kernel
theorem dX8_chance_8 : decode cX8_chance 8 = .ok (.if_icmp .gt 12, 3) := by decide +kernel
theorem dX8_chance_11 : decode cX8_chance 11 = .ok (.iload_n 3, 1) := by decide +kernel
theorem dX8_chance_12 : decode cX8_chance 12 = .ok (.ifCond .lt 8, 3) := by decide +kernel
theorem dX8_chance_15 : decode cX8_chance 15 = .ok (.iload_n 3, 1) := by decide +kernel
theorem dX8_chance_16 : decode cX8_chance 16 = .ok (.iconst 1, 1) := by decide +kernel
theorem dX8_chance_17 : decode cX8_chance 17 = .ok (.if_icmp .le 7, 3) := by decide +kernel
theorem dX8_chance_20 : decode cX8_chance 20 = .ok (.ldc2_w 226, 3) := by decide +kernel
theorem dX8_chance_23 : decode cX8_chance 23 = .ok (.lreturn, 1) := by decide +kernel
theorem dX8_chance_24 : decode cX8_chance 24 = .ok (.aload_n 0, 1) := by decide +kernel
theorem dX8_chance_25 : decode cX8_chance 25 = .ok (.getfield 53, 3) := by decide +kernel
theorem dX8_chance_28 : decode cX8_chance 28 = .ok (.aload_n 0, 1) := by decide +kernel
theorem dX8_chance_29 : decode cX8_chance 29 = .ok (.getfield 19, 3) := by decide +kernel
theorem dX8_chance_32 : decode cX8_chance 32 = .ok (.invokevirtual 187, 3) := by decide +kernel
theorem dX8_chance_35 : decode cX8_chance 35 = .ok (.invokevirtual 190, 3) := by decide +kernel
theorem dX8_chance_38 : decode cX8_chance 38 = .ok (.iconst 0, 1) := by decide +kernel
theorem dX8_chance_39 : decode cX8_chance 39 = .ok (.istore 4, 2) := by decide +kernel
theorem dX8_chance_41 : decode cX8_chance 41 = .ok (.iconst 0, 1) := by decide +kernel
theorem dX8_chance_42 : decode cX8_chance 42 = .ok (.istore 5, 2) := by decide +kernel
theorem dX8_chance_44 : decode cX8_chance 44 = .ok (.iload 5, 2) := by decide +kernel
theorem dX8_chance_46 : decode cX8_chance 46 = .ok (.iload_n 2, 1) := by decide +kernel
theorem dX8_chance_47 : decode cX8_chance 47 = .ok (.if_icmp .ge 52, 3) := by decide +kernel
theorem dX8_chance_50 : decode cX8_chance 50 = .ok (.aload_n 0, 1) := by decide +kernel
theorem dX8_chance_51 : decode cX8_chance 51 = .ok (.getfield 53, 3) := by decide +kernel
theorem dX8_chance_54 : decode cX8_chance 54 = .ok (.aload_n 0, 1) := by decide +kernel
theorem dX8_chance_55 : decode cX8_chance 55 = .ok (.getfield 19, 3) := by decide +kernel
theorem dX8_chance_58 : decode cX8_chance 58 = .ok (.iload_n 1, 1) := by decide +kernel
theorem dX8_chance_59 : decode cX8_chance 59 = .ok (.iload 5, 2) := by decide +kernel
theorem dX8_chance_61 : decode cX8_chance 61 = .ok (.iadd, 1) := by decide +kernel
theorem dX8_chance_62 : decode cX8_chance 62 = .ok (.invokevirtual 272, 3) := by decide +kernel
theorem dX8_chance_65 : decode cX8_chance 65 = .ok (.invokevirtual 194, 3) := by decide +kernel
theorem dX8_chance_68 : decode cX8_chance 68 = .ok (.istore 6, 2) := by decide +kernel
theorem dX8_chance_70 : decode cX8_chance 70 = .ok (.aload_n 0, 1) := by decide +kernel
theorem dX8_chance_71 : decode cX8_chance 71 = .ok (.getfield 53, 3) := by decide +kernel
theorem dX8_chance_74 : decode cX8_chance 74 = .ok (.aload_n 0, 1) := by decide +kernel
theorem dX8_chance_75 : decode cX8_chance 75 = .ok (.getfield 53, 3) := by decide +kernel
theorem dX8_chance_78 : decode cX8_chance 78 = .ok (.getfield 200, 3) := by decide +kernel
theorem dX8_chance_81 : decode cX8_chance 81 = .ok (.iload 6, 2) := by decide +kernel
theorem dX8_chance_83 : decode cX8_chance 83 = .ok (.iaload, 1) := by decide +kernel
theorem dX8_chance_84 : decode cX8_chance 84 = .ok (.invokevirtual 172, 3) := by decide +kernel
theorem dX8_chance_87 : decode cX8_chance 87 = .ok (.ifCond .ne 6, 3) := by decide +kernel
theorem dX8_chance_90 : decode cX8_chance 90 = .ok (.iinc 4 1, 3) := by decide +kernel
theorem dX8_chance_93 : decode cX8_chance 93 = .ok (.iinc 5 1, 3) := by decide +kernel
theorem dX8_chance_96 : decode cX8_chance 96 = .ok (.goto (-52), 3) := by decide +kernel
theorem dX8_chance_99 : decode cX8_chance 99 = .ok (.iload_n 3, 1) := by decide +kernel
theorem dX8_chance_100 : decode cX8_chance 100 = .ok (.ifCond .ne 8, 3) := by decide +kernel
theorem dX8_chance_103 : decode cX8_chance 103 = .ok (.iload 4, 2) := by decide +kernel
theorem dX8_chance_105 : decode cX8_chance 105 = .ok (.goto 4, 3) := by decide +kernel
theorem dX8_chance_108 : decode cX8_chance 108 = .ok (.iload_n 2, 1) := by decide +kernel
theorem dX8_chance_109 : decode cX8_chance 109 = .ok (.iload 4, 2) := by decide +kernel
theorem dX8_chance_111 : decode cX8_chance 111 = .ok (.iload_n 2, 1) := by decide +kernel
theorem dX8_chance_112 : decode cX8_chance 112 = .ok (.invokestatic 275, 3) := by decide +kernel
theorem dX8_chance_115 : decode cX8_chance 115 = .ok (.idiv, 1) := by decide +kernel
theorem dX8_chance_116 : decode cX8_chance 116 = .ok (.i2l, 1) := by decide +kernel
theorem dX8_chance_117 : decode cX8_chance 117 = .ok (.lreturn, 1) := by decide +kernel
theorem dX8_image_0 : decode cX8_image 0 = .ok (.aload_n 0, 1) := by decide +kernel
theorem dX8_image_1 : decode cX8_image 1 = .ok (.getfield 67, 3) := by decide +kernel
theorem dX8_image_4 : decode cX8_image 4 = .ok (.aload_n 0, 1) := by decide +kernel
theorem dX8_image_5 : decode cX8_image 5 = .ok (.getfield 10, 3) := by decide +kernel
theorem dX8_image_8 : decode cX8_image 8 = .ok (.aload_n 0, 1) := by decide +kernel
theorem dX8_image_9 : decode cX8_image 9 = .ok (.getfield 19, 3) := by decide +kernel
theorem dX8_image_12 : decode cX8_image 12 = .ok (.aload_n 0, 1) := by decide +kernel
theorem dX8_image_13 : decode cX8_image 13 = .ok (.getfield 35, 3) := by decide +kernel
theorem dX8_image_16 : decode cX8_image 16 = .ok (.invokevirtual 278, 3) := by decide +kernel
theorem dX8_image_19 : decode cX8_image 19 = .ok (.aload_n 0, 1) := by decide +kernel
theorem dX8_image_20 : decode cX8_image 20 = .ok (.getfield 10, 3) := by decide +kernel
theorem dX8_image_23 : decode cX8_image 23 = .ok (.getfield 142, 3) := by decide +kernel
theorem dX8_image_26 : decode cX8_image 26 = .ok (.ireturn, 1) := by decide +kernel
theorem dX8_back_0 : decode cX8_back 0 = .ok (.aload_n 0, 1) := by decide +kernel
theorem dX8_back_1 : decode cX8_back 1 = .ok (.getfield 67, 3) := by decide +kernel
theorem dX8_back_4 : decode cX8_back 4 = .ok (.getfield 282, 3) := by decide +kernel
theorem dX8_back_7 : decode cX8_back 7 = .ok (.ifCond .eq 20, 3) := by decide +kernel
theorem dX8_back_10 : decode cX8_back 10 = .ok (.aload_n 0, 1) := by decide +kernel
theorem dX8_back_11 : decode cX8_back 11 = .ok (.getfield 67, 3) := by decide +kernel
theorem dX8_back_14 : decode cX8_back 14 = .ok (.getfield 286, 3) := by decide +kernel
theorem dX8_back_17 : decode cX8_back 17 = .ok (.aload_n 0, 1) := by decide +kernel
theorem dX8_back_18 : decode cX8_back 18 = .ok (.getfield 10, 3) := by decide +kernel
theorem dX8_back_21 : decode cX8_back 21 = .ok (.getfield 289, 3) := by decide +kernel
theorem dX8_back_24 : decode cX8_back 24 = .ok (.if_icmp .eq 6, 3) := by decide +kernel
theorem dX8_back_27 : decode cX8_back 27 = .ok (.bipush (-3), 2) := by decide +kernel
theorem dX8_back_29 : decode cX8_back 29 = .ok (.ireturn, 1) := by decide +kernel
theorem dX8_back_30 : decode cX8_back 30 = .ok (.aload_n 0, 1) := by decide +kernel
theorem dX8_back_31 : decode cX8_back 31 = .ok (.getfield 67, 3) := by decide +kernel
theorem dX8_back_34 : decode cX8_back 34 = .ok (.aload_n 0, 1) := by decide +kernel
theorem dX8_back_35 : decode cX8_back 35 = .ok (.getfield 10, 3) := by decide +kernel
theorem dX8_back_38 : decode cX8_back 38 = .ok (.aload_n 0, 1) := by decide +kernel
theorem dX8_back_39 : decode cX8_back 39 = .ok (.getfield 19, 3) := by decide +kernel
theorem dX8_back_42 : decode cX8_back 42 = .ok (.aload_n 0, 1) := by decide +kernel
theorem dX8_back_43 : decode cX8_back 43 = .ok (.getfield 35, 3) := by decide +kernel
theorem dX8_back_46 : decode cX8_back 46 = .ok (.invokevirtual 290, 3) := by decide +kernel
theorem dX8_back_49 : decode cX8_back 49 = .ok (.aload_n 0, 1) := by decide +kernel
theorem dX8_back_50 : decode cX8_back 50 = .ok (.getfield 10, 3) := by decide +kernel
theorem dX8_back_53 : decode cX8_back 53 = .ok (.getfield 142, 3) := by decide +kernel
theorem dX8_back_56 : decode cX8_back 56 = .ok (.ireturn, 1) := by decide +kernel
theorem dX8_count_0 : decode cX8_count 0 = .ok (.iload_n 1, 1) := by decide +kernel
theorem dX8_count_1 : decode cX8_count 1 = .ok (.tableswitch 99 0 6 #[43, 51, 59, 67, 75, 83, 91], 43) := by decide +kernel
theorem dX8_count_44 : decode cX8_count 44 = .ok (.aload_n 0, 1) := by decide +kernel
theorem dX8_count_45 : decode cX8_count 45 = .ok (.getfield 10, 3) := by decide +kernel
theorem dX8_count_48 : decode cX8_count 48 = .ok (.getfield 142, 3) := by decide +kernel
theorem dX8_count_51 : decode cX8_count 51 = .ok (.ireturn, 1) := by decide +kernel
theorem dX8_count_52 : decode cX8_count 52 = .ok (.aload_n 0, 1) := by decide +kernel
theorem dX8_count_53 : decode cX8_count 53 = .ok (.getfield 19, 3) := by decide +kernel
theorem dX8_count_56 : decode cX8_count 56 = .ok (.getfield 293, 3) := by decide +kernel
theorem dX8_count_59 : decode cX8_count 59 = .ok (.ireturn, 1) := by decide +kernel
theorem dX8_count_60 : decode cX8_count 60 = .ok (.aload_n 0, 1) := by decide +kernel
theorem dX8_count_61 : decode cX8_count 61 = .ok (.getfield 10, 3) := by decide +kernel
theorem dX8_count_64 : decode cX8_count 64 = .ok (.getfield 223, 3) := by decide +kernel
theorem dX8_count_67 : decode cX8_count 67 = .ok (.ireturn, 1) := by decide +kernel
theorem dX8_count_68 : decode cX8_count 68 = .ok (.aload_n 0, 1) := by decide +kernel
theorem dX8_count_69 : decode cX8_count 69 = .ok (.getfield 35, 3) := by decide +kernel
theorem dX8_count_72 : decode cX8_count 72 = .ok (.getfield 152, 3) := by decide +kernel
theorem dX8_count_75 : decode cX8_count 75 = .ok (.ireturn, 1) := by decide +kernel
theorem dX8_count_76 : decode cX8_count 76 = .ok (.aload_n 0, 1) := by decide +kernel
theorem dX8_count_77 : decode cX8_count 77 = .ok (.getfield 26, 3) := by decide +kernel
theorem dX8_count_80 : decode cX8_count 80 = .ok (.getfield 149, 3) := by decide +kernel
theorem dX8_count_83 : decode cX8_count 83 = .ok (.ireturn, 1) := by decide +kernel
theorem dX8_count_84 : decode cX8_count 84 = .ok (.aload_n 0, 1) := by decide +kernel
theorem dX8_count_85 : decode cX8_count 85 = .ok (.getfield 35, 3) := by decide +kernel
theorem dX8_count_88 : decode cX8_count 88 = .ok (.getfield 156, 3) := by decide +kernel
theorem dX8_count_91 : decode cX8_count 91 = .ok (.ireturn, 1) := by decide +kernel
theorem dX8_count_92 : decode cX8_count 92 = .ok (.aload_n 0, 1) := by decide +kernel
theorem dX8_count_93 : decode cX8_count 93 = .ok (.getfield 10, 3) := by decide +kernel
theorem dX8_count_96 : decode cX8_count 96 = .ok (.getfield 289, 3) := by decide +kernel
theorem dX8_count_99 : decode cX8_count 99 = .ok (.ireturn, 1) := by decide +kernel
theorem dX8_count_100 : decode cX8_count 100 = .ok (.bipush (-2), 2) := by decide +kernel
theorem dX8_count_102 : decode cX8_count 102 = .ok (.ireturn, 1) := by decide +kernel
theorem dX8_sheet_0 : decode cX8_sheet 0 = .ok (.aload_n 0, 1) := by decide +kernel
theorem dX8_sheet_1 : decode cX8_sheet 1 = .ok (.getfield 60, 3) := by decide +kernel
theorem dX8_sheet_4 : decode cX8_sheet 4 = .ok (.iload_n 1, 1) := by decide +kernel
theorem dX8_sheet_5 : decode cX8_sheet 5 = .ok (.invokevirtual 230, 3) := by decide +kernel
theorem dX8_sheet_8 : decode cX8_sheet 8 = .ok (.ifCond .eq 13, 3) := by decide +kernel
theorem dX8_sheet_11 : decode cX8_sheet 11 = .ok (.iload_n 2, 1) := by decide +kernel
theorem dX8_sheet_12 : decode cX8_sheet 12 = .ok (.iconst (-1), 1) := by decide +kernel
theorem dX8_sheet_13 : decode cX8_sheet 13 = .ok (.if_icmp .lt 8, 3) := by decide +kernel
theorem dX8_sheet_16 : decode cX8_sheet 16 = .ok (.iload_n 2, 1) := by decide +kernel
theorem dX8_sheet_17 : decode cX8_sheet 17 = .ok (.iconst 2, 1) := by decide +kernel
theorem dX8_sheet_18 : decode cX8_sheet 18 = .ok (.if_icmp .le 6, 3) := by decide +kernel
theorem dX8_sheet_21 : decode cX8_sheet 21 = .ok (.bipush (-2), 2) := by decide +kernel
theorem dX8_sheet_23 : decode cX8_sheet 23 = .ok (.ireturn, 1) := by decide +kernel
theorem dX8_sheet_24 : decode cX8_sheet 24 = .ok (.iload_n 2, 1) := by decide +kernel
theorem dX8_sheet_25 : decode cX8_sheet 25 = .ok (.iconst (-1), 1) := by decide +kernel
theorem dX8_sheet_26 : decode cX8_sheet 26 = .ok (.if_icmp .ne 15, 3) := by decide +kernel
theorem dX8_sheet_29 : decode cX8_sheet 29 = .ok (.aload_n 0, 1) := by decide +kernel
theorem dX8_sheet_30 : decode cX8_sheet 30 = .ok (.getfield 60, 3) := by decide +kernel
theorem dX8_sheet_33 : decode cX8_sheet 33 = .ok (.iload_n 1, 1) := by decide +kernel
theorem dX8_sheet_34 : decode cX8_sheet 34 = .ok (.iconst (-1), 1) := by decide +kernel
theorem dX8_sheet_35 : decode cX8_sheet 35 = .ok (.iconst 0, 1) := by decide +kernel
theorem dX8_sheet_36 : decode cX8_sheet 36 = .ok (.invokevirtual 265, 3) := by decide +kernel
theorem dX8_sheet_39 : decode cX8_sheet 39 = .ok (.iconst 1, 1) := by decide +kernel
theorem dX8_sheet_40 : decode cX8_sheet 40 = .ok (.ireturn, 1) := by decide +kernel
theorem dX8_sheet_41 : decode cX8_sheet 41 = .ok (.iload_n 3, 1) := by decide +kernel
theorem dX8_sheet_42 : decode cX8_sheet 42 = .ok (.bipush 40, 2) := by decide +kernel
theorem dX8_sheet_44 : decode cX8_sheet 44 = .ok (.if_icmp .le 6, 3) := by decide +kernel
theorem dX8_sheet_47 : decode cX8_sheet 47 = .ok (.bipush (-2), 2) := by decide +kernel
theorem dX8_sheet_49 : decode cX8_sheet 49 = .ok (.ireturn, 1) := by decide +kernel
theorem dX8_sheet_50 : decode cX8_sheet 50 = .ok (.iload_n 3, 1) := by decide +kernel
theorem dX8_sheet_51 : decode cX8_sheet 51 = .ok (.ifCond .ge 6, 3) := by decide +kernel
theorem dX8_sheet_54 : decode cX8_sheet 54 = .ok (.bipush (-14), 2) := by decide +kernel
theorem dX8_sheet_56 : decode cX8_sheet 56 = .ok (.ireturn, 1) := by decide +kernel
theorem dX8_sheet_57 : decode cX8_sheet 57 = .ok (.aload_n 0, 1) := by decide +kernel
theorem dX8_sheet_58 : decode cX8_sheet 58 = .ok (.getfield 60, 3) := by decide +kernel
theorem dX8_sheet_61 : decode cX8_sheet 61 = .ok (.iload_n 1, 1) := by decide +kernel
theorem dX8_sheet_62 : decode cX8_sheet 62 = .ok (.iload_n 2, 1) := by decide +kernel
theorem dX8_sheet_63 : decode cX8_sheet 63 = .ok (.iload_n 3, 1) := by decide +kernel
theorem dX8_sheet_64 : decode cX8_sheet 64 = .ok (.invokevirtual 265, 3) := by decide +kernel
theorem dX8_sheet_67 : decode cX8_sheet 67 = .ok (.iconst 1, 1) := by decide +kernel
theorem dX8_sheet_68 : decode cX8_sheet 68 = .ok (.ireturn, 1) := by decide +kernel
theorem dX8_cell_0 : decode cX8_cell 0 = .ok (.aload_n 0, 1) := by decide +kernel
theorem dX8_cell_1 : decode cX8_cell 1 = .ok (.getfield 60, 3) := by decide +kernel
theorem dX8_cell_4 : decode cX8_cell 4 = .ok (.iload_n 1, 1) := by decide +kernel
theorem dX8_cell_5 : decode cX8_cell 5 = .ok (.invokevirtual 230, 3) := by decide +kernel
theorem dX8_cell_8 : decode cX8_cell 8 = .ok (.ifCond .ne 6, 3) := by decide +kernel
theorem dX8_cell_11 : decode cX8_cell 11 = .ok (.bipush (-2), 2) := by decide +kernel
theorem dX8_cell_13 : decode cX8_cell 13 = .ok (.ireturn, 1) := by decide +kernel
theorem dX8_cell_14 : decode cX8_cell 14 = .ok (.aload_n 0, 1) := by decide +kernel
theorem dX8_cell_15 : decode cX8_cell 15 = .ok (.getfield 60, 3) := by decide +kernel
theorem dX8_cell_18 : decode cX8_cell 18 = .ok (.iload_n 1, 1) := by decide +kernel
theorem dX8_cell_19 : decode cX8_cell 19 = .ok (.invokevirtual 231, 3) := by decide +kernel
theorem dX8_cell_22 : decode cX8_cell 22 = .ok (.ifCond .eq 6, 3) := by decide +kernel
theorem dX8_cell_25 : decode cX8_cell 25 = .ok (.bipush (-11), 2) := by decide +kernel
theorem dX8_cell_27 : decode cX8_cell 27 = .ok (.ireturn, 1) := by decide +kernel
theorem dX8_cell_28 : decode cX8_cell 28 = .ok (.aload_n 0, 1) := by decide +kernel
theorem dX8_cell_29 : decode cX8_cell 29 = .ok (.getfield 60, 3) := by decide +kernel
theorem dX8_cell_32 : decode cX8_cell 32 = .ok (.iload_n 1, 1) := by decide +kernel
theorem dX8_cell_33 : decode cX8_cell 33 = .ok (.iload_n 2, 1) := by decide +kernel
theorem dX8_cell_34 : decode cX8_cell 34 = .ok (.iload_n 3, 1) := by decide +kernel
theorem dX8_cell_35 : decode cX8_cell 35 = .ok (.invokevirtual 268, 3) := by decide +kernel
theorem dX8_cell_38 : decode cX8_cell 38 = .ok (.ifCond .eq 7, 3) := by decide +kernel
theorem dX8_cell_41 : decode cX8_cell 41 = .ok (.iconst 1, 1) := by decide +kernel
theorem dX8_cell_42 : decode cX8_cell 42 = .ok (.goto 5, 3) := by decide +kernel
theorem dX8_cell_45 : decode cX8_cell 45 = .ok (.bipush (-12), 2) := by decide +kernel
theorem dX8_cell_47 : decode cX8_cell 47 = .ok (.ireturn, 1) := by decide +kernel
theorem dX8_copy_0 : decode cX8_copy 0 = .ok (.aload_n 0, 1) := by decide +kernel
theorem dX8_copy_1 : decode cX8_copy 1 = .ok (.getfield 60, 3) := by decide +kernel
theorem dX8_copy_4 : decode cX8_copy 4 = .ok (.iload_n 1, 1) := by decide +kernel
theorem dX8_copy_5 : decode cX8_copy 5 = .ok (.invokevirtual 230, 3) := by decide +kernel
theorem dX8_copy_8 : decode cX8_copy 8 = .ok (.ifCond .eq 14, 3) := by decide +kernel
theorem dX8_copy_11 : decode cX8_copy 11 = .ok (.aload_n 0, 1) := by decide +kernel
theorem dX8_copy_12 : decode cX8_copy 12 = .ok (.getfield 60, 3) := by decide +kernel
theorem dX8_copy_15 : decode cX8_copy 15 = .ok (.iload_n 3, 1) := by decide +kernel
theorem dX8_copy_16 : decode cX8_copy 16 = .ok (.invokevirtual 230, 3) := by decide +kernel
theorem dX8_copy_19 : decode cX8_copy 19 = .ok (.ifCond .ne 6, 3) := by decide +kernel
theorem dX8_copy_22 : decode cX8_copy 22 = .ok (.bipush (-2), 2) := by decide +kernel
theorem dX8_copy_24 : decode cX8_copy 24 = .ok (.ireturn, 1) := by decide +kernel
theorem dX8_copy_25 : decode cX8_copy 25 = .ok (.aload_n 0, 1) := by decide +kernel
theorem dX8_copy_26 : decode cX8_copy 26 = .ok (.getfield 60, 3) := by decide +kernel
theorem dX8_copy_29 : decode cX8_copy 29 = .ok (.iload_n 1, 1) := by decide +kernel
theorem dX8_copy_30 : decode cX8_copy 30 = .ok (.invokevirtual 231, 3) := by decide +kernel
theorem dX8_copy_33 : decode cX8_copy 33 = .ok (.ifCond .ne 14, 3) := by decide +kernel
theorem dX8_copy_36 : decode cX8_copy 36 = .ok (.aload_n 0, 1) := by decide +kernel
theorem dX8_copy_37 : decode cX8_copy 37 = .ok (.getfield 60, 3) := by decide +kernel
theorem dX8_copy_40 : decode cX8_copy 40 = .ok (.iload_n 3, 1) := by decide +kernel
theorem dX8_copy_41 : decode cX8_copy 41 = .ok (.invokevirtual 231, 3) := by decide +kernel
theorem dX8_copy_44 : decode cX8_copy 44 = .ok (.ifCond .eq 6, 3) := by decide +kernel
theorem dX8_copy_47 : decode cX8_copy 47 = .ok (.bipush (-11), 2) := by decide +kernel
theorem dX8_copy_49 : decode cX8_copy 49 = .ok (.ireturn, 1) := by decide +kernel
theorem dX8_copy_50 : decode cX8_copy 50 = .ok (.aload_n 0, 1) := by decide +kernel
theorem dX8_copy_51 : decode cX8_copy 51 = .ok (.getfield 60, 3) := by decide +kernel
theorem dX8_copy_54 : decode cX8_copy 54 = .ok (.getfield 294, 3) := by decide +kernel
theorem dX8_copy_57 : decode cX8_copy 57 = .ok (.iload_n 1, 1) := by decide +kernel
theorem dX8_copy_58 : decode cX8_copy 58 = .ok (.iaload, 1) := by decide +kernel
theorem dX8_copy_59 : decode cX8_copy 59 = .ok (.aload_n 0, 1) := by decide +kernel
theorem dX8_copy_60 : decode cX8_copy 60 = .ok (.getfield 60, 3) := by decide +kernel
theorem dX8_copy_63 : decode cX8_copy 63 = .ok (.getfield 294, 3) := by decide +kernel
theorem dX8_copy_66 : decode cX8_copy 66 = .ok (.iload_n 3, 1) := by decide +kernel
theorem dX8_copy_67 : decode cX8_copy 67 = .ok (.iaload, 1) := by decide +kernel
theorem dX8_copy_68 : decode cX8_copy 68 = .ok (.if_icmp .eq 6, 3) := by decide +kernel
theorem dX8_copy_71 : decode cX8_copy 71 = .ok (.bipush (-13), 2) := by decide +kernel
theorem dX8_copy_73 : decode cX8_copy 73 = .ok (.ireturn, 1) := by decide +kernel
theorem dX8_copy_74 : decode cX8_copy 74 = .ok (.aload_n 0, 1) := by decide +kernel
theorem dX8_copy_75 : decode cX8_copy 75 = .ok (.getfield 60, 3) := by decide +kernel
theorem dX8_copy_78 : decode cX8_copy 78 = .ok (.iload_n 1, 1) := by decide +kernel
theorem dX8_copy_79 : decode cX8_copy 79 = .ok (.iload_n 2, 1) := by decide +kernel
theorem dX8_copy_80 : decode cX8_copy 80 = .ok (.iload 5, 2) := by decide +kernel
theorem dX8_copy_82 : decode cX8_copy 82 = .ok (.invokevirtual 297, 3) := by decide +kernel
theorem dX8_copy_85 : decode cX8_copy 85 = .ok (.ifCond .eq 18, 3) := by decide +kernel
theorem dX8_copy_88 : decode cX8_copy 88 = .ok (.aload_n 0, 1) := by decide +kernel
theorem dX8_copy_89 : decode cX8_copy 89 = .ok (.getfield 60, 3) := by decide +kernel
theorem dX8_copy_92 : decode cX8_copy 92 = .ok (.iload_n 3, 1) := by decide +kernel
theorem dX8_copy_93 : decode cX8_copy 93 = .ok (.iload 4, 2) := by decide +kernel
theorem dX8_copy_95 : decode cX8_copy 95 = .ok (.iload 5, 2) := by decide +kernel
theorem dX8_copy_97 : decode cX8_copy 97 = .ok (.invokevirtual 297, 3) := by decide +kernel
theorem dX8_copy_100 : decode cX8_copy 100 = .ok (.ifCond .ne 6, 3) := by decide +kernel
theorem dX8_copy_103 : decode cX8_copy 103 = .ok (.bipush (-12), 2) := by decide +kernel
theorem dX8_copy_105 : decode cX8_copy 105 = .ok (.ireturn, 1) := by decide +kernel
theorem dX8_copy_106 : decode cX8_copy 106 = .ok (.aload_n 0, 1) := by decide +kernel
theorem dX8_copy_107 : decode cX8_copy 107 = .ok (.getfield 60, 3) := by decide +kernel
theorem dX8_copy_110 : decode cX8_copy 110 = .ok (.getfield 237, 3) := by decide +kernel
theorem dX8_copy_113 : decode cX8_copy 113 = .ok (.iload_n 1, 1) := by decide +kernel
theorem dX8_copy_114 : decode cX8_copy 114 = .ok (.aaload, 1) := by decide +kernel
theorem dX8_copy_115 : decode cX8_copy 115 = .ok (.iload_n 2, 1) := by decide +kernel
theorem dX8_copy_116 : decode cX8_copy 116 = .ok (.aload_n 0, 1) := by decide +kernel
theorem dX8_copy_117 : decode cX8_copy 117 = .ok (.getfield 60, 3) := by decide +kernel
theorem dX8_copy_120 : decode cX8_copy 120 = .ok (.getfield 237, 3) := by decide +kernel
theorem dX8_copy_123 : decode cX8_copy 123 = .ok (.iload_n 3, 1) := by decide +kernel
theorem dX8_copy_124 : decode cX8_copy 124 = .ok (.aaload, 1) := by decide +kernel
theorem dX8_copy_125 : decode cX8_copy 125 = .ok (.iload 4, 2) := by decide +kernel
theorem dX8_copy_127 : decode cX8_copy 127 = .ok (.iload 5, 2) := by decide +kernel
theorem dX8_copy_129 : decode cX8_copy 129 = .ok (.invokestatic 300, 3) := by decide +kernel
theorem dX8_copy_132 : decode cX8_copy 132 = .ok (.iload 5, 2) := by decide +kernel
theorem dX8_copy_134 : decode cX8_copy 134 = .ok (.ireturn, 1) := by decide +kernel
theorem dX8_customers_0 : decode cX8_customers 0 = .ok (.aload_n 0, 1) := by decide +kernel
theorem dX8_customers_1 : decode cX8_customers 1 = .ok (.getfield 60, 3) := by decide +kernel
theorem dX8_customers_4 : decode cX8_customers 4 = .ok (.iload_n 1, 1) := by decide +kernel
theorem dX8_customers_5 : decode cX8_customers 5 = .ok (.invokevirtual 230, 3) := by decide +kernel
theorem dX8_customers_8 : decode cX8_customers 8 = .ok (.ifCond .eq 24, 3) := by decide +kernel
theorem dX8_customers_11 : decode cX8_customers 11 = .ok (.iload_n 2, 1) := by decide +kernel
theorem dX8_customers_12 : decode cX8_customers 12 = .ok (.ifCond .lt 20, 3) := by decide +kernel
theorem dX8_customers_15 : decode cX8_customers 15 = .ok (.iload_n 2, 1) := by decide +kernel
theorem dX8_customers_16 : decode cX8_customers 16 = .ok (.iconst 2, 1) := by decide +kernel
theorem dX8_customers_17 : decode cX8_customers 17 = .ok (.if_icmp .gt 15, 3) := by decide +kernel
theorem dX8_customers_20 : decode cX8_customers 20 = .ok (.iload 4, 2) := by decide +kernel
theorem dX8_customers_22 : decode cX8_customers 22 = .ok (.ifCond .lt 10, 3) := by decide +kernel
theorem dX8_customers_25 : decode cX8_customers 25 = .ok (.iload 4, 2) := by decide +kernel
theorem dX8_customers_27 : decode cX8_customers 27 = .ok (.bipush 8, 2) := by decide +kernel
theorem dX8_customers_29 : decode cX8_customers 29 = .ok (.if_icmp .le 6, 3) := by decide +kernel
theorem dX8_customers_32 : decode cX8_customers 32 = .ok (.bipush (-2), 2) := by decide +kernel
theorem dX8_customers_34 : decode cX8_customers 34 = .ok (.ireturn, 1) := by decide +kernel
theorem dX8_customers_35 : decode cX8_customers 35 = .ok (.aload_n 0, 1) := by decide +kernel
theorem dX8_customers_36 : decode cX8_customers 36 = .ok (.getfield 60, 3) := by decide +kernel
theorem dX8_customers_39 : decode cX8_customers 39 = .ok (.iload_n 1, 1) := by decide +kernel
theorem dX8_customers_40 : decode cX8_customers 40 = .ok (.invokevirtual 231, 3) := by decide +kernel
theorem dX8_customers_43 : decode cX8_customers 43 = .ok (.ifCond .eq 6, 3) := by decide +kernel
theorem dX8_customers_46 : decode cX8_customers 46 = .ok (.bipush (-11), 2) := by decide +kernel
theorem dX8_customers_48 : decode cX8_customers 48 = .ok (.ireturn, 1) := by decide +kernel
theorem dX8_customers_49 : decode cX8_customers 49 = .ok (.aload_n 0, 1) := by decide +kernel
theorem dX8_customers_50 : decode cX8_customers 50 = .ok (.getfield 60, 3) := by decide +kernel
theorem dX8_customers_53 : decode cX8_customers 53 = .ok (.getfield 294, 3) := by decide +kernel
theorem dX8_customers_56 : decode cX8_customers 56 = .ok (.iload_n 1, 1) := by decide +kernel
theorem dX8_customers_57 : decode cX8_customers 57 = .ok (.iaload, 1) := by decide +kernel
theorem dX8_customers_58 : decode cX8_customers 58 = .ok (.iload_n 2, 1) := by decide +kernel
theorem dX8_customers_59 : decode cX8_customers 59 = .ok (.if_icmp .eq 6, 3) := by decide +kernel
theorem dX8_customers_62 : decode cX8_customers 62 = .ok (.bipush (-13), 2) := by decide +kernel
theorem dX8_customers_64 : decode cX8_customers 64 = .ok (.ireturn, 1) := by decide +kernel
theorem dX8_customers_65 : decode cX8_customers 65 = .ok (.iconst 0, 1) := by decide +kernel
theorem dX8_customers_66 : decode cX8_customers 66 = .ok (.istore 5, 2) := by decide +kernel
theorem dX8_customers_68 : decode cX8_customers 68 = .ok (.iconst 0, 1) := by decide +kernel
theorem dX8_customers_69 : decode cX8_customers 69 = .ok (.istore 6, 2) := by decide +kernel
theorem dX8_customers_71 : decode cX8_customers 71 = .ok (.iload 6, 2) := by decide +kernel
theorem dX8_customers_73 : decode cX8_customers 73 = .ok (.iload 4, 2) := by decide +kernel
theorem dX8_customers_75 : decode cX8_customers 75 = .ok (.if_icmp .ge 93, 3) := by decide +kernel
theorem dX8_customers_78 : decode cX8_customers 78 = .ok (.iload_n 3, 1) := by decide +kernel
theorem dX8_customers_79 : decode cX8_customers 79 = .ok (.i2l, 1) := by decide +kernel
theorem dX8_customers_80 : decode cX8_customers 80 = .ok (.ldc2_w 306, 3) := by decide +kernel
theorem dX8_customers_83 : decode cX8_customers 83 = .ok (.iload 6, 2) := by decide +kernel
theorem dX8_customers_85 : decode cX8_customers 85 = .ok (.i2l, 1) := by decide +kernel
theorem dX8_customers_86 : decode cX8_customers 86 = .ok (.lmul, 1) := by decide +kernel
theorem dX8_customers_87 : decode cX8_customers 87 = .ok (.ladd, 1) := by decide +kernel
theorem dX8_customers_88 : decode cX8_customers 88 = .ok (.lstore 7, 2) := by decide +kernel
theorem dX8_customers_90 : decode cX8_customers 90 = .ok (.lload 7, 2) := by decide +kernel
theorem dX8_customers_92 : decode cX8_customers 92 = .ok (.lconst 0, 1) := by decide +kernel
theorem dX8_customers_93 : decode cX8_customers 93 = .ok (.lcmp, 1) := by decide +kernel
theorem dX8_customers_94 : decode cX8_customers 94 = .ok (.ifCond .lt 21, 3) := by decide +kernel
theorem dX8_customers_97 : decode cX8_customers 97 = .ok (.lload 7, 2) := by decide +kernel
theorem dX8_customers_99 : decode cX8_customers 99 = .ok (.lconst 1, 1) := by decide +kernel
theorem dX8_customers_100 : decode cX8_customers 100 = .ok (.ladd, 1) := by decide +kernel
theorem dX8_customers_101 : decode cX8_customers 101 = .ok (.aload_n 0, 1) := by decide +kernel
theorem dX8_customers_102 : decode cX8_customers 102 = .ok (.getfield 60, 3) := by decide +kernel
theorem dX8_customers_105 : decode cX8_customers 105 = .ok (.getfield 234, 3) := by decide +kernel
theorem dX8_customers_108 : decode cX8_customers 108 = .ok (.iload_n 1, 1) := by decide +kernel
theorem dX8_customers_109 : decode cX8_customers 109 = .ok (.iaload, 1) := by decide +kernel
theorem dX8_customers_110 : decode cX8_customers 110 = .ok (.i2l, 1) := by decide +kernel
theorem dX8_customers_111 : decode cX8_customers 111 = .ok (.lcmp, 1) := by decide +kernel
theorem dX8_customers_112 : decode cX8_customers 112 = .ok (.ifCond .lt 6, 3) := by decide +kernel
theorem dX8_customers_115 : decode cX8_customers 115 = .ok (.bipush (-12), 2) := by decide +kernel
theorem dX8_customers_117 : decode cX8_customers 117 = .ok (.ireturn, 1) := by decide +kernel
theorem dX8_customers_118 : decode cX8_customers 118 = .ok (.lload 7, 2) := by decide +kernel
theorem dX8_customers_120 : decode cX8_customers 120 = .ok (.l2i, 1) := by decide +kernel
theorem dX8_customers_121 : decode cX8_customers 121 = .ok (.istore 9, 2) := by decide +kernel
theorem dX8_customers_123 : decode cX8_customers 123 = .ok (.aload_n 0, 1) := by decide +kernel
theorem dX8_customers_124 : decode cX8_customers 124 = .ok (.getfield 10, 3) := by decide +kernel
theorem dX8_customers_127 : decode cX8_customers 127 = .ok (.aload_n 0, 1) := by decide +kernel
theorem dX8_customers_128 : decode cX8_customers 128 = .ok (.getfield 60, 3) := by decide +kernel
theorem dX8_customers_131 : decode cX8_customers 131 = .ok (.getfield 237, 3) := by decide +kernel
theorem dX8_customers_134 : decode cX8_customers 134 = .ok (.iload_n 1, 1) := by decide +kernel
theorem dX8_customers_135 : decode cX8_customers 135 = .ok (.aaload, 1) := by decide +kernel
theorem dX8_customers_136 : decode cX8_customers 136 = .ok (.iload 9, 2) := by decide +kernel
theorem dX8_customers_138 : decode cX8_customers 138 = .ok (.iaload, 1) := by decide +kernel
theorem dX8_customers_139 : decode cX8_customers 139 = .ok (.aload_n 0, 1) := by decide +kernel
theorem dX8_customers_140 : decode cX8_customers 140 = .ok (.getfield 60, 3) := by decide +kernel
theorem dX8_customers_143 : decode cX8_customers 143 = .ok (.getfield 237, 3) := by decide +kernel
theorem dX8_customers_146 : decode cX8_customers 146 = .ok (.iload_n 1, 1) := by decide +kernel
theorem dX8_customers_147 : decode cX8_customers 147 = .ok (.aaload, 1) := by decide +kernel
theorem dX8_customers_148 : decode cX8_customers 148 = .ok (.iload 9, 2) := by decide +kernel
theorem dX8_customers_150 : decode cX8_customers 150 = .ok (.iconst 1, 1) := by decide +kernel
theorem dX8_customers_151 : decode cX8_customers 151 = .ok (.iadd, 1) := by decide +kernel
theorem dX8_customers_152 : decode cX8_customers 152 = .ok (.iaload, 1) := by decide +kernel
theorem dX8_customers_153 : decode cX8_customers 153 = .ok (.invokevirtual 97, 3) := by decide +kernel
theorem dX8_customers_156 : decode cX8_customers 156 = .ok (.ifCond .lt 6, 3) := by decide +kernel
theorem dX8_customers_159 : decode cX8_customers 159 = .ok (.iinc 5 1, 3) := by decide +kernel
theorem dX8_customers_162 : decode cX8_customers 162 = .ok (.iinc 6 1, 3) := by decide +kernel
theorem dX8_customers_165 : decode cX8_customers 165 = .ok (.goto (-94), 3) := by decide +kernel
theorem dX8_customers_168 : decode cX8_customers 168 = .ok (.iload 5, 2) := by decide +kernel
theorem dX8_customers_170 : decode cX8_customers 170 = .ok (.ireturn, 1) := by decide +kernel
theorem dX8_isUnder_0 : decode cX8_isUnder 0 = .ok (.iload_n 0, 1) := by decide +kernel
theorem dX8_isUnder_1 : decode cX8_isUnder 1 = .ok (.istore_n 2, 1) := by decide +kernel
theorem dX8_isUnder_2 : decode cX8_isUnder 2 = .ok (.iconst 0, 1) := by decide +kernel
theorem dX8_isUnder_3 : decode cX8_isUnder 3 = .ok (.istore_n 3, 1) := by decide +kernel
theorem dX8_isUnder_4 : decode cX8_isUnder 4 = .ok (.iload_n 3, 1) := by decide +kernel
theorem dX8_isUnder_5 : decode cX8_isUnder 5 = .ok (.bipush 6, 2) := by decide +kernel
theorem dX8_isUnder_7 : decode cX8_isUnder 7 = .ok (.if_icmp .ge 32, 3) := by decide +kernel
theorem dX8_isUnder_10 : decode cX8_isUnder 10 = .ok (.iload_n 2, 1) := by decide +kernel
theorem dX8_isUnder_11 : decode cX8_isUnder 11 = .ok (.ifCond .lt 28, 3) := by decide +kernel
theorem dX8_isUnder_14 : decode cX8_isUnder 14 = .ok (.iload_n 2, 1) := by decide +kernel
theorem dX8_isUnder_15 : decode cX8_isUnder 15 = .ok (.bipush 6, 2) := by decide +kernel
theorem dX8_isUnder_17 : decode cX8_isUnder 17 = .ok (.if_icmp .ge 22, 3) := by decide +kernel
theorem dX8_isUnder_20 : decode cX8_isUnder 20 = .ok (.iload_n 2, 1) := by decide +kernel
theorem dX8_isUnder_21 : decode cX8_isUnder 21 = .ok (.iload_n 1, 1) := by decide +kernel
theorem dX8_isUnder_22 : decode cX8_isUnder 22 = .ok (.if_icmp .ne 5, 3) := by decide +kernel
theorem dX8_isUnder_25 : decode cX8_isUnder 25 = .ok (.iconst 1, 1) := by decide +kernel
theorem dX8_isUnder_26 : decode cX8_isUnder 26 = .ok (.ireturn, 1) := by decide +kernel
theorem dX8_isUnder_27 : decode cX8_isUnder 27 = .ok (.getstatic 312, 3) := by decide +kernel
theorem dX8_isUnder_30 : decode cX8_isUnder 30 = .ok (.iload_n 2, 1) := by decide +kernel
theorem dX8_isUnder_31 : decode cX8_isUnder 31 = .ok (.iaload, 1) := by decide +kernel
theorem dX8_isUnder_32 : decode cX8_isUnder 32 = .ok (.istore_n 2, 1) := by decide +kernel
theorem dX8_isUnder_33 : decode cX8_isUnder 33 = .ok (.iinc 3 1, 3) := by decide +kernel
theorem dX8_isUnder_36 : decode cX8_isUnder 36 = .ok (.goto (-32), 3) := by decide +kernel
theorem dX8_isUnder_39 : decode cX8_isUnder 39 = .ok (.iconst 0, 1) := by decide +kernel
theorem dX8_isUnder_40 : decode cX8_isUnder 40 = .ok (.ireturn, 1) := by decide +kernel
theorem dX8_taken_0 : decode cX8_taken 0 = .ok (.iload_n 2, 1) := by decide +kernel
theorem dX8_taken_1 : decode cX8_taken 1 = .ok (.ifCond .lt 9, 3) := by decide +kernel
theorem dX8_taken_4 : decode cX8_taken 4 = .ok (.iload_n 2, 1) := by decide +kernel
theorem dX8_taken_5 : decode cX8_taken 5 = .ok (.bipush 6, 2) := by decide +kernel
theorem dX8_taken_7 : decode cX8_taken 7 = .ok (.if_icmp .lt 6, 3) := by decide +kernel
theorem dX8_taken_10 : decode cX8_taken 10 = .ok (.bipush (-2), 2) := by decide +kernel
theorem dX8_taken_12 : decode cX8_taken 12 = .ok (.ireturn, 1) := by decide +kernel
theorem dX8_taken_13 : decode cX8_taken 13 = .ok (.aload_n 0, 1) := by decide +kernel
theorem dX8_taken_14 : decode cX8_taken 14 = .ok (.getfield 10, 3) := by decide +kernel
theorem dX8_taken_17 : decode cX8_taken 17 = .ok (.iload_n 1, 1) := by decide +kernel
theorem dX8_taken_18 : decode cX8_taken 18 = .ok (.invokevirtual 108, 3) := by decide +kernel
theorem dX8_taken_21 : decode cX8_taken 21 = .ok (.ifCond .ne 6, 3) := by decide +kernel
theorem dX8_taken_24 : decode cX8_taken 24 = .ok (.bipush (-11), 2) := by decide +kernel
theorem dX8_taken_26 : decode cX8_taken 26 = .ok (.ireturn, 1) := by decide +kernel
theorem dX8_taken_27 : decode cX8_taken 27 = .ok (.aload_n 0, 1) := by decide +kernel
theorem dX8_taken_28 : decode cX8_taken 28 = .ok (.getfield 10, 3) := by decide +kernel
theorem dX8_taken_31 : decode cX8_taken 31 = .ok (.getfield 132, 3) := by decide +kernel
theorem dX8_taken_34 : decode cX8_taken 34 = .ok (.iload_n 1, 1) := by decide +kernel
theorem dX8_taken_35 : decode cX8_taken 35 = .ok (.iaload, 1) := by decide +kernel
theorem dX8_taken_36 : decode cX8_taken 36 = .ok (.iload_n 2, 1) := by decide +kernel
theorem dX8_taken_37 : decode cX8_taken 37 = .ok (.invokestatic 308, 3) := by decide +kernel
theorem dX8_taken_40 : decode cX8_taken 40 = .ok (.ifCond .eq 15, 3) := by decide +kernel
theorem dX8_taken_43 : decode cX8_taken 43 = .ok (.aload_n 0, 1) := by decide +kernel
theorem dX8_taken_44 : decode cX8_taken 44 = .ok (.getfield 10, 3) := by decide +kernel
theorem dX8_taken_47 : decode cX8_taken 47 = .ok (.getfield 119, 3) := by decide +kernel
theorem dX8_taken_50 : decode cX8_taken 50 = .ok (.iload_n 1, 1) := by decide +kernel
theorem dX8_taken_51 : decode cX8_taken 51 = .ok (.iaload, 1) := by decide +kernel
theorem dX8_taken_52 : decode cX8_taken 52 = .ok (.goto 5, 3) := by decide +kernel
theorem dX8_taken_55 : decode cX8_taken 55 = .ok (.bipush (-13), 2) := by decide +kernel
theorem dX8_taken_57 : decode cX8_taken 57 = .ok (.ireturn, 1) := by decide +kernel
-- KeepOurPlace.lines
def F8_lines_j92 (M : Mem) (x1 : Int32) (x2 : Int32) (x3 : Int32) : Option (Int32 × Mem) :=
    if ¬ x1 = 0 then
      if ¬ x1 = (1 : Int32) then
        if x2 ≤ x3 then
          some ((0 : Int32), M)
        else
          some ((1 : Int32), M)
      else
        some (x3, M)
    else
      some (x2, M)
def F8_lines_j86 (rec19 : Mem → Int32 → Int32 → Int32 → Int32 → Option (Int32 × Mem)) (M : Mem) (x1 : Int32) (x2 : Int32) (x3 : Int32) (x4 : Int32) : Option (Int32 × Mem) :=
    rec19 M x1 x2 x3 (x4 + (1 : Int32))
def F8_lines_l19_b (rec19 : Mem → Int32 → Int32 → Int32 → Int32 → Option (Int32 × Mem)) (M : Mem) (x1 : Int32) (x2 : Int32) (x3 : Int32) (x4 : Int32) : Option (Int32 × Mem) :=
    if (M 1 4) ≤ x4 then
      F8_lines_j92 M x1 x2 x3
    else
      if (M 1 3) ≤ x4 then
        F8_lines_j92 M x1 x2 x3
      else
        if inb x4 8 = true then
        Option.bind (F7_seconds M (M 2 (Int32.toNatClampNeg x4)) x4 x4) fun r6 =>
        if ¬ (jrem x4 (2 : Int32)) = 0 then
          F8_lines_j86 rec19 r6.2 x1 x2 (x3 + r6.1) x4
        else
          F8_lines_j86 rec19 r6.2 x1 (x2 + r6.1) x3 x4
        else none
def F8_lines_l19 : Nat → Mem → Int32 → Int32 → Int32 → Int32 → Option (Int32 × Mem)
  | 0, _, _, _, _, _ => none
  | fu + 1, M, x1, x2, x3, x4 => F8_lines_l19_b (F8_lines_l19 fu) M x1 x2 x3 x4
def F8_lines (M : Mem) (a1 : Int32) : Option (Int32 × Mem) :=
    if a1 < 0 then
      some ((-2 : Int32), M)
    else
      if a1 ≤ (2 : Int32) then
        F8_lines_l19 FUEL M a1 (0 : Int32) (0 : Int32) (0 : Int32)
      else
        some ((-2 : Int32), M)
set_option maxRecDepth 20000 in
theorem F8_lines_j92_ok {p : Program} {l : Launch} {e : Env} {s : State} {m : MethodId} {args : Array Value} {below : List Frame} {meth : Method} {c : Code} {G : GG} {D : Nat} {r : Int32 × Mem} (F : FrP shA G p s m args c RX8 cX8_lines 6) (hr : meth.sig.returnType = (some .int)) (hlk : meth.locks = false) (hD : 4 ≤ D) {M : Mem} {x1 : Int32} {x2 : Int32} {x3 : Int32} (h : F8_lines_j92 M x1 x2 x3 = some r) : XJ shA p l e (rmX D) s m args below meth c 0 0 G 6 (MQ below (QcX shA G ((some (.int r.1), r.2) : Option Value × Mem).1 ((some (.int r.1), r.2) : Option Value × Mem).2) args s 0 0 (AW shA G.2.1)) 92 [(1, .int x1), (2, .int x2), (3, .int x3)] [] M := by
  unfold F8_lines_j92 at h
  refine X_iload_n F dX8_lines_92 rfl ?_
  refine X_if_ne (tgt := 98) F dX8_lines_93 (by decide) (fun q9 => ?_) (fun q9 => ?_)
  · rw [if_pos q9] at h
    refine X_iload_n F dX8_lines_98 rfl ?_
    refine X_iconst F dX8_lines_99 (v := (1 : Int32)) rfl ?_
    refine X_icmp_ne (tgt := 105) F dX8_lines_100 (by decide) (fun q10 => ?_) (fun q10 => ?_)
    · rw [if_pos q10] at h
      refine X_iload_n F dX8_lines_105 rfl ?_
      refine X_iload_n F dX8_lines_106 rfl ?_
      refine X_icmp_ge (tgt := 114) F dX8_lines_107 (by decide) (fun q11 => ?_) (fun q11 => ?_)
      · rw [if_pos q11] at h
        refine X_iconst F dX8_lines_114 (v := (0 : Int32)) rfl ?_
        exact X_iret F hr hlk (retI h) dX8_lines_115
      · rw [if_neg q11] at h
        refine X_iconst F dX8_lines_110 (v := (1 : Int32)) rfl ?_
        refine X_goto (tgt := 115) F dX8_lines_111 (by decide) ?_
        exact X_iret F hr hlk (retI h) dX8_lines_115
    · rw [if_neg (fun z => z q10)] at h
      refine X_iload_n F dX8_lines_103 rfl ?_
      exact X_iret F hr hlk (retI h) dX8_lines_104
  · rw [if_neg (fun z => z q9)] at h
    refine X_iload_n F dX8_lines_96 rfl ?_
    exact X_iret F hr hlk (retI h) dX8_lines_97
set_option maxRecDepth 20000 in
theorem F8_lines_j86_ok {p : Program} {l : Launch} {e : Env} {s : State} {m : MethodId} {args : Array Value} {below : List Frame} {meth : Method} {c : Code} {G : GG} {D : Nat} {r : Int32 × Mem} {rec19 : Mem → Int32 → Int32 → Int32 → Int32 → Option (Int32 × Mem)} (F : FrP shA G p s m args c RX8 cX8_lines 6) (hr : meth.sig.returnType = (some .int)) (hlk : meth.locks = false) (hD : 4 ≤ D) (hrec19 : ∀ (M : Mem) (x1 : Int32) (x2 : Int32) (x3 : Int32) (x4 : Int32), rec19 M x1 x2 x3 x4 = some r → XJ shA p l e (rmX D) s m args below meth c 0 0 G 6 (MQ below (QcX shA G ((some (.int r.1), r.2) : Option Value × Mem).1 ((some (.int r.1), r.2) : Option Value × Mem).2) args s 0 0 (AW shA G.2.1)) 19 [(0, .ref 0), (1, .int x1), (2, .int x2), (3, .int x3), (4, .int x4)] [] M) {M : Mem} {x1 : Int32} {x2 : Int32} {x3 : Int32} {x4 : Int32} (h : F8_lines_j86 rec19 M x1 x2 x3 x4 = some r) : XJ shA p l e (rmX D) s m args below meth c 0 0 G 6 (MQ below (QcX shA G ((some (.int r.1), r.2) : Option Value × Mem).1 ((some (.int r.1), r.2) : Option Value × Mem).2) args s 0 0 (AW shA G.2.1)) 86 [(0, .ref 0), (1, .int x1), (2, .int x2), (3, .int x3), (4, .int x4)] [] M := by
  unfold F8_lines_j86 at h
  refine X_iinc F dX8_lines_86 rfl (v := (1 : Int32)) rfl (by decide) rfl ?_
  refine X_goto (tgt := 19) F dX8_lines_89 (by decide) ?_
  refine X_pick [1, 2, 3, 4, 0] rfl ?_
  exact hrec19 _ _ _ _ _ h
set_option maxRecDepth 20000 in
theorem F8_lines_l19_bok {p : Program} {l : Launch} {e : Env} {s : State} {m : MethodId} {args : Array Value} {below : List Frame} {meth : Method} {c : Code} {G : GG} {D : Nat} {r : Int32 × Mem} {rec19 : Mem → Int32 → Int32 → Int32 → Int32 → Option (Int32 × Mem)} (F : FrP shA G p s m args c RX8 cX8_lines 6) (hr : meth.sig.returnType = (some .int)) (hlk : meth.locks = false) (hD : 4 ≤ D) (hrec19 : ∀ (M : Mem) (x1 : Int32) (x2 : Int32) (x3 : Int32) (x4 : Int32), rec19 M x1 x2 x3 x4 = some r → XJ shA p l e (rmX D) s m args below meth c 0 0 G 6 (MQ below (QcX shA G ((some (.int r.1), r.2) : Option Value × Mem).1 ((some (.int r.1), r.2) : Option Value × Mem).2) args s 0 0 (AW shA G.2.1)) 19 [(0, .ref 0), (1, .int x1), (2, .int x2), (3, .int x3), (4, .int x4)] [] M) {M : Mem} {x1 : Int32} {x2 : Int32} {x3 : Int32} {x4 : Int32} (h : F8_lines_l19_b rec19 M x1 x2 x3 x4 = some r) : XJ shA p l e (rmX D) s m args below meth c 0 0 G 6 (MQ below (QcX shA G ((some (.int r.1), r.2) : Option Value × Mem).1 ((some (.int r.1), r.2) : Option Value × Mem).2) args s 0 0 (AW shA G.2.1)) 19 [(0, .ref 0), (1, .int x1), (2, .int x2), (3, .int x3), (4, .int x4)] [] M := by
  unfold F8_lines_l19_b at h
  refine X_iload F dX8_lines_19 rfl ?_
  refine X_aload_n F dX8_lines_21 rfl ?_
  refine X_getr F ffRX8_10 dX8_lines_22 ?_
  refine X_geti (v := (M 1 4)) F ffRX8_223 dX8_lines_25 rfl ?_
  refine X_icmp_ge (tgt := 92) F dX8_lines_28 (by decide) (fun q3 => ?_) (fun q3 => ?_)
  · rw [if_pos q3] at h
    refine X_pick [1, 2, 3] rfl ?_
    exact F8_lines_j92_ok F hr hlk hD h
  · rw [if_neg q3] at h
    refine X_iload F dX8_lines_31 rfl ?_
    refine X_aload_n F dX8_lines_33 rfl ?_
    refine X_getr F ffRX8_10 dX8_lines_34 ?_
    refine X_geti (v := (M 1 3)) F ffRX8_142 dX8_lines_37 rfl ?_
    refine X_icmp_ge (tgt := 92) F dX8_lines_40 (by decide) (fun q4 => ?_) (fun q4 => ?_)
    · rw [if_pos q4] at h
      refine X_pick [1, 2, 3] rfl ?_
      exact F8_lines_j92_ok F hr hlk hD h
    · rw [if_neg q4] at h
      refine X_aload_n F dX8_lines_43 rfl ?_
      refine X_getr F ffRX8_44 dX8_lines_44 ?_
      refine X_aload_n F dX8_lines_47 rfl ?_
      refine X_getr F ffRX8_10 dX8_lines_48 ?_
      refine X_getr F ffRX8_132 dX8_lines_51 ?_
      refine X_iload F dX8_lines_54 rfl ?_
      obtain ⟨q5, h⟩ := ifS h
      refine X_iald (j := (Int32.toNatClampNeg x4)) (v := (M 2 (Int32.toNatClampNeg x4))) F rfl (inbV q5) rfl rfl dX8_lines_56 ?_
      refine X_iload F dX8_lines_57 rfl ?_
      refine X_iload F dX8_lines_59 rfl ?_
      obtain ⟨r6, h7, h⟩ := bndS h
      refine X_callV (ci := 33) (As := [.int (M 2 (Int32.toNatClampNeg x4)), .int x4, .int x4]) (rest := []) F fkRX8_135 feX7_seconds fvX7_seconds ⟨_, _, _, rfl, rfl, rfl⟩ (F7_seconds_met (D := D - 1) F.2.2.2.2.2.2.2.1 (by omega) h7) rfl rfl (Nat.le_of_ble_eq_true rfl) (rm_ok (by omega) (by decide)) dX8_lines_61 ?_
      show XJ shA p l e (rmX D) s m args below meth c 0 0 G 6 (MQ below (QcX shA G ((some (.int r.1), r.2) : Option Value × Mem).1 ((some (.int r.1), r.2) : Option Value × Mem).2) args s 0 0 (AW shA G.2.1)) 64 [(0, .ref 0), (1, .int x1), (2, .int x2), (3, .int x3), (4, .int x4)] [.int r6.1] r6.2
      refine X_istore F dX8_lines_64 (by decide) rfl ?_
      refine X_iload F dX8_lines_66 rfl ?_
      refine X_iconst F dX8_lines_68 (v := (2 : Int32)) rfl ?_
      refine X_irem F dX8_lines_69 (by decide) ?_
      refine X_if_ne (tgt := 81) F dX8_lines_70 (by decide) (fun q8 => ?_) (fun q8 => ?_)
      · rw [if_pos q8] at h
        refine X_iload_n F dX8_lines_81 rfl ?_
        refine X_iload F dX8_lines_82 rfl ?_
        refine X_iadd F dX8_lines_84 ?_
        refine X_istore_n F dX8_lines_85 (by decide) rfl ?_
        refine X_pick [2, 3, 4, 0, 5] rfl ?_
        exact F8_lines_j86_ok F hr hlk hD hrec19 h
      · rw [if_neg (fun z => z q8)] at h
        refine X_iload_n F dX8_lines_73 rfl ?_
        refine X_iload F dX8_lines_74 rfl ?_
        refine X_iadd F dX8_lines_76 ?_
        refine X_istore_n F dX8_lines_77 (by decide) rfl ?_
        refine X_goto (tgt := 86) F dX8_lines_78 (by decide) ?_
        refine X_pick [2, 3, 0, 4, 5] rfl ?_
        exact F8_lines_j86_ok F hr hlk hD hrec19 h
set_option maxRecDepth 20000 in
theorem F8_lines_l19_ok {p : Program} {l : Launch} {e : Env} {s : State} {m : MethodId} {args : Array Value} {below : List Frame} {meth : Method} {c : Code} {G : GG} {D : Nat} {r : Int32 × Mem} (F : FrP shA G p s m args c RX8 cX8_lines 6) (hr : meth.sig.returnType = (some .int)) (hlk : meth.locks = false) (hD : 4 ≤ D) : ∀ (fu : Nat) (M : Mem) (x1 : Int32) (x2 : Int32) (x3 : Int32) (x4 : Int32), F8_lines_l19 fu M x1 x2 x3 x4 = some r → XJ shA p l e (rmX D) s m args below meth c 0 0 G 6 (MQ below (QcX shA G ((some (.int r.1), r.2) : Option Value × Mem).1 ((some (.int r.1), r.2) : Option Value × Mem).2) args s 0 0 (AW shA G.2.1)) 19 [(0, .ref 0), (1, .int x1), (2, .int x2), (3, .int x3), (4, .int x4)] [] M := by
  intro fu
  induction fu with
  | zero => intro M x1 x2 x3 x4 h; cases h
  | succ fu ih => intro M x1 x2 x3 x4 h; exact F8_lines_l19_bok F hr hlk hD (fun M x1 x2 x3 x4 => ih M x1 x2 x3 x4) h
set_option maxRecDepth 20000 in
theorem F8_lines_ok {p : Program} {l : Launch} {e : Env} {s : State} {m : MethodId} {args : Array Value} {below : List Frame} {meth : Method} {c : Code} {G : GG} {D : Nat} {r : Int32 × Mem} (F : FrP shA G p s m args c RX8 cX8_lines 6) (hr : meth.sig.returnType = (some .int)) (hlk : meth.locks = false) (hD : 4 ≤ D) {M : Mem} {a1 : Int32} (h : F8_lines M a1 = some r) : XJ shA p l e (rmX D) s m args below meth c 0 0 G 6 (MQ below (QcX shA G ((some (.int r.1), r.2) : Option Value × Mem).1 ((some (.int r.1), r.2) : Option Value × Mem).2) args s 0 0 (AW shA G.2.1)) 0 [(0, .ref 0), (1, .int a1)] [] M := by
  unfold F8_lines at h
  refine X_iload_n F dX8_lines_0 rfl ?_
  refine X_if_lt (tgt := 9) F dX8_lines_1 (by decide) (fun q1 => ?_) (fun q1 => ?_)
  · rw [if_pos q1] at h
    refine X_bipush F dX8_lines_9 (v := (-2 : Int32)) rfl ?_
    exact X_iret F hr hlk (retI h) dX8_lines_11
  · rw [if_neg q1] at h
    refine X_iload_n F dX8_lines_4 rfl ?_
    refine X_iconst F dX8_lines_5 (v := (2 : Int32)) rfl ?_
    refine X_icmp_le (tgt := 12) F dX8_lines_6 (by decide) (fun q2 => ?_) (fun q2 => ?_)
    · rw [if_pos q2] at h
      refine X_iconst F dX8_lines_12 (v := (0 : Int32)) rfl ?_
      refine X_istore_n F dX8_lines_13 (by decide) rfl ?_
      refine X_iconst F dX8_lines_14 (v := (0 : Int32)) rfl ?_
      refine X_istore_n F dX8_lines_15 (by decide) rfl ?_
      refine X_iconst F dX8_lines_16 (v := (0 : Int32)) rfl ?_
      refine X_istore F dX8_lines_17 (by decide) rfl ?_
      refine X_pick [3, 4, 2, 1, 0] rfl ?_
      exact F8_lines_l19_ok F hr hlk hD FUEL _ _ _ _ _ h
    · rw [if_neg q2] at h
      refine X_bipush F dX8_lines_9 (v := (-2 : Int32)) rfl ?_
      exact X_iret F hr hlk (retI h) dX8_lines_11
set_option maxRecDepth 20000 in
theorem F8_lines_met {l : Launch} {G : GG} {D : Nat} {r : Int32 × Mem} {M : Mem} {a1 : Int32} (hI : Inj shA G.2.1) (hD : 4 ≤ D) (h : F8_lines M a1 = some r) : MetX shA l G yX8_lines cX8_lines 6 (some .int) D [.ref 0, .int a1] M (some (.int r.1), r.2) :=
  X_met hI (by decide +kernel) (Nat.le_of_ble_eq_true rfl) (fun p e s m args below meth c F hr hlk => F8_lines_ok F hr hlk hD h)
-- KeepOurPlace.likely
def F8_likely_l24_b (rec24 : Mem → Int64 → Int32 → Option (Int64 × Mem)) (M : Mem) (x2 : Int64) (x4 : Int32) : Option (Int64 × Mem) :=
    if (M 34 8) ≤ x4 then
      Option.bind (F0_worth M) fun r7 =>
      Option.bind (F0_gain r7.2) fun r9 =>
      some ((x2 - ((100 : Int64) * (Int32.toInt64 (r7.1 - r9.1)))), r9.2)
    else
      if inb x4 6 = true then
      if inb (M 38 (Int32.toNatClampNeg x4)) 6 = true then
      rec24 M (x2 + (Int32.toInt64 ((M 7 (Int32.toNatClampNeg (M 38 (Int32.toNatClampNeg x4)))) * (M 8 (Int32.toNatClampNeg (M 38 (Int32.toNatClampNeg x4))))))) (x4 + (1 : Int32))
      else none
      else none
def F8_likely_l24 : Nat → Mem → Int64 → Int32 → Option (Int64 × Mem)
  | 0, _, _, _ => none
  | fu + 1, M, x2, x4 => F8_likely_l24_b (F8_likely_l24 fu) M x2 x4
def F8_likely (M : Mem) (a1 : Int32) : Option (Int64 × Mem) :=
    Option.bind (F8_readErrand M a1) fun r1 =>
    if ¬ r1.1 = 0 then
      Option.bind (F0_prepare r1.2) fun r4 =>
      F8_likely_l24 FUEL r4.2 (0 : Int64) (0 : Int32)
    else
      some ((-4611686018427387904 : Int64), r1.2)
set_option maxRecDepth 20000 in
theorem F8_likely_l24_bok {p : Program} {l : Launch} {e : Env} {s : State} {m : MethodId} {args : Array Value} {below : List Frame} {meth : Method} {c : Code} {G : GG} {D : Nat} {r : Int64 × Mem} {rec24 : Mem → Int64 → Int32 → Option (Int64 × Mem)} (F : FrP shA G p s m args c RX8 cX8_likely 6) (hr : meth.sig.returnType = (some .long)) (hlk : meth.locks = false) (hD : 7 ≤ D) (hrec24 : ∀ (M : Mem) (x2 : Int64) (x4 : Int32), rec24 M x2 x4 = some r → XJ shA p l e (rmX D) s m args below meth c 0 0 G 6 (MQ below (QcX shA G ((some (.long r.1), r.2) : Option Value × Mem).1 ((some (.long r.1), r.2) : Option Value × Mem).2) args s 0 0 (AW shA G.2.1)) 24 [(0, .ref 0), (2, .long x2), (4, .int x4)] [] M) {M : Mem} {x2 : Int64} {x4 : Int32} (h : F8_likely_l24_b rec24 M x2 x4 = some r) : XJ shA p l e (rmX D) s m args below meth c 0 0 G 6 (MQ below (QcX shA G ((some (.long r.1), r.2) : Option Value × Mem).1 ((some (.long r.1), r.2) : Option Value × Mem).2) args s 0 0 (AW shA G.2.1)) 24 [(0, .ref 0), (2, .long x2), (4, .int x4)] [] M := by
  unfold F8_likely_l24_b at h
  refine X_iload F dX8_likely_24 rfl ?_
  refine X_aload_n F dX8_likely_26 rfl ?_
  refine X_getr F ffRX8_53 dX8_likely_27 ?_
  refine X_geti (v := (M 34 8)) F ffRX8_215 dX8_likely_30 rfl ?_
  refine X_icmp_ge (tgt := 79) F dX8_likely_33 (by decide) (fun q6 => ?_) (fun q6 => ?_)
  · rw [if_pos q6] at h
    refine X_lload_n F dX8_likely_79 rfl ?_
    refine X_ldc2 F fcRX8_228 dX8_likely_80 ?_
    refine X_aload_n F dX8_likely_83 rfl ?_
    refine X_getr F ffRX8_53 dX8_likely_84 ?_
    obtain ⟨r7, h8, h⟩ := bndS h
    refine X_callV (ci := 34) (As := []) (rest := [.long (100 : Int64), .long x2]) F fkRX8_178 feX0_worth fvX0_worth ⟨_, _, _, rfl, rfl, rfl⟩ (F0_worth_met (D := D - 1) F.2.2.2.2.2.2.2.1 (by omega) h8) rfl rfl (Nat.le_of_ble_eq_true rfl) (rm_ok (by omega) (by decide)) dX8_likely_87 ?_
    show XJ shA p l e (rmX D) s m args below meth c 0 0 G 6 (MQ below (QcX shA G ((some (.long r.1), r.2) : Option Value × Mem).1 ((some (.long r.1), r.2) : Option Value × Mem).2) args s 0 0 (AW shA G.2.1)) 90 [(0, .ref 0), (2, .long x2), (4, .int x4)] [.int r7.1, .long (100 : Int64), .long x2] r7.2
    refine X_aload_n F dX8_likely_90 rfl ?_
    refine X_getr F ffRX8_53 dX8_likely_91 ?_
    obtain ⟨r9, h10, h⟩ := bndS h
    refine X_callV (ci := 34) (As := []) (rest := [.int r7.1, .long (100 : Int64), .long x2]) F fkRX8_175 feX0_gain fvX0_gain ⟨_, _, _, rfl, rfl, rfl⟩ (F0_gain_met (D := D - 1) F.2.2.2.2.2.2.2.1 (by omega) h10) rfl rfl (Nat.le_of_ble_eq_true rfl) (rm_ok (by omega) (by decide)) dX8_likely_94 ?_
    show XJ shA p l e (rmX D) s m args below meth c 0 0 G 6 (MQ below (QcX shA G ((some (.long r.1), r.2) : Option Value × Mem).1 ((some (.long r.1), r.2) : Option Value × Mem).2) args s 0 0 (AW shA G.2.1)) 97 [(0, .ref 0), (2, .long x2), (4, .int x4)] [.int r9.1, .int r7.1, .long (100 : Int64), .long x2] r9.2
    refine X_isub F dX8_likely_97 ?_
    refine X_i2l F dX8_likely_98 ?_
    refine X_lmul F dX8_likely_99 ?_
    refine X_lsub F dX8_likely_100 ?_
    exact X_lret F hr hlk (retL h) dX8_likely_101
  · rw [if_neg q6] at h
    refine X_aload_n F dX8_likely_36 rfl ?_
    refine X_getr F ffRX8_53 dX8_likely_37 ?_
    refine X_getr F ffRX8_217 dX8_likely_40 ?_
    refine X_iload F dX8_likely_43 rfl ?_
    obtain ⟨q11, h⟩ := ifS h
    refine X_iald (j := (Int32.toNatClampNeg x4)) (v := (M 38 (Int32.toNatClampNeg x4))) F rfl (inbV q11) rfl rfl dX8_likely_45 ?_
    refine X_istore F dX8_likely_46 (by decide) rfl ?_
    refine X_lload_n F dX8_likely_48 rfl ?_
    refine X_aload_n F dX8_likely_49 rfl ?_
    refine X_getr F ffRX8_19 dX8_likely_50 ?_
    refine X_getr F ffRX8_126 dX8_likely_53 ?_
    refine X_iload F dX8_likely_56 rfl ?_
    obtain ⟨q12, h⟩ := ifS h
    refine X_iald (j := (Int32.toNatClampNeg (M 38 (Int32.toNatClampNeg x4)))) (v := (M 7 (Int32.toNatClampNeg (M 38 (Int32.toNatClampNeg x4))))) F rfl (inbV q12) rfl rfl dX8_likely_58 ?_
    refine X_aload_n F dX8_likely_59 rfl ?_
    refine X_getr F ffRX8_19 dX8_likely_60 ?_
    refine X_getr F ffRX8_129 dX8_likely_63 ?_
    refine X_iload F dX8_likely_66 rfl ?_
    refine X_iald (j := (Int32.toNatClampNeg (M 38 (Int32.toNatClampNeg x4)))) (v := (M 8 (Int32.toNatClampNeg (M 38 (Int32.toNatClampNeg x4))))) F rfl (inbV q12) rfl rfl dX8_likely_68 ?_
    refine X_imul F dX8_likely_69 ?_
    refine X_i2l F dX8_likely_70 ?_
    refine X_ladd F dX8_likely_71 ?_
    refine X_lstore_n F dX8_likely_72 (by decide) rfl ?_
    refine X_iinc F dX8_likely_73 rfl (v := (1 : Int32)) rfl (by decide) rfl ?_
    refine X_goto (tgt := 24) F dX8_likely_76 (by decide) ?_
    refine X_pick [3, 1, 0] rfl ?_
    exact hrec24 _ _ _ h
set_option maxRecDepth 20000 in
theorem F8_likely_l24_ok {p : Program} {l : Launch} {e : Env} {s : State} {m : MethodId} {args : Array Value} {below : List Frame} {meth : Method} {c : Code} {G : GG} {D : Nat} {r : Int64 × Mem} (F : FrP shA G p s m args c RX8 cX8_likely 6) (hr : meth.sig.returnType = (some .long)) (hlk : meth.locks = false) (hD : 7 ≤ D) : ∀ (fu : Nat) (M : Mem) (x2 : Int64) (x4 : Int32), F8_likely_l24 fu M x2 x4 = some r → XJ shA p l e (rmX D) s m args below meth c 0 0 G 6 (MQ below (QcX shA G ((some (.long r.1), r.2) : Option Value × Mem).1 ((some (.long r.1), r.2) : Option Value × Mem).2) args s 0 0 (AW shA G.2.1)) 24 [(0, .ref 0), (2, .long x2), (4, .int x4)] [] M := by
  intro fu
  induction fu with
  | zero => intro M x2 x4 h; cases h
  | succ fu ih => intro M x2 x4 h; exact F8_likely_l24_bok F hr hlk hD (fun M x2 x4 => ih M x2 x4) h
set_option maxRecDepth 20000 in
theorem F8_likely_ok {p : Program} {l : Launch} {e : Env} {s : State} {m : MethodId} {args : Array Value} {below : List Frame} {meth : Method} {c : Code} {G : GG} {D : Nat} {r : Int64 × Mem} (F : FrP shA G p s m args c RX8 cX8_likely 6) (hr : meth.sig.returnType = (some .long)) (hlk : meth.locks = false) (hD : 7 ≤ D) {M : Mem} {a1 : Int32} (h : F8_likely M a1 = some r) : XJ shA p l e (rmX D) s m args below meth c 0 0 G 6 (MQ below (QcX shA G ((some (.long r.1), r.2) : Option Value × Mem).1 ((some (.long r.1), r.2) : Option Value × Mem).2) args s 0 0 (AW shA G.2.1)) 0 [(0, .ref 0), (1, .int a1)] [] M := by
  unfold F8_likely at h
  refine X_aload_n F dX8_likely_0 rfl ?_
  refine X_iload_n F dX8_likely_1 rfl ?_
  obtain ⟨r1, h2, h⟩ := bndS h
  refine X_callV (ci := 0) (As := [.int a1]) (rest := []) F fkRX8_162 feX8_readErrand fvX8_readErrand ⟨_, _, _, rfl, rfl, rfl⟩ (F8_readErrand_met (D := D - 1) F.2.2.2.2.2.2.2.1 (by omega) h2) rfl rfl (Nat.le_of_ble_eq_true rfl) (rm_ok (by omega) (by decide)) dX8_likely_2 ?_
  show XJ shA p l e (rmX D) s m args below meth c 0 0 G 6 (MQ below (QcX shA G ((some (.long r.1), r.2) : Option Value × Mem).1 ((some (.long r.1), r.2) : Option Value × Mem).2) args s 0 0 (AW shA G.2.1)) 5 [(0, .ref 0), (1, .int a1)] [.int r1.1] r1.2
  refine X_if_ne (tgt := 12) F dX8_likely_5 (by decide) (fun q3 => ?_) (fun q3 => ?_)
  · rw [if_pos q3] at h
    refine X_aload_n F dX8_likely_12 rfl ?_
    refine X_getr F ffRX8_53 dX8_likely_13 ?_
    obtain ⟨r4, h5, h⟩ := bndS h
    refine X_callV (ci := 34) (As := []) (rest := []) F fkRX8_166 feX0_prepare fvX0_prepare ⟨_, _, _, rfl, rfl, rfl⟩ (F0_prepare_met (D := D - 1) F.2.2.2.2.2.2.2.1 (by omega) h5) rfl rfl (Nat.le_of_ble_eq_true rfl) (rm_ok (by omega) (by decide)) dX8_likely_16 ?_
    show XJ shA p l e (rmX D) s m args below meth c 0 0 G 6 (MQ below (QcX shA G ((some (.long r.1), r.2) : Option Value × Mem).1 ((some (.long r.1), r.2) : Option Value × Mem).2) args s 0 0 (AW shA G.2.1)) 19 [(0, .ref 0), (1, .int a1)] [] r4.2
    refine X_lconst F dX8_likely_19 (v := (0 : Int64)) rfl ?_
    refine X_lstore_n F dX8_likely_20 (by decide) rfl ?_
    refine X_iconst F dX8_likely_21 (v := (0 : Int32)) rfl ?_
    refine X_istore F dX8_likely_22 (by decide) rfl ?_
    refine X_pick [2, 1, 0] rfl ?_
    exact F8_likely_l24_ok F hr hlk hD FUEL _ _ _ h
  · rw [if_neg (fun z => z q3)] at h
    refine X_ldc2 F fcRX8_226 dX8_likely_8 ?_
    exact X_lret F hr hlk (retL h) dX8_likely_11
set_option maxRecDepth 20000 in
theorem F8_likely_met {l : Launch} {G : GG} {D : Nat} {r : Int64 × Mem} {M : Mem} {a1 : Int32} (hI : Inj shA G.2.1) (hD : 7 ≤ D) (h : F8_likely M a1 = some r) : MetX shA l G yX8_likely cX8_likely 6 (some .long) D [.ref 0, .int a1] M (some (.long r.1), r.2) :=
  X_met hI (by decide +kernel) (Nat.le_of_ble_eq_true rfl) (fun p e s m args below meth c F hr hlk => F8_likely_ok F hr hlk hD h)
-- KeepOurPlace.slip
def F8_slip (M : Mem) (a1 : Int32) (a2 : Int32) : Option (Int32 × Mem) :=
    Option.bind (F5_holds M a1) fun r1 =>
    if r1.1 = 0 then
      some ((-2 : Int32), r1.2)
    else
      if a2 < 0 then
        some ((-2 : Int32), r1.2)
      else
        if a2 ≤ (1 : Int32) then
          Option.bind (F5_isMissing r1.2 a1) fun r6 =>
          if r6.1 = 0 then
            if inb a1 4 = true then
            if ((r6.2 44 (Int32.toNatClampNeg a1)) - (1 : Int32)) < 0 then
              some ((-2 : Int32), r6.2)
            else
              Option.bind (F0_takeRow r6.2 (46 + (Int32.toNatClampNeg a1)) 40 ((r6.2 44 (Int32.toNatClampNeg a1)) - (1 : Int32))) fun r11 =>
              if ¬ r11.1 = 0 then
                if inb ((r6.2 44 (Int32.toNatClampNeg a1)) - (1 : Int32)) 40 = true then
                Option.bind (F0_seek r11.2 (r11.2 (46 + (Int32.toNatClampNeg a1)) (Int32.toNatClampNeg ((r6.2 44 (Int32.toNatClampNeg a1)) - (1 : Int32))))) fun r15 =>
                Option.bind (F0_bits r15.2) fun r17 =>
                Option.bind (F0_survey r17.2 r17.1) fun r19 =>
                if ¬ a2 = 0 then
                  some ((r19.2 34 15), r19.2)
                else
                  some ((r19.2 34 14), r19.2)
                else none
              else
                some ((-2 : Int32), r11.2)
            else none
          else
            some ((-11 : Int32), r6.2)
        else
          some ((-2 : Int32), r1.2)
set_option maxRecDepth 20000 in
theorem F8_slip_ok {p : Program} {l : Launch} {e : Env} {s : State} {m : MethodId} {args : Array Value} {below : List Frame} {meth : Method} {c : Code} {G : GG} {D : Nat} {r : Int32 × Mem} (F : FrP shA G p s m args c RX8 cX8_slip 4) (hr : meth.sig.returnType = (some .int)) (hlk : meth.locks = false) (hD : 16 ≤ D) {M : Mem} {a1 : Int32} {a2 : Int32} (h : F8_slip M a1 a2 = some r) : XJ shA p l e (rmX D) s m args below meth c 0 0 G 4 (MQ below (QcX shA G ((some (.int r.1), r.2) : Option Value × Mem).1 ((some (.int r.1), r.2) : Option Value × Mem).2) args s 0 0 (AW shA G.2.1)) 0 [(0, .ref 0), (1, .int a1), (2, .int a2)] [] M := by
  unfold F8_slip at h
  refine X_aload_n F dX8_slip_0 rfl ?_
  refine X_getr F ffRX8_60 dX8_slip_1 ?_
  refine X_iload_n F dX8_slip_4 rfl ?_
  obtain ⟨r1, h2, h⟩ := bndS h
  refine X_callV (ci := 42) (As := [.int a1]) (rest := []) F fkRX8_230 feX5_holds fvX5_holds ⟨_, _, _, rfl, rfl, rfl⟩ (F5_holds_met (D := D - 1) F.2.2.2.2.2.2.2.1 (by omega) h2) rfl rfl (Nat.le_of_ble_eq_true rfl) (rm_ok (by omega) (by decide)) dX8_slip_5 ?_
  show XJ shA p l e (rmX D) s m args below meth c 0 0 G 4 (MQ below (QcX shA G ((some (.int r.1), r.2) : Option Value × Mem).1 ((some (.int r.1), r.2) : Option Value × Mem).2) args s 0 0 (AW shA G.2.1)) 8 [(0, .ref 0), (1, .int a1), (2, .int a2)] [.int r1.1] r1.2
  refine X_if_eq (tgt := 20) F dX8_slip_8 (by decide) (fun q3 => ?_) (fun q3 => ?_)
  · rw [if_pos q3] at h
    refine X_bipush F dX8_slip_20 (v := (-2 : Int32)) rfl ?_
    exact X_iret F hr hlk (retI h) dX8_slip_22
  · rw [if_neg q3] at h
    refine X_iload_n F dX8_slip_11 rfl ?_
    refine X_if_lt (tgt := 20) F dX8_slip_12 (by decide) (fun q4 => ?_) (fun q4 => ?_)
    · rw [if_pos q4] at h
      refine X_bipush F dX8_slip_20 (v := (-2 : Int32)) rfl ?_
      exact X_iret F hr hlk (retI h) dX8_slip_22
    · rw [if_neg q4] at h
      refine X_iload_n F dX8_slip_15 rfl ?_
      refine X_iconst F dX8_slip_16 (v := (1 : Int32)) rfl ?_
      refine X_icmp_le (tgt := 23) F dX8_slip_17 (by decide) (fun q5 => ?_) (fun q5 => ?_)
      · rw [if_pos q5] at h
        refine X_aload_n F dX8_slip_23 rfl ?_
        refine X_getr F ffRX8_60 dX8_slip_24 ?_
        refine X_iload_n F dX8_slip_27 rfl ?_
        obtain ⟨r6, h7, h⟩ := bndS h
        refine X_callV (ci := 42) (As := [.int a1]) (rest := []) F fkRX8_231 feX5_isMissing fvX5_isMissing ⟨_, _, _, rfl, rfl, rfl⟩ (F5_isMissing_met (D := D - 1) F.2.2.2.2.2.2.2.1 (by omega) h7) rfl rfl (Nat.le_of_ble_eq_true rfl) (rm_ok (by omega) (by decide)) dX8_slip_28 ?_
        show XJ shA p l e (rmX D) s m args below meth c 0 0 G 4 (MQ below (QcX shA G ((some (.int r.1), r.2) : Option Value × Mem).1 ((some (.int r.1), r.2) : Option Value × Mem).2) args s 0 0 (AW shA G.2.1)) 31 [(0, .ref 0), (1, .int a1), (2, .int a2)] [.int r6.1] r6.2
        refine X_if_eq (tgt := 37) F dX8_slip_31 (by decide) (fun q8 => ?_) (fun q8 => ?_)
        · rw [if_pos q8] at h
          refine X_aload_n F dX8_slip_37 rfl ?_
          refine X_getr F ffRX8_60 dX8_slip_38 ?_
          refine X_getr F ffRX8_234 dX8_slip_41 ?_
          refine X_iload_n F dX8_slip_44 rfl ?_
          obtain ⟨q9, h⟩ := ifS h
          refine X_iald (j := (Int32.toNatClampNeg a1)) (v := (r6.2 44 (Int32.toNatClampNeg a1))) F rfl (inbV q9) rfl rfl dX8_slip_45 ?_
          refine X_iconst F dX8_slip_46 (v := (1 : Int32)) rfl ?_
          refine X_isub F dX8_slip_47 ?_
          refine X_istore_n F dX8_slip_48 (by decide) rfl ?_
          refine X_iload_n F dX8_slip_49 rfl ?_
          refine X_if_lt (tgt := 73) F dX8_slip_50 (by decide) (fun q10 => ?_) (fun q10 => ?_)
          · rw [if_pos q10] at h
            refine X_bipush F dX8_slip_73 (v := (-2 : Int32)) rfl ?_
            exact X_iret F hr hlk (retI h) dX8_slip_75
          · rw [if_neg q10] at h
            refine X_aload_n F dX8_slip_53 rfl ?_
            refine X_getr F ffRX8_53 dX8_slip_54 ?_
            refine X_aload_n F dX8_slip_57 rfl ?_
            refine X_getr F ffRX8_60 dX8_slip_58 ?_
            refine X_getr F ffRX8_237 dX8_slip_61 ?_
            refine X_iload_n F dX8_slip_64 rfl ?_
            refine X_aald (b := 46) F rfl (inbV q9) rfl dX8_slip_65 ?_
            refine X_iload_n F dX8_slip_66 rfl ?_
            obtain ⟨r11, h12, h⟩ := bndS h
            refine X_callV (ci := 34) (As := [.ref (46 + (Int32.toNatClampNeg a1)), .int ((r6.2 44 (Int32.toNatClampNeg a1)) - (1 : Int32))]) (rest := []) F fkRX8_241 feX0_takeRow fvX0_takeRow ⟨_, _, _, rfl, rfl, rfl⟩ (F0_takeRow_met (D := D - 1) F.2.2.2.2.2.2.2.1 (by omega) (shR46 (inbV q9)) h12) rfl rfl (Nat.le_of_ble_eq_true rfl) (rm_ok (by omega) (by decide)) dX8_slip_67 ?_
            show XJ shA p l e (rmX D) s m args below meth c 0 0 G 4 (MQ below (QcX shA G ((some (.int r.1), r.2) : Option Value × Mem).1 ((some (.int r.1), r.2) : Option Value × Mem).2) args s 0 0 (AW shA G.2.1)) 70 [(3, .int ((r6.2 44 (Int32.toNatClampNeg a1)) - (1 : Int32))), (0, .ref 0), (1, .int a1), (2, .int a2)] [.int r11.1] r11.2
            refine X_if_ne (tgt := 76) F dX8_slip_70 (by decide) (fun q13 => ?_) (fun q13 => ?_)
            · rw [if_pos q13] at h
              refine X_aload_n F dX8_slip_76 rfl ?_
              refine X_getr F ffRX8_53 dX8_slip_77 ?_
              refine X_aload_n F dX8_slip_80 rfl ?_
              refine X_getr F ffRX8_60 dX8_slip_81 ?_
              refine X_getr F ffRX8_237 dX8_slip_84 ?_
              refine X_iload_n F dX8_slip_87 rfl ?_
              refine X_aald (b := 46) F rfl (inbV q9) rfl dX8_slip_88 ?_
              refine X_iload_n F dX8_slip_89 rfl ?_
              obtain ⟨q14, h⟩ := ifS h
              refine X_iald (j := (Int32.toNatClampNeg ((r6.2 44 (Int32.toNatClampNeg a1)) - (1 : Int32)))) (v := (r11.2 (46 + (Int32.toNatClampNeg a1)) (Int32.toNatClampNeg ((r6.2 44 (Int32.toNatClampNeg a1)) - (1 : Int32))))) F (shR46 (inbV q9)) (inbV q14) rfl rfl dX8_slip_90 ?_
              obtain ⟨r15, h16, h⟩ := bndS h
              refine X_callV (ci := 34) (As := [.int (r11.2 (46 + (Int32.toNatClampNeg a1)) (Int32.toNatClampNeg ((r6.2 44 (Int32.toNatClampNeg a1)) - (1 : Int32))))]) (rest := []) F fkRX8_245 feX0_seek fvX0_seek ⟨_, _, _, rfl, rfl, rfl⟩ (F0_seek_met (D := D - 1) F.2.2.2.2.2.2.2.1 (by omega) h16) rfl rfl (Nat.le_of_ble_eq_true rfl) (rm_ok (by omega) (by decide)) dX8_slip_91 ?_
              show XJ shA p l e (rmX D) s m args below meth c 0 0 G 4 (MQ below (QcX shA G ((some (.int r.1), r.2) : Option Value × Mem).1 ((some (.int r.1), r.2) : Option Value × Mem).2) args s 0 0 (AW shA G.2.1)) 94 [(3, .int ((r6.2 44 (Int32.toNatClampNeg a1)) - (1 : Int32))), (0, .ref 0), (1, .int a1), (2, .int a2)] [] r15.2
              refine X_aload_n F dX8_slip_94 rfl ?_
              refine X_getr F ffRX8_53 dX8_slip_95 ?_
              refine X_aload_n F dX8_slip_98 rfl ?_
              refine X_getr F ffRX8_53 dX8_slip_99 ?_
              obtain ⟨r17, h18, h⟩ := bndS h
              refine X_callV (ci := 34) (As := []) (rest := [.ref 34]) F fkRX8_248 feX0_bits fvX0_bits ⟨_, _, _, rfl, rfl, rfl⟩ (F0_bits_met (D := D - 1) F.2.2.2.2.2.2.2.1 (by omega) h18) rfl rfl (Nat.le_of_ble_eq_true rfl) (rm_ok (by omega) (by decide)) dX8_slip_102 ?_
              show XJ shA p l e (rmX D) s m args below meth c 0 0 G 4 (MQ below (QcX shA G ((some (.int r.1), r.2) : Option Value × Mem).1 ((some (.int r.1), r.2) : Option Value × Mem).2) args s 0 0 (AW shA G.2.1)) 105 [(3, .int ((r6.2 44 (Int32.toNatClampNeg a1)) - (1 : Int32))), (0, .ref 0), (1, .int a1), (2, .int a2)] [.int r17.1, .ref 34] r17.2
              obtain ⟨r19, h20, h⟩ := bndS h
              refine X_callV (ci := 34) (As := [.int r17.1]) (rest := []) F fkRX8_190 feX0_survey fvX0_survey ⟨_, _, _, rfl, rfl, rfl⟩ (F0_survey_met (D := D - 1) F.2.2.2.2.2.2.2.1 (by omega) h20) rfl rfl (Nat.le_of_ble_eq_true rfl) (rm_ok (by omega) (by decide)) dX8_slip_105 ?_
              show XJ shA p l e (rmX D) s m args below meth c 0 0 G 4 (MQ below (QcX shA G ((some (.int r.1), r.2) : Option Value × Mem).1 ((some (.int r.1), r.2) : Option Value × Mem).2) args s 0 0 (AW shA G.2.1)) 108 [(3, .int ((r6.2 44 (Int32.toNatClampNeg a1)) - (1 : Int32))), (0, .ref 0), (1, .int a1), (2, .int a2)] [] r19.2
              refine X_iload_n F dX8_slip_108 rfl ?_
              refine X_if_ne (tgt := 122) F dX8_slip_109 (by decide) (fun q21 => ?_) (fun q21 => ?_)
              · rw [if_pos q21] at h
                refine X_aload_n F dX8_slip_122 rfl ?_
                refine X_getr F ffRX8_53 dX8_slip_123 ?_
                refine X_geti (v := (r19.2 34 15)) F ffRX8_254 dX8_slip_126 rfl ?_
                exact X_iret F hr hlk (retI h) dX8_slip_129
              · rw [if_neg (fun z => z q21)] at h
                refine X_aload_n F dX8_slip_112 rfl ?_
                refine X_getr F ffRX8_53 dX8_slip_113 ?_
                refine X_geti (v := (r19.2 34 14)) F ffRX8_251 dX8_slip_116 rfl ?_
                refine X_goto (tgt := 129) F dX8_slip_119 (by decide) ?_
                exact X_iret F hr hlk (retI h) dX8_slip_129
            · rw [if_neg (fun z => z q13)] at h
              refine X_bipush F dX8_slip_73 (v := (-2 : Int32)) rfl ?_
              exact X_iret F hr hlk (retI h) dX8_slip_75
        · rw [if_neg q8] at h
          refine X_bipush F dX8_slip_34 (v := (-11 : Int32)) rfl ?_
          exact X_iret F hr hlk (retI h) dX8_slip_36
      · rw [if_neg q5] at h
        refine X_bipush F dX8_slip_20 (v := (-2 : Int32)) rfl ?_
        exact X_iret F hr hlk (retI h) dX8_slip_22
set_option maxRecDepth 20000 in
theorem F8_slip_met {l : Launch} {G : GG} {D : Nat} {r : Int32 × Mem} {M : Mem} {a1 : Int32} {a2 : Int32} (hI : Inj shA G.2.1) (hD : 16 ≤ D) (h : F8_slip M a1 a2 = some r) : MetX shA l G yX8_slip cX8_slip 4 (some .int) D [.ref 0, .int a1, .int a2] M (some (.int r.1), r.2) :=
  X_met hI (by decide +kernel) (Nat.le_of_ble_eq_true rfl) (fun p e s m args below meth c F hr hlk => F8_slip_ok F hr hlk hD h)
-- KeepOurPlace.ownSeconds
def F8_ownSeconds (M : Mem) (a1 : Int32) (a2 : Int32) : Option (Int64 × Mem) :=
    if a2 < 0 then
      some ((0 : Int64), M)
    else
      if a2 < (40 : Int32) then
        if inb a1 4 = true then
        if inb a2 40 = true then
        if ¬ a2 = 0 then
          if inb (a2 - (1 : Int32)) 40 = true then
          some (((Int32.toInt64 (M (46 + (Int32.toNatClampNeg a1)) (Int32.toNatClampNeg a2))) - (Int32.toInt64 (M (46 + (Int32.toNatClampNeg a1)) (Int32.toNatClampNeg (a2 - (1 : Int32)))))), M)
          else none
        else
          some ((Int32.toInt64 (M (46 + (Int32.toNatClampNeg a1)) (Int32.toNatClampNeg a2))), M)
        else none
        else none
      else
        some ((0 : Int64), M)
set_option maxRecDepth 20000 in
theorem F8_ownSeconds_ok {p : Program} {l : Launch} {e : Env} {s : State} {m : MethodId} {args : Array Value} {below : List Frame} {meth : Method} {c : Code} {G : GG} {D : Nat} {r : Int64 × Mem} (F : FrP shA G p s m args c RX8 cX8_ownSeconds 5) (hr : meth.sig.returnType = (some .long)) (hlk : meth.locks = false) (hD : 1 ≤ D) {M : Mem} {a1 : Int32} {a2 : Int32} (h : F8_ownSeconds M a1 a2 = some r) : XJ shA p l e (rmX D) s m args below meth c 0 0 G 5 (MQ below (QcX shA G ((some (.long r.1), r.2) : Option Value × Mem).1 ((some (.long r.1), r.2) : Option Value × Mem).2) args s 0 0 (AW shA G.2.1)) 0 [(0, .ref 0), (1, .int a1), (2, .int a2)] [] M := by
  unfold F8_ownSeconds at h
  refine X_iload_n F dX8_ownSeconds_0 rfl ?_
  refine X_if_lt (tgt := 10) F dX8_ownSeconds_1 (by decide) (fun q1 => ?_) (fun q1 => ?_)
  · rw [if_pos q1] at h
    refine X_lconst F dX8_ownSeconds_10 (v := (0 : Int64)) rfl ?_
    exact X_lret F hr hlk (retL h) dX8_ownSeconds_11
  · rw [if_neg q1] at h
    refine X_iload_n F dX8_ownSeconds_4 rfl ?_
    refine X_bipush F dX8_ownSeconds_5 (v := (40 : Int32)) rfl ?_
    refine X_icmp_lt (tgt := 12) F dX8_ownSeconds_7 (by decide) (fun q2 => ?_) (fun q2 => ?_)
    · rw [if_pos q2] at h
      refine X_aload_n F dX8_ownSeconds_12 rfl ?_
      refine X_getr F ffRX8_60 dX8_ownSeconds_13 ?_
      refine X_getr F ffRX8_237 dX8_ownSeconds_16 ?_
      refine X_iload_n F dX8_ownSeconds_19 rfl ?_
      obtain ⟨q3, h⟩ := ifS h
      refine X_aald (b := 46) F rfl (inbV q3) rfl dX8_ownSeconds_20 ?_
      refine X_iload_n F dX8_ownSeconds_21 rfl ?_
      obtain ⟨q4, h⟩ := ifS h
      refine X_iald (j := (Int32.toNatClampNeg a2)) (v := (M (46 + (Int32.toNatClampNeg a1)) (Int32.toNatClampNeg a2))) F (shR46 (inbV q3)) (inbV q4) rfl rfl dX8_ownSeconds_22 ?_
      refine X_i2l F dX8_ownSeconds_23 ?_
      refine X_lstore_n F dX8_ownSeconds_24 (by decide) rfl ?_
      refine X_iload_n F dX8_ownSeconds_25 rfl ?_
      refine X_if_ne (tgt := 33) F dX8_ownSeconds_26 (by decide) (fun q5 => ?_) (fun q5 => ?_)
      · rw [if_pos q5] at h
        refine X_lload_n F dX8_ownSeconds_33 rfl ?_
        refine X_aload_n F dX8_ownSeconds_34 rfl ?_
        refine X_getr F ffRX8_60 dX8_ownSeconds_35 ?_
        refine X_getr F ffRX8_237 dX8_ownSeconds_38 ?_
        refine X_iload_n F dX8_ownSeconds_41 rfl ?_
        refine X_aald (b := 46) F rfl (inbV q3) rfl dX8_ownSeconds_42 ?_
        refine X_iload_n F dX8_ownSeconds_43 rfl ?_
        refine X_iconst F dX8_ownSeconds_44 (v := (1 : Int32)) rfl ?_
        refine X_isub F dX8_ownSeconds_45 ?_
        obtain ⟨q6, h⟩ := ifS h
        refine X_iald (j := (Int32.toNatClampNeg (a2 - (1 : Int32)))) (v := (M (46 + (Int32.toNatClampNeg a1)) (Int32.toNatClampNeg (a2 - (1 : Int32))))) F (shR46 (inbV q3)) (inbV q6) rfl rfl dX8_ownSeconds_46 ?_
        refine X_i2l F dX8_ownSeconds_47 ?_
        refine X_lsub F dX8_ownSeconds_48 ?_
        exact X_lret F hr hlk (retL h) dX8_ownSeconds_49
      · rw [if_neg (fun z => z q5)] at h
        refine X_lload_n F dX8_ownSeconds_29 rfl ?_
        refine X_goto (tgt := 49) F dX8_ownSeconds_30 (by decide) ?_
        exact X_lret F hr hlk (retL h) dX8_ownSeconds_49
    · rw [if_neg q2] at h
      refine X_lconst F dX8_ownSeconds_10 (v := (0 : Int64)) rfl ?_
      exact X_lret F hr hlk (retL h) dX8_ownSeconds_11
set_option maxRecDepth 20000 in
theorem F8_ownSeconds_met {l : Launch} {G : GG} {D : Nat} {r : Int64 × Mem} {M : Mem} {a1 : Int32} {a2 : Int32} (hI : Inj shA G.2.1) (hD : 1 ≤ D) (h : F8_ownSeconds M a1 a2 = some r) : MetX shA l G yX8_ownSeconds cX8_ownSeconds 5 (some .long) D [.ref 0, .int a1, .int a2] M (some (.long r.1), r.2) :=
  X_met hI (by decide +kernel) (Nat.le_of_ble_eq_true rfl) (fun p e s m args below meth c F hr hlk => F8_ownSeconds_ok F hr hlk hD h)
-- KeepOurPlace.kindsOf
def F8_kindsOf_j39 (rec6 : Mem → Int32 → Int64 → Int32 → Int32 → Option (Int32 × Mem)) (M : Mem) (x1 : Int32) (x2 : Int64) (x4 : Int32) (x5 : Int32) : Option (Int32 × Mem) :=
    rec6 M x1 x2 x4 (x5 + (1 : Int32))
def F8_kindsOf_l6_b (rec6 : Mem → Int32 → Int64 → Int32 → Int32 → Option (Int32 × Mem)) (M : Mem) (x1 : Int32) (x2 : Int64) (x4 : Int32) (x5 : Int32) : Option (Int32 × Mem) :=
    if (6 : Int32) ≤ x5 then
      some (x4, M)
    else
      Option.bind (F7_seconds M x5 x1 x1) fun r2 =>
      if ¬ (lg_cmp (Int32.toInt64 r2.1) x2) = 0 then
        F8_kindsOf_j39 rec6 r2.2 x1 x2 x4 x5
      else
        F8_kindsOf_j39 rec6 r2.2 x1 x2 (x4 ||| ((1 : Int32) <<< (x5 &&& 31))) x5
def F8_kindsOf_l6 : Nat → Mem → Int32 → Int64 → Int32 → Int32 → Option (Int32 × Mem)
  | 0, _, _, _, _, _ => none
  | fu + 1, M, x1, x2, x4, x5 => F8_kindsOf_l6_b (F8_kindsOf_l6 fu) M x1 x2 x4 x5
def F8_kindsOf (M : Mem) (a1 : Int32) (a2 : Int64) : Option (Int32 × Mem) :=
    F8_kindsOf_l6 FUEL M a1 a2 (0 : Int32) (0 : Int32)
set_option maxRecDepth 20000 in
theorem F8_kindsOf_j39_ok {p : Program} {l : Launch} {e : Env} {s : State} {m : MethodId} {args : Array Value} {below : List Frame} {meth : Method} {c : Code} {G : GG} {D : Nat} {r : Int32 × Mem} {rec6 : Mem → Int32 → Int64 → Int32 → Int32 → Option (Int32 × Mem)} (F : FrP shA G p s m args c RX8 cX8_kindsOf 6) (hr : meth.sig.returnType = (some .int)) (hlk : meth.locks = false) (hD : 4 ≤ D) (hrec6 : ∀ (M : Mem) (x1 : Int32) (x2 : Int64) (x4 : Int32) (x5 : Int32), rec6 M x1 x2 x4 x5 = some r → XJ shA p l e (rmX D) s m args below meth c 0 0 G 6 (MQ below (QcX shA G ((some (.int r.1), r.2) : Option Value × Mem).1 ((some (.int r.1), r.2) : Option Value × Mem).2) args s 0 0 (AW shA G.2.1)) 6 [(0, .ref 0), (1, .int x1), (2, .long x2), (4, .int x4), (5, .int x5)] [] M) {M : Mem} {x1 : Int32} {x2 : Int64} {x4 : Int32} {x5 : Int32} (h : F8_kindsOf_j39 rec6 M x1 x2 x4 x5 = some r) : XJ shA p l e (rmX D) s m args below meth c 0 0 G 6 (MQ below (QcX shA G ((some (.int r.1), r.2) : Option Value × Mem).1 ((some (.int r.1), r.2) : Option Value × Mem).2) args s 0 0 (AW shA G.2.1)) 39 [(0, .ref 0), (1, .int x1), (2, .long x2), (4, .int x4), (5, .int x5)] [] M := by
  unfold F8_kindsOf_j39 at h
  refine X_iinc F dX8_kindsOf_39 rfl (v := (1 : Int32)) rfl (by decide) rfl ?_
  refine X_goto (tgt := 6) F dX8_kindsOf_42 (by decide) ?_
  refine X_pick [1, 2, 3, 4, 0] rfl ?_
  exact hrec6 _ _ _ _ _ h
set_option maxRecDepth 20000 in
theorem F8_kindsOf_l6_bok {p : Program} {l : Launch} {e : Env} {s : State} {m : MethodId} {args : Array Value} {below : List Frame} {meth : Method} {c : Code} {G : GG} {D : Nat} {r : Int32 × Mem} {rec6 : Mem → Int32 → Int64 → Int32 → Int32 → Option (Int32 × Mem)} (F : FrP shA G p s m args c RX8 cX8_kindsOf 6) (hr : meth.sig.returnType = (some .int)) (hlk : meth.locks = false) (hD : 4 ≤ D) (hrec6 : ∀ (M : Mem) (x1 : Int32) (x2 : Int64) (x4 : Int32) (x5 : Int32), rec6 M x1 x2 x4 x5 = some r → XJ shA p l e (rmX D) s m args below meth c 0 0 G 6 (MQ below (QcX shA G ((some (.int r.1), r.2) : Option Value × Mem).1 ((some (.int r.1), r.2) : Option Value × Mem).2) args s 0 0 (AW shA G.2.1)) 6 [(0, .ref 0), (1, .int x1), (2, .long x2), (4, .int x4), (5, .int x5)] [] M) {M : Mem} {x1 : Int32} {x2 : Int64} {x4 : Int32} {x5 : Int32} (h : F8_kindsOf_l6_b rec6 M x1 x2 x4 x5 = some r) : XJ shA p l e (rmX D) s m args below meth c 0 0 G 6 (MQ below (QcX shA G ((some (.int r.1), r.2) : Option Value × Mem).1 ((some (.int r.1), r.2) : Option Value × Mem).2) args s 0 0 (AW shA G.2.1)) 6 [(0, .ref 0), (1, .int x1), (2, .long x2), (4, .int x4), (5, .int x5)] [] M := by
  unfold F8_kindsOf_l6_b at h
  refine X_iload F dX8_kindsOf_6 rfl ?_
  refine X_bipush F dX8_kindsOf_8 (v := (6 : Int32)) rfl ?_
  refine X_icmp_ge (tgt := 45) F dX8_kindsOf_10 (by decide) (fun q1 => ?_) (fun q1 => ?_)
  · rw [if_pos q1] at h
    refine X_iload F dX8_kindsOf_45 rfl ?_
    exact X_iret F hr hlk (retI h) dX8_kindsOf_47
  · rw [if_neg q1] at h
    refine X_aload_n F dX8_kindsOf_13 rfl ?_
    refine X_getr F ffRX8_44 dX8_kindsOf_14 ?_
    refine X_iload F dX8_kindsOf_17 rfl ?_
    refine X_iload_n F dX8_kindsOf_19 rfl ?_
    refine X_iload_n F dX8_kindsOf_20 rfl ?_
    obtain ⟨r2, h3, h⟩ := bndS h
    refine X_callV (ci := 33) (As := [.int x5, .int x1, .int x1]) (rest := []) F fkRX8_135 feX7_seconds fvX7_seconds ⟨_, _, _, rfl, rfl, rfl⟩ (F7_seconds_met (D := D - 1) F.2.2.2.2.2.2.2.1 (by omega) h3) rfl rfl (Nat.le_of_ble_eq_true rfl) (rm_ok (by omega) (by decide)) dX8_kindsOf_21 ?_
    show XJ shA p l e (rmX D) s m args below meth c 0 0 G 6 (MQ below (QcX shA G ((some (.int r.1), r.2) : Option Value × Mem).1 ((some (.int r.1), r.2) : Option Value × Mem).2) args s 0 0 (AW shA G.2.1)) 24 [(0, .ref 0), (1, .int x1), (2, .long x2), (4, .int x4), (5, .int x5)] [.int r2.1] r2.2
    refine X_i2l F dX8_kindsOf_24 ?_
    refine X_lload_n F dX8_kindsOf_25 rfl ?_
    refine X_lcmp F dX8_kindsOf_26 ?_
    refine X_if_ne (tgt := 39) F dX8_kindsOf_27 (by decide) (fun q4 => ?_) (fun q4 => ?_)
    · rw [if_pos q4] at h
      exact F8_kindsOf_j39_ok F hr hlk hD hrec6 h
    · rw [if_neg (fun z => z q4)] at h
      refine X_iload F dX8_kindsOf_30 rfl ?_
      refine X_iconst F dX8_kindsOf_32 (v := (1 : Int32)) rfl ?_
      refine X_iload F dX8_kindsOf_33 rfl ?_
      refine X_ishl F dX8_kindsOf_35 ?_
      refine X_ior F dX8_kindsOf_36 ?_
      refine X_istore F dX8_kindsOf_37 (by decide) rfl ?_
      refine X_pick [1, 2, 3, 0, 4] rfl ?_
      exact F8_kindsOf_j39_ok F hr hlk hD hrec6 h
set_option maxRecDepth 20000 in
theorem F8_kindsOf_l6_ok {p : Program} {l : Launch} {e : Env} {s : State} {m : MethodId} {args : Array Value} {below : List Frame} {meth : Method} {c : Code} {G : GG} {D : Nat} {r : Int32 × Mem} (F : FrP shA G p s m args c RX8 cX8_kindsOf 6) (hr : meth.sig.returnType = (some .int)) (hlk : meth.locks = false) (hD : 4 ≤ D) : ∀ (fu : Nat) (M : Mem) (x1 : Int32) (x2 : Int64) (x4 : Int32) (x5 : Int32), F8_kindsOf_l6 fu M x1 x2 x4 x5 = some r → XJ shA p l e (rmX D) s m args below meth c 0 0 G 6 (MQ below (QcX shA G ((some (.int r.1), r.2) : Option Value × Mem).1 ((some (.int r.1), r.2) : Option Value × Mem).2) args s 0 0 (AW shA G.2.1)) 6 [(0, .ref 0), (1, .int x1), (2, .long x2), (4, .int x4), (5, .int x5)] [] M := by
  intro fu
  induction fu with
  | zero => intro M x1 x2 x4 x5 h; cases h
  | succ fu ih => intro M x1 x2 x4 x5 h; exact F8_kindsOf_l6_bok F hr hlk hD (fun M x1 x2 x4 x5 => ih M x1 x2 x4 x5) h
set_option maxRecDepth 20000 in
theorem F8_kindsOf_ok {p : Program} {l : Launch} {e : Env} {s : State} {m : MethodId} {args : Array Value} {below : List Frame} {meth : Method} {c : Code} {G : GG} {D : Nat} {r : Int32 × Mem} (F : FrP shA G p s m args c RX8 cX8_kindsOf 6) (hr : meth.sig.returnType = (some .int)) (hlk : meth.locks = false) (hD : 4 ≤ D) {M : Mem} {a1 : Int32} {a2 : Int64} (h : F8_kindsOf M a1 a2 = some r) : XJ shA p l e (rmX D) s m args below meth c 0 0 G 6 (MQ below (QcX shA G ((some (.int r.1), r.2) : Option Value × Mem).1 ((some (.int r.1), r.2) : Option Value × Mem).2) args s 0 0 (AW shA G.2.1)) 0 [(0, .ref 0), (1, .int a1), (2, .long a2)] [] M := by
  unfold F8_kindsOf at h
  refine X_iconst F dX8_kindsOf_0 (v := (0 : Int32)) rfl ?_
  refine X_istore F dX8_kindsOf_1 (by decide) rfl ?_
  refine X_iconst F dX8_kindsOf_3 (v := (0 : Int32)) rfl ?_
  refine X_istore F dX8_kindsOf_4 (by decide) rfl ?_
  refine X_pick [2, 3, 4, 1, 0] rfl ?_
  exact F8_kindsOf_l6_ok F hr hlk hD FUEL _ _ _ _ _ h
set_option maxRecDepth 20000 in
theorem F8_kindsOf_met {l : Launch} {G : GG} {D : Nat} {r : Int32 × Mem} {M : Mem} {a1 : Int32} {a2 : Int64} (hI : Inj shA G.2.1) (hD : 4 ≤ D) (h : F8_kindsOf M a1 a2 = some r) : MetX shA l G yX8_kindsOf cX8_kindsOf 6 (some .int) D [.ref 0, .int a1, .long a2] M (some (.int r.1), r.2) :=
  X_met hI (by decide +kernel) (Nat.le_of_ble_eq_true rfl) (fun p e s m args below meth c F hr hlk => F8_kindsOf_ok F hr hlk hD h)
-- KeepOurPlace.served
def F8_served_l82_b (rec82 : Mem → Int32 → Int32 → Int32 → Option (Int32 × Mem)) (M : Mem) (x1 : Int32) (x3 : Int32) (x4 : Int32) : Option (Int32 × Mem) :=
    if x3 ≤ x4 then
      some ((-1 : Int32), M)
    else
      Option.bind (F8_ownSeconds M x1 x4) fun r17 =>
      if inb x4 8 = true then
      Option.bind (F7_seconds r17.2 (r17.2 2 (Int32.toNatClampNeg x4)) x4 x4) fun r20 =>
      if (lg_cmp r17.1 (Int32.toInt64 r20.1)) = 0 then
        rec82 r20.2 x1 x3 (x4 + (1 : Int32))
      else
        some (x4, r20.2)
      else none
def F8_served_l82 : Nat → Mem → Int32 → Int32 → Int32 → Option (Int32 × Mem)
  | 0, _, _, _, _ => none
  | fu + 1, M, x1, x3, x4 => F8_served_l82_b (F8_served_l82 fu) M x1 x3 x4
def F8_served (M : Mem) (a1 : Int32) (a2 : Int32) : Option (Int32 × Mem) :=
    Option.bind (F5_holds M a1) fun r1 =>
    if ¬ r1.1 = 0 then
      Option.bind (F5_isMissing r1.2 a1) fun r4 =>
      if r4.1 = 0 then
        if inb a1 4 = true then
        if (r4.2 1 3) < (r4.2 44 (Int32.toNatClampNeg a1)) then
          some ((-2 : Int32), r4.2)
        else
          if a2 < (-1 : Int32) then
            some ((-2 : Int32), r4.2)
          else
            if a2 < (r4.2 44 (Int32.toNatClampNeg a1)) then
              if a2 = (-1 : Int32) then
                F8_served_l82 FUEL r4.2 a1 (r4.2 44 (Int32.toNatClampNeg a1)) (0 : Int32)
              else
                Option.bind (F8_ownSeconds r4.2 a1 a2) fun r12 =>
                Option.bind (F8_kindsOf r12.2 a2 r12.1) fun r14 =>
                some (r14.1, r14.2)
            else
              some ((-2 : Int32), r4.2)
        else none
      else
        some ((-11 : Int32), r4.2)
    else
      some ((-2 : Int32), r1.2)
set_option maxRecDepth 20000 in
theorem F8_served_l82_bok {p : Program} {l : Launch} {e : Env} {s : State} {m : MethodId} {args : Array Value} {below : List Frame} {meth : Method} {c : Code} {G : GG} {D : Nat} {r : Int32 × Mem} {rec82 : Mem → Int32 → Int32 → Int32 → Option (Int32 × Mem)} (F : FrP shA G p s m args c RX8 cX8_served 5) (hr : meth.sig.returnType = (some .int)) (hlk : meth.locks = false) (hD : 5 ≤ D) (hrec82 : ∀ (M : Mem) (x1 : Int32) (x3 : Int32) (x4 : Int32), rec82 M x1 x3 x4 = some r → XJ shA p l e (rmX D) s m args below meth c 0 0 G 5 (MQ below (QcX shA G ((some (.int r.1), r.2) : Option Value × Mem).1 ((some (.int r.1), r.2) : Option Value × Mem).2) args s 0 0 (AW shA G.2.1)) 82 [(0, .ref 0), (1, .int x1), (3, .int x3), (4, .int x4)] [] M) {M : Mem} {x1 : Int32} {x3 : Int32} {x4 : Int32} (h : F8_served_l82_b rec82 M x1 x3 x4 = some r) : XJ shA p l e (rmX D) s m args below meth c 0 0 G 5 (MQ below (QcX shA G ((some (.int r.1), r.2) : Option Value × Mem).1 ((some (.int r.1), r.2) : Option Value × Mem).2) args s 0 0 (AW shA G.2.1)) 82 [(0, .ref 0), (1, .int x1), (3, .int x3), (4, .int x4)] [] M := by
  unfold F8_served_l82_b at h
  refine X_iload F dX8_served_82 rfl ?_
  refine X_iload_n F dX8_served_84 rfl ?_
  refine X_icmp_ge (tgt := 130) F dX8_served_85 (by decide) (fun q16 => ?_) (fun q16 => ?_)
  · rw [if_pos q16] at h
    refine X_iconst F dX8_served_130 (v := (-1 : Int32)) rfl ?_
    exact X_iret F hr hlk (retI h) dX8_served_131
  · rw [if_neg q16] at h
    refine X_aload_n F dX8_served_88 rfl ?_
    refine X_iload_n F dX8_served_89 rfl ?_
    refine X_iload F dX8_served_90 rfl ?_
    obtain ⟨r17, h18, h⟩ := bndS h
    refine X_callV (ci := 0) (As := [.int x1, .int x4]) (rest := []) F fkRX8_257 feX8_ownSeconds fvX8_ownSeconds ⟨_, _, _, rfl, rfl, rfl⟩ (F8_ownSeconds_met (D := D - 1) F.2.2.2.2.2.2.2.1 (by omega) h18) rfl rfl (Nat.le_of_ble_eq_true rfl) (rm_ok (by omega) (by decide)) dX8_served_92 ?_
    show XJ shA p l e (rmX D) s m args below meth c 0 0 G 5 (MQ below (QcX shA G ((some (.int r.1), r.2) : Option Value × Mem).1 ((some (.int r.1), r.2) : Option Value × Mem).2) args s 0 0 (AW shA G.2.1)) 95 [(0, .ref 0), (1, .int x1), (3, .int x3), (4, .int x4)] [.long r17.1] r17.2
    refine X_aload_n F dX8_served_95 rfl ?_
    refine X_getr F ffRX8_44 dX8_served_96 ?_
    refine X_aload_n F dX8_served_99 rfl ?_
    refine X_getr F ffRX8_10 dX8_served_100 ?_
    refine X_getr F ffRX8_132 dX8_served_103 ?_
    refine X_iload F dX8_served_106 rfl ?_
    obtain ⟨q19, h⟩ := ifS h
    refine X_iald (j := (Int32.toNatClampNeg x4)) (v := (r17.2 2 (Int32.toNatClampNeg x4))) F rfl (inbV q19) rfl rfl dX8_served_108 ?_
    refine X_iload F dX8_served_109 rfl ?_
    refine X_iload F dX8_served_111 rfl ?_
    obtain ⟨r20, h21, h⟩ := bndS h
    refine X_callV (ci := 33) (As := [.int (r17.2 2 (Int32.toNatClampNeg x4)), .int x4, .int x4]) (rest := [.long r17.1]) F fkRX8_135 feX7_seconds fvX7_seconds ⟨_, _, _, rfl, rfl, rfl⟩ (F7_seconds_met (D := D - 1) F.2.2.2.2.2.2.2.1 (by omega) h21) rfl rfl (Nat.le_of_ble_eq_true rfl) (rm_ok (by omega) (by decide)) dX8_served_113 ?_
    show XJ shA p l e (rmX D) s m args below meth c 0 0 G 5 (MQ below (QcX shA G ((some (.int r.1), r.2) : Option Value × Mem).1 ((some (.int r.1), r.2) : Option Value × Mem).2) args s 0 0 (AW shA G.2.1)) 116 [(0, .ref 0), (1, .int x1), (3, .int x3), (4, .int x4)] [.int r20.1, .long r17.1] r20.2
    refine X_i2l F dX8_served_116 ?_
    refine X_lcmp F dX8_served_117 ?_
    refine X_if_eq (tgt := 124) F dX8_served_118 (by decide) (fun q22 => ?_) (fun q22 => ?_)
    · rw [if_pos q22] at h
      refine X_iinc F dX8_served_124 rfl (v := (1 : Int32)) rfl (by decide) rfl ?_
      refine X_goto (tgt := 82) F dX8_served_127 (by decide) ?_
      refine X_pick [1, 2, 3, 0] rfl ?_
      exact hrec82 _ _ _ _ h
    · rw [if_neg q22] at h
      refine X_iload F dX8_served_121 rfl ?_
      exact X_iret F hr hlk (retI h) dX8_served_123
set_option maxRecDepth 20000 in
theorem F8_served_l82_ok {p : Program} {l : Launch} {e : Env} {s : State} {m : MethodId} {args : Array Value} {below : List Frame} {meth : Method} {c : Code} {G : GG} {D : Nat} {r : Int32 × Mem} (F : FrP shA G p s m args c RX8 cX8_served 5) (hr : meth.sig.returnType = (some .int)) (hlk : meth.locks = false) (hD : 5 ≤ D) : ∀ (fu : Nat) (M : Mem) (x1 : Int32) (x3 : Int32) (x4 : Int32), F8_served_l82 fu M x1 x3 x4 = some r → XJ shA p l e (rmX D) s m args below meth c 0 0 G 5 (MQ below (QcX shA G ((some (.int r.1), r.2) : Option Value × Mem).1 ((some (.int r.1), r.2) : Option Value × Mem).2) args s 0 0 (AW shA G.2.1)) 82 [(0, .ref 0), (1, .int x1), (3, .int x3), (4, .int x4)] [] M := by
  intro fu
  induction fu with
  | zero => intro M x1 x3 x4 h; cases h
  | succ fu ih => intro M x1 x3 x4 h; exact F8_served_l82_bok F hr hlk hD (fun M x1 x3 x4 => ih M x1 x3 x4) h
set_option maxRecDepth 20000 in
theorem F8_served_ok {p : Program} {l : Launch} {e : Env} {s : State} {m : MethodId} {args : Array Value} {below : List Frame} {meth : Method} {c : Code} {G : GG} {D : Nat} {r : Int32 × Mem} (F : FrP shA G p s m args c RX8 cX8_served 5) (hr : meth.sig.returnType = (some .int)) (hlk : meth.locks = false) (hD : 5 ≤ D) {M : Mem} {a1 : Int32} {a2 : Int32} (h : F8_served M a1 a2 = some r) : XJ shA p l e (rmX D) s m args below meth c 0 0 G 5 (MQ below (QcX shA G ((some (.int r.1), r.2) : Option Value × Mem).1 ((some (.int r.1), r.2) : Option Value × Mem).2) args s 0 0 (AW shA G.2.1)) 0 [(0, .ref 0), (1, .int a1), (2, .int a2)] [] M := by
  unfold F8_served at h
  refine X_aload_n F dX8_served_0 rfl ?_
  refine X_getr F ffRX8_60 dX8_served_1 ?_
  refine X_iload_n F dX8_served_4 rfl ?_
  obtain ⟨r1, h2, h⟩ := bndS h
  refine X_callV (ci := 42) (As := [.int a1]) (rest := []) F fkRX8_230 feX5_holds fvX5_holds ⟨_, _, _, rfl, rfl, rfl⟩ (F5_holds_met (D := D - 1) F.2.2.2.2.2.2.2.1 (by omega) h2) rfl rfl (Nat.le_of_ble_eq_true rfl) (rm_ok (by omega) (by decide)) dX8_served_5 ?_
  show XJ shA p l e (rmX D) s m args below meth c 0 0 G 5 (MQ below (QcX shA G ((some (.int r.1), r.2) : Option Value × Mem).1 ((some (.int r.1), r.2) : Option Value × Mem).2) args s 0 0 (AW shA G.2.1)) 8 [(0, .ref 0), (1, .int a1), (2, .int a2)] [.int r1.1] r1.2
  refine X_if_ne (tgt := 14) F dX8_served_8 (by decide) (fun q3 => ?_) (fun q3 => ?_)
  · rw [if_pos q3] at h
    refine X_aload_n F dX8_served_14 rfl ?_
    refine X_getr F ffRX8_60 dX8_served_15 ?_
    refine X_iload_n F dX8_served_18 rfl ?_
    obtain ⟨r4, h5, h⟩ := bndS h
    refine X_callV (ci := 42) (As := [.int a1]) (rest := []) F fkRX8_231 feX5_isMissing fvX5_isMissing ⟨_, _, _, rfl, rfl, rfl⟩ (F5_isMissing_met (D := D - 1) F.2.2.2.2.2.2.2.1 (by omega) h5) rfl rfl (Nat.le_of_ble_eq_true rfl) (rm_ok (by omega) (by decide)) dX8_served_19 ?_
    show XJ shA p l e (rmX D) s m args below meth c 0 0 G 5 (MQ below (QcX shA G ((some (.int r.1), r.2) : Option Value × Mem).1 ((some (.int r.1), r.2) : Option Value × Mem).2) args s 0 0 (AW shA G.2.1)) 22 [(0, .ref 0), (1, .int a1), (2, .int a2)] [.int r4.1] r4.2
    refine X_if_eq (tgt := 28) F dX8_served_22 (by decide) (fun q6 => ?_) (fun q6 => ?_)
    · rw [if_pos q6] at h
      refine X_aload_n F dX8_served_28 rfl ?_
      refine X_getr F ffRX8_60 dX8_served_29 ?_
      refine X_getr F ffRX8_234 dX8_served_32 ?_
      refine X_iload_n F dX8_served_35 rfl ?_
      obtain ⟨q7, h⟩ := ifS h
      refine X_iald (j := (Int32.toNatClampNeg a1)) (v := (r4.2 44 (Int32.toNatClampNeg a1))) F rfl (inbV q7) rfl rfl dX8_served_36 ?_
      refine X_istore_n F dX8_served_37 (by decide) rfl ?_
      refine X_iload_n F dX8_served_38 rfl ?_
      refine X_aload_n F dX8_served_39 rfl ?_
      refine X_getr F ffRX8_10 dX8_served_40 ?_
      refine X_geti (v := (r4.2 1 3)) F ffRX8_142 dX8_served_43 rfl ?_
      refine X_icmp_gt (tgt := 59) F dX8_served_46 (by decide) (fun q8 => ?_) (fun q8 => ?_)
      · rw [if_pos q8] at h
        refine X_bipush F dX8_served_59 (v := (-2 : Int32)) rfl ?_
        exact X_iret F hr hlk (retI h) dX8_served_61
      · rw [if_neg q8] at h
        refine X_iload_n F dX8_served_49 rfl ?_
        refine X_iconst F dX8_served_50 (v := (-1 : Int32)) rfl ?_
        refine X_icmp_lt (tgt := 59) F dX8_served_51 (by decide) (fun q9 => ?_) (fun q9 => ?_)
        · rw [if_pos q9] at h
          refine X_bipush F dX8_served_59 (v := (-2 : Int32)) rfl ?_
          exact X_iret F hr hlk (retI h) dX8_served_61
        · rw [if_neg q9] at h
          refine X_iload_n F dX8_served_54 rfl ?_
          refine X_iload_n F dX8_served_55 rfl ?_
          refine X_icmp_lt (tgt := 62) F dX8_served_56 (by decide) (fun q10 => ?_) (fun q10 => ?_)
          · rw [if_pos q10] at h
            refine X_iload_n F dX8_served_62 rfl ?_
            refine X_iconst F dX8_served_63 (v := (-1 : Int32)) rfl ?_
            refine X_icmp_eq (tgt := 79) F dX8_served_64 (by decide) (fun q11 => ?_) (fun q11 => ?_)
            · rw [if_pos q11] at h
              refine X_iconst F dX8_served_79 (v := (0 : Int32)) rfl ?_
              refine X_istore F dX8_served_80 (by decide) rfl ?_
              refine X_pick [2, 3, 1, 0] rfl ?_
              exact F8_served_l82_ok F hr hlk hD FUEL _ _ _ _ h
            · rw [if_neg q11] at h
              refine X_aload_n F dX8_served_67 rfl ?_
              refine X_iload_n F dX8_served_68 rfl ?_
              refine X_aload_n F dX8_served_69 rfl ?_
              refine X_iload_n F dX8_served_70 rfl ?_
              refine X_iload_n F dX8_served_71 rfl ?_
              obtain ⟨r12, h13, h⟩ := bndS h
              refine X_callV (ci := 0) (As := [.int a1, .int a2]) (rest := [.int a2, .ref 0]) F fkRX8_257 feX8_ownSeconds fvX8_ownSeconds ⟨_, _, _, rfl, rfl, rfl⟩ (F8_ownSeconds_met (D := D - 1) F.2.2.2.2.2.2.2.1 (by omega) h13) rfl rfl (Nat.le_of_ble_eq_true rfl) (rm_ok (by omega) (by decide)) dX8_served_72 ?_
              show XJ shA p l e (rmX D) s m args below meth c 0 0 G 5 (MQ below (QcX shA G ((some (.int r.1), r.2) : Option Value × Mem).1 ((some (.int r.1), r.2) : Option Value × Mem).2) args s 0 0 (AW shA G.2.1)) 75 [(3, .int (r4.2 44 (Int32.toNatClampNeg a1))), (0, .ref 0), (1, .int a1), (2, .int a2)] [.long r12.1, .int a2, .ref 0] r12.2
              obtain ⟨r14, h15, h⟩ := bndS h
              refine X_callV (ci := 0) (As := [.int a2, .long r12.1]) (rest := []) F fkRX8_261 feX8_kindsOf fvX8_kindsOf ⟨_, _, _, rfl, rfl, rfl⟩ (F8_kindsOf_met (D := D - 1) F.2.2.2.2.2.2.2.1 (by omega) h15) rfl rfl (Nat.le_of_ble_eq_true rfl) (rm_ok (by omega) (by decide)) dX8_served_75 ?_
              show XJ shA p l e (rmX D) s m args below meth c 0 0 G 5 (MQ below (QcX shA G ((some (.int r.1), r.2) : Option Value × Mem).1 ((some (.int r.1), r.2) : Option Value × Mem).2) args s 0 0 (AW shA G.2.1)) 78 [(3, .int (r4.2 44 (Int32.toNatClampNeg a1))), (0, .ref 0), (1, .int a1), (2, .int a2)] [.int r14.1] r14.2
              exact X_iret F hr hlk (retI h) dX8_served_78
          · rw [if_neg q10] at h
            refine X_bipush F dX8_served_59 (v := (-2 : Int32)) rfl ?_
            exact X_iret F hr hlk (retI h) dX8_served_61
    · rw [if_neg q6] at h
      refine X_bipush F dX8_served_25 (v := (-11 : Int32)) rfl ?_
      exact X_iret F hr hlk (retI h) dX8_served_27
  · rw [if_neg (fun z => z q3)] at h
    refine X_bipush F dX8_served_11 (v := (-2 : Int32)) rfl ?_
    exact X_iret F hr hlk (retI h) dX8_served_13
set_option maxRecDepth 20000 in
theorem F8_served_met {l : Launch} {G : GG} {D : Nat} {r : Int32 × Mem} {M : Mem} {a1 : Int32} {a2 : Int32} (hI : Inj shA G.2.1) (hD : 5 ≤ D) (h : F8_served M a1 a2 = some r) : MetX shA l G yX8_served cX8_served 5 (some .int) D [.ref 0, .int a1, .int a2] M (some (.int r.1), r.2) :=
  X_met hI (by decide +kernel) (Nat.le_of_ble_eq_true rfl) (fun p e s m args below meth c F hr hlk => F8_served_ok F hr hlk hD h)
-- KeepOurPlace.film
def F8_film_l44_b (rec44 : Mem → Int32 → Int32 → Int32 → Int32 → Option (Int32 × Mem)) (M : Mem) (x1 : Int32) (x2 : Int32) (x3 : Int32) (x4 : Int32) : Option (Int32 × Mem) :=
    if x2 ≤ x4 then
      some (x2, M)
    else
      if inb x4 8 = true then
      Option.bind (F7_seconds M (M 2 (Int32.toNatClampNeg x4)) x4 x4) fun r10 =>
      Option.bind (F5_write r10.2 x1 x4 (x3 + r10.1)) fun r12 =>
      rec44 r12.2 x1 x2 (x3 + r10.1) (x4 + (1 : Int32))
      else none
def F8_film_l44 : Nat → Mem → Int32 → Int32 → Int32 → Int32 → Option (Int32 × Mem)
  | 0, _, _, _, _, _ => none
  | fu + 1, M, x1, x2, x3, x4 => F8_film_l44_b (F8_film_l44 fu) M x1 x2 x3 x4
def F8_film (M : Mem) (a1 : Int32) (a2 : Int32) : Option (Int32 × Mem) :=
    Option.bind (F5_holds M a1) fun r1 =>
    if r1.1 = 0 then
      some ((-2 : Int32), r1.2)
    else
      if a2 < 0 then
        some ((-2 : Int32), r1.2)
      else
        if a2 ≤ (r1.2 1 3) then
          Option.bind (F5_lay r1.2 a1 (2 : Int32) a2) fun r6 =>
          F8_film_l44 FUEL r6.2 a1 a2 (0 : Int32) (0 : Int32)
        else
          some ((-2 : Int32), r1.2)
set_option maxRecDepth 20000 in
theorem F8_film_l44_bok {p : Program} {l : Launch} {e : Env} {s : State} {m : MethodId} {args : Array Value} {below : List Frame} {meth : Method} {c : Code} {G : GG} {D : Nat} {r : Int32 × Mem} {rec44 : Mem → Int32 → Int32 → Int32 → Int32 → Option (Int32 × Mem)} (F : FrP shA G p s m args c RX8 cX8_film 5) (hr : meth.sig.returnType = (some .int)) (hlk : meth.locks = false) (hD : 4 ≤ D) (hrec44 : ∀ (M : Mem) (x1 : Int32) (x2 : Int32) (x3 : Int32) (x4 : Int32), rec44 M x1 x2 x3 x4 = some r → XJ shA p l e (rmX D) s m args below meth c 0 0 G 5 (MQ below (QcX shA G ((some (.int r.1), r.2) : Option Value × Mem).1 ((some (.int r.1), r.2) : Option Value × Mem).2) args s 0 0 (AW shA G.2.1)) 44 [(0, .ref 0), (1, .int x1), (2, .int x2), (3, .int x3), (4, .int x4)] [] M) {M : Mem} {x1 : Int32} {x2 : Int32} {x3 : Int32} {x4 : Int32} (h : F8_film_l44_b rec44 M x1 x2 x3 x4 = some r) : XJ shA p l e (rmX D) s m args below meth c 0 0 G 5 (MQ below (QcX shA G ((some (.int r.1), r.2) : Option Value × Mem).1 ((some (.int r.1), r.2) : Option Value × Mem).2) args s 0 0 (AW shA G.2.1)) 44 [(0, .ref 0), (1, .int x1), (2, .int x2), (3, .int x3), (4, .int x4)] [] M := by
  unfold F8_film_l44_b at h
  refine X_iload F dX8_film_44 rfl ?_
  refine X_iload_n F dX8_film_46 rfl ?_
  refine X_icmp_ge (tgt := 92) F dX8_film_47 (by decide) (fun q8 => ?_) (fun q8 => ?_)
  · rw [if_pos q8] at h
    refine X_iload_n F dX8_film_92 rfl ?_
    exact X_iret F hr hlk (retI h) dX8_film_93
  · rw [if_neg q8] at h
    refine X_iload_n F dX8_film_50 rfl ?_
    refine X_aload_n F dX8_film_51 rfl ?_
    refine X_getr F ffRX8_44 dX8_film_52 ?_
    refine X_aload_n F dX8_film_55 rfl ?_
    refine X_getr F ffRX8_10 dX8_film_56 ?_
    refine X_getr F ffRX8_132 dX8_film_59 ?_
    refine X_iload F dX8_film_62 rfl ?_
    obtain ⟨q9, h⟩ := ifS h
    refine X_iald (j := (Int32.toNatClampNeg x4)) (v := (M 2 (Int32.toNatClampNeg x4))) F rfl (inbV q9) rfl rfl dX8_film_64 ?_
    refine X_iload F dX8_film_65 rfl ?_
    refine X_iload F dX8_film_67 rfl ?_
    obtain ⟨r10, h11, h⟩ := bndS h
    refine X_callV (ci := 33) (As := [.int (M 2 (Int32.toNatClampNeg x4)), .int x4, .int x4]) (rest := [.int x3]) F fkRX8_135 feX7_seconds fvX7_seconds ⟨_, _, _, rfl, rfl, rfl⟩ (F7_seconds_met (D := D - 1) F.2.2.2.2.2.2.2.1 (by omega) h11) rfl rfl (Nat.le_of_ble_eq_true rfl) (rm_ok (by omega) (by decide)) dX8_film_69 ?_
    show XJ shA p l e (rmX D) s m args below meth c 0 0 G 5 (MQ below (QcX shA G ((some (.int r.1), r.2) : Option Value × Mem).1 ((some (.int r.1), r.2) : Option Value × Mem).2) args s 0 0 (AW shA G.2.1)) 72 [(0, .ref 0), (1, .int x1), (2, .int x2), (3, .int x3), (4, .int x4)] [.int r10.1, .int x3] r10.2
    refine X_iadd F dX8_film_72 ?_
    refine X_istore_n F dX8_film_73 (by decide) rfl ?_
    refine X_aload_n F dX8_film_74 rfl ?_
    refine X_getr F ffRX8_60 dX8_film_75 ?_
    refine X_iload_n F dX8_film_78 rfl ?_
    refine X_iload F dX8_film_79 rfl ?_
    refine X_iload_n F dX8_film_81 rfl ?_
    obtain ⟨r12, h13, h⟩ := bndS h
    refine X_callV (ci := 42) (As := [.int x1, .int x4, .int (x3 + r10.1)]) (rest := []) F fkRX8_268 feX5_write fvX5_write ⟨_, _, _, rfl, rfl, rfl⟩ (F5_write_met (D := D - 1) F.2.2.2.2.2.2.2.1 (by omega) h13) rfl rfl (Nat.le_of_ble_eq_true rfl) (rm_ok (by omega) (by decide)) dX8_film_82 ?_
    show XJ shA p l e (rmX D) s m args below meth c 0 0 G 5 (MQ below (QcX shA G ((some (.int r.1), r.2) : Option Value × Mem).1 ((some (.int r.1), r.2) : Option Value × Mem).2) args s 0 0 (AW shA G.2.1)) 85 [(3, .int (x3 + r10.1)), (0, .ref 0), (1, .int x1), (2, .int x2), (4, .int x4)] [.int r12.1] r12.2
    refine X_pop F dX8_film_85 rfl ?_
    refine X_iinc F dX8_film_86 rfl (v := (1 : Int32)) rfl (by decide) rfl ?_
    refine X_goto (tgt := 44) F dX8_film_89 (by decide) ?_
    refine X_pick [2, 3, 4, 1, 0] rfl ?_
    exact hrec44 _ _ _ _ _ h
set_option maxRecDepth 20000 in
theorem F8_film_l44_ok {p : Program} {l : Launch} {e : Env} {s : State} {m : MethodId} {args : Array Value} {below : List Frame} {meth : Method} {c : Code} {G : GG} {D : Nat} {r : Int32 × Mem} (F : FrP shA G p s m args c RX8 cX8_film 5) (hr : meth.sig.returnType = (some .int)) (hlk : meth.locks = false) (hD : 4 ≤ D) : ∀ (fu : Nat) (M : Mem) (x1 : Int32) (x2 : Int32) (x3 : Int32) (x4 : Int32), F8_film_l44 fu M x1 x2 x3 x4 = some r → XJ shA p l e (rmX D) s m args below meth c 0 0 G 5 (MQ below (QcX shA G ((some (.int r.1), r.2) : Option Value × Mem).1 ((some (.int r.1), r.2) : Option Value × Mem).2) args s 0 0 (AW shA G.2.1)) 44 [(0, .ref 0), (1, .int x1), (2, .int x2), (3, .int x3), (4, .int x4)] [] M := by
  intro fu
  induction fu with
  | zero => intro M x1 x2 x3 x4 h; cases h
  | succ fu ih => intro M x1 x2 x3 x4 h; exact F8_film_l44_bok F hr hlk hD (fun M x1 x2 x3 x4 => ih M x1 x2 x3 x4) h
set_option maxRecDepth 20000 in
theorem F8_film_ok {p : Program} {l : Launch} {e : Env} {s : State} {m : MethodId} {args : Array Value} {below : List Frame} {meth : Method} {c : Code} {G : GG} {D : Nat} {r : Int32 × Mem} (F : FrP shA G p s m args c RX8 cX8_film 5) (hr : meth.sig.returnType = (some .int)) (hlk : meth.locks = false) (hD : 4 ≤ D) {M : Mem} {a1 : Int32} {a2 : Int32} (h : F8_film M a1 a2 = some r) : XJ shA p l e (rmX D) s m args below meth c 0 0 G 5 (MQ below (QcX shA G ((some (.int r.1), r.2) : Option Value × Mem).1 ((some (.int r.1), r.2) : Option Value × Mem).2) args s 0 0 (AW shA G.2.1)) 0 [(0, .ref 0), (1, .int a1), (2, .int a2)] [] M := by
  unfold F8_film at h
  refine X_aload_n F dX8_film_0 rfl ?_
  refine X_getr F ffRX8_60 dX8_film_1 ?_
  refine X_iload_n F dX8_film_4 rfl ?_
  obtain ⟨r1, h2, h⟩ := bndS h
  refine X_callV (ci := 42) (As := [.int a1]) (rest := []) F fkRX8_230 feX5_holds fvX5_holds ⟨_, _, _, rfl, rfl, rfl⟩ (F5_holds_met (D := D - 1) F.2.2.2.2.2.2.2.1 (by omega) h2) rfl rfl (Nat.le_of_ble_eq_true rfl) (rm_ok (by omega) (by decide)) dX8_film_5 ?_
  show XJ shA p l e (rmX D) s m args below meth c 0 0 G 5 (MQ below (QcX shA G ((some (.int r.1), r.2) : Option Value × Mem).1 ((some (.int r.1), r.2) : Option Value × Mem).2) args s 0 0 (AW shA G.2.1)) 8 [(0, .ref 0), (1, .int a1), (2, .int a2)] [.int r1.1] r1.2
  refine X_if_eq (tgt := 26) F dX8_film_8 (by decide) (fun q3 => ?_) (fun q3 => ?_)
  · rw [if_pos q3] at h
    refine X_bipush F dX8_film_26 (v := (-2 : Int32)) rfl ?_
    exact X_iret F hr hlk (retI h) dX8_film_28
  · rw [if_neg q3] at h
    refine X_iload_n F dX8_film_11 rfl ?_
    refine X_if_lt (tgt := 26) F dX8_film_12 (by decide) (fun q4 => ?_) (fun q4 => ?_)
    · rw [if_pos q4] at h
      refine X_bipush F dX8_film_26 (v := (-2 : Int32)) rfl ?_
      exact X_iret F hr hlk (retI h) dX8_film_28
    · rw [if_neg q4] at h
      refine X_iload_n F dX8_film_15 rfl ?_
      refine X_aload_n F dX8_film_16 rfl ?_
      refine X_getr F ffRX8_10 dX8_film_17 ?_
      refine X_geti (v := (r1.2 1 3)) F ffRX8_142 dX8_film_20 rfl ?_
      refine X_icmp_le (tgt := 29) F dX8_film_23 (by decide) (fun q5 => ?_) (fun q5 => ?_)
      · rw [if_pos q5] at h
        refine X_aload_n F dX8_film_29 rfl ?_
        refine X_getr F ffRX8_60 dX8_film_30 ?_
        refine X_iload_n F dX8_film_33 rfl ?_
        refine X_iconst F dX8_film_34 (v := (2 : Int32)) rfl ?_
        refine X_iload_n F dX8_film_35 rfl ?_
        obtain ⟨r6, h7, h⟩ := bndS h
        refine X_callV (ci := 42) (As := [.int a1, .int (2 : Int32), .int a2]) (rest := []) F fkRX8_265 feX5_lay fvX5_lay ⟨_, _, _, rfl, rfl, rfl⟩ (F5_lay_met (D := D - 1) F.2.2.2.2.2.2.2.1 (by omega) h7) rfl rfl (Nat.le_of_ble_eq_true rfl) (rm_ok (by omega) (by decide)) dX8_film_36 ?_
        show XJ shA p l e (rmX D) s m args below meth c 0 0 G 5 (MQ below (QcX shA G ((some (.int r.1), r.2) : Option Value × Mem).1 ((some (.int r.1), r.2) : Option Value × Mem).2) args s 0 0 (AW shA G.2.1)) 39 [(0, .ref 0), (1, .int a1), (2, .int a2)] [] r6.2
        refine X_iconst F dX8_film_39 (v := (0 : Int32)) rfl ?_
        refine X_istore_n F dX8_film_40 (by decide) rfl ?_
        refine X_iconst F dX8_film_41 (v := (0 : Int32)) rfl ?_
        refine X_istore F dX8_film_42 (by decide) rfl ?_
        refine X_pick [2, 3, 4, 1, 0] rfl ?_
        exact F8_film_l44_ok F hr hlk hD FUEL _ _ _ _ _ h
      · rw [if_neg q5] at h
        refine X_bipush F dX8_film_26 (v := (-2 : Int32)) rfl ?_
        exact X_iret F hr hlk (retI h) dX8_film_28
set_option maxRecDepth 20000 in
theorem F8_film_met {l : Launch} {G : GG} {D : Nat} {r : Int32 × Mem} {M : Mem} {a1 : Int32} {a2 : Int32} (hI : Inj shA G.2.1) (hD : 4 ≤ D) (h : F8_film M a1 a2 = some r) : MetX shA l G yX8_film cX8_film 5 (some .int) D [.ref 0, .int a1, .int a2] M (some (.int r.1), r.2) :=
  X_met hI (by decide +kernel) (Nat.le_of_ble_eq_true rfl) (fun p e s m args below meth c F hr hlk => F8_film_ok F hr hlk hD h)
-- KeepOurPlace.drawn
def F8_drawn (M : Mem) (a1 : Int32) : Option (Int32 × Mem) :=
    Option.bind (F6_all M) fun r1 =>
    Option.bind (F0_survey r1.2 r1.1) fun r3 =>
    Option.bind (F6_draw r3.2 a1) fun r5 =>
    Option.bind (F0_mostGain r5.2 r5.1) fun r7 =>
    some (r7.1, r7.2)
set_option maxRecDepth 20000 in
theorem F8_drawn_ok {p : Program} {l : Launch} {e : Env} {s : State} {m : MethodId} {args : Array Value} {below : List Frame} {meth : Method} {c : Code} {G : GG} {D : Nat} {r : Int32 × Mem} (F : FrP shA G p s m args c RX8 cX8_drawn 2) (hr : meth.sig.returnType = (some .int)) (hlk : meth.locks = false) (hD : 16 ≤ D) {M : Mem} {a1 : Int32} (h : F8_drawn M a1 = some r) : XJ shA p l e (rmX D) s m args below meth c 0 0 G 2 (MQ below (QcX shA G ((some (.int r.1), r.2) : Option Value × Mem).1 ((some (.int r.1), r.2) : Option Value × Mem).2) args s 0 0 (AW shA G.2.1)) 0 [(0, .ref 0), (1, .int a1)] [] M := by
  unfold F8_drawn at h
  refine X_aload_n F dX8_drawn_0 rfl ?_
  refine X_getr F ffRX8_53 dX8_drawn_1 ?_
  refine X_aload_n F dX8_drawn_4 rfl ?_
  refine X_getr F ffRX8_19 dX8_drawn_5 ?_
  obtain ⟨r1, h2, h⟩ := bndS h
  refine X_callV (ci := 5) (As := []) (rest := [.ref 34]) F fkRX8_187 feX6_all fvX6_all ⟨_, _, _, rfl, rfl, rfl⟩ (F6_all_met (D := D - 1) F.2.2.2.2.2.2.2.1 (by omega) h2) rfl rfl (Nat.le_of_ble_eq_true rfl) (rm_ok (by omega) (by decide)) dX8_drawn_8 ?_
  show XJ shA p l e (rmX D) s m args below meth c 0 0 G 2 (MQ below (QcX shA G ((some (.int r.1), r.2) : Option Value × Mem).1 ((some (.int r.1), r.2) : Option Value × Mem).2) args s 0 0 (AW shA G.2.1)) 11 [(0, .ref 0), (1, .int a1)] [.int r1.1, .ref 34] r1.2
  obtain ⟨r3, h4, h⟩ := bndS h
  refine X_callV (ci := 34) (As := [.int r1.1]) (rest := []) F fkRX8_190 feX0_survey fvX0_survey ⟨_, _, _, rfl, rfl, rfl⟩ (F0_survey_met (D := D - 1) F.2.2.2.2.2.2.2.1 (by omega) h4) rfl rfl (Nat.le_of_ble_eq_true rfl) (rm_ok (by omega) (by decide)) dX8_drawn_11 ?_
  show XJ shA p l e (rmX D) s m args below meth c 0 0 G 2 (MQ below (QcX shA G ((some (.int r.1), r.2) : Option Value × Mem).1 ((some (.int r.1), r.2) : Option Value × Mem).2) args s 0 0 (AW shA G.2.1)) 14 [(0, .ref 0), (1, .int a1)] [] r3.2
  refine X_aload_n F dX8_drawn_14 rfl ?_
  refine X_getr F ffRX8_53 dX8_drawn_15 ?_
  refine X_aload_n F dX8_drawn_18 rfl ?_
  refine X_getr F ffRX8_19 dX8_drawn_19 ?_
  refine X_iload_n F dX8_drawn_22 rfl ?_
  obtain ⟨r5, h6, h⟩ := bndS h
  refine X_callV (ci := 5) (As := [.int a1]) (rest := [.ref 34]) F fkRX8_272 feX6_draw fvX6_draw ⟨_, _, _, rfl, rfl, rfl⟩ (F6_draw_met (D := D - 1) F.2.2.2.2.2.2.2.1 (by omega) h6) rfl rfl (Nat.le_of_ble_eq_true rfl) (rm_ok (by omega) (by decide)) dX8_drawn_23 ?_
  show XJ shA p l e (rmX D) s m args below meth c 0 0 G 2 (MQ below (QcX shA G ((some (.int r.1), r.2) : Option Value × Mem).1 ((some (.int r.1), r.2) : Option Value × Mem).2) args s 0 0 (AW shA G.2.1)) 26 [(0, .ref 0), (1, .int a1)] [.int r5.1, .ref 34] r5.2
  obtain ⟨r7, h8, h⟩ := bndS h
  refine X_callV (ci := 34) (As := [.int r5.1]) (rest := []) F fkRX8_220 feX0_mostGain fvX0_mostGain ⟨_, _, _, rfl, rfl, rfl⟩ (F0_mostGain_met (D := D - 1) F.2.2.2.2.2.2.2.1 (by omega) h8) rfl rfl (Nat.le_of_ble_eq_true rfl) (rm_ok (by omega) (by decide)) dX8_drawn_26 ?_
  show XJ shA p l e (rmX D) s m args below meth c 0 0 G 2 (MQ below (QcX shA G ((some (.int r.1), r.2) : Option Value × Mem).1 ((some (.int r.1), r.2) : Option Value × Mem).2) args s 0 0 (AW shA G.2.1)) 29 [(0, .ref 0), (1, .int a1)] [.int r7.1] r7.2
  exact X_iret F hr hlk (retI h) dX8_drawn_29
set_option maxRecDepth 20000 in
theorem F8_drawn_met {l : Launch} {G : GG} {D : Nat} {r : Int32 × Mem} {M : Mem} {a1 : Int32} (hI : Inj shA G.2.1) (hD : 16 ≤ D) (h : F8_drawn M a1 = some r) : MetX shA l G yX8_drawn cX8_drawn 2 (some .int) D [.ref 0, .int a1] M (some (.int r.1), r.2) :=
  X_met hI (by decide +kernel) (Nat.le_of_ble_eq_true rfl) (fun p e s m args below meth c F hr hlk => F8_drawn_ok F hr hlk hD h)
-- KeepOurPlace.commonDivisor
def F8_commonDivisor_l7_b (rec7 : Mem → Int32 → Int32 → Int32 → Option (Int32 × Mem)) (M : Mem) (x2 : Int32) (x3 : Int32) (x4 : Int32) : Option (Int32 × Mem) :=
    if (20 : Int32) ≤ x4 then
      some ((jmax (1 : Int32) x3), M)
    else
      if x2 ≤ 0 then
        some ((jmax (1 : Int32) x3), M)
      else
        if ¬ x2 = 0 then
        rec7 M (jrem x3 x2) x2 (x4 + (1 : Int32))
        else none
def F8_commonDivisor_l7 : Nat → Mem → Int32 → Int32 → Int32 → Option (Int32 × Mem)
  | 0, _, _, _, _ => none
  | fu + 1, M, x2, x3, x4 => F8_commonDivisor_l7_b (F8_commonDivisor_l7 fu) M x2 x3 x4
def F8_commonDivisor (M : Mem) (a0 : Int32) (a1 : Int32) : Option (Int32 × Mem) :=
    F8_commonDivisor_l7 FUEL M a0 a1 (0 : Int32)
set_option maxRecDepth 20000 in
theorem F8_commonDivisor_l7_bok {p : Program} {l : Launch} {e : Env} {s : State} {m : MethodId} {args : Array Value} {below : List Frame} {meth : Method} {c : Code} {G : GG} {D : Nat} {r : Int32 × Mem} {rec7 : Mem → Int32 → Int32 → Int32 → Option (Int32 × Mem)} (F : FrP shA G p s m args c RX8 cX8_commonDivisor 6) (hr : meth.sig.returnType = (some .int)) (hlk : meth.locks = false) (hD : 1 ≤ D) (hrec7 : ∀ (M : Mem) (x2 : Int32) (x3 : Int32) (x4 : Int32), rec7 M x2 x3 x4 = some r → XJ shA p l e (rmX D) s m args below meth c 0 0 G 6 (MQ below (QcX shA G ((some (.int r.1), r.2) : Option Value × Mem).1 ((some (.int r.1), r.2) : Option Value × Mem).2) args s 0 0 (AW shA G.2.1)) 7 [(2, .int x2), (3, .int x3), (4, .int x4)] [] M) {M : Mem} {x2 : Int32} {x3 : Int32} {x4 : Int32} (h : F8_commonDivisor_l7_b rec7 M x2 x3 x4 = some r) : XJ shA p l e (rmX D) s m args below meth c 0 0 G 6 (MQ below (QcX shA G ((some (.int r.1), r.2) : Option Value × Mem).1 ((some (.int r.1), r.2) : Option Value × Mem).2) args s 0 0 (AW shA G.2.1)) 7 [(2, .int x2), (3, .int x3), (4, .int x4)] [] M := by
  unfold F8_commonDivisor_l7_b at h
  refine X_iload F dX8_commonDivisor_7 rfl ?_
  refine X_bipush F dX8_commonDivisor_9 (v := (20 : Int32)) rfl ?_
  refine X_icmp_ge (tgt := 34) F dX8_commonDivisor_11 (by decide) (fun q1 => ?_) (fun q1 => ?_)
  · rw [if_pos q1] at h
    refine X_iconst F dX8_commonDivisor_34 (v := (1 : Int32)) rfl ?_
    refine X_iload_n F dX8_commonDivisor_35 rfl ?_
    refine X_mmax F fmRX8_315 math_smax math_i math_cmax (rm_1 (by omega)) (rm_w (n := 13) (by omega) (Nat.le_of_ble_eq_true rfl) (by decide)) dX8_commonDivisor_36 ?_
    exact X_iret F hr hlk (retI h) dX8_commonDivisor_39
  · rw [if_neg q1] at h
    refine X_iload_n F dX8_commonDivisor_14 rfl ?_
    refine X_if_le (tgt := 34) F dX8_commonDivisor_15 (by decide) (fun q2 => ?_) (fun q2 => ?_)
    · rw [if_pos q2] at h
      refine X_iconst F dX8_commonDivisor_34 (v := (1 : Int32)) rfl ?_
      refine X_iload_n F dX8_commonDivisor_35 rfl ?_
      refine X_mmax F fmRX8_315 math_smax math_i math_cmax (rm_1 (by omega)) (rm_w (n := 13) (by omega) (Nat.le_of_ble_eq_true rfl) (by decide)) dX8_commonDivisor_36 ?_
      exact X_iret F hr hlk (retI h) dX8_commonDivisor_39
    · rw [if_neg q2] at h
      refine X_iload_n F dX8_commonDivisor_18 rfl ?_
      refine X_iload_n F dX8_commonDivisor_19 rfl ?_
      obtain ⟨q3, h⟩ := ifS h
      refine X_irem F dX8_commonDivisor_20 q3 ?_
      refine X_istore F dX8_commonDivisor_21 (by decide) rfl ?_
      refine X_iload_n F dX8_commonDivisor_23 rfl ?_
      refine X_istore_n F dX8_commonDivisor_24 (by decide) rfl ?_
      refine X_iload F dX8_commonDivisor_25 rfl ?_
      refine X_istore_n F dX8_commonDivisor_27 (by decide) rfl ?_
      refine X_iinc F dX8_commonDivisor_28 rfl (v := (1 : Int32)) rfl (by decide) rfl ?_
      refine X_goto (tgt := 7) F dX8_commonDivisor_31 (by decide) ?_
      refine X_pick [1, 2, 0] rfl ?_
      exact hrec7 _ _ _ _ h
set_option maxRecDepth 20000 in
theorem F8_commonDivisor_l7_ok {p : Program} {l : Launch} {e : Env} {s : State} {m : MethodId} {args : Array Value} {below : List Frame} {meth : Method} {c : Code} {G : GG} {D : Nat} {r : Int32 × Mem} (F : FrP shA G p s m args c RX8 cX8_commonDivisor 6) (hr : meth.sig.returnType = (some .int)) (hlk : meth.locks = false) (hD : 1 ≤ D) : ∀ (fu : Nat) (M : Mem) (x2 : Int32) (x3 : Int32) (x4 : Int32), F8_commonDivisor_l7 fu M x2 x3 x4 = some r → XJ shA p l e (rmX D) s m args below meth c 0 0 G 6 (MQ below (QcX shA G ((some (.int r.1), r.2) : Option Value × Mem).1 ((some (.int r.1), r.2) : Option Value × Mem).2) args s 0 0 (AW shA G.2.1)) 7 [(2, .int x2), (3, .int x3), (4, .int x4)] [] M := by
  intro fu
  induction fu with
  | zero => intro M x2 x3 x4 h; cases h
  | succ fu ih => intro M x2 x3 x4 h; exact F8_commonDivisor_l7_bok F hr hlk hD (fun M x2 x3 x4 => ih M x2 x3 x4) h
set_option maxRecDepth 20000 in
theorem F8_commonDivisor_ok {p : Program} {l : Launch} {e : Env} {s : State} {m : MethodId} {args : Array Value} {below : List Frame} {meth : Method} {c : Code} {G : GG} {D : Nat} {r : Int32 × Mem} (F : FrP shA G p s m args c RX8 cX8_commonDivisor 6) (hr : meth.sig.returnType = (some .int)) (hlk : meth.locks = false) (hD : 1 ≤ D) {M : Mem} {a0 : Int32} {a1 : Int32} (h : F8_commonDivisor M a0 a1 = some r) : XJ shA p l e (rmX D) s m args below meth c 0 0 G 6 (MQ below (QcX shA G ((some (.int r.1), r.2) : Option Value × Mem).1 ((some (.int r.1), r.2) : Option Value × Mem).2) args s 0 0 (AW shA G.2.1)) 0 [(0, .int a0), (1, .int a1)] [] M := by
  unfold F8_commonDivisor at h
  refine X_iload_n F dX8_commonDivisor_0 rfl ?_
  refine X_istore_n F dX8_commonDivisor_1 (by decide) rfl ?_
  refine X_iload_n F dX8_commonDivisor_2 rfl ?_
  refine X_istore_n F dX8_commonDivisor_3 (by decide) rfl ?_
  refine X_iconst F dX8_commonDivisor_4 (v := (0 : Int32)) rfl ?_
  refine X_istore F dX8_commonDivisor_5 (by decide) rfl ?_
  refine X_pick [2, 1, 0] rfl ?_
  exact F8_commonDivisor_l7_ok F hr hlk hD FUEL _ _ _ _ h
set_option maxRecDepth 20000 in
theorem F8_commonDivisor_met {l : Launch} {G : GG} {D : Nat} {r : Int32 × Mem} {M : Mem} {a0 : Int32} {a1 : Int32} (hI : Inj shA G.2.1) (hD : 1 ≤ D) (h : F8_commonDivisor M a0 a1 = some r) : MetX shA l G yX8_commonDivisor cX8_commonDivisor 6 (some .int) D [.int a0, .int a1] M (some (.int r.1), r.2) :=
  X_met hI (by decide +kernel) (Nat.le_of_ble_eq_true rfl) (fun p e s m args below meth c F hr hlk => F8_commonDivisor_ok F hr hlk hD h)
-- KeepOurPlace.chance
def F8_chance_j109 (M : Mem) (x2 : Int32) (x4 : Int32) (y0 : Int32) : Option (Int64 × Mem) :=
    Option.bind (F8_commonDivisor M x4 x2) fun r19 =>
    if ¬ r19.1 = 0 then
    some ((Int32.toInt64 (y0 / r19.1)), r19.2)
    else none
def F8_chance_j93 (rec44 : Mem → Int32 → Int32 → Int32 → Int32 → Int32 → Option (Int64 × Mem)) (M : Mem) (x1 : Int32) (x2 : Int32) (x3 : Int32) (x4 : Int32) (x5 : Int32) : Option (Int64 × Mem) :=
    rec44 M x1 x2 x3 x4 (x5 + (1 : Int32))
def F8_chance_l44_b (rec44 : Mem → Int32 → Int32 → Int32 → Int32 → Int32 → Option (Int64 × Mem)) (M : Mem) (x1 : Int32) (x2 : Int32) (x3 : Int32) (x4 : Int32) (x5 : Int32) : Option (Int64 × Mem) :=
    if x2 ≤ x5 then
      if ¬ x3 = 0 then
        F8_chance_j109 M x2 x4 x2
      else
        F8_chance_j109 M x2 x4 x4
    else
      Option.bind (F6_draw M (x1 + x5)) fun r11 =>
      Option.bind (F0_choose r11.2 r11.1) fun r13 =>
      if inb r13.1 64 = true then
      Option.bind (F0_letBy r13.2 (r13.2 40 (Int32.toNatClampNeg r13.1))) fun r16 =>
      if ¬ r16.1 = 0 then
        F8_chance_j93 rec44 r16.2 x1 x2 x3 x4 x5
      else
        F8_chance_j93 rec44 r16.2 x1 x2 x3 (x4 + (1 : Int32)) x5
      else none
def F8_chance_l44 : Nat → Mem → Int32 → Int32 → Int32 → Int32 → Int32 → Option (Int64 × Mem)
  | 0, _, _, _, _, _, _ => none
  | fu + 1, M, x1, x2, x3, x4, x5 => F8_chance_l44_b (F8_chance_l44 fu) M x1 x2 x3 x4 x5
def F8_chance (M : Mem) (a1 : Int32) (a2 : Int32) (a3 : Int32) : Option (Int64 × Mem) :=
    if a2 < (1 : Int32) then
      some ((-4611686018427387904 : Int64), M)
    else
      if (20 : Int32) < a2 then
        some ((-4611686018427387904 : Int64), M)
      else
        if a3 < 0 then
          some ((-4611686018427387904 : Int64), M)
        else
          if a3 ≤ (1 : Int32) then
            Option.bind (F6_all M) fun r5 =>
            Option.bind (F0_survey r5.2 r5.1) fun r7 =>
            F8_chance_l44 FUEL r7.2 a1 a2 a3 (0 : Int32) (0 : Int32)
          else
            some ((-4611686018427387904 : Int64), M)
set_option maxRecDepth 20000 in
theorem F8_chance_j109_ok {p : Program} {l : Launch} {e : Env} {s : State} {m : MethodId} {args : Array Value} {below : List Frame} {meth : Method} {c : Code} {G : GG} {D : Nat} {r : Int64 × Mem} (F : FrP shA G p s m args c RX8 cX8_chance 7) (hr : meth.sig.returnType = (some .long)) (hlk : meth.locks = false) (hD : 16 ≤ D) {M : Mem} {x2 : Int32} {x4 : Int32} {y0 : Int32} (h : F8_chance_j109 M x2 x4 y0 = some r) : XJ shA p l e (rmX D) s m args below meth c 0 0 G 7 (MQ below (QcX shA G ((some (.long r.1), r.2) : Option Value × Mem).1 ((some (.long r.1), r.2) : Option Value × Mem).2) args s 0 0 (AW shA G.2.1)) 109 [(2, .int x2), (4, .int x4)] [.int y0] M := by
  unfold F8_chance_j109 at h
  refine X_iload F dX8_chance_109 rfl ?_
  refine X_iload_n F dX8_chance_111 rfl ?_
  obtain ⟨r19, h20, h⟩ := bndS h
  refine X_callS (As := [.int x4, .int x2]) (rest := [.int y0]) F fsRX8_275 feX8_commonDivisor ftX8_commonDivisor (F8_commonDivisor_met (D := D - 1) F.2.2.2.2.2.2.2.1 (by omega) h20) rfl rfl (Nat.le_of_ble_eq_true rfl) (rm_ok (by omega) (by decide)) dX8_chance_112 ?_
  show XJ shA p l e (rmX D) s m args below meth c 0 0 G 7 (MQ below (QcX shA G ((some (.long r.1), r.2) : Option Value × Mem).1 ((some (.long r.1), r.2) : Option Value × Mem).2) args s 0 0 (AW shA G.2.1)) 115 [(2, .int x2), (4, .int x4)] [.int r19.1, .int y0] r19.2
  obtain ⟨q21, h⟩ := ifS h
  refine X_idiv F dX8_chance_115 q21 ?_
  refine X_i2l F dX8_chance_116 ?_
  exact X_lret F hr hlk (retL h) dX8_chance_117
set_option maxRecDepth 20000 in
theorem F8_chance_j93_ok {p : Program} {l : Launch} {e : Env} {s : State} {m : MethodId} {args : Array Value} {below : List Frame} {meth : Method} {c : Code} {G : GG} {D : Nat} {r : Int64 × Mem} {rec44 : Mem → Int32 → Int32 → Int32 → Int32 → Int32 → Option (Int64 × Mem)} (F : FrP shA G p s m args c RX8 cX8_chance 7) (hr : meth.sig.returnType = (some .long)) (hlk : meth.locks = false) (hD : 16 ≤ D) (hrec44 : ∀ (M : Mem) (x1 : Int32) (x2 : Int32) (x3 : Int32) (x4 : Int32) (x5 : Int32), rec44 M x1 x2 x3 x4 x5 = some r → XJ shA p l e (rmX D) s m args below meth c 0 0 G 7 (MQ below (QcX shA G ((some (.long r.1), r.2) : Option Value × Mem).1 ((some (.long r.1), r.2) : Option Value × Mem).2) args s 0 0 (AW shA G.2.1)) 44 [(0, .ref 0), (1, .int x1), (2, .int x2), (3, .int x3), (4, .int x4), (5, .int x5)] [] M) {M : Mem} {x1 : Int32} {x2 : Int32} {x3 : Int32} {x4 : Int32} {x5 : Int32} (h : F8_chance_j93 rec44 M x1 x2 x3 x4 x5 = some r) : XJ shA p l e (rmX D) s m args below meth c 0 0 G 7 (MQ below (QcX shA G ((some (.long r.1), r.2) : Option Value × Mem).1 ((some (.long r.1), r.2) : Option Value × Mem).2) args s 0 0 (AW shA G.2.1)) 93 [(0, .ref 0), (1, .int x1), (2, .int x2), (3, .int x3), (4, .int x4), (5, .int x5)] [] M := by
  unfold F8_chance_j93 at h
  refine X_iinc F dX8_chance_93 rfl (v := (1 : Int32)) rfl (by decide) rfl ?_
  refine X_goto (tgt := 44) F dX8_chance_96 (by decide) ?_
  refine X_pick [1, 2, 3, 4, 5, 0] rfl ?_
  exact hrec44 _ _ _ _ _ _ h
set_option maxRecDepth 20000 in
theorem F8_chance_l44_bok {p : Program} {l : Launch} {e : Env} {s : State} {m : MethodId} {args : Array Value} {below : List Frame} {meth : Method} {c : Code} {G : GG} {D : Nat} {r : Int64 × Mem} {rec44 : Mem → Int32 → Int32 → Int32 → Int32 → Int32 → Option (Int64 × Mem)} (F : FrP shA G p s m args c RX8 cX8_chance 7) (hr : meth.sig.returnType = (some .long)) (hlk : meth.locks = false) (hD : 16 ≤ D) (hrec44 : ∀ (M : Mem) (x1 : Int32) (x2 : Int32) (x3 : Int32) (x4 : Int32) (x5 : Int32), rec44 M x1 x2 x3 x4 x5 = some r → XJ shA p l e (rmX D) s m args below meth c 0 0 G 7 (MQ below (QcX shA G ((some (.long r.1), r.2) : Option Value × Mem).1 ((some (.long r.1), r.2) : Option Value × Mem).2) args s 0 0 (AW shA G.2.1)) 44 [(0, .ref 0), (1, .int x1), (2, .int x2), (3, .int x3), (4, .int x4), (5, .int x5)] [] M) {M : Mem} {x1 : Int32} {x2 : Int32} {x3 : Int32} {x4 : Int32} {x5 : Int32} (h : F8_chance_l44_b rec44 M x1 x2 x3 x4 x5 = some r) : XJ shA p l e (rmX D) s m args below meth c 0 0 G 7 (MQ below (QcX shA G ((some (.long r.1), r.2) : Option Value × Mem).1 ((some (.long r.1), r.2) : Option Value × Mem).2) args s 0 0 (AW shA G.2.1)) 44 [(0, .ref 0), (1, .int x1), (2, .int x2), (3, .int x3), (4, .int x4), (5, .int x5)] [] M := by
  unfold F8_chance_l44_b at h
  refine X_iload F dX8_chance_44 rfl ?_
  refine X_iload_n F dX8_chance_46 rfl ?_
  refine X_icmp_ge (tgt := 99) F dX8_chance_47 (by decide) (fun q9 => ?_) (fun q9 => ?_)
  · rw [if_pos q9] at h
    refine X_iload_n F dX8_chance_99 rfl ?_
    refine X_if_ne (tgt := 108) F dX8_chance_100 (by decide) (fun q10 => ?_) (fun q10 => ?_)
    · rw [if_pos q10] at h
      refine X_iload_n F dX8_chance_108 rfl ?_
      refine X_pick [2, 4] rfl ?_
      exact F8_chance_j109_ok F hr hlk hD h
    · rw [if_neg (fun z => z q10)] at h
      refine X_iload F dX8_chance_103 rfl ?_
      refine X_goto (tgt := 109) F dX8_chance_105 (by decide) ?_
      refine X_pick [2, 4] rfl ?_
      exact F8_chance_j109_ok F hr hlk hD h
  · rw [if_neg q9] at h
    refine X_aload_n F dX8_chance_50 rfl ?_
    refine X_getr F ffRX8_53 dX8_chance_51 ?_
    refine X_aload_n F dX8_chance_54 rfl ?_
    refine X_getr F ffRX8_19 dX8_chance_55 ?_
    refine X_iload_n F dX8_chance_58 rfl ?_
    refine X_iload F dX8_chance_59 rfl ?_
    refine X_iadd F dX8_chance_61 ?_
    obtain ⟨r11, h12, h⟩ := bndS h
    refine X_callV (ci := 5) (As := [.int (x1 + x5)]) (rest := [.ref 34]) F fkRX8_272 feX6_draw fvX6_draw ⟨_, _, _, rfl, rfl, rfl⟩ (F6_draw_met (D := D - 1) F.2.2.2.2.2.2.2.1 (by omega) h12) rfl rfl (Nat.le_of_ble_eq_true rfl) (rm_ok (by omega) (by decide)) dX8_chance_62 ?_
    show XJ shA p l e (rmX D) s m args below meth c 0 0 G 7 (MQ below (QcX shA G ((some (.long r.1), r.2) : Option Value × Mem).1 ((some (.long r.1), r.2) : Option Value × Mem).2) args s 0 0 (AW shA G.2.1)) 65 [(0, .ref 0), (1, .int x1), (2, .int x2), (3, .int x3), (4, .int x4), (5, .int x5)] [.int r11.1, .ref 34] r11.2
    obtain ⟨r13, h14, h⟩ := bndS h
    refine X_callV (ci := 34) (As := [.int r11.1]) (rest := []) F fkRX8_194 feX0_choose fvX0_choose ⟨_, _, _, rfl, rfl, rfl⟩ (F0_choose_met (D := D - 1) F.2.2.2.2.2.2.2.1 (by omega) h14) rfl rfl (Nat.le_of_ble_eq_true rfl) (rm_ok (by omega) (by decide)) dX8_chance_65 ?_
    show XJ shA p l e (rmX D) s m args below meth c 0 0 G 7 (MQ below (QcX shA G ((some (.long r.1), r.2) : Option Value × Mem).1 ((some (.long r.1), r.2) : Option Value × Mem).2) args s 0 0 (AW shA G.2.1)) 68 [(0, .ref 0), (1, .int x1), (2, .int x2), (3, .int x3), (4, .int x4), (5, .int x5)] [.int r13.1] r13.2
    refine X_istore F dX8_chance_68 (by decide) rfl ?_
    refine X_aload_n F dX8_chance_70 rfl ?_
    refine X_getr F ffRX8_53 dX8_chance_71 ?_
    refine X_aload_n F dX8_chance_74 rfl ?_
    refine X_getr F ffRX8_53 dX8_chance_75 ?_
    refine X_getr F ffRX8_200 dX8_chance_78 ?_
    refine X_iload F dX8_chance_81 rfl ?_
    obtain ⟨q15, h⟩ := ifS h
    refine X_iald (j := (Int32.toNatClampNeg r13.1)) (v := (r13.2 40 (Int32.toNatClampNeg r13.1))) F rfl (inbV q15) rfl rfl dX8_chance_83 ?_
    obtain ⟨r16, h17, h⟩ := bndS h
    refine X_callV (ci := 34) (As := [.int (r13.2 40 (Int32.toNatClampNeg r13.1))]) (rest := []) F fkRX8_172 feX0_letBy fvX0_letBy ⟨_, _, _, rfl, rfl, rfl⟩ (F0_letBy_met (D := D - 1) F.2.2.2.2.2.2.2.1 (by omega) h17) rfl rfl (Nat.le_of_ble_eq_true rfl) (rm_ok (by omega) (by decide)) dX8_chance_84 ?_
    show XJ shA p l e (rmX D) s m args below meth c 0 0 G 7 (MQ below (QcX shA G ((some (.long r.1), r.2) : Option Value × Mem).1 ((some (.long r.1), r.2) : Option Value × Mem).2) args s 0 0 (AW shA G.2.1)) 87 [(6, .int r13.1), (0, .ref 0), (1, .int x1), (2, .int x2), (3, .int x3), (4, .int x4), (5, .int x5)] [.int r16.1] r16.2
    refine X_if_ne (tgt := 93) F dX8_chance_87 (by decide) (fun q18 => ?_) (fun q18 => ?_)
    · rw [if_pos q18] at h
      refine X_pick [1, 2, 3, 4, 5, 6] rfl ?_
      exact F8_chance_j93_ok F hr hlk hD hrec44 h
    · rw [if_neg (fun z => z q18)] at h
      refine X_iinc F dX8_chance_90 rfl (v := (1 : Int32)) rfl (by decide) rfl ?_
      refine X_pick [2, 3, 4, 5, 0, 6] rfl ?_
      exact F8_chance_j93_ok F hr hlk hD hrec44 h
set_option maxRecDepth 20000 in
theorem F8_chance_l44_ok {p : Program} {l : Launch} {e : Env} {s : State} {m : MethodId} {args : Array Value} {below : List Frame} {meth : Method} {c : Code} {G : GG} {D : Nat} {r : Int64 × Mem} (F : FrP shA G p s m args c RX8 cX8_chance 7) (hr : meth.sig.returnType = (some .long)) (hlk : meth.locks = false) (hD : 16 ≤ D) : ∀ (fu : Nat) (M : Mem) (x1 : Int32) (x2 : Int32) (x3 : Int32) (x4 : Int32) (x5 : Int32), F8_chance_l44 fu M x1 x2 x3 x4 x5 = some r → XJ shA p l e (rmX D) s m args below meth c 0 0 G 7 (MQ below (QcX shA G ((some (.long r.1), r.2) : Option Value × Mem).1 ((some (.long r.1), r.2) : Option Value × Mem).2) args s 0 0 (AW shA G.2.1)) 44 [(0, .ref 0), (1, .int x1), (2, .int x2), (3, .int x3), (4, .int x4), (5, .int x5)] [] M := by
  intro fu
  induction fu with
  | zero => intro M x1 x2 x3 x4 x5 h; cases h
  | succ fu ih => intro M x1 x2 x3 x4 x5 h; exact F8_chance_l44_bok F hr hlk hD (fun M x1 x2 x3 x4 x5 => ih M x1 x2 x3 x4 x5) h
set_option maxRecDepth 20000 in
theorem F8_chance_ok {p : Program} {l : Launch} {e : Env} {s : State} {m : MethodId} {args : Array Value} {below : List Frame} {meth : Method} {c : Code} {G : GG} {D : Nat} {r : Int64 × Mem} (F : FrP shA G p s m args c RX8 cX8_chance 7) (hr : meth.sig.returnType = (some .long)) (hlk : meth.locks = false) (hD : 16 ≤ D) {M : Mem} {a1 : Int32} {a2 : Int32} {a3 : Int32} (h : F8_chance M a1 a2 a3 = some r) : XJ shA p l e (rmX D) s m args below meth c 0 0 G 7 (MQ below (QcX shA G ((some (.long r.1), r.2) : Option Value × Mem).1 ((some (.long r.1), r.2) : Option Value × Mem).2) args s 0 0 (AW shA G.2.1)) 0 [(0, .ref 0), (1, .int a1), (2, .int a2), (3, .int a3)] [] M := by
  unfold F8_chance at h
  refine X_iload_n F dX8_chance_0 rfl ?_
  refine X_iconst F dX8_chance_1 (v := (1 : Int32)) rfl ?_
  refine X_icmp_lt (tgt := 20) F dX8_chance_2 (by decide) (fun q1 => ?_) (fun q1 => ?_)
  · rw [if_pos q1] at h
    refine X_ldc2 F fcRX8_226 dX8_chance_20 ?_
    exact X_lret F hr hlk (retL h) dX8_chance_23
  · rw [if_neg q1] at h
    refine X_iload_n F dX8_chance_5 rfl ?_
    refine X_bipush F dX8_chance_6 (v := (20 : Int32)) rfl ?_
    refine X_icmp_gt (tgt := 20) F dX8_chance_8 (by decide) (fun q2 => ?_) (fun q2 => ?_)
    · rw [if_pos q2] at h
      refine X_ldc2 F fcRX8_226 dX8_chance_20 ?_
      exact X_lret F hr hlk (retL h) dX8_chance_23
    · rw [if_neg q2] at h
      refine X_iload_n F dX8_chance_11 rfl ?_
      refine X_if_lt (tgt := 20) F dX8_chance_12 (by decide) (fun q3 => ?_) (fun q3 => ?_)
      · rw [if_pos q3] at h
        refine X_ldc2 F fcRX8_226 dX8_chance_20 ?_
        exact X_lret F hr hlk (retL h) dX8_chance_23
      · rw [if_neg q3] at h
        refine X_iload_n F dX8_chance_15 rfl ?_
        refine X_iconst F dX8_chance_16 (v := (1 : Int32)) rfl ?_
        refine X_icmp_le (tgt := 24) F dX8_chance_17 (by decide) (fun q4 => ?_) (fun q4 => ?_)
        · rw [if_pos q4] at h
          refine X_aload_n F dX8_chance_24 rfl ?_
          refine X_getr F ffRX8_53 dX8_chance_25 ?_
          refine X_aload_n F dX8_chance_28 rfl ?_
          refine X_getr F ffRX8_19 dX8_chance_29 ?_
          obtain ⟨r5, h6, h⟩ := bndS h
          refine X_callV (ci := 5) (As := []) (rest := [.ref 34]) F fkRX8_187 feX6_all fvX6_all ⟨_, _, _, rfl, rfl, rfl⟩ (F6_all_met (D := D - 1) F.2.2.2.2.2.2.2.1 (by omega) h6) rfl rfl (Nat.le_of_ble_eq_true rfl) (rm_ok (by omega) (by decide)) dX8_chance_32 ?_
          show XJ shA p l e (rmX D) s m args below meth c 0 0 G 7 (MQ below (QcX shA G ((some (.long r.1), r.2) : Option Value × Mem).1 ((some (.long r.1), r.2) : Option Value × Mem).2) args s 0 0 (AW shA G.2.1)) 35 [(0, .ref 0), (1, .int a1), (2, .int a2), (3, .int a3)] [.int r5.1, .ref 34] r5.2
          obtain ⟨r7, h8, h⟩ := bndS h
          refine X_callV (ci := 34) (As := [.int r5.1]) (rest := []) F fkRX8_190 feX0_survey fvX0_survey ⟨_, _, _, rfl, rfl, rfl⟩ (F0_survey_met (D := D - 1) F.2.2.2.2.2.2.2.1 (by omega) h8) rfl rfl (Nat.le_of_ble_eq_true rfl) (rm_ok (by omega) (by decide)) dX8_chance_35 ?_
          show XJ shA p l e (rmX D) s m args below meth c 0 0 G 7 (MQ below (QcX shA G ((some (.long r.1), r.2) : Option Value × Mem).1 ((some (.long r.1), r.2) : Option Value × Mem).2) args s 0 0 (AW shA G.2.1)) 38 [(0, .ref 0), (1, .int a1), (2, .int a2), (3, .int a3)] [] r7.2
          refine X_iconst F dX8_chance_38 (v := (0 : Int32)) rfl ?_
          refine X_istore F dX8_chance_39 (by decide) rfl ?_
          refine X_iconst F dX8_chance_41 (v := (0 : Int32)) rfl ?_
          refine X_istore F dX8_chance_42 (by decide) rfl ?_
          refine X_pick [2, 3, 4, 5, 1, 0] rfl ?_
          exact F8_chance_l44_ok F hr hlk hD FUEL _ _ _ _ _ _ h
        · rw [if_neg q4] at h
          refine X_ldc2 F fcRX8_226 dX8_chance_20 ?_
          exact X_lret F hr hlk (retL h) dX8_chance_23
set_option maxRecDepth 20000 in
theorem F8_chance_met {l : Launch} {G : GG} {D : Nat} {r : Int64 × Mem} {M : Mem} {a1 : Int32} {a2 : Int32} {a3 : Int32} (hI : Inj shA G.2.1) (hD : 16 ≤ D) (h : F8_chance M a1 a2 a3 = some r) : MetX shA l G yX8_chance cX8_chance 7 (some .long) D [.ref 0, .int a1, .int a2, .int a3] M (some (.long r.1), r.2) :=
  X_met hI (by decide +kernel) (Nat.le_of_ble_eq_true rfl) (fun p e s m args below meth c F hr hlk => F8_chance_ok F hr hlk hD h)
-- KeepOurPlace.image
def F8_image (M : Mem) : Option (Int32 × Mem) :=
    Option.bind (F1_keep M) fun r1 =>
    some ((r1.2 1 3), r1.2)
set_option maxRecDepth 20000 in
theorem F8_image_ok {p : Program} {l : Launch} {e : Env} {s : State} {m : MethodId} {args : Array Value} {below : List Frame} {meth : Method} {c : Code} {G : GG} {D : Nat} {r : Int32 × Mem} (F : FrP shA G p s m args c RX8 cX8_image 1) (hr : meth.sig.returnType = (some .int)) (hlk : meth.locks = false) (hD : 2 ≤ D) {M : Mem} (h : F8_image M = some r) : XJ shA p l e (rmX D) s m args below meth c 0 0 G 1 (MQ below (QcX shA G ((some (.int r.1), r.2) : Option Value × Mem).1 ((some (.int r.1), r.2) : Option Value × Mem).2) args s 0 0 (AW shA G.2.1)) 0 [(0, .ref 0)] [] M := by
  unfold F8_image at h
  refine X_aload_n F dX8_image_0 rfl ?_
  refine X_getr F ffRX8_67 dX8_image_1 ?_
  refine X_aload_n F dX8_image_4 rfl ?_
  refine X_getr F ffRX8_10 dX8_image_5 ?_
  refine X_aload_n F dX8_image_8 rfl ?_
  refine X_getr F ffRX8_19 dX8_image_9 ?_
  refine X_aload_n F dX8_image_12 rfl ?_
  refine X_getr F ffRX8_35 dX8_image_13 ?_
  obtain ⟨r1, h2, h⟩ := bndS h
  refine X_callV (ci := 50) (As := [.ref 1, .ref 5, .ref 16]) (rest := []) F fkRX8_278 feX1_keep fvX1_keep ⟨_, _, _, rfl, rfl, rfl⟩ (F1_keep_met (D := D - 1) F.2.2.2.2.2.2.2.1 (by omega) h2) rfl rfl (Nat.le_of_ble_eq_true rfl) (rm_ok (by omega) (by decide)) dX8_image_16 ?_
  show XJ shA p l e (rmX D) s m args below meth c 0 0 G 1 (MQ below (QcX shA G ((some (.int r.1), r.2) : Option Value × Mem).1 ((some (.int r.1), r.2) : Option Value × Mem).2) args s 0 0 (AW shA G.2.1)) 19 [(0, .ref 0)] [] r1.2
  refine X_aload_n F dX8_image_19 rfl ?_
  refine X_getr F ffRX8_10 dX8_image_20 ?_
  refine X_geti (v := (r1.2 1 3)) F ffRX8_142 dX8_image_23 rfl ?_
  exact X_iret F hr hlk (retI h) dX8_image_26
set_option maxRecDepth 20000 in
theorem F8_image_met {l : Launch} {G : GG} {D : Nat} {r : Int32 × Mem} {M : Mem} (hI : Inj shA G.2.1) (hD : 2 ≤ D) (h : F8_image M = some r) : MetX shA l G yX8_image cX8_image 1 (some .int) D [.ref 0] M (some (.int r.1), r.2) :=
  X_met hI (by decide +kernel) (Nat.le_of_ble_eq_true rfl) (fun p e s m args below meth c F hr hlk => F8_image_ok F hr hlk hD h)
-- KeepOurPlace.back
def F8_back (M : Mem) : Option (Int32 × Mem) :=
    if (M 50 0) = 0 then
      some ((-3 : Int32), M)
    else
      if (M 50 1) = (M 1 5) then
        Option.bind (F1_restore M) fun r3 =>
        some ((r3.2 1 3), r3.2)
      else
        some ((-3 : Int32), M)
set_option maxRecDepth 20000 in
theorem F8_back_ok {p : Program} {l : Launch} {e : Env} {s : State} {m : MethodId} {args : Array Value} {below : List Frame} {meth : Method} {c : Code} {G : GG} {D : Nat} {r : Int32 × Mem} (F : FrP shA G p s m args c RX8 cX8_back 1) (hr : meth.sig.returnType = (some .int)) (hlk : meth.locks = false) (hD : 2 ≤ D) {M : Mem} (h : F8_back M = some r) : XJ shA p l e (rmX D) s m args below meth c 0 0 G 1 (MQ below (QcX shA G ((some (.int r.1), r.2) : Option Value × Mem).1 ((some (.int r.1), r.2) : Option Value × Mem).2) args s 0 0 (AW shA G.2.1)) 0 [(0, .ref 0)] [] M := by
  unfold F8_back at h
  refine X_aload_n F dX8_back_0 rfl ?_
  refine X_getr F ffRX8_67 dX8_back_1 ?_
  refine X_geti (v := (M 50 0)) F ffRX8_282 dX8_back_4 rfl ?_
  refine X_if_eq (tgt := 27) F dX8_back_7 (by decide) (fun q1 => ?_) (fun q1 => ?_)
  · rw [if_pos q1] at h
    refine X_bipush F dX8_back_27 (v := (-3 : Int32)) rfl ?_
    exact X_iret F hr hlk (retI h) dX8_back_29
  · rw [if_neg q1] at h
    refine X_aload_n F dX8_back_10 rfl ?_
    refine X_getr F ffRX8_67 dX8_back_11 ?_
    refine X_geti (v := (M 50 1)) F ffRX8_286 dX8_back_14 rfl ?_
    refine X_aload_n F dX8_back_17 rfl ?_
    refine X_getr F ffRX8_10 dX8_back_18 ?_
    refine X_geti (v := (M 1 5)) F ffRX8_289 dX8_back_21 rfl ?_
    refine X_icmp_eq (tgt := 30) F dX8_back_24 (by decide) (fun q2 => ?_) (fun q2 => ?_)
    · rw [if_pos q2] at h
      refine X_aload_n F dX8_back_30 rfl ?_
      refine X_getr F ffRX8_67 dX8_back_31 ?_
      refine X_aload_n F dX8_back_34 rfl ?_
      refine X_getr F ffRX8_10 dX8_back_35 ?_
      refine X_aload_n F dX8_back_38 rfl ?_
      refine X_getr F ffRX8_19 dX8_back_39 ?_
      refine X_aload_n F dX8_back_42 rfl ?_
      refine X_getr F ffRX8_35 dX8_back_43 ?_
      obtain ⟨r3, h4, h⟩ := bndS h
      refine X_callV (ci := 50) (As := [.ref 1, .ref 5, .ref 16]) (rest := []) F fkRX8_290 feX1_restore fvX1_restore ⟨_, _, _, rfl, rfl, rfl⟩ (F1_restore_met (D := D - 1) F.2.2.2.2.2.2.2.1 (by omega) h4) rfl rfl (Nat.le_of_ble_eq_true rfl) (rm_ok (by omega) (by decide)) dX8_back_46 ?_
      show XJ shA p l e (rmX D) s m args below meth c 0 0 G 1 (MQ below (QcX shA G ((some (.int r.1), r.2) : Option Value × Mem).1 ((some (.int r.1), r.2) : Option Value × Mem).2) args s 0 0 (AW shA G.2.1)) 49 [(0, .ref 0)] [] r3.2
      refine X_aload_n F dX8_back_49 rfl ?_
      refine X_getr F ffRX8_10 dX8_back_50 ?_
      refine X_geti (v := (r3.2 1 3)) F ffRX8_142 dX8_back_53 rfl ?_
      exact X_iret F hr hlk (retI h) dX8_back_56
    · rw [if_neg q2] at h
      refine X_bipush F dX8_back_27 (v := (-3 : Int32)) rfl ?_
      exact X_iret F hr hlk (retI h) dX8_back_29
set_option maxRecDepth 20000 in
theorem F8_back_met {l : Launch} {G : GG} {D : Nat} {r : Int32 × Mem} {M : Mem} (hI : Inj shA G.2.1) (hD : 2 ≤ D) (h : F8_back M = some r) : MetX shA l G yX8_back cX8_back 1 (some .int) D [.ref 0] M (some (.int r.1), r.2) :=
  X_met hI (by decide +kernel) (Nat.le_of_ble_eq_true rfl) (fun p e s m args below meth c F hr hlk => F8_back_ok F hr hlk hD h)
-- KeepOurPlace.count
def F8_count (M : Mem) (a1 : Int32) : Option (Int32 × Mem) :=
    if a1 = (0 : Int32) then
      some ((M 1 3), M)
    else
    if a1 = (1 : Int32) then
      some ((M 5 3), M)
    else
    if a1 = (2 : Int32) then
      some ((M 1 4), M)
    else
    if a1 = (3 : Int32) then
      some ((M 16 5), M)
    else
    if a1 = (4 : Int32) then
      some ((M 9 1), M)
    else
    if a1 = (5 : Int32) then
      some ((M 16 6), M)
    else
    if a1 = (6 : Int32) then
      some ((M 1 5), M)
    else
    some ((-2 : Int32), M)
set_option maxRecDepth 20000 in
theorem F8_count_ok {p : Program} {l : Launch} {e : Env} {s : State} {m : MethodId} {args : Array Value} {below : List Frame} {meth : Method} {c : Code} {G : GG} {D : Nat} {r : Int32 × Mem} (F : FrP shA G p s m args c RX8 cX8_count 2) (hr : meth.sig.returnType = (some .int)) (hlk : meth.locks = false) (hD : 1 ≤ D) {M : Mem} {a1 : Int32} (h : F8_count M a1 = some r) : XJ shA p l e (rmX D) s m args below meth c 0 0 G 2 (MQ below (QcX shA G ((some (.int r.1), r.2) : Option Value × Mem).1 ((some (.int r.1), r.2) : Option Value × Mem).2) args s 0 0 (AW shA G.2.1)) 0 [(0, .ref 0), (1, .int a1)] [] M := by
  unfold F8_count at h
  refine X_iload_n F dX8_count_0 rfl ?_
  by_cases q1 : a1 = (0 : Int32)
  · rw [if_pos q1] at h
    refine X_tin (tgt := 44) (off := 43) F dX8_count_1 (by rw [q1]; decide) (by decide) ?_
    refine X_aload_n F dX8_count_44 rfl ?_
    refine X_getr F ffRX8_10 dX8_count_45 ?_
    refine X_geti (v := (M 1 3)) F ffRX8_142 dX8_count_48 rfl ?_
    exact X_iret F hr hlk (retI h) dX8_count_51
  rw [if_neg q1] at h
  by_cases q2 : a1 = (1 : Int32)
  · rw [if_pos q2] at h
    refine X_tin (tgt := 52) (off := 51) F dX8_count_1 (by rw [q2]; decide) (by decide) ?_
    refine X_aload_n F dX8_count_52 rfl ?_
    refine X_getr F ffRX8_19 dX8_count_53 ?_
    refine X_geti (v := (M 5 3)) F ffRX8_293 dX8_count_56 rfl ?_
    exact X_iret F hr hlk (retI h) dX8_count_59
  rw [if_neg q2] at h
  by_cases q3 : a1 = (2 : Int32)
  · rw [if_pos q3] at h
    refine X_tin (tgt := 60) (off := 59) F dX8_count_1 (by rw [q3]; decide) (by decide) ?_
    refine X_aload_n F dX8_count_60 rfl ?_
    refine X_getr F ffRX8_10 dX8_count_61 ?_
    refine X_geti (v := (M 1 4)) F ffRX8_223 dX8_count_64 rfl ?_
    exact X_iret F hr hlk (retI h) dX8_count_67
  rw [if_neg q3] at h
  by_cases q4 : a1 = (3 : Int32)
  · rw [if_pos q4] at h
    refine X_tin (tgt := 68) (off := 67) F dX8_count_1 (by rw [q4]; decide) (by decide) ?_
    refine X_aload_n F dX8_count_68 rfl ?_
    refine X_getr F ffRX8_35 dX8_count_69 ?_
    refine X_geti (v := (M 16 5)) F ffRX8_152 dX8_count_72 rfl ?_
    exact X_iret F hr hlk (retI h) dX8_count_75
  rw [if_neg q4] at h
  by_cases q5 : a1 = (4 : Int32)
  · rw [if_pos q5] at h
    refine X_tin (tgt := 76) (off := 75) F dX8_count_1 (by rw [q5]; decide) (by decide) ?_
    refine X_aload_n F dX8_count_76 rfl ?_
    refine X_getr F ffRX8_26 dX8_count_77 ?_
    refine X_geti (v := (M 9 1)) F ffRX8_149 dX8_count_80 rfl ?_
    exact X_iret F hr hlk (retI h) dX8_count_83
  rw [if_neg q5] at h
  by_cases q6 : a1 = (5 : Int32)
  · rw [if_pos q6] at h
    refine X_tin (tgt := 84) (off := 83) F dX8_count_1 (by rw [q6]; decide) (by decide) ?_
    refine X_aload_n F dX8_count_84 rfl ?_
    refine X_getr F ffRX8_35 dX8_count_85 ?_
    refine X_geti (v := (M 16 6)) F ffRX8_156 dX8_count_88 rfl ?_
    exact X_iret F hr hlk (retI h) dX8_count_91
  rw [if_neg q6] at h
  by_cases q7 : a1 = (6 : Int32)
  · rw [if_pos q7] at h
    refine X_tin (tgt := 92) (off := 91) F dX8_count_1 (by rw [q7]; decide) (by decide) ?_
    refine X_aload_n F dX8_count_92 rfl ?_
    refine X_getr F ffRX8_10 dX8_count_93 ?_
    refine X_geti (v := (M 1 5)) F ffRX8_289 dX8_count_96 rfl ?_
    exact X_iret F hr hlk (retI h) dX8_count_99
  rw [if_neg q7] at h
  have eq1 := lv_neT q1 (a := 0) (by decide)
  have eq2 := lv_neT q2 (a := 1) (by decide)
  have eq3 := lv_neT q3 (a := 2) (by decide)
  have eq4 := lv_neT q4 (a := 3) (by decide)
  have eq5 := lv_neT q5 (a := 4) (by decide)
  have eq6 := lv_neT q6 (a := 5) (by decide)
  have eq7 := lv_neT q7 (a := 6) (by decide)
  refine X_tout (tgt := 100) F dX8_count_1 (by omega) (by decide) ?_
  refine X_bipush F dX8_count_100 (v := (-2 : Int32)) rfl ?_
  exact X_iret F hr hlk (retI h) dX8_count_102
set_option maxRecDepth 20000 in
theorem F8_count_met {l : Launch} {G : GG} {D : Nat} {r : Int32 × Mem} {M : Mem} {a1 : Int32} (hI : Inj shA G.2.1) (hD : 1 ≤ D) (h : F8_count M a1 = some r) : MetX shA l G yX8_count cX8_count 2 (some .int) D [.ref 0, .int a1] M (some (.int r.1), r.2) :=
  X_met hI (by decide +kernel) (Nat.le_of_ble_eq_true rfl) (fun p e s m args below meth c F hr hlk => F8_count_ok F hr hlk hD h)
-- KeepOurPlace.sheet
def F8_sheet (M : Mem) (a1 : Int32) (a2 : Int32) (a3 : Int32) : Option (Int32 × Mem) :=
    Option.bind (F5_holds M a1) fun r1 =>
    if r1.1 = 0 then
      some ((-2 : Int32), r1.2)
    else
      if a2 < (-1 : Int32) then
        some ((-2 : Int32), r1.2)
      else
        if a2 ≤ (2 : Int32) then
          if ¬ a2 = (-1 : Int32) then
            if a3 ≤ (40 : Int32) then
              if 0 ≤ a3 then
                Option.bind (F5_lay r1.2 a1 a2 a3) fun r9 =>
                some ((1 : Int32), r9.2)
              else
                some ((-14 : Int32), r1.2)
            else
              some ((-2 : Int32), r1.2)
          else
            Option.bind (F5_lay r1.2 a1 (-1 : Int32) (0 : Int32)) fun r11 =>
            some ((1 : Int32), r11.2)
        else
          some ((-2 : Int32), r1.2)
set_option maxRecDepth 20000 in
theorem F8_sheet_ok {p : Program} {l : Launch} {e : Env} {s : State} {m : MethodId} {args : Array Value} {below : List Frame} {meth : Method} {c : Code} {G : GG} {D : Nat} {r : Int32 × Mem} (F : FrP shA G p s m args c RX8 cX8_sheet 4) (hr : meth.sig.returnType = (some .int)) (hlk : meth.locks = false) (hD : 3 ≤ D) {M : Mem} {a1 : Int32} {a2 : Int32} {a3 : Int32} (h : F8_sheet M a1 a2 a3 = some r) : XJ shA p l e (rmX D) s m args below meth c 0 0 G 4 (MQ below (QcX shA G ((some (.int r.1), r.2) : Option Value × Mem).1 ((some (.int r.1), r.2) : Option Value × Mem).2) args s 0 0 (AW shA G.2.1)) 0 [(0, .ref 0), (1, .int a1), (2, .int a2), (3, .int a3)] [] M := by
  unfold F8_sheet at h
  refine X_aload_n F dX8_sheet_0 rfl ?_
  refine X_getr F ffRX8_60 dX8_sheet_1 ?_
  refine X_iload_n F dX8_sheet_4 rfl ?_
  obtain ⟨r1, h2, h⟩ := bndS h
  refine X_callV (ci := 42) (As := [.int a1]) (rest := []) F fkRX8_230 feX5_holds fvX5_holds ⟨_, _, _, rfl, rfl, rfl⟩ (F5_holds_met (D := D - 1) F.2.2.2.2.2.2.2.1 (by omega) h2) rfl rfl (Nat.le_of_ble_eq_true rfl) (rm_ok (by omega) (by decide)) dX8_sheet_5 ?_
  show XJ shA p l e (rmX D) s m args below meth c 0 0 G 4 (MQ below (QcX shA G ((some (.int r.1), r.2) : Option Value × Mem).1 ((some (.int r.1), r.2) : Option Value × Mem).2) args s 0 0 (AW shA G.2.1)) 8 [(0, .ref 0), (1, .int a1), (2, .int a2), (3, .int a3)] [.int r1.1] r1.2
  refine X_if_eq (tgt := 21) F dX8_sheet_8 (by decide) (fun q3 => ?_) (fun q3 => ?_)
  · rw [if_pos q3] at h
    refine X_bipush F dX8_sheet_21 (v := (-2 : Int32)) rfl ?_
    exact X_iret F hr hlk (retI h) dX8_sheet_23
  · rw [if_neg q3] at h
    refine X_iload_n F dX8_sheet_11 rfl ?_
    refine X_iconst F dX8_sheet_12 (v := (-1 : Int32)) rfl ?_
    refine X_icmp_lt (tgt := 21) F dX8_sheet_13 (by decide) (fun q4 => ?_) (fun q4 => ?_)
    · rw [if_pos q4] at h
      refine X_bipush F dX8_sheet_21 (v := (-2 : Int32)) rfl ?_
      exact X_iret F hr hlk (retI h) dX8_sheet_23
    · rw [if_neg q4] at h
      refine X_iload_n F dX8_sheet_16 rfl ?_
      refine X_iconst F dX8_sheet_17 (v := (2 : Int32)) rfl ?_
      refine X_icmp_le (tgt := 24) F dX8_sheet_18 (by decide) (fun q5 => ?_) (fun q5 => ?_)
      · rw [if_pos q5] at h
        refine X_iload_n F dX8_sheet_24 rfl ?_
        refine X_iconst F dX8_sheet_25 (v := (-1 : Int32)) rfl ?_
        refine X_icmp_ne (tgt := 41) F dX8_sheet_26 (by decide) (fun q6 => ?_) (fun q6 => ?_)
        · rw [if_pos q6] at h
          refine X_iload_n F dX8_sheet_41 rfl ?_
          refine X_bipush F dX8_sheet_42 (v := (40 : Int32)) rfl ?_
          refine X_icmp_le (tgt := 50) F dX8_sheet_44 (by decide) (fun q7 => ?_) (fun q7 => ?_)
          · rw [if_pos q7] at h
            refine X_iload_n F dX8_sheet_50 rfl ?_
            refine X_if_ge (tgt := 57) F dX8_sheet_51 (by decide) (fun q8 => ?_) (fun q8 => ?_)
            · rw [if_pos q8] at h
              refine X_aload_n F dX8_sheet_57 rfl ?_
              refine X_getr F ffRX8_60 dX8_sheet_58 ?_
              refine X_iload_n F dX8_sheet_61 rfl ?_
              refine X_iload_n F dX8_sheet_62 rfl ?_
              refine X_iload_n F dX8_sheet_63 rfl ?_
              obtain ⟨r9, h10, h⟩ := bndS h
              refine X_callV (ci := 42) (As := [.int a1, .int a2, .int a3]) (rest := []) F fkRX8_265 feX5_lay fvX5_lay ⟨_, _, _, rfl, rfl, rfl⟩ (F5_lay_met (D := D - 1) F.2.2.2.2.2.2.2.1 (by omega) h10) rfl rfl (Nat.le_of_ble_eq_true rfl) (rm_ok (by omega) (by decide)) dX8_sheet_64 ?_
              show XJ shA p l e (rmX D) s m args below meth c 0 0 G 4 (MQ below (QcX shA G ((some (.int r.1), r.2) : Option Value × Mem).1 ((some (.int r.1), r.2) : Option Value × Mem).2) args s 0 0 (AW shA G.2.1)) 67 [(0, .ref 0), (1, .int a1), (2, .int a2), (3, .int a3)] [] r9.2
              refine X_iconst F dX8_sheet_67 (v := (1 : Int32)) rfl ?_
              exact X_iret F hr hlk (retI h) dX8_sheet_68
            · rw [if_neg q8] at h
              refine X_bipush F dX8_sheet_54 (v := (-14 : Int32)) rfl ?_
              exact X_iret F hr hlk (retI h) dX8_sheet_56
          · rw [if_neg q7] at h
            refine X_bipush F dX8_sheet_47 (v := (-2 : Int32)) rfl ?_
            exact X_iret F hr hlk (retI h) dX8_sheet_49
        · rw [if_neg (fun z => z q6)] at h
          refine X_aload_n F dX8_sheet_29 rfl ?_
          refine X_getr F ffRX8_60 dX8_sheet_30 ?_
          refine X_iload_n F dX8_sheet_33 rfl ?_
          refine X_iconst F dX8_sheet_34 (v := (-1 : Int32)) rfl ?_
          refine X_iconst F dX8_sheet_35 (v := (0 : Int32)) rfl ?_
          obtain ⟨r11, h12, h⟩ := bndS h
          refine X_callV (ci := 42) (As := [.int a1, .int (-1 : Int32), .int (0 : Int32)]) (rest := []) F fkRX8_265 feX5_lay fvX5_lay ⟨_, _, _, rfl, rfl, rfl⟩ (F5_lay_met (D := D - 1) F.2.2.2.2.2.2.2.1 (by omega) h12) rfl rfl (Nat.le_of_ble_eq_true rfl) (rm_ok (by omega) (by decide)) dX8_sheet_36 ?_
          show XJ shA p l e (rmX D) s m args below meth c 0 0 G 4 (MQ below (QcX shA G ((some (.int r.1), r.2) : Option Value × Mem).1 ((some (.int r.1), r.2) : Option Value × Mem).2) args s 0 0 (AW shA G.2.1)) 39 [(0, .ref 0), (1, .int a1), (2, .int a2), (3, .int a3)] [] r11.2
          refine X_iconst F dX8_sheet_39 (v := (1 : Int32)) rfl ?_
          exact X_iret F hr hlk (retI h) dX8_sheet_40
      · rw [if_neg q5] at h
        refine X_bipush F dX8_sheet_21 (v := (-2 : Int32)) rfl ?_
        exact X_iret F hr hlk (retI h) dX8_sheet_23
set_option maxRecDepth 20000 in
theorem F8_sheet_met {l : Launch} {G : GG} {D : Nat} {r : Int32 × Mem} {M : Mem} {a1 : Int32} {a2 : Int32} {a3 : Int32} (hI : Inj shA G.2.1) (hD : 3 ≤ D) (h : F8_sheet M a1 a2 a3 = some r) : MetX shA l G yX8_sheet cX8_sheet 4 (some .int) D [.ref 0, .int a1, .int a2, .int a3] M (some (.int r.1), r.2) :=
  X_met hI (by decide +kernel) (Nat.le_of_ble_eq_true rfl) (fun p e s m args below meth c F hr hlk => F8_sheet_ok F hr hlk hD h)
-- KeepOurPlace.cell
def F8_cell (M : Mem) (a1 : Int32) (a2 : Int32) (a3 : Int32) : Option (Int32 × Mem) :=
    Option.bind (F5_holds M a1) fun r1 =>
    if ¬ r1.1 = 0 then
      Option.bind (F5_isMissing r1.2 a1) fun r4 =>
      if r4.1 = 0 then
        Option.bind (F5_write r4.2 a1 a2 a3) fun r7 =>
        if r7.1 = 0 then
          some ((-12 : Int32), r7.2)
        else
          some ((1 : Int32), r7.2)
      else
        some ((-11 : Int32), r4.2)
    else
      some ((-2 : Int32), r1.2)
set_option maxRecDepth 20000 in
theorem F8_cell_ok {p : Program} {l : Launch} {e : Env} {s : State} {m : MethodId} {args : Array Value} {below : List Frame} {meth : Method} {c : Code} {G : GG} {D : Nat} {r : Int32 × Mem} (F : FrP shA G p s m args c RX8 cX8_cell 4) (hr : meth.sig.returnType = (some .int)) (hlk : meth.locks = false) (hD : 3 ≤ D) {M : Mem} {a1 : Int32} {a2 : Int32} {a3 : Int32} (h : F8_cell M a1 a2 a3 = some r) : XJ shA p l e (rmX D) s m args below meth c 0 0 G 4 (MQ below (QcX shA G ((some (.int r.1), r.2) : Option Value × Mem).1 ((some (.int r.1), r.2) : Option Value × Mem).2) args s 0 0 (AW shA G.2.1)) 0 [(0, .ref 0), (1, .int a1), (2, .int a2), (3, .int a3)] [] M := by
  unfold F8_cell at h
  refine X_aload_n F dX8_cell_0 rfl ?_
  refine X_getr F ffRX8_60 dX8_cell_1 ?_
  refine X_iload_n F dX8_cell_4 rfl ?_
  obtain ⟨r1, h2, h⟩ := bndS h
  refine X_callV (ci := 42) (As := [.int a1]) (rest := []) F fkRX8_230 feX5_holds fvX5_holds ⟨_, _, _, rfl, rfl, rfl⟩ (F5_holds_met (D := D - 1) F.2.2.2.2.2.2.2.1 (by omega) h2) rfl rfl (Nat.le_of_ble_eq_true rfl) (rm_ok (by omega) (by decide)) dX8_cell_5 ?_
  show XJ shA p l e (rmX D) s m args below meth c 0 0 G 4 (MQ below (QcX shA G ((some (.int r.1), r.2) : Option Value × Mem).1 ((some (.int r.1), r.2) : Option Value × Mem).2) args s 0 0 (AW shA G.2.1)) 8 [(0, .ref 0), (1, .int a1), (2, .int a2), (3, .int a3)] [.int r1.1] r1.2
  refine X_if_ne (tgt := 14) F dX8_cell_8 (by decide) (fun q3 => ?_) (fun q3 => ?_)
  · rw [if_pos q3] at h
    refine X_aload_n F dX8_cell_14 rfl ?_
    refine X_getr F ffRX8_60 dX8_cell_15 ?_
    refine X_iload_n F dX8_cell_18 rfl ?_
    obtain ⟨r4, h5, h⟩ := bndS h
    refine X_callV (ci := 42) (As := [.int a1]) (rest := []) F fkRX8_231 feX5_isMissing fvX5_isMissing ⟨_, _, _, rfl, rfl, rfl⟩ (F5_isMissing_met (D := D - 1) F.2.2.2.2.2.2.2.1 (by omega) h5) rfl rfl (Nat.le_of_ble_eq_true rfl) (rm_ok (by omega) (by decide)) dX8_cell_19 ?_
    show XJ shA p l e (rmX D) s m args below meth c 0 0 G 4 (MQ below (QcX shA G ((some (.int r.1), r.2) : Option Value × Mem).1 ((some (.int r.1), r.2) : Option Value × Mem).2) args s 0 0 (AW shA G.2.1)) 22 [(0, .ref 0), (1, .int a1), (2, .int a2), (3, .int a3)] [.int r4.1] r4.2
    refine X_if_eq (tgt := 28) F dX8_cell_22 (by decide) (fun q6 => ?_) (fun q6 => ?_)
    · rw [if_pos q6] at h
      refine X_aload_n F dX8_cell_28 rfl ?_
      refine X_getr F ffRX8_60 dX8_cell_29 ?_
      refine X_iload_n F dX8_cell_32 rfl ?_
      refine X_iload_n F dX8_cell_33 rfl ?_
      refine X_iload_n F dX8_cell_34 rfl ?_
      obtain ⟨r7, h8, h⟩ := bndS h
      refine X_callV (ci := 42) (As := [.int a1, .int a2, .int a3]) (rest := []) F fkRX8_268 feX5_write fvX5_write ⟨_, _, _, rfl, rfl, rfl⟩ (F5_write_met (D := D - 1) F.2.2.2.2.2.2.2.1 (by omega) h8) rfl rfl (Nat.le_of_ble_eq_true rfl) (rm_ok (by omega) (by decide)) dX8_cell_35 ?_
      show XJ shA p l e (rmX D) s m args below meth c 0 0 G 4 (MQ below (QcX shA G ((some (.int r.1), r.2) : Option Value × Mem).1 ((some (.int r.1), r.2) : Option Value × Mem).2) args s 0 0 (AW shA G.2.1)) 38 [(0, .ref 0), (1, .int a1), (2, .int a2), (3, .int a3)] [.int r7.1] r7.2
      refine X_if_eq (tgt := 45) F dX8_cell_38 (by decide) (fun q9 => ?_) (fun q9 => ?_)
      · rw [if_pos q9] at h
        refine X_bipush F dX8_cell_45 (v := (-12 : Int32)) rfl ?_
        exact X_iret F hr hlk (retI h) dX8_cell_47
      · rw [if_neg q9] at h
        refine X_iconst F dX8_cell_41 (v := (1 : Int32)) rfl ?_
        refine X_goto (tgt := 47) F dX8_cell_42 (by decide) ?_
        exact X_iret F hr hlk (retI h) dX8_cell_47
    · rw [if_neg q6] at h
      refine X_bipush F dX8_cell_25 (v := (-11 : Int32)) rfl ?_
      exact X_iret F hr hlk (retI h) dX8_cell_27
  · rw [if_neg (fun z => z q3)] at h
    refine X_bipush F dX8_cell_11 (v := (-2 : Int32)) rfl ?_
    exact X_iret F hr hlk (retI h) dX8_cell_13
set_option maxRecDepth 20000 in
theorem F8_cell_met {l : Launch} {G : GG} {D : Nat} {r : Int32 × Mem} {M : Mem} {a1 : Int32} {a2 : Int32} {a3 : Int32} (hI : Inj shA G.2.1) (hD : 3 ≤ D) (h : F8_cell M a1 a2 a3 = some r) : MetX shA l G yX8_cell cX8_cell 4 (some .int) D [.ref 0, .int a1, .int a2, .int a3] M (some (.int r.1), r.2) :=
  X_met hI (by decide +kernel) (Nat.le_of_ble_eq_true rfl) (fun p e s m args below meth c F hr hlk => F8_cell_ok F hr hlk hD h)
-- KeepOurPlace.copy
def F8_copy (M : Mem) (a1 : Int32) (a2 : Int32) (a3 : Int32) (a4 : Int32) (a5 : Int32) : Option (Int32 × Mem) :=
    Option.bind (F5_holds M a1) fun r1 =>
    if r1.1 = 0 then
      some ((-2 : Int32), r1.2)
    else
      Option.bind (F5_holds r1.2 a3) fun r4 =>
      if ¬ r4.1 = 0 then
        Option.bind (F5_isMissing r4.2 a1) fun r7 =>
        if ¬ r7.1 = 0 then
          some ((-11 : Int32), r7.2)
        else
          Option.bind (F5_isMissing r7.2 a3) fun r10 =>
          if r10.1 = 0 then
            if inb a1 4 = true then
            if inb a3 4 = true then
            if (r10.2 43 (Int32.toNatClampNeg a1)) = (r10.2 43 (Int32.toNatClampNeg a3)) then
              Option.bind (F5_spans r10.2 a1 a2 a5) fun r16 =>
              if r16.1 = 0 then
                some ((-12 : Int32), r16.2)
              else
                Option.bind (F5_spans r16.2 a3 a4 a5) fun r19 =>
                if ¬ r19.1 = 0 then
                  if (¬ a2 < 0 ∧ ¬ a4 < 0 ∧ ¬ a5 < 0 ∧ (Int32.toNatClampNeg a2) + (Int32.toNatClampNeg a5) ≤ 40 ∧ (Int32.toNatClampNeg a4) + (Int32.toNatClampNeg a5) ≤ 40) then
                  some (a5, (upA r19.2 (46 + (Int32.toNatClampNeg a3)) (va_cpy (r19.2 (46 + (Int32.toNatClampNeg a1))) (r19.2 (46 + (Int32.toNatClampNeg a3))) (Int32.toNatClampNeg a2) (Int32.toNatClampNeg a4) (Int32.toNatClampNeg a5))))
                  else none
                else
                  some ((-12 : Int32), r19.2)
            else
              some ((-13 : Int32), r10.2)
            else none
            else none
          else
            some ((-11 : Int32), r10.2)
      else
        some ((-2 : Int32), r4.2)
set_option maxRecDepth 20000 in
theorem F8_copy_ok {p : Program} {l : Launch} {e : Env} {s : State} {m : MethodId} {args : Array Value} {below : List Frame} {meth : Method} {c : Code} {G : GG} {D : Nat} {r : Int32 × Mem} (F : FrP shA G p s m args c RX8 cX8_copy 6) (hr : meth.sig.returnType = (some .int)) (hlk : meth.locks = false) (hD : 3 ≤ D) {M : Mem} {a1 : Int32} {a2 : Int32} {a3 : Int32} {a4 : Int32} {a5 : Int32} (h : F8_copy M a1 a2 a3 a4 a5 = some r) : XJ shA p l e (rmX D) s m args below meth c 0 0 G 6 (MQ below (QcX shA G ((some (.int r.1), r.2) : Option Value × Mem).1 ((some (.int r.1), r.2) : Option Value × Mem).2) args s 0 0 (AW shA G.2.1)) 0 [(0, .ref 0), (1, .int a1), (2, .int a2), (3, .int a3), (4, .int a4), (5, .int a5)] [] M := by
  unfold F8_copy at h
  refine X_aload_n F dX8_copy_0 rfl ?_
  refine X_getr F ffRX8_60 dX8_copy_1 ?_
  refine X_iload_n F dX8_copy_4 rfl ?_
  obtain ⟨r1, h2, h⟩ := bndS h
  refine X_callV (ci := 42) (As := [.int a1]) (rest := []) F fkRX8_230 feX5_holds fvX5_holds ⟨_, _, _, rfl, rfl, rfl⟩ (F5_holds_met (D := D - 1) F.2.2.2.2.2.2.2.1 (by omega) h2) rfl rfl (Nat.le_of_ble_eq_true rfl) (rm_ok (by omega) (by decide)) dX8_copy_5 ?_
  show XJ shA p l e (rmX D) s m args below meth c 0 0 G 6 (MQ below (QcX shA G ((some (.int r.1), r.2) : Option Value × Mem).1 ((some (.int r.1), r.2) : Option Value × Mem).2) args s 0 0 (AW shA G.2.1)) 8 [(0, .ref 0), (1, .int a1), (2, .int a2), (3, .int a3), (4, .int a4), (5, .int a5)] [.int r1.1] r1.2
  refine X_if_eq (tgt := 22) F dX8_copy_8 (by decide) (fun q3 => ?_) (fun q3 => ?_)
  · rw [if_pos q3] at h
    refine X_bipush F dX8_copy_22 (v := (-2 : Int32)) rfl ?_
    exact X_iret F hr hlk (retI h) dX8_copy_24
  · rw [if_neg q3] at h
    refine X_aload_n F dX8_copy_11 rfl ?_
    refine X_getr F ffRX8_60 dX8_copy_12 ?_
    refine X_iload_n F dX8_copy_15 rfl ?_
    obtain ⟨r4, h5, h⟩ := bndS h
    refine X_callV (ci := 42) (As := [.int a3]) (rest := []) F fkRX8_230 feX5_holds fvX5_holds ⟨_, _, _, rfl, rfl, rfl⟩ (F5_holds_met (D := D - 1) F.2.2.2.2.2.2.2.1 (by omega) h5) rfl rfl (Nat.le_of_ble_eq_true rfl) (rm_ok (by omega) (by decide)) dX8_copy_16 ?_
    show XJ shA p l e (rmX D) s m args below meth c 0 0 G 6 (MQ below (QcX shA G ((some (.int r.1), r.2) : Option Value × Mem).1 ((some (.int r.1), r.2) : Option Value × Mem).2) args s 0 0 (AW shA G.2.1)) 19 [(0, .ref 0), (1, .int a1), (2, .int a2), (3, .int a3), (4, .int a4), (5, .int a5)] [.int r4.1] r4.2
    refine X_if_ne (tgt := 25) F dX8_copy_19 (by decide) (fun q6 => ?_) (fun q6 => ?_)
    · rw [if_pos q6] at h
      refine X_aload_n F dX8_copy_25 rfl ?_
      refine X_getr F ffRX8_60 dX8_copy_26 ?_
      refine X_iload_n F dX8_copy_29 rfl ?_
      obtain ⟨r7, h8, h⟩ := bndS h
      refine X_callV (ci := 42) (As := [.int a1]) (rest := []) F fkRX8_231 feX5_isMissing fvX5_isMissing ⟨_, _, _, rfl, rfl, rfl⟩ (F5_isMissing_met (D := D - 1) F.2.2.2.2.2.2.2.1 (by omega) h8) rfl rfl (Nat.le_of_ble_eq_true rfl) (rm_ok (by omega) (by decide)) dX8_copy_30 ?_
      show XJ shA p l e (rmX D) s m args below meth c 0 0 G 6 (MQ below (QcX shA G ((some (.int r.1), r.2) : Option Value × Mem).1 ((some (.int r.1), r.2) : Option Value × Mem).2) args s 0 0 (AW shA G.2.1)) 33 [(0, .ref 0), (1, .int a1), (2, .int a2), (3, .int a3), (4, .int a4), (5, .int a5)] [.int r7.1] r7.2
      refine X_if_ne (tgt := 47) F dX8_copy_33 (by decide) (fun q9 => ?_) (fun q9 => ?_)
      · rw [if_pos q9] at h
        refine X_bipush F dX8_copy_47 (v := (-11 : Int32)) rfl ?_
        exact X_iret F hr hlk (retI h) dX8_copy_49
      · rw [if_neg (fun z => z q9)] at h
        refine X_aload_n F dX8_copy_36 rfl ?_
        refine X_getr F ffRX8_60 dX8_copy_37 ?_
        refine X_iload_n F dX8_copy_40 rfl ?_
        obtain ⟨r10, h11, h⟩ := bndS h
        refine X_callV (ci := 42) (As := [.int a3]) (rest := []) F fkRX8_231 feX5_isMissing fvX5_isMissing ⟨_, _, _, rfl, rfl, rfl⟩ (F5_isMissing_met (D := D - 1) F.2.2.2.2.2.2.2.1 (by omega) h11) rfl rfl (Nat.le_of_ble_eq_true rfl) (rm_ok (by omega) (by decide)) dX8_copy_41 ?_
        show XJ shA p l e (rmX D) s m args below meth c 0 0 G 6 (MQ below (QcX shA G ((some (.int r.1), r.2) : Option Value × Mem).1 ((some (.int r.1), r.2) : Option Value × Mem).2) args s 0 0 (AW shA G.2.1)) 44 [(0, .ref 0), (1, .int a1), (2, .int a2), (3, .int a3), (4, .int a4), (5, .int a5)] [.int r10.1] r10.2
        refine X_if_eq (tgt := 50) F dX8_copy_44 (by decide) (fun q12 => ?_) (fun q12 => ?_)
        · rw [if_pos q12] at h
          refine X_aload_n F dX8_copy_50 rfl ?_
          refine X_getr F ffRX8_60 dX8_copy_51 ?_
          refine X_getr F ffRX8_294 dX8_copy_54 ?_
          refine X_iload_n F dX8_copy_57 rfl ?_
          obtain ⟨q13, h⟩ := ifS h
          refine X_iald (j := (Int32.toNatClampNeg a1)) (v := (r10.2 43 (Int32.toNatClampNeg a1))) F rfl (inbV q13) rfl rfl dX8_copy_58 ?_
          refine X_aload_n F dX8_copy_59 rfl ?_
          refine X_getr F ffRX8_60 dX8_copy_60 ?_
          refine X_getr F ffRX8_294 dX8_copy_63 ?_
          refine X_iload_n F dX8_copy_66 rfl ?_
          obtain ⟨q14, h⟩ := ifS h
          refine X_iald (j := (Int32.toNatClampNeg a3)) (v := (r10.2 43 (Int32.toNatClampNeg a3))) F rfl (inbV q14) rfl rfl dX8_copy_67 ?_
          refine X_icmp_eq (tgt := 74) F dX8_copy_68 (by decide) (fun q15 => ?_) (fun q15 => ?_)
          · rw [if_pos q15] at h
            refine X_aload_n F dX8_copy_74 rfl ?_
            refine X_getr F ffRX8_60 dX8_copy_75 ?_
            refine X_iload_n F dX8_copy_78 rfl ?_
            refine X_iload_n F dX8_copy_79 rfl ?_
            refine X_iload F dX8_copy_80 rfl ?_
            obtain ⟨r16, h17, h⟩ := bndS h
            refine X_callV (ci := 42) (As := [.int a1, .int a2, .int a5]) (rest := []) F fkRX8_297 feX5_spans fvX5_spans ⟨_, _, _, rfl, rfl, rfl⟩ (F5_spans_met (D := D - 1) F.2.2.2.2.2.2.2.1 (by omega) h17) rfl rfl (Nat.le_of_ble_eq_true rfl) (rm_ok (by omega) (by decide)) dX8_copy_82 ?_
            show XJ shA p l e (rmX D) s m args below meth c 0 0 G 6 (MQ below (QcX shA G ((some (.int r.1), r.2) : Option Value × Mem).1 ((some (.int r.1), r.2) : Option Value × Mem).2) args s 0 0 (AW shA G.2.1)) 85 [(0, .ref 0), (1, .int a1), (2, .int a2), (3, .int a3), (4, .int a4), (5, .int a5)] [.int r16.1] r16.2
            refine X_if_eq (tgt := 103) F dX8_copy_85 (by decide) (fun q18 => ?_) (fun q18 => ?_)
            · rw [if_pos q18] at h
              refine X_bipush F dX8_copy_103 (v := (-12 : Int32)) rfl ?_
              exact X_iret F hr hlk (retI h) dX8_copy_105
            · rw [if_neg q18] at h
              refine X_aload_n F dX8_copy_88 rfl ?_
              refine X_getr F ffRX8_60 dX8_copy_89 ?_
              refine X_iload_n F dX8_copy_92 rfl ?_
              refine X_iload F dX8_copy_93 rfl ?_
              refine X_iload F dX8_copy_95 rfl ?_
              obtain ⟨r19, h20, h⟩ := bndS h
              refine X_callV (ci := 42) (As := [.int a3, .int a4, .int a5]) (rest := []) F fkRX8_297 feX5_spans fvX5_spans ⟨_, _, _, rfl, rfl, rfl⟩ (F5_spans_met (D := D - 1) F.2.2.2.2.2.2.2.1 (by omega) h20) rfl rfl (Nat.le_of_ble_eq_true rfl) (rm_ok (by omega) (by decide)) dX8_copy_97 ?_
              show XJ shA p l e (rmX D) s m args below meth c 0 0 G 6 (MQ below (QcX shA G ((some (.int r.1), r.2) : Option Value × Mem).1 ((some (.int r.1), r.2) : Option Value × Mem).2) args s 0 0 (AW shA G.2.1)) 100 [(0, .ref 0), (1, .int a1), (2, .int a2), (3, .int a3), (4, .int a4), (5, .int a5)] [.int r19.1] r19.2
              refine X_if_ne (tgt := 106) F dX8_copy_100 (by decide) (fun q21 => ?_) (fun q21 => ?_)
              · rw [if_pos q21] at h
                refine X_aload_n F dX8_copy_106 rfl ?_
                refine X_getr F ffRX8_60 dX8_copy_107 ?_
                refine X_getr F ffRX8_237 dX8_copy_110 ?_
                refine X_iload_n F dX8_copy_113 rfl ?_
                refine X_aald (b := 46) F rfl (inbV q13) rfl dX8_copy_114 ?_
                refine X_iload_n F dX8_copy_115 rfl ?_
                refine X_aload_n F dX8_copy_116 rfl ?_
                refine X_getr F ffRX8_60 dX8_copy_117 ?_
                refine X_getr F ffRX8_237 dX8_copy_120 ?_
                refine X_iload_n F dX8_copy_123 rfl ?_
                refine X_aald (b := 46) F rfl (inbV q14) rfl dX8_copy_124 ?_
                refine X_iload F dX8_copy_125 rfl ?_
                refine X_iload F dX8_copy_127 rfl ?_
                obtain ⟨q22, h⟩ := ifS h
                refine X_acopy (n0 := 40) (n1 := 40) F fmRX8_300 sys_n sys_s sys_i (shR46 (inbV q13)) (shR46 (inbV q14)) q22.1 q22.2.1 q22.2.2.1 q22.2.2.2.1 q22.2.2.2.2 (rm_1 (by omega)).1 (rm_w (n := 18) (by omega) (Nat.le_of_ble_eq_true rfl) (by decide)) dX8_copy_129 ?_
                refine X_iload F dX8_copy_132 rfl ?_
                exact X_iret F hr hlk (retI h) dX8_copy_134
              · rw [if_neg (fun z => z q21)] at h
                refine X_bipush F dX8_copy_103 (v := (-12 : Int32)) rfl ?_
                exact X_iret F hr hlk (retI h) dX8_copy_105
          · rw [if_neg q15] at h
            refine X_bipush F dX8_copy_71 (v := (-13 : Int32)) rfl ?_
            exact X_iret F hr hlk (retI h) dX8_copy_73
        · rw [if_neg q12] at h
          refine X_bipush F dX8_copy_47 (v := (-11 : Int32)) rfl ?_
          exact X_iret F hr hlk (retI h) dX8_copy_49
    · rw [if_neg (fun z => z q6)] at h
      refine X_bipush F dX8_copy_22 (v := (-2 : Int32)) rfl ?_
      exact X_iret F hr hlk (retI h) dX8_copy_24
set_option maxRecDepth 20000 in
theorem F8_copy_met {l : Launch} {G : GG} {D : Nat} {r : Int32 × Mem} {M : Mem} {a1 : Int32} {a2 : Int32} {a3 : Int32} {a4 : Int32} {a5 : Int32} (hI : Inj shA G.2.1) (hD : 3 ≤ D) (h : F8_copy M a1 a2 a3 a4 a5 = some r) : MetX shA l G yX8_copy cX8_copy 6 (some .int) D [.ref 0, .int a1, .int a2, .int a3, .int a4, .int a5] M (some (.int r.1), r.2) :=
  X_met hI (by decide +kernel) (Nat.le_of_ble_eq_true rfl) (fun p e s m args below meth c F hr hlk => F8_copy_ok F hr hlk hD h)
-- KeepOurPlace.customers
def F8_customers_j162 (rec71 : Mem → Int32 → Int32 → Int32 → Int32 → Int32 → Option (Int32 × Mem)) (M : Mem) (x1 : Int32) (x3 : Int32) (x4 : Int32) (x5 : Int32) (x6 : Int32) : Option (Int32 × Mem) :=
    rec71 M x1 x3 x4 x5 (x6 + (1 : Int32))
def F8_customers_l71_b (rec71 : Mem → Int32 → Int32 → Int32 → Int32 → Int32 → Option (Int32 × Mem)) (M : Mem) (x1 : Int32) (x3 : Int32) (x4 : Int32) (x5 : Int32) (x6 : Int32) : Option (Int32 × Mem) :=
    if x4 ≤ x6 then
      some (x5, M)
    else
      if (lg_cmp ((Int32.toInt64 x3) + ((2 : Int64) * (Int32.toInt64 x6))) (0 : Int64)) < 0 then
        some ((-12 : Int32), M)
      else
        if inb x1 4 = true then
        if (lg_cmp (((Int32.toInt64 x3) + ((2 : Int64) * (Int32.toInt64 x6))) + (1 : Int64)) (Int32.toInt64 (M 44 (Int32.toNatClampNeg x1)))) < 0 then
          if inb (Int64.toInt32 ((Int32.toInt64 x3) + ((2 : Int64) * (Int32.toInt64 x6)))) 40 = true then
          if inb ((Int64.toInt32 ((Int32.toInt64 x3) + ((2 : Int64) * (Int32.toInt64 x6)))) + (1 : Int32)) 40 = true then
          Option.bind (F2_join M (M (46 + (Int32.toNatClampNeg x1)) (Int32.toNatClampNeg (Int64.toInt32 ((Int32.toInt64 x3) + ((2 : Int64) * (Int32.toInt64 x6)))))) (M (46 + (Int32.toNatClampNeg x1)) (Int32.toNatClampNeg ((Int64.toInt32 ((Int32.toInt64 x3) + ((2 : Int64) * (Int32.toInt64 x6)))) + (1 : Int32))))) fun r19 =>
          if r19.1 < 0 then
            F8_customers_j162 rec71 r19.2 x1 x3 x4 x5 x6
          else
            F8_customers_j162 rec71 r19.2 x1 x3 x4 (x5 + (1 : Int32)) x6
          else none
          else none
        else
          some ((-12 : Int32), M)
        else none
def F8_customers_l71 : Nat → Mem → Int32 → Int32 → Int32 → Int32 → Int32 → Option (Int32 × Mem)
  | 0, _, _, _, _, _, _ => none
  | fu + 1, M, x1, x3, x4, x5, x6 => F8_customers_l71_b (F8_customers_l71 fu) M x1 x3 x4 x5 x6
def F8_customers (M : Mem) (a1 : Int32) (a2 : Int32) (a3 : Int32) (a4 : Int32) : Option (Int32 × Mem) :=
    Option.bind (F5_holds M a1) fun r1 =>
    if r1.1 = 0 then
      some ((-2 : Int32), r1.2)
    else
      if a2 < 0 then
        some ((-2 : Int32), r1.2)
      else
        if (2 : Int32) < a2 then
          some ((-2 : Int32), r1.2)
        else
          if a4 < 0 then
            some ((-2 : Int32), r1.2)
          else
            if a4 ≤ (8 : Int32) then
              Option.bind (F5_isMissing r1.2 a1) fun r8 =>
              if r8.1 = 0 then
                if inb a1 4 = true then
                if (r8.2 43 (Int32.toNatClampNeg a1)) = a2 then
                  F8_customers_l71 FUEL r8.2 a1 a3 a4 (0 : Int32) (0 : Int32)
                else
                  some ((-13 : Int32), r8.2)
                else none
              else
                some ((-11 : Int32), r8.2)
            else
              some ((-2 : Int32), r1.2)
set_option maxRecDepth 20000 in
theorem F8_customers_j162_ok {p : Program} {l : Launch} {e : Env} {s : State} {m : MethodId} {args : Array Value} {below : List Frame} {meth : Method} {c : Code} {G : GG} {D : Nat} {r : Int32 × Mem} {rec71 : Mem → Int32 → Int32 → Int32 → Int32 → Int32 → Option (Int32 × Mem)} (F : FrP shA G p s m args c RX8 cX8_customers 10) (hr : meth.sig.returnType = (some .int)) (hlk : meth.locks = false) (hD : 3 ≤ D) (hrec71 : ∀ (M : Mem) (x1 : Int32) (x3 : Int32) (x4 : Int32) (x5 : Int32) (x6 : Int32), rec71 M x1 x3 x4 x5 x6 = some r → XJ shA p l e (rmX D) s m args below meth c 0 0 G 10 (MQ below (QcX shA G ((some (.int r.1), r.2) : Option Value × Mem).1 ((some (.int r.1), r.2) : Option Value × Mem).2) args s 0 0 (AW shA G.2.1)) 71 [(0, .ref 0), (1, .int x1), (3, .int x3), (4, .int x4), (5, .int x5), (6, .int x6)] [] M) {M : Mem} {x1 : Int32} {x3 : Int32} {x4 : Int32} {x5 : Int32} {x6 : Int32} (h : F8_customers_j162 rec71 M x1 x3 x4 x5 x6 = some r) : XJ shA p l e (rmX D) s m args below meth c 0 0 G 10 (MQ below (QcX shA G ((some (.int r.1), r.2) : Option Value × Mem).1 ((some (.int r.1), r.2) : Option Value × Mem).2) args s 0 0 (AW shA G.2.1)) 162 [(0, .ref 0), (1, .int x1), (3, .int x3), (4, .int x4), (5, .int x5), (6, .int x6)] [] M := by
  unfold F8_customers_j162 at h
  refine X_iinc F dX8_customers_162 rfl (v := (1 : Int32)) rfl (by decide) rfl ?_
  refine X_goto (tgt := 71) F dX8_customers_165 (by decide) ?_
  refine X_pick [1, 2, 3, 4, 5, 0] rfl ?_
  exact hrec71 _ _ _ _ _ _ h
set_option maxRecDepth 20000 in
theorem F8_customers_l71_bok {p : Program} {l : Launch} {e : Env} {s : State} {m : MethodId} {args : Array Value} {below : List Frame} {meth : Method} {c : Code} {G : GG} {D : Nat} {r : Int32 × Mem} {rec71 : Mem → Int32 → Int32 → Int32 → Int32 → Int32 → Option (Int32 × Mem)} (F : FrP shA G p s m args c RX8 cX8_customers 10) (hr : meth.sig.returnType = (some .int)) (hlk : meth.locks = false) (hD : 3 ≤ D) (hrec71 : ∀ (M : Mem) (x1 : Int32) (x3 : Int32) (x4 : Int32) (x5 : Int32) (x6 : Int32), rec71 M x1 x3 x4 x5 x6 = some r → XJ shA p l e (rmX D) s m args below meth c 0 0 G 10 (MQ below (QcX shA G ((some (.int r.1), r.2) : Option Value × Mem).1 ((some (.int r.1), r.2) : Option Value × Mem).2) args s 0 0 (AW shA G.2.1)) 71 [(0, .ref 0), (1, .int x1), (3, .int x3), (4, .int x4), (5, .int x5), (6, .int x6)] [] M) {M : Mem} {x1 : Int32} {x3 : Int32} {x4 : Int32} {x5 : Int32} {x6 : Int32} (h : F8_customers_l71_b rec71 M x1 x3 x4 x5 x6 = some r) : XJ shA p l e (rmX D) s m args below meth c 0 0 G 10 (MQ below (QcX shA G ((some (.int r.1), r.2) : Option Value × Mem).1 ((some (.int r.1), r.2) : Option Value × Mem).2) args s 0 0 (AW shA G.2.1)) 71 [(0, .ref 0), (1, .int x1), (3, .int x3), (4, .int x4), (5, .int x5), (6, .int x6)] [] M := by
  unfold F8_customers_l71_b at h
  refine X_iload F dX8_customers_71 rfl ?_
  refine X_iload F dX8_customers_73 rfl ?_
  refine X_icmp_ge (tgt := 168) F dX8_customers_75 (by decide) (fun q13 => ?_) (fun q13 => ?_)
  · rw [if_pos q13] at h
    refine X_iload F dX8_customers_168 rfl ?_
    exact X_iret F hr hlk (retI h) dX8_customers_170
  · rw [if_neg q13] at h
    refine X_iload_n F dX8_customers_78 rfl ?_
    refine X_i2l F dX8_customers_79 ?_
    refine X_ldc2 F fcRX8_306 dX8_customers_80 ?_
    refine X_iload F dX8_customers_83 rfl ?_
    refine X_i2l F dX8_customers_85 ?_
    refine X_lmul F dX8_customers_86 ?_
    refine X_ladd F dX8_customers_87 ?_
    refine X_lstore F dX8_customers_88 (by decide) rfl ?_
    refine X_lload F dX8_customers_90 rfl ?_
    refine X_lconst F dX8_customers_92 (v := (0 : Int64)) rfl ?_
    refine X_lcmp F dX8_customers_93 ?_
    refine X_if_lt (tgt := 115) F dX8_customers_94 (by decide) (fun q14 => ?_) (fun q14 => ?_)
    · rw [if_pos q14] at h
      refine X_bipush F dX8_customers_115 (v := (-12 : Int32)) rfl ?_
      exact X_iret F hr hlk (retI h) dX8_customers_117
    · rw [if_neg q14] at h
      refine X_lload F dX8_customers_97 rfl ?_
      refine X_lconst F dX8_customers_99 (v := (1 : Int64)) rfl ?_
      refine X_ladd F dX8_customers_100 ?_
      refine X_aload_n F dX8_customers_101 rfl ?_
      refine X_getr F ffRX8_60 dX8_customers_102 ?_
      refine X_getr F ffRX8_234 dX8_customers_105 ?_
      refine X_iload_n F dX8_customers_108 rfl ?_
      obtain ⟨q15, h⟩ := ifS h
      refine X_iald (j := (Int32.toNatClampNeg x1)) (v := (M 44 (Int32.toNatClampNeg x1))) F rfl (inbV q15) rfl rfl dX8_customers_109 ?_
      refine X_i2l F dX8_customers_110 ?_
      refine X_lcmp F dX8_customers_111 ?_
      refine X_if_lt (tgt := 118) F dX8_customers_112 (by decide) (fun q16 => ?_) (fun q16 => ?_)
      · rw [if_pos q16] at h
        refine X_lload F dX8_customers_118 rfl ?_
        refine X_l2i F dX8_customers_120 ?_
        refine X_istore F dX8_customers_121 (by decide) rfl ?_
        refine X_aload_n F dX8_customers_123 rfl ?_
        refine X_getr F ffRX8_10 dX8_customers_124 ?_
        refine X_aload_n F dX8_customers_127 rfl ?_
        refine X_getr F ffRX8_60 dX8_customers_128 ?_
        refine X_getr F ffRX8_237 dX8_customers_131 ?_
        refine X_iload_n F dX8_customers_134 rfl ?_
        refine X_aald (b := 46) F rfl (inbV q15) rfl dX8_customers_135 ?_
        refine X_iload F dX8_customers_136 rfl ?_
        obtain ⟨q17, h⟩ := ifS h
        refine X_iald (j := (Int32.toNatClampNeg (Int64.toInt32 ((Int32.toInt64 x3) + ((2 : Int64) * (Int32.toInt64 x6)))))) (v := (M (46 + (Int32.toNatClampNeg x1)) (Int32.toNatClampNeg (Int64.toInt32 ((Int32.toInt64 x3) + ((2 : Int64) * (Int32.toInt64 x6))))))) F (shR46 (inbV q15)) (inbV q17) rfl rfl dX8_customers_138 ?_
        refine X_aload_n F dX8_customers_139 rfl ?_
        refine X_getr F ffRX8_60 dX8_customers_140 ?_
        refine X_getr F ffRX8_237 dX8_customers_143 ?_
        refine X_iload_n F dX8_customers_146 rfl ?_
        refine X_aald (b := 46) F rfl (inbV q15) rfl dX8_customers_147 ?_
        refine X_iload F dX8_customers_148 rfl ?_
        refine X_iconst F dX8_customers_150 (v := (1 : Int32)) rfl ?_
        refine X_iadd F dX8_customers_151 ?_
        obtain ⟨q18, h⟩ := ifS h
        refine X_iald (j := (Int32.toNatClampNeg ((Int64.toInt32 ((Int32.toInt64 x3) + ((2 : Int64) * (Int32.toInt64 x6)))) + (1 : Int32)))) (v := (M (46 + (Int32.toNatClampNeg x1)) (Int32.toNatClampNeg ((Int64.toInt32 ((Int32.toInt64 x3) + ((2 : Int64) * (Int32.toInt64 x6)))) + (1 : Int32))))) F (shR46 (inbV q15)) (inbV q18) rfl rfl dX8_customers_152 ?_
        obtain ⟨r19, h20, h⟩ := bndS h
        refine X_callV (ci := 1) (As := [.int (M (46 + (Int32.toNatClampNeg x1)) (Int32.toNatClampNeg (Int64.toInt32 ((Int32.toInt64 x3) + ((2 : Int64) * (Int32.toInt64 x6)))))), .int (M (46 + (Int32.toNatClampNeg x1)) (Int32.toNatClampNeg ((Int64.toInt32 ((Int32.toInt64 x3) + ((2 : Int64) * (Int32.toInt64 x6)))) + (1 : Int32))))]) (rest := []) F fkRX8_97 feX2_join fvX2_join ⟨_, _, _, rfl, rfl, rfl⟩ (F2_join_met (D := D - 1) F.2.2.2.2.2.2.2.1 (by omega) h20) rfl rfl (Nat.le_of_ble_eq_true rfl) (rm_ok (by omega) (by decide)) dX8_customers_153 ?_
        show XJ shA p l e (rmX D) s m args below meth c 0 0 G 10 (MQ below (QcX shA G ((some (.int r.1), r.2) : Option Value × Mem).1 ((some (.int r.1), r.2) : Option Value × Mem).2) args s 0 0 (AW shA G.2.1)) 156 [(9, .int (Int64.toInt32 ((Int32.toInt64 x3) + ((2 : Int64) * (Int32.toInt64 x6))))), (7, .long ((Int32.toInt64 x3) + ((2 : Int64) * (Int32.toInt64 x6)))), (0, .ref 0), (1, .int x1), (3, .int x3), (4, .int x4), (5, .int x5), (6, .int x6)] [.int r19.1] r19.2
        refine X_if_lt (tgt := 162) F dX8_customers_156 (by decide) (fun q21 => ?_) (fun q21 => ?_)
        · rw [if_pos q21] at h
          refine X_pick [2, 3, 4, 5, 6, 7] rfl ?_
          exact F8_customers_j162_ok F hr hlk hD hrec71 h
        · rw [if_neg q21] at h
          refine X_iinc F dX8_customers_159 rfl (v := (1 : Int32)) rfl (by decide) rfl ?_
          refine X_pick [3, 4, 5, 6, 0, 7] rfl ?_
          exact F8_customers_j162_ok F hr hlk hD hrec71 h
      · rw [if_neg q16] at h
        refine X_bipush F dX8_customers_115 (v := (-12 : Int32)) rfl ?_
        exact X_iret F hr hlk (retI h) dX8_customers_117
set_option maxRecDepth 20000 in
theorem F8_customers_l71_ok {p : Program} {l : Launch} {e : Env} {s : State} {m : MethodId} {args : Array Value} {below : List Frame} {meth : Method} {c : Code} {G : GG} {D : Nat} {r : Int32 × Mem} (F : FrP shA G p s m args c RX8 cX8_customers 10) (hr : meth.sig.returnType = (some .int)) (hlk : meth.locks = false) (hD : 3 ≤ D) : ∀ (fu : Nat) (M : Mem) (x1 : Int32) (x3 : Int32) (x4 : Int32) (x5 : Int32) (x6 : Int32), F8_customers_l71 fu M x1 x3 x4 x5 x6 = some r → XJ shA p l e (rmX D) s m args below meth c 0 0 G 10 (MQ below (QcX shA G ((some (.int r.1), r.2) : Option Value × Mem).1 ((some (.int r.1), r.2) : Option Value × Mem).2) args s 0 0 (AW shA G.2.1)) 71 [(0, .ref 0), (1, .int x1), (3, .int x3), (4, .int x4), (5, .int x5), (6, .int x6)] [] M := by
  intro fu
  induction fu with
  | zero => intro M x1 x3 x4 x5 x6 h; cases h
  | succ fu ih => intro M x1 x3 x4 x5 x6 h; exact F8_customers_l71_bok F hr hlk hD (fun M x1 x3 x4 x5 x6 => ih M x1 x3 x4 x5 x6) h
set_option maxRecDepth 20000 in
theorem F8_customers_ok {p : Program} {l : Launch} {e : Env} {s : State} {m : MethodId} {args : Array Value} {below : List Frame} {meth : Method} {c : Code} {G : GG} {D : Nat} {r : Int32 × Mem} (F : FrP shA G p s m args c RX8 cX8_customers 10) (hr : meth.sig.returnType = (some .int)) (hlk : meth.locks = false) (hD : 3 ≤ D) {M : Mem} {a1 : Int32} {a2 : Int32} {a3 : Int32} {a4 : Int32} (h : F8_customers M a1 a2 a3 a4 = some r) : XJ shA p l e (rmX D) s m args below meth c 0 0 G 10 (MQ below (QcX shA G ((some (.int r.1), r.2) : Option Value × Mem).1 ((some (.int r.1), r.2) : Option Value × Mem).2) args s 0 0 (AW shA G.2.1)) 0 [(0, .ref 0), (1, .int a1), (2, .int a2), (3, .int a3), (4, .int a4)] [] M := by
  unfold F8_customers at h
  refine X_aload_n F dX8_customers_0 rfl ?_
  refine X_getr F ffRX8_60 dX8_customers_1 ?_
  refine X_iload_n F dX8_customers_4 rfl ?_
  obtain ⟨r1, h2, h⟩ := bndS h
  refine X_callV (ci := 42) (As := [.int a1]) (rest := []) F fkRX8_230 feX5_holds fvX5_holds ⟨_, _, _, rfl, rfl, rfl⟩ (F5_holds_met (D := D - 1) F.2.2.2.2.2.2.2.1 (by omega) h2) rfl rfl (Nat.le_of_ble_eq_true rfl) (rm_ok (by omega) (by decide)) dX8_customers_5 ?_
  show XJ shA p l e (rmX D) s m args below meth c 0 0 G 10 (MQ below (QcX shA G ((some (.int r.1), r.2) : Option Value × Mem).1 ((some (.int r.1), r.2) : Option Value × Mem).2) args s 0 0 (AW shA G.2.1)) 8 [(0, .ref 0), (1, .int a1), (2, .int a2), (3, .int a3), (4, .int a4)] [.int r1.1] r1.2
  refine X_if_eq (tgt := 32) F dX8_customers_8 (by decide) (fun q3 => ?_) (fun q3 => ?_)
  · rw [if_pos q3] at h
    refine X_bipush F dX8_customers_32 (v := (-2 : Int32)) rfl ?_
    exact X_iret F hr hlk (retI h) dX8_customers_34
  · rw [if_neg q3] at h
    refine X_iload_n F dX8_customers_11 rfl ?_
    refine X_if_lt (tgt := 32) F dX8_customers_12 (by decide) (fun q4 => ?_) (fun q4 => ?_)
    · rw [if_pos q4] at h
      refine X_bipush F dX8_customers_32 (v := (-2 : Int32)) rfl ?_
      exact X_iret F hr hlk (retI h) dX8_customers_34
    · rw [if_neg q4] at h
      refine X_iload_n F dX8_customers_15 rfl ?_
      refine X_iconst F dX8_customers_16 (v := (2 : Int32)) rfl ?_
      refine X_icmp_gt (tgt := 32) F dX8_customers_17 (by decide) (fun q5 => ?_) (fun q5 => ?_)
      · rw [if_pos q5] at h
        refine X_bipush F dX8_customers_32 (v := (-2 : Int32)) rfl ?_
        exact X_iret F hr hlk (retI h) dX8_customers_34
      · rw [if_neg q5] at h
        refine X_iload F dX8_customers_20 rfl ?_
        refine X_if_lt (tgt := 32) F dX8_customers_22 (by decide) (fun q6 => ?_) (fun q6 => ?_)
        · rw [if_pos q6] at h
          refine X_bipush F dX8_customers_32 (v := (-2 : Int32)) rfl ?_
          exact X_iret F hr hlk (retI h) dX8_customers_34
        · rw [if_neg q6] at h
          refine X_iload F dX8_customers_25 rfl ?_
          refine X_bipush F dX8_customers_27 (v := (8 : Int32)) rfl ?_
          refine X_icmp_le (tgt := 35) F dX8_customers_29 (by decide) (fun q7 => ?_) (fun q7 => ?_)
          · rw [if_pos q7] at h
            refine X_aload_n F dX8_customers_35 rfl ?_
            refine X_getr F ffRX8_60 dX8_customers_36 ?_
            refine X_iload_n F dX8_customers_39 rfl ?_
            obtain ⟨r8, h9, h⟩ := bndS h
            refine X_callV (ci := 42) (As := [.int a1]) (rest := []) F fkRX8_231 feX5_isMissing fvX5_isMissing ⟨_, _, _, rfl, rfl, rfl⟩ (F5_isMissing_met (D := D - 1) F.2.2.2.2.2.2.2.1 (by omega) h9) rfl rfl (Nat.le_of_ble_eq_true rfl) (rm_ok (by omega) (by decide)) dX8_customers_40 ?_
            show XJ shA p l e (rmX D) s m args below meth c 0 0 G 10 (MQ below (QcX shA G ((some (.int r.1), r.2) : Option Value × Mem).1 ((some (.int r.1), r.2) : Option Value × Mem).2) args s 0 0 (AW shA G.2.1)) 43 [(0, .ref 0), (1, .int a1), (2, .int a2), (3, .int a3), (4, .int a4)] [.int r8.1] r8.2
            refine X_if_eq (tgt := 49) F dX8_customers_43 (by decide) (fun q10 => ?_) (fun q10 => ?_)
            · rw [if_pos q10] at h
              refine X_aload_n F dX8_customers_49 rfl ?_
              refine X_getr F ffRX8_60 dX8_customers_50 ?_
              refine X_getr F ffRX8_294 dX8_customers_53 ?_
              refine X_iload_n F dX8_customers_56 rfl ?_
              obtain ⟨q11, h⟩ := ifS h
              refine X_iald (j := (Int32.toNatClampNeg a1)) (v := (r8.2 43 (Int32.toNatClampNeg a1))) F rfl (inbV q11) rfl rfl dX8_customers_57 ?_
              refine X_iload_n F dX8_customers_58 rfl ?_
              refine X_icmp_eq (tgt := 65) F dX8_customers_59 (by decide) (fun q12 => ?_) (fun q12 => ?_)
              · rw [if_pos q12] at h
                refine X_iconst F dX8_customers_65 (v := (0 : Int32)) rfl ?_
                refine X_istore F dX8_customers_66 (by decide) rfl ?_
                refine X_iconst F dX8_customers_68 (v := (0 : Int32)) rfl ?_
                refine X_istore F dX8_customers_69 (by decide) rfl ?_
                refine X_pick [2, 3, 5, 6, 1, 0] rfl ?_
                exact F8_customers_l71_ok F hr hlk hD FUEL _ _ _ _ _ _ h
              · rw [if_neg q12] at h
                refine X_bipush F dX8_customers_62 (v := (-13 : Int32)) rfl ?_
                exact X_iret F hr hlk (retI h) dX8_customers_64
            · rw [if_neg q10] at h
              refine X_bipush F dX8_customers_46 (v := (-11 : Int32)) rfl ?_
              exact X_iret F hr hlk (retI h) dX8_customers_48
          · rw [if_neg q7] at h
            refine X_bipush F dX8_customers_32 (v := (-2 : Int32)) rfl ?_
            exact X_iret F hr hlk (retI h) dX8_customers_34
set_option maxRecDepth 20000 in
theorem F8_customers_met {l : Launch} {G : GG} {D : Nat} {r : Int32 × Mem} {M : Mem} {a1 : Int32} {a2 : Int32} {a3 : Int32} {a4 : Int32} (hI : Inj shA G.2.1) (hD : 3 ≤ D) (h : F8_customers M a1 a2 a3 a4 = some r) : MetX shA l G yX8_customers cX8_customers 10 (some .int) D [.ref 0, .int a1, .int a2, .int a3, .int a4] M (some (.int r.1), r.2) :=
  X_met hI (by decide +kernel) (Nat.le_of_ble_eq_true rfl) (fun p e s m args below meth c F hr hlk => F8_customers_ok F hr hlk hD h)
-- KeepOurPlace.isUnder
def F8_isUnder_l4_b (rec4 : Mem → Int32 → Int32 → Int32 → Option (Int32 × Mem)) (M : Mem) (x1 : Int32) (x2 : Int32) (x3 : Int32) : Option (Int32 × Mem) :=
    if (6 : Int32) ≤ x3 then
      some ((0 : Int32), M)
    else
      if x2 < 0 then
        some ((0 : Int32), M)
      else
        if (6 : Int32) ≤ x2 then
          some ((0 : Int32), M)
        else
          if ¬ x2 = x1 then
            if inb x2 6 = true then
            rec4 M x1 (underL.getD (Int32.toNatClampNeg x2) 0) (x3 + (1 : Int32))
            else none
          else
            some ((1 : Int32), M)
def F8_isUnder_l4 : Nat → Mem → Int32 → Int32 → Int32 → Option (Int32 × Mem)
  | 0, _, _, _, _ => none
  | fu + 1, M, x1, x2, x3 => F8_isUnder_l4_b (F8_isUnder_l4 fu) M x1 x2 x3
def F8_isUnder (M : Mem) (a0 : Int32) (a1 : Int32) : Option (Int32 × Mem) :=
    F8_isUnder_l4 FUEL M a1 a0 (0 : Int32)
set_option maxRecDepth 20000 in
theorem F8_isUnder_l4_bok {p : Program} {l : Launch} {e : Env} {s : State} {m : MethodId} {args : Array Value} {below : List Frame} {meth : Method} {c : Code} {G : GG} {D : Nat} {r : Int32 × Mem} {rec4 : Mem → Int32 → Int32 → Int32 → Option (Int32 × Mem)} (F : FrP shA G p s m args c RX8 cX8_isUnder 4) (hr : meth.sig.returnType = (some .boolean)) (hlk : meth.locks = false) (hD : 1 ≤ D) (hrec4 : ∀ (M : Mem) (x1 : Int32) (x2 : Int32) (x3 : Int32), rec4 M x1 x2 x3 = some r → XJ shA p l e (rmX D) s m args below meth c 0 0 G 4 (MQ below (QcX shA G ((some (.int r.1), r.2) : Option Value × Mem).1 ((some (.int r.1), r.2) : Option Value × Mem).2) args s 0 0 (AW shA G.2.1)) 4 [(1, .int x1), (2, .int x2), (3, .int x3)] [] M) {M : Mem} {x1 : Int32} {x2 : Int32} {x3 : Int32} (h : F8_isUnder_l4_b rec4 M x1 x2 x3 = some r) : XJ shA p l e (rmX D) s m args below meth c 0 0 G 4 (MQ below (QcX shA G ((some (.int r.1), r.2) : Option Value × Mem).1 ((some (.int r.1), r.2) : Option Value × Mem).2) args s 0 0 (AW shA G.2.1)) 4 [(1, .int x1), (2, .int x2), (3, .int x3)] [] M := by
  unfold F8_isUnder_l4_b at h
  refine X_iload_n F dX8_isUnder_4 rfl ?_
  refine X_bipush F dX8_isUnder_5 (v := (6 : Int32)) rfl ?_
  refine X_icmp_ge (tgt := 39) F dX8_isUnder_7 (by decide) (fun q1 => ?_) (fun q1 => ?_)
  · rw [if_pos q1] at h
    refine X_iconst F dX8_isUnder_39 (v := (0 : Int32)) rfl ?_
    exact X_zret F hr hlk rfl (retI h) dX8_isUnder_40
  · rw [if_neg q1] at h
    refine X_iload_n F dX8_isUnder_10 rfl ?_
    refine X_if_lt (tgt := 39) F dX8_isUnder_11 (by decide) (fun q2 => ?_) (fun q2 => ?_)
    · rw [if_pos q2] at h
      refine X_iconst F dX8_isUnder_39 (v := (0 : Int32)) rfl ?_
      exact X_zret F hr hlk rfl (retI h) dX8_isUnder_40
    · rw [if_neg q2] at h
      refine X_iload_n F dX8_isUnder_14 rfl ?_
      refine X_bipush F dX8_isUnder_15 (v := (6 : Int32)) rfl ?_
      refine X_icmp_ge (tgt := 39) F dX8_isUnder_17 (by decide) (fun q3 => ?_) (fun q3 => ?_)
      · rw [if_pos q3] at h
        refine X_iconst F dX8_isUnder_39 (v := (0 : Int32)) rfl ?_
        exact X_zret F hr hlk rfl (retI h) dX8_isUnder_40
      · rw [if_neg q3] at h
        refine X_iload_n F dX8_isUnder_20 rfl ?_
        refine X_iload_n F dX8_isUnder_21 rfl ?_
        refine X_icmp_ne (tgt := 27) F dX8_isUnder_22 (by decide) (fun q4 => ?_) (fun q4 => ?_)
        · rw [if_pos q4] at h
          refine X_under F fuRX8_312 dX8_isUnder_27 ?_
          refine X_iload_n F dX8_isUnder_30 rfl ?_
          obtain ⟨q5, h⟩ := ifS h
          refine X_underld F (inbV q5) dX8_isUnder_31 ?_
          refine X_istore_n F dX8_isUnder_32 (by decide) rfl ?_
          refine X_iinc F dX8_isUnder_33 rfl (v := (1 : Int32)) rfl (by decide) rfl ?_
          refine X_goto (tgt := 4) F dX8_isUnder_36 (by decide) ?_
          refine X_pick [2, 1, 0] rfl ?_
          exact hrec4 _ _ _ _ h
        · rw [if_neg (fun z => z q4)] at h
          refine X_iconst F dX8_isUnder_25 (v := (1 : Int32)) rfl ?_
          exact X_zret F hr hlk rfl (retI h) dX8_isUnder_26
set_option maxRecDepth 20000 in
theorem F8_isUnder_l4_ok {p : Program} {l : Launch} {e : Env} {s : State} {m : MethodId} {args : Array Value} {below : List Frame} {meth : Method} {c : Code} {G : GG} {D : Nat} {r : Int32 × Mem} (F : FrP shA G p s m args c RX8 cX8_isUnder 4) (hr : meth.sig.returnType = (some .boolean)) (hlk : meth.locks = false) (hD : 1 ≤ D) : ∀ (fu : Nat) (M : Mem) (x1 : Int32) (x2 : Int32) (x3 : Int32), F8_isUnder_l4 fu M x1 x2 x3 = some r → XJ shA p l e (rmX D) s m args below meth c 0 0 G 4 (MQ below (QcX shA G ((some (.int r.1), r.2) : Option Value × Mem).1 ((some (.int r.1), r.2) : Option Value × Mem).2) args s 0 0 (AW shA G.2.1)) 4 [(1, .int x1), (2, .int x2), (3, .int x3)] [] M := by
  intro fu
  induction fu with
  | zero => intro M x1 x2 x3 h; cases h
  | succ fu ih => intro M x1 x2 x3 h; exact F8_isUnder_l4_bok F hr hlk hD (fun M x1 x2 x3 => ih M x1 x2 x3) h
set_option maxRecDepth 20000 in
theorem F8_isUnder_ok {p : Program} {l : Launch} {e : Env} {s : State} {m : MethodId} {args : Array Value} {below : List Frame} {meth : Method} {c : Code} {G : GG} {D : Nat} {r : Int32 × Mem} (F : FrP shA G p s m args c RX8 cX8_isUnder 4) (hr : meth.sig.returnType = (some .boolean)) (hlk : meth.locks = false) (hD : 1 ≤ D) {M : Mem} {a0 : Int32} {a1 : Int32} (h : F8_isUnder M a0 a1 = some r) : XJ shA p l e (rmX D) s m args below meth c 0 0 G 4 (MQ below (QcX shA G ((some (.int r.1), r.2) : Option Value × Mem).1 ((some (.int r.1), r.2) : Option Value × Mem).2) args s 0 0 (AW shA G.2.1)) 0 [(0, .int a0), (1, .int a1)] [] M := by
  unfold F8_isUnder at h
  refine X_iload_n F dX8_isUnder_0 rfl ?_
  refine X_istore_n F dX8_isUnder_1 (by decide) rfl ?_
  refine X_iconst F dX8_isUnder_2 (v := (0 : Int32)) rfl ?_
  refine X_istore_n F dX8_isUnder_3 (by decide) rfl ?_
  refine X_pick [3, 1, 0] rfl ?_
  exact F8_isUnder_l4_ok F hr hlk hD FUEL _ _ _ _ h
set_option maxRecDepth 20000 in
theorem F8_isUnder_met {l : Launch} {G : GG} {D : Nat} {r : Int32 × Mem} {M : Mem} {a0 : Int32} {a1 : Int32} (hI : Inj shA G.2.1) (hD : 1 ≤ D) (h : F8_isUnder M a0 a1 = some r) : MetX shA l G yX8_isUnder cX8_isUnder 4 (some .boolean) D [.int a0, .int a1] M (some (.int r.1), r.2) :=
  X_met hI (by decide +kernel) (Nat.le_of_ble_eq_true rfl) (fun p e s m args below meth c F hr hlk => F8_isUnder_ok F hr hlk hD h)
-- KeepOurPlace.taken
def F8_taken (M : Mem) (a1 : Int32) (a2 : Int32) : Option (Int32 × Mem) :=
    if a2 < 0 then
      some ((-2 : Int32), M)
    else
      if a2 < (6 : Int32) then
        Option.bind (F2_holds M a1) fun r3 =>
        if ¬ r3.1 = 0 then
          if inb a1 8 = true then
          Option.bind (F8_isUnder r3.2 (r3.2 2 (Int32.toNatClampNeg a1)) a2) fun r7 =>
          if r7.1 = 0 then
            some ((-13 : Int32), r7.2)
          else
            some ((r7.2 4 (Int32.toNatClampNeg a1)), r7.2)
          else none
        else
          some ((-11 : Int32), r3.2)
      else
        some ((-2 : Int32), M)
set_option maxRecDepth 20000 in
theorem F8_taken_ok {p : Program} {l : Launch} {e : Env} {s : State} {m : MethodId} {args : Array Value} {below : List Frame} {meth : Method} {c : Code} {G : GG} {D : Nat} {r : Int32 × Mem} (F : FrP shA G p s m args c RX8 cX8_taken 3) (hr : meth.sig.returnType = (some .int)) (hlk : meth.locks = false) (hD : 2 ≤ D) {M : Mem} {a1 : Int32} {a2 : Int32} (h : F8_taken M a1 a2 = some r) : XJ shA p l e (rmX D) s m args below meth c 0 0 G 3 (MQ below (QcX shA G ((some (.int r.1), r.2) : Option Value × Mem).1 ((some (.int r.1), r.2) : Option Value × Mem).2) args s 0 0 (AW shA G.2.1)) 0 [(0, .ref 0), (1, .int a1), (2, .int a2)] [] M := by
  unfold F8_taken at h
  refine X_iload_n F dX8_taken_0 rfl ?_
  refine X_if_lt (tgt := 10) F dX8_taken_1 (by decide) (fun q1 => ?_) (fun q1 => ?_)
  · rw [if_pos q1] at h
    refine X_bipush F dX8_taken_10 (v := (-2 : Int32)) rfl ?_
    exact X_iret F hr hlk (retI h) dX8_taken_12
  · rw [if_neg q1] at h
    refine X_iload_n F dX8_taken_4 rfl ?_
    refine X_bipush F dX8_taken_5 (v := (6 : Int32)) rfl ?_
    refine X_icmp_lt (tgt := 13) F dX8_taken_7 (by decide) (fun q2 => ?_) (fun q2 => ?_)
    · rw [if_pos q2] at h
      refine X_aload_n F dX8_taken_13 rfl ?_
      refine X_getr F ffRX8_10 dX8_taken_14 ?_
      refine X_iload_n F dX8_taken_17 rfl ?_
      obtain ⟨r3, h4, h⟩ := bndS h
      refine X_callV (ci := 1) (As := [.int a1]) (rest := []) F fkRX8_108 feX2_holds fvX2_holds ⟨_, _, _, rfl, rfl, rfl⟩ (F2_holds_met (D := D - 1) F.2.2.2.2.2.2.2.1 (by omega) h4) rfl rfl (Nat.le_of_ble_eq_true rfl) (rm_ok (by omega) (by decide)) dX8_taken_18 ?_
      show XJ shA p l e (rmX D) s m args below meth c 0 0 G 3 (MQ below (QcX shA G ((some (.int r.1), r.2) : Option Value × Mem).1 ((some (.int r.1), r.2) : Option Value × Mem).2) args s 0 0 (AW shA G.2.1)) 21 [(0, .ref 0), (1, .int a1), (2, .int a2)] [.int r3.1] r3.2
      refine X_if_ne (tgt := 27) F dX8_taken_21 (by decide) (fun q5 => ?_) (fun q5 => ?_)
      · rw [if_pos q5] at h
        refine X_aload_n F dX8_taken_27 rfl ?_
        refine X_getr F ffRX8_10 dX8_taken_28 ?_
        refine X_getr F ffRX8_132 dX8_taken_31 ?_
        refine X_iload_n F dX8_taken_34 rfl ?_
        obtain ⟨q6, h⟩ := ifS h
        refine X_iald (j := (Int32.toNatClampNeg a1)) (v := (r3.2 2 (Int32.toNatClampNeg a1))) F rfl (inbV q6) rfl rfl dX8_taken_35 ?_
        refine X_iload_n F dX8_taken_36 rfl ?_
        obtain ⟨r7, h8, h⟩ := bndS h
        refine X_callS (As := [.int (r3.2 2 (Int32.toNatClampNeg a1)), .int a2]) (rest := []) F fsRX8_308 feX8_isUnder ftX8_isUnder (F8_isUnder_met (D := D - 1) F.2.2.2.2.2.2.2.1 (by omega) h8) rfl rfl (Nat.le_of_ble_eq_true rfl) (rm_ok (by omega) (by decide)) dX8_taken_37 ?_
        show XJ shA p l e (rmX D) s m args below meth c 0 0 G 3 (MQ below (QcX shA G ((some (.int r.1), r.2) : Option Value × Mem).1 ((some (.int r.1), r.2) : Option Value × Mem).2) args s 0 0 (AW shA G.2.1)) 40 [(0, .ref 0), (1, .int a1), (2, .int a2)] [.int r7.1] r7.2
        refine X_if_eq (tgt := 55) F dX8_taken_40 (by decide) (fun q9 => ?_) (fun q9 => ?_)
        · rw [if_pos q9] at h
          refine X_bipush F dX8_taken_55 (v := (-13 : Int32)) rfl ?_
          exact X_iret F hr hlk (retI h) dX8_taken_57
        · rw [if_neg q9] at h
          refine X_aload_n F dX8_taken_43 rfl ?_
          refine X_getr F ffRX8_10 dX8_taken_44 ?_
          refine X_getr F ffRX8_119 dX8_taken_47 ?_
          refine X_iload_n F dX8_taken_50 rfl ?_
          refine X_iald (j := (Int32.toNatClampNeg a1)) (v := (r7.2 4 (Int32.toNatClampNeg a1))) F rfl (inbV q6) rfl rfl dX8_taken_51 ?_
          refine X_goto (tgt := 57) F dX8_taken_52 (by decide) ?_
          exact X_iret F hr hlk (retI h) dX8_taken_57
      · rw [if_neg (fun z => z q5)] at h
        refine X_bipush F dX8_taken_24 (v := (-11 : Int32)) rfl ?_
        exact X_iret F hr hlk (retI h) dX8_taken_26
    · rw [if_neg q2] at h
      refine X_bipush F dX8_taken_10 (v := (-2 : Int32)) rfl ?_
      exact X_iret F hr hlk (retI h) dX8_taken_12
set_option maxRecDepth 20000 in
theorem F8_taken_met {l : Launch} {G : GG} {D : Nat} {r : Int32 × Mem} {M : Mem} {a1 : Int32} {a2 : Int32} (hI : Inj shA G.2.1) (hD : 2 ≤ D) (h : F8_taken M a1 a2 = some r) : MetX shA l G yX8_taken cX8_taken 3 (some .int) D [.ref 0, .int a1, .int a2] M (some (.int r.1), r.2) :=
  X_met hI (by decide +kernel) (Nat.le_of_ble_eq_true rfl) (fun p e s m args below meth c F hr hlk => F8_taken_ok F hr hlk hD h)
