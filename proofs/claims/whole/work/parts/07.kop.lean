/-! written by wip/whole/gen: the pure functions of these methods, read off their bytecode, and the walks that prove them -/
theorem ffRX8_10 : FLT shA RX8 0 8 10 0 (.ref 1) := ⟨⟨RX8, TX8, 8, rfl, by decide, wsIn8, Or.inl (tmem 532 (by decide +kernel) rfl)⟩, _, rfl, rfl⟩
theorem fkRX8_97 : LNK RX8 97 yX2_join := Or.inr ⟨"KeepOurPlace", nmem 562 (by decide +kernel) rfl⟩
theorem feX2_join : CLE yX2_join 2 cX2_join 3 (some .int) := ⟨tmem 2 (by decide +kernel) rfl, tmem 565 (by decide +kernel) rfl, by decide +kernel, by decide +kernel⟩
theorem fvX2_join : CLV yX2_join := ⟨tmem 564 (by decide +kernel) rfl, smem 23 (by decide +kernel) rfl⟩
theorem ffRX8_19 : FLT shA RX8 0 8 19 1 (.ref 5) := ⟨⟨RX8, TX8, 8, rfl, by decide, wsIn8, Or.inl (tmem 533 (by decide +kernel) rfl)⟩, _, rfl, rfl⟩
theorem fkRX8_101 : LNK RX8 101 yX6_lay := Or.inr ⟨"KeepOurPlace", nmem 570 (by decide +kernel) rfl⟩
theorem feX6_lay : CLE yX6_lay 2 cX6_lay 3 (some .int) := ⟨tmem 3 (by decide +kernel) rfl, tmem 573 (by decide +kernel) rfl, by decide +kernel, by decide +kernel⟩
theorem fvX6_lay : CLV yX6_lay := ⟨tmem 572 (by decide +kernel) rfl, smem 24 (by decide +kernel) rfl⟩
theorem fkRX8_104 : LNK RX8 104 yX2_moveUs := Or.inr ⟨"KeepOurPlace", nmem 578 (by decide +kernel) rfl⟩
theorem feX2_moveUs : CLE yX2_moveUs 1 cX2_moveUs 3 (some .int) := ⟨tmem 2 (by decide +kernel) rfl, tmem 581 (by decide +kernel) rfl, by decide +kernel, by decide +kernel⟩
theorem fvX2_moveUs : CLV yX2_moveUs := ⟨tmem 580 (by decide +kernel) rfl, smem 25 (by decide +kernel) rfl⟩
theorem fkRX8_108 : LNK RX8 108 yX2_holds := Or.inr ⟨"KeepOurPlace", nmem 582 (by decide +kernel) rfl⟩
theorem ffRX8_111 : FLT shA RX8 1 2 111 1 (.ref 3) := ⟨⟨RX2, TX2, 6, rfl, by decide, wsIn2, Or.inr ⟨"KeepOurPlace", nmem 39 (by decide +kernel) rfl⟩⟩, _, rfl, rfl⟩
theorem fsRX8_115 : Cond.methodLink RX8 115 yX8_replace ∈ TBL := tmem 586 (by decide +kernel) rfl
theorem feX8_replace : CLE yX8_replace 4 cX8_replace 5 (some .int) := ⟨tmem 1 (by decide +kernel) rfl, tmem 588 (by decide +kernel) rfl, by decide +kernel, by decide +kernel⟩
theorem ftX8_replace : Cond.static yX8_replace ∈ TBL := tmem 587 (by decide +kernel) rfl
theorem ffRX8_119 : FLT shA RX8 1 2 119 2 (.ref 4) := ⟨⟨RX2, TX2, 6, rfl, by decide, wsIn2, Or.inr ⟨"KeepOurPlace", nmem 43 (by decide +kernel) rfl⟩⟩, _, rfl, rfl⟩
theorem fkRX8_122 : LNK RX8 122 yX6_holds := Or.inr ⟨"KeepOurPlace", nmem 589 (by decide +kernel) rfl⟩
theorem ffRX8_123 : FLT shA RX8 5 6 123 0 (.ref 6) := ⟨⟨RX6, TX6, 4, rfl, by decide, wsIn6, Or.inr ⟨"KeepOurPlace", nmem 81 (by decide +kernel) rfl⟩⟩, _, rfl, rfl⟩
theorem ffRX8_126 : FLT shA RX8 5 6 126 1 (.ref 7) := ⟨⟨RX6, TX6, 4, rfl, by decide, wsIn6, Or.inr ⟨"KeepOurPlace", nmem 84 (by decide +kernel) rfl⟩⟩, _, rfl, rfl⟩
theorem ffRX8_129 : FLT shA RX8 5 6 129 2 (.ref 8) := ⟨⟨RX6, TX6, 4, rfl, by decide, wsIn6, Or.inr ⟨"KeepOurPlace", nmem 88 (by decide +kernel) rfl⟩⟩, _, rfl, rfl⟩
theorem ffRX8_132 : FLT shA RX8 1 2 132 0 (.ref 2) := ⟨⟨RX2, TX2, 6, rfl, by decide, wsIn2, Or.inr ⟨"KeepOurPlace", nmem 35 (by decide +kernel) rfl⟩⟩, _, rfl, rfl⟩
theorem ffRX8_44 : FLT shA RX8 0 8 44 4 (.ref 33) := ⟨⟨RX8, TX8, 8, rfl, by decide, wsIn8, Or.inl (tmem 536 (by decide +kernel) rfl)⟩, _, rfl, rfl⟩
theorem fkRX8_135 : LNK RX8 135 yX7_seconds := Or.inr ⟨"KeepOurPlace", nmem 597 (by decide +kernel) rfl⟩
theorem fkRX8_139 : LNK RX8 139 yX7_minds := Or.inr ⟨"KeepOurPlace", nmem 612 (by decide +kernel) rfl⟩
theorem ffRX8_142 : FLT shA RX8 1 2 142 3 (.int 0) := ⟨⟨RX2, TX2, 6, rfl, by decide, wsIn2, Or.inr ⟨"KeepOurPlace", nmem 49 (by decide +kernel) rfl⟩⟩, _, rfl, rfl⟩
theorem fkRX8_146 : LNK RX8 146 yX2_dropFirst := Or.inr ⟨"KeepOurPlace", nmem 621 (by decide +kernel) rfl⟩
theorem feX2_dropFirst : CLE yX2_dropFirst 0 cX2_dropFirst 2 none := ⟨tmem 2 (by decide +kernel) rfl, tmem 624 (by decide +kernel) rfl, by decide +kernel, by decide +kernel⟩
theorem fvX2_dropFirst : CLV yX2_dropFirst := ⟨tmem 623 (by decide +kernel) rfl, smem 31 (by decide +kernel) rfl⟩
theorem ffRX8_26 : FLT shA RX8 0 8 26 2 (.ref 9) := ⟨⟨RX8, TX8, 8, rfl, by decide, wsIn8, Or.inl (tmem 534 (by decide +kernel) rfl)⟩, _, rfl, rfl⟩
theorem fkRX8_83 : LNK RX8 83 yX3_append := Or.inr ⟨"KeepOurPlace", nmem 368 (by decide +kernel) rfl⟩
theorem feX3_append : CLE yX3_append 1 cX3_append 2 (some .boolean) := ⟨tmem 4 (by decide +kernel) rfl, tmem 371 (by decide +kernel) rfl, by decide +kernel, by decide +kernel⟩
theorem fvX3_append : CLV yX3_append := ⟨tmem 370 (by decide +kernel) rfl, smem 0 (by decide +kernel) rfl⟩
theorem ffRX8_149 : FLT shA RX8 9 3 149 1 (.int 0) := ⟨⟨RX3, TX3, 12, rfl, by decide, wsIn3, Or.inr ⟨"KeepOurPlace", nmem 110 (by decide +kernel) rfl⟩⟩, _, rfl, rfl⟩
theorem ffRX8_35 : FLT shA RX8 0 8 35 3 (.ref 16) := ⟨⟨RX8, TX8, 8, rfl, by decide, wsIn8, Or.inl (tmem 535 (by decide +kernel) rfl)⟩, _, rfl, rfl⟩
theorem ffRX8_152 : FLT shA RX8 16 4 152 5 (.int 0) := ⟨⟨RX4, TX4, 7, rfl, by decide, wsIn4, Or.inr ⟨"KeepOurPlace", nmem 163 (by decide +kernel) rfl⟩⟩, _, rfl, rfl⟩
theorem fkRX8_87 : LNK RX8 87 yX3_read := Or.inr ⟨"KeepOurPlace", nmem 372 (by decide +kernel) rfl⟩
theorem feX3_read : CLE yX3_read 0 cX3_read 1 none := ⟨tmem 4 (by decide +kernel) rfl, tmem 375 (by decide +kernel) rfl, by decide +kernel, by decide +kernel⟩
theorem fvX3_read : CLV yX3_read := ⟨tmem 374 (by decide +kernel) rfl, smem 1 (by decide +kernel) rfl⟩
theorem ffRX8_153 : FLT shA RX8 9 3 153 8 (.int 0) := ⟨⟨RX3, TX3, 12, rfl, by decide, wsIn3, Or.inr ⟨"KeepOurPlace", nmem 118 (by decide +kernel) rfl⟩⟩, _, rfl, rfl⟩
theorem fkRX8_90 : LNK RX8 90 yX4_add := Or.inr ⟨"KeepOurPlace", nmem 521 (by decide +kernel) rfl⟩
theorem feX4_add : CLE yX4_add 1 cX4_add 2 (some .int) := ⟨tmem 5 (by decide +kernel) rfl, tmem 524 (by decide +kernel) rfl, by decide +kernel, by decide +kernel⟩
theorem fvX4_add : CLV yX4_add := ⟨tmem 523 (by decide +kernel) rfl, smem 21 (by decide +kernel) rfl⟩
theorem fkRX8_94 : LNK RX8 94 yX3_clear := Or.inr ⟨"KeepOurPlace", nmem 528 (by decide +kernel) rfl⟩
theorem feX3_clear : CLE yX3_clear 0 cX3_clear 1 none := ⟨tmem 4 (by decide +kernel) rfl, tmem 531 (by decide +kernel) rfl, by decide +kernel, by decide +kernel⟩
theorem fvX3_clear : CLV yX3_clear := ⟨tmem 530 (by decide +kernel) rfl, smem 22 (by decide +kernel) rfl⟩
theorem ffRX8_156 : FLT shA RX8 16 4 156 6 (.int 0) := ⟨⟨RX4, TX4, 7, rfl, by decide, wsIn4, Or.inr ⟨"KeepOurPlace", nmem 166 (by decide +kernel) rfl⟩⟩, _, rfl, rfl⟩
theorem fkRX8_159 : LNK RX8 159 yX7_turnChanged := Or.inr ⟨"KeepOurPlace", nmem 641 (by decide +kernel) rfl⟩
theorem ffRX8_60 : FLT shA RX8 0 8 60 6 (.ref 42) := ⟨⟨RX8, TX8, 8, rfl, by decide, wsIn8, Or.inl (tmem 538 (by decide +kernel) rfl)⟩, _, rfl, rfl⟩
theorem fkRX8_230 : LNK RX8 230 yX5_holds := Or.inr ⟨"KeepOurPlace", nmem 654 (by decide +kernel) rfl⟩
theorem fkRX8_231 : LNK RX8 231 yX5_isMissing := Or.inr ⟨"KeepOurPlace", nmem 658 (by decide +kernel) rfl⟩
theorem feX5_isMissing : CLE yX5_isMissing 1 cX5_isMissing 2 (some .boolean) := ⟨tmem 8 (by decide +kernel) rfl, tmem 661 (by decide +kernel) rfl, by decide +kernel, by decide +kernel⟩
theorem fvX5_isMissing : CLV yX5_isMissing := ⟨tmem 660 (by decide +kernel) rfl, smem 35 (by decide +kernel) rfl⟩
theorem ffRX8_53 : FLT shA RX8 0 8 53 5 (.ref 34) := ⟨⟨RX8, TX8, 8, rfl, by decide, wsIn8, Or.inl (tmem 537 (by decide +kernel) rfl)⟩, _, rfl, rfl⟩
theorem ffRX8_237 : FLT shA RX8 42 5 237 2 (.ref 45) := ⟨⟨RX5, TX5, 3, rfl, by decide, wsIn5, Or.inr ⟨"KeepOurPlace", nmem 269 (by decide +kernel) rfl⟩⟩, _, rfl, rfl⟩
theorem ffRX8_234 : FLT shA RX8 42 5 234 1 (.ref 44) := ⟨⟨RX5, TX5, 3, rfl, by decide, wsIn5, Or.inr ⟨"KeepOurPlace", nmem 267 (by decide +kernel) rfl⟩⟩, _, rfl, rfl⟩
theorem fkRX8_241 : LNK RX8 241 yX0_takeRow := Or.inr ⟨"KeepOurPlace", nmem 663 (by decide +kernel) rfl⟩
theorem feX0_takeRow : CLE yX0_takeRow 2 cX0_takeRow 6 (some .boolean) := ⟨tmem 7 (by decide +kernel) rfl, tmem 666 (by decide +kernel) rfl, by decide +kernel, by decide +kernel⟩
theorem fvX0_takeRow : CLV yX0_takeRow := ⟨tmem 665 (by decide +kernel) rfl, smem 36 (by decide +kernel) rfl⟩
theorem fcRX8_165 : Cond.constant RX8 165 (-100000 : Int32) ∈ TBL := tmem 672 (by decide +kernel) rfl
theorem fkRX8_162 : LNK RX8 162 yX8_readErrand := Or.inl (tmem 650 (by decide +kernel) rfl)
theorem feX8_readErrand : CLE yX8_readErrand 1 cX8_readErrand 2 (some .boolean) := ⟨tmem 1 (by decide +kernel) rfl, tmem 653 (by decide +kernel) rfl, by decide +kernel, by decide +kernel⟩
theorem fvX8_readErrand : CLV yX8_readErrand := ⟨tmem 652 (by decide +kernel) rfl, smem 33 (by decide +kernel) rfl⟩
theorem fkRX8_166 : LNK RX8 166 yX0_prepare := Or.inr ⟨"KeepOurPlace", nmem 673 (by decide +kernel) rfl⟩
theorem fkRX8_169 : LNK RX8 169 yX0_backWithout := Or.inr ⟨"KeepOurPlace", nmem 685 (by decide +kernel) rfl⟩
theorem fkRX8_172 : LNK RX8 172 yX0_letBy := Or.inr ⟨"KeepOurPlace", nmem 705 (by decide +kernel) rfl⟩
theorem fkRX8_175 : LNK RX8 175 yX0_gain := Or.inr ⟨"KeepOurPlace", nmem 709 (by decide +kernel) rfl⟩
theorem feX0_gain : CLE yX0_gain 0 cX0_gain 1 (some .int) := ⟨tmem 7 (by decide +kernel) rfl, tmem 712 (by decide +kernel) rfl, by decide +kernel, by decide +kernel⟩
theorem fvX0_gain : CLV yX0_gain := ⟨tmem 711 (by decide +kernel) rfl, smem 45 (by decide +kernel) rfl⟩
theorem fkRX8_178 : LNK RX8 178 yX0_worth := Or.inr ⟨"KeepOurPlace", nmem 731 (by decide +kernel) rfl⟩
theorem fkRX8_181 : LNK RX8 181 yX0_takeNearest := Or.inr ⟨"KeepOurPlace", nmem 736 (by decide +kernel) rfl⟩
theorem feX0_takeNearest : CLE yX0_takeNearest 0 cX0_takeNearest 6 none := ⟨tmem 7 (by decide +kernel) rfl, tmem 739 (by decide +kernel) rfl, by decide +kernel, by decide +kernel⟩
theorem fvX0_takeNearest : CLV yX0_takeNearest := ⟨tmem 738 (by decide +kernel) rfl, smem 50 (by decide +kernel) rfl⟩
theorem fkRX8_184 : LNK RX8 184 yX0_digits := Or.inr ⟨"KeepOurPlace", nmem 744 (by decide +kernel) rfl⟩
theorem feX0_digits : CLE yX0_digits 0 cX0_digits 3 (some .int) := ⟨tmem 7 (by decide +kernel) rfl, tmem 747 (by decide +kernel) rfl, by decide +kernel, by decide +kernel⟩
theorem fvX0_digits : CLV yX0_digits := ⟨tmem 746 (by decide +kernel) rfl, smem 52 (by decide +kernel) rfl⟩
theorem fkRX8_187 : LNK RX8 187 yX6_all := Or.inr ⟨"KeepOurPlace", nmem 752 (by decide +kernel) rfl⟩
theorem feX6_all : CLE yX6_all 0 cX6_all 1 (some .int) := ⟨tmem 3 (by decide +kernel) rfl, tmem 755 (by decide +kernel) rfl, by decide +kernel, by decide +kernel⟩
theorem fvX6_all : CLV yX6_all := ⟨tmem 754 (by decide +kernel) rfl, smem 53 (by decide +kernel) rfl⟩
theorem fkRX8_190 : LNK RX8 190 yX0_survey := Or.inr ⟨"KeepOurPlace", nmem 756 (by decide +kernel) rfl⟩
theorem feX0_survey : CLE yX0_survey 1 cX0_survey 3 none := ⟨tmem 7 (by decide +kernel) rfl, tmem 759 (by decide +kernel) rfl, by decide +kernel, by decide +kernel⟩
theorem fvX0_survey : CLV yX0_survey := ⟨tmem 758 (by decide +kernel) rfl, smem 54 (by decide +kernel) rfl⟩
theorem fkRX8_194 : LNK RX8 194 yX0_choose := Or.inr ⟨"KeepOurPlace", nmem 768 (by decide +kernel) rfl⟩
theorem ffRX8_197 : FLT shA RX8 34 0 197 9 (.ref 39) := ⟨⟨RX0, TX0, 16, rfl, by decide, wsIn0, Or.inr ⟨"KeepOurPlace", nmem 213 (by decide +kernel) rfl⟩⟩, _, rfl, rfl⟩
theorem ffRX8_200 : FLT shA RX8 34 0 200 10 (.ref 40) := ⟨⟨RX0, TX0, 16, rfl, by decide, wsIn0, Or.inr ⟨"KeepOurPlace", nmem 215 (by decide +kernel) rfl⟩⟩, _, rfl, rfl⟩
theorem ffRX8_203 : FLT shA RX8 34 0 203 11 (.ref 41) := ⟨⟨RX0, TX0, 16, rfl, by decide, wsIn0, Or.inr ⟨"KeepOurPlace", nmem 217 (by decide +kernel) rfl⟩⟩, _, rfl, rfl⟩
theorem fkRX8_206 : LNK RX8 206 yX6_steps := Or.inr ⟨"KeepOurPlace", nmem 780 (by decide +kernel) rfl⟩
theorem fkRX8_209 : LNK RX8 209 yX7_pace := Or.inr ⟨"KeepOurPlace", nmem 781 (by decide +kernel) rfl⟩
theorem fkRX8_212 : LNK RX8 212 yX0_takePlan := Or.inr ⟨"KeepOurPlace", nmem 786 (by decide +kernel) rfl⟩
theorem feX0_takePlan : CLE yX0_takePlan 1 cX0_takePlan 5 none := ⟨tmem 7 (by decide +kernel) rfl, tmem 789 (by decide +kernel) rfl, by decide +kernel, by decide +kernel⟩
theorem fvX0_takePlan : CLV yX0_takePlan := ⟨tmem 788 (by decide +kernel) rfl, smem 58 (by decide +kernel) rfl⟩
theorem ffRX8_215 : FLT shA RX8 34 0 215 8 (.int 0) := ⟨⟨RX0, TX0, 16, rfl, by decide, wsIn0, Or.inr ⟨"KeepOurPlace", nmem 211 (by decide +kernel) rfl⟩⟩, _, rfl, rfl⟩
theorem ffRX8_217 : FLT shA RX8 34 0 217 7 (.ref 38) := ⟨⟨RX0, TX0, 16, rfl, by decide, wsIn0, Or.inr ⟨"KeepOurPlace", nmem 209 (by decide +kernel) rfl⟩⟩, _, rfl, rfl⟩
theorem fkRX8_220 : LNK RX8 220 yX0_mostGain := Or.inr ⟨"KeepOurPlace", nmem 794 (by decide +kernel) rfl⟩
theorem feX0_mostGain : CLE yX0_mostGain 1 cX0_mostGain 2 (some .int) := ⟨tmem 7 (by decide +kernel) rfl, tmem 797 (by decide +kernel) rfl, by decide +kernel, by decide +kernel⟩
theorem fvX0_mostGain : CLV yX0_mostGain := ⟨tmem 796 (by decide +kernel) rfl, smem 59 (by decide +kernel) rfl⟩
theorem ffRX8_223 : FLT shA RX8 1 2 223 4 (.int 0) := ⟨⟨RX2, TX2, 6, rfl, by decide, wsIn2, Or.inr ⟨"KeepOurPlace", nmem 55 (by decide +kernel) rfl⟩⟩, _, rfl, rfl⟩
theorem dX8_customer_0 : decode cX8_customer 0 = .ok (.aload_n 0, 1) := by decide +kernel
theorem dX8_customer_1 : decode cX8_customer 1 = .ok (.getfield 10, 3) := by decide +kernel
theorem dX8_customer_4 : decode cX8_customer 4 = .ok (.iload_n 1, 1) := by decide +kernel
theorem dX8_customer_5 : decode cX8_customer 5 = .ok (.iload_n 2, 1) := by decide +kernel
theorem dX8_customer_6 : decode cX8_customer 6 = .ok (.invokevirtual 97, 3) := by decide +kernel
theorem dX8_customer_9 : decode cX8_customer 9 = .ok (.ireturn, 1) := by decide +kernel
theorem dX8_thing_0 : decode cX8_thing 0 = .ok (.aload_n 0, 1) := by decide +kernel
theorem dX8_thing_1 : decode cX8_thing 1 = .ok (.getfield 19, 3) := by decide +kernel
theorem dX8_thing_4 : decode cX8_thing 4 = .ok (.iload_n 1, 1) := by decide +kernel
theorem dX8_thing_5 : decode cX8_thing 5 = .ok (.iload_n 2, 1) := by decide +kernel
theorem dX8_thing_6 : decode cX8_thing 6 = .ok (.invokevirtual 101, 3) := by decide +kernel
theorem dX8_thing_9 : decode cX8_thing 9 = .ok (.ireturn, 1) := by decide +kernel
theorem dX8_replace_0 : decode cX8_replace 0 = .ok (.iload_n 1, 1) := by decide +kernel
theorem dX8_replace_1 : decode cX8_replace 1 = .ok (.ifCond .lt 18, 3) := by decide +kernel
theorem dX8_replace_4 : decode cX8_replace 4 = .ok (.iload_n 1, 1) := by decide +kernel
theorem dX8_replace_5 : decode cX8_replace 5 = .ok (.aload_n 0, 1) := by decide +kernel
theorem dX8_replace_6 : decode cX8_replace 6 = .ok (.arraylength, 1) := by decide +kernel
theorem dX8_replace_7 : decode cX8_replace 7 = .ok (.if_icmp .ge 12, 3) := by decide +kernel
theorem dX8_replace_10 : decode cX8_replace 10 = .ok (.iload_n 2, 1) := by decide +kernel
theorem dX8_replace_11 : decode cX8_replace 11 = .ok (.ifCond .lt 8, 3) := by decide +kernel
theorem dX8_replace_14 : decode cX8_replace 14 = .ok (.iload_n 2, 1) := by decide +kernel
theorem dX8_replace_15 : decode cX8_replace 15 = .ok (.iload_n 3, 1) := by decide +kernel
theorem dX8_replace_16 : decode cX8_replace 16 = .ok (.if_icmp .le 6, 3) := by decide +kernel
theorem dX8_replace_19 : decode cX8_replace 19 = .ok (.bipush (-2), 2) := by decide +kernel
theorem dX8_replace_21 : decode cX8_replace 21 = .ok (.ireturn, 1) := by decide +kernel
theorem dX8_replace_22 : decode cX8_replace 22 = .ok (.aload_n 0, 1) := by decide +kernel
theorem dX8_replace_23 : decode cX8_replace 23 = .ok (.iload_n 1, 1) := by decide +kernel
theorem dX8_replace_24 : decode cX8_replace 24 = .ok (.iaload, 1) := by decide +kernel
theorem dX8_replace_25 : decode cX8_replace 25 = .ok (.istore 4, 2) := by decide +kernel
theorem dX8_replace_27 : decode cX8_replace 27 = .ok (.aload_n 0, 1) := by decide +kernel
theorem dX8_replace_28 : decode cX8_replace 28 = .ok (.iload_n 1, 1) := by decide +kernel
theorem dX8_replace_29 : decode cX8_replace 29 = .ok (.iload_n 2, 1) := by decide +kernel
theorem dX8_replace_30 : decode cX8_replace 30 = .ok (.iastore, 1) := by decide +kernel
theorem dX8_replace_31 : decode cX8_replace 31 = .ok (.iload 4, 2) := by decide +kernel
theorem dX8_replace_33 : decode cX8_replace 33 = .ok (.ireturn, 1) := by decide +kernel
theorem dX8_set_0 : decode cX8_set 0 = .ok (.iload_n 1, 1) := by decide +kernel
theorem dX8_set_1 : decode cX8_set 1 = .ok (.tableswitch 203 0 5 #[39, 48, 79, 110, 141, 172], 39) := by decide +kernel
theorem dX8_set_40 : decode cX8_set 40 = .ok (.aload_n 0, 1) := by decide +kernel
theorem dX8_set_41 : decode cX8_set 41 = .ok (.getfield 10, 3) := by decide +kernel
theorem dX8_set_44 : decode cX8_set 44 = .ok (.iload_n 3, 1) := by decide +kernel
theorem dX8_set_45 : decode cX8_set 45 = .ok (.invokevirtual 104, 3) := by decide +kernel
theorem dX8_set_48 : decode cX8_set 48 = .ok (.ireturn, 1) := by decide +kernel
theorem dX8_set_49 : decode cX8_set 49 = .ok (.aload_n 0, 1) := by decide +kernel
theorem dX8_set_50 : decode cX8_set 50 = .ok (.getfield 10, 3) := by decide +kernel
theorem dX8_set_53 : decode cX8_set 53 = .ok (.iload_n 2, 1) := by decide +kernel
theorem dX8_set_54 : decode cX8_set 54 = .ok (.invokevirtual 108, 3) := by decide +kernel
theorem dX8_set_57 : decode cX8_set 57 = .ok (.ifCond .eq 20, 3) := by decide +kernel
theorem dX8_set_60 : decode cX8_set 60 = .ok (.aload_n 0, 1) := by decide +kernel
theorem dX8_set_61 : decode cX8_set 61 = .ok (.getfield 10, 3) := by decide +kernel
theorem dX8_set_64 : decode cX8_set 64 = .ok (.getfield 111, 3) := by decide +kernel
theorem dX8_set_67 : decode cX8_set 67 = .ok (.iload_n 2, 1) := by decide +kernel
theorem dX8_set_68 : decode cX8_set 68 = .ok (.iload_n 3, 1) := by decide +kernel
theorem dX8_set_69 : decode cX8_set 69 = .ok (.bipush 40, 2) := by decide +kernel
theorem dX8_set_71 : decode cX8_set 71 = .ok (.invokestatic 115, 3) := by decide +kernel
theorem dX8_set_74 : decode cX8_set 74 = .ok (.goto 5, 3) := by decide +kernel
theorem dX8_set_77 : decode cX8_set 77 = .ok (.bipush (-2), 2) := by decide +kernel
theorem dX8_set_79 : decode cX8_set 79 = .ok (.ireturn, 1) := by decide +kernel
theorem dX8_set_80 : decode cX8_set 80 = .ok (.aload_n 0, 1) := by decide +kernel
theorem dX8_set_81 : decode cX8_set 81 = .ok (.getfield 10, 3) := by decide +kernel
theorem dX8_set_84 : decode cX8_set 84 = .ok (.iload_n 2, 1) := by decide +kernel
theorem dX8_set_85 : decode cX8_set 85 = .ok (.invokevirtual 108, 3) := by decide +kernel
theorem dX8_set_88 : decode cX8_set 88 = .ok (.ifCond .eq 20, 3) := by decide +kernel
theorem dX8_set_91 : decode cX8_set 91 = .ok (.aload_n 0, 1) := by decide +kernel
theorem dX8_set_92 : decode cX8_set 92 = .ok (.getfield 10, 3) := by decide +kernel
theorem dX8_set_95 : decode cX8_set 95 = .ok (.getfield 119, 3) := by decide +kernel
theorem dX8_set_98 : decode cX8_set 98 = .ok (.iload_n 2, 1) := by decide +kernel
theorem dX8_set_99 : decode cX8_set 99 = .ok (.iload_n 3, 1) := by decide +kernel
theorem dX8_set_100 : decode cX8_set 100 = .ok (.bipush 9, 2) := by decide +kernel
theorem dX8_set_102 : decode cX8_set 102 = .ok (.invokestatic 115, 3) := by decide +kernel
theorem dX8_set_105 : decode cX8_set 105 = .ok (.goto 5, 3) := by decide +kernel
theorem dX8_set_108 : decode cX8_set 108 = .ok (.bipush (-2), 2) := by decide +kernel
theorem dX8_set_110 : decode cX8_set 110 = .ok (.ireturn, 1) := by decide +kernel
theorem dX8_set_111 : decode cX8_set 111 = .ok (.aload_n 0, 1) := by decide +kernel
theorem dX8_set_112 : decode cX8_set 112 = .ok (.getfield 19, 3) := by decide +kernel
theorem dX8_set_115 : decode cX8_set 115 = .ok (.iload_n 2, 1) := by decide +kernel
theorem dX8_set_116 : decode cX8_set 116 = .ok (.invokevirtual 122, 3) := by decide +kernel
theorem dX8_set_119 : decode cX8_set 119 = .ok (.ifCond .eq 20, 3) := by decide +kernel
theorem dX8_set_122 : decode cX8_set 122 = .ok (.aload_n 0, 1) := by decide +kernel
theorem dX8_set_123 : decode cX8_set 123 = .ok (.getfield 19, 3) := by decide +kernel
theorem dX8_set_126 : decode cX8_set 126 = .ok (.getfield 123, 3) := by decide +kernel
theorem dX8_set_129 : decode cX8_set 129 = .ok (.iload_n 2, 1) := by decide +kernel
theorem dX8_set_130 : decode cX8_set 130 = .ok (.iload_n 3, 1) := by decide +kernel
theorem dX8_set_131 : decode cX8_set 131 = .ok (.bipush 99, 2) := by decide +kernel
theorem dX8_set_133 : decode cX8_set 133 = .ok (.invokestatic 115, 3) := by decide +kernel
theorem dX8_set_136 : decode cX8_set 136 = .ok (.goto 5, 3) := by decide +kernel
theorem dX8_set_139 : decode cX8_set 139 = .ok (.bipush (-2), 2) := by decide +kernel
theorem dX8_set_141 : decode cX8_set 141 = .ok (.ireturn, 1) := by decide +kernel
theorem dX8_set_142 : decode cX8_set 142 = .ok (.aload_n 0, 1) := by decide +kernel
theorem dX8_set_143 : decode cX8_set 143 = .ok (.getfield 19, 3) := by decide +kernel
theorem dX8_set_146 : decode cX8_set 146 = .ok (.iload_n 2, 1) := by decide +kernel
theorem dX8_set_147 : decode cX8_set 147 = .ok (.invokevirtual 122, 3) := by decide +kernel
theorem dX8_set_150 : decode cX8_set 150 = .ok (.ifCond .eq 20, 3) := by decide +kernel
theorem dX8_set_153 : decode cX8_set 153 = .ok (.aload_n 0, 1) := by decide +kernel
theorem dX8_set_154 : decode cX8_set 154 = .ok (.getfield 19, 3) := by decide +kernel
theorem dX8_set_157 : decode cX8_set 157 = .ok (.getfield 126, 3) := by decide +kernel
theorem dX8_set_160 : decode cX8_set 160 = .ok (.iload_n 2, 1) := by decide +kernel
theorem dX8_set_161 : decode cX8_set 161 = .ok (.iload_n 3, 1) := by decide +kernel
theorem dX8_set_162 : decode cX8_set 162 = .ok (.bipush 99, 2) := by decide +kernel
theorem dX8_set_164 : decode cX8_set 164 = .ok (.invokestatic 115, 3) := by decide +kernel
theorem dX8_set_167 : decode cX8_set 167 = .ok (.goto 5, 3) := by decide +kernel
theorem dX8_set_170 : decode cX8_set 170 = .ok (.bipush (-2), 2) := by decide +kernel
theorem dX8_set_172 : decode cX8_set 172 = .ok (.ireturn, 1) := by decide +kernel
theorem dX8_set_173 : decode cX8_set 173 = .ok (.aload_n 0, 1) := by decide +kernel
theorem dX8_set_174 : decode cX8_set 174 = .ok (.getfield 19, 3) := by decide +kernel
theorem dX8_set_177 : decode cX8_set 177 = .ok (.iload_n 2, 1) := by decide +kernel
theorem dX8_set_178 : decode cX8_set 178 = .ok (.invokevirtual 122, 3) := by decide +kernel
theorem dX8_set_181 : decode cX8_set 181 = .ok (.ifCond .eq 20, 3) := by decide +kernel
theorem dX8_set_184 : decode cX8_set 184 = .ok (.aload_n 0, 1) := by decide +kernel
theorem dX8_set_185 : decode cX8_set 185 = .ok (.getfield 19, 3) := by decide +kernel
theorem dX8_set_188 : decode cX8_set 188 = .ok (.getfield 129, 3) := by decide +kernel
theorem dX8_set_191 : decode cX8_set 191 = .ok (.iload_n 2, 1) := by decide +kernel
theorem dX8_set_192 : decode cX8_set 192 = .ok (.iload_n 3, 1) := by decide +kernel
theorem dX8_set_193 : decode cX8_set 193 = .ok (.bipush 100, 2) := by decide +kernel
theorem dX8_set_195 : decode cX8_set 195 = .ok (.invokestatic 115, 3) := by decide +kernel
theorem dX8_set_198 : decode cX8_set 198 = .ok (.goto 5, 3) := by decide +kernel
theorem dX8_set_201 : decode cX8_set 201 = .ok (.bipush (-2), 2) := by decide +kernel
theorem dX8_set_203 : decode cX8_set 203 = .ok (.ireturn, 1) := by decide +kernel
theorem dX8_set_204 : decode cX8_set 204 = .ok (.bipush (-2), 2) := by decide +kernel
theorem dX8_set_206 : decode cX8_set 206 = .ok (.ireturn, 1) := by decide +kernel
theorem dX8_told_0 : decode cX8_told 0 = .ok (.iload_n 2, 1) := by decide +kernel
theorem dX8_told_1 : decode cX8_told 1 = .ok (.tableswitch 264 0 7 #[47, 73, 99, 125, 151, 177, 203, 238], 47) := by decide +kernel
theorem dX8_told_48 : decode cX8_told 48 = .ok (.aload_n 0, 1) := by decide +kernel
theorem dX8_told_49 : decode cX8_told 49 = .ok (.getfield 10, 3) := by decide +kernel
theorem dX8_told_52 : decode cX8_told 52 = .ok (.iload_n 1, 1) := by decide +kernel
theorem dX8_told_53 : decode cX8_told 53 = .ok (.invokevirtual 108, 3) := by decide +kernel
theorem dX8_told_56 : decode cX8_told 56 = .ok (.ifCond .eq 15, 3) := by decide +kernel
theorem dX8_told_59 : decode cX8_told 59 = .ok (.aload_n 0, 1) := by decide +kernel
theorem dX8_told_60 : decode cX8_told 60 = .ok (.getfield 10, 3) := by decide +kernel
theorem dX8_told_63 : decode cX8_told 63 = .ok (.getfield 132, 3) := by decide +kernel
theorem dX8_told_66 : decode cX8_told 66 = .ok (.iload_n 1, 1) := by decide +kernel
theorem dX8_told_67 : decode cX8_told 67 = .ok (.iaload, 1) := by decide +kernel
theorem dX8_told_68 : decode cX8_told 68 = .ok (.goto 5, 3) := by decide +kernel
theorem dX8_told_71 : decode cX8_told 71 = .ok (.bipush (-2), 2) := by decide +kernel
theorem dX8_told_73 : decode cX8_told 73 = .ok (.ireturn, 1) := by decide +kernel
theorem dX8_told_74 : decode cX8_told 74 = .ok (.aload_n 0, 1) := by decide +kernel
theorem dX8_told_75 : decode cX8_told 75 = .ok (.getfield 10, 3) := by decide +kernel
theorem dX8_told_78 : decode cX8_told 78 = .ok (.iload_n 1, 1) := by decide +kernel
theorem dX8_told_79 : decode cX8_told 79 = .ok (.invokevirtual 108, 3) := by decide +kernel
theorem dX8_told_82 : decode cX8_told 82 = .ok (.ifCond .eq 15, 3) := by decide +kernel
theorem dX8_told_85 : decode cX8_told 85 = .ok (.aload_n 0, 1) := by decide +kernel
theorem dX8_told_86 : decode cX8_told 86 = .ok (.getfield 10, 3) := by decide +kernel
theorem dX8_told_89 : decode cX8_told 89 = .ok (.getfield 111, 3) := by decide +kernel
theorem dX8_told_92 : decode cX8_told 92 = .ok (.iload_n 1, 1) := by decide +kernel
theorem dX8_told_93 : decode cX8_told 93 = .ok (.iaload, 1) := by decide +kernel
theorem dX8_told_94 : decode cX8_told 94 = .ok (.goto 5, 3) := by decide +kernel
theorem dX8_told_97 : decode cX8_told 97 = .ok (.bipush (-2), 2) := by decide +kernel
theorem dX8_told_99 : decode cX8_told 99 = .ok (.ireturn, 1) := by decide +kernel
theorem dX8_told_100 : decode cX8_told 100 = .ok (.aload_n 0, 1) := by decide +kernel
theorem dX8_told_101 : decode cX8_told 101 = .ok (.getfield 10, 3) := by decide +kernel
theorem dX8_told_104 : decode cX8_told 104 = .ok (.iload_n 1, 1) := by decide +kernel
theorem dX8_told_105 : decode cX8_told 105 = .ok (.invokevirtual 108, 3) := by decide +kernel
theorem dX8_told_108 : decode cX8_told 108 = .ok (.ifCond .eq 15, 3) := by decide +kernel
theorem dX8_told_111 : decode cX8_told 111 = .ok (.aload_n 0, 1) := by decide +kernel
theorem dX8_told_112 : decode cX8_told 112 = .ok (.getfield 10, 3) := by decide +kernel
theorem dX8_told_115 : decode cX8_told 115 = .ok (.getfield 119, 3) := by decide +kernel
theorem dX8_told_118 : decode cX8_told 118 = .ok (.iload_n 1, 1) := by decide +kernel
theorem dX8_told_119 : decode cX8_told 119 = .ok (.iaload, 1) := by decide +kernel
theorem dX8_told_120 : decode cX8_told 120 = .ok (.goto 5, 3) := by decide +kernel
theorem dX8_told_123 : decode cX8_told 123 = .ok (.bipush (-2), 2) := by decide +kernel
theorem dX8_told_125 : decode cX8_told 125 = .ok (.ireturn, 1) := by decide +kernel
theorem dX8_told_126 : decode cX8_told 126 = .ok (.aload_n 0, 1) := by decide +kernel
theorem dX8_told_127 : decode cX8_told 127 = .ok (.getfield 19, 3) := by decide +kernel
theorem dX8_told_130 : decode cX8_told 130 = .ok (.iload_n 1, 1) := by decide +kernel
theorem dX8_told_131 : decode cX8_told 131 = .ok (.invokevirtual 122, 3) := by decide +kernel
theorem dX8_told_134 : decode cX8_told 134 = .ok (.ifCond .eq 15, 3) := by decide +kernel
theorem dX8_told_137 : decode cX8_told 137 = .ok (.aload_n 0, 1) := by decide +kernel
theorem dX8_told_138 : decode cX8_told 138 = .ok (.getfield 19, 3) := by decide +kernel
theorem dX8_told_141 : decode cX8_told 141 = .ok (.getfield 123, 3) := by decide +kernel
theorem dX8_told_144 : decode cX8_told 144 = .ok (.iload_n 1, 1) := by decide +kernel
theorem dX8_told_145 : decode cX8_told 145 = .ok (.iaload, 1) := by decide +kernel
theorem dX8_told_146 : decode cX8_told 146 = .ok (.goto 5, 3) := by decide +kernel
theorem dX8_told_149 : decode cX8_told 149 = .ok (.bipush (-2), 2) := by decide +kernel
theorem dX8_told_151 : decode cX8_told 151 = .ok (.ireturn, 1) := by decide +kernel
theorem dX8_told_152 : decode cX8_told 152 = .ok (.aload_n 0, 1) := by decide +kernel
theorem dX8_told_153 : decode cX8_told 153 = .ok (.getfield 19, 3) := by decide +kernel
theorem dX8_told_156 : decode cX8_told 156 = .ok (.iload_n 1, 1) := by decide +kernel
theorem dX8_told_157 : decode cX8_told 157 = .ok (.invokevirtual 122, 3) := by decide +kernel
theorem dX8_told_160 : decode cX8_told 160 = .ok (.ifCond .eq 15, 3) := by decide +kernel
theorem dX8_told_163 : decode cX8_told 163 = .ok (.aload_n 0, 1) := by decide +kernel
theorem dX8_told_164 : decode cX8_told 164 = .ok (.getfield 19, 3) := by decide +kernel
theorem dX8_told_167 : decode cX8_told 167 = .ok (.getfield 126, 3) := by decide +kernel
theorem dX8_told_170 : decode cX8_told 170 = .ok (.iload_n 1, 1) := by decide +kernel
theorem dX8_told_171 : decode cX8_told 171 = .ok (.iaload, 1) := by decide +kernel
theorem dX8_told_172 : decode cX8_told 172 = .ok (.goto 5, 3) := by decide +kernel
theorem dX8_told_175 : decode cX8_told 175 = .ok (.bipush (-2), 2) := by decide +kernel
theorem dX8_told_177 : decode cX8_told 177 = .ok (.ireturn, 1) := by decide +kernel
theorem dX8_told_178 : decode cX8_told 178 = .ok (.aload_n 0, 1) := by decide +kernel
theorem dX8_told_179 : decode cX8_told 179 = .ok (.getfield 19, 3) := by decide +kernel
theorem dX8_told_182 : decode cX8_told 182 = .ok (.iload_n 1, 1) := by decide +kernel
theorem dX8_told_183 : decode cX8_told 183 = .ok (.invokevirtual 122, 3) := by decide +kernel
theorem dX8_told_186 : decode cX8_told 186 = .ok (.ifCond .eq 15, 3) := by decide +kernel
theorem dX8_told_189 : decode cX8_told 189 = .ok (.aload_n 0, 1) := by decide +kernel
theorem dX8_told_190 : decode cX8_told 190 = .ok (.getfield 19, 3) := by decide +kernel
theorem dX8_told_193 : decode cX8_told 193 = .ok (.getfield 129, 3) := by decide +kernel
theorem dX8_told_196 : decode cX8_told 196 = .ok (.iload_n 1, 1) := by decide +kernel
theorem dX8_told_197 : decode cX8_told 197 = .ok (.iaload, 1) := by decide +kernel
theorem dX8_told_198 : decode cX8_told 198 = .ok (.goto 5, 3) := by decide +kernel
theorem dX8_told_201 : decode cX8_told 201 = .ok (.bipush (-2), 2) := by decide +kernel
theorem dX8_told_203 : decode cX8_told 203 = .ok (.ireturn, 1) := by decide +kernel
theorem dX8_told_204 : decode cX8_told 204 = .ok (.aload_n 0, 1) := by decide +kernel
theorem dX8_told_205 : decode cX8_told 205 = .ok (.getfield 10, 3) := by decide +kernel
theorem dX8_told_208 : decode cX8_told 208 = .ok (.iload_n 1, 1) := by decide +kernel
theorem dX8_told_209 : decode cX8_told 209 = .ok (.invokevirtual 108, 3) := by decide +kernel
theorem dX8_told_212 : decode cX8_told 212 = .ok (.ifCond .eq 24, 3) := by decide +kernel
theorem dX8_told_215 : decode cX8_told 215 = .ok (.aload_n 0, 1) := by decide +kernel
theorem dX8_told_216 : decode cX8_told 216 = .ok (.getfield 44, 3) := by decide +kernel
theorem dX8_told_219 : decode cX8_told 219 = .ok (.aload_n 0, 1) := by decide +kernel
theorem dX8_told_220 : decode cX8_told 220 = .ok (.getfield 10, 3) := by decide +kernel
theorem dX8_told_223 : decode cX8_told 223 = .ok (.getfield 132, 3) := by decide +kernel
theorem dX8_told_226 : decode cX8_told 226 = .ok (.iload_n 1, 1) := by decide +kernel
theorem dX8_told_227 : decode cX8_told 227 = .ok (.iaload, 1) := by decide +kernel
theorem dX8_told_228 : decode cX8_told 228 = .ok (.iload_n 1, 1) := by decide +kernel
theorem dX8_told_229 : decode cX8_told 229 = .ok (.iload_n 1, 1) := by decide +kernel
theorem dX8_told_230 : decode cX8_told 230 = .ok (.invokevirtual 135, 3) := by decide +kernel
theorem dX8_told_233 : decode cX8_told 233 = .ok (.goto 5, 3) := by decide +kernel
theorem dX8_told_236 : decode cX8_told 236 = .ok (.bipush (-2), 2) := by decide +kernel
theorem dX8_told_238 : decode cX8_told 238 = .ok (.ireturn, 1) := by decide +kernel
theorem dX8_told_239 : decode cX8_told 239 = .ok (.aload_n 0, 1) := by decide +kernel
theorem dX8_told_240 : decode cX8_told 240 = .ok (.getfield 10, 3) := by decide +kernel
theorem dX8_told_243 : decode cX8_told 243 = .ok (.iload_n 1, 1) := by decide +kernel
theorem dX8_told_244 : decode cX8_told 244 = .ok (.invokevirtual 108, 3) := by decide +kernel
theorem dX8_told_247 : decode cX8_told 247 = .ok (.ifCond .eq 15, 3) := by decide +kernel
theorem dX8_told_250 : decode cX8_told 250 = .ok (.aload_n 0, 1) := by decide +kernel
theorem dX8_told_251 : decode cX8_told 251 = .ok (.getfield 44, 3) := by decide +kernel
theorem dX8_told_254 : decode cX8_told 254 = .ok (.iload_n 1, 1) := by decide +kernel
theorem dX8_told_255 : decode cX8_told 255 = .ok (.iconst 0, 1) := by decide +kernel
theorem dX8_told_256 : decode cX8_told 256 = .ok (.invokevirtual 139, 3) := by decide +kernel
theorem dX8_told_259 : decode cX8_told 259 = .ok (.goto 5, 3) := by decide +kernel
theorem dX8_told_262 : decode cX8_told 262 = .ok (.bipush (-2), 2) := by decide +kernel
theorem dX8_told_264 : decode cX8_told 264 = .ok (.ireturn, 1) := by decide +kernel
theorem dX8_told_265 : decode cX8_told 265 = .ok (.bipush (-2), 2) := by decide +kernel
theorem dX8_told_267 : decode cX8_told 267 = .ok (.ireturn, 1) := by decide +kernel
theorem dX8_serve_0 : decode cX8_serve 0 = .ok (.aload_n 0, 1) := by decide +kernel
theorem dX8_serve_1 : decode cX8_serve 1 = .ok (.getfield 10, 3) := by decide +kernel
theorem dX8_serve_4 : decode cX8_serve 4 = .ok (.getfield 142, 3) := by decide +kernel
theorem dX8_serve_7 : decode cX8_serve 7 = .ok (.ifCond .ne 6, 3) := by decide +kernel
theorem dX8_serve_10 : decode cX8_serve 10 = .ok (.bipush (-3), 2) := by decide +kernel
theorem dX8_serve_12 : decode cX8_serve 12 = .ok (.ireturn, 1) := by decide +kernel
theorem dX8_serve_13 : decode cX8_serve 13 = .ok (.aload_n 0, 1) := by decide +kernel
theorem dX8_serve_14 : decode cX8_serve 14 = .ok (.getfield 44, 3) := by decide +kernel
theorem dX8_serve_17 : decode cX8_serve 17 = .ok (.aload_n 0, 1) := by decide +kernel
theorem dX8_serve_18 : decode cX8_serve 18 = .ok (.getfield 10, 3) := by decide +kernel
theorem dX8_serve_21 : decode cX8_serve 21 = .ok (.getfield 132, 3) := by decide +kernel
theorem dX8_serve_24 : decode cX8_serve 24 = .ok (.iconst 0, 1) := by decide +kernel
theorem dX8_serve_25 : decode cX8_serve 25 = .ok (.iaload, 1) := by decide +kernel
theorem dX8_serve_26 : decode cX8_serve 26 = .ok (.iconst 0, 1) := by decide +kernel
theorem dX8_serve_27 : decode cX8_serve 27 = .ok (.iconst 0, 1) := by decide +kernel
theorem dX8_serve_28 : decode cX8_serve 28 = .ok (.invokevirtual 135, 3) := by decide +kernel
theorem dX8_serve_31 : decode cX8_serve 31 = .ok (.istore_n 1, 1) := by decide +kernel
theorem dX8_serve_32 : decode cX8_serve 32 = .ok (.aload_n 0, 1) := by decide +kernel
theorem dX8_serve_33 : decode cX8_serve 33 = .ok (.getfield 10, 3) := by decide +kernel
theorem dX8_serve_36 : decode cX8_serve 36 = .ok (.invokevirtual 146, 3) := by decide +kernel
theorem dX8_serve_39 : decode cX8_serve 39 = .ok (.iload_n 1, 1) := by decide +kernel
theorem dX8_serve_40 : decode cX8_serve 40 = .ok (.ireturn, 1) := by decide +kernel
theorem dX8_feed_0 : decode cX8_feed 0 = .ok (.iload_n 1, 1) := by decide +kernel
theorem dX8_feed_1 : decode cX8_feed 1 = .ok (.ifCond .lt 10, 3) := by decide +kernel
theorem dX8_feed_4 : decode cX8_feed 4 = .ok (.iload_n 1, 1) := by decide +kernel
theorem dX8_feed_5 : decode cX8_feed 5 = .ok (.sipush 255, 3) := by decide +kernel
theorem dX8_feed_8 : decode cX8_feed 8 = .ok (.if_icmp .le 6, 3) := by decide +kernel
theorem dX8_feed_11 : decode cX8_feed 11 = .ok (.bipush (-2), 2) := by decide +kernel
theorem dX8_feed_13 : decode cX8_feed 13 = .ok (.ireturn, 1) := by decide +kernel
theorem dX8_feed_14 : decode cX8_feed 14 = .ok (.aload_n 0, 1) := by decide +kernel
theorem dX8_feed_15 : decode cX8_feed 15 = .ok (.getfield 26, 3) := by decide +kernel
theorem dX8_feed_18 : decode cX8_feed 18 = .ok (.iload_n 1, 1) := by decide +kernel
theorem dX8_feed_19 : decode cX8_feed 19 = .ok (.invokevirtual 83, 3) := by decide +kernel
theorem dX8_feed_22 : decode cX8_feed 22 = .ok (.ifCond .eq 13, 3) := by decide +kernel
theorem dX8_feed_25 : decode cX8_feed 25 = .ok (.aload_n 0, 1) := by decide +kernel
theorem dX8_feed_26 : decode cX8_feed 26 = .ok (.getfield 26, 3) := by decide +kernel
theorem dX8_feed_29 : decode cX8_feed 29 = .ok (.getfield 149, 3) := by decide +kernel
theorem dX8_feed_32 : decode cX8_feed 32 = .ok (.goto 5, 3) := by decide +kernel
theorem dX8_feed_35 : decode cX8_feed 35 = .ok (.bipush (-4), 2) := by decide +kernel
theorem dX8_feed_37 : decode cX8_feed 37 = .ok (.ireturn, 1) := by decide +kernel
theorem dX8_text_0 : decode cX8_text 0 = .ok (.aload_n 0, 1) := by decide +kernel
theorem dX8_text_1 : decode cX8_text 1 = .ok (.getfield 35, 3) := by decide +kernel
theorem dX8_text_4 : decode cX8_text 4 = .ok (.getfield 152, 3) := by decide +kernel
theorem dX8_text_7 : decode cX8_text 7 = .ok (.bipush 6, 2) := by decide +kernel
theorem dX8_text_9 : decode cX8_text 9 = .ok (.if_icmp .lt 6, 3) := by decide +kernel
theorem dX8_text_12 : decode cX8_text 12 = .ok (.bipush (-4), 2) := by decide +kernel
theorem dX8_text_14 : decode cX8_text 14 = .ok (.ireturn, 1) := by decide +kernel
theorem dX8_text_15 : decode cX8_text 15 = .ok (.aload_n 0, 1) := by decide +kernel
theorem dX8_text_16 : decode cX8_text 16 = .ok (.getfield 26, 3) := by decide +kernel
theorem dX8_text_19 : decode cX8_text 19 = .ok (.invokevirtual 87, 3) := by decide +kernel
theorem dX8_text_22 : decode cX8_text 22 = .ok (.aload_n 0, 1) := by decide +kernel
theorem dX8_text_23 : decode cX8_text 23 = .ok (.getfield 26, 3) := by decide +kernel
theorem dX8_text_26 : decode cX8_text 26 = .ok (.getfield 153, 3) := by decide +kernel
theorem dX8_text_29 : decode cX8_text 29 = .ok (.iconst (-1), 1) := by decide +kernel
theorem dX8_text_30 : decode cX8_text 30 = .ok (.if_icmp .ne 17, 3) := by decide +kernel
theorem dX8_text_33 : decode cX8_text 33 = .ok (.aload_n 0, 1) := by decide +kernel
theorem dX8_text_34 : decode cX8_text 34 = .ok (.getfield 35, 3) := by decide +kernel
theorem dX8_text_37 : decode cX8_text 37 = .ok (.aload_n 0, 1) := by decide +kernel
theorem dX8_text_38 : decode cX8_text 38 = .ok (.getfield 26, 3) := by decide +kernel
theorem dX8_text_41 : decode cX8_text 41 = .ok (.invokevirtual 90, 3) := by decide +kernel
theorem dX8_text_44 : decode cX8_text 44 = .ok (.goto 13, 3) := by decide +kernel
theorem dX8_text_47 : decode cX8_text 47 = .ok (.bipush (-100), 2) := by decide +kernel
theorem dX8_text_49 : decode cX8_text 49 = .ok (.aload_n 0, 1) := by decide +kernel
theorem dX8_text_50 : decode cX8_text 50 = .ok (.getfield 26, 3) := by decide +kernel
theorem dX8_text_53 : decode cX8_text 53 = .ok (.getfield 153, 3) := by decide +kernel
theorem dX8_text_56 : decode cX8_text 56 = .ok (.isub, 1) := by decide +kernel
theorem dX8_text_57 : decode cX8_text 57 = .ok (.istore_n 1, 1) := by decide +kernel
theorem dX8_text_58 : decode cX8_text 58 = .ok (.aload_n 0, 1) := by decide +kernel
theorem dX8_text_59 : decode cX8_text 59 = .ok (.getfield 26, 3) := by decide +kernel
theorem dX8_text_62 : decode cX8_text 62 = .ok (.invokevirtual 94, 3) := by decide +kernel
theorem dX8_text_65 : decode cX8_text 65 = .ok (.iload_n 1, 1) := by decide +kernel
theorem dX8_text_66 : decode cX8_text 66 = .ok (.ireturn, 1) := by decide +kernel
theorem dX8_force_0 : decode cX8_force 0 = .ok (.iload_n 1, 1) := by decide +kernel
theorem dX8_force_1 : decode cX8_force 1 = .ok (.ifCond .lt 14, 3) := by decide +kernel
theorem dX8_force_4 : decode cX8_force 4 = .ok (.iload_n 1, 1) := by decide +kernel
theorem dX8_force_5 : decode cX8_force 5 = .ok (.aload_n 0, 1) := by decide +kernel
theorem dX8_force_6 : decode cX8_force 6 = .ok (.getfield 35, 3) := by decide +kernel
theorem dX8_force_9 : decode cX8_force 9 = .ok (.getfield 152, 3) := by decide +kernel
theorem dX8_force_12 : decode cX8_force 12 = .ok (.if_icmp .lt 6, 3) := by decide +kernel
theorem dX8_force_15 : decode cX8_force 15 = .ok (.bipush (-2), 2) := by decide +kernel
theorem dX8_force_17 : decode cX8_force 17 = .ok (.ireturn, 1) := by decide +kernel
theorem dX8_force_18 : decode cX8_force 18 = .ok (.aload_n 0, 1) := by decide +kernel
theorem dX8_force_19 : decode cX8_force 19 = .ok (.getfield 35, 3) := by decide +kernel
theorem dX8_force_22 : decode cX8_force 22 = .ok (.getfield 156, 3) := by decide +kernel
theorem dX8_force_25 : decode cX8_force 25 = .ok (.istore_n 2, 1) := by decide +kernel
theorem dX8_force_26 : decode cX8_force 26 = .ok (.aload_n 0, 1) := by decide +kernel
theorem dX8_force_27 : decode cX8_force 27 = .ok (.getfield 35, 3) := by decide +kernel
theorem dX8_force_30 : decode cX8_force 30 = .ok (.iload_n 1, 1) := by decide +kernel
theorem dX8_force_31 : decode cX8_force 31 = .ok (.putfield 156, 3) := by decide +kernel
theorem dX8_force_34 : decode cX8_force 34 = .ok (.iload_n 2, 1) := by decide +kernel
theorem dX8_force_35 : decode cX8_force 35 = .ok (.ireturn, 1) := by decide +kernel
theorem dX8_turn_0 : decode cX8_turn 0 = .ok (.aload_n 0, 1) := by decide +kernel
theorem dX8_turn_1 : decode cX8_turn 1 = .ok (.getfield 44, 3) := by decide +kernel
theorem dX8_turn_4 : decode cX8_turn 4 = .ok (.iconst (-1), 1) := by decide +kernel
theorem dX8_turn_5 : decode cX8_turn 5 = .ok (.iconst (-1), 1) := by decide +kernel
theorem dX8_turn_6 : decode cX8_turn 6 = .ok (.invokevirtual 159, 3) := by decide +kernel
theorem dX8_turn_9 : decode cX8_turn 9 = .ok (.ireturn, 1) := by decide +kernel
theorem dX8_readErrand_0 : decode cX8_readErrand 0 = .ok (.aload_n 0, 1) := by decide +kernel
theorem dX8_readErrand_1 : decode cX8_readErrand 1 = .ok (.getfield 60, 3) := by decide +kernel
theorem dX8_readErrand_4 : decode cX8_readErrand 4 = .ok (.iload_n 1, 1) := by decide +kernel
theorem dX8_readErrand_5 : decode cX8_readErrand 5 = .ok (.invokevirtual 230, 3) := by decide +kernel
theorem dX8_readErrand_8 : decode cX8_readErrand 8 = .ok (.ifCond .eq 46, 3) := by decide +kernel
theorem dX8_readErrand_11 : decode cX8_readErrand 11 = .ok (.aload_n 0, 1) := by decide +kernel
theorem dX8_readErrand_12 : decode cX8_readErrand 12 = .ok (.getfield 60, 3) := by decide +kernel
theorem dX8_readErrand_15 : decode cX8_readErrand 15 = .ok (.iload_n 1, 1) := by decide +kernel
theorem dX8_readErrand_16 : decode cX8_readErrand 16 = .ok (.invokevirtual 231, 3) := by decide +kernel
theorem dX8_readErrand_19 : decode cX8_readErrand 19 = .ok (.ifCond .ne 35, 3) := by decide +kernel
theorem dX8_readErrand_22 : decode cX8_readErrand 22 = .ok (.aload_n 0, 1) := by decide +kernel
theorem dX8_readErrand_23 : decode cX8_readErrand 23 = .ok (.getfield 53, 3) := by decide +kernel
theorem dX8_readErrand_26 : decode cX8_readErrand 26 = .ok (.aload_n 0, 1) := by decide +kernel
theorem dX8_readErrand_27 : decode cX8_readErrand 27 = .ok (.getfield 60, 3) := by decide +kernel
theorem dX8_readErrand_30 : decode cX8_readErrand 30 = .ok (.getfield 237, 3) := by decide +kernel
theorem dX8_readErrand_33 : decode cX8_readErrand 33 = .ok (.iload_n 1, 1) := by decide +kernel
theorem dX8_readErrand_34 : decode cX8_readErrand 34 = .ok (.aaload, 1) := by decide +kernel
theorem dX8_readErrand_35 : decode cX8_readErrand 35 = .ok (.aload_n 0, 1) := by decide +kernel
theorem dX8_readErrand_36 : decode cX8_readErrand 36 = .ok (.getfield 60, 3) := by decide +kernel
theorem dX8_readErrand_39 : decode cX8_readErrand 39 = .ok (.getfield 234, 3) := by decide +kernel
theorem dX8_readErrand_42 : decode cX8_readErrand 42 = .ok (.iload_n 1, 1) := by decide +kernel
theorem dX8_readErrand_43 : decode cX8_readErrand 43 = .ok (.iaload, 1) := by decide +kernel
theorem dX8_readErrand_44 : decode cX8_readErrand 44 = .ok (.invokevirtual 241, 3) := by decide +kernel
theorem dX8_readErrand_47 : decode cX8_readErrand 47 = .ok (.ifCond .eq 7, 3) := by decide +kernel
theorem dX8_readErrand_50 : decode cX8_readErrand 50 = .ok (.iconst 1, 1) := by decide +kernel
theorem dX8_readErrand_51 : decode cX8_readErrand 51 = .ok (.goto 4, 3) := by decide +kernel
theorem dX8_readErrand_54 : decode cX8_readErrand 54 = .ok (.iconst 0, 1) := by decide +kernel
theorem dX8_readErrand_55 : decode cX8_readErrand 55 = .ok (.ireturn, 1) := by decide +kernel
theorem dX8_errand_0 : decode cX8_errand 0 = .ok (.iload_n 2, 1) := by decide +kernel
theorem dX8_errand_1 : decode cX8_errand 1 = .ok (.ifCond .lt 16, 3) := by decide +kernel
theorem dX8_errand_4 : decode cX8_errand 4 = .ok (.iload_n 2, 1) := by decide +kernel
theorem dX8_errand_5 : decode cX8_errand 5 = .ok (.iconst 3, 1) := by decide +kernel
theorem dX8_errand_6 : decode cX8_errand 6 = .ok (.if_icmp .gt 11, 3) := by decide +kernel
theorem dX8_errand_9 : decode cX8_errand 9 = .ok (.aload_n 0, 1) := by decide +kernel
theorem dX8_errand_10 : decode cX8_errand 10 = .ok (.iload_n 1, 1) := by decide +kernel
theorem dX8_errand_11 : decode cX8_errand 11 = .ok (.invokevirtual 162, 3) := by decide +kernel
theorem dX8_errand_14 : decode cX8_errand 14 = .ok (.ifCond .ne 6, 3) := by decide +kernel
theorem dX8_errand_17 : decode cX8_errand 17 = .ok (.ldc 165, 2) := by decide +kernel
theorem dX8_errand_19 : decode cX8_errand 19 = .ok (.ireturn, 1) := by decide +kernel
theorem dX8_errand_20 : decode cX8_errand 20 = .ok (.aload_n 0, 1) := by decide +kernel
theorem dX8_errand_21 : decode cX8_errand 21 = .ok (.getfield 53, 3) := by decide +kernel
theorem dX8_errand_24 : decode cX8_errand 24 = .ok (.invokevirtual 166, 3) := by decide +kernel
theorem dX8_errand_27 : decode cX8_errand 27 = .ok (.aload_n 0, 1) := by decide +kernel
theorem dX8_errand_28 : decode cX8_errand 28 = .ok (.getfield 53, 3) := by decide +kernel
theorem dX8_errand_31 : decode cX8_errand 31 = .ok (.iconst (-1), 1) := by decide +kernel
theorem dX8_errand_32 : decode cX8_errand 32 = .ok (.invokevirtual 169, 3) := by decide +kernel
theorem dX8_errand_35 : decode cX8_errand 35 = .ok (.istore_n 3, 1) := by decide +kernel
theorem dX8_errand_36 : decode cX8_errand 36 = .ok (.iload_n 2, 1) := by decide +kernel
theorem dX8_errand_37 : decode cX8_errand 37 = .ok (.tableswitch 46 0 2 #[27, 29, 38], 27) := by decide +kernel
theorem dX8_errand_64 : decode cX8_errand 64 = .ok (.iload_n 3, 1) := by decide +kernel
theorem dX8_errand_65 : decode cX8_errand 65 = .ok (.ireturn, 1) := by decide +kernel
theorem dX8_errand_66 : decode cX8_errand 66 = .ok (.aload_n 0, 1) := by decide +kernel
theorem dX8_errand_67 : decode cX8_errand 67 = .ok (.getfield 53, 3) := by decide +kernel
theorem dX8_errand_70 : decode cX8_errand 70 = .ok (.iload_n 3, 1) := by decide +kernel
theorem dX8_errand_71 : decode cX8_errand 71 = .ok (.invokevirtual 172, 3) := by decide +kernel
theorem dX8_errand_74 : decode cX8_errand 74 = .ok (.ireturn, 1) := by decide +kernel
theorem dX8_errand_75 : decode cX8_errand 75 = .ok (.aload_n 0, 1) := by decide +kernel
theorem dX8_errand_76 : decode cX8_errand 76 = .ok (.getfield 53, 3) := by decide +kernel
theorem dX8_errand_79 : decode cX8_errand 79 = .ok (.invokevirtual 175, 3) := by decide +kernel
theorem dX8_errand_82 : decode cX8_errand 82 = .ok (.ireturn, 1) := by decide +kernel
theorem dX8_errand_83 : decode cX8_errand 83 = .ok (.aload_n 0, 1) := by decide +kernel
theorem dX8_errand_84 : decode cX8_errand 84 = .ok (.getfield 53, 3) := by decide +kernel
theorem dX8_errand_87 : decode cX8_errand 87 = .ok (.invokevirtual 178, 3) := by decide +kernel
theorem dX8_errand_90 : decode cX8_errand 90 = .ok (.ireturn, 1) := by decide +kernel
theorem dX8_nearest_0 : decode cX8_nearest 0 = .ok (.iload_n 1, 1) := by decide +kernel
theorem dX8_nearest_1 : decode cX8_nearest 1 = .ok (.ifCond .lt 8, 3) := by decide +kernel
theorem dX8_nearest_4 : decode cX8_nearest 4 = .ok (.iload_n 1, 1) := by decide +kernel
theorem dX8_nearest_5 : decode cX8_nearest 5 = .ok (.iconst 2, 1) := by decide +kernel
theorem dX8_nearest_6 : decode cX8_nearest 6 = .ok (.if_icmp .le 6, 3) := by decide +kernel
theorem dX8_nearest_9 : decode cX8_nearest 9 = .ok (.ldc 165, 2) := by decide +kernel
theorem dX8_nearest_11 : decode cX8_nearest 11 = .ok (.ireturn, 1) := by decide +kernel
theorem dX8_nearest_12 : decode cX8_nearest 12 = .ok (.aload_n 0, 1) := by decide +kernel
theorem dX8_nearest_13 : decode cX8_nearest 13 = .ok (.getfield 53, 3) := by decide +kernel
theorem dX8_nearest_16 : decode cX8_nearest 16 = .ok (.invokevirtual 166, 3) := by decide +kernel
theorem dX8_nearest_19 : decode cX8_nearest 19 = .ok (.aload_n 0, 1) := by decide +kernel
theorem dX8_nearest_20 : decode cX8_nearest 20 = .ok (.getfield 53, 3) := by decide +kernel
theorem dX8_nearest_23 : decode cX8_nearest 23 = .ok (.invokevirtual 181, 3) := by decide +kernel
theorem dX8_nearest_26 : decode cX8_nearest 26 = .ok (.iload_n 1, 1) := by decide +kernel
theorem dX8_nearest_27 : decode cX8_nearest 27 = .ok (.lookupswitch 42 #[(0, 25), (1, 33)], 25) := by decide +kernel
theorem dX8_nearest_52 : decode cX8_nearest 52 = .ok (.aload_n 0, 1) := by decide +kernel
theorem dX8_nearest_53 : decode cX8_nearest 53 = .ok (.getfield 53, 3) := by decide +kernel
theorem dX8_nearest_56 : decode cX8_nearest 56 = .ok (.invokevirtual 184, 3) := by decide +kernel
theorem dX8_nearest_59 : decode cX8_nearest 59 = .ok (.ireturn, 1) := by decide +kernel
theorem dX8_nearest_60 : decode cX8_nearest 60 = .ok (.aload_n 0, 1) := by decide +kernel
theorem dX8_nearest_61 : decode cX8_nearest 61 = .ok (.getfield 53, 3) := by decide +kernel
theorem dX8_nearest_64 : decode cX8_nearest 64 = .ok (.iconst (-1), 1) := by decide +kernel
theorem dX8_nearest_65 : decode cX8_nearest 65 = .ok (.invokevirtual 169, 3) := by decide +kernel
theorem dX8_nearest_68 : decode cX8_nearest 68 = .ok (.ireturn, 1) := by decide +kernel
theorem dX8_nearest_69 : decode cX8_nearest 69 = .ok (.aload_n 0, 1) := by decide +kernel
theorem dX8_nearest_70 : decode cX8_nearest 70 = .ok (.getfield 53, 3) := by decide +kernel
theorem dX8_nearest_73 : decode cX8_nearest 73 = .ok (.invokevirtual 175, 3) := by decide +kernel
theorem dX8_nearest_76 : decode cX8_nearest 76 = .ok (.ireturn, 1) := by decide +kernel
theorem dX8_best_0 : decode cX8_best 0 = .ok (.iload_n 1, 1) := by decide +kernel
theorem dX8_best_1 : decode cX8_best 1 = .ok (.ifCond .lt 8, 3) := by decide +kernel
theorem dX8_best_4 : decode cX8_best 4 = .ok (.iload_n 1, 1) := by decide +kernel
theorem dX8_best_5 : decode cX8_best 5 = .ok (.iconst 3, 1) := by decide +kernel
theorem dX8_best_6 : decode cX8_best 6 = .ok (.if_icmp .le 6, 3) := by decide +kernel
theorem dX8_best_9 : decode cX8_best 9 = .ok (.ldc 165, 2) := by decide +kernel
theorem dX8_best_11 : decode cX8_best 11 = .ok (.ireturn, 1) := by decide +kernel
theorem dX8_best_12 : decode cX8_best 12 = .ok (.aload_n 0, 1) := by decide +kernel
theorem dX8_best_13 : decode cX8_best 13 = .ok (.getfield 19, 3) := by decide +kernel
theorem dX8_best_16 : decode cX8_best 16 = .ok (.invokevirtual 187, 3) := by decide +kernel
theorem dX8_best_19 : decode cX8_best 19 = .ok (.istore_n 2, 1) := by decide +kernel
theorem dX8_best_20 : decode cX8_best 20 = .ok (.aload_n 0, 1) := by decide +kernel
theorem dX8_best_21 : decode cX8_best 21 = .ok (.getfield 53, 3) := by decide +kernel
theorem dX8_best_24 : decode cX8_best 24 = .ok (.iload_n 2, 1) := by decide +kernel
theorem dX8_best_25 : decode cX8_best 25 = .ok (.invokevirtual 190, 3) := by decide +kernel
theorem dX8_best_28 : decode cX8_best 28 = .ok (.aload_n 0, 1) := by decide +kernel
theorem dX8_best_29 : decode cX8_best 29 = .ok (.getfield 53, 3) := by decide +kernel
theorem dX8_best_32 : decode cX8_best 32 = .ok (.iload_n 2, 1) := by decide +kernel
theorem dX8_best_33 : decode cX8_best 33 = .ok (.invokevirtual 194, 3) := by decide +kernel
theorem dX8_best_36 : decode cX8_best 36 = .ok (.istore_n 3, 1) := by decide +kernel
theorem dX8_best_37 : decode cX8_best 37 = .ok (.iload_n 1, 1) := by decide +kernel
theorem dX8_best_38 : decode cX8_best 38 = .ok (.tableswitch 56 0 2 #[26, 36, 46], 26) := by decide +kernel
theorem dX8_best_64 : decode cX8_best 64 = .ok (.aload_n 0, 1) := by decide +kernel
theorem dX8_best_65 : decode cX8_best 65 = .ok (.getfield 53, 3) := by decide +kernel
theorem dX8_best_68 : decode cX8_best 68 = .ok (.getfield 197, 3) := by decide +kernel
theorem dX8_best_71 : decode cX8_best 71 = .ok (.iload_n 3, 1) := by decide +kernel
theorem dX8_best_72 : decode cX8_best 72 = .ok (.iaload, 1) := by decide +kernel
theorem dX8_best_73 : decode cX8_best 73 = .ok (.ireturn, 1) := by decide +kernel
theorem dX8_best_74 : decode cX8_best 74 = .ok (.aload_n 0, 1) := by decide +kernel
theorem dX8_best_75 : decode cX8_best 75 = .ok (.getfield 53, 3) := by decide +kernel
theorem dX8_best_78 : decode cX8_best 78 = .ok (.getfield 200, 3) := by decide +kernel
theorem dX8_best_81 : decode cX8_best 81 = .ok (.iload_n 3, 1) := by decide +kernel
theorem dX8_best_82 : decode cX8_best 82 = .ok (.iaload, 1) := by decide +kernel
theorem dX8_best_83 : decode cX8_best 83 = .ok (.ireturn, 1) := by decide +kernel
theorem dX8_best_84 : decode cX8_best 84 = .ok (.aload_n 0, 1) := by decide +kernel
theorem dX8_best_85 : decode cX8_best 85 = .ok (.getfield 53, 3) := by decide +kernel
theorem dX8_best_88 : decode cX8_best 88 = .ok (.getfield 203, 3) := by decide +kernel
theorem dX8_best_91 : decode cX8_best 91 = .ok (.iload_n 3, 1) := by decide +kernel
theorem dX8_best_92 : decode cX8_best 92 = .ok (.iaload, 1) := by decide +kernel
theorem dX8_best_93 : decode cX8_best 93 = .ok (.ireturn, 1) := by decide +kernel
theorem dX8_best_94 : decode cX8_best 94 = .ok (.aload_n 0, 1) := by decide +kernel
theorem dX8_best_95 : decode cX8_best 95 = .ok (.getfield 53, 3) := by decide +kernel
theorem dX8_best_98 : decode cX8_best 98 = .ok (.aload_n 0, 1) := by decide +kernel
theorem dX8_best_99 : decode cX8_best 99 = .ok (.getfield 53, 3) := by decide +kernel
theorem dX8_best_102 : decode cX8_best 102 = .ok (.getfield 200, 3) := by decide +kernel
theorem dX8_best_105 : decode cX8_best 105 = .ok (.iload_n 3, 1) := by decide +kernel
theorem dX8_best_106 : decode cX8_best 106 = .ok (.iaload, 1) := by decide +kernel
theorem dX8_best_107 : decode cX8_best 107 = .ok (.invokevirtual 172, 3) := by decide +kernel
theorem dX8_best_110 : decode cX8_best 110 = .ok (.ireturn, 1) := by decide +kernel
theorem dX8_latest_0 : decode cX8_latest 0 = .ok (.aload_n 0, 1) := by decide +kernel
theorem dX8_latest_1 : decode cX8_latest 1 = .ok (.getfield 19, 3) := by decide +kernel
theorem dX8_latest_4 : decode cX8_latest 4 = .ok (.iload_n 1, 1) := by decide +kernel
theorem dX8_latest_5 : decode cX8_latest 5 = .ok (.invokevirtual 122, 3) := by decide +kernel
theorem dX8_latest_8 : decode cX8_latest 8 = .ok (.ifCond .eq 13, 3) := by decide +kernel
theorem dX8_latest_11 : decode cX8_latest 11 = .ok (.iload_n 2, 1) := by decide +kernel
theorem dX8_latest_12 : decode cX8_latest 12 = .ok (.ifCond .lt 9, 3) := by decide +kernel
theorem dX8_latest_15 : decode cX8_latest 15 = .ok (.iload_n 2, 1) := by decide +kernel
theorem dX8_latest_16 : decode cX8_latest 16 = .ok (.bipush 6, 2) := by decide +kernel
theorem dX8_latest_18 : decode cX8_latest 18 = .ok (.if_icmp .le 6, 3) := by decide +kernel
theorem dX8_latest_21 : decode cX8_latest 21 = .ok (.bipush (-2), 2) := by decide +kernel
theorem dX8_latest_23 : decode cX8_latest 23 = .ok (.ireturn, 1) := by decide +kernel
theorem dX8_latest_24 : decode cX8_latest 24 = .ok (.aload_n 0, 1) := by decide +kernel
theorem dX8_latest_25 : decode cX8_latest 25 = .ok (.getfield 44, 3) := by decide +kernel
theorem dX8_latest_28 : decode cX8_latest 28 = .ok (.iconst (-1), 1) := by decide +kernel
theorem dX8_latest_29 : decode cX8_latest 29 = .ok (.iconst (-1), 1) := by decide +kernel
theorem dX8_latest_30 : decode cX8_latest 30 = .ok (.invokevirtual 159, 3) := by decide +kernel
theorem dX8_latest_33 : decode cX8_latest 33 = .ok (.aload_n 0, 1) := by decide +kernel
theorem dX8_latest_34 : decode cX8_latest 34 = .ok (.getfield 19, 3) := by decide +kernel
theorem dX8_latest_37 : decode cX8_latest 37 = .ok (.iload_n 1, 1) := by decide +kernel
theorem dX8_latest_38 : decode cX8_latest 38 = .ok (.iconst (-1), 1) := by decide +kernel
theorem dX8_latest_39 : decode cX8_latest 39 = .ok (.invokevirtual 206, 3) := by decide +kernel
theorem dX8_latest_42 : decode cX8_latest 42 = .ok (.aload_n 0, 1) := by decide +kernel
theorem dX8_latest_43 : decode cX8_latest 43 = .ok (.getfield 44, 3) := by decide +kernel
theorem dX8_latest_46 : decode cX8_latest 46 = .ok (.iload_n 2, 1) := by decide +kernel
theorem dX8_latest_47 : decode cX8_latest 47 = .ok (.invokevirtual 209, 3) := by decide +kernel
theorem dX8_latest_50 : decode cX8_latest 50 = .ok (.imul, 1) := by decide +kernel
theorem dX8_latest_51 : decode cX8_latest 51 = .ok (.isub, 1) := by decide +kernel
theorem dX8_latest_52 : decode cX8_latest 52 = .ok (.istore_n 3, 1) := by decide +kernel
theorem dX8_latest_53 : decode cX8_latest 53 = .ok (.iload_n 3, 1) := by decide +kernel
theorem dX8_latest_54 : decode cX8_latest 54 = .ok (.ifCond .ge 7, 3) := by decide +kernel
theorem dX8_latest_57 : decode cX8_latest 57 = .ok (.iconst (-1), 1) := by decide +kernel
theorem dX8_latest_58 : decode cX8_latest 58 = .ok (.goto 4, 3) := by decide +kernel
theorem dX8_latest_61 : decode cX8_latest 61 = .ok (.iload_n 3, 1) := by decide +kernel
theorem dX8_latest_62 : decode cX8_latest 62 = .ok (.ireturn, 1) := by decide +kernel
theorem dX8_leave_0 : decode cX8_leave 0 = .ok (.aload_n 0, 1) := by decide +kernel
theorem dX8_leave_1 : decode cX8_leave 1 = .ok (.getfield 19, 3) := by decide +kernel
theorem dX8_leave_4 : decode cX8_leave 4 = .ok (.invokevirtual 187, 3) := by decide +kernel
theorem dX8_leave_7 : decode cX8_leave 7 = .ok (.istore_n 1, 1) := by decide +kernel
theorem dX8_leave_8 : decode cX8_leave 8 = .ok (.aload_n 0, 1) := by decide +kernel
theorem dX8_leave_9 : decode cX8_leave 9 = .ok (.getfield 53, 3) := by decide +kernel
theorem dX8_leave_12 : decode cX8_leave 12 = .ok (.iload_n 1, 1) := by decide +kernel
theorem dX8_leave_13 : decode cX8_leave 13 = .ok (.invokevirtual 190, 3) := by decide +kernel
theorem dX8_leave_16 : decode cX8_leave 16 = .ok (.aload_n 0, 1) := by decide +kernel
theorem dX8_leave_17 : decode cX8_leave 17 = .ok (.getfield 53, 3) := by decide +kernel
theorem dX8_leave_20 : decode cX8_leave 20 = .ok (.aload_n 0, 1) := by decide +kernel
theorem dX8_leave_21 : decode cX8_leave 21 = .ok (.getfield 53, 3) := by decide +kernel
theorem dX8_leave_24 : decode cX8_leave 24 = .ok (.getfield 197, 3) := by decide +kernel
theorem dX8_leave_27 : decode cX8_leave 27 = .ok (.aload_n 0, 1) := by decide +kernel
theorem dX8_leave_28 : decode cX8_leave 28 = .ok (.getfield 53, 3) := by decide +kernel
theorem dX8_leave_31 : decode cX8_leave 31 = .ok (.iload_n 1, 1) := by decide +kernel
theorem dX8_leave_32 : decode cX8_leave 32 = .ok (.invokevirtual 194, 3) := by decide +kernel
theorem dX8_leave_35 : decode cX8_leave 35 = .ok (.iaload, 1) := by decide +kernel
theorem dX8_leave_36 : decode cX8_leave 36 = .ok (.invokevirtual 212, 3) := by decide +kernel
theorem dX8_leave_39 : decode cX8_leave 39 = .ok (.iconst (-1), 1) := by decide +kernel
theorem dX8_leave_40 : decode cX8_leave 40 = .ok (.istore_n 2, 1) := by decide +kernel
theorem dX8_leave_41 : decode cX8_leave 41 = .ok (.iconst 0, 1) := by decide +kernel
theorem dX8_leave_42 : decode cX8_leave 42 = .ok (.istore_n 3, 1) := by decide +kernel
theorem dX8_leave_43 : decode cX8_leave 43 = .ok (.iconst 0, 1) := by decide +kernel
theorem dX8_leave_44 : decode cX8_leave 44 = .ok (.istore 4, 2) := by decide +kernel
theorem dX8_leave_46 : decode cX8_leave 46 = .ok (.iload 4, 2) := by decide +kernel
theorem dX8_leave_48 : decode cX8_leave 48 = .ok (.aload_n 0, 1) := by decide +kernel
theorem dX8_leave_49 : decode cX8_leave 49 = .ok (.getfield 53, 3) := by decide +kernel
theorem dX8_leave_52 : decode cX8_leave 52 = .ok (.getfield 215, 3) := by decide +kernel
theorem dX8_leave_55 : decode cX8_leave 55 = .ok (.if_icmp .ge 45, 3) := by decide +kernel
theorem dX8_leave_58 : decode cX8_leave 58 = .ok (.aload_n 0, 1) := by decide +kernel
theorem dX8_leave_59 : decode cX8_leave 59 = .ok (.getfield 53, 3) := by decide +kernel
theorem dX8_leave_62 : decode cX8_leave 62 = .ok (.iload 4, 2) := by decide +kernel
theorem dX8_leave_64 : decode cX8_leave 64 = .ok (.invokevirtual 169, 3) := by decide +kernel
theorem dX8_leave_67 : decode cX8_leave 67 = .ok (.istore 5, 2) := by decide +kernel
theorem dX8_leave_69 : decode cX8_leave 69 = .ok (.iload_n 2, 1) := by decide +kernel
theorem dX8_leave_70 : decode cX8_leave 70 = .ok (.iconst (-1), 1) := by decide +kernel
theorem dX8_leave_71 : decode cX8_leave 71 = .ok (.if_icmp .eq 9, 3) := by decide +kernel
theorem dX8_leave_74 : decode cX8_leave 74 = .ok (.iload 5, 2) := by decide +kernel
theorem dX8_leave_76 : decode cX8_leave 76 = .ok (.iload_n 3, 1) := by decide +kernel
theorem dX8_leave_77 : decode cX8_leave 77 = .ok (.if_icmp .ge 17, 3) := by decide +kernel
theorem dX8_leave_80 : decode cX8_leave 80 = .ok (.aload_n 0, 1) := by decide +kernel
theorem dX8_leave_81 : decode cX8_leave 81 = .ok (.getfield 53, 3) := by decide +kernel
theorem dX8_leave_84 : decode cX8_leave 84 = .ok (.getfield 217, 3) := by decide +kernel
theorem dX8_leave_87 : decode cX8_leave 87 = .ok (.iload 4, 2) := by decide +kernel
theorem dX8_leave_89 : decode cX8_leave 89 = .ok (.iaload, 1) := by decide +kernel
theorem dX8_leave_90 : decode cX8_leave 90 = .ok (.istore_n 2, 1) := by decide +kernel
theorem dX8_leave_91 : decode cX8_leave 91 = .ok (.iload 5, 2) := by decide +kernel
theorem dX8_leave_93 : decode cX8_leave 93 = .ok (.istore_n 3, 1) := by decide +kernel
theorem dX8_leave_94 : decode cX8_leave 94 = .ok (.iinc 4 1, 3) := by decide +kernel
theorem dX8_leave_97 : decode cX8_leave 97 = .ok (.goto (-51), 3) := by decide +kernel
theorem dX8_leave_100 : decode cX8_leave 100 = .ok (.iload_n 2, 1) := by decide +kernel
theorem dX8_leave_101 : decode cX8_leave 101 = .ok (.ireturn, 1) := by decide +kernel
theorem dX8_more_0 : decode cX8_more 0 = .ok (.aload_n 0, 1) := by decide +kernel
theorem dX8_more_1 : decode cX8_more 1 = .ok (.getfield 19, 3) := by decide +kernel
theorem dX8_more_4 : decode cX8_more 4 = .ok (.iload_n 1, 1) := by decide +kernel
theorem dX8_more_5 : decode cX8_more 5 = .ok (.invokevirtual 122, 3) := by decide +kernel
theorem dX8_more_8 : decode cX8_more 8 = .ok (.ifCond .ne 6, 3) := by decide +kernel
theorem dX8_more_11 : decode cX8_more 11 = .ok (.ldc 165, 2) := by decide +kernel
theorem dX8_more_13 : decode cX8_more 13 = .ok (.ireturn, 1) := by decide +kernel
theorem dX8_more_14 : decode cX8_more 14 = .ok (.aload_n 0, 1) := by decide +kernel
theorem dX8_more_15 : decode cX8_more 15 = .ok (.getfield 19, 3) := by decide +kernel
theorem dX8_more_18 : decode cX8_more 18 = .ok (.invokevirtual 187, 3) := by decide +kernel
theorem dX8_more_21 : decode cX8_more 21 = .ok (.istore_n 2, 1) := by decide +kernel
theorem dX8_more_22 : decode cX8_more 22 = .ok (.aload_n 0, 1) := by decide +kernel
theorem dX8_more_23 : decode cX8_more 23 = .ok (.getfield 53, 3) := by decide +kernel
theorem dX8_more_26 : decode cX8_more 26 = .ok (.iload_n 2, 1) := by decide +kernel
theorem dX8_more_27 : decode cX8_more 27 = .ok (.invokevirtual 190, 3) := by decide +kernel
theorem dX8_more_30 : decode cX8_more 30 = .ok (.aload_n 0, 1) := by decide +kernel
theorem dX8_more_31 : decode cX8_more 31 = .ok (.getfield 53, 3) := by decide +kernel
theorem dX8_more_34 : decode cX8_more 34 = .ok (.iload_n 2, 1) := by decide +kernel
theorem dX8_more_35 : decode cX8_more 35 = .ok (.invokevirtual 220, 3) := by decide +kernel
theorem dX8_more_38 : decode cX8_more 38 = .ok (.aload_n 0, 1) := by decide +kernel
theorem dX8_more_39 : decode cX8_more 39 = .ok (.getfield 53, 3) := by decide +kernel
theorem dX8_more_42 : decode cX8_more 42 = .ok (.iload_n 2, 1) := by decide +kernel
theorem dX8_more_43 : decode cX8_more 43 = .ok (.iconst 1, 1) := by decide +kernel
theorem dX8_more_44 : decode cX8_more 44 = .ok (.iload_n 1, 1) := by decide +kernel
theorem dX8_more_45 : decode cX8_more 45 = .ok (.ishl, 1) := by decide +kernel
theorem dX8_more_46 : decode cX8_more 46 = .ok (.iconst (-1), 1) := by decide +kernel
theorem dX8_more_47 : decode cX8_more 47 = .ok (.ixor, 1) := by decide +kernel
theorem dX8_more_48 : decode cX8_more 48 = .ok (.iand, 1) := by decide +kernel
theorem dX8_more_49 : decode cX8_more 49 = .ok (.invokevirtual 220, 3) := by decide +kernel
theorem dX8_more_52 : decode cX8_more 52 = .ok (.isub, 1) := by decide +kernel
theorem dX8_more_53 : decode cX8_more 53 = .ok (.ireturn, 1) := by decide +kernel
theorem dX8_stand_0 : decode cX8_stand 0 = .ok (.iload_n 1, 1) := by decide +kernel
theorem dX8_stand_1 : decode cX8_stand 1 = .ok (.ifCond .lt 8, 3) := by decide +kernel
theorem dX8_stand_4 : decode cX8_stand 4 = .ok (.iload_n 1, 1) := by decide +kernel
theorem dX8_stand_5 : decode cX8_stand 5 = .ok (.iconst 1, 1) := by decide +kernel
theorem dX8_stand_6 : decode cX8_stand 6 = .ok (.if_icmp .le 6, 3) := by decide +kernel
theorem dX8_stand_9 : decode cX8_stand 9 = .ok (.ldc 165, 2) := by decide +kernel
theorem dX8_stand_11 : decode cX8_stand 11 = .ok (.ireturn, 1) := by decide +kernel
theorem dX8_stand_12 : decode cX8_stand 12 = .ok (.aload_n 0, 1) := by decide +kernel
theorem dX8_stand_13 : decode cX8_stand 13 = .ok (.getfield 19, 3) := by decide +kernel
theorem dX8_stand_16 : decode cX8_stand 16 = .ok (.invokevirtual 187, 3) := by decide +kernel
theorem dX8_stand_19 : decode cX8_stand 19 = .ok (.istore_n 2, 1) := by decide +kernel
theorem dX8_stand_20 : decode cX8_stand 20 = .ok (.aload_n 0, 1) := by decide +kernel
theorem dX8_stand_21 : decode cX8_stand 21 = .ok (.getfield 10, 3) := by decide +kernel
theorem dX8_stand_24 : decode cX8_stand 24 = .ok (.getfield 223, 3) := by decide +kernel
theorem dX8_stand_27 : decode cX8_stand 27 = .ok (.istore_n 3, 1) := by decide +kernel
theorem dX8_stand_28 : decode cX8_stand 28 = .ok (.iconst 0, 1) := by decide +kernel
theorem dX8_stand_29 : decode cX8_stand 29 = .ok (.istore 4, 2) := by decide +kernel
theorem dX8_stand_31 : decode cX8_stand 31 = .ok (.iconst 0, 1) := by decide +kernel
theorem dX8_stand_32 : decode cX8_stand 32 = .ok (.istore 5, 2) := by decide +kernel
theorem dX8_stand_34 : decode cX8_stand 34 = .ok (.iconst 0, 1) := by decide +kernel
theorem dX8_stand_35 : decode cX8_stand 35 = .ok (.istore 6, 2) := by decide +kernel
theorem dX8_stand_37 : decode cX8_stand 37 = .ok (.iload 6, 2) := by decide +kernel
theorem dX8_stand_39 : decode cX8_stand 39 = .ok (.aload_n 0, 1) := by decide +kernel
theorem dX8_stand_40 : decode cX8_stand 40 = .ok (.getfield 10, 3) := by decide +kernel
theorem dX8_stand_43 : decode cX8_stand 43 = .ok (.getfield 142, 3) := by decide +kernel
theorem dX8_stand_46 : decode cX8_stand 46 = .ok (.if_icmp .gt 56, 3) := by decide +kernel
theorem dX8_stand_49 : decode cX8_stand 49 = .ok (.aload_n 0, 1) := by decide +kernel
theorem dX8_stand_50 : decode cX8_stand 50 = .ok (.getfield 10, 3) := by decide +kernel
theorem dX8_stand_53 : decode cX8_stand 53 = .ok (.iload 6, 2) := by decide +kernel
theorem dX8_stand_55 : decode cX8_stand 55 = .ok (.putfield 223, 3) := by decide +kernel
theorem dX8_stand_58 : decode cX8_stand 58 = .ok (.aload_n 0, 1) := by decide +kernel
theorem dX8_stand_59 : decode cX8_stand 59 = .ok (.getfield 53, 3) := by decide +kernel
theorem dX8_stand_62 : decode cX8_stand 62 = .ok (.iload_n 2, 1) := by decide +kernel
theorem dX8_stand_63 : decode cX8_stand 63 = .ok (.invokevirtual 190, 3) := by decide +kernel
theorem dX8_stand_66 : decode cX8_stand 66 = .ok (.aload_n 0, 1) := by decide +kernel
theorem dX8_stand_67 : decode cX8_stand 67 = .ok (.getfield 53, 3) := by decide +kernel
theorem dX8_stand_70 : decode cX8_stand 70 = .ok (.iload_n 2, 1) := by decide +kernel
theorem dX8_stand_71 : decode cX8_stand 71 = .ok (.invokevirtual 220, 3) := by decide +kernel
theorem dX8_stand_74 : decode cX8_stand 74 = .ok (.istore 7, 2) := by decide +kernel
theorem dX8_stand_76 : decode cX8_stand 76 = .ok (.iload 6, 2) := by decide +kernel
theorem dX8_stand_78 : decode cX8_stand 78 = .ok (.ifCond .eq 10, 3) := by decide +kernel
theorem dX8_stand_81 : decode cX8_stand 81 = .ok (.iload 7, 2) := by decide +kernel
theorem dX8_stand_83 : decode cX8_stand 83 = .ok (.iload 5, 2) := by decide +kernel
theorem dX8_stand_85 : decode cX8_stand 85 = .ok (.if_icmp .le 11, 3) := by decide +kernel
theorem dX8_stand_88 : decode cX8_stand 88 = .ok (.iload 6, 2) := by decide +kernel
theorem dX8_stand_90 : decode cX8_stand 90 = .ok (.istore 4, 2) := by decide +kernel
theorem dX8_stand_92 : decode cX8_stand 92 = .ok (.iload 7, 2) := by decide +kernel
theorem dX8_stand_94 : decode cX8_stand 94 = .ok (.istore 5, 2) := by decide +kernel
theorem dX8_stand_96 : decode cX8_stand 96 = .ok (.iinc 6 1, 3) := by decide +kernel
theorem dX8_stand_99 : decode cX8_stand 99 = .ok (.goto (-62), 3) := by decide +kernel
theorem dX8_stand_102 : decode cX8_stand 102 = .ok (.aload_n 0, 1) := by decide +kernel
theorem dX8_stand_103 : decode cX8_stand 103 = .ok (.getfield 10, 3) := by decide +kernel
theorem dX8_stand_106 : decode cX8_stand 106 = .ok (.iload_n 3, 1) := by decide +kernel
theorem dX8_stand_107 : decode cX8_stand 107 = .ok (.putfield 223, 3) := by decide +kernel
theorem dX8_stand_110 : decode cX8_stand 110 = .ok (.iload_n 1, 1) := by decide +kernel
theorem dX8_stand_111 : decode cX8_stand 111 = .ok (.ifCond .ne 8, 3) := by decide +kernel
theorem dX8_stand_114 : decode cX8_stand 114 = .ok (.iload 4, 2) := by decide +kernel
theorem dX8_stand_116 : decode cX8_stand 116 = .ok (.goto 5, 3) := by decide +kernel
theorem dX8_stand_119 : decode cX8_stand 119 = .ok (.iload 5, 2) := by decide +kernel
theorem dX8_stand_121 : decode cX8_stand 121 = .ok (.ireturn, 1) := by decide +kernel
theorem dX8_change_0 : decode cX8_change 0 = .ok (.iload_n 1, 1) := by decide +kernel
theorem dX8_change_1 : decode cX8_change 1 = .ok (.ifCond .lt 8, 3) := by decide +kernel
theorem dX8_change_4 : decode cX8_change 4 = .ok (.iload_n 1, 1) := by decide +kernel
theorem dX8_change_5 : decode cX8_change 5 = .ok (.iconst 1, 1) := by decide +kernel
theorem dX8_change_6 : decode cX8_change 6 = .ok (.if_icmp .le 6, 3) := by decide +kernel
theorem dX8_change_9 : decode cX8_change 9 = .ok (.bipush (-2), 2) := by decide +kernel
theorem dX8_change_11 : decode cX8_change 11 = .ok (.ireturn, 1) := by decide +kernel
theorem dX8_change_12 : decode cX8_change 12 = .ok (.iconst (-1), 1) := by decide +kernel
theorem dX8_change_13 : decode cX8_change 13 = .ok (.istore_n 2, 1) := by decide +kernel
theorem dX8_change_14 : decode cX8_change 14 = .ok (.aload_n 0, 1) := by decide +kernel
theorem dX8_change_15 : decode cX8_change 15 = .ok (.getfield 44, 3) := by decide +kernel
theorem dX8_change_18 : decode cX8_change 18 = .ok (.iconst (-1), 1) := by decide +kernel
theorem dX8_change_19 : decode cX8_change 19 = .ok (.iconst (-1), 1) := by decide +kernel
theorem dX8_change_20 : decode cX8_change 20 = .ok (.invokevirtual 159, 3) := by decide +kernel
theorem dX8_change_23 : decode cX8_change 23 = .ok (.istore_n 3, 1) := by decide +kernel
theorem dX8_change_24 : decode cX8_change 24 = .ok (.iconst 0, 1) := by decide +kernel
theorem dX8_change_25 : decode cX8_change 25 = .ok (.istore 4, 2) := by decide +kernel
theorem dX8_change_27 : decode cX8_change 27 = .ok (.iload 4, 2) := by decide +kernel
theorem dX8_change_29 : decode cX8_change 29 = .ok (.aload_n 0, 1) := by decide +kernel
theorem dX8_change_30 : decode cX8_change 30 = .ok (.getfield 10, 3) := by decide +kernel
theorem dX8_change_33 : decode cX8_change 33 = .ok (.getfield 223, 3) := by decide +kernel
theorem dX8_change_36 : decode cX8_change 36 = .ok (.if_icmp .ge 67, 3) := by decide +kernel
theorem dX8_change_39 : decode cX8_change 39 = .ok (.aload_n 0, 1) := by decide +kernel
theorem dX8_change_40 : decode cX8_change 40 = .ok (.getfield 10, 3) := by decide +kernel
theorem dX8_change_43 : decode cX8_change 43 = .ok (.getfield 223, 3) := by decide +kernel
theorem dX8_change_46 : decode cX8_change 46 = .ok (.istore 5, 2) := by decide +kernel
theorem dX8_change_48 : decode cX8_change 48 = .ok (.iload 5, 2) := by decide +kernel
theorem dX8_change_50 : decode cX8_change 50 = .ok (.aload_n 0, 1) := by decide +kernel
theorem dX8_change_51 : decode cX8_change 51 = .ok (.getfield 10, 3) := by decide +kernel
theorem dX8_change_54 : decode cX8_change 54 = .ok (.getfield 142, 3) := by decide +kernel
theorem dX8_change_57 : decode cX8_change 57 = .ok (.if_icmp .ge 40, 3) := by decide +kernel
theorem dX8_change_60 : decode cX8_change 60 = .ok (.aload_n 0, 1) := by decide +kernel
theorem dX8_change_61 : decode cX8_change 61 = .ok (.getfield 44, 3) := by decide +kernel
theorem dX8_change_64 : decode cX8_change 64 = .ok (.iload 4, 2) := by decide +kernel
theorem dX8_change_66 : decode cX8_change 66 = .ok (.iload 5, 2) := by decide +kernel
theorem dX8_change_68 : decode cX8_change 68 = .ok (.invokevirtual 159, 3) := by decide +kernel
theorem dX8_change_71 : decode cX8_change 71 = .ok (.istore 6, 2) := by decide +kernel
theorem dX8_change_73 : decode cX8_change 73 = .ok (.iload 6, 2) := by decide +kernel
theorem dX8_change_75 : decode cX8_change 75 = .ok (.iload_n 3, 1) := by decide +kernel
theorem dX8_change_76 : decode cX8_change 76 = .ok (.if_icmp .ge 15, 3) := by decide +kernel
theorem dX8_change_79 : decode cX8_change 79 = .ok (.bipush 10, 2) := by decide +kernel
theorem dX8_change_81 : decode cX8_change 81 = .ok (.iload 4, 2) := by decide +kernel
theorem dX8_change_83 : decode cX8_change 83 = .ok (.imul, 1) := by decide +kernel
theorem dX8_change_84 : decode cX8_change 84 = .ok (.iload 5, 2) := by decide +kernel
theorem dX8_change_86 : decode cX8_change 86 = .ok (.iadd, 1) := by decide +kernel
theorem dX8_change_87 : decode cX8_change 87 = .ok (.istore_n 2, 1) := by decide +kernel
theorem dX8_change_88 : decode cX8_change 88 = .ok (.iload 6, 2) := by decide +kernel
theorem dX8_change_90 : decode cX8_change 90 = .ok (.istore_n 3, 1) := by decide +kernel
theorem dX8_change_91 : decode cX8_change 91 = .ok (.iinc 5 1, 3) := by decide +kernel
theorem dX8_change_94 : decode cX8_change 94 = .ok (.goto (-46), 3) := by decide +kernel
theorem dX8_change_97 : decode cX8_change 97 = .ok (.iinc 4 1, 3) := by decide +kernel
theorem dX8_change_100 : decode cX8_change 100 = .ok (.goto (-73), 3) := by decide +kernel
theorem dX8_change_103 : decode cX8_change 103 = .ok (.iload_n 1, 1) := by decide +kernel
theorem dX8_change_104 : decode cX8_change 104 = .ok (.ifCond .ne 7, 3) := by decide +kernel
theorem dX8_change_107 : decode cX8_change 107 = .ok (.iload_n 2, 1) := by decide +kernel
theorem dX8_change_108 : decode cX8_change 108 = .ok (.goto 4, 3) := by decide +kernel
theorem dX8_change_111 : decode cX8_change 111 = .ok (.iload_n 3, 1) := by decide +kernel
theorem dX8_change_112 : decode cX8_change 112 = .ok (.ireturn, 1) := by decide +kernel
-- KeepOurPlace.customer
def F8_customer (M : Mem) (a1 : Int32) (a2 : Int32) : Option (Int32 × Mem) :=
    Option.bind (F2_join M a1 a2) fun r1 =>
    some (r1.1, r1.2)
set_option maxRecDepth 20000 in
theorem F8_customer_ok {p : Program} {l : Launch} {e : Env} {s : State} {m : MethodId} {args : Array Value} {below : List Frame} {meth : Method} {c : Code} {G : GG} {D : Nat} {r : Int32 × Mem} (F : FrP shA G p s m args c RX8 cX8_customer 3) (hr : meth.sig.returnType = (some .int)) (hlk : meth.locks = false) (hD : 2 ≤ D) {M : Mem} {a1 : Int32} {a2 : Int32} (h : F8_customer M a1 a2 = some r) : XJ shA p l e (rmX D) s m args below meth c 0 0 G 3 (MQ below (QcX shA G ((some (.int r.1), r.2) : Option Value × Mem).1 ((some (.int r.1), r.2) : Option Value × Mem).2) args s 0 0 (AW shA G.2.1)) 0 [(0, .ref 0), (1, .int a1), (2, .int a2)] [] M := by
  unfold F8_customer at h
  refine X_aload_n F dX8_customer_0 rfl ?_
  refine X_getr F ffRX8_10 dX8_customer_1 ?_
  refine X_iload_n F dX8_customer_4 rfl ?_
  refine X_iload_n F dX8_customer_5 rfl ?_
  obtain ⟨r1, h2, h⟩ := bndS h
  refine X_callV (ci := 1) (As := [.int a1, .int a2]) (rest := []) F fkRX8_97 feX2_join fvX2_join ⟨_, _, _, rfl, rfl, rfl⟩ (F2_join_met (D := D - 1) F.2.2.2.2.2.2.2.1 (by omega) h2) rfl rfl (Nat.le_of_ble_eq_true rfl) (rm_ok (by omega) (by decide)) dX8_customer_6 ?_
  show XJ shA p l e (rmX D) s m args below meth c 0 0 G 3 (MQ below (QcX shA G ((some (.int r.1), r.2) : Option Value × Mem).1 ((some (.int r.1), r.2) : Option Value × Mem).2) args s 0 0 (AW shA G.2.1)) 9 [(0, .ref 0), (1, .int a1), (2, .int a2)] [.int r1.1] r1.2
  exact X_iret F hr hlk (retI h) dX8_customer_9
set_option maxRecDepth 20000 in
theorem F8_customer_met {l : Launch} {G : GG} {D : Nat} {r : Int32 × Mem} {M : Mem} {a1 : Int32} {a2 : Int32} (hI : Inj shA G.2.1) (hD : 2 ≤ D) (h : F8_customer M a1 a2 = some r) : MetX shA l G yX8_customer cX8_customer 3 (some .int) D [.ref 0, .int a1, .int a2] M (some (.int r.1), r.2) :=
  X_met hI (by decide +kernel) (Nat.le_of_ble_eq_true rfl) (fun p e s m args below meth c F hr hlk => F8_customer_ok F hr hlk hD h)
-- KeepOurPlace.thing
def F8_thing (M : Mem) (a1 : Int32) (a2 : Int32) : Option (Int32 × Mem) :=
    Option.bind (F6_lay M a1 a2) fun r1 =>
    some (r1.1, r1.2)
set_option maxRecDepth 20000 in
theorem F8_thing_ok {p : Program} {l : Launch} {e : Env} {s : State} {m : MethodId} {args : Array Value} {below : List Frame} {meth : Method} {c : Code} {G : GG} {D : Nat} {r : Int32 × Mem} (F : FrP shA G p s m args c RX8 cX8_thing 3) (hr : meth.sig.returnType = (some .int)) (hlk : meth.locks = false) (hD : 2 ≤ D) {M : Mem} {a1 : Int32} {a2 : Int32} (h : F8_thing M a1 a2 = some r) : XJ shA p l e (rmX D) s m args below meth c 0 0 G 3 (MQ below (QcX shA G ((some (.int r.1), r.2) : Option Value × Mem).1 ((some (.int r.1), r.2) : Option Value × Mem).2) args s 0 0 (AW shA G.2.1)) 0 [(0, .ref 0), (1, .int a1), (2, .int a2)] [] M := by
  unfold F8_thing at h
  refine X_aload_n F dX8_thing_0 rfl ?_
  refine X_getr F ffRX8_19 dX8_thing_1 ?_
  refine X_iload_n F dX8_thing_4 rfl ?_
  refine X_iload_n F dX8_thing_5 rfl ?_
  obtain ⟨r1, h2, h⟩ := bndS h
  refine X_callV (ci := 5) (As := [.int a1, .int a2]) (rest := []) F fkRX8_101 feX6_lay fvX6_lay ⟨_, _, _, rfl, rfl, rfl⟩ (F6_lay_met (D := D - 1) F.2.2.2.2.2.2.2.1 (by omega) h2) rfl rfl (Nat.le_of_ble_eq_true rfl) (rm_ok (by omega) (by decide)) dX8_thing_6 ?_
  show XJ shA p l e (rmX D) s m args below meth c 0 0 G 3 (MQ below (QcX shA G ((some (.int r.1), r.2) : Option Value × Mem).1 ((some (.int r.1), r.2) : Option Value × Mem).2) args s 0 0 (AW shA G.2.1)) 9 [(0, .ref 0), (1, .int a1), (2, .int a2)] [.int r1.1] r1.2
  exact X_iret F hr hlk (retI h) dX8_thing_9
set_option maxRecDepth 20000 in
theorem F8_thing_met {l : Launch} {G : GG} {D : Nat} {r : Int32 × Mem} {M : Mem} {a1 : Int32} {a2 : Int32} (hI : Inj shA G.2.1) (hD : 2 ≤ D) (h : F8_thing M a1 a2 = some r) : MetX shA l G yX8_thing cX8_thing 3 (some .int) D [.ref 0, .int a1, .int a2] M (some (.int r.1), r.2) :=
  X_met hI (by decide +kernel) (Nat.le_of_ble_eq_true rfl) (fun p e s m args below meth c F hr hlk => F8_thing_ok F hr hlk hD h)
-- KeepOurPlace.replace
def F8_replace (M : Mem) (a0 : Nat) (n0 : Nat) (a1 : Int32) (a2 : Int32) (a3 : Int32) : Option (Int32 × Mem) :=
    if a1 < 0 then
      some ((-2 : Int32), M)
    else
      if (Int32.ofNat n0) ≤ a1 then
        some ((-2 : Int32), M)
      else
        if a2 < 0 then
          some ((-2 : Int32), M)
        else
          if a2 ≤ a3 then
            if inb a1 n0 = true then
            some ((M a0 (Int32.toNatClampNeg a1)), (up2 M a0 (Int32.toNatClampNeg a1) a2))
            else none
          else
            some ((-2 : Int32), M)
set_option maxRecDepth 20000 in
theorem F8_replace_ok {p : Program} {l : Launch} {e : Env} {s : State} {m : MethodId} {args : Array Value} {below : List Frame} {meth : Method} {c : Code} {G : GG} {D : Nat} {r : Int32 × Mem} (F : FrP shA G p s m args c RX8 cX8_replace 5) (hr : meth.sig.returnType = (some .int)) (hlk : meth.locks = false) (hD : 1 ≤ D) {M : Mem} {a0 : Nat} {n0 : Nat} {a1 : Int32} {a2 : Int32} {a3 : Int32} (ha0 : shA[a0]? = some (.inl (0, n0))) (h : F8_replace M a0 n0 a1 a2 a3 = some r) : XJ shA p l e (rmX D) s m args below meth c 0 0 G 5 (MQ below (QcX shA G ((some (.int r.1), r.2) : Option Value × Mem).1 ((some (.int r.1), r.2) : Option Value × Mem).2) args s 0 0 (AW shA G.2.1)) 0 [(0, .ref a0), (1, .int a1), (2, .int a2), (3, .int a3)] [] M := by
  unfold F8_replace at h
  refine X_iload_n F dX8_replace_0 rfl ?_
  refine X_if_lt (tgt := 19) F dX8_replace_1 (by decide) (fun q1 => ?_) (fun q1 => ?_)
  · rw [if_pos q1] at h
    refine X_bipush F dX8_replace_19 (v := (-2 : Int32)) rfl ?_
    exact X_iret F hr hlk (retI h) dX8_replace_21
  · rw [if_neg q1] at h
    refine X_iload_n F dX8_replace_4 rfl ?_
    refine X_aload_n F dX8_replace_5 rfl ?_
    refine X_alen F ha0 rfl dX8_replace_6 ?_
    refine X_icmp_ge (tgt := 19) F dX8_replace_7 (by decide) (fun q2 => ?_) (fun q2 => ?_)
    · rw [if_pos q2] at h
      refine X_bipush F dX8_replace_19 (v := (-2 : Int32)) rfl ?_
      exact X_iret F hr hlk (retI h) dX8_replace_21
    · rw [if_neg q2] at h
      refine X_iload_n F dX8_replace_10 rfl ?_
      refine X_if_lt (tgt := 19) F dX8_replace_11 (by decide) (fun q3 => ?_) (fun q3 => ?_)
      · rw [if_pos q3] at h
        refine X_bipush F dX8_replace_19 (v := (-2 : Int32)) rfl ?_
        exact X_iret F hr hlk (retI h) dX8_replace_21
      · rw [if_neg q3] at h
        refine X_iload_n F dX8_replace_14 rfl ?_
        refine X_iload_n F dX8_replace_15 rfl ?_
        refine X_icmp_le (tgt := 22) F dX8_replace_16 (by decide) (fun q4 => ?_) (fun q4 => ?_)
        · rw [if_pos q4] at h
          refine X_aload_n F dX8_replace_22 rfl ?_
          refine X_iload_n F dX8_replace_23 rfl ?_
          obtain ⟨q5, h⟩ := ifS h
          refine X_iald (j := (Int32.toNatClampNeg a1)) (v := (M a0 (Int32.toNatClampNeg a1))) F ha0 (inbV q5) rfl rfl dX8_replace_24 ?_
          refine X_istore F dX8_replace_25 (by decide) rfl ?_
          refine X_aload_n F dX8_replace_27 rfl ?_
          refine X_iload_n F dX8_replace_28 rfl ?_
          refine X_iload_n F dX8_replace_29 rfl ?_
          refine X_iast (j := (Int32.toNatClampNeg a1)) F ha0 (inbV q5) rfl dX8_replace_30 ?_
          refine X_iload F dX8_replace_31 rfl ?_
          exact X_iret F hr hlk (retI h) dX8_replace_33
        · rw [if_neg q4] at h
          refine X_bipush F dX8_replace_19 (v := (-2 : Int32)) rfl ?_
          exact X_iret F hr hlk (retI h) dX8_replace_21
set_option maxRecDepth 20000 in
theorem F8_replace_met {l : Launch} {G : GG} {D : Nat} {r : Int32 × Mem} {M : Mem} {a0 : Nat} {n0 : Nat} {a1 : Int32} {a2 : Int32} {a3 : Int32} (hI : Inj shA G.2.1) (hD : 1 ≤ D) (ha0 : shA[a0]? = some (.inl (0, n0))) (h : F8_replace M a0 n0 a1 a2 a3 = some r) : MetX shA l G yX8_replace cX8_replace 5 (some .int) D [.ref a0, .int a1, .int a2, .int a3] M (some (.int r.1), r.2) :=
  X_met hI (by decide +kernel) (Nat.le_of_ble_eq_true rfl) (fun p e s m args below meth c F hr hlk => F8_replace_ok F hr hlk hD ha0 h)
-- KeepOurPlace.set
def F8_set (M : Mem) (a1 : Int32) (a2 : Int32) (a3 : Int32) : Option (Int32 × Mem) :=
    if a1 = (0 : Int32) then
      Option.bind (F2_moveUs M a3) fun r2 =>
      some (r2.1, r2.2)
    else
    if a1 = (1 : Int32) then
      Option.bind (F2_holds M a2) fun r5 =>
      if r5.1 = 0 then
        some ((-2 : Int32), r5.2)
      else
        Option.bind (F8_replace r5.2 3 8 a2 a3 (40 : Int32)) fun r8 =>
        some (r8.1, r8.2)
    else
    if a1 = (2 : Int32) then
      Option.bind (F2_holds M a2) fun r11 =>
      if r11.1 = 0 then
        some ((-2 : Int32), r11.2)
      else
        Option.bind (F8_replace r11.2 4 8 a2 a3 (9 : Int32)) fun r14 =>
        some (r14.1, r14.2)
    else
    if a1 = (3 : Int32) then
      Option.bind (F6_holds M a2) fun r17 =>
      if r17.1 = 0 then
        some ((-2 : Int32), r17.2)
      else
        Option.bind (F8_replace r17.2 6 6 a2 a3 (99 : Int32)) fun r20 =>
        some (r20.1, r20.2)
    else
    if a1 = (4 : Int32) then
      Option.bind (F6_holds M a2) fun r23 =>
      if r23.1 = 0 then
        some ((-2 : Int32), r23.2)
      else
        Option.bind (F8_replace r23.2 7 6 a2 a3 (99 : Int32)) fun r26 =>
        some (r26.1, r26.2)
    else
    if a1 = (5 : Int32) then
      Option.bind (F6_holds M a2) fun r29 =>
      if r29.1 = 0 then
        some ((-2 : Int32), r29.2)
      else
        Option.bind (F8_replace r29.2 8 6 a2 a3 (100 : Int32)) fun r32 =>
        some (r32.1, r32.2)
    else
    some ((-2 : Int32), M)
set_option maxRecDepth 20000 in
theorem F8_set_ok {p : Program} {l : Launch} {e : Env} {s : State} {m : MethodId} {args : Array Value} {below : List Frame} {meth : Method} {c : Code} {G : GG} {D : Nat} {r : Int32 × Mem} (F : FrP shA G p s m args c RX8 cX8_set 4) (hr : meth.sig.returnType = (some .int)) (hlk : meth.locks = false) (hD : 2 ≤ D) {M : Mem} {a1 : Int32} {a2 : Int32} {a3 : Int32} (h : F8_set M a1 a2 a3 = some r) : XJ shA p l e (rmX D) s m args below meth c 0 0 G 4 (MQ below (QcX shA G ((some (.int r.1), r.2) : Option Value × Mem).1 ((some (.int r.1), r.2) : Option Value × Mem).2) args s 0 0 (AW shA G.2.1)) 0 [(0, .ref 0), (1, .int a1), (2, .int a2), (3, .int a3)] [] M := by
  unfold F8_set at h
  refine X_iload_n F dX8_set_0 rfl ?_
  by_cases q1 : a1 = (0 : Int32)
  · rw [if_pos q1] at h
    refine X_tin (tgt := 40) (off := 39) F dX8_set_1 (by rw [q1]; decide) (by decide) ?_
    refine X_aload_n F dX8_set_40 rfl ?_
    refine X_getr F ffRX8_10 dX8_set_41 ?_
    refine X_iload_n F dX8_set_44 rfl ?_
    obtain ⟨r2, h3, h⟩ := bndS h
    refine X_callV (ci := 1) (As := [.int a3]) (rest := []) F fkRX8_104 feX2_moveUs fvX2_moveUs ⟨_, _, _, rfl, rfl, rfl⟩ (F2_moveUs_met (D := D - 1) F.2.2.2.2.2.2.2.1 (by omega) h3) rfl rfl (Nat.le_of_ble_eq_true rfl) (rm_ok (by omega) (by decide)) dX8_set_45 ?_
    show XJ shA p l e (rmX D) s m args below meth c 0 0 G 4 (MQ below (QcX shA G ((some (.int r.1), r.2) : Option Value × Mem).1 ((some (.int r.1), r.2) : Option Value × Mem).2) args s 0 0 (AW shA G.2.1)) 48 [(0, .ref 0), (1, .int a1), (2, .int a2), (3, .int a3)] [.int r2.1] r2.2
    exact X_iret F hr hlk (retI h) dX8_set_48
  rw [if_neg q1] at h
  by_cases q4 : a1 = (1 : Int32)
  · rw [if_pos q4] at h
    refine X_tin (tgt := 49) (off := 48) F dX8_set_1 (by rw [q4]; decide) (by decide) ?_
    refine X_aload_n F dX8_set_49 rfl ?_
    refine X_getr F ffRX8_10 dX8_set_50 ?_
    refine X_iload_n F dX8_set_53 rfl ?_
    obtain ⟨r5, h6, h⟩ := bndS h
    refine X_callV (ci := 1) (As := [.int a2]) (rest := []) F fkRX8_108 feX2_holds fvX2_holds ⟨_, _, _, rfl, rfl, rfl⟩ (F2_holds_met (D := D - 1) F.2.2.2.2.2.2.2.1 (by omega) h6) rfl rfl (Nat.le_of_ble_eq_true rfl) (rm_ok (by omega) (by decide)) dX8_set_54 ?_
    show XJ shA p l e (rmX D) s m args below meth c 0 0 G 4 (MQ below (QcX shA G ((some (.int r.1), r.2) : Option Value × Mem).1 ((some (.int r.1), r.2) : Option Value × Mem).2) args s 0 0 (AW shA G.2.1)) 57 [(0, .ref 0), (1, .int a1), (2, .int a2), (3, .int a3)] [.int r5.1] r5.2
    refine X_if_eq (tgt := 77) F dX8_set_57 (by decide) (fun q7 => ?_) (fun q7 => ?_)
    · rw [if_pos q7] at h
      refine X_bipush F dX8_set_77 (v := (-2 : Int32)) rfl ?_
      exact X_iret F hr hlk (retI h) dX8_set_79
    · rw [if_neg q7] at h
      refine X_aload_n F dX8_set_60 rfl ?_
      refine X_getr F ffRX8_10 dX8_set_61 ?_
      refine X_getr F ffRX8_111 dX8_set_64 ?_
      refine X_iload_n F dX8_set_67 rfl ?_
      refine X_iload_n F dX8_set_68 rfl ?_
      refine X_bipush F dX8_set_69 (v := (40 : Int32)) rfl ?_
      obtain ⟨r8, h9, h⟩ := bndS h
      refine X_callS (As := [.ref 3, .int a2, .int a3, .int (40 : Int32)]) (rest := []) F fsRX8_115 feX8_replace ftX8_replace (F8_replace_met (D := D - 1) F.2.2.2.2.2.2.2.1 (by omega) rfl h9) rfl rfl (Nat.le_of_ble_eq_true rfl) (rm_ok (by omega) (by decide)) dX8_set_71 ?_
      show XJ shA p l e (rmX D) s m args below meth c 0 0 G 4 (MQ below (QcX shA G ((some (.int r.1), r.2) : Option Value × Mem).1 ((some (.int r.1), r.2) : Option Value × Mem).2) args s 0 0 (AW shA G.2.1)) 74 [(0, .ref 0), (1, .int a1), (2, .int a2), (3, .int a3)] [.int r8.1] r8.2
      refine X_goto (tgt := 79) F dX8_set_74 (by decide) ?_
      exact X_iret F hr hlk (retI h) dX8_set_79
  rw [if_neg q4] at h
  by_cases q10 : a1 = (2 : Int32)
  · rw [if_pos q10] at h
    refine X_tin (tgt := 80) (off := 79) F dX8_set_1 (by rw [q10]; decide) (by decide) ?_
    refine X_aload_n F dX8_set_80 rfl ?_
    refine X_getr F ffRX8_10 dX8_set_81 ?_
    refine X_iload_n F dX8_set_84 rfl ?_
    obtain ⟨r11, h12, h⟩ := bndS h
    refine X_callV (ci := 1) (As := [.int a2]) (rest := []) F fkRX8_108 feX2_holds fvX2_holds ⟨_, _, _, rfl, rfl, rfl⟩ (F2_holds_met (D := D - 1) F.2.2.2.2.2.2.2.1 (by omega) h12) rfl rfl (Nat.le_of_ble_eq_true rfl) (rm_ok (by omega) (by decide)) dX8_set_85 ?_
    show XJ shA p l e (rmX D) s m args below meth c 0 0 G 4 (MQ below (QcX shA G ((some (.int r.1), r.2) : Option Value × Mem).1 ((some (.int r.1), r.2) : Option Value × Mem).2) args s 0 0 (AW shA G.2.1)) 88 [(0, .ref 0), (1, .int a1), (2, .int a2), (3, .int a3)] [.int r11.1] r11.2
    refine X_if_eq (tgt := 108) F dX8_set_88 (by decide) (fun q13 => ?_) (fun q13 => ?_)
    · rw [if_pos q13] at h
      refine X_bipush F dX8_set_108 (v := (-2 : Int32)) rfl ?_
      exact X_iret F hr hlk (retI h) dX8_set_110
    · rw [if_neg q13] at h
      refine X_aload_n F dX8_set_91 rfl ?_
      refine X_getr F ffRX8_10 dX8_set_92 ?_
      refine X_getr F ffRX8_119 dX8_set_95 ?_
      refine X_iload_n F dX8_set_98 rfl ?_
      refine X_iload_n F dX8_set_99 rfl ?_
      refine X_bipush F dX8_set_100 (v := (9 : Int32)) rfl ?_
      obtain ⟨r14, h15, h⟩ := bndS h
      refine X_callS (As := [.ref 4, .int a2, .int a3, .int (9 : Int32)]) (rest := []) F fsRX8_115 feX8_replace ftX8_replace (F8_replace_met (D := D - 1) F.2.2.2.2.2.2.2.1 (by omega) rfl h15) rfl rfl (Nat.le_of_ble_eq_true rfl) (rm_ok (by omega) (by decide)) dX8_set_102 ?_
      show XJ shA p l e (rmX D) s m args below meth c 0 0 G 4 (MQ below (QcX shA G ((some (.int r.1), r.2) : Option Value × Mem).1 ((some (.int r.1), r.2) : Option Value × Mem).2) args s 0 0 (AW shA G.2.1)) 105 [(0, .ref 0), (1, .int a1), (2, .int a2), (3, .int a3)] [.int r14.1] r14.2
      refine X_goto (tgt := 110) F dX8_set_105 (by decide) ?_
      exact X_iret F hr hlk (retI h) dX8_set_110
  rw [if_neg q10] at h
  by_cases q16 : a1 = (3 : Int32)
  · rw [if_pos q16] at h
    refine X_tin (tgt := 111) (off := 110) F dX8_set_1 (by rw [q16]; decide) (by decide) ?_
    refine X_aload_n F dX8_set_111 rfl ?_
    refine X_getr F ffRX8_19 dX8_set_112 ?_
    refine X_iload_n F dX8_set_115 rfl ?_
    obtain ⟨r17, h18, h⟩ := bndS h
    refine X_callV (ci := 5) (As := [.int a2]) (rest := []) F fkRX8_122 feX6_holds fvX6_holds ⟨_, _, _, rfl, rfl, rfl⟩ (F6_holds_met (D := D - 1) F.2.2.2.2.2.2.2.1 (by omega) h18) rfl rfl (Nat.le_of_ble_eq_true rfl) (rm_ok (by omega) (by decide)) dX8_set_116 ?_
    show XJ shA p l e (rmX D) s m args below meth c 0 0 G 4 (MQ below (QcX shA G ((some (.int r.1), r.2) : Option Value × Mem).1 ((some (.int r.1), r.2) : Option Value × Mem).2) args s 0 0 (AW shA G.2.1)) 119 [(0, .ref 0), (1, .int a1), (2, .int a2), (3, .int a3)] [.int r17.1] r17.2
    refine X_if_eq (tgt := 139) F dX8_set_119 (by decide) (fun q19 => ?_) (fun q19 => ?_)
    · rw [if_pos q19] at h
      refine X_bipush F dX8_set_139 (v := (-2 : Int32)) rfl ?_
      exact X_iret F hr hlk (retI h) dX8_set_141
    · rw [if_neg q19] at h
      refine X_aload_n F dX8_set_122 rfl ?_
      refine X_getr F ffRX8_19 dX8_set_123 ?_
      refine X_getr F ffRX8_123 dX8_set_126 ?_
      refine X_iload_n F dX8_set_129 rfl ?_
      refine X_iload_n F dX8_set_130 rfl ?_
      refine X_bipush F dX8_set_131 (v := (99 : Int32)) rfl ?_
      obtain ⟨r20, h21, h⟩ := bndS h
      refine X_callS (As := [.ref 6, .int a2, .int a3, .int (99 : Int32)]) (rest := []) F fsRX8_115 feX8_replace ftX8_replace (F8_replace_met (D := D - 1) F.2.2.2.2.2.2.2.1 (by omega) rfl h21) rfl rfl (Nat.le_of_ble_eq_true rfl) (rm_ok (by omega) (by decide)) dX8_set_133 ?_
      show XJ shA p l e (rmX D) s m args below meth c 0 0 G 4 (MQ below (QcX shA G ((some (.int r.1), r.2) : Option Value × Mem).1 ((some (.int r.1), r.2) : Option Value × Mem).2) args s 0 0 (AW shA G.2.1)) 136 [(0, .ref 0), (1, .int a1), (2, .int a2), (3, .int a3)] [.int r20.1] r20.2
      refine X_goto (tgt := 141) F dX8_set_136 (by decide) ?_
      exact X_iret F hr hlk (retI h) dX8_set_141
  rw [if_neg q16] at h
  by_cases q22 : a1 = (4 : Int32)
  · rw [if_pos q22] at h
    refine X_tin (tgt := 142) (off := 141) F dX8_set_1 (by rw [q22]; decide) (by decide) ?_
    refine X_aload_n F dX8_set_142 rfl ?_
    refine X_getr F ffRX8_19 dX8_set_143 ?_
    refine X_iload_n F dX8_set_146 rfl ?_
    obtain ⟨r23, h24, h⟩ := bndS h
    refine X_callV (ci := 5) (As := [.int a2]) (rest := []) F fkRX8_122 feX6_holds fvX6_holds ⟨_, _, _, rfl, rfl, rfl⟩ (F6_holds_met (D := D - 1) F.2.2.2.2.2.2.2.1 (by omega) h24) rfl rfl (Nat.le_of_ble_eq_true rfl) (rm_ok (by omega) (by decide)) dX8_set_147 ?_
    show XJ shA p l e (rmX D) s m args below meth c 0 0 G 4 (MQ below (QcX shA G ((some (.int r.1), r.2) : Option Value × Mem).1 ((some (.int r.1), r.2) : Option Value × Mem).2) args s 0 0 (AW shA G.2.1)) 150 [(0, .ref 0), (1, .int a1), (2, .int a2), (3, .int a3)] [.int r23.1] r23.2
    refine X_if_eq (tgt := 170) F dX8_set_150 (by decide) (fun q25 => ?_) (fun q25 => ?_)
    · rw [if_pos q25] at h
      refine X_bipush F dX8_set_170 (v := (-2 : Int32)) rfl ?_
      exact X_iret F hr hlk (retI h) dX8_set_172
    · rw [if_neg q25] at h
      refine X_aload_n F dX8_set_153 rfl ?_
      refine X_getr F ffRX8_19 dX8_set_154 ?_
      refine X_getr F ffRX8_126 dX8_set_157 ?_
      refine X_iload_n F dX8_set_160 rfl ?_
      refine X_iload_n F dX8_set_161 rfl ?_
      refine X_bipush F dX8_set_162 (v := (99 : Int32)) rfl ?_
      obtain ⟨r26, h27, h⟩ := bndS h
      refine X_callS (As := [.ref 7, .int a2, .int a3, .int (99 : Int32)]) (rest := []) F fsRX8_115 feX8_replace ftX8_replace (F8_replace_met (D := D - 1) F.2.2.2.2.2.2.2.1 (by omega) rfl h27) rfl rfl (Nat.le_of_ble_eq_true rfl) (rm_ok (by omega) (by decide)) dX8_set_164 ?_
      show XJ shA p l e (rmX D) s m args below meth c 0 0 G 4 (MQ below (QcX shA G ((some (.int r.1), r.2) : Option Value × Mem).1 ((some (.int r.1), r.2) : Option Value × Mem).2) args s 0 0 (AW shA G.2.1)) 167 [(0, .ref 0), (1, .int a1), (2, .int a2), (3, .int a3)] [.int r26.1] r26.2
      refine X_goto (tgt := 172) F dX8_set_167 (by decide) ?_
      exact X_iret F hr hlk (retI h) dX8_set_172
  rw [if_neg q22] at h
  by_cases q28 : a1 = (5 : Int32)
  · rw [if_pos q28] at h
    refine X_tin (tgt := 173) (off := 172) F dX8_set_1 (by rw [q28]; decide) (by decide) ?_
    refine X_aload_n F dX8_set_173 rfl ?_
    refine X_getr F ffRX8_19 dX8_set_174 ?_
    refine X_iload_n F dX8_set_177 rfl ?_
    obtain ⟨r29, h30, h⟩ := bndS h
    refine X_callV (ci := 5) (As := [.int a2]) (rest := []) F fkRX8_122 feX6_holds fvX6_holds ⟨_, _, _, rfl, rfl, rfl⟩ (F6_holds_met (D := D - 1) F.2.2.2.2.2.2.2.1 (by omega) h30) rfl rfl (Nat.le_of_ble_eq_true rfl) (rm_ok (by omega) (by decide)) dX8_set_178 ?_
    show XJ shA p l e (rmX D) s m args below meth c 0 0 G 4 (MQ below (QcX shA G ((some (.int r.1), r.2) : Option Value × Mem).1 ((some (.int r.1), r.2) : Option Value × Mem).2) args s 0 0 (AW shA G.2.1)) 181 [(0, .ref 0), (1, .int a1), (2, .int a2), (3, .int a3)] [.int r29.1] r29.2
    refine X_if_eq (tgt := 201) F dX8_set_181 (by decide) (fun q31 => ?_) (fun q31 => ?_)
    · rw [if_pos q31] at h
      refine X_bipush F dX8_set_201 (v := (-2 : Int32)) rfl ?_
      exact X_iret F hr hlk (retI h) dX8_set_203
    · rw [if_neg q31] at h
      refine X_aload_n F dX8_set_184 rfl ?_
      refine X_getr F ffRX8_19 dX8_set_185 ?_
      refine X_getr F ffRX8_129 dX8_set_188 ?_
      refine X_iload_n F dX8_set_191 rfl ?_
      refine X_iload_n F dX8_set_192 rfl ?_
      refine X_bipush F dX8_set_193 (v := (100 : Int32)) rfl ?_
      obtain ⟨r32, h33, h⟩ := bndS h
      refine X_callS (As := [.ref 8, .int a2, .int a3, .int (100 : Int32)]) (rest := []) F fsRX8_115 feX8_replace ftX8_replace (F8_replace_met (D := D - 1) F.2.2.2.2.2.2.2.1 (by omega) rfl h33) rfl rfl (Nat.le_of_ble_eq_true rfl) (rm_ok (by omega) (by decide)) dX8_set_195 ?_
      show XJ shA p l e (rmX D) s m args below meth c 0 0 G 4 (MQ below (QcX shA G ((some (.int r.1), r.2) : Option Value × Mem).1 ((some (.int r.1), r.2) : Option Value × Mem).2) args s 0 0 (AW shA G.2.1)) 198 [(0, .ref 0), (1, .int a1), (2, .int a2), (3, .int a3)] [.int r32.1] r32.2
      refine X_goto (tgt := 203) F dX8_set_198 (by decide) ?_
      exact X_iret F hr hlk (retI h) dX8_set_203
  rw [if_neg q28] at h
  have eq1 := lv_neT q1 (a := 0) (by decide)
  have eq4 := lv_neT q4 (a := 1) (by decide)
  have eq10 := lv_neT q10 (a := 2) (by decide)
  have eq16 := lv_neT q16 (a := 3) (by decide)
  have eq22 := lv_neT q22 (a := 4) (by decide)
  have eq28 := lv_neT q28 (a := 5) (by decide)
  refine X_tout (tgt := 204) F dX8_set_1 (by omega) (by decide) ?_
  refine X_bipush F dX8_set_204 (v := (-2 : Int32)) rfl ?_
  exact X_iret F hr hlk (retI h) dX8_set_206
set_option maxRecDepth 20000 in
theorem F8_set_met {l : Launch} {G : GG} {D : Nat} {r : Int32 × Mem} {M : Mem} {a1 : Int32} {a2 : Int32} {a3 : Int32} (hI : Inj shA G.2.1) (hD : 2 ≤ D) (h : F8_set M a1 a2 a3 = some r) : MetX shA l G yX8_set cX8_set 4 (some .int) D [.ref 0, .int a1, .int a2, .int a3] M (some (.int r.1), r.2) :=
  X_met hI (by decide +kernel) (Nat.le_of_ble_eq_true rfl) (fun p e s m args below meth c F hr hlk => F8_set_ok F hr hlk hD h)
-- KeepOurPlace.told
def F8_told (M : Mem) (a1 : Int32) (a2 : Int32) : Option (Int32 × Mem) :=
    if a2 = (0 : Int32) then
      Option.bind (F2_holds M a1) fun r2 =>
      if r2.1 = 0 then
        some ((-2 : Int32), r2.2)
      else
        if inb a1 8 = true then
        some ((r2.2 2 (Int32.toNatClampNeg a1)), r2.2)
        else none
    else
    if a2 = (1 : Int32) then
      Option.bind (F2_holds M a1) fun r7 =>
      if r7.1 = 0 then
        some ((-2 : Int32), r7.2)
      else
        if inb a1 8 = true then
        some ((r7.2 3 (Int32.toNatClampNeg a1)), r7.2)
        else none
    else
    if a2 = (2 : Int32) then
      Option.bind (F2_holds M a1) fun r12 =>
      if r12.1 = 0 then
        some ((-2 : Int32), r12.2)
      else
        if inb a1 8 = true then
        some ((r12.2 4 (Int32.toNatClampNeg a1)), r12.2)
        else none
    else
    if a2 = (3 : Int32) then
      Option.bind (F6_holds M a1) fun r17 =>
      if r17.1 = 0 then
        some ((-2 : Int32), r17.2)
      else
        if inb a1 6 = true then
        some ((r17.2 6 (Int32.toNatClampNeg a1)), r17.2)
        else none
    else
    if a2 = (4 : Int32) then
      Option.bind (F6_holds M a1) fun r22 =>
      if r22.1 = 0 then
        some ((-2 : Int32), r22.2)
      else
        if inb a1 6 = true then
        some ((r22.2 7 (Int32.toNatClampNeg a1)), r22.2)
        else none
    else
    if a2 = (5 : Int32) then
      Option.bind (F6_holds M a1) fun r27 =>
      if r27.1 = 0 then
        some ((-2 : Int32), r27.2)
      else
        if inb a1 6 = true then
        some ((r27.2 8 (Int32.toNatClampNeg a1)), r27.2)
        else none
    else
    if a2 = (6 : Int32) then
      Option.bind (F2_holds M a1) fun r32 =>
      if r32.1 = 0 then
        some ((-2 : Int32), r32.2)
      else
        if inb a1 8 = true then
        Option.bind (F7_seconds r32.2 (r32.2 2 (Int32.toNatClampNeg a1)) a1 a1) fun r36 =>
        some (r36.1, r36.2)
        else none
    else
    if a2 = (7 : Int32) then
      Option.bind (F2_holds M a1) fun r39 =>
      if r39.1 = 0 then
        some ((-2 : Int32), r39.2)
      else
        Option.bind (F7_minds r39.2 a1 (0 : Int32)) fun r42 =>
        some (r42.1, r42.2)
    else
    some ((-2 : Int32), M)
set_option maxRecDepth 20000 in
theorem F8_told_ok {p : Program} {l : Launch} {e : Env} {s : State} {m : MethodId} {args : Array Value} {below : List Frame} {meth : Method} {c : Code} {G : GG} {D : Nat} {r : Int32 × Mem} (F : FrP shA G p s m args c RX8 cX8_told 3) (hr : meth.sig.returnType = (some .int)) (hlk : meth.locks = false) (hD : 4 ≤ D) {M : Mem} {a1 : Int32} {a2 : Int32} (h : F8_told M a1 a2 = some r) : XJ shA p l e (rmX D) s m args below meth c 0 0 G 3 (MQ below (QcX shA G ((some (.int r.1), r.2) : Option Value × Mem).1 ((some (.int r.1), r.2) : Option Value × Mem).2) args s 0 0 (AW shA G.2.1)) 0 [(0, .ref 0), (1, .int a1), (2, .int a2)] [] M := by
  unfold F8_told at h
  refine X_iload_n F dX8_told_0 rfl ?_
  by_cases q1 : a2 = (0 : Int32)
  · rw [if_pos q1] at h
    refine X_tin (tgt := 48) (off := 47) F dX8_told_1 (by rw [q1]; decide) (by decide) ?_
    refine X_aload_n F dX8_told_48 rfl ?_
    refine X_getr F ffRX8_10 dX8_told_49 ?_
    refine X_iload_n F dX8_told_52 rfl ?_
    obtain ⟨r2, h3, h⟩ := bndS h
    refine X_callV (ci := 1) (As := [.int a1]) (rest := []) F fkRX8_108 feX2_holds fvX2_holds ⟨_, _, _, rfl, rfl, rfl⟩ (F2_holds_met (D := D - 1) F.2.2.2.2.2.2.2.1 (by omega) h3) rfl rfl (Nat.le_of_ble_eq_true rfl) (rm_ok (by omega) (by decide)) dX8_told_53 ?_
    show XJ shA p l e (rmX D) s m args below meth c 0 0 G 3 (MQ below (QcX shA G ((some (.int r.1), r.2) : Option Value × Mem).1 ((some (.int r.1), r.2) : Option Value × Mem).2) args s 0 0 (AW shA G.2.1)) 56 [(0, .ref 0), (1, .int a1), (2, .int a2)] [.int r2.1] r2.2
    refine X_if_eq (tgt := 71) F dX8_told_56 (by decide) (fun q4 => ?_) (fun q4 => ?_)
    · rw [if_pos q4] at h
      refine X_bipush F dX8_told_71 (v := (-2 : Int32)) rfl ?_
      exact X_iret F hr hlk (retI h) dX8_told_73
    · rw [if_neg q4] at h
      refine X_aload_n F dX8_told_59 rfl ?_
      refine X_getr F ffRX8_10 dX8_told_60 ?_
      refine X_getr F ffRX8_132 dX8_told_63 ?_
      refine X_iload_n F dX8_told_66 rfl ?_
      obtain ⟨q5, h⟩ := ifS h
      refine X_iald (j := (Int32.toNatClampNeg a1)) (v := (r2.2 2 (Int32.toNatClampNeg a1))) F rfl (inbV q5) rfl rfl dX8_told_67 ?_
      refine X_goto (tgt := 73) F dX8_told_68 (by decide) ?_
      exact X_iret F hr hlk (retI h) dX8_told_73
  rw [if_neg q1] at h
  by_cases q6 : a2 = (1 : Int32)
  · rw [if_pos q6] at h
    refine X_tin (tgt := 74) (off := 73) F dX8_told_1 (by rw [q6]; decide) (by decide) ?_
    refine X_aload_n F dX8_told_74 rfl ?_
    refine X_getr F ffRX8_10 dX8_told_75 ?_
    refine X_iload_n F dX8_told_78 rfl ?_
    obtain ⟨r7, h8, h⟩ := bndS h
    refine X_callV (ci := 1) (As := [.int a1]) (rest := []) F fkRX8_108 feX2_holds fvX2_holds ⟨_, _, _, rfl, rfl, rfl⟩ (F2_holds_met (D := D - 1) F.2.2.2.2.2.2.2.1 (by omega) h8) rfl rfl (Nat.le_of_ble_eq_true rfl) (rm_ok (by omega) (by decide)) dX8_told_79 ?_
    show XJ shA p l e (rmX D) s m args below meth c 0 0 G 3 (MQ below (QcX shA G ((some (.int r.1), r.2) : Option Value × Mem).1 ((some (.int r.1), r.2) : Option Value × Mem).2) args s 0 0 (AW shA G.2.1)) 82 [(0, .ref 0), (1, .int a1), (2, .int a2)] [.int r7.1] r7.2
    refine X_if_eq (tgt := 97) F dX8_told_82 (by decide) (fun q9 => ?_) (fun q9 => ?_)
    · rw [if_pos q9] at h
      refine X_bipush F dX8_told_97 (v := (-2 : Int32)) rfl ?_
      exact X_iret F hr hlk (retI h) dX8_told_99
    · rw [if_neg q9] at h
      refine X_aload_n F dX8_told_85 rfl ?_
      refine X_getr F ffRX8_10 dX8_told_86 ?_
      refine X_getr F ffRX8_111 dX8_told_89 ?_
      refine X_iload_n F dX8_told_92 rfl ?_
      obtain ⟨q10, h⟩ := ifS h
      refine X_iald (j := (Int32.toNatClampNeg a1)) (v := (r7.2 3 (Int32.toNatClampNeg a1))) F rfl (inbV q10) rfl rfl dX8_told_93 ?_
      refine X_goto (tgt := 99) F dX8_told_94 (by decide) ?_
      exact X_iret F hr hlk (retI h) dX8_told_99
  rw [if_neg q6] at h
  by_cases q11 : a2 = (2 : Int32)
  · rw [if_pos q11] at h
    refine X_tin (tgt := 100) (off := 99) F dX8_told_1 (by rw [q11]; decide) (by decide) ?_
    refine X_aload_n F dX8_told_100 rfl ?_
    refine X_getr F ffRX8_10 dX8_told_101 ?_
    refine X_iload_n F dX8_told_104 rfl ?_
    obtain ⟨r12, h13, h⟩ := bndS h
    refine X_callV (ci := 1) (As := [.int a1]) (rest := []) F fkRX8_108 feX2_holds fvX2_holds ⟨_, _, _, rfl, rfl, rfl⟩ (F2_holds_met (D := D - 1) F.2.2.2.2.2.2.2.1 (by omega) h13) rfl rfl (Nat.le_of_ble_eq_true rfl) (rm_ok (by omega) (by decide)) dX8_told_105 ?_
    show XJ shA p l e (rmX D) s m args below meth c 0 0 G 3 (MQ below (QcX shA G ((some (.int r.1), r.2) : Option Value × Mem).1 ((some (.int r.1), r.2) : Option Value × Mem).2) args s 0 0 (AW shA G.2.1)) 108 [(0, .ref 0), (1, .int a1), (2, .int a2)] [.int r12.1] r12.2
    refine X_if_eq (tgt := 123) F dX8_told_108 (by decide) (fun q14 => ?_) (fun q14 => ?_)
    · rw [if_pos q14] at h
      refine X_bipush F dX8_told_123 (v := (-2 : Int32)) rfl ?_
      exact X_iret F hr hlk (retI h) dX8_told_125
    · rw [if_neg q14] at h
      refine X_aload_n F dX8_told_111 rfl ?_
      refine X_getr F ffRX8_10 dX8_told_112 ?_
      refine X_getr F ffRX8_119 dX8_told_115 ?_
      refine X_iload_n F dX8_told_118 rfl ?_
      obtain ⟨q15, h⟩ := ifS h
      refine X_iald (j := (Int32.toNatClampNeg a1)) (v := (r12.2 4 (Int32.toNatClampNeg a1))) F rfl (inbV q15) rfl rfl dX8_told_119 ?_
      refine X_goto (tgt := 125) F dX8_told_120 (by decide) ?_
      exact X_iret F hr hlk (retI h) dX8_told_125
  rw [if_neg q11] at h
  by_cases q16 : a2 = (3 : Int32)
  · rw [if_pos q16] at h
    refine X_tin (tgt := 126) (off := 125) F dX8_told_1 (by rw [q16]; decide) (by decide) ?_
    refine X_aload_n F dX8_told_126 rfl ?_
    refine X_getr F ffRX8_19 dX8_told_127 ?_
    refine X_iload_n F dX8_told_130 rfl ?_
    obtain ⟨r17, h18, h⟩ := bndS h
    refine X_callV (ci := 5) (As := [.int a1]) (rest := []) F fkRX8_122 feX6_holds fvX6_holds ⟨_, _, _, rfl, rfl, rfl⟩ (F6_holds_met (D := D - 1) F.2.2.2.2.2.2.2.1 (by omega) h18) rfl rfl (Nat.le_of_ble_eq_true rfl) (rm_ok (by omega) (by decide)) dX8_told_131 ?_
    show XJ shA p l e (rmX D) s m args below meth c 0 0 G 3 (MQ below (QcX shA G ((some (.int r.1), r.2) : Option Value × Mem).1 ((some (.int r.1), r.2) : Option Value × Mem).2) args s 0 0 (AW shA G.2.1)) 134 [(0, .ref 0), (1, .int a1), (2, .int a2)] [.int r17.1] r17.2
    refine X_if_eq (tgt := 149) F dX8_told_134 (by decide) (fun q19 => ?_) (fun q19 => ?_)
    · rw [if_pos q19] at h
      refine X_bipush F dX8_told_149 (v := (-2 : Int32)) rfl ?_
      exact X_iret F hr hlk (retI h) dX8_told_151
    · rw [if_neg q19] at h
      refine X_aload_n F dX8_told_137 rfl ?_
      refine X_getr F ffRX8_19 dX8_told_138 ?_
      refine X_getr F ffRX8_123 dX8_told_141 ?_
      refine X_iload_n F dX8_told_144 rfl ?_
      obtain ⟨q20, h⟩ := ifS h
      refine X_iald (j := (Int32.toNatClampNeg a1)) (v := (r17.2 6 (Int32.toNatClampNeg a1))) F rfl (inbV q20) rfl rfl dX8_told_145 ?_
      refine X_goto (tgt := 151) F dX8_told_146 (by decide) ?_
      exact X_iret F hr hlk (retI h) dX8_told_151
  rw [if_neg q16] at h
  by_cases q21 : a2 = (4 : Int32)
  · rw [if_pos q21] at h
    refine X_tin (tgt := 152) (off := 151) F dX8_told_1 (by rw [q21]; decide) (by decide) ?_
    refine X_aload_n F dX8_told_152 rfl ?_
    refine X_getr F ffRX8_19 dX8_told_153 ?_
    refine X_iload_n F dX8_told_156 rfl ?_
    obtain ⟨r22, h23, h⟩ := bndS h
    refine X_callV (ci := 5) (As := [.int a1]) (rest := []) F fkRX8_122 feX6_holds fvX6_holds ⟨_, _, _, rfl, rfl, rfl⟩ (F6_holds_met (D := D - 1) F.2.2.2.2.2.2.2.1 (by omega) h23) rfl rfl (Nat.le_of_ble_eq_true rfl) (rm_ok (by omega) (by decide)) dX8_told_157 ?_
    show XJ shA p l e (rmX D) s m args below meth c 0 0 G 3 (MQ below (QcX shA G ((some (.int r.1), r.2) : Option Value × Mem).1 ((some (.int r.1), r.2) : Option Value × Mem).2) args s 0 0 (AW shA G.2.1)) 160 [(0, .ref 0), (1, .int a1), (2, .int a2)] [.int r22.1] r22.2
    refine X_if_eq (tgt := 175) F dX8_told_160 (by decide) (fun q24 => ?_) (fun q24 => ?_)
    · rw [if_pos q24] at h
      refine X_bipush F dX8_told_175 (v := (-2 : Int32)) rfl ?_
      exact X_iret F hr hlk (retI h) dX8_told_177
    · rw [if_neg q24] at h
      refine X_aload_n F dX8_told_163 rfl ?_
      refine X_getr F ffRX8_19 dX8_told_164 ?_
      refine X_getr F ffRX8_126 dX8_told_167 ?_
      refine X_iload_n F dX8_told_170 rfl ?_
      obtain ⟨q25, h⟩ := ifS h
      refine X_iald (j := (Int32.toNatClampNeg a1)) (v := (r22.2 7 (Int32.toNatClampNeg a1))) F rfl (inbV q25) rfl rfl dX8_told_171 ?_
      refine X_goto (tgt := 177) F dX8_told_172 (by decide) ?_
      exact X_iret F hr hlk (retI h) dX8_told_177
  rw [if_neg q21] at h
  by_cases q26 : a2 = (5 : Int32)
  · rw [if_pos q26] at h
    refine X_tin (tgt := 178) (off := 177) F dX8_told_1 (by rw [q26]; decide) (by decide) ?_
    refine X_aload_n F dX8_told_178 rfl ?_
    refine X_getr F ffRX8_19 dX8_told_179 ?_
    refine X_iload_n F dX8_told_182 rfl ?_
    obtain ⟨r27, h28, h⟩ := bndS h
    refine X_callV (ci := 5) (As := [.int a1]) (rest := []) F fkRX8_122 feX6_holds fvX6_holds ⟨_, _, _, rfl, rfl, rfl⟩ (F6_holds_met (D := D - 1) F.2.2.2.2.2.2.2.1 (by omega) h28) rfl rfl (Nat.le_of_ble_eq_true rfl) (rm_ok (by omega) (by decide)) dX8_told_183 ?_
    show XJ shA p l e (rmX D) s m args below meth c 0 0 G 3 (MQ below (QcX shA G ((some (.int r.1), r.2) : Option Value × Mem).1 ((some (.int r.1), r.2) : Option Value × Mem).2) args s 0 0 (AW shA G.2.1)) 186 [(0, .ref 0), (1, .int a1), (2, .int a2)] [.int r27.1] r27.2
    refine X_if_eq (tgt := 201) F dX8_told_186 (by decide) (fun q29 => ?_) (fun q29 => ?_)
    · rw [if_pos q29] at h
      refine X_bipush F dX8_told_201 (v := (-2 : Int32)) rfl ?_
      exact X_iret F hr hlk (retI h) dX8_told_203
    · rw [if_neg q29] at h
      refine X_aload_n F dX8_told_189 rfl ?_
      refine X_getr F ffRX8_19 dX8_told_190 ?_
      refine X_getr F ffRX8_129 dX8_told_193 ?_
      refine X_iload_n F dX8_told_196 rfl ?_
      obtain ⟨q30, h⟩ := ifS h
      refine X_iald (j := (Int32.toNatClampNeg a1)) (v := (r27.2 8 (Int32.toNatClampNeg a1))) F rfl (inbV q30) rfl rfl dX8_told_197 ?_
      refine X_goto (tgt := 203) F dX8_told_198 (by decide) ?_
      exact X_iret F hr hlk (retI h) dX8_told_203
  rw [if_neg q26] at h
  by_cases q31 : a2 = (6 : Int32)
  · rw [if_pos q31] at h
    refine X_tin (tgt := 204) (off := 203) F dX8_told_1 (by rw [q31]; decide) (by decide) ?_
    refine X_aload_n F dX8_told_204 rfl ?_
    refine X_getr F ffRX8_10 dX8_told_205 ?_
    refine X_iload_n F dX8_told_208 rfl ?_
    obtain ⟨r32, h33, h⟩ := bndS h
    refine X_callV (ci := 1) (As := [.int a1]) (rest := []) F fkRX8_108 feX2_holds fvX2_holds ⟨_, _, _, rfl, rfl, rfl⟩ (F2_holds_met (D := D - 1) F.2.2.2.2.2.2.2.1 (by omega) h33) rfl rfl (Nat.le_of_ble_eq_true rfl) (rm_ok (by omega) (by decide)) dX8_told_209 ?_
    show XJ shA p l e (rmX D) s m args below meth c 0 0 G 3 (MQ below (QcX shA G ((some (.int r.1), r.2) : Option Value × Mem).1 ((some (.int r.1), r.2) : Option Value × Mem).2) args s 0 0 (AW shA G.2.1)) 212 [(0, .ref 0), (1, .int a1), (2, .int a2)] [.int r32.1] r32.2
    refine X_if_eq (tgt := 236) F dX8_told_212 (by decide) (fun q34 => ?_) (fun q34 => ?_)
    · rw [if_pos q34] at h
      refine X_bipush F dX8_told_236 (v := (-2 : Int32)) rfl ?_
      exact X_iret F hr hlk (retI h) dX8_told_238
    · rw [if_neg q34] at h
      refine X_aload_n F dX8_told_215 rfl ?_
      refine X_getr F ffRX8_44 dX8_told_216 ?_
      refine X_aload_n F dX8_told_219 rfl ?_
      refine X_getr F ffRX8_10 dX8_told_220 ?_
      refine X_getr F ffRX8_132 dX8_told_223 ?_
      refine X_iload_n F dX8_told_226 rfl ?_
      obtain ⟨q35, h⟩ := ifS h
      refine X_iald (j := (Int32.toNatClampNeg a1)) (v := (r32.2 2 (Int32.toNatClampNeg a1))) F rfl (inbV q35) rfl rfl dX8_told_227 ?_
      refine X_iload_n F dX8_told_228 rfl ?_
      refine X_iload_n F dX8_told_229 rfl ?_
      obtain ⟨r36, h37, h⟩ := bndS h
      refine X_callV (ci := 33) (As := [.int (r32.2 2 (Int32.toNatClampNeg a1)), .int a1, .int a1]) (rest := []) F fkRX8_135 feX7_seconds fvX7_seconds ⟨_, _, _, rfl, rfl, rfl⟩ (F7_seconds_met (D := D - 1) F.2.2.2.2.2.2.2.1 (by omega) h37) rfl rfl (Nat.le_of_ble_eq_true rfl) (rm_ok (by omega) (by decide)) dX8_told_230 ?_
      show XJ shA p l e (rmX D) s m args below meth c 0 0 G 3 (MQ below (QcX shA G ((some (.int r.1), r.2) : Option Value × Mem).1 ((some (.int r.1), r.2) : Option Value × Mem).2) args s 0 0 (AW shA G.2.1)) 233 [(0, .ref 0), (1, .int a1), (2, .int a2)] [.int r36.1] r36.2
      refine X_goto (tgt := 238) F dX8_told_233 (by decide) ?_
      exact X_iret F hr hlk (retI h) dX8_told_238
  rw [if_neg q31] at h
  by_cases q38 : a2 = (7 : Int32)
  · rw [if_pos q38] at h
    refine X_tin (tgt := 239) (off := 238) F dX8_told_1 (by rw [q38]; decide) (by decide) ?_
    refine X_aload_n F dX8_told_239 rfl ?_
    refine X_getr F ffRX8_10 dX8_told_240 ?_
    refine X_iload_n F dX8_told_243 rfl ?_
    obtain ⟨r39, h40, h⟩ := bndS h
    refine X_callV (ci := 1) (As := [.int a1]) (rest := []) F fkRX8_108 feX2_holds fvX2_holds ⟨_, _, _, rfl, rfl, rfl⟩ (F2_holds_met (D := D - 1) F.2.2.2.2.2.2.2.1 (by omega) h40) rfl rfl (Nat.le_of_ble_eq_true rfl) (rm_ok (by omega) (by decide)) dX8_told_244 ?_
    show XJ shA p l e (rmX D) s m args below meth c 0 0 G 3 (MQ below (QcX shA G ((some (.int r.1), r.2) : Option Value × Mem).1 ((some (.int r.1), r.2) : Option Value × Mem).2) args s 0 0 (AW shA G.2.1)) 247 [(0, .ref 0), (1, .int a1), (2, .int a2)] [.int r39.1] r39.2
    refine X_if_eq (tgt := 262) F dX8_told_247 (by decide) (fun q41 => ?_) (fun q41 => ?_)
    · rw [if_pos q41] at h
      refine X_bipush F dX8_told_262 (v := (-2 : Int32)) rfl ?_
      exact X_iret F hr hlk (retI h) dX8_told_264
    · rw [if_neg q41] at h
      refine X_aload_n F dX8_told_250 rfl ?_
      refine X_getr F ffRX8_44 dX8_told_251 ?_
      refine X_iload_n F dX8_told_254 rfl ?_
      refine X_iconst F dX8_told_255 (v := (0 : Int32)) rfl ?_
      obtain ⟨r42, h43, h⟩ := bndS h
      refine X_callV (ci := 33) (As := [.int a1, .int (0 : Int32)]) (rest := []) F fkRX8_139 feX7_minds fvX7_minds ⟨_, _, _, rfl, rfl, rfl⟩ (F7_minds_met (D := D - 1) F.2.2.2.2.2.2.2.1 (by omega) h43) rfl rfl (Nat.le_of_ble_eq_true rfl) (rm_ok (by omega) (by decide)) dX8_told_256 ?_
      show XJ shA p l e (rmX D) s m args below meth c 0 0 G 3 (MQ below (QcX shA G ((some (.int r.1), r.2) : Option Value × Mem).1 ((some (.int r.1), r.2) : Option Value × Mem).2) args s 0 0 (AW shA G.2.1)) 259 [(0, .ref 0), (1, .int a1), (2, .int a2)] [.int r42.1] r42.2
      refine X_goto (tgt := 264) F dX8_told_259 (by decide) ?_
      exact X_iret F hr hlk (retI h) dX8_told_264
  rw [if_neg q38] at h
  have eq1 := lv_neT q1 (a := 0) (by decide)
  have eq6 := lv_neT q6 (a := 1) (by decide)
  have eq11 := lv_neT q11 (a := 2) (by decide)
  have eq16 := lv_neT q16 (a := 3) (by decide)
  have eq21 := lv_neT q21 (a := 4) (by decide)
  have eq26 := lv_neT q26 (a := 5) (by decide)
  have eq31 := lv_neT q31 (a := 6) (by decide)
  have eq38 := lv_neT q38 (a := 7) (by decide)
  refine X_tout (tgt := 265) F dX8_told_1 (by omega) (by decide) ?_
  refine X_bipush F dX8_told_265 (v := (-2 : Int32)) rfl ?_
  exact X_iret F hr hlk (retI h) dX8_told_267
set_option maxRecDepth 20000 in
theorem F8_told_met {l : Launch} {G : GG} {D : Nat} {r : Int32 × Mem} {M : Mem} {a1 : Int32} {a2 : Int32} (hI : Inj shA G.2.1) (hD : 4 ≤ D) (h : F8_told M a1 a2 = some r) : MetX shA l G yX8_told cX8_told 3 (some .int) D [.ref 0, .int a1, .int a2] M (some (.int r.1), r.2) :=
  X_met hI (by decide +kernel) (Nat.le_of_ble_eq_true rfl) (fun p e s m args below meth c F hr hlk => F8_told_ok F hr hlk hD h)
-- KeepOurPlace.serve
def F8_serve (M : Mem) : Option (Int32 × Mem) :=
    if ¬ (M 1 3) = 0 then
      Option.bind (F7_seconds M (M 2 0) (0 : Int32) (0 : Int32)) fun r2 =>
      Option.bind (F2_dropFirst r2.2) fun r4 =>
      some (r2.1, r4.2)
    else
      some ((-3 : Int32), M)
set_option maxRecDepth 20000 in
theorem F8_serve_ok {p : Program} {l : Launch} {e : Env} {s : State} {m : MethodId} {args : Array Value} {below : List Frame} {meth : Method} {c : Code} {G : GG} {D : Nat} {r : Int32 × Mem} (F : FrP shA G p s m args c RX8 cX8_serve 2) (hr : meth.sig.returnType = (some .int)) (hlk : meth.locks = false) (hD : 4 ≤ D) {M : Mem} (h : F8_serve M = some r) : XJ shA p l e (rmX D) s m args below meth c 0 0 G 2 (MQ below (QcX shA G ((some (.int r.1), r.2) : Option Value × Mem).1 ((some (.int r.1), r.2) : Option Value × Mem).2) args s 0 0 (AW shA G.2.1)) 0 [(0, .ref 0)] [] M := by
  unfold F8_serve at h
  refine X_aload_n F dX8_serve_0 rfl ?_
  refine X_getr F ffRX8_10 dX8_serve_1 ?_
  refine X_geti (v := (M 1 3)) F ffRX8_142 dX8_serve_4 rfl ?_
  refine X_if_ne (tgt := 13) F dX8_serve_7 (by decide) (fun q1 => ?_) (fun q1 => ?_)
  · rw [if_pos q1] at h
    refine X_aload_n F dX8_serve_13 rfl ?_
    refine X_getr F ffRX8_44 dX8_serve_14 ?_
    refine X_aload_n F dX8_serve_17 rfl ?_
    refine X_getr F ffRX8_10 dX8_serve_18 ?_
    refine X_getr F ffRX8_132 dX8_serve_21 ?_
    refine X_iconst F dX8_serve_24 (v := (0 : Int32)) rfl ?_
    refine X_iald (j := 0) (v := (M 2 0)) F rfl (inbV (by decide)) (by decide) rfl dX8_serve_25 ?_
    refine X_iconst F dX8_serve_26 (v := (0 : Int32)) rfl ?_
    refine X_iconst F dX8_serve_27 (v := (0 : Int32)) rfl ?_
    obtain ⟨r2, h3, h⟩ := bndS h
    refine X_callV (ci := 33) (As := [.int (M 2 0), .int (0 : Int32), .int (0 : Int32)]) (rest := []) F fkRX8_135 feX7_seconds fvX7_seconds ⟨_, _, _, rfl, rfl, rfl⟩ (F7_seconds_met (D := D - 1) F.2.2.2.2.2.2.2.1 (by omega) h3) rfl rfl (Nat.le_of_ble_eq_true rfl) (rm_ok (by omega) (by decide)) dX8_serve_28 ?_
    show XJ shA p l e (rmX D) s m args below meth c 0 0 G 2 (MQ below (QcX shA G ((some (.int r.1), r.2) : Option Value × Mem).1 ((some (.int r.1), r.2) : Option Value × Mem).2) args s 0 0 (AW shA G.2.1)) 31 [(0, .ref 0)] [.int r2.1] r2.2
    refine X_istore_n F dX8_serve_31 (by decide) rfl ?_
    refine X_aload_n F dX8_serve_32 rfl ?_
    refine X_getr F ffRX8_10 dX8_serve_33 ?_
    obtain ⟨r4, h5, h⟩ := bndS h
    refine X_callV (ci := 1) (As := []) (rest := []) F fkRX8_146 feX2_dropFirst fvX2_dropFirst ⟨_, _, _, rfl, rfl, rfl⟩ (F2_dropFirst_met (D := D - 1) F.2.2.2.2.2.2.2.1 (by omega) h5) rfl rfl (Nat.le_of_ble_eq_true rfl) (rm_ok (by omega) (by decide)) dX8_serve_36 ?_
    show XJ shA p l e (rmX D) s m args below meth c 0 0 G 2 (MQ below (QcX shA G ((some (.int r.1), r.2) : Option Value × Mem).1 ((some (.int r.1), r.2) : Option Value × Mem).2) args s 0 0 (AW shA G.2.1)) 39 [(1, .int r2.1), (0, .ref 0)] [] r4.2
    refine X_iload_n F dX8_serve_39 rfl ?_
    exact X_iret F hr hlk (retI h) dX8_serve_40
  · rw [if_neg (fun z => z q1)] at h
    refine X_bipush F dX8_serve_10 (v := (-3 : Int32)) rfl ?_
    exact X_iret F hr hlk (retI h) dX8_serve_12
set_option maxRecDepth 20000 in
theorem F8_serve_met {l : Launch} {G : GG} {D : Nat} {r : Int32 × Mem} {M : Mem} (hI : Inj shA G.2.1) (hD : 4 ≤ D) (h : F8_serve M = some r) : MetX shA l G yX8_serve cX8_serve 2 (some .int) D [.ref 0] M (some (.int r.1), r.2) :=
  X_met hI (by decide +kernel) (Nat.le_of_ble_eq_true rfl) (fun p e s m args below meth c F hr hlk => F8_serve_ok F hr hlk hD h)
-- KeepOurPlace.feed
def F8_feed (M : Mem) (a1 : Int32) : Option (Int32 × Mem) :=
    if a1 < 0 then
      some ((-2 : Int32), M)
    else
      if a1 ≤ (255 : Int32) then
        Option.bind (F3_append M a1) fun r3 =>
        if r3.1 = 0 then
          some ((-4 : Int32), r3.2)
        else
          some ((r3.2 9 1), r3.2)
      else
        some ((-2 : Int32), M)
set_option maxRecDepth 20000 in
theorem F8_feed_ok {p : Program} {l : Launch} {e : Env} {s : State} {m : MethodId} {args : Array Value} {below : List Frame} {meth : Method} {c : Code} {G : GG} {D : Nat} {r : Int32 × Mem} (F : FrP shA G p s m args c RX8 cX8_feed 2) (hr : meth.sig.returnType = (some .int)) (hlk : meth.locks = false) (hD : 2 ≤ D) {M : Mem} {a1 : Int32} (h : F8_feed M a1 = some r) : XJ shA p l e (rmX D) s m args below meth c 0 0 G 2 (MQ below (QcX shA G ((some (.int r.1), r.2) : Option Value × Mem).1 ((some (.int r.1), r.2) : Option Value × Mem).2) args s 0 0 (AW shA G.2.1)) 0 [(0, .ref 0), (1, .int a1)] [] M := by
  unfold F8_feed at h
  refine X_iload_n F dX8_feed_0 rfl ?_
  refine X_if_lt (tgt := 11) F dX8_feed_1 (by decide) (fun q1 => ?_) (fun q1 => ?_)
  · rw [if_pos q1] at h
    refine X_bipush F dX8_feed_11 (v := (-2 : Int32)) rfl ?_
    exact X_iret F hr hlk (retI h) dX8_feed_13
  · rw [if_neg q1] at h
    refine X_iload_n F dX8_feed_4 rfl ?_
    refine X_sipush F dX8_feed_5 (v := (255 : Int32)) rfl ?_
    refine X_icmp_le (tgt := 14) F dX8_feed_8 (by decide) (fun q2 => ?_) (fun q2 => ?_)
    · rw [if_pos q2] at h
      refine X_aload_n F dX8_feed_14 rfl ?_
      refine X_getr F ffRX8_26 dX8_feed_15 ?_
      refine X_iload_n F dX8_feed_18 rfl ?_
      obtain ⟨r3, h4, h⟩ := bndS h
      refine X_callV (ci := 9) (As := [.int a1]) (rest := []) F fkRX8_83 feX3_append fvX3_append ⟨_, _, _, rfl, rfl, rfl⟩ (F3_append_met (D := D - 1) F.2.2.2.2.2.2.2.1 (by omega) h4) rfl rfl (Nat.le_of_ble_eq_true rfl) (rm_ok (by omega) (by decide)) dX8_feed_19 ?_
      show XJ shA p l e (rmX D) s m args below meth c 0 0 G 2 (MQ below (QcX shA G ((some (.int r.1), r.2) : Option Value × Mem).1 ((some (.int r.1), r.2) : Option Value × Mem).2) args s 0 0 (AW shA G.2.1)) 22 [(0, .ref 0), (1, .int a1)] [.int r3.1] r3.2
      refine X_if_eq (tgt := 35) F dX8_feed_22 (by decide) (fun q5 => ?_) (fun q5 => ?_)
      · rw [if_pos q5] at h
        refine X_bipush F dX8_feed_35 (v := (-4 : Int32)) rfl ?_
        exact X_iret F hr hlk (retI h) dX8_feed_37
      · rw [if_neg q5] at h
        refine X_aload_n F dX8_feed_25 rfl ?_
        refine X_getr F ffRX8_26 dX8_feed_26 ?_
        refine X_geti (v := (r3.2 9 1)) F ffRX8_149 dX8_feed_29 rfl ?_
        refine X_goto (tgt := 37) F dX8_feed_32 (by decide) ?_
        exact X_iret F hr hlk (retI h) dX8_feed_37
    · rw [if_neg q2] at h
      refine X_bipush F dX8_feed_11 (v := (-2 : Int32)) rfl ?_
      exact X_iret F hr hlk (retI h) dX8_feed_13
set_option maxRecDepth 20000 in
theorem F8_feed_met {l : Launch} {G : GG} {D : Nat} {r : Int32 × Mem} {M : Mem} {a1 : Int32} (hI : Inj shA G.2.1) (hD : 2 ≤ D) (h : F8_feed M a1 = some r) : MetX shA l G yX8_feed cX8_feed 2 (some .int) D [.ref 0, .int a1] M (some (.int r.1), r.2) :=
  X_met hI (by decide +kernel) (Nat.le_of_ble_eq_true rfl) (fun p e s m args below meth c F hr hlk => F8_feed_ok F hr hlk hD h)
-- KeepOurPlace.text
def F8_text_j57 (M : Mem) (y0 : Int32) : Option (Int32 × Mem) :=
    Option.bind (F3_clear M) fun r7 =>
    some (y0, r7.2)
def F8_text (M : Mem) : Option (Int32 × Mem) :=
    if (M 16 5) < (6 : Int32) then
      Option.bind (F3_read M) fun r2 =>
      if ¬ (r2.2 9 8) = (-1 : Int32) then
        F8_text_j57 r2.2 ((-100 : Int32) - (r2.2 9 8))
      else
        Option.bind (F4_add r2.2) fun r5 =>
        F8_text_j57 r5.2 r5.1
    else
      some ((-4 : Int32), M)
set_option maxRecDepth 20000 in
theorem F8_text_j57_ok {p : Program} {l : Launch} {e : Env} {s : State} {m : MethodId} {args : Array Value} {below : List Frame} {meth : Method} {c : Code} {G : GG} {D : Nat} {r : Int32 × Mem} (F : FrP shA G p s m args c RX8 cX8_text 2) (hr : meth.sig.returnType = (some .int)) (hlk : meth.locks = false) (hD : 86 ≤ D) {M : Mem} {y0 : Int32} (h : F8_text_j57 M y0 = some r) : XJ shA p l e (rmX D) s m args below meth c 0 0 G 2 (MQ below (QcX shA G ((some (.int r.1), r.2) : Option Value × Mem).1 ((some (.int r.1), r.2) : Option Value × Mem).2) args s 0 0 (AW shA G.2.1)) 57 [(0, .ref 0)] [.int y0] M := by
  unfold F8_text_j57 at h
  refine X_istore_n F dX8_text_57 (by decide) rfl ?_
  refine X_aload_n F dX8_text_58 rfl ?_
  refine X_getr F ffRX8_26 dX8_text_59 ?_
  obtain ⟨r7, h8, h⟩ := bndS h
  refine X_callV (ci := 9) (As := []) (rest := []) F fkRX8_94 feX3_clear fvX3_clear ⟨_, _, _, rfl, rfl, rfl⟩ (F3_clear_met (D := D - 1) F.2.2.2.2.2.2.2.1 (by omega) h8) rfl rfl (Nat.le_of_ble_eq_true rfl) (rm_ok (by omega) (by decide)) dX8_text_62 ?_
  show XJ shA p l e (rmX D) s m args below meth c 0 0 G 2 (MQ below (QcX shA G ((some (.int r.1), r.2) : Option Value × Mem).1 ((some (.int r.1), r.2) : Option Value × Mem).2) args s 0 0 (AW shA G.2.1)) 65 [(1, .int y0), (0, .ref 0)] [] r7.2
  refine X_iload_n F dX8_text_65 rfl ?_
  exact X_iret F hr hlk (retI h) dX8_text_66
set_option maxRecDepth 20000 in
theorem F8_text_ok {p : Program} {l : Launch} {e : Env} {s : State} {m : MethodId} {args : Array Value} {below : List Frame} {meth : Method} {c : Code} {G : GG} {D : Nat} {r : Int32 × Mem} (F : FrP shA G p s m args c RX8 cX8_text 2) (hr : meth.sig.returnType = (some .int)) (hlk : meth.locks = false) (hD : 86 ≤ D) {M : Mem} (h : F8_text M = some r) : XJ shA p l e (rmX D) s m args below meth c 0 0 G 2 (MQ below (QcX shA G ((some (.int r.1), r.2) : Option Value × Mem).1 ((some (.int r.1), r.2) : Option Value × Mem).2) args s 0 0 (AW shA G.2.1)) 0 [(0, .ref 0)] [] M := by
  unfold F8_text at h
  refine X_aload_n F dX8_text_0 rfl ?_
  refine X_getr F ffRX8_35 dX8_text_1 ?_
  refine X_geti (v := (M 16 5)) F ffRX8_152 dX8_text_4 rfl ?_
  refine X_bipush F dX8_text_7 (v := (6 : Int32)) rfl ?_
  refine X_icmp_lt (tgt := 15) F dX8_text_9 (by decide) (fun q1 => ?_) (fun q1 => ?_)
  · rw [if_pos q1] at h
    refine X_aload_n F dX8_text_15 rfl ?_
    refine X_getr F ffRX8_26 dX8_text_16 ?_
    obtain ⟨r2, h3, h⟩ := bndS h
    refine X_callV (ci := 9) (As := []) (rest := []) F fkRX8_87 feX3_read fvX3_read ⟨_, _, _, rfl, rfl, rfl⟩ (F3_read_met (D := D - 1) F.2.2.2.2.2.2.2.1 (by omega) h3) rfl rfl (Nat.le_of_ble_eq_true rfl) (rm_ok (by omega) (by decide)) dX8_text_19 ?_
    show XJ shA p l e (rmX D) s m args below meth c 0 0 G 2 (MQ below (QcX shA G ((some (.int r.1), r.2) : Option Value × Mem).1 ((some (.int r.1), r.2) : Option Value × Mem).2) args s 0 0 (AW shA G.2.1)) 22 [(0, .ref 0)] [] r2.2
    refine X_aload_n F dX8_text_22 rfl ?_
    refine X_getr F ffRX8_26 dX8_text_23 ?_
    refine X_geti (v := (r2.2 9 8)) F ffRX8_153 dX8_text_26 rfl ?_
    refine X_iconst F dX8_text_29 (v := (-1 : Int32)) rfl ?_
    refine X_icmp_ne (tgt := 47) F dX8_text_30 (by decide) (fun q4 => ?_) (fun q4 => ?_)
    · rw [if_pos q4] at h
      refine X_bipush F dX8_text_47 (v := (-100 : Int32)) rfl ?_
      refine X_aload_n F dX8_text_49 rfl ?_
      refine X_getr F ffRX8_26 dX8_text_50 ?_
      refine X_geti (v := (r2.2 9 8)) F ffRX8_153 dX8_text_53 rfl ?_
      refine X_isub F dX8_text_56 ?_
      exact F8_text_j57_ok F hr hlk hD h
    · rw [if_neg (fun z => z q4)] at h
      refine X_aload_n F dX8_text_33 rfl ?_
      refine X_getr F ffRX8_35 dX8_text_34 ?_
      refine X_aload_n F dX8_text_37 rfl ?_
      refine X_getr F ffRX8_26 dX8_text_38 ?_
      obtain ⟨r5, h6, h⟩ := bndS h
      refine X_callV (ci := 16) (As := [.ref 9]) (rest := []) F fkRX8_90 feX4_add fvX4_add ⟨_, _, _, rfl, rfl, rfl⟩ (F4_add_met (D := D - 1) F.2.2.2.2.2.2.2.1 (by omega) h6) rfl rfl (Nat.le_of_ble_eq_true rfl) (rm_ok (by omega) (by decide)) dX8_text_41 ?_
      show XJ shA p l e (rmX D) s m args below meth c 0 0 G 2 (MQ below (QcX shA G ((some (.int r.1), r.2) : Option Value × Mem).1 ((some (.int r.1), r.2) : Option Value × Mem).2) args s 0 0 (AW shA G.2.1)) 44 [(0, .ref 0)] [.int r5.1] r5.2
      refine X_goto (tgt := 57) F dX8_text_44 (by decide) ?_
      exact F8_text_j57_ok F hr hlk hD h
  · rw [if_neg q1] at h
    refine X_bipush F dX8_text_12 (v := (-4 : Int32)) rfl ?_
    exact X_iret F hr hlk (retI h) dX8_text_14
set_option maxRecDepth 20000 in
theorem F8_text_met {l : Launch} {G : GG} {D : Nat} {r : Int32 × Mem} {M : Mem} (hI : Inj shA G.2.1) (hD : 86 ≤ D) (h : F8_text M = some r) : MetX shA l G yX8_text cX8_text 2 (some .int) D [.ref 0] M (some (.int r.1), r.2) :=
  X_met hI (by decide +kernel) (Nat.le_of_ble_eq_true rfl) (fun p e s m args below meth c F hr hlk => F8_text_ok F hr hlk hD h)
-- KeepOurPlace.force
def F8_force (M : Mem) (a1 : Int32) : Option (Int32 × Mem) :=
    if a1 < 0 then
      some ((-2 : Int32), M)
    else
      if a1 < (M 16 5) then
        some ((M 16 6), (up2 M 16 6 a1))
      else
        some ((-2 : Int32), M)
set_option maxRecDepth 20000 in
theorem F8_force_ok {p : Program} {l : Launch} {e : Env} {s : State} {m : MethodId} {args : Array Value} {below : List Frame} {meth : Method} {c : Code} {G : GG} {D : Nat} {r : Int32 × Mem} (F : FrP shA G p s m args c RX8 cX8_force 3) (hr : meth.sig.returnType = (some .int)) (hlk : meth.locks = false) (hD : 1 ≤ D) {M : Mem} {a1 : Int32} (h : F8_force M a1 = some r) : XJ shA p l e (rmX D) s m args below meth c 0 0 G 3 (MQ below (QcX shA G ((some (.int r.1), r.2) : Option Value × Mem).1 ((some (.int r.1), r.2) : Option Value × Mem).2) args s 0 0 (AW shA G.2.1)) 0 [(0, .ref 0), (1, .int a1)] [] M := by
  unfold F8_force at h
  refine X_iload_n F dX8_force_0 rfl ?_
  refine X_if_lt (tgt := 15) F dX8_force_1 (by decide) (fun q1 => ?_) (fun q1 => ?_)
  · rw [if_pos q1] at h
    refine X_bipush F dX8_force_15 (v := (-2 : Int32)) rfl ?_
    exact X_iret F hr hlk (retI h) dX8_force_17
  · rw [if_neg q1] at h
    refine X_iload_n F dX8_force_4 rfl ?_
    refine X_aload_n F dX8_force_5 rfl ?_
    refine X_getr F ffRX8_35 dX8_force_6 ?_
    refine X_geti (v := (M 16 5)) F ffRX8_152 dX8_force_9 rfl ?_
    refine X_icmp_lt (tgt := 18) F dX8_force_12 (by decide) (fun q2 => ?_) (fun q2 => ?_)
    · rw [if_pos q2] at h
      refine X_aload_n F dX8_force_18 rfl ?_
      refine X_getr F ffRX8_35 dX8_force_19 ?_
      refine X_geti (v := (M 16 6)) F ffRX8_156 dX8_force_22 rfl ?_
      refine X_istore_n F dX8_force_25 (by decide) rfl ?_
      refine X_aload_n F dX8_force_26 rfl ?_
      refine X_getr F ffRX8_35 dX8_force_27 ?_
      refine X_iload_n F dX8_force_30 rfl ?_
      refine X_puti F ffRX8_156 fw4_6 (by decide) dX8_force_31 ?_
      refine X_iload_n F dX8_force_34 rfl ?_
      exact X_iret F hr hlk (retI h) dX8_force_35
    · rw [if_neg q2] at h
      refine X_bipush F dX8_force_15 (v := (-2 : Int32)) rfl ?_
      exact X_iret F hr hlk (retI h) dX8_force_17
set_option maxRecDepth 20000 in
theorem F8_force_met {l : Launch} {G : GG} {D : Nat} {r : Int32 × Mem} {M : Mem} {a1 : Int32} (hI : Inj shA G.2.1) (hD : 1 ≤ D) (h : F8_force M a1 = some r) : MetX shA l G yX8_force cX8_force 3 (some .int) D [.ref 0, .int a1] M (some (.int r.1), r.2) :=
  X_met hI (by decide +kernel) (Nat.le_of_ble_eq_true rfl) (fun p e s m args below meth c F hr hlk => F8_force_ok F hr hlk hD h)
-- KeepOurPlace.turn
def F8_turn (M : Mem) : Option (Int32 × Mem) :=
    Option.bind (F7_turnChanged M (-1 : Int32) (-1 : Int32)) fun r1 =>
    some (r1.1, r1.2)
set_option maxRecDepth 20000 in
theorem F8_turn_ok {p : Program} {l : Launch} {e : Env} {s : State} {m : MethodId} {args : Array Value} {below : List Frame} {meth : Method} {c : Code} {G : GG} {D : Nat} {r : Int32 × Mem} (F : FrP shA G p s m args c RX8 cX8_turn 1) (hr : meth.sig.returnType = (some .int)) (hlk : meth.locks = false) (hD : 5 ≤ D) {M : Mem} (h : F8_turn M = some r) : XJ shA p l e (rmX D) s m args below meth c 0 0 G 1 (MQ below (QcX shA G ((some (.int r.1), r.2) : Option Value × Mem).1 ((some (.int r.1), r.2) : Option Value × Mem).2) args s 0 0 (AW shA G.2.1)) 0 [(0, .ref 0)] [] M := by
  unfold F8_turn at h
  refine X_aload_n F dX8_turn_0 rfl ?_
  refine X_getr F ffRX8_44 dX8_turn_1 ?_
  refine X_iconst F dX8_turn_4 (v := (-1 : Int32)) rfl ?_
  refine X_iconst F dX8_turn_5 (v := (-1 : Int32)) rfl ?_
  obtain ⟨r1, h2, h⟩ := bndS h
  refine X_callV (ci := 33) (As := [.int (-1 : Int32), .int (-1 : Int32)]) (rest := []) F fkRX8_159 feX7_turnChanged fvX7_turnChanged ⟨_, _, _, rfl, rfl, rfl⟩ (F7_turnChanged_met (D := D - 1) F.2.2.2.2.2.2.2.1 (by omega) h2) rfl rfl (Nat.le_of_ble_eq_true rfl) (rm_ok (by omega) (by decide)) dX8_turn_6 ?_
  show XJ shA p l e (rmX D) s m args below meth c 0 0 G 1 (MQ below (QcX shA G ((some (.int r.1), r.2) : Option Value × Mem).1 ((some (.int r.1), r.2) : Option Value × Mem).2) args s 0 0 (AW shA G.2.1)) 9 [(0, .ref 0)] [.int r1.1] r1.2
  exact X_iret F hr hlk (retI h) dX8_turn_9
set_option maxRecDepth 20000 in
theorem F8_turn_met {l : Launch} {G : GG} {D : Nat} {r : Int32 × Mem} {M : Mem} (hI : Inj shA G.2.1) (hD : 5 ≤ D) (h : F8_turn M = some r) : MetX shA l G yX8_turn cX8_turn 1 (some .int) D [.ref 0] M (some (.int r.1), r.2) :=
  X_met hI (by decide +kernel) (Nat.le_of_ble_eq_true rfl) (fun p e s m args below meth c F hr hlk => F8_turn_ok F hr hlk hD h)
-- KeepOurPlace.readErrand
def F8_readErrand (M : Mem) (a1 : Int32) : Option (Int32 × Mem) :=
    Option.bind (F5_holds M a1) fun r1 =>
    if r1.1 = 0 then
      some ((0 : Int32), r1.2)
    else
      Option.bind (F5_isMissing r1.2 a1) fun r4 =>
      if ¬ r4.1 = 0 then
        some ((0 : Int32), r4.2)
      else
        if inb a1 4 = true then
        Option.bind (F0_takeRow r4.2 (46 + (Int32.toNatClampNeg a1)) 40 (r4.2 44 (Int32.toNatClampNeg a1))) fun r8 =>
        if r8.1 = 0 then
          some ((0 : Int32), r8.2)
        else
          some ((1 : Int32), r8.2)
        else none
set_option maxRecDepth 20000 in
theorem F8_readErrand_ok {p : Program} {l : Launch} {e : Env} {s : State} {m : MethodId} {args : Array Value} {below : List Frame} {meth : Method} {c : Code} {G : GG} {D : Nat} {r : Int32 × Mem} (F : FrP shA G p s m args c RX8 cX8_readErrand 2) (hr : meth.sig.returnType = (some .boolean)) (hlk : meth.locks = false) (hD : 3 ≤ D) {M : Mem} {a1 : Int32} (h : F8_readErrand M a1 = some r) : XJ shA p l e (rmX D) s m args below meth c 0 0 G 2 (MQ below (QcX shA G ((some (.int r.1), r.2) : Option Value × Mem).1 ((some (.int r.1), r.2) : Option Value × Mem).2) args s 0 0 (AW shA G.2.1)) 0 [(0, .ref 0), (1, .int a1)] [] M := by
  unfold F8_readErrand at h
  refine X_aload_n F dX8_readErrand_0 rfl ?_
  refine X_getr F ffRX8_60 dX8_readErrand_1 ?_
  refine X_iload_n F dX8_readErrand_4 rfl ?_
  obtain ⟨r1, h2, h⟩ := bndS h
  refine X_callV (ci := 42) (As := [.int a1]) (rest := []) F fkRX8_230 feX5_holds fvX5_holds ⟨_, _, _, rfl, rfl, rfl⟩ (F5_holds_met (D := D - 1) F.2.2.2.2.2.2.2.1 (by omega) h2) rfl rfl (Nat.le_of_ble_eq_true rfl) (rm_ok (by omega) (by decide)) dX8_readErrand_5 ?_
  show XJ shA p l e (rmX D) s m args below meth c 0 0 G 2 (MQ below (QcX shA G ((some (.int r.1), r.2) : Option Value × Mem).1 ((some (.int r.1), r.2) : Option Value × Mem).2) args s 0 0 (AW shA G.2.1)) 8 [(0, .ref 0), (1, .int a1)] [.int r1.1] r1.2
  refine X_if_eq (tgt := 54) F dX8_readErrand_8 (by decide) (fun q3 => ?_) (fun q3 => ?_)
  · rw [if_pos q3] at h
    refine X_iconst F dX8_readErrand_54 (v := (0 : Int32)) rfl ?_
    exact X_zret F hr hlk rfl (retI h) dX8_readErrand_55
  · rw [if_neg q3] at h
    refine X_aload_n F dX8_readErrand_11 rfl ?_
    refine X_getr F ffRX8_60 dX8_readErrand_12 ?_
    refine X_iload_n F dX8_readErrand_15 rfl ?_
    obtain ⟨r4, h5, h⟩ := bndS h
    refine X_callV (ci := 42) (As := [.int a1]) (rest := []) F fkRX8_231 feX5_isMissing fvX5_isMissing ⟨_, _, _, rfl, rfl, rfl⟩ (F5_isMissing_met (D := D - 1) F.2.2.2.2.2.2.2.1 (by omega) h5) rfl rfl (Nat.le_of_ble_eq_true rfl) (rm_ok (by omega) (by decide)) dX8_readErrand_16 ?_
    show XJ shA p l e (rmX D) s m args below meth c 0 0 G 2 (MQ below (QcX shA G ((some (.int r.1), r.2) : Option Value × Mem).1 ((some (.int r.1), r.2) : Option Value × Mem).2) args s 0 0 (AW shA G.2.1)) 19 [(0, .ref 0), (1, .int a1)] [.int r4.1] r4.2
    refine X_if_ne (tgt := 54) F dX8_readErrand_19 (by decide) (fun q6 => ?_) (fun q6 => ?_)
    · rw [if_pos q6] at h
      refine X_iconst F dX8_readErrand_54 (v := (0 : Int32)) rfl ?_
      exact X_zret F hr hlk rfl (retI h) dX8_readErrand_55
    · rw [if_neg (fun z => z q6)] at h
      refine X_aload_n F dX8_readErrand_22 rfl ?_
      refine X_getr F ffRX8_53 dX8_readErrand_23 ?_
      refine X_aload_n F dX8_readErrand_26 rfl ?_
      refine X_getr F ffRX8_60 dX8_readErrand_27 ?_
      refine X_getr F ffRX8_237 dX8_readErrand_30 ?_
      refine X_iload_n F dX8_readErrand_33 rfl ?_
      obtain ⟨q7, h⟩ := ifS h
      refine X_aald (b := 46) F rfl (inbV q7) rfl dX8_readErrand_34 ?_
      refine X_aload_n F dX8_readErrand_35 rfl ?_
      refine X_getr F ffRX8_60 dX8_readErrand_36 ?_
      refine X_getr F ffRX8_234 dX8_readErrand_39 ?_
      refine X_iload_n F dX8_readErrand_42 rfl ?_
      refine X_iald (j := (Int32.toNatClampNeg a1)) (v := (r4.2 44 (Int32.toNatClampNeg a1))) F rfl (inbV q7) rfl rfl dX8_readErrand_43 ?_
      obtain ⟨r8, h9, h⟩ := bndS h
      refine X_callV (ci := 34) (As := [.ref (46 + (Int32.toNatClampNeg a1)), .int (r4.2 44 (Int32.toNatClampNeg a1))]) (rest := []) F fkRX8_241 feX0_takeRow fvX0_takeRow ⟨_, _, _, rfl, rfl, rfl⟩ (F0_takeRow_met (D := D - 1) F.2.2.2.2.2.2.2.1 (by omega) (shR46 (inbV q7)) h9) rfl rfl (Nat.le_of_ble_eq_true rfl) (rm_ok (by omega) (by decide)) dX8_readErrand_44 ?_
      show XJ shA p l e (rmX D) s m args below meth c 0 0 G 2 (MQ below (QcX shA G ((some (.int r.1), r.2) : Option Value × Mem).1 ((some (.int r.1), r.2) : Option Value × Mem).2) args s 0 0 (AW shA G.2.1)) 47 [(0, .ref 0), (1, .int a1)] [.int r8.1] r8.2
      refine X_if_eq (tgt := 54) F dX8_readErrand_47 (by decide) (fun q10 => ?_) (fun q10 => ?_)
      · rw [if_pos q10] at h
        refine X_iconst F dX8_readErrand_54 (v := (0 : Int32)) rfl ?_
        exact X_zret F hr hlk rfl (retI h) dX8_readErrand_55
      · rw [if_neg q10] at h
        refine X_iconst F dX8_readErrand_50 (v := (1 : Int32)) rfl ?_
        refine X_goto (tgt := 55) F dX8_readErrand_51 (by decide) ?_
        exact X_zret F hr hlk rfl (retI h) dX8_readErrand_55
set_option maxRecDepth 20000 in
theorem F8_readErrand_met {l : Launch} {G : GG} {D : Nat} {r : Int32 × Mem} {M : Mem} {a1 : Int32} (hI : Inj shA G.2.1) (hD : 3 ≤ D) (h : F8_readErrand M a1 = some r) : MetX shA l G yX8_readErrand cX8_readErrand 2 (some .boolean) D [.ref 0, .int a1] M (some (.int r.1), r.2) :=
  X_met hI (by decide +kernel) (Nat.le_of_ble_eq_true rfl) (fun p e s m args below meth c F hr hlk => F8_readErrand_ok F hr hlk hD h)
-- KeepOurPlace.errand
def F8_errand (M : Mem) (a1 : Int32) (a2 : Int32) : Option (Int32 × Mem) :=
    if a2 < 0 then
      some ((-100000 : Int32), M)
    else
      if (3 : Int32) < a2 then
        some ((-100000 : Int32), M)
      else
        Option.bind (F8_readErrand M a1) fun r3 =>
        if ¬ r3.1 = 0 then
          Option.bind (F0_prepare r3.2) fun r6 =>
          Option.bind (F0_backWithout r6.2 (-1 : Int32)) fun r8 =>
          if a2 = (0 : Int32) then
            some (r8.1, r8.2)
          else
          if a2 = (1 : Int32) then
            Option.bind (F0_letBy r8.2 r8.1) fun r12 =>
            some (r12.1, r12.2)
          else
          if a2 = (2 : Int32) then
            Option.bind (F0_gain r8.2) fun r15 =>
            some (r15.1, r15.2)
          else
          Option.bind (F0_worth r8.2) fun r17 =>
          some (r17.1, r17.2)
        else
          some ((-100000 : Int32), r3.2)
set_option maxRecDepth 20000 in
theorem F8_errand_ok {p : Program} {l : Launch} {e : Env} {s : State} {m : MethodId} {args : Array Value} {below : List Frame} {meth : Method} {c : Code} {G : GG} {D : Nat} {r : Int32 × Mem} (F : FrP shA G p s m args c RX8 cX8_errand 4) (hr : meth.sig.returnType = (some .int)) (hlk : meth.locks = false) (hD : 7 ≤ D) {M : Mem} {a1 : Int32} {a2 : Int32} (h : F8_errand M a1 a2 = some r) : XJ shA p l e (rmX D) s m args below meth c 0 0 G 4 (MQ below (QcX shA G ((some (.int r.1), r.2) : Option Value × Mem).1 ((some (.int r.1), r.2) : Option Value × Mem).2) args s 0 0 (AW shA G.2.1)) 0 [(0, .ref 0), (1, .int a1), (2, .int a2)] [] M := by
  unfold F8_errand at h
  refine X_iload_n F dX8_errand_0 rfl ?_
  refine X_if_lt (tgt := 17) F dX8_errand_1 (by decide) (fun q1 => ?_) (fun q1 => ?_)
  · rw [if_pos q1] at h
    refine X_ldc F fcRX8_165 dX8_errand_17 ?_
    exact X_iret F hr hlk (retI h) dX8_errand_19
  · rw [if_neg q1] at h
    refine X_iload_n F dX8_errand_4 rfl ?_
    refine X_iconst F dX8_errand_5 (v := (3 : Int32)) rfl ?_
    refine X_icmp_gt (tgt := 17) F dX8_errand_6 (by decide) (fun q2 => ?_) (fun q2 => ?_)
    · rw [if_pos q2] at h
      refine X_ldc F fcRX8_165 dX8_errand_17 ?_
      exact X_iret F hr hlk (retI h) dX8_errand_19
    · rw [if_neg q2] at h
      refine X_aload_n F dX8_errand_9 rfl ?_
      refine X_iload_n F dX8_errand_10 rfl ?_
      obtain ⟨r3, h4, h⟩ := bndS h
      refine X_callV (ci := 0) (As := [.int a1]) (rest := []) F fkRX8_162 feX8_readErrand fvX8_readErrand ⟨_, _, _, rfl, rfl, rfl⟩ (F8_readErrand_met (D := D - 1) F.2.2.2.2.2.2.2.1 (by omega) h4) rfl rfl (Nat.le_of_ble_eq_true rfl) (rm_ok (by omega) (by decide)) dX8_errand_11 ?_
      show XJ shA p l e (rmX D) s m args below meth c 0 0 G 4 (MQ below (QcX shA G ((some (.int r.1), r.2) : Option Value × Mem).1 ((some (.int r.1), r.2) : Option Value × Mem).2) args s 0 0 (AW shA G.2.1)) 14 [(0, .ref 0), (1, .int a1), (2, .int a2)] [.int r3.1] r3.2
      refine X_if_ne (tgt := 20) F dX8_errand_14 (by decide) (fun q5 => ?_) (fun q5 => ?_)
      · rw [if_pos q5] at h
        refine X_aload_n F dX8_errand_20 rfl ?_
        refine X_getr F ffRX8_53 dX8_errand_21 ?_
        obtain ⟨r6, h7, h⟩ := bndS h
        refine X_callV (ci := 34) (As := []) (rest := []) F fkRX8_166 feX0_prepare fvX0_prepare ⟨_, _, _, rfl, rfl, rfl⟩ (F0_prepare_met (D := D - 1) F.2.2.2.2.2.2.2.1 (by omega) h7) rfl rfl (Nat.le_of_ble_eq_true rfl) (rm_ok (by omega) (by decide)) dX8_errand_24 ?_
        show XJ shA p l e (rmX D) s m args below meth c 0 0 G 4 (MQ below (QcX shA G ((some (.int r.1), r.2) : Option Value × Mem).1 ((some (.int r.1), r.2) : Option Value × Mem).2) args s 0 0 (AW shA G.2.1)) 27 [(0, .ref 0), (1, .int a1), (2, .int a2)] [] r6.2
        refine X_aload_n F dX8_errand_27 rfl ?_
        refine X_getr F ffRX8_53 dX8_errand_28 ?_
        refine X_iconst F dX8_errand_31 (v := (-1 : Int32)) rfl ?_
        obtain ⟨r8, h9, h⟩ := bndS h
        refine X_callV (ci := 34) (As := [.int (-1 : Int32)]) (rest := []) F fkRX8_169 feX0_backWithout fvX0_backWithout ⟨_, _, _, rfl, rfl, rfl⟩ (F0_backWithout_met (D := D - 1) F.2.2.2.2.2.2.2.1 (by omega) h9) rfl rfl (Nat.le_of_ble_eq_true rfl) (rm_ok (by omega) (by decide)) dX8_errand_32 ?_
        show XJ shA p l e (rmX D) s m args below meth c 0 0 G 4 (MQ below (QcX shA G ((some (.int r.1), r.2) : Option Value × Mem).1 ((some (.int r.1), r.2) : Option Value × Mem).2) args s 0 0 (AW shA G.2.1)) 35 [(0, .ref 0), (1, .int a1), (2, .int a2)] [.int r8.1] r8.2
        refine X_istore_n F dX8_errand_35 (by decide) rfl ?_
        refine X_iload_n F dX8_errand_36 rfl ?_
        by_cases q10 : a2 = (0 : Int32)
        · rw [if_pos q10] at h
          refine X_tin (tgt := 64) (off := 27) F dX8_errand_37 (by rw [q10]; decide) (by decide) ?_
          refine X_iload_n F dX8_errand_64 rfl ?_
          exact X_iret F hr hlk (retI h) dX8_errand_65
        rw [if_neg q10] at h
        by_cases q11 : a2 = (1 : Int32)
        · rw [if_pos q11] at h
          refine X_tin (tgt := 66) (off := 29) F dX8_errand_37 (by rw [q11]; decide) (by decide) ?_
          refine X_aload_n F dX8_errand_66 rfl ?_
          refine X_getr F ffRX8_53 dX8_errand_67 ?_
          refine X_iload_n F dX8_errand_70 rfl ?_
          obtain ⟨r12, h13, h⟩ := bndS h
          refine X_callV (ci := 34) (As := [.int r8.1]) (rest := []) F fkRX8_172 feX0_letBy fvX0_letBy ⟨_, _, _, rfl, rfl, rfl⟩ (F0_letBy_met (D := D - 1) F.2.2.2.2.2.2.2.1 (by omega) h13) rfl rfl (Nat.le_of_ble_eq_true rfl) (rm_ok (by omega) (by decide)) dX8_errand_71 ?_
          show XJ shA p l e (rmX D) s m args below meth c 0 0 G 4 (MQ below (QcX shA G ((some (.int r.1), r.2) : Option Value × Mem).1 ((some (.int r.1), r.2) : Option Value × Mem).2) args s 0 0 (AW shA G.2.1)) 74 [(3, .int r8.1), (0, .ref 0), (1, .int a1), (2, .int a2)] [.int r12.1] r12.2
          exact X_iret F hr hlk (retI h) dX8_errand_74
        rw [if_neg q11] at h
        by_cases q14 : a2 = (2 : Int32)
        · rw [if_pos q14] at h
          refine X_tin (tgt := 75) (off := 38) F dX8_errand_37 (by rw [q14]; decide) (by decide) ?_
          refine X_aload_n F dX8_errand_75 rfl ?_
          refine X_getr F ffRX8_53 dX8_errand_76 ?_
          obtain ⟨r15, h16, h⟩ := bndS h
          refine X_callV (ci := 34) (As := []) (rest := []) F fkRX8_175 feX0_gain fvX0_gain ⟨_, _, _, rfl, rfl, rfl⟩ (F0_gain_met (D := D - 1) F.2.2.2.2.2.2.2.1 (by omega) h16) rfl rfl (Nat.le_of_ble_eq_true rfl) (rm_ok (by omega) (by decide)) dX8_errand_79 ?_
          show XJ shA p l e (rmX D) s m args below meth c 0 0 G 4 (MQ below (QcX shA G ((some (.int r.1), r.2) : Option Value × Mem).1 ((some (.int r.1), r.2) : Option Value × Mem).2) args s 0 0 (AW shA G.2.1)) 82 [(3, .int r8.1), (0, .ref 0), (1, .int a1), (2, .int a2)] [.int r15.1] r15.2
          exact X_iret F hr hlk (retI h) dX8_errand_82
        rw [if_neg q14] at h
        have eq10 := lv_neT q10 (a := 0) (by decide)
        have eq11 := lv_neT q11 (a := 1) (by decide)
        have eq14 := lv_neT q14 (a := 2) (by decide)
        refine X_tout (tgt := 83) F dX8_errand_37 (by omega) (by decide) ?_
        refine X_aload_n F dX8_errand_83 rfl ?_
        refine X_getr F ffRX8_53 dX8_errand_84 ?_
        obtain ⟨r17, h18, h⟩ := bndS h
        refine X_callV (ci := 34) (As := []) (rest := []) F fkRX8_178 feX0_worth fvX0_worth ⟨_, _, _, rfl, rfl, rfl⟩ (F0_worth_met (D := D - 1) F.2.2.2.2.2.2.2.1 (by omega) h18) rfl rfl (Nat.le_of_ble_eq_true rfl) (rm_ok (by omega) (by decide)) dX8_errand_87 ?_
        show XJ shA p l e (rmX D) s m args below meth c 0 0 G 4 (MQ below (QcX shA G ((some (.int r.1), r.2) : Option Value × Mem).1 ((some (.int r.1), r.2) : Option Value × Mem).2) args s 0 0 (AW shA G.2.1)) 90 [(3, .int r8.1), (0, .ref 0), (1, .int a1), (2, .int a2)] [.int r17.1] r17.2
        exact X_iret F hr hlk (retI h) dX8_errand_90
      · rw [if_neg (fun z => z q5)] at h
        refine X_ldc F fcRX8_165 dX8_errand_17 ?_
        exact X_iret F hr hlk (retI h) dX8_errand_19
set_option maxRecDepth 20000 in
theorem F8_errand_met {l : Launch} {G : GG} {D : Nat} {r : Int32 × Mem} {M : Mem} {a1 : Int32} {a2 : Int32} (hI : Inj shA G.2.1) (hD : 7 ≤ D) (h : F8_errand M a1 a2 = some r) : MetX shA l G yX8_errand cX8_errand 4 (some .int) D [.ref 0, .int a1, .int a2] M (some (.int r.1), r.2) :=
  X_met hI (by decide +kernel) (Nat.le_of_ble_eq_true rfl) (fun p e s m args below meth c F hr hlk => F8_errand_ok F hr hlk hD h)
-- KeepOurPlace.nearest
def F8_nearest (M : Mem) (a1 : Int32) : Option (Int32 × Mem) :=
    if a1 < 0 then
      some ((-100000 : Int32), M)
    else
      if a1 ≤ (2 : Int32) then
        Option.bind (F0_prepare M) fun r3 =>
        Option.bind (F0_takeNearest r3.2) fun r5 =>
        if a1 = (0 : Int32) then
          Option.bind (F0_digits r5.2) fun r8 =>
          some (r8.1, r8.2)
        else
        if a1 = (1 : Int32) then
          Option.bind (F0_backWithout r5.2 (-1 : Int32)) fun r11 =>
          some (r11.1, r11.2)
        else
        Option.bind (F0_gain r5.2) fun r13 =>
        some (r13.1, r13.2)
      else
        some ((-100000 : Int32), M)
set_option maxRecDepth 20000 in
theorem F8_nearest_ok {p : Program} {l : Launch} {e : Env} {s : State} {m : MethodId} {args : Array Value} {below : List Frame} {meth : Method} {c : Code} {G : GG} {D : Nat} {r : Int32 × Mem} (F : FrP shA G p s m args c RX8 cX8_nearest 2) (hr : meth.sig.returnType = (some .int)) (hlk : meth.locks = false) (hD : 7 ≤ D) {M : Mem} {a1 : Int32} (h : F8_nearest M a1 = some r) : XJ shA p l e (rmX D) s m args below meth c 0 0 G 2 (MQ below (QcX shA G ((some (.int r.1), r.2) : Option Value × Mem).1 ((some (.int r.1), r.2) : Option Value × Mem).2) args s 0 0 (AW shA G.2.1)) 0 [(0, .ref 0), (1, .int a1)] [] M := by
  unfold F8_nearest at h
  refine X_iload_n F dX8_nearest_0 rfl ?_
  refine X_if_lt (tgt := 9) F dX8_nearest_1 (by decide) (fun q1 => ?_) (fun q1 => ?_)
  · rw [if_pos q1] at h
    refine X_ldc F fcRX8_165 dX8_nearest_9 ?_
    exact X_iret F hr hlk (retI h) dX8_nearest_11
  · rw [if_neg q1] at h
    refine X_iload_n F dX8_nearest_4 rfl ?_
    refine X_iconst F dX8_nearest_5 (v := (2 : Int32)) rfl ?_
    refine X_icmp_le (tgt := 12) F dX8_nearest_6 (by decide) (fun q2 => ?_) (fun q2 => ?_)
    · rw [if_pos q2] at h
      refine X_aload_n F dX8_nearest_12 rfl ?_
      refine X_getr F ffRX8_53 dX8_nearest_13 ?_
      obtain ⟨r3, h4, h⟩ := bndS h
      refine X_callV (ci := 34) (As := []) (rest := []) F fkRX8_166 feX0_prepare fvX0_prepare ⟨_, _, _, rfl, rfl, rfl⟩ (F0_prepare_met (D := D - 1) F.2.2.2.2.2.2.2.1 (by omega) h4) rfl rfl (Nat.le_of_ble_eq_true rfl) (rm_ok (by omega) (by decide)) dX8_nearest_16 ?_
      show XJ shA p l e (rmX D) s m args below meth c 0 0 G 2 (MQ below (QcX shA G ((some (.int r.1), r.2) : Option Value × Mem).1 ((some (.int r.1), r.2) : Option Value × Mem).2) args s 0 0 (AW shA G.2.1)) 19 [(0, .ref 0), (1, .int a1)] [] r3.2
      refine X_aload_n F dX8_nearest_19 rfl ?_
      refine X_getr F ffRX8_53 dX8_nearest_20 ?_
      obtain ⟨r5, h6, h⟩ := bndS h
      refine X_callV (ci := 34) (As := []) (rest := []) F fkRX8_181 feX0_takeNearest fvX0_takeNearest ⟨_, _, _, rfl, rfl, rfl⟩ (F0_takeNearest_met (D := D - 1) F.2.2.2.2.2.2.2.1 (by omega) h6) rfl rfl (Nat.le_of_ble_eq_true rfl) (rm_ok (by omega) (by decide)) dX8_nearest_23 ?_
      show XJ shA p l e (rmX D) s m args below meth c 0 0 G 2 (MQ below (QcX shA G ((some (.int r.1), r.2) : Option Value × Mem).1 ((some (.int r.1), r.2) : Option Value × Mem).2) args s 0 0 (AW shA G.2.1)) 26 [(0, .ref 0), (1, .int a1)] [] r5.2
      refine X_iload_n F dX8_nearest_26 rfl ?_
      by_cases q7 : a1 = (0 : Int32)
      · rw [if_pos q7] at h
        refine X_lookup (tgt := 52) (off := 25) F dX8_nearest_27 (by decide) (by rw [q7]; rfl) (by decide) ?_
        refine X_aload_n F dX8_nearest_52 rfl ?_
        refine X_getr F ffRX8_53 dX8_nearest_53 ?_
        obtain ⟨r8, h9, h⟩ := bndS h
        refine X_callV (ci := 34) (As := []) (rest := []) F fkRX8_184 feX0_digits fvX0_digits ⟨_, _, _, rfl, rfl, rfl⟩ (F0_digits_met (D := D - 1) F.2.2.2.2.2.2.2.1 (by omega) h9) rfl rfl (Nat.le_of_ble_eq_true rfl) (rm_ok (by omega) (by decide)) dX8_nearest_56 ?_
        show XJ shA p l e (rmX D) s m args below meth c 0 0 G 2 (MQ below (QcX shA G ((some (.int r.1), r.2) : Option Value × Mem).1 ((some (.int r.1), r.2) : Option Value × Mem).2) args s 0 0 (AW shA G.2.1)) 59 [(0, .ref 0), (1, .int a1)] [.int r8.1] r8.2
        exact X_iret F hr hlk (retI h) dX8_nearest_59
      rw [if_neg q7] at h
      by_cases q10 : a1 = (1 : Int32)
      · rw [if_pos q10] at h
        refine X_lookup (tgt := 60) (off := 33) F dX8_nearest_27 (by decide) (by rw [q10]; rfl) (by decide) ?_
        refine X_aload_n F dX8_nearest_60 rfl ?_
        refine X_getr F ffRX8_53 dX8_nearest_61 ?_
        refine X_iconst F dX8_nearest_64 (v := (-1 : Int32)) rfl ?_
        obtain ⟨r11, h12, h⟩ := bndS h
        refine X_callV (ci := 34) (As := [.int (-1 : Int32)]) (rest := []) F fkRX8_169 feX0_backWithout fvX0_backWithout ⟨_, _, _, rfl, rfl, rfl⟩ (F0_backWithout_met (D := D - 1) F.2.2.2.2.2.2.2.1 (by omega) h12) rfl rfl (Nat.le_of_ble_eq_true rfl) (rm_ok (by omega) (by decide)) dX8_nearest_65 ?_
        show XJ shA p l e (rmX D) s m args below meth c 0 0 G 2 (MQ below (QcX shA G ((some (.int r.1), r.2) : Option Value × Mem).1 ((some (.int r.1), r.2) : Option Value × Mem).2) args s 0 0 (AW shA G.2.1)) 68 [(0, .ref 0), (1, .int a1)] [.int r11.1] r11.2
        exact X_iret F hr hlk (retI h) dX8_nearest_68
      rw [if_neg q10] at h
      refine X_lookup (tgt := 69) (off := 42) F dX8_nearest_27 (by decide) ((lv_osw q7 (by decide)).trans ( (lv_osw q10 (by decide)).trans (rfl))) (by decide) ?_
      refine X_aload_n F dX8_nearest_69 rfl ?_
      refine X_getr F ffRX8_53 dX8_nearest_70 ?_
      obtain ⟨r13, h14, h⟩ := bndS h
      refine X_callV (ci := 34) (As := []) (rest := []) F fkRX8_175 feX0_gain fvX0_gain ⟨_, _, _, rfl, rfl, rfl⟩ (F0_gain_met (D := D - 1) F.2.2.2.2.2.2.2.1 (by omega) h14) rfl rfl (Nat.le_of_ble_eq_true rfl) (rm_ok (by omega) (by decide)) dX8_nearest_73 ?_
      show XJ shA p l e (rmX D) s m args below meth c 0 0 G 2 (MQ below (QcX shA G ((some (.int r.1), r.2) : Option Value × Mem).1 ((some (.int r.1), r.2) : Option Value × Mem).2) args s 0 0 (AW shA G.2.1)) 76 [(0, .ref 0), (1, .int a1)] [.int r13.1] r13.2
      exact X_iret F hr hlk (retI h) dX8_nearest_76
    · rw [if_neg q2] at h
      refine X_ldc F fcRX8_165 dX8_nearest_9 ?_
      exact X_iret F hr hlk (retI h) dX8_nearest_11
set_option maxRecDepth 20000 in
theorem F8_nearest_met {l : Launch} {G : GG} {D : Nat} {r : Int32 × Mem} {M : Mem} {a1 : Int32} (hI : Inj shA G.2.1) (hD : 7 ≤ D) (h : F8_nearest M a1 = some r) : MetX shA l G yX8_nearest cX8_nearest 2 (some .int) D [.ref 0, .int a1] M (some (.int r.1), r.2) :=
  X_met hI (by decide +kernel) (Nat.le_of_ble_eq_true rfl) (fun p e s m args below meth c F hr hlk => F8_nearest_ok F hr hlk hD h)
-- KeepOurPlace.best
def F8_best (M : Mem) (a1 : Int32) : Option (Int32 × Mem) :=
    if a1 < 0 then
      some ((-100000 : Int32), M)
    else
      if a1 ≤ (3 : Int32) then
        Option.bind (F6_all M) fun r3 =>
        Option.bind (F0_survey r3.2 r3.1) fun r5 =>
        Option.bind (F0_choose r5.2 r3.1) fun r7 =>
        if a1 = (0 : Int32) then
          if inb r7.1 64 = true then
          some ((r7.2 39 (Int32.toNatClampNeg r7.1)), r7.2)
          else none
        else
        if a1 = (1 : Int32) then
          if inb r7.1 64 = true then
          some ((r7.2 40 (Int32.toNatClampNeg r7.1)), r7.2)
          else none
        else
        if a1 = (2 : Int32) then
          if inb r7.1 64 = true then
          some ((r7.2 41 (Int32.toNatClampNeg r7.1)), r7.2)
          else none
        else
        if inb r7.1 64 = true then
        Option.bind (F0_letBy r7.2 (r7.2 40 (Int32.toNatClampNeg r7.1))) fun r16 =>
        some (r16.1, r16.2)
        else none
      else
        some ((-100000 : Int32), M)
set_option maxRecDepth 20000 in
theorem F8_best_ok {p : Program} {l : Launch} {e : Env} {s : State} {m : MethodId} {args : Array Value} {below : List Frame} {meth : Method} {c : Code} {G : GG} {D : Nat} {r : Int32 × Mem} (F : FrP shA G p s m args c RX8 cX8_best 4) (hr : meth.sig.returnType = (some .int)) (hlk : meth.locks = false) (hD : 16 ≤ D) {M : Mem} {a1 : Int32} (h : F8_best M a1 = some r) : XJ shA p l e (rmX D) s m args below meth c 0 0 G 4 (MQ below (QcX shA G ((some (.int r.1), r.2) : Option Value × Mem).1 ((some (.int r.1), r.2) : Option Value × Mem).2) args s 0 0 (AW shA G.2.1)) 0 [(0, .ref 0), (1, .int a1)] [] M := by
  unfold F8_best at h
  refine X_iload_n F dX8_best_0 rfl ?_
  refine X_if_lt (tgt := 9) F dX8_best_1 (by decide) (fun q1 => ?_) (fun q1 => ?_)
  · rw [if_pos q1] at h
    refine X_ldc F fcRX8_165 dX8_best_9 ?_
    exact X_iret F hr hlk (retI h) dX8_best_11
  · rw [if_neg q1] at h
    refine X_iload_n F dX8_best_4 rfl ?_
    refine X_iconst F dX8_best_5 (v := (3 : Int32)) rfl ?_
    refine X_icmp_le (tgt := 12) F dX8_best_6 (by decide) (fun q2 => ?_) (fun q2 => ?_)
    · rw [if_pos q2] at h
      refine X_aload_n F dX8_best_12 rfl ?_
      refine X_getr F ffRX8_19 dX8_best_13 ?_
      obtain ⟨r3, h4, h⟩ := bndS h
      refine X_callV (ci := 5) (As := []) (rest := []) F fkRX8_187 feX6_all fvX6_all ⟨_, _, _, rfl, rfl, rfl⟩ (F6_all_met (D := D - 1) F.2.2.2.2.2.2.2.1 (by omega) h4) rfl rfl (Nat.le_of_ble_eq_true rfl) (rm_ok (by omega) (by decide)) dX8_best_16 ?_
      show XJ shA p l e (rmX D) s m args below meth c 0 0 G 4 (MQ below (QcX shA G ((some (.int r.1), r.2) : Option Value × Mem).1 ((some (.int r.1), r.2) : Option Value × Mem).2) args s 0 0 (AW shA G.2.1)) 19 [(0, .ref 0), (1, .int a1)] [.int r3.1] r3.2
      refine X_istore_n F dX8_best_19 (by decide) rfl ?_
      refine X_aload_n F dX8_best_20 rfl ?_
      refine X_getr F ffRX8_53 dX8_best_21 ?_
      refine X_iload_n F dX8_best_24 rfl ?_
      obtain ⟨r5, h6, h⟩ := bndS h
      refine X_callV (ci := 34) (As := [.int r3.1]) (rest := []) F fkRX8_190 feX0_survey fvX0_survey ⟨_, _, _, rfl, rfl, rfl⟩ (F0_survey_met (D := D - 1) F.2.2.2.2.2.2.2.1 (by omega) h6) rfl rfl (Nat.le_of_ble_eq_true rfl) (rm_ok (by omega) (by decide)) dX8_best_25 ?_
      show XJ shA p l e (rmX D) s m args below meth c 0 0 G 4 (MQ below (QcX shA G ((some (.int r.1), r.2) : Option Value × Mem).1 ((some (.int r.1), r.2) : Option Value × Mem).2) args s 0 0 (AW shA G.2.1)) 28 [(2, .int r3.1), (0, .ref 0), (1, .int a1)] [] r5.2
      refine X_aload_n F dX8_best_28 rfl ?_
      refine X_getr F ffRX8_53 dX8_best_29 ?_
      refine X_iload_n F dX8_best_32 rfl ?_
      obtain ⟨r7, h8, h⟩ := bndS h
      refine X_callV (ci := 34) (As := [.int r3.1]) (rest := []) F fkRX8_194 feX0_choose fvX0_choose ⟨_, _, _, rfl, rfl, rfl⟩ (F0_choose_met (D := D - 1) F.2.2.2.2.2.2.2.1 (by omega) h8) rfl rfl (Nat.le_of_ble_eq_true rfl) (rm_ok (by omega) (by decide)) dX8_best_33 ?_
      show XJ shA p l e (rmX D) s m args below meth c 0 0 G 4 (MQ below (QcX shA G ((some (.int r.1), r.2) : Option Value × Mem).1 ((some (.int r.1), r.2) : Option Value × Mem).2) args s 0 0 (AW shA G.2.1)) 36 [(2, .int r3.1), (0, .ref 0), (1, .int a1)] [.int r7.1] r7.2
      refine X_istore_n F dX8_best_36 (by decide) rfl ?_
      refine X_iload_n F dX8_best_37 rfl ?_
      by_cases q9 : a1 = (0 : Int32)
      · rw [if_pos q9] at h
        refine X_tin (tgt := 64) (off := 26) F dX8_best_38 (by rw [q9]; decide) (by decide) ?_
        refine X_aload_n F dX8_best_64 rfl ?_
        refine X_getr F ffRX8_53 dX8_best_65 ?_
        refine X_getr F ffRX8_197 dX8_best_68 ?_
        refine X_iload_n F dX8_best_71 rfl ?_
        obtain ⟨q10, h⟩ := ifS h
        refine X_iald (j := (Int32.toNatClampNeg r7.1)) (v := (r7.2 39 (Int32.toNatClampNeg r7.1))) F rfl (inbV q10) rfl rfl dX8_best_72 ?_
        exact X_iret F hr hlk (retI h) dX8_best_73
      rw [if_neg q9] at h
      by_cases q11 : a1 = (1 : Int32)
      · rw [if_pos q11] at h
        refine X_tin (tgt := 74) (off := 36) F dX8_best_38 (by rw [q11]; decide) (by decide) ?_
        refine X_aload_n F dX8_best_74 rfl ?_
        refine X_getr F ffRX8_53 dX8_best_75 ?_
        refine X_getr F ffRX8_200 dX8_best_78 ?_
        refine X_iload_n F dX8_best_81 rfl ?_
        obtain ⟨q12, h⟩ := ifS h
        refine X_iald (j := (Int32.toNatClampNeg r7.1)) (v := (r7.2 40 (Int32.toNatClampNeg r7.1))) F rfl (inbV q12) rfl rfl dX8_best_82 ?_
        exact X_iret F hr hlk (retI h) dX8_best_83
      rw [if_neg q11] at h
      by_cases q13 : a1 = (2 : Int32)
      · rw [if_pos q13] at h
        refine X_tin (tgt := 84) (off := 46) F dX8_best_38 (by rw [q13]; decide) (by decide) ?_
        refine X_aload_n F dX8_best_84 rfl ?_
        refine X_getr F ffRX8_53 dX8_best_85 ?_
        refine X_getr F ffRX8_203 dX8_best_88 ?_
        refine X_iload_n F dX8_best_91 rfl ?_
        obtain ⟨q14, h⟩ := ifS h
        refine X_iald (j := (Int32.toNatClampNeg r7.1)) (v := (r7.2 41 (Int32.toNatClampNeg r7.1))) F rfl (inbV q14) rfl rfl dX8_best_92 ?_
        exact X_iret F hr hlk (retI h) dX8_best_93
      rw [if_neg q13] at h
      have eq9 := lv_neT q9 (a := 0) (by decide)
      have eq11 := lv_neT q11 (a := 1) (by decide)
      have eq13 := lv_neT q13 (a := 2) (by decide)
      refine X_tout (tgt := 94) F dX8_best_38 (by omega) (by decide) ?_
      refine X_aload_n F dX8_best_94 rfl ?_
      refine X_getr F ffRX8_53 dX8_best_95 ?_
      refine X_aload_n F dX8_best_98 rfl ?_
      refine X_getr F ffRX8_53 dX8_best_99 ?_
      refine X_getr F ffRX8_200 dX8_best_102 ?_
      refine X_iload_n F dX8_best_105 rfl ?_
      obtain ⟨q15, h⟩ := ifS h
      refine X_iald (j := (Int32.toNatClampNeg r7.1)) (v := (r7.2 40 (Int32.toNatClampNeg r7.1))) F rfl (inbV q15) rfl rfl dX8_best_106 ?_
      obtain ⟨r16, h17, h⟩ := bndS h
      refine X_callV (ci := 34) (As := [.int (r7.2 40 (Int32.toNatClampNeg r7.1))]) (rest := []) F fkRX8_172 feX0_letBy fvX0_letBy ⟨_, _, _, rfl, rfl, rfl⟩ (F0_letBy_met (D := D - 1) F.2.2.2.2.2.2.2.1 (by omega) h17) rfl rfl (Nat.le_of_ble_eq_true rfl) (rm_ok (by omega) (by decide)) dX8_best_107 ?_
      show XJ shA p l e (rmX D) s m args below meth c 0 0 G 4 (MQ below (QcX shA G ((some (.int r.1), r.2) : Option Value × Mem).1 ((some (.int r.1), r.2) : Option Value × Mem).2) args s 0 0 (AW shA G.2.1)) 110 [(3, .int r7.1), (2, .int r3.1), (0, .ref 0), (1, .int a1)] [.int r16.1] r16.2
      exact X_iret F hr hlk (retI h) dX8_best_110
    · rw [if_neg q2] at h
      refine X_ldc F fcRX8_165 dX8_best_9 ?_
      exact X_iret F hr hlk (retI h) dX8_best_11
set_option maxRecDepth 20000 in
theorem F8_best_met {l : Launch} {G : GG} {D : Nat} {r : Int32 × Mem} {M : Mem} {a1 : Int32} (hI : Inj shA G.2.1) (hD : 16 ≤ D) (h : F8_best M a1 = some r) : MetX shA l G yX8_best cX8_best 4 (some .int) D [.ref 0, .int a1] M (some (.int r.1), r.2) :=
  X_met hI (by decide +kernel) (Nat.le_of_ble_eq_true rfl) (fun p e s m args below meth c F hr hlk => F8_best_ok F hr hlk hD h)
-- KeepOurPlace.latest
def F8_latest (M : Mem) (a1 : Int32) (a2 : Int32) : Option (Int32 × Mem) :=
    Option.bind (F6_holds M a1) fun r1 =>
    if r1.1 = 0 then
      some ((-2 : Int32), r1.2)
    else
      if a2 < 0 then
        some ((-2 : Int32), r1.2)
      else
        if a2 ≤ (6 : Int32) then
          Option.bind (F7_turnChanged r1.2 (-1 : Int32) (-1 : Int32)) fun r6 =>
          Option.bind (F6_steps r6.2 a1 (-1 : Int32)) fun r8 =>
          Option.bind (F7_pace r8.2 a2) fun r10 =>
          if 0 ≤ (r6.1 - (r8.1 * r10.1)) then
            some ((r6.1 - (r8.1 * r10.1)), r10.2)
          else
            some ((-1 : Int32), r10.2)
        else
          some ((-2 : Int32), r1.2)
set_option maxRecDepth 20000 in
theorem F8_latest_ok {p : Program} {l : Launch} {e : Env} {s : State} {m : MethodId} {args : Array Value} {below : List Frame} {meth : Method} {c : Code} {G : GG} {D : Nat} {r : Int32 × Mem} (F : FrP shA G p s m args c RX8 cX8_latest 4) (hr : meth.sig.returnType = (some .int)) (hlk : meth.locks = false) (hD : 5 ≤ D) {M : Mem} {a1 : Int32} {a2 : Int32} (h : F8_latest M a1 a2 = some r) : XJ shA p l e (rmX D) s m args below meth c 0 0 G 4 (MQ below (QcX shA G ((some (.int r.1), r.2) : Option Value × Mem).1 ((some (.int r.1), r.2) : Option Value × Mem).2) args s 0 0 (AW shA G.2.1)) 0 [(0, .ref 0), (1, .int a1), (2, .int a2)] [] M := by
  unfold F8_latest at h
  refine X_aload_n F dX8_latest_0 rfl ?_
  refine X_getr F ffRX8_19 dX8_latest_1 ?_
  refine X_iload_n F dX8_latest_4 rfl ?_
  obtain ⟨r1, h2, h⟩ := bndS h
  refine X_callV (ci := 5) (As := [.int a1]) (rest := []) F fkRX8_122 feX6_holds fvX6_holds ⟨_, _, _, rfl, rfl, rfl⟩ (F6_holds_met (D := D - 1) F.2.2.2.2.2.2.2.1 (by omega) h2) rfl rfl (Nat.le_of_ble_eq_true rfl) (rm_ok (by omega) (by decide)) dX8_latest_5 ?_
  show XJ shA p l e (rmX D) s m args below meth c 0 0 G 4 (MQ below (QcX shA G ((some (.int r.1), r.2) : Option Value × Mem).1 ((some (.int r.1), r.2) : Option Value × Mem).2) args s 0 0 (AW shA G.2.1)) 8 [(0, .ref 0), (1, .int a1), (2, .int a2)] [.int r1.1] r1.2
  refine X_if_eq (tgt := 21) F dX8_latest_8 (by decide) (fun q3 => ?_) (fun q3 => ?_)
  · rw [if_pos q3] at h
    refine X_bipush F dX8_latest_21 (v := (-2 : Int32)) rfl ?_
    exact X_iret F hr hlk (retI h) dX8_latest_23
  · rw [if_neg q3] at h
    refine X_iload_n F dX8_latest_11 rfl ?_
    refine X_if_lt (tgt := 21) F dX8_latest_12 (by decide) (fun q4 => ?_) (fun q4 => ?_)
    · rw [if_pos q4] at h
      refine X_bipush F dX8_latest_21 (v := (-2 : Int32)) rfl ?_
      exact X_iret F hr hlk (retI h) dX8_latest_23
    · rw [if_neg q4] at h
      refine X_iload_n F dX8_latest_15 rfl ?_
      refine X_bipush F dX8_latest_16 (v := (6 : Int32)) rfl ?_
      refine X_icmp_le (tgt := 24) F dX8_latest_18 (by decide) (fun q5 => ?_) (fun q5 => ?_)
      · rw [if_pos q5] at h
        refine X_aload_n F dX8_latest_24 rfl ?_
        refine X_getr F ffRX8_44 dX8_latest_25 ?_
        refine X_iconst F dX8_latest_28 (v := (-1 : Int32)) rfl ?_
        refine X_iconst F dX8_latest_29 (v := (-1 : Int32)) rfl ?_
        obtain ⟨r6, h7, h⟩ := bndS h
        refine X_callV (ci := 33) (As := [.int (-1 : Int32), .int (-1 : Int32)]) (rest := []) F fkRX8_159 feX7_turnChanged fvX7_turnChanged ⟨_, _, _, rfl, rfl, rfl⟩ (F7_turnChanged_met (D := D - 1) F.2.2.2.2.2.2.2.1 (by omega) h7) rfl rfl (Nat.le_of_ble_eq_true rfl) (rm_ok (by omega) (by decide)) dX8_latest_30 ?_
        show XJ shA p l e (rmX D) s m args below meth c 0 0 G 4 (MQ below (QcX shA G ((some (.int r.1), r.2) : Option Value × Mem).1 ((some (.int r.1), r.2) : Option Value × Mem).2) args s 0 0 (AW shA G.2.1)) 33 [(0, .ref 0), (1, .int a1), (2, .int a2)] [.int r6.1] r6.2
        refine X_aload_n F dX8_latest_33 rfl ?_
        refine X_getr F ffRX8_19 dX8_latest_34 ?_
        refine X_iload_n F dX8_latest_37 rfl ?_
        refine X_iconst F dX8_latest_38 (v := (-1 : Int32)) rfl ?_
        obtain ⟨r8, h9, h⟩ := bndS h
        refine X_callV (ci := 5) (As := [.int a1, .int (-1 : Int32)]) (rest := [.int r6.1]) F fkRX8_206 feX6_steps fvX6_steps ⟨_, _, _, rfl, rfl, rfl⟩ (F6_steps_met (D := D - 1) F.2.2.2.2.2.2.2.1 (by omega) h9) rfl rfl (Nat.le_of_ble_eq_true rfl) (rm_ok (by omega) (by decide)) dX8_latest_39 ?_
        show XJ shA p l e (rmX D) s m args below meth c 0 0 G 4 (MQ below (QcX shA G ((some (.int r.1), r.2) : Option Value × Mem).1 ((some (.int r.1), r.2) : Option Value × Mem).2) args s 0 0 (AW shA G.2.1)) 42 [(0, .ref 0), (1, .int a1), (2, .int a2)] [.int r8.1, .int r6.1] r8.2
        refine X_aload_n F dX8_latest_42 rfl ?_
        refine X_getr F ffRX8_44 dX8_latest_43 ?_
        refine X_iload_n F dX8_latest_46 rfl ?_
        obtain ⟨r10, h11, h⟩ := bndS h
        refine X_callV (ci := 33) (As := [.int a2]) (rest := [.int r8.1, .int r6.1]) F fkRX8_209 feX7_pace fvX7_pace ⟨_, _, _, rfl, rfl, rfl⟩ (F7_pace_met (D := D - 1) F.2.2.2.2.2.2.2.1 (by omega) h11) rfl rfl (Nat.le_of_ble_eq_true rfl) (rm_ok (by omega) (by decide)) dX8_latest_47 ?_
        show XJ shA p l e (rmX D) s m args below meth c 0 0 G 4 (MQ below (QcX shA G ((some (.int r.1), r.2) : Option Value × Mem).1 ((some (.int r.1), r.2) : Option Value × Mem).2) args s 0 0 (AW shA G.2.1)) 50 [(0, .ref 0), (1, .int a1), (2, .int a2)] [.int r10.1, .int r8.1, .int r6.1] r10.2
        refine X_imul F dX8_latest_50 ?_
        refine X_isub F dX8_latest_51 ?_
        refine X_istore_n F dX8_latest_52 (by decide) rfl ?_
        refine X_iload_n F dX8_latest_53 rfl ?_
        refine X_if_ge (tgt := 61) F dX8_latest_54 (by decide) (fun q12 => ?_) (fun q12 => ?_)
        · rw [if_pos q12] at h
          refine X_iload_n F dX8_latest_61 rfl ?_
          exact X_iret F hr hlk (retI h) dX8_latest_62
        · rw [if_neg q12] at h
          refine X_iconst F dX8_latest_57 (v := (-1 : Int32)) rfl ?_
          refine X_goto (tgt := 62) F dX8_latest_58 (by decide) ?_
          exact X_iret F hr hlk (retI h) dX8_latest_62
      · rw [if_neg q5] at h
        refine X_bipush F dX8_latest_21 (v := (-2 : Int32)) rfl ?_
        exact X_iret F hr hlk (retI h) dX8_latest_23
set_option maxRecDepth 20000 in
theorem F8_latest_met {l : Launch} {G : GG} {D : Nat} {r : Int32 × Mem} {M : Mem} {a1 : Int32} {a2 : Int32} (hI : Inj shA G.2.1) (hD : 5 ≤ D) (h : F8_latest M a1 a2 = some r) : MetX shA l G yX8_latest cX8_latest 4 (some .int) D [.ref 0, .int a1, .int a2] M (some (.int r.1), r.2) :=
  X_met hI (by decide +kernel) (Nat.le_of_ble_eq_true rfl) (fun p e s m args below meth c F hr hlk => F8_latest_ok F hr hlk hD h)
-- KeepOurPlace.leave
def F8_leave_j94 (rec46 : Mem → Int32 → Int32 → Int32 → Option (Int32 × Mem)) (M : Mem) (x2 : Int32) (x3 : Int32) (x4 : Int32) : Option (Int32 × Mem) :=
    rec46 M x2 x3 (x4 + (1 : Int32))
def F8_leave_j80 (rec46 : Mem → Int32 → Int32 → Int32 → Option (Int32 × Mem)) (M : Mem) (x4 : Int32) (x5 : Int32) : Option (Int32 × Mem) :=
    if inb x4 6 = true then
    F8_leave_j94 rec46 M (M 38 (Int32.toNatClampNeg x4)) x5 x4
    else none
def F8_leave_l46_b (rec46 : Mem → Int32 → Int32 → Int32 → Option (Int32 × Mem)) (M : Mem) (x2 : Int32) (x3 : Int32) (x4 : Int32) : Option (Int32 × Mem) :=
    if (M 34 8) ≤ x4 then
      some (x2, M)
    else
      Option.bind (F0_backWithout M x4) fun r11 =>
      if x2 = (-1 : Int32) then
        F8_leave_j80 rec46 r11.2 x4 r11.1
      else
        if x3 ≤ r11.1 then
          F8_leave_j94 rec46 r11.2 x2 x3 x4
        else
          F8_leave_j80 rec46 r11.2 x4 r11.1
def F8_leave_l46 : Nat → Mem → Int32 → Int32 → Int32 → Option (Int32 × Mem)
  | 0, _, _, _, _ => none
  | fu + 1, M, x2, x3, x4 => F8_leave_l46_b (F8_leave_l46 fu) M x2 x3 x4
def F8_leave (M : Mem) : Option (Int32 × Mem) :=
    Option.bind (F6_all M) fun r1 =>
    Option.bind (F0_survey r1.2 r1.1) fun r3 =>
    Option.bind (F0_choose r3.2 r1.1) fun r5 =>
    if inb r5.1 64 = true then
    Option.bind (F0_takePlan r5.2 (r5.2 39 (Int32.toNatClampNeg r5.1))) fun r8 =>
    F8_leave_l46 FUEL r8.2 (-1 : Int32) (0 : Int32) (0 : Int32)
    else none
set_option maxRecDepth 20000 in
theorem F8_leave_j94_ok {p : Program} {l : Launch} {e : Env} {s : State} {m : MethodId} {args : Array Value} {below : List Frame} {meth : Method} {c : Code} {G : GG} {D : Nat} {r : Int32 × Mem} {rec46 : Mem → Int32 → Int32 → Int32 → Option (Int32 × Mem)} (F : FrP shA G p s m args c RX8 cX8_leave 6) (hr : meth.sig.returnType = (some .int)) (hlk : meth.locks = false) (hD : 16 ≤ D) (hrec46 : ∀ (M : Mem) (x2 : Int32) (x3 : Int32) (x4 : Int32), rec46 M x2 x3 x4 = some r → XJ shA p l e (rmX D) s m args below meth c 0 0 G 6 (MQ below (QcX shA G ((some (.int r.1), r.2) : Option Value × Mem).1 ((some (.int r.1), r.2) : Option Value × Mem).2) args s 0 0 (AW shA G.2.1)) 46 [(0, .ref 0), (2, .int x2), (3, .int x3), (4, .int x4)] [] M) {M : Mem} {x2 : Int32} {x3 : Int32} {x4 : Int32} (h : F8_leave_j94 rec46 M x2 x3 x4 = some r) : XJ shA p l e (rmX D) s m args below meth c 0 0 G 6 (MQ below (QcX shA G ((some (.int r.1), r.2) : Option Value × Mem).1 ((some (.int r.1), r.2) : Option Value × Mem).2) args s 0 0 (AW shA G.2.1)) 94 [(0, .ref 0), (2, .int x2), (3, .int x3), (4, .int x4)] [] M := by
  unfold F8_leave_j94 at h
  refine X_iinc F dX8_leave_94 rfl (v := (1 : Int32)) rfl (by decide) rfl ?_
  refine X_goto (tgt := 46) F dX8_leave_97 (by decide) ?_
  refine X_pick [1, 2, 3, 0] rfl ?_
  exact hrec46 _ _ _ _ h
set_option maxRecDepth 20000 in
theorem F8_leave_j80_ok {p : Program} {l : Launch} {e : Env} {s : State} {m : MethodId} {args : Array Value} {below : List Frame} {meth : Method} {c : Code} {G : GG} {D : Nat} {r : Int32 × Mem} {rec46 : Mem → Int32 → Int32 → Int32 → Option (Int32 × Mem)} (F : FrP shA G p s m args c RX8 cX8_leave 6) (hr : meth.sig.returnType = (some .int)) (hlk : meth.locks = false) (hD : 16 ≤ D) (hrec46 : ∀ (M : Mem) (x2 : Int32) (x3 : Int32) (x4 : Int32), rec46 M x2 x3 x4 = some r → XJ shA p l e (rmX D) s m args below meth c 0 0 G 6 (MQ below (QcX shA G ((some (.int r.1), r.2) : Option Value × Mem).1 ((some (.int r.1), r.2) : Option Value × Mem).2) args s 0 0 (AW shA G.2.1)) 46 [(0, .ref 0), (2, .int x2), (3, .int x3), (4, .int x4)] [] M) {M : Mem} {x4 : Int32} {x5 : Int32} (h : F8_leave_j80 rec46 M x4 x5 = some r) : XJ shA p l e (rmX D) s m args below meth c 0 0 G 6 (MQ below (QcX shA G ((some (.int r.1), r.2) : Option Value × Mem).1 ((some (.int r.1), r.2) : Option Value × Mem).2) args s 0 0 (AW shA G.2.1)) 80 [(0, .ref 0), (4, .int x4), (5, .int x5)] [] M := by
  unfold F8_leave_j80 at h
  refine X_aload_n F dX8_leave_80 rfl ?_
  refine X_getr F ffRX8_53 dX8_leave_81 ?_
  refine X_getr F ffRX8_217 dX8_leave_84 ?_
  refine X_iload F dX8_leave_87 rfl ?_
  obtain ⟨q15, h⟩ := ifS h
  refine X_iald (j := (Int32.toNatClampNeg x4)) (v := (M 38 (Int32.toNatClampNeg x4))) F rfl (inbV q15) rfl rfl dX8_leave_89 ?_
  refine X_istore_n F dX8_leave_90 (by decide) rfl ?_
  refine X_iload F dX8_leave_91 rfl ?_
  refine X_istore_n F dX8_leave_93 (by decide) rfl ?_
  refine X_pick [2, 1, 0, 3] rfl ?_
  exact F8_leave_j94_ok F hr hlk hD hrec46 h
set_option maxRecDepth 20000 in
theorem F8_leave_l46_bok {p : Program} {l : Launch} {e : Env} {s : State} {m : MethodId} {args : Array Value} {below : List Frame} {meth : Method} {c : Code} {G : GG} {D : Nat} {r : Int32 × Mem} {rec46 : Mem → Int32 → Int32 → Int32 → Option (Int32 × Mem)} (F : FrP shA G p s m args c RX8 cX8_leave 6) (hr : meth.sig.returnType = (some .int)) (hlk : meth.locks = false) (hD : 16 ≤ D) (hrec46 : ∀ (M : Mem) (x2 : Int32) (x3 : Int32) (x4 : Int32), rec46 M x2 x3 x4 = some r → XJ shA p l e (rmX D) s m args below meth c 0 0 G 6 (MQ below (QcX shA G ((some (.int r.1), r.2) : Option Value × Mem).1 ((some (.int r.1), r.2) : Option Value × Mem).2) args s 0 0 (AW shA G.2.1)) 46 [(0, .ref 0), (2, .int x2), (3, .int x3), (4, .int x4)] [] M) {M : Mem} {x2 : Int32} {x3 : Int32} {x4 : Int32} (h : F8_leave_l46_b rec46 M x2 x3 x4 = some r) : XJ shA p l e (rmX D) s m args below meth c 0 0 G 6 (MQ below (QcX shA G ((some (.int r.1), r.2) : Option Value × Mem).1 ((some (.int r.1), r.2) : Option Value × Mem).2) args s 0 0 (AW shA G.2.1)) 46 [(0, .ref 0), (2, .int x2), (3, .int x3), (4, .int x4)] [] M := by
  unfold F8_leave_l46_b at h
  refine X_iload F dX8_leave_46 rfl ?_
  refine X_aload_n F dX8_leave_48 rfl ?_
  refine X_getr F ffRX8_53 dX8_leave_49 ?_
  refine X_geti (v := (M 34 8)) F ffRX8_215 dX8_leave_52 rfl ?_
  refine X_icmp_ge (tgt := 100) F dX8_leave_55 (by decide) (fun q10 => ?_) (fun q10 => ?_)
  · rw [if_pos q10] at h
    refine X_iload_n F dX8_leave_100 rfl ?_
    exact X_iret F hr hlk (retI h) dX8_leave_101
  · rw [if_neg q10] at h
    refine X_aload_n F dX8_leave_58 rfl ?_
    refine X_getr F ffRX8_53 dX8_leave_59 ?_
    refine X_iload F dX8_leave_62 rfl ?_
    obtain ⟨r11, h12, h⟩ := bndS h
    refine X_callV (ci := 34) (As := [.int x4]) (rest := []) F fkRX8_169 feX0_backWithout fvX0_backWithout ⟨_, _, _, rfl, rfl, rfl⟩ (F0_backWithout_met (D := D - 1) F.2.2.2.2.2.2.2.1 (by omega) h12) rfl rfl (Nat.le_of_ble_eq_true rfl) (rm_ok (by omega) (by decide)) dX8_leave_64 ?_
    show XJ shA p l e (rmX D) s m args below meth c 0 0 G 6 (MQ below (QcX shA G ((some (.int r.1), r.2) : Option Value × Mem).1 ((some (.int r.1), r.2) : Option Value × Mem).2) args s 0 0 (AW shA G.2.1)) 67 [(0, .ref 0), (2, .int x2), (3, .int x3), (4, .int x4)] [.int r11.1] r11.2
    refine X_istore F dX8_leave_67 (by decide) rfl ?_
    refine X_iload_n F dX8_leave_69 rfl ?_
    refine X_iconst F dX8_leave_70 (v := (-1 : Int32)) rfl ?_
    refine X_icmp_eq (tgt := 80) F dX8_leave_71 (by decide) (fun q13 => ?_) (fun q13 => ?_)
    · rw [if_pos q13] at h
      refine X_pick [1, 4, 0] rfl ?_
      exact F8_leave_j80_ok F hr hlk hD hrec46 h
    · rw [if_neg q13] at h
      refine X_iload F dX8_leave_74 rfl ?_
      refine X_iload_n F dX8_leave_76 rfl ?_
      refine X_icmp_ge (tgt := 94) F dX8_leave_77 (by decide) (fun q14 => ?_) (fun q14 => ?_)
      · rw [if_pos q14] at h
        refine X_pick [1, 2, 3, 4] rfl ?_
        exact F8_leave_j94_ok F hr hlk hD hrec46 h
      · rw [if_neg q14] at h
        refine X_pick [1, 4, 0] rfl ?_
        exact F8_leave_j80_ok F hr hlk hD hrec46 h
set_option maxRecDepth 20000 in
theorem F8_leave_l46_ok {p : Program} {l : Launch} {e : Env} {s : State} {m : MethodId} {args : Array Value} {below : List Frame} {meth : Method} {c : Code} {G : GG} {D : Nat} {r : Int32 × Mem} (F : FrP shA G p s m args c RX8 cX8_leave 6) (hr : meth.sig.returnType = (some .int)) (hlk : meth.locks = false) (hD : 16 ≤ D) : ∀ (fu : Nat) (M : Mem) (x2 : Int32) (x3 : Int32) (x4 : Int32), F8_leave_l46 fu M x2 x3 x4 = some r → XJ shA p l e (rmX D) s m args below meth c 0 0 G 6 (MQ below (QcX shA G ((some (.int r.1), r.2) : Option Value × Mem).1 ((some (.int r.1), r.2) : Option Value × Mem).2) args s 0 0 (AW shA G.2.1)) 46 [(0, .ref 0), (2, .int x2), (3, .int x3), (4, .int x4)] [] M := by
  intro fu
  induction fu with
  | zero => intro M x2 x3 x4 h; cases h
  | succ fu ih => intro M x2 x3 x4 h; exact F8_leave_l46_bok F hr hlk hD (fun M x2 x3 x4 => ih M x2 x3 x4) h
set_option maxRecDepth 20000 in
theorem F8_leave_ok {p : Program} {l : Launch} {e : Env} {s : State} {m : MethodId} {args : Array Value} {below : List Frame} {meth : Method} {c : Code} {G : GG} {D : Nat} {r : Int32 × Mem} (F : FrP shA G p s m args c RX8 cX8_leave 6) (hr : meth.sig.returnType = (some .int)) (hlk : meth.locks = false) (hD : 16 ≤ D) {M : Mem} (h : F8_leave M = some r) : XJ shA p l e (rmX D) s m args below meth c 0 0 G 6 (MQ below (QcX shA G ((some (.int r.1), r.2) : Option Value × Mem).1 ((some (.int r.1), r.2) : Option Value × Mem).2) args s 0 0 (AW shA G.2.1)) 0 [(0, .ref 0)] [] M := by
  unfold F8_leave at h
  refine X_aload_n F dX8_leave_0 rfl ?_
  refine X_getr F ffRX8_19 dX8_leave_1 ?_
  obtain ⟨r1, h2, h⟩ := bndS h
  refine X_callV (ci := 5) (As := []) (rest := []) F fkRX8_187 feX6_all fvX6_all ⟨_, _, _, rfl, rfl, rfl⟩ (F6_all_met (D := D - 1) F.2.2.2.2.2.2.2.1 (by omega) h2) rfl rfl (Nat.le_of_ble_eq_true rfl) (rm_ok (by omega) (by decide)) dX8_leave_4 ?_
  show XJ shA p l e (rmX D) s m args below meth c 0 0 G 6 (MQ below (QcX shA G ((some (.int r.1), r.2) : Option Value × Mem).1 ((some (.int r.1), r.2) : Option Value × Mem).2) args s 0 0 (AW shA G.2.1)) 7 [(0, .ref 0)] [.int r1.1] r1.2
  refine X_istore_n F dX8_leave_7 (by decide) rfl ?_
  refine X_aload_n F dX8_leave_8 rfl ?_
  refine X_getr F ffRX8_53 dX8_leave_9 ?_
  refine X_iload_n F dX8_leave_12 rfl ?_
  obtain ⟨r3, h4, h⟩ := bndS h
  refine X_callV (ci := 34) (As := [.int r1.1]) (rest := []) F fkRX8_190 feX0_survey fvX0_survey ⟨_, _, _, rfl, rfl, rfl⟩ (F0_survey_met (D := D - 1) F.2.2.2.2.2.2.2.1 (by omega) h4) rfl rfl (Nat.le_of_ble_eq_true rfl) (rm_ok (by omega) (by decide)) dX8_leave_13 ?_
  show XJ shA p l e (rmX D) s m args below meth c 0 0 G 6 (MQ below (QcX shA G ((some (.int r.1), r.2) : Option Value × Mem).1 ((some (.int r.1), r.2) : Option Value × Mem).2) args s 0 0 (AW shA G.2.1)) 16 [(1, .int r1.1), (0, .ref 0)] [] r3.2
  refine X_aload_n F dX8_leave_16 rfl ?_
  refine X_getr F ffRX8_53 dX8_leave_17 ?_
  refine X_aload_n F dX8_leave_20 rfl ?_
  refine X_getr F ffRX8_53 dX8_leave_21 ?_
  refine X_getr F ffRX8_197 dX8_leave_24 ?_
  refine X_aload_n F dX8_leave_27 rfl ?_
  refine X_getr F ffRX8_53 dX8_leave_28 ?_
  refine X_iload_n F dX8_leave_31 rfl ?_
  obtain ⟨r5, h6, h⟩ := bndS h
  refine X_callV (ci := 34) (As := [.int r1.1]) (rest := [.ref 39, .ref 34]) F fkRX8_194 feX0_choose fvX0_choose ⟨_, _, _, rfl, rfl, rfl⟩ (F0_choose_met (D := D - 1) F.2.2.2.2.2.2.2.1 (by omega) h6) rfl rfl (Nat.le_of_ble_eq_true rfl) (rm_ok (by omega) (by decide)) dX8_leave_32 ?_
  show XJ shA p l e (rmX D) s m args below meth c 0 0 G 6 (MQ below (QcX shA G ((some (.int r.1), r.2) : Option Value × Mem).1 ((some (.int r.1), r.2) : Option Value × Mem).2) args s 0 0 (AW shA G.2.1)) 35 [(1, .int r1.1), (0, .ref 0)] [.int r5.1, .ref 39, .ref 34] r5.2
  obtain ⟨q7, h⟩ := ifS h
  refine X_iald (j := (Int32.toNatClampNeg r5.1)) (v := (r5.2 39 (Int32.toNatClampNeg r5.1))) F rfl (inbV q7) rfl rfl dX8_leave_35 ?_
  obtain ⟨r8, h9, h⟩ := bndS h
  refine X_callV (ci := 34) (As := [.int (r5.2 39 (Int32.toNatClampNeg r5.1))]) (rest := []) F fkRX8_212 feX0_takePlan fvX0_takePlan ⟨_, _, _, rfl, rfl, rfl⟩ (F0_takePlan_met (D := D - 1) F.2.2.2.2.2.2.2.1 (by omega) h9) rfl rfl (Nat.le_of_ble_eq_true rfl) (rm_ok (by omega) (by decide)) dX8_leave_36 ?_
  show XJ shA p l e (rmX D) s m args below meth c 0 0 G 6 (MQ below (QcX shA G ((some (.int r.1), r.2) : Option Value × Mem).1 ((some (.int r.1), r.2) : Option Value × Mem).2) args s 0 0 (AW shA G.2.1)) 39 [(1, .int r1.1), (0, .ref 0)] [] r8.2
  refine X_iconst F dX8_leave_39 (v := (-1 : Int32)) rfl ?_
  refine X_istore_n F dX8_leave_40 (by decide) rfl ?_
  refine X_iconst F dX8_leave_41 (v := (0 : Int32)) rfl ?_
  refine X_istore_n F dX8_leave_42 (by decide) rfl ?_
  refine X_iconst F dX8_leave_43 (v := (0 : Int32)) rfl ?_
  refine X_istore F dX8_leave_44 (by decide) rfl ?_
  refine X_pick [4, 2, 1, 0] rfl ?_
  exact F8_leave_l46_ok F hr hlk hD FUEL _ _ _ _ h
set_option maxRecDepth 20000 in
theorem F8_leave_met {l : Launch} {G : GG} {D : Nat} {r : Int32 × Mem} {M : Mem} (hI : Inj shA G.2.1) (hD : 16 ≤ D) (h : F8_leave M = some r) : MetX shA l G yX8_leave cX8_leave 6 (some .int) D [.ref 0] M (some (.int r.1), r.2) :=
  X_met hI (by decide +kernel) (Nat.le_of_ble_eq_true rfl) (fun p e s m args below meth c F hr hlk => F8_leave_ok F hr hlk hD h)
-- KeepOurPlace.more
def F8_more (M : Mem) (a1 : Int32) : Option (Int32 × Mem) :=
    Option.bind (F6_holds M a1) fun r1 =>
    if ¬ r1.1 = 0 then
      Option.bind (F6_all r1.2) fun r4 =>
      Option.bind (F0_survey r4.2 r4.1) fun r6 =>
      Option.bind (F0_mostGain r6.2 r4.1) fun r8 =>
      Option.bind (F0_mostGain r8.2 (r4.1 &&& (((1 : Int32) <<< (a1 &&& 31)) ^^^ (-1 : Int32)))) fun r10 =>
      some ((r8.1 - r10.1), r10.2)
    else
      some ((-100000 : Int32), r1.2)
set_option maxRecDepth 20000 in
theorem F8_more_ok {p : Program} {l : Launch} {e : Env} {s : State} {m : MethodId} {args : Array Value} {below : List Frame} {meth : Method} {c : Code} {G : GG} {D : Nat} {r : Int32 × Mem} (F : FrP shA G p s m args c RX8 cX8_more 3) (hr : meth.sig.returnType = (some .int)) (hlk : meth.locks = false) (hD : 16 ≤ D) {M : Mem} {a1 : Int32} (h : F8_more M a1 = some r) : XJ shA p l e (rmX D) s m args below meth c 0 0 G 3 (MQ below (QcX shA G ((some (.int r.1), r.2) : Option Value × Mem).1 ((some (.int r.1), r.2) : Option Value × Mem).2) args s 0 0 (AW shA G.2.1)) 0 [(0, .ref 0), (1, .int a1)] [] M := by
  unfold F8_more at h
  refine X_aload_n F dX8_more_0 rfl ?_
  refine X_getr F ffRX8_19 dX8_more_1 ?_
  refine X_iload_n F dX8_more_4 rfl ?_
  obtain ⟨r1, h2, h⟩ := bndS h
  refine X_callV (ci := 5) (As := [.int a1]) (rest := []) F fkRX8_122 feX6_holds fvX6_holds ⟨_, _, _, rfl, rfl, rfl⟩ (F6_holds_met (D := D - 1) F.2.2.2.2.2.2.2.1 (by omega) h2) rfl rfl (Nat.le_of_ble_eq_true rfl) (rm_ok (by omega) (by decide)) dX8_more_5 ?_
  show XJ shA p l e (rmX D) s m args below meth c 0 0 G 3 (MQ below (QcX shA G ((some (.int r.1), r.2) : Option Value × Mem).1 ((some (.int r.1), r.2) : Option Value × Mem).2) args s 0 0 (AW shA G.2.1)) 8 [(0, .ref 0), (1, .int a1)] [.int r1.1] r1.2
  refine X_if_ne (tgt := 14) F dX8_more_8 (by decide) (fun q3 => ?_) (fun q3 => ?_)
  · rw [if_pos q3] at h
    refine X_aload_n F dX8_more_14 rfl ?_
    refine X_getr F ffRX8_19 dX8_more_15 ?_
    obtain ⟨r4, h5, h⟩ := bndS h
    refine X_callV (ci := 5) (As := []) (rest := []) F fkRX8_187 feX6_all fvX6_all ⟨_, _, _, rfl, rfl, rfl⟩ (F6_all_met (D := D - 1) F.2.2.2.2.2.2.2.1 (by omega) h5) rfl rfl (Nat.le_of_ble_eq_true rfl) (rm_ok (by omega) (by decide)) dX8_more_18 ?_
    show XJ shA p l e (rmX D) s m args below meth c 0 0 G 3 (MQ below (QcX shA G ((some (.int r.1), r.2) : Option Value × Mem).1 ((some (.int r.1), r.2) : Option Value × Mem).2) args s 0 0 (AW shA G.2.1)) 21 [(0, .ref 0), (1, .int a1)] [.int r4.1] r4.2
    refine X_istore_n F dX8_more_21 (by decide) rfl ?_
    refine X_aload_n F dX8_more_22 rfl ?_
    refine X_getr F ffRX8_53 dX8_more_23 ?_
    refine X_iload_n F dX8_more_26 rfl ?_
    obtain ⟨r6, h7, h⟩ := bndS h
    refine X_callV (ci := 34) (As := [.int r4.1]) (rest := []) F fkRX8_190 feX0_survey fvX0_survey ⟨_, _, _, rfl, rfl, rfl⟩ (F0_survey_met (D := D - 1) F.2.2.2.2.2.2.2.1 (by omega) h7) rfl rfl (Nat.le_of_ble_eq_true rfl) (rm_ok (by omega) (by decide)) dX8_more_27 ?_
    show XJ shA p l e (rmX D) s m args below meth c 0 0 G 3 (MQ below (QcX shA G ((some (.int r.1), r.2) : Option Value × Mem).1 ((some (.int r.1), r.2) : Option Value × Mem).2) args s 0 0 (AW shA G.2.1)) 30 [(2, .int r4.1), (0, .ref 0), (1, .int a1)] [] r6.2
    refine X_aload_n F dX8_more_30 rfl ?_
    refine X_getr F ffRX8_53 dX8_more_31 ?_
    refine X_iload_n F dX8_more_34 rfl ?_
    obtain ⟨r8, h9, h⟩ := bndS h
    refine X_callV (ci := 34) (As := [.int r4.1]) (rest := []) F fkRX8_220 feX0_mostGain fvX0_mostGain ⟨_, _, _, rfl, rfl, rfl⟩ (F0_mostGain_met (D := D - 1) F.2.2.2.2.2.2.2.1 (by omega) h9) rfl rfl (Nat.le_of_ble_eq_true rfl) (rm_ok (by omega) (by decide)) dX8_more_35 ?_
    show XJ shA p l e (rmX D) s m args below meth c 0 0 G 3 (MQ below (QcX shA G ((some (.int r.1), r.2) : Option Value × Mem).1 ((some (.int r.1), r.2) : Option Value × Mem).2) args s 0 0 (AW shA G.2.1)) 38 [(2, .int r4.1), (0, .ref 0), (1, .int a1)] [.int r8.1] r8.2
    refine X_aload_n F dX8_more_38 rfl ?_
    refine X_getr F ffRX8_53 dX8_more_39 ?_
    refine X_iload_n F dX8_more_42 rfl ?_
    refine X_iconst F dX8_more_43 (v := (1 : Int32)) rfl ?_
    refine X_iload_n F dX8_more_44 rfl ?_
    refine X_ishl F dX8_more_45 ?_
    refine X_iconst F dX8_more_46 (v := (-1 : Int32)) rfl ?_
    refine X_ixor F dX8_more_47 ?_
    refine X_iand F dX8_more_48 ?_
    obtain ⟨r10, h11, h⟩ := bndS h
    refine X_callV (ci := 34) (As := [.int (r4.1 &&& (((1 : Int32) <<< (a1 &&& 31)) ^^^ (-1 : Int32)))]) (rest := [.int r8.1]) F fkRX8_220 feX0_mostGain fvX0_mostGain ⟨_, _, _, rfl, rfl, rfl⟩ (F0_mostGain_met (D := D - 1) F.2.2.2.2.2.2.2.1 (by omega) h11) rfl rfl (Nat.le_of_ble_eq_true rfl) (rm_ok (by omega) (by decide)) dX8_more_49 ?_
    show XJ shA p l e (rmX D) s m args below meth c 0 0 G 3 (MQ below (QcX shA G ((some (.int r.1), r.2) : Option Value × Mem).1 ((some (.int r.1), r.2) : Option Value × Mem).2) args s 0 0 (AW shA G.2.1)) 52 [(2, .int r4.1), (0, .ref 0), (1, .int a1)] [.int r10.1, .int r8.1] r10.2
    refine X_isub F dX8_more_52 ?_
    exact X_iret F hr hlk (retI h) dX8_more_53
  · rw [if_neg (fun z => z q3)] at h
    refine X_ldc F fcRX8_165 dX8_more_11 ?_
    exact X_iret F hr hlk (retI h) dX8_more_13
set_option maxRecDepth 20000 in
theorem F8_more_met {l : Launch} {G : GG} {D : Nat} {r : Int32 × Mem} {M : Mem} {a1 : Int32} (hI : Inj shA G.2.1) (hD : 16 ≤ D) (h : F8_more M a1 = some r) : MetX shA l G yX8_more cX8_more 3 (some .int) D [.ref 0, .int a1] M (some (.int r.1), r.2) :=
  X_met hI (by decide +kernel) (Nat.le_of_ble_eq_true rfl) (fun p e s m args below meth c F hr hlk => F8_more_ok F hr hlk hD h)
-- KeepOurPlace.stand
def F8_stand_j96 (rec37 : Mem → Int32 → Int32 → Int32 → Int32 → Int32 → Int32 → Option (Int32 × Mem)) (M : Mem) (x1 : Int32) (x2 : Int32) (x3 : Int32) (x4 : Int32) (x5 : Int32) (x6 : Int32) : Option (Int32 × Mem) :=
    rec37 M x1 x2 x3 x4 x5 (x6 + (1 : Int32))
def F8_stand_j88 (rec37 : Mem → Int32 → Int32 → Int32 → Int32 → Int32 → Int32 → Option (Int32 × Mem)) (M : Mem) (x1 : Int32) (x2 : Int32) (x3 : Int32) (x6 : Int32) (x7 : Int32) : Option (Int32 × Mem) :=
    F8_stand_j96 rec37 M x1 x2 x3 x6 x7 x6
def F8_stand_l37_b (rec37 : Mem → Int32 → Int32 → Int32 → Int32 → Int32 → Int32 → Option (Int32 × Mem)) (M : Mem) (x1 : Int32) (x2 : Int32) (x3 : Int32) (x4 : Int32) (x5 : Int32) (x6 : Int32) : Option (Int32 × Mem) :=
    if (M 1 3) < x6 then
      if ¬ x1 = 0 then
        some (x5, (up2 M 1 4 x3))
      else
        some (x4, (up2 M 1 4 x3))
    else
      Option.bind (F0_survey (up2 M 1 4 x6) x2) fun r7 =>
      Option.bind (F0_mostGain r7.2 x2) fun r9 =>
      if x6 = 0 then
        F8_stand_j88 rec37 r9.2 x1 x2 x3 x6 r9.1
      else
        if r9.1 ≤ x5 then
          F8_stand_j96 rec37 r9.2 x1 x2 x3 x4 x5 x6
        else
          F8_stand_j88 rec37 r9.2 x1 x2 x3 x6 r9.1
def F8_stand_l37 : Nat → Mem → Int32 → Int32 → Int32 → Int32 → Int32 → Int32 → Option (Int32 × Mem)
  | 0, _, _, _, _, _, _, _ => none
  | fu + 1, M, x1, x2, x3, x4, x5, x6 => F8_stand_l37_b (F8_stand_l37 fu) M x1 x2 x3 x4 x5 x6
def F8_stand (M : Mem) (a1 : Int32) : Option (Int32 × Mem) :=
    if a1 < 0 then
      some ((-100000 : Int32), M)
    else
      if a1 ≤ (1 : Int32) then
        Option.bind (F6_all M) fun r3 =>
        F8_stand_l37 FUEL r3.2 a1 r3.1 (r3.2 1 4) (0 : Int32) (0 : Int32) (0 : Int32)
      else
        some ((-100000 : Int32), M)
set_option maxRecDepth 20000 in
theorem F8_stand_j96_ok {p : Program} {l : Launch} {e : Env} {s : State} {m : MethodId} {args : Array Value} {below : List Frame} {meth : Method} {c : Code} {G : GG} {D : Nat} {r : Int32 × Mem} {rec37 : Mem → Int32 → Int32 → Int32 → Int32 → Int32 → Int32 → Option (Int32 × Mem)} (F : FrP shA G p s m args c RX8 cX8_stand 8) (hr : meth.sig.returnType = (some .int)) (hlk : meth.locks = false) (hD : 16 ≤ D) (hrec37 : ∀ (M : Mem) (x1 : Int32) (x2 : Int32) (x3 : Int32) (x4 : Int32) (x5 : Int32) (x6 : Int32), rec37 M x1 x2 x3 x4 x5 x6 = some r → XJ shA p l e (rmX D) s m args below meth c 0 0 G 8 (MQ below (QcX shA G ((some (.int r.1), r.2) : Option Value × Mem).1 ((some (.int r.1), r.2) : Option Value × Mem).2) args s 0 0 (AW shA G.2.1)) 37 [(0, .ref 0), (1, .int x1), (2, .int x2), (3, .int x3), (4, .int x4), (5, .int x5), (6, .int x6)] [] M) {M : Mem} {x1 : Int32} {x2 : Int32} {x3 : Int32} {x4 : Int32} {x5 : Int32} {x6 : Int32} (h : F8_stand_j96 rec37 M x1 x2 x3 x4 x5 x6 = some r) : XJ shA p l e (rmX D) s m args below meth c 0 0 G 8 (MQ below (QcX shA G ((some (.int r.1), r.2) : Option Value × Mem).1 ((some (.int r.1), r.2) : Option Value × Mem).2) args s 0 0 (AW shA G.2.1)) 96 [(0, .ref 0), (1, .int x1), (2, .int x2), (3, .int x3), (4, .int x4), (5, .int x5), (6, .int x6)] [] M := by
  unfold F8_stand_j96 at h
  refine X_iinc F dX8_stand_96 rfl (v := (1 : Int32)) rfl (by decide) rfl ?_
  refine X_goto (tgt := 37) F dX8_stand_99 (by decide) ?_
  refine X_pick [1, 2, 3, 4, 5, 6, 0] rfl ?_
  exact hrec37 _ _ _ _ _ _ _ h
set_option maxRecDepth 20000 in
theorem F8_stand_j88_ok {p : Program} {l : Launch} {e : Env} {s : State} {m : MethodId} {args : Array Value} {below : List Frame} {meth : Method} {c : Code} {G : GG} {D : Nat} {r : Int32 × Mem} {rec37 : Mem → Int32 → Int32 → Int32 → Int32 → Int32 → Int32 → Option (Int32 × Mem)} (F : FrP shA G p s m args c RX8 cX8_stand 8) (hr : meth.sig.returnType = (some .int)) (hlk : meth.locks = false) (hD : 16 ≤ D) (hrec37 : ∀ (M : Mem) (x1 : Int32) (x2 : Int32) (x3 : Int32) (x4 : Int32) (x5 : Int32) (x6 : Int32), rec37 M x1 x2 x3 x4 x5 x6 = some r → XJ shA p l e (rmX D) s m args below meth c 0 0 G 8 (MQ below (QcX shA G ((some (.int r.1), r.2) : Option Value × Mem).1 ((some (.int r.1), r.2) : Option Value × Mem).2) args s 0 0 (AW shA G.2.1)) 37 [(0, .ref 0), (1, .int x1), (2, .int x2), (3, .int x3), (4, .int x4), (5, .int x5), (6, .int x6)] [] M) {M : Mem} {x1 : Int32} {x2 : Int32} {x3 : Int32} {x6 : Int32} {x7 : Int32} (h : F8_stand_j88 rec37 M x1 x2 x3 x6 x7 = some r) : XJ shA p l e (rmX D) s m args below meth c 0 0 G 8 (MQ below (QcX shA G ((some (.int r.1), r.2) : Option Value × Mem).1 ((some (.int r.1), r.2) : Option Value × Mem).2) args s 0 0 (AW shA G.2.1)) 88 [(0, .ref 0), (1, .int x1), (2, .int x2), (3, .int x3), (6, .int x6), (7, .int x7)] [] M := by
  unfold F8_stand_j88 at h
  refine X_iload F dX8_stand_88 rfl ?_
  refine X_istore F dX8_stand_90 (by decide) rfl ?_
  refine X_iload F dX8_stand_92 rfl ?_
  refine X_istore F dX8_stand_94 (by decide) rfl ?_
  refine X_pick [2, 3, 4, 5, 1, 0, 6] rfl ?_
  exact F8_stand_j96_ok F hr hlk hD hrec37 h
set_option maxRecDepth 20000 in
theorem F8_stand_l37_bok {p : Program} {l : Launch} {e : Env} {s : State} {m : MethodId} {args : Array Value} {below : List Frame} {meth : Method} {c : Code} {G : GG} {D : Nat} {r : Int32 × Mem} {rec37 : Mem → Int32 → Int32 → Int32 → Int32 → Int32 → Int32 → Option (Int32 × Mem)} (F : FrP shA G p s m args c RX8 cX8_stand 8) (hr : meth.sig.returnType = (some .int)) (hlk : meth.locks = false) (hD : 16 ≤ D) (hrec37 : ∀ (M : Mem) (x1 : Int32) (x2 : Int32) (x3 : Int32) (x4 : Int32) (x5 : Int32) (x6 : Int32), rec37 M x1 x2 x3 x4 x5 x6 = some r → XJ shA p l e (rmX D) s m args below meth c 0 0 G 8 (MQ below (QcX shA G ((some (.int r.1), r.2) : Option Value × Mem).1 ((some (.int r.1), r.2) : Option Value × Mem).2) args s 0 0 (AW shA G.2.1)) 37 [(0, .ref 0), (1, .int x1), (2, .int x2), (3, .int x3), (4, .int x4), (5, .int x5), (6, .int x6)] [] M) {M : Mem} {x1 : Int32} {x2 : Int32} {x3 : Int32} {x4 : Int32} {x5 : Int32} {x6 : Int32} (h : F8_stand_l37_b rec37 M x1 x2 x3 x4 x5 x6 = some r) : XJ shA p l e (rmX D) s m args below meth c 0 0 G 8 (MQ below (QcX shA G ((some (.int r.1), r.2) : Option Value × Mem).1 ((some (.int r.1), r.2) : Option Value × Mem).2) args s 0 0 (AW shA G.2.1)) 37 [(0, .ref 0), (1, .int x1), (2, .int x2), (3, .int x3), (4, .int x4), (5, .int x5), (6, .int x6)] [] M := by
  unfold F8_stand_l37_b at h
  refine X_iload F dX8_stand_37 rfl ?_
  refine X_aload_n F dX8_stand_39 rfl ?_
  refine X_getr F ffRX8_10 dX8_stand_40 ?_
  refine X_geti (v := (M 1 3)) F ffRX8_142 dX8_stand_43 rfl ?_
  refine X_icmp_gt (tgt := 102) F dX8_stand_46 (by decide) (fun q5 => ?_) (fun q5 => ?_)
  · rw [if_pos q5] at h
    refine X_aload_n F dX8_stand_102 rfl ?_
    refine X_getr F ffRX8_10 dX8_stand_103 ?_
    refine X_iload_n F dX8_stand_106 rfl ?_
    refine X_puti F ffRX8_223 fw2_4 (by decide) dX8_stand_107 ?_
    refine X_iload_n F dX8_stand_110 rfl ?_
    refine X_if_ne (tgt := 119) F dX8_stand_111 (by decide) (fun q6 => ?_) (fun q6 => ?_)
    · rw [if_pos q6] at h
      refine X_iload F dX8_stand_119 rfl ?_
      exact X_iret F hr hlk (retI h) dX8_stand_121
    · rw [if_neg (fun z => z q6)] at h
      refine X_iload F dX8_stand_114 rfl ?_
      refine X_goto (tgt := 121) F dX8_stand_116 (by decide) ?_
      exact X_iret F hr hlk (retI h) dX8_stand_121
  · rw [if_neg q5] at h
    refine X_aload_n F dX8_stand_49 rfl ?_
    refine X_getr F ffRX8_10 dX8_stand_50 ?_
    refine X_iload F dX8_stand_53 rfl ?_
    refine X_puti F ffRX8_223 fw2_4 (by decide) dX8_stand_55 ?_
    refine X_aload_n F dX8_stand_58 rfl ?_
    refine X_getr F ffRX8_53 dX8_stand_59 ?_
    refine X_iload_n F dX8_stand_62 rfl ?_
    obtain ⟨r7, h8, h⟩ := bndS h
    refine X_callV (ci := 34) (As := [.int x2]) (rest := []) F fkRX8_190 feX0_survey fvX0_survey ⟨_, _, _, rfl, rfl, rfl⟩ (F0_survey_met (D := D - 1) F.2.2.2.2.2.2.2.1 (by omega) h8) rfl rfl (Nat.le_of_ble_eq_true rfl) (rm_ok (by omega) (by decide)) dX8_stand_63 ?_
    show XJ shA p l e (rmX D) s m args below meth c 0 0 G 8 (MQ below (QcX shA G ((some (.int r.1), r.2) : Option Value × Mem).1 ((some (.int r.1), r.2) : Option Value × Mem).2) args s 0 0 (AW shA G.2.1)) 66 [(0, .ref 0), (1, .int x1), (2, .int x2), (3, .int x3), (4, .int x4), (5, .int x5), (6, .int x6)] [] r7.2
    refine X_aload_n F dX8_stand_66 rfl ?_
    refine X_getr F ffRX8_53 dX8_stand_67 ?_
    refine X_iload_n F dX8_stand_70 rfl ?_
    obtain ⟨r9, h10, h⟩ := bndS h
    refine X_callV (ci := 34) (As := [.int x2]) (rest := []) F fkRX8_220 feX0_mostGain fvX0_mostGain ⟨_, _, _, rfl, rfl, rfl⟩ (F0_mostGain_met (D := D - 1) F.2.2.2.2.2.2.2.1 (by omega) h10) rfl rfl (Nat.le_of_ble_eq_true rfl) (rm_ok (by omega) (by decide)) dX8_stand_71 ?_
    show XJ shA p l e (rmX D) s m args below meth c 0 0 G 8 (MQ below (QcX shA G ((some (.int r.1), r.2) : Option Value × Mem).1 ((some (.int r.1), r.2) : Option Value × Mem).2) args s 0 0 (AW shA G.2.1)) 74 [(0, .ref 0), (1, .int x1), (2, .int x2), (3, .int x3), (4, .int x4), (5, .int x5), (6, .int x6)] [.int r9.1] r9.2
    refine X_istore F dX8_stand_74 (by decide) rfl ?_
    refine X_iload F dX8_stand_76 rfl ?_
    refine X_if_eq (tgt := 88) F dX8_stand_78 (by decide) (fun q11 => ?_) (fun q11 => ?_)
    · rw [if_pos q11] at h
      refine X_pick [1, 2, 3, 4, 7, 0] rfl ?_
      exact F8_stand_j88_ok F hr hlk hD hrec37 h
    · rw [if_neg q11] at h
      refine X_iload F dX8_stand_81 rfl ?_
      refine X_iload F dX8_stand_83 rfl ?_
      refine X_icmp_le (tgt := 96) F dX8_stand_85 (by decide) (fun q12 => ?_) (fun q12 => ?_)
      · rw [if_pos q12] at h
        refine X_pick [1, 2, 3, 4, 5, 6, 7] rfl ?_
        exact F8_stand_j96_ok F hr hlk hD hrec37 h
      · rw [if_neg q12] at h
        refine X_pick [1, 2, 3, 4, 7, 0] rfl ?_
        exact F8_stand_j88_ok F hr hlk hD hrec37 h
set_option maxRecDepth 20000 in
theorem F8_stand_l37_ok {p : Program} {l : Launch} {e : Env} {s : State} {m : MethodId} {args : Array Value} {below : List Frame} {meth : Method} {c : Code} {G : GG} {D : Nat} {r : Int32 × Mem} (F : FrP shA G p s m args c RX8 cX8_stand 8) (hr : meth.sig.returnType = (some .int)) (hlk : meth.locks = false) (hD : 16 ≤ D) : ∀ (fu : Nat) (M : Mem) (x1 : Int32) (x2 : Int32) (x3 : Int32) (x4 : Int32) (x5 : Int32) (x6 : Int32), F8_stand_l37 fu M x1 x2 x3 x4 x5 x6 = some r → XJ shA p l e (rmX D) s m args below meth c 0 0 G 8 (MQ below (QcX shA G ((some (.int r.1), r.2) : Option Value × Mem).1 ((some (.int r.1), r.2) : Option Value × Mem).2) args s 0 0 (AW shA G.2.1)) 37 [(0, .ref 0), (1, .int x1), (2, .int x2), (3, .int x3), (4, .int x4), (5, .int x5), (6, .int x6)] [] M := by
  intro fu
  induction fu with
  | zero => intro M x1 x2 x3 x4 x5 x6 h; cases h
  | succ fu ih => intro M x1 x2 x3 x4 x5 x6 h; exact F8_stand_l37_bok F hr hlk hD (fun M x1 x2 x3 x4 x5 x6 => ih M x1 x2 x3 x4 x5 x6) h
set_option maxRecDepth 20000 in
theorem F8_stand_ok {p : Program} {l : Launch} {e : Env} {s : State} {m : MethodId} {args : Array Value} {below : List Frame} {meth : Method} {c : Code} {G : GG} {D : Nat} {r : Int32 × Mem} (F : FrP shA G p s m args c RX8 cX8_stand 8) (hr : meth.sig.returnType = (some .int)) (hlk : meth.locks = false) (hD : 16 ≤ D) {M : Mem} {a1 : Int32} (h : F8_stand M a1 = some r) : XJ shA p l e (rmX D) s m args below meth c 0 0 G 8 (MQ below (QcX shA G ((some (.int r.1), r.2) : Option Value × Mem).1 ((some (.int r.1), r.2) : Option Value × Mem).2) args s 0 0 (AW shA G.2.1)) 0 [(0, .ref 0), (1, .int a1)] [] M := by
  unfold F8_stand at h
  refine X_iload_n F dX8_stand_0 rfl ?_
  refine X_if_lt (tgt := 9) F dX8_stand_1 (by decide) (fun q1 => ?_) (fun q1 => ?_)
  · rw [if_pos q1] at h
    refine X_ldc F fcRX8_165 dX8_stand_9 ?_
    exact X_iret F hr hlk (retI h) dX8_stand_11
  · rw [if_neg q1] at h
    refine X_iload_n F dX8_stand_4 rfl ?_
    refine X_iconst F dX8_stand_5 (v := (1 : Int32)) rfl ?_
    refine X_icmp_le (tgt := 12) F dX8_stand_6 (by decide) (fun q2 => ?_) (fun q2 => ?_)
    · rw [if_pos q2] at h
      refine X_aload_n F dX8_stand_12 rfl ?_
      refine X_getr F ffRX8_19 dX8_stand_13 ?_
      obtain ⟨r3, h4, h⟩ := bndS h
      refine X_callV (ci := 5) (As := []) (rest := []) F fkRX8_187 feX6_all fvX6_all ⟨_, _, _, rfl, rfl, rfl⟩ (F6_all_met (D := D - 1) F.2.2.2.2.2.2.2.1 (by omega) h4) rfl rfl (Nat.le_of_ble_eq_true rfl) (rm_ok (by omega) (by decide)) dX8_stand_16 ?_
      show XJ shA p l e (rmX D) s m args below meth c 0 0 G 8 (MQ below (QcX shA G ((some (.int r.1), r.2) : Option Value × Mem).1 ((some (.int r.1), r.2) : Option Value × Mem).2) args s 0 0 (AW shA G.2.1)) 19 [(0, .ref 0), (1, .int a1)] [.int r3.1] r3.2
      refine X_istore_n F dX8_stand_19 (by decide) rfl ?_
      refine X_aload_n F dX8_stand_20 rfl ?_
      refine X_getr F ffRX8_10 dX8_stand_21 ?_
      refine X_geti (v := (r3.2 1 4)) F ffRX8_223 dX8_stand_24 rfl ?_
      refine X_istore_n F dX8_stand_27 (by decide) rfl ?_
      refine X_iconst F dX8_stand_28 (v := (0 : Int32)) rfl ?_
      refine X_istore F dX8_stand_29 (by decide) rfl ?_
      refine X_iconst F dX8_stand_31 (v := (0 : Int32)) rfl ?_
      refine X_istore F dX8_stand_32 (by decide) rfl ?_
      refine X_iconst F dX8_stand_34 (v := (0 : Int32)) rfl ?_
      refine X_istore F dX8_stand_35 (by decide) rfl ?_
      refine X_pick [5, 6, 4, 3, 2, 1, 0] rfl ?_
      exact F8_stand_l37_ok F hr hlk hD FUEL _ _ _ _ _ _ _ h
    · rw [if_neg q2] at h
      refine X_ldc F fcRX8_165 dX8_stand_9 ?_
      exact X_iret F hr hlk (retI h) dX8_stand_11
set_option maxRecDepth 20000 in
theorem F8_stand_met {l : Launch} {G : GG} {D : Nat} {r : Int32 × Mem} {M : Mem} {a1 : Int32} (hI : Inj shA G.2.1) (hD : 16 ≤ D) (h : F8_stand M a1 = some r) : MetX shA l G yX8_stand cX8_stand 8 (some .int) D [.ref 0, .int a1] M (some (.int r.1), r.2) :=
  X_met hI (by decide +kernel) (Nat.le_of_ble_eq_true rfl) (fun p e s m args below meth c F hr hlk => F8_stand_ok F hr hlk hD h)
-- KeepOurPlace.change
def F8_change_j91 (rec27 : Mem → Int32 → Int32 → Int32 → Int32 → Option (Int32 × Mem)) (rec48 : Mem → Int32 → Int32 → Int32 → Int32 → Int32 → Option (Int32 × Mem)) (M : Mem) (x1 : Int32) (x2 : Int32) (x3 : Int32) (x4 : Int32) (x5 : Int32) : Option (Int32 × Mem) :=
    rec48 M x1 x2 x3 x4 (x5 + (1 : Int32))
def F8_change_l48_b (rec27 : Mem → Int32 → Int32 → Int32 → Int32 → Option (Int32 × Mem)) (rec48 : Mem → Int32 → Int32 → Int32 → Int32 → Int32 → Option (Int32 × Mem)) (M : Mem) (x1 : Int32) (x2 : Int32) (x3 : Int32) (x4 : Int32) (x5 : Int32) : Option (Int32 × Mem) :=
    if (M 1 3) ≤ x5 then
      rec27 M x1 x2 x3 (x4 + (1 : Int32))
    else
      Option.bind (F7_turnChanged M x4 x5) fun r8 =>
      if x3 ≤ r8.1 then
        F8_change_j91 rec27 rec48 r8.2 x1 x2 x3 x4 x5
      else
        F8_change_j91 rec27 rec48 r8.2 x1 (((10 : Int32) * x4) + x5) r8.1 x4 x5
def F8_change_l48 (rec27 : Mem → Int32 → Int32 → Int32 → Int32 → Option (Int32 × Mem)) : Nat → Mem → Int32 → Int32 → Int32 → Int32 → Int32 → Option (Int32 × Mem)
  | 0, _, _, _, _, _, _ => none
  | fu + 1, M, x1, x2, x3, x4, x5 => F8_change_l48_b rec27 (F8_change_l48 rec27 fu) M x1 x2 x3 x4 x5
def F8_change_l27_b (rec27 : Mem → Int32 → Int32 → Int32 → Int32 → Option (Int32 × Mem)) (M : Mem) (x1 : Int32) (x2 : Int32) (x3 : Int32) (x4 : Int32) : Option (Int32 × Mem) :=
    if (M 1 4) ≤ x4 then
      if ¬ x1 = 0 then
        some (x3, M)
      else
        some (x2, M)
    else
      F8_change_l48 rec27 FUEL M x1 x2 x3 x4 (M 1 4)
def F8_change_l27 : Nat → Mem → Int32 → Int32 → Int32 → Int32 → Option (Int32 × Mem)
  | 0, _, _, _, _, _ => none
  | fu + 1, M, x1, x2, x3, x4 => F8_change_l27_b (F8_change_l27 fu) M x1 x2 x3 x4
def F8_change (M : Mem) (a1 : Int32) : Option (Int32 × Mem) :=
    if a1 < 0 then
      some ((-2 : Int32), M)
    else
      if a1 ≤ (1 : Int32) then
        Option.bind (F7_turnChanged M (-1 : Int32) (-1 : Int32)) fun r3 =>
        F8_change_l27 FUEL r3.2 a1 (-1 : Int32) r3.1 (0 : Int32)
      else
        some ((-2 : Int32), M)
set_option maxRecDepth 20000 in
theorem F8_change_j91_ok {p : Program} {l : Launch} {e : Env} {s : State} {m : MethodId} {args : Array Value} {below : List Frame} {meth : Method} {c : Code} {G : GG} {D : Nat} {r : Int32 × Mem} {rec27 : Mem → Int32 → Int32 → Int32 → Int32 → Option (Int32 × Mem)} {rec48 : Mem → Int32 → Int32 → Int32 → Int32 → Int32 → Option (Int32 × Mem)} (F : FrP shA G p s m args c RX8 cX8_change 7) (hr : meth.sig.returnType = (some .int)) (hlk : meth.locks = false) (hD : 5 ≤ D) (hrec27 : ∀ (M : Mem) (x1 : Int32) (x2 : Int32) (x3 : Int32) (x4 : Int32), rec27 M x1 x2 x3 x4 = some r → XJ shA p l e (rmX D) s m args below meth c 0 0 G 7 (MQ below (QcX shA G ((some (.int r.1), r.2) : Option Value × Mem).1 ((some (.int r.1), r.2) : Option Value × Mem).2) args s 0 0 (AW shA G.2.1)) 27 [(0, .ref 0), (1, .int x1), (2, .int x2), (3, .int x3), (4, .int x4)] [] M) (hrec48 : ∀ (M : Mem) (x1 : Int32) (x2 : Int32) (x3 : Int32) (x4 : Int32) (x5 : Int32), rec48 M x1 x2 x3 x4 x5 = some r → XJ shA p l e (rmX D) s m args below meth c 0 0 G 7 (MQ below (QcX shA G ((some (.int r.1), r.2) : Option Value × Mem).1 ((some (.int r.1), r.2) : Option Value × Mem).2) args s 0 0 (AW shA G.2.1)) 48 [(0, .ref 0), (1, .int x1), (2, .int x2), (3, .int x3), (4, .int x4), (5, .int x5)] [] M) {M : Mem} {x1 : Int32} {x2 : Int32} {x3 : Int32} {x4 : Int32} {x5 : Int32} (h : F8_change_j91 rec27 rec48 M x1 x2 x3 x4 x5 = some r) : XJ shA p l e (rmX D) s m args below meth c 0 0 G 7 (MQ below (QcX shA G ((some (.int r.1), r.2) : Option Value × Mem).1 ((some (.int r.1), r.2) : Option Value × Mem).2) args s 0 0 (AW shA G.2.1)) 91 [(0, .ref 0), (1, .int x1), (2, .int x2), (3, .int x3), (4, .int x4), (5, .int x5)] [] M := by
  unfold F8_change_j91 at h
  refine X_iinc F dX8_change_91 rfl (v := (1 : Int32)) rfl (by decide) rfl ?_
  refine X_goto (tgt := 48) F dX8_change_94 (by decide) ?_
  refine X_pick [1, 2, 3, 4, 5, 0] rfl ?_
  exact hrec48 _ _ _ _ _ _ h
set_option maxRecDepth 20000 in
theorem F8_change_l48_bok {p : Program} {l : Launch} {e : Env} {s : State} {m : MethodId} {args : Array Value} {below : List Frame} {meth : Method} {c : Code} {G : GG} {D : Nat} {r : Int32 × Mem} {rec27 : Mem → Int32 → Int32 → Int32 → Int32 → Option (Int32 × Mem)} {rec48 : Mem → Int32 → Int32 → Int32 → Int32 → Int32 → Option (Int32 × Mem)} (F : FrP shA G p s m args c RX8 cX8_change 7) (hr : meth.sig.returnType = (some .int)) (hlk : meth.locks = false) (hD : 5 ≤ D) (hrec27 : ∀ (M : Mem) (x1 : Int32) (x2 : Int32) (x3 : Int32) (x4 : Int32), rec27 M x1 x2 x3 x4 = some r → XJ shA p l e (rmX D) s m args below meth c 0 0 G 7 (MQ below (QcX shA G ((some (.int r.1), r.2) : Option Value × Mem).1 ((some (.int r.1), r.2) : Option Value × Mem).2) args s 0 0 (AW shA G.2.1)) 27 [(0, .ref 0), (1, .int x1), (2, .int x2), (3, .int x3), (4, .int x4)] [] M) (hrec48 : ∀ (M : Mem) (x1 : Int32) (x2 : Int32) (x3 : Int32) (x4 : Int32) (x5 : Int32), rec48 M x1 x2 x3 x4 x5 = some r → XJ shA p l e (rmX D) s m args below meth c 0 0 G 7 (MQ below (QcX shA G ((some (.int r.1), r.2) : Option Value × Mem).1 ((some (.int r.1), r.2) : Option Value × Mem).2) args s 0 0 (AW shA G.2.1)) 48 [(0, .ref 0), (1, .int x1), (2, .int x2), (3, .int x3), (4, .int x4), (5, .int x5)] [] M) {M : Mem} {x1 : Int32} {x2 : Int32} {x3 : Int32} {x4 : Int32} {x5 : Int32} (h : F8_change_l48_b rec27 rec48 M x1 x2 x3 x4 x5 = some r) : XJ shA p l e (rmX D) s m args below meth c 0 0 G 7 (MQ below (QcX shA G ((some (.int r.1), r.2) : Option Value × Mem).1 ((some (.int r.1), r.2) : Option Value × Mem).2) args s 0 0 (AW shA G.2.1)) 48 [(0, .ref 0), (1, .int x1), (2, .int x2), (3, .int x3), (4, .int x4), (5, .int x5)] [] M := by
  unfold F8_change_l48_b at h
  refine X_iload F dX8_change_48 rfl ?_
  refine X_aload_n F dX8_change_50 rfl ?_
  refine X_getr F ffRX8_10 dX8_change_51 ?_
  refine X_geti (v := (M 1 3)) F ffRX8_142 dX8_change_54 rfl ?_
  refine X_icmp_ge (tgt := 97) F dX8_change_57 (by decide) (fun q7 => ?_) (fun q7 => ?_)
  · rw [if_pos q7] at h
    refine X_iinc F dX8_change_97 rfl (v := (1 : Int32)) rfl (by decide) rfl ?_
    refine X_goto (tgt := 27) F dX8_change_100 (by decide) ?_
    refine X_pick [1, 2, 3, 4, 0] rfl ?_
    exact hrec27 _ _ _ _ _ h
  · rw [if_neg q7] at h
    refine X_aload_n F dX8_change_60 rfl ?_
    refine X_getr F ffRX8_44 dX8_change_61 ?_
    refine X_iload F dX8_change_64 rfl ?_
    refine X_iload F dX8_change_66 rfl ?_
    obtain ⟨r8, h9, h⟩ := bndS h
    refine X_callV (ci := 33) (As := [.int x4, .int x5]) (rest := []) F fkRX8_159 feX7_turnChanged fvX7_turnChanged ⟨_, _, _, rfl, rfl, rfl⟩ (F7_turnChanged_met (D := D - 1) F.2.2.2.2.2.2.2.1 (by omega) h9) rfl rfl (Nat.le_of_ble_eq_true rfl) (rm_ok (by omega) (by decide)) dX8_change_68 ?_
    show XJ shA p l e (rmX D) s m args below meth c 0 0 G 7 (MQ below (QcX shA G ((some (.int r.1), r.2) : Option Value × Mem).1 ((some (.int r.1), r.2) : Option Value × Mem).2) args s 0 0 (AW shA G.2.1)) 71 [(0, .ref 0), (1, .int x1), (2, .int x2), (3, .int x3), (4, .int x4), (5, .int x5)] [.int r8.1] r8.2
    refine X_istore F dX8_change_71 (by decide) rfl ?_
    refine X_iload F dX8_change_73 rfl ?_
    refine X_iload_n F dX8_change_75 rfl ?_
    refine X_icmp_ge (tgt := 91) F dX8_change_76 (by decide) (fun q10 => ?_) (fun q10 => ?_)
    · rw [if_pos q10] at h
      refine X_pick [1, 2, 3, 4, 5, 6] rfl ?_
      exact F8_change_j91_ok F hr hlk hD hrec27 hrec48 h
    · rw [if_neg q10] at h
      refine X_bipush F dX8_change_79 (v := (10 : Int32)) rfl ?_
      refine X_iload F dX8_change_81 rfl ?_
      refine X_imul F dX8_change_83 ?_
      refine X_iload F dX8_change_84 rfl ?_
      refine X_iadd F dX8_change_86 ?_
      refine X_istore_n F dX8_change_87 (by decide) rfl ?_
      refine X_iload F dX8_change_88 rfl ?_
      refine X_istore_n F dX8_change_90 (by decide) rfl ?_
      refine X_pick [3, 4, 1, 0, 5, 6] rfl ?_
      exact F8_change_j91_ok F hr hlk hD hrec27 hrec48 h
set_option maxRecDepth 20000 in
theorem F8_change_l48_ok {p : Program} {l : Launch} {e : Env} {s : State} {m : MethodId} {args : Array Value} {below : List Frame} {meth : Method} {c : Code} {G : GG} {D : Nat} {r : Int32 × Mem} {rec27 : Mem → Int32 → Int32 → Int32 → Int32 → Option (Int32 × Mem)} (F : FrP shA G p s m args c RX8 cX8_change 7) (hr : meth.sig.returnType = (some .int)) (hlk : meth.locks = false) (hD : 5 ≤ D) (hrec27 : ∀ (M : Mem) (x1 : Int32) (x2 : Int32) (x3 : Int32) (x4 : Int32), rec27 M x1 x2 x3 x4 = some r → XJ shA p l e (rmX D) s m args below meth c 0 0 G 7 (MQ below (QcX shA G ((some (.int r.1), r.2) : Option Value × Mem).1 ((some (.int r.1), r.2) : Option Value × Mem).2) args s 0 0 (AW shA G.2.1)) 27 [(0, .ref 0), (1, .int x1), (2, .int x2), (3, .int x3), (4, .int x4)] [] M) : ∀ (fu : Nat) (M : Mem) (x1 : Int32) (x2 : Int32) (x3 : Int32) (x4 : Int32) (x5 : Int32), F8_change_l48 rec27 fu M x1 x2 x3 x4 x5 = some r → XJ shA p l e (rmX D) s m args below meth c 0 0 G 7 (MQ below (QcX shA G ((some (.int r.1), r.2) : Option Value × Mem).1 ((some (.int r.1), r.2) : Option Value × Mem).2) args s 0 0 (AW shA G.2.1)) 48 [(0, .ref 0), (1, .int x1), (2, .int x2), (3, .int x3), (4, .int x4), (5, .int x5)] [] M := by
  intro fu
  induction fu with
  | zero => intro M x1 x2 x3 x4 x5 h; cases h
  | succ fu ih => intro M x1 x2 x3 x4 x5 h; exact F8_change_l48_bok F hr hlk hD hrec27 (fun M x1 x2 x3 x4 x5 => ih M x1 x2 x3 x4 x5) h
set_option maxRecDepth 20000 in
theorem F8_change_l27_bok {p : Program} {l : Launch} {e : Env} {s : State} {m : MethodId} {args : Array Value} {below : List Frame} {meth : Method} {c : Code} {G : GG} {D : Nat} {r : Int32 × Mem} {rec27 : Mem → Int32 → Int32 → Int32 → Int32 → Option (Int32 × Mem)} (F : FrP shA G p s m args c RX8 cX8_change 7) (hr : meth.sig.returnType = (some .int)) (hlk : meth.locks = false) (hD : 5 ≤ D) (hrec27 : ∀ (M : Mem) (x1 : Int32) (x2 : Int32) (x3 : Int32) (x4 : Int32), rec27 M x1 x2 x3 x4 = some r → XJ shA p l e (rmX D) s m args below meth c 0 0 G 7 (MQ below (QcX shA G ((some (.int r.1), r.2) : Option Value × Mem).1 ((some (.int r.1), r.2) : Option Value × Mem).2) args s 0 0 (AW shA G.2.1)) 27 [(0, .ref 0), (1, .int x1), (2, .int x2), (3, .int x3), (4, .int x4)] [] M) {M : Mem} {x1 : Int32} {x2 : Int32} {x3 : Int32} {x4 : Int32} (h : F8_change_l27_b rec27 M x1 x2 x3 x4 = some r) : XJ shA p l e (rmX D) s m args below meth c 0 0 G 7 (MQ below (QcX shA G ((some (.int r.1), r.2) : Option Value × Mem).1 ((some (.int r.1), r.2) : Option Value × Mem).2) args s 0 0 (AW shA G.2.1)) 27 [(0, .ref 0), (1, .int x1), (2, .int x2), (3, .int x3), (4, .int x4)] [] M := by
  unfold F8_change_l27_b at h
  refine X_iload F dX8_change_27 rfl ?_
  refine X_aload_n F dX8_change_29 rfl ?_
  refine X_getr F ffRX8_10 dX8_change_30 ?_
  refine X_geti (v := (M 1 4)) F ffRX8_223 dX8_change_33 rfl ?_
  refine X_icmp_ge (tgt := 103) F dX8_change_36 (by decide) (fun q5 => ?_) (fun q5 => ?_)
  · rw [if_pos q5] at h
    refine X_iload_n F dX8_change_103 rfl ?_
    refine X_if_ne (tgt := 111) F dX8_change_104 (by decide) (fun q6 => ?_) (fun q6 => ?_)
    · rw [if_pos q6] at h
      refine X_iload_n F dX8_change_111 rfl ?_
      exact X_iret F hr hlk (retI h) dX8_change_112
    · rw [if_neg (fun z => z q6)] at h
      refine X_iload_n F dX8_change_107 rfl ?_
      refine X_goto (tgt := 112) F dX8_change_108 (by decide) ?_
      exact X_iret F hr hlk (retI h) dX8_change_112
  · rw [if_neg q5] at h
    refine X_aload_n F dX8_change_39 rfl ?_
    refine X_getr F ffRX8_10 dX8_change_40 ?_
    refine X_geti (v := (M 1 4)) F ffRX8_223 dX8_change_43 rfl ?_
    refine X_istore F dX8_change_46 (by decide) rfl ?_
    refine X_pick [1, 2, 3, 4, 5, 0] rfl ?_
    exact F8_change_l48_ok F hr hlk hD hrec27 FUEL _ _ _ _ _ _ h
set_option maxRecDepth 20000 in
theorem F8_change_l27_ok {p : Program} {l : Launch} {e : Env} {s : State} {m : MethodId} {args : Array Value} {below : List Frame} {meth : Method} {c : Code} {G : GG} {D : Nat} {r : Int32 × Mem} (F : FrP shA G p s m args c RX8 cX8_change 7) (hr : meth.sig.returnType = (some .int)) (hlk : meth.locks = false) (hD : 5 ≤ D) : ∀ (fu : Nat) (M : Mem) (x1 : Int32) (x2 : Int32) (x3 : Int32) (x4 : Int32), F8_change_l27 fu M x1 x2 x3 x4 = some r → XJ shA p l e (rmX D) s m args below meth c 0 0 G 7 (MQ below (QcX shA G ((some (.int r.1), r.2) : Option Value × Mem).1 ((some (.int r.1), r.2) : Option Value × Mem).2) args s 0 0 (AW shA G.2.1)) 27 [(0, .ref 0), (1, .int x1), (2, .int x2), (3, .int x3), (4, .int x4)] [] M := by
  intro fu
  induction fu with
  | zero => intro M x1 x2 x3 x4 h; cases h
  | succ fu ih => intro M x1 x2 x3 x4 h; exact F8_change_l27_bok F hr hlk hD (fun M x1 x2 x3 x4 => ih M x1 x2 x3 x4) h
set_option maxRecDepth 20000 in
theorem F8_change_ok {p : Program} {l : Launch} {e : Env} {s : State} {m : MethodId} {args : Array Value} {below : List Frame} {meth : Method} {c : Code} {G : GG} {D : Nat} {r : Int32 × Mem} (F : FrP shA G p s m args c RX8 cX8_change 7) (hr : meth.sig.returnType = (some .int)) (hlk : meth.locks = false) (hD : 5 ≤ D) {M : Mem} {a1 : Int32} (h : F8_change M a1 = some r) : XJ shA p l e (rmX D) s m args below meth c 0 0 G 7 (MQ below (QcX shA G ((some (.int r.1), r.2) : Option Value × Mem).1 ((some (.int r.1), r.2) : Option Value × Mem).2) args s 0 0 (AW shA G.2.1)) 0 [(0, .ref 0), (1, .int a1)] [] M := by
  unfold F8_change at h
  refine X_iload_n F dX8_change_0 rfl ?_
  refine X_if_lt (tgt := 9) F dX8_change_1 (by decide) (fun q1 => ?_) (fun q1 => ?_)
  · rw [if_pos q1] at h
    refine X_bipush F dX8_change_9 (v := (-2 : Int32)) rfl ?_
    exact X_iret F hr hlk (retI h) dX8_change_11
  · rw [if_neg q1] at h
    refine X_iload_n F dX8_change_4 rfl ?_
    refine X_iconst F dX8_change_5 (v := (1 : Int32)) rfl ?_
    refine X_icmp_le (tgt := 12) F dX8_change_6 (by decide) (fun q2 => ?_) (fun q2 => ?_)
    · rw [if_pos q2] at h
      refine X_iconst F dX8_change_12 (v := (-1 : Int32)) rfl ?_
      refine X_istore_n F dX8_change_13 (by decide) rfl ?_
      refine X_aload_n F dX8_change_14 rfl ?_
      refine X_getr F ffRX8_44 dX8_change_15 ?_
      refine X_iconst F dX8_change_18 (v := (-1 : Int32)) rfl ?_
      refine X_iconst F dX8_change_19 (v := (-1 : Int32)) rfl ?_
      obtain ⟨r3, h4, h⟩ := bndS h
      refine X_callV (ci := 33) (As := [.int (-1 : Int32), .int (-1 : Int32)]) (rest := []) F fkRX8_159 feX7_turnChanged fvX7_turnChanged ⟨_, _, _, rfl, rfl, rfl⟩ (F7_turnChanged_met (D := D - 1) F.2.2.2.2.2.2.2.1 (by omega) h4) rfl rfl (Nat.le_of_ble_eq_true rfl) (rm_ok (by omega) (by decide)) dX8_change_20 ?_
      show XJ shA p l e (rmX D) s m args below meth c 0 0 G 7 (MQ below (QcX shA G ((some (.int r.1), r.2) : Option Value × Mem).1 ((some (.int r.1), r.2) : Option Value × Mem).2) args s 0 0 (AW shA G.2.1)) 23 [(2, .int (-1 : Int32)), (0, .ref 0), (1, .int a1)] [.int r3.1] r3.2
      refine X_istore_n F dX8_change_23 (by decide) rfl ?_
      refine X_iconst F dX8_change_24 (v := (0 : Int32)) rfl ?_
      refine X_istore F dX8_change_25 (by decide) rfl ?_
      refine X_pick [3, 4, 2, 1, 0] rfl ?_
      exact F8_change_l27_ok F hr hlk hD FUEL _ _ _ _ _ h
    · rw [if_neg q2] at h
      refine X_bipush F dX8_change_9 (v := (-2 : Int32)) rfl ?_
      exact X_iret F hr hlk (retI h) dX8_change_11
set_option maxRecDepth 20000 in
theorem F8_change_met {l : Launch} {G : GG} {D : Nat} {r : Int32 × Mem} {M : Mem} {a1 : Int32} (hI : Inj shA G.2.1) (hD : 5 ≤ D) (h : F8_change M a1 = some r) : MetX shA l G yX8_change cX8_change 7 (some .int) D [.ref 0, .int a1] M (some (.int r.1), r.2) :=
  X_met hI (by decide +kernel) (Nat.le_of_ble_eq_true rfl) (fun p e s m args below meth c F hr hlk => F8_change_ok F hr hlk hD h)
