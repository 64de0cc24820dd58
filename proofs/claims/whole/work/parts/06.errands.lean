/-! written by wip/whole/gen: the pure functions of these methods, read off their bytecode, and the walks that prove them -/
theorem ffRX0_90 : FLT shA RX0 34 0 90 8 (.int 0) := ⟨⟨RX0, TX0, 16, rfl, by decide, wsIn0, Or.inl (tmem 210 (by decide +kernel) rfl)⟩, _, rfl, rfl⟩
theorem ffRX0_21 : FLT shA RX0 34 0 21 7 (.ref 38) := ⟨⟨RX0, TX0, 16, rfl, by decide, wsIn0, Or.inl (tmem 208 (by decide +kernel) rfl)⟩, _, rfl, rfl⟩
theorem fw0_8 : FLW 0 8 .int := ⟨RX0, TX0, 16, tyX0, rfl, tyX0_ok, nmX0, rfl, by decide +kernel⟩
theorem ffRX0_37 : FLT shA RX0 34 0 37 1 (.ref 5) := ⟨⟨RX0, TX0, 16, rfl, by decide, wsIn0, Or.inl (tmem 202 (by decide +kernel) rfl)⟩, _, rfl, rfl⟩
theorem fkRX0_93 : LNK RX0 93 yX6_holds := Or.inr ⟨"KeepOurPlace", nmem 667 (by decide +kernel) rfl⟩
theorem fkRX0_97 : LNK RX0 97 yX0_goTo := Or.inl (tmem 668 (by decide +kernel) rfl)
theorem feX0_goTo : CLE yX0_goTo 1 cX0_goTo 2 none := ⟨tmem 7 (by decide +kernel) rfl, tmem 671 (by decide +kernel) rfl, by decide +kernel, by decide +kernel⟩
theorem fvX0_goTo : CLV yX0_goTo := ⟨tmem 670 (by decide +kernel) rfl, smem 37 (by decide +kernel) rfl⟩
theorem ffRX0_33 : FLT shA RX0 34 0 33 0 (.ref 1) := ⟨⟨RX0, TX0, 16, rfl, by decide, wsIn0, Or.inl (tmem 201 (by decide +kernel) rfl)⟩, _, rfl, rfl⟩
theorem ffRX0_51 : FLT shA RX0 1 2 51 3 (.int 0) := ⟨⟨RX2, TX2, 6, rfl, by decide, wsIn2, Or.inr ⟨"KeepOurPlace", nmem 46 (by decide +kernel) rfl⟩⟩, _, rfl, rfl⟩
theorem ffRX0_57 : FLT shA RX0 1 2 57 4 (.int 0) := ⟨⟨RX2, TX2, 6, rfl, by decide, wsIn2, Or.inr ⟨"KeepOurPlace", nmem 51 (by decide +kernel) rfl⟩⟩, _, rfl, rfl⟩
theorem fmRX0_60 : Cond.methodLink RX0 60 Lib.Math.max.name ∈ TBL := tmem 681 (by decide +kernel) rfl
theorem ffRX0_66 : FLT shA RX0 34 0 66 6 (.int 0) := ⟨⟨RX0, TX0, 16, rfl, by decide, wsIn0, Or.inl (tmem 207 (by decide +kernel) rfl)⟩, _, rfl, rfl⟩
theorem fw0_6 : FLW 0 6 .int := ⟨RX0, TX0, 16, tyX0, rfl, tyX0_ok, nmX0, rfl, by decide +kernel⟩
theorem ffRX0_15 : FLT shA RX0 34 0 15 4 (.ref 36) := ⟨⟨RX0, TX0, 16, rfl, by decide, wsIn0, Or.inl (tmem 205 (by decide +kernel) rfl)⟩, _, rfl, rfl⟩
theorem ffRX0_41 : FLT shA RX0 34 0 41 2 (.ref 33) := ⟨⟨RX0, TX0, 16, rfl, by decide, wsIn0, Or.inl (tmem 203 (by decide +kernel) rfl)⟩, _, rfl, rfl⟩
theorem fkRX0_69 : LNK RX0 69 yX7_turnChanged := Or.inr ⟨"KeepOurPlace", nmem 682 (by decide +kernel) rfl⟩
theorem feX7_turnChanged : CLE yX7_turnChanged 2 cX7_turnChanged 6 (some .int) := ⟨tmem 6 (by decide +kernel) rfl, tmem 644 (by decide +kernel) rfl, by decide +kernel, by decide +kernel⟩
theorem fvX7_turnChanged : CLV yX7_turnChanged := ⟨tmem 643 (by decide +kernel) rfl, smem 32 (by decide +kernel) rfl⟩
theorem ffRX0_18 : FLT shA RX0 34 0 18 5 (.ref 37) := ⟨⟨RX0, TX0, 16, rfl, by decide, wsIn0, Or.inl (tmem 206 (by decide +kernel) rfl)⟩, _, rfl, rfl⟩
theorem ffRX0_9 : FLT shA RX0 34 0 9 3 (.ref 35) := ⟨⟨RX0, TX0, 16, rfl, by decide, wsIn0, Or.inl (tmem 204 (by decide +kernel) rfl)⟩, _, rfl, rfl⟩
theorem fkRX0_45 : LNK RX0 45 yX7_pace := Or.inr ⟨"KeepOurPlace", nmem 677 (by decide +kernel) rfl⟩
theorem feX7_pace : CLE yX7_pace 1 cX7_pace 2 (some .int) := ⟨tmem 6 (by decide +kernel) rfl, tmem 680 (by decide +kernel) rfl, by decide +kernel, by decide +kernel⟩
theorem fvX7_pace : CLV yX7_pace := ⟨tmem 679 (by decide +kernel) rfl, smem 39 (by decide +kernel) rfl⟩
theorem ffRX0_72 : FLT shA RX0 1 2 72 0 (.ref 2) := ⟨⟨RX2, TX2, 6, rfl, by decide, wsIn2, Or.inr ⟨"KeepOurPlace", nmem 33 (by decide +kernel) rfl⟩⟩, _, rfl, rfl⟩
theorem fkRX0_75 : LNK RX0 75 yX7_seconds := Or.inr ⟨"KeepOurPlace", nmem 683 (by decide +kernel) rfl⟩
theorem fkRX0_79 : LNK RX0 79 yX7_minds := Or.inr ⟨"KeepOurPlace", nmem 684 (by decide +kernel) rfl⟩
theorem feX7_minds : CLE yX7_minds 2 cX7_minds 5 (some .int) := ⟨tmem 6 (by decide +kernel) rfl, tmem 615 (by decide +kernel) rfl, by decide +kernel, by decide +kernel⟩
theorem fvX7_minds : CLV yX7_minds := ⟨tmem 614 (by decide +kernel) rfl, smem 30 (by decide +kernel) rfl⟩
theorem fkRX0_85 : LNK RX0 85 yX6_steps := Or.inr ⟨"KeepOurPlace", nmem 693 (by decide +kernel) rfl⟩
theorem feX6_steps : CLE yX6_steps 2 cX6_steps 5 (some .int) := ⟨tmem 3 (by decide +kernel) rfl, tmem 696 (by decide +kernel) rfl, by decide +kernel, by decide +kernel⟩
theorem fvX6_steps : CLV yX6_steps := ⟨tmem 695 (by decide +kernel) rfl, smem 42 (by decide +kernel) rfl⟩
theorem fkRX0_105 : LNK RX0 105 yX0_leg := Or.inl (tmem 689 (by decide +kernel) rfl)
theorem feX0_leg : CLE yX0_leg 3 cX0_leg 4 (some .int) := ⟨tmem 7 (by decide +kernel) rfl, tmem 692 (by decide +kernel) rfl, by decide +kernel, by decide +kernel⟩
theorem fvX0_leg : CLV yX0_leg := ⟨tmem 691 (by decide +kernel) rfl, smem 41 (by decide +kernel) rfl⟩
theorem ffRX0_101 : FLT shA RX0 5 6 101 3 (.int 0) := ⟨⟨RX6, TX6, 4, rfl, by decide, wsIn6, Or.inr ⟨"KeepOurPlace", nmem 91 (by decide +kernel) rfl⟩⟩, _, rfl, rfl⟩
theorem ffRX0_147 : FLT shA RX0 5 6 147 1 (.ref 7) := ⟨⟨RX6, TX6, 4, rfl, by decide, wsIn6, Or.inr ⟨"KeepOurPlace", nmem 85 (by decide +kernel) rfl⟩⟩, _, rfl, rfl⟩
theorem fkRX0_108 : LNK RX0 108 yX0_bits := Or.inl (tmem 717 (by decide +kernel) rfl)
theorem feX0_bits : CLE yX0_bits 0 cX0_bits 3 (some .int) := ⟨tmem 7 (by decide +kernel) rfl, tmem 720 (by decide +kernel) rfl, by decide +kernel, by decide +kernel⟩
theorem fvX0_bits : CLV yX0_bits := ⟨tmem 719 (by decide +kernel) rfl, smem 47 (by decide +kernel) rfl⟩
theorem fkRX0_112 : LNK RX0 112 yX0_worthOf := Or.inl (tmem 721 (by decide +kernel) rfl)
theorem feX0_worthOf : CLE yX0_worthOf 1 cX0_worthOf 4 (some .int) := ⟨tmem 7 (by decide +kernel) rfl, tmem 724 (by decide +kernel) rfl, by decide +kernel, by decide +kernel⟩
theorem fvX0_worthOf : CLV yX0_worthOf := ⟨tmem 723 (by decide +kernel) rfl, smem 48 (by decide +kernel) rfl⟩
theorem fkRX0_82 : LNK RX0 82 yX0_letBy := Or.inl (tmem 730 (by decide +kernel) rfl)
theorem feX0_letBy : CLE yX0_letBy 1 cX0_letBy 3 (some .int) := ⟨tmem 7 (by decide +kernel) rfl, tmem 708 (by decide +kernel) rfl, by decide +kernel, by decide +kernel⟩
theorem fvX0_letBy : CLV yX0_letBy := ⟨tmem 707 (by decide +kernel) rfl, smem 44 (by decide +kernel) rfl⟩
theorem fkRX0_115 : LNK RX0 115 yX0_worth := Or.inl (tmem 713 (by decide +kernel) rfl)
theorem feX0_worth : CLE yX0_worth 0 cX0_worth 1 (some .int) := ⟨tmem 7 (by decide +kernel) rfl, tmem 716 (by decide +kernel) rfl, by decide +kernel, by decide +kernel⟩
theorem fvX0_worth : CLV yX0_worth := ⟨tmem 715 (by decide +kernel) rfl, smem 46 (by decide +kernel) rfl⟩
theorem fkRX0_118 : LNK RX0 118 yX0_backWithout := Or.inl (tmem 725 (by decide +kernel) rfl)
theorem feX0_backWithout : CLE yX0_backWithout 1 cX0_backWithout 6 (some .int) := ⟨tmem 7 (by decide +kernel) rfl, tmem 688 (by decide +kernel) rfl, by decide +kernel, by decide +kernel⟩
theorem fvX0_backWithout : CLV yX0_backWithout := ⟨tmem 687 (by decide +kernel) rfl, smem 40 (by decide +kernel) rfl⟩
theorem fkRX0_121 : LNK RX0 121 yX0_loss := Or.inl (tmem 726 (by decide +kernel) rfl)
theorem feX0_loss : CLE yX0_loss 1 cX0_loss 3 (some .int) := ⟨tmem 7 (by decide +kernel) rfl, tmem 729 (by decide +kernel) rfl, by decide +kernel, by decide +kernel⟩
theorem fvX0_loss : CLV yX0_loss := ⟨tmem 728 (by decide +kernel) rfl, smem 49 (by decide +kernel) rfl⟩
theorem fkRX0_102 : LNK RX0 102 yX0_nearestOf := Or.inl (tmem 740 (by decide +kernel) rfl)
theorem feX0_nearestOf : CLE yX0_nearestOf 2 cX0_nearestOf 6 (some .int) := ⟨tmem 7 (by decide +kernel) rfl, tmem 743 (by decide +kernel) rfl, by decide +kernel, by decide +kernel⟩
theorem fvX0_nearestOf : CLV yX0_nearestOf := ⟨tmem 742 (by decide +kernel) rfl, smem 51 (by decide +kernel) rfl⟩
theorem ffRX0_24 : FLT shA RX0 34 0 24 9 (.ref 39) := ⟨⟨RX0, TX0, 16, rfl, by decide, wsIn0, Or.inl (tmem 212 (by decide +kernel) rfl)⟩, _, rfl, rfl⟩
theorem ffRX0_30 : FLT shA RX0 34 0 30 11 (.ref 41) := ⟨⟨RX0, TX0, 16, rfl, by decide, wsIn0, Or.inl (tmem 216 (by decide +kernel) rfl)⟩, _, rfl, rfl⟩
theorem ffRX0_137 : FLT shA RX0 34 0 137 12 (.int 0) := ⟨⟨RX0, TX0, 16, rfl, by decide, wsIn0, Or.inl (tmem 218 (by decide +kernel) rfl)⟩, _, rfl, rfl⟩
theorem ffRX0_140 : FLT shA RX0 34 0 140 13 (.int 0) := ⟨⟨RX0, TX0, 16, rfl, by decide, wsIn0, Or.inl (tmem 219 (by decide +kernel) rfl)⟩, _, rfl, rfl⟩
theorem ffRX0_131 : FLT shA RX0 34 0 131 14 (.int 0) := ⟨⟨RX0, TX0, 16, rfl, by decide, wsIn0, Or.inl (tmem 220 (by decide +kernel) rfl)⟩, _, rfl, rfl⟩
theorem ffRX0_134 : FLT shA RX0 34 0 134 15 (.int 0) := ⟨⟨RX0, TX0, 16, rfl, by decide, wsIn0, Or.inl (tmem 222 (by decide +kernel) rfl)⟩, _, rfl, rfl⟩
theorem fw0_15 : FLW 0 15 .int := ⟨RX0, TX0, 16, tyX0, rfl, tyX0_ok, nmX0, rfl, by decide +kernel⟩
theorem fw0_14 : FLW 0 14 .int := ⟨RX0, TX0, 16, tyX0, rfl, tyX0_ok, nmX0, rfl, by decide +kernel⟩
theorem ffRX0_27 : FLT shA RX0 34 0 27 10 (.ref 40) := ⟨⟨RX0, TX0, 16, rfl, by decide, wsIn0, Or.inl (tmem 214 (by decide +kernel) rfl)⟩, _, rfl, rfl⟩
theorem fkRX0_143 : LNK RX0 143 yX0_weigh := Or.inl (tmem 764 (by decide +kernel) rfl)
theorem feX0_weigh : CLE yX0_weigh 3 cX0_weigh 5 none := ⟨tmem 7 (by decide +kernel) rfl, tmem 767 (by decide +kernel) rfl, by decide +kernel, by decide +kernel⟩
theorem fvX0_weigh : CLV yX0_weigh := ⟨tmem 766 (by decide +kernel) rfl, smem 55 (by decide +kernel) rfl⟩
theorem fsRX0_127 : Cond.methodLink RX0 127 yX0_visit ∈ TBL := tmem 761 (by decide +kernel) rfl
theorem feX0_visit : CLE yX0_visit 7 cX0_visit 9 none := ⟨tmem 7 (by decide +kernel) rfl, tmem 763 (by decide +kernel) rfl, by decide +kernel, by decide +kernel⟩
theorem ftX0_visit : Cond.static yX0_visit ∈ TBL := tmem 762 (by decide +kernel) rfl
theorem fkRX0_124 : LNK RX0 124 yX0_prepare := Or.inl (tmem 760 (by decide +kernel) rfl)
theorem feX0_prepare : CLE yX0_prepare 0 cX0_prepare 3 none := ⟨tmem 7 (by decide +kernel) rfl, tmem 676 (by decide +kernel) rfl, by decide +kernel, by decide +kernel⟩
theorem fvX0_prepare : CLV yX0_prepare := ⟨tmem 675 (by decide +kernel) rfl, smem 38 (by decide +kernel) rfl⟩
theorem fkRX0_150 : LNK RX0 150 yX0_isBetter := Or.inl (tmem 772 (by decide +kernel) rfl)
theorem feX0_isBetter : CLE yX0_isBetter 2 cX0_isBetter 3 (some .boolean) := ⟨tmem 7 (by decide +kernel) rfl, tmem 775 (by decide +kernel) rfl, by decide +kernel, by decide +kernel⟩
theorem fvX0_isBetter : CLV yX0_isBetter := ⟨tmem 774 (by decide +kernel) rfl, smem 57 (by decide +kernel) rfl⟩
theorem fkRX0_154 : LNK RX0 154 yX0_choose := Or.inl (tmem 798 (by decide +kernel) rfl)
theorem feX0_choose : CLE yX0_choose 1 cX0_choose 4 (some .int) := ⟨tmem 7 (by decide +kernel) rfl, tmem 771 (by decide +kernel) rfl, by decide +kernel, by decide +kernel⟩
theorem fvX0_choose : CLV yX0_choose := ⟨tmem 770 (by decide +kernel) rfl, smem 56 (by decide +kernel) rfl⟩
theorem fw0_12 : FLW 0 12 .int := ⟨RX0, TX0, 16, tyX0, rfl, tyX0_ok, nmX0, rfl, by decide +kernel⟩
theorem fw0_13 : FLW 0 13 .int := ⟨RX0, TX0, 16, tyX0, rfl, tyX0_ok, nmX0, rfl, by decide +kernel⟩
theorem dX0_goTo_0 : decode cX0_goTo 0 = .ok (.aload_n 0, 1) := by decide +kernel
theorem dX0_goTo_1 : decode cX0_goTo 1 = .ok (.getfield 90, 3) := by decide +kernel
theorem dX0_goTo_4 : decode cX0_goTo 4 = .ok (.bipush 6, 2) := by decide +kernel
theorem dX0_goTo_6 : decode cX0_goTo 6 = .ok (.if_icmp .lt 4, 3) := by decide +kernel
theorem dX0_goTo_9 : decode cX0_goTo 9 = .ok (.return_, 1) := by decide +kernel
theorem dX0_goTo_10 : decode cX0_goTo 10 = .ok (.aload_n 0, 1) := by decide +kernel
theorem dX0_goTo_11 : decode cX0_goTo 11 = .ok (.getfield 21, 3) := by decide +kernel
theorem dX0_goTo_14 : decode cX0_goTo 14 = .ok (.aload_n 0, 1) := by decide +kernel
theorem dX0_goTo_15 : decode cX0_goTo 15 = .ok (.getfield 90, 3) := by decide +kernel
theorem dX0_goTo_18 : decode cX0_goTo 18 = .ok (.iload_n 1, 1) := by decide +kernel
theorem dX0_goTo_19 : decode cX0_goTo 19 = .ok (.iastore, 1) := by decide +kernel
theorem dX0_goTo_20 : decode cX0_goTo 20 = .ok (.aload_n 0, 1) := by decide +kernel
theorem dX0_goTo_21 : decode cX0_goTo 21 = .ok (.dup, 1) := by decide +kernel
theorem dX0_goTo_22 : decode cX0_goTo 22 = .ok (.getfield 90, 3) := by decide +kernel
theorem dX0_goTo_25 : decode cX0_goTo 25 = .ok (.iconst 1, 1) := by decide +kernel
theorem dX0_goTo_26 : decode cX0_goTo 26 = .ok (.iadd, 1) := by decide +kernel
theorem dX0_goTo_27 : decode cX0_goTo 27 = .ok (.putfield 90, 3) := by decide +kernel
theorem dX0_goTo_30 : decode cX0_goTo 30 = .ok (.return_, 1) := by decide +kernel
theorem dX0_takeRow_0 : decode cX0_takeRow 0 = .ok (.aload_n 0, 1) := by decide +kernel
theorem dX0_takeRow_1 : decode cX0_takeRow 1 = .ok (.iconst 0, 1) := by decide +kernel
theorem dX0_takeRow_2 : decode cX0_takeRow 2 = .ok (.putfield 90, 3) := by decide +kernel
theorem dX0_takeRow_5 : decode cX0_takeRow 5 = .ok (.iload_n 2, 1) := by decide +kernel
theorem dX0_takeRow_6 : decode cX0_takeRow 6 = .ok (.ifCond .lt 15, 3) := by decide +kernel
theorem dX0_takeRow_9 : decode cX0_takeRow 9 = .ok (.iload_n 2, 1) := by decide +kernel
theorem dX0_takeRow_10 : decode cX0_takeRow 10 = .ok (.aload_n 1, 1) := by decide +kernel
theorem dX0_takeRow_11 : decode cX0_takeRow 11 = .ok (.arraylength, 1) := by decide +kernel
theorem dX0_takeRow_12 : decode cX0_takeRow 12 = .ok (.if_icmp .gt 9, 3) := by decide +kernel
theorem dX0_takeRow_15 : decode cX0_takeRow 15 = .ok (.iload_n 2, 1) := by decide +kernel
theorem dX0_takeRow_16 : decode cX0_takeRow 16 = .ok (.bipush 6, 2) := by decide +kernel
theorem dX0_takeRow_18 : decode cX0_takeRow 18 = .ok (.if_icmp .le 5, 3) := by decide +kernel
theorem dX0_takeRow_21 : decode cX0_takeRow 21 = .ok (.iconst 0, 1) := by decide +kernel
theorem dX0_takeRow_22 : decode cX0_takeRow 22 = .ok (.ireturn, 1) := by decide +kernel
theorem dX0_takeRow_23 : decode cX0_takeRow 23 = .ok (.iconst 0, 1) := by decide +kernel
theorem dX0_takeRow_24 : decode cX0_takeRow 24 = .ok (.istore_n 3, 1) := by decide +kernel
theorem dX0_takeRow_25 : decode cX0_takeRow 25 = .ok (.iconst 0, 1) := by decide +kernel
theorem dX0_takeRow_26 : decode cX0_takeRow 26 = .ok (.istore 4, 2) := by decide +kernel
theorem dX0_takeRow_28 : decode cX0_takeRow 28 = .ok (.iload 4, 2) := by decide +kernel
theorem dX0_takeRow_30 : decode cX0_takeRow 30 = .ok (.iload_n 2, 1) := by decide +kernel
theorem dX0_takeRow_31 : decode cX0_takeRow 31 = .ok (.if_icmp .ge 51, 3) := by decide +kernel
theorem dX0_takeRow_34 : decode cX0_takeRow 34 = .ok (.aload_n 1, 1) := by decide +kernel
theorem dX0_takeRow_35 : decode cX0_takeRow 35 = .ok (.iload 4, 2) := by decide +kernel
theorem dX0_takeRow_37 : decode cX0_takeRow 37 = .ok (.iaload, 1) := by decide +kernel
theorem dX0_takeRow_38 : decode cX0_takeRow 38 = .ok (.istore 5, 2) := by decide +kernel
theorem dX0_takeRow_40 : decode cX0_takeRow 40 = .ok (.aload_n 0, 1) := by decide +kernel
theorem dX0_takeRow_41 : decode cX0_takeRow 41 = .ok (.getfield 37, 3) := by decide +kernel
theorem dX0_takeRow_44 : decode cX0_takeRow 44 = .ok (.iload 5, 2) := by decide +kernel
theorem dX0_takeRow_46 : decode cX0_takeRow 46 = .ok (.invokevirtual 93, 3) := by decide +kernel
theorem dX0_takeRow_49 : decode cX0_takeRow 49 = .ok (.ifCond .eq 12, 3) := by decide +kernel
theorem dX0_takeRow_52 : decode cX0_takeRow 52 = .ok (.iload_n 3, 1) := by decide +kernel
theorem dX0_takeRow_53 : decode cX0_takeRow 53 = .ok (.iconst 1, 1) := by decide +kernel
theorem dX0_takeRow_54 : decode cX0_takeRow 54 = .ok (.iload 5, 2) := by decide +kernel
theorem dX0_takeRow_56 : decode cX0_takeRow 56 = .ok (.ishl, 1) := by decide +kernel
theorem dX0_takeRow_57 : decode cX0_takeRow 57 = .ok (.iand, 1) := by decide +kernel
theorem dX0_takeRow_58 : decode cX0_takeRow 58 = .ok (.ifCond .eq 5, 3) := by decide +kernel
theorem dX0_takeRow_61 : decode cX0_takeRow 61 = .ok (.iconst 0, 1) := by decide +kernel
theorem dX0_takeRow_62 : decode cX0_takeRow 62 = .ok (.ireturn, 1) := by decide +kernel
theorem dX0_takeRow_63 : decode cX0_takeRow 63 = .ok (.iload_n 3, 1) := by decide +kernel
theorem dX0_takeRow_64 : decode cX0_takeRow 64 = .ok (.iconst 1, 1) := by decide +kernel
theorem dX0_takeRow_65 : decode cX0_takeRow 65 = .ok (.iload 5, 2) := by decide +kernel
theorem dX0_takeRow_67 : decode cX0_takeRow 67 = .ok (.ishl, 1) := by decide +kernel
theorem dX0_takeRow_68 : decode cX0_takeRow 68 = .ok (.ior, 1) := by decide +kernel
theorem dX0_takeRow_69 : decode cX0_takeRow 69 = .ok (.istore_n 3, 1) := by decide +kernel
theorem dX0_takeRow_70 : decode cX0_takeRow 70 = .ok (.aload_n 0, 1) := by decide +kernel
theorem dX0_takeRow_71 : decode cX0_takeRow 71 = .ok (.iload 5, 2) := by decide +kernel
theorem dX0_takeRow_73 : decode cX0_takeRow 73 = .ok (.invokevirtual 97, 3) := by decide +kernel
theorem dX0_takeRow_76 : decode cX0_takeRow 76 = .ok (.iinc 4 1, 3) := by decide +kernel
theorem dX0_takeRow_79 : decode cX0_takeRow 79 = .ok (.goto (-51), 3) := by decide +kernel
theorem dX0_takeRow_82 : decode cX0_takeRow 82 = .ok (.iconst 1, 1) := by decide +kernel
theorem dX0_takeRow_83 : decode cX0_takeRow 83 = .ok (.ireturn, 1) := by decide +kernel
theorem dX0_prepare_0 : decode cX0_prepare 0 = .ok (.iconst 0, 1) := by decide +kernel
theorem dX0_prepare_1 : decode cX0_prepare 1 = .ok (.istore_n 1, 1) := by decide +kernel
theorem dX0_prepare_2 : decode cX0_prepare 2 = .ok (.iload_n 1, 1) := by decide +kernel
theorem dX0_prepare_3 : decode cX0_prepare 3 = .ok (.bipush 6, 2) := by decide +kernel
theorem dX0_prepare_5 : decode cX0_prepare 5 = .ok (.if_icmp .gt 23, 3) := by decide +kernel
theorem dX0_prepare_8 : decode cX0_prepare 8 = .ok (.aload_n 0, 1) := by decide +kernel
theorem dX0_prepare_9 : decode cX0_prepare 9 = .ok (.getfield 9, 3) := by decide +kernel
theorem dX0_prepare_12 : decode cX0_prepare 12 = .ok (.iload_n 1, 1) := by decide +kernel
theorem dX0_prepare_13 : decode cX0_prepare 13 = .ok (.aload_n 0, 1) := by decide +kernel
theorem dX0_prepare_14 : decode cX0_prepare 14 = .ok (.getfield 41, 3) := by decide +kernel
theorem dX0_prepare_17 : decode cX0_prepare 17 = .ok (.iload_n 1, 1) := by decide +kernel
theorem dX0_prepare_18 : decode cX0_prepare 18 = .ok (.invokevirtual 45, 3) := by decide +kernel
theorem dX0_prepare_21 : decode cX0_prepare 21 = .ok (.iastore, 1) := by decide +kernel
theorem dX0_prepare_22 : decode cX0_prepare 22 = .ok (.iinc 1 1, 3) := by decide +kernel
theorem dX0_prepare_25 : decode cX0_prepare 25 = .ok (.goto (-23), 3) := by decide +kernel
theorem dX0_prepare_28 : decode cX0_prepare 28 = .ok (.aload_n 0, 1) := by decide +kernel
theorem dX0_prepare_29 : decode cX0_prepare 29 = .ok (.iconst 0, 1) := by decide +kernel
theorem dX0_prepare_30 : decode cX0_prepare 30 = .ok (.aload_n 0, 1) := by decide +kernel
theorem dX0_prepare_31 : decode cX0_prepare 31 = .ok (.getfield 33, 3) := by decide +kernel
theorem dX0_prepare_34 : decode cX0_prepare 34 = .ok (.getfield 51, 3) := by decide +kernel
theorem dX0_prepare_37 : decode cX0_prepare 37 = .ok (.aload_n 0, 1) := by decide +kernel
theorem dX0_prepare_38 : decode cX0_prepare 38 = .ok (.getfield 33, 3) := by decide +kernel
theorem dX0_prepare_41 : decode cX0_prepare 41 = .ok (.getfield 57, 3) := by decide +kernel
theorem dX0_prepare_44 : decode cX0_prepare 44 = .ok (.isub, 1) := by decide +kernel
theorem dX0_prepare_45 : decode cX0_prepare 45 = .ok (.invokestatic 60, 3) := by decide +kernel
theorem dX0_prepare_48 : decode cX0_prepare 48 = .ok (.putfield 66, 3) := by decide +kernel
theorem dX0_prepare_51 : decode cX0_prepare 51 = .ok (.aload_n 0, 1) := by decide +kernel
theorem dX0_prepare_52 : decode cX0_prepare 52 = .ok (.getfield 15, 3) := by decide +kernel
theorem dX0_prepare_55 : decode cX0_prepare 55 = .ok (.iconst 0, 1) := by decide +kernel
theorem dX0_prepare_56 : decode cX0_prepare 56 = .ok (.aload_n 0, 1) := by decide +kernel
theorem dX0_prepare_57 : decode cX0_prepare 57 = .ok (.getfield 41, 3) := by decide +kernel
theorem dX0_prepare_60 : decode cX0_prepare 60 = .ok (.iconst (-1), 1) := by decide +kernel
theorem dX0_prepare_61 : decode cX0_prepare 61 = .ok (.iconst (-1), 1) := by decide +kernel
theorem dX0_prepare_62 : decode cX0_prepare 62 = .ok (.invokevirtual 69, 3) := by decide +kernel
theorem dX0_prepare_65 : decode cX0_prepare 65 = .ok (.iastore, 1) := by decide +kernel
theorem dX0_prepare_66 : decode cX0_prepare 66 = .ok (.aload_n 0, 1) := by decide +kernel
theorem dX0_prepare_67 : decode cX0_prepare 67 = .ok (.getfield 18, 3) := by decide +kernel
theorem dX0_prepare_70 : decode cX0_prepare 70 = .ok (.iconst 0, 1) := by decide +kernel
theorem dX0_prepare_71 : decode cX0_prepare 71 = .ok (.iconst 0, 1) := by decide +kernel
theorem dX0_prepare_72 : decode cX0_prepare 72 = .ok (.iastore, 1) := by decide +kernel
theorem dX0_prepare_73 : decode cX0_prepare 73 = .ok (.iconst 0, 1) := by decide +kernel
theorem dX0_prepare_74 : decode cX0_prepare 74 = .ok (.istore_n 1, 1) := by decide +kernel
theorem dX0_prepare_75 : decode cX0_prepare 75 = .ok (.iload_n 1, 1) := by decide +kernel
theorem dX0_prepare_76 : decode cX0_prepare 76 = .ok (.aload_n 0, 1) := by decide +kernel
theorem dX0_prepare_77 : decode cX0_prepare 77 = .ok (.getfield 66, 3) := by decide +kernel
theorem dX0_prepare_80 : decode cX0_prepare 80 = .ok (.if_icmp .ge 82, 3) := by decide +kernel
theorem dX0_prepare_83 : decode cX0_prepare 83 = .ok (.iload_n 1, 1) := by decide +kernel
theorem dX0_prepare_84 : decode cX0_prepare 84 = .ok (.bipush 8, 2) := by decide +kernel
theorem dX0_prepare_86 : decode cX0_prepare 86 = .ok (.if_icmp .ge 76, 3) := by decide +kernel
theorem dX0_prepare_89 : decode cX0_prepare 89 = .ok (.aload_n 0, 1) := by decide +kernel
theorem dX0_prepare_90 : decode cX0_prepare 90 = .ok (.getfield 33, 3) := by decide +kernel
theorem dX0_prepare_93 : decode cX0_prepare 93 = .ok (.getfield 57, 3) := by decide +kernel
theorem dX0_prepare_96 : decode cX0_prepare 96 = .ok (.iload_n 1, 1) := by decide +kernel
theorem dX0_prepare_97 : decode cX0_prepare 97 = .ok (.iadd, 1) := by decide +kernel
theorem dX0_prepare_98 : decode cX0_prepare 98 = .ok (.istore_n 2, 1) := by decide +kernel
theorem dX0_prepare_99 : decode cX0_prepare 99 = .ok (.aload_n 0, 1) := by decide +kernel
theorem dX0_prepare_100 : decode cX0_prepare 100 = .ok (.getfield 15, 3) := by decide +kernel
theorem dX0_prepare_103 : decode cX0_prepare 103 = .ok (.iload_n 1, 1) := by decide +kernel
theorem dX0_prepare_104 : decode cX0_prepare 104 = .ok (.iconst 1, 1) := by decide +kernel
theorem dX0_prepare_105 : decode cX0_prepare 105 = .ok (.iadd, 1) := by decide +kernel
theorem dX0_prepare_106 : decode cX0_prepare 106 = .ok (.aload_n 0, 1) := by decide +kernel
theorem dX0_prepare_107 : decode cX0_prepare 107 = .ok (.getfield 15, 3) := by decide +kernel
theorem dX0_prepare_110 : decode cX0_prepare 110 = .ok (.iload_n 1, 1) := by decide +kernel
theorem dX0_prepare_111 : decode cX0_prepare 111 = .ok (.iaload, 1) := by decide +kernel
theorem dX0_prepare_112 : decode cX0_prepare 112 = .ok (.aload_n 0, 1) := by decide +kernel
theorem dX0_prepare_113 : decode cX0_prepare 113 = .ok (.getfield 41, 3) := by decide +kernel
theorem dX0_prepare_116 : decode cX0_prepare 116 = .ok (.aload_n 0, 1) := by decide +kernel
theorem dX0_prepare_117 : decode cX0_prepare 117 = .ok (.getfield 33, 3) := by decide +kernel
theorem dX0_prepare_120 : decode cX0_prepare 120 = .ok (.getfield 72, 3) := by decide +kernel
theorem dX0_prepare_123 : decode cX0_prepare 123 = .ok (.iload_n 2, 1) := by decide +kernel
theorem dX0_prepare_124 : decode cX0_prepare 124 = .ok (.iaload, 1) := by decide +kernel
theorem dX0_prepare_125 : decode cX0_prepare 125 = .ok (.iload_n 2, 1) := by decide +kernel
theorem dX0_prepare_126 : decode cX0_prepare 126 = .ok (.iload_n 2, 1) := by decide +kernel
theorem dX0_prepare_127 : decode cX0_prepare 127 = .ok (.invokevirtual 75, 3) := by decide +kernel
theorem dX0_prepare_130 : decode cX0_prepare 130 = .ok (.iadd, 1) := by decide +kernel
theorem dX0_prepare_131 : decode cX0_prepare 131 = .ok (.iastore, 1) := by decide +kernel
theorem dX0_prepare_132 : decode cX0_prepare 132 = .ok (.aload_n 0, 1) := by decide +kernel
theorem dX0_prepare_133 : decode cX0_prepare 133 = .ok (.getfield 18, 3) := by decide +kernel
theorem dX0_prepare_136 : decode cX0_prepare 136 = .ok (.iload_n 1, 1) := by decide +kernel
theorem dX0_prepare_137 : decode cX0_prepare 137 = .ok (.iconst 1, 1) := by decide +kernel
theorem dX0_prepare_138 : decode cX0_prepare 138 = .ok (.iadd, 1) := by decide +kernel
theorem dX0_prepare_139 : decode cX0_prepare 139 = .ok (.aload_n 0, 1) := by decide +kernel
theorem dX0_prepare_140 : decode cX0_prepare 140 = .ok (.getfield 18, 3) := by decide +kernel
theorem dX0_prepare_143 : decode cX0_prepare 143 = .ok (.iload_n 1, 1) := by decide +kernel
theorem dX0_prepare_144 : decode cX0_prepare 144 = .ok (.iaload, 1) := by decide +kernel
theorem dX0_prepare_145 : decode cX0_prepare 145 = .ok (.aload_n 0, 1) := by decide +kernel
theorem dX0_prepare_146 : decode cX0_prepare 146 = .ok (.getfield 41, 3) := by decide +kernel
theorem dX0_prepare_149 : decode cX0_prepare 149 = .ok (.iload_n 2, 1) := by decide +kernel
theorem dX0_prepare_150 : decode cX0_prepare 150 = .ok (.iload_n 1, 1) := by decide +kernel
theorem dX0_prepare_151 : decode cX0_prepare 151 = .ok (.invokevirtual 79, 3) := by decide +kernel
theorem dX0_prepare_154 : decode cX0_prepare 154 = .ok (.iadd, 1) := by decide +kernel
theorem dX0_prepare_155 : decode cX0_prepare 155 = .ok (.iastore, 1) := by decide +kernel
theorem dX0_prepare_156 : decode cX0_prepare 156 = .ok (.iinc 1 1, 3) := by decide +kernel
theorem dX0_prepare_159 : decode cX0_prepare 159 = .ok (.goto (-84), 3) := by decide +kernel
theorem dX0_prepare_162 : decode cX0_prepare 162 = .ok (.return_, 1) := by decide +kernel
theorem dX0_leg_0 : decode cX0_leg 0 = .ok (.iload_n 3, 1) := by decide +kernel
theorem dX0_leg_1 : decode cX0_leg 1 = .ok (.ifCond .lt 9, 3) := by decide +kernel
theorem dX0_leg_4 : decode cX0_leg 4 = .ok (.iload_n 3, 1) := by decide +kernel
theorem dX0_leg_5 : decode cX0_leg 5 = .ok (.bipush 6, 2) := by decide +kernel
theorem dX0_leg_7 : decode cX0_leg 7 = .ok (.if_icmp .le 7, 3) := by decide +kernel
theorem dX0_leg_10 : decode cX0_leg 10 = .ok (.iconst 0, 1) := by decide +kernel
theorem dX0_leg_11 : decode cX0_leg 11 = .ok (.goto 19, 3) := by decide +kernel
theorem dX0_leg_14 : decode cX0_leg 14 = .ok (.aload_n 0, 1) := by decide +kernel
theorem dX0_leg_15 : decode cX0_leg 15 = .ok (.getfield 37, 3) := by decide +kernel
theorem dX0_leg_18 : decode cX0_leg 18 = .ok (.iload_n 1, 1) := by decide +kernel
theorem dX0_leg_19 : decode cX0_leg 19 = .ok (.iload_n 2, 1) := by decide +kernel
theorem dX0_leg_20 : decode cX0_leg 20 = .ok (.invokevirtual 85, 3) := by decide +kernel
theorem dX0_leg_23 : decode cX0_leg 23 = .ok (.aload_n 0, 1) := by decide +kernel
theorem dX0_leg_24 : decode cX0_leg 24 = .ok (.getfield 9, 3) := by decide +kernel
theorem dX0_leg_27 : decode cX0_leg 27 = .ok (.iload_n 3, 1) := by decide +kernel
theorem dX0_leg_28 : decode cX0_leg 28 = .ok (.iaload, 1) := by decide +kernel
theorem dX0_leg_29 : decode cX0_leg 29 = .ok (.imul, 1) := by decide +kernel
theorem dX0_leg_30 : decode cX0_leg 30 = .ok (.ireturn, 1) := by decide +kernel
theorem dX0_backWithout_0 : decode cX0_backWithout 0 = .ok (.iconst (-1), 1) := by decide +kernel
theorem dX0_backWithout_1 : decode cX0_backWithout 1 = .ok (.istore_n 2, 1) := by decide +kernel
theorem dX0_backWithout_2 : decode cX0_backWithout 2 = .ok (.iconst 0, 1) := by decide +kernel
theorem dX0_backWithout_3 : decode cX0_backWithout 3 = .ok (.istore_n 3, 1) := by decide +kernel
theorem dX0_backWithout_4 : decode cX0_backWithout 4 = .ok (.iconst 0, 1) := by decide +kernel
theorem dX0_backWithout_5 : decode cX0_backWithout 5 = .ok (.istore 4, 2) := by decide +kernel
theorem dX0_backWithout_7 : decode cX0_backWithout 7 = .ok (.iconst 0, 1) := by decide +kernel
theorem dX0_backWithout_8 : decode cX0_backWithout 8 = .ok (.istore 5, 2) := by decide +kernel
theorem dX0_backWithout_10 : decode cX0_backWithout 10 = .ok (.iload 5, 2) := by decide +kernel
theorem dX0_backWithout_12 : decode cX0_backWithout 12 = .ok (.aload_n 0, 1) := by decide +kernel
theorem dX0_backWithout_13 : decode cX0_backWithout 13 = .ok (.getfield 90, 3) := by decide +kernel
theorem dX0_backWithout_16 : decode cX0_backWithout 16 = .ok (.if_icmp .ge 46, 3) := by decide +kernel
theorem dX0_backWithout_19 : decode cX0_backWithout 19 = .ok (.iload 5, 2) := by decide +kernel
theorem dX0_backWithout_21 : decode cX0_backWithout 21 = .ok (.iload_n 1, 1) := by decide +kernel
theorem dX0_backWithout_22 : decode cX0_backWithout 22 = .ok (.if_icmp .ne 6, 3) := by decide +kernel
theorem dX0_backWithout_25 : decode cX0_backWithout 25 = .ok (.goto 31, 3) := by decide +kernel
theorem dX0_backWithout_28 : decode cX0_backWithout 28 = .ok (.iload_n 3, 1) := by decide +kernel
theorem dX0_backWithout_29 : decode cX0_backWithout 29 = .ok (.aload_n 0, 1) := by decide +kernel
theorem dX0_backWithout_30 : decode cX0_backWithout 30 = .ok (.iload_n 2, 1) := by decide +kernel
theorem dX0_backWithout_31 : decode cX0_backWithout 31 = .ok (.aload_n 0, 1) := by decide +kernel
theorem dX0_backWithout_32 : decode cX0_backWithout 32 = .ok (.getfield 21, 3) := by decide +kernel
theorem dX0_backWithout_35 : decode cX0_backWithout 35 = .ok (.iload 5, 2) := by decide +kernel
theorem dX0_backWithout_37 : decode cX0_backWithout 37 = .ok (.iaload, 1) := by decide +kernel
theorem dX0_backWithout_38 : decode cX0_backWithout 38 = .ok (.iload 4, 2) := by decide +kernel
theorem dX0_backWithout_40 : decode cX0_backWithout 40 = .ok (.invokevirtual 105, 3) := by decide +kernel
theorem dX0_backWithout_43 : decode cX0_backWithout 43 = .ok (.iadd, 1) := by decide +kernel
theorem dX0_backWithout_44 : decode cX0_backWithout 44 = .ok (.istore_n 3, 1) := by decide +kernel
theorem dX0_backWithout_45 : decode cX0_backWithout 45 = .ok (.aload_n 0, 1) := by decide +kernel
theorem dX0_backWithout_46 : decode cX0_backWithout 46 = .ok (.getfield 21, 3) := by decide +kernel
theorem dX0_backWithout_49 : decode cX0_backWithout 49 = .ok (.iload 5, 2) := by decide +kernel
theorem dX0_backWithout_51 : decode cX0_backWithout 51 = .ok (.iaload, 1) := by decide +kernel
theorem dX0_backWithout_52 : decode cX0_backWithout 52 = .ok (.istore_n 2, 1) := by decide +kernel
theorem dX0_backWithout_53 : decode cX0_backWithout 53 = .ok (.iinc 4 1, 3) := by decide +kernel
theorem dX0_backWithout_56 : decode cX0_backWithout 56 = .ok (.iinc 5 1, 3) := by decide +kernel
theorem dX0_backWithout_59 : decode cX0_backWithout 59 = .ok (.goto (-49), 3) := by decide +kernel
theorem dX0_backWithout_62 : decode cX0_backWithout 62 = .ok (.iload_n 3, 1) := by decide +kernel
theorem dX0_backWithout_63 : decode cX0_backWithout 63 = .ok (.aload_n 0, 1) := by decide +kernel
theorem dX0_backWithout_64 : decode cX0_backWithout 64 = .ok (.iload_n 2, 1) := by decide +kernel
theorem dX0_backWithout_65 : decode cX0_backWithout 65 = .ok (.iconst (-1), 1) := by decide +kernel
theorem dX0_backWithout_66 : decode cX0_backWithout 66 = .ok (.iload 4, 2) := by decide +kernel
theorem dX0_backWithout_68 : decode cX0_backWithout 68 = .ok (.invokevirtual 105, 3) := by decide +kernel
theorem dX0_backWithout_71 : decode cX0_backWithout 71 = .ok (.iadd, 1) := by decide +kernel
theorem dX0_backWithout_72 : decode cX0_backWithout 72 = .ok (.ireturn, 1) := by decide +kernel
theorem dX0_letBy_0 : decode cX0_letBy 0 = .ok (.iconst 0, 1) := by decide +kernel
theorem dX0_letBy_1 : decode cX0_letBy 1 = .ok (.istore_n 2, 1) := by decide +kernel
theorem dX0_letBy_2 : decode cX0_letBy 2 = .ok (.iload_n 2, 1) := by decide +kernel
theorem dX0_letBy_3 : decode cX0_letBy 3 = .ok (.aload_n 0, 1) := by decide +kernel
theorem dX0_letBy_4 : decode cX0_letBy 4 = .ok (.getfield 66, 3) := by decide +kernel
theorem dX0_letBy_7 : decode cX0_letBy 7 = .ok (.if_icmp .ge 25, 3) := by decide +kernel
theorem dX0_letBy_10 : decode cX0_letBy 10 = .ok (.iload_n 2, 1) := by decide +kernel
theorem dX0_letBy_11 : decode cX0_letBy 11 = .ok (.bipush 8, 2) := by decide +kernel
theorem dX0_letBy_13 : decode cX0_letBy 13 = .ok (.if_icmp .ge 19, 3) := by decide +kernel
theorem dX0_letBy_16 : decode cX0_letBy 16 = .ok (.iload_n 1, 1) := by decide +kernel
theorem dX0_letBy_17 : decode cX0_letBy 17 = .ok (.aload_n 0, 1) := by decide +kernel
theorem dX0_letBy_18 : decode cX0_letBy 18 = .ok (.getfield 15, 3) := by decide +kernel
theorem dX0_letBy_21 : decode cX0_letBy 21 = .ok (.iload_n 2, 1) := by decide +kernel
theorem dX0_letBy_22 : decode cX0_letBy 22 = .ok (.iaload, 1) := by decide +kernel
theorem dX0_letBy_23 : decode cX0_letBy 23 = .ok (.if_icmp .le 9, 3) := by decide +kernel
theorem dX0_letBy_26 : decode cX0_letBy 26 = .ok (.iinc 2 1, 3) := by decide +kernel
theorem dX0_letBy_29 : decode cX0_letBy 29 = .ok (.goto (-27), 3) := by decide +kernel
theorem dX0_letBy_32 : decode cX0_letBy 32 = .ok (.iload_n 2, 1) := by decide +kernel
theorem dX0_letBy_33 : decode cX0_letBy 33 = .ok (.ireturn, 1) := by decide +kernel
theorem dX0_bits_0 : decode cX0_bits 0 = .ok (.iconst 0, 1) := by decide +kernel
theorem dX0_bits_1 : decode cX0_bits 1 = .ok (.istore_n 1, 1) := by decide +kernel
theorem dX0_bits_2 : decode cX0_bits 2 = .ok (.iconst 0, 1) := by decide +kernel
theorem dX0_bits_3 : decode cX0_bits 3 = .ok (.istore_n 2, 1) := by decide +kernel
theorem dX0_bits_4 : decode cX0_bits 4 = .ok (.iload_n 2, 1) := by decide +kernel
theorem dX0_bits_5 : decode cX0_bits 5 = .ok (.aload_n 0, 1) := by decide +kernel
theorem dX0_bits_6 : decode cX0_bits 6 = .ok (.getfield 90, 3) := by decide +kernel
theorem dX0_bits_9 : decode cX0_bits 9 = .ok (.if_icmp .ge 20, 3) := by decide +kernel
theorem dX0_bits_12 : decode cX0_bits 12 = .ok (.iload_n 1, 1) := by decide +kernel
theorem dX0_bits_13 : decode cX0_bits 13 = .ok (.iconst 1, 1) := by decide +kernel
theorem dX0_bits_14 : decode cX0_bits 14 = .ok (.aload_n 0, 1) := by decide +kernel
theorem dX0_bits_15 : decode cX0_bits 15 = .ok (.getfield 21, 3) := by decide +kernel
theorem dX0_bits_18 : decode cX0_bits 18 = .ok (.iload_n 2, 1) := by decide +kernel
theorem dX0_bits_19 : decode cX0_bits 19 = .ok (.iaload, 1) := by decide +kernel
theorem dX0_bits_20 : decode cX0_bits 20 = .ok (.ishl, 1) := by decide +kernel
theorem dX0_bits_21 : decode cX0_bits 21 = .ok (.ior, 1) := by decide +kernel
theorem dX0_bits_22 : decode cX0_bits 22 = .ok (.istore_n 1, 1) := by decide +kernel
theorem dX0_bits_23 : decode cX0_bits 23 = .ok (.iinc 2 1, 3) := by decide +kernel
theorem dX0_bits_26 : decode cX0_bits 26 = .ok (.goto (-22), 3) := by decide +kernel
theorem dX0_bits_29 : decode cX0_bits 29 = .ok (.iload_n 1, 1) := by decide +kernel
theorem dX0_bits_30 : decode cX0_bits 30 = .ok (.ireturn, 1) := by decide +kernel
theorem dX0_worthOf_0 : decode cX0_worthOf 0 = .ok (.iconst 0, 1) := by decide +kernel
theorem dX0_worthOf_1 : decode cX0_worthOf 1 = .ok (.istore_n 2, 1) := by decide +kernel
theorem dX0_worthOf_2 : decode cX0_worthOf 2 = .ok (.iconst 0, 1) := by decide +kernel
theorem dX0_worthOf_3 : decode cX0_worthOf 3 = .ok (.istore_n 3, 1) := by decide +kernel
theorem dX0_worthOf_4 : decode cX0_worthOf 4 = .ok (.iload_n 3, 1) := by decide +kernel
theorem dX0_worthOf_5 : decode cX0_worthOf 5 = .ok (.aload_n 0, 1) := by decide +kernel
theorem dX0_worthOf_6 : decode cX0_worthOf 6 = .ok (.getfield 37, 3) := by decide +kernel
theorem dX0_worthOf_9 : decode cX0_worthOf 9 = .ok (.getfield 101, 3) := by decide +kernel
theorem dX0_worthOf_12 : decode cX0_worthOf 12 = .ok (.if_icmp .ge 29, 3) := by decide +kernel
theorem dX0_worthOf_15 : decode cX0_worthOf 15 = .ok (.iload_n 1, 1) := by decide +kernel
theorem dX0_worthOf_16 : decode cX0_worthOf 16 = .ok (.iconst 1, 1) := by decide +kernel
theorem dX0_worthOf_17 : decode cX0_worthOf 17 = .ok (.iload_n 3, 1) := by decide +kernel
theorem dX0_worthOf_18 : decode cX0_worthOf 18 = .ok (.ishl, 1) := by decide +kernel
theorem dX0_worthOf_19 : decode cX0_worthOf 19 = .ok (.iand, 1) := by decide +kernel
theorem dX0_worthOf_20 : decode cX0_worthOf 20 = .ok (.ifCond .eq 15, 3) := by decide +kernel
theorem dX0_worthOf_23 : decode cX0_worthOf 23 = .ok (.iload_n 2, 1) := by decide +kernel
theorem dX0_worthOf_24 : decode cX0_worthOf 24 = .ok (.aload_n 0, 1) := by decide +kernel
theorem dX0_worthOf_25 : decode cX0_worthOf 25 = .ok (.getfield 37, 3) := by decide +kernel
theorem dX0_worthOf_28 : decode cX0_worthOf 28 = .ok (.getfield 147, 3) := by decide +kernel
theorem dX0_worthOf_31 : decode cX0_worthOf 31 = .ok (.iload_n 3, 1) := by decide +kernel
theorem dX0_worthOf_32 : decode cX0_worthOf 32 = .ok (.iaload, 1) := by decide +kernel
theorem dX0_worthOf_33 : decode cX0_worthOf 33 = .ok (.iadd, 1) := by decide +kernel
theorem dX0_worthOf_34 : decode cX0_worthOf 34 = .ok (.istore_n 2, 1) := by decide +kernel
theorem dX0_worthOf_35 : decode cX0_worthOf 35 = .ok (.iinc 3 1, 3) := by decide +kernel
theorem dX0_worthOf_38 : decode cX0_worthOf 38 = .ok (.goto (-34), 3) := by decide +kernel
theorem dX0_worthOf_41 : decode cX0_worthOf 41 = .ok (.iload_n 2, 1) := by decide +kernel
theorem dX0_worthOf_42 : decode cX0_worthOf 42 = .ok (.ireturn, 1) := by decide +kernel
theorem dX0_worth_0 : decode cX0_worth 0 = .ok (.aload_n 0, 1) := by decide +kernel
theorem dX0_worth_1 : decode cX0_worth 1 = .ok (.aload_n 0, 1) := by decide +kernel
theorem dX0_worth_2 : decode cX0_worth 2 = .ok (.invokevirtual 108, 3) := by decide +kernel
theorem dX0_worth_5 : decode cX0_worth 5 = .ok (.invokevirtual 112, 3) := by decide +kernel
theorem dX0_worth_8 : decode cX0_worth 8 = .ok (.ireturn, 1) := by decide +kernel
theorem dX0_loss_0 : decode cX0_loss 0 = .ok (.aload_n 0, 1) := by decide +kernel
theorem dX0_loss_1 : decode cX0_loss 1 = .ok (.iload_n 1, 1) := by decide +kernel
theorem dX0_loss_2 : decode cX0_loss 2 = .ok (.invokevirtual 82, 3) := by decide +kernel
theorem dX0_loss_5 : decode cX0_loss 5 = .ok (.istore_n 2, 1) := by decide +kernel
theorem dX0_loss_6 : decode cX0_loss 6 = .ok (.aload_n 0, 1) := by decide +kernel
theorem dX0_loss_7 : decode cX0_loss 7 = .ok (.getfield 18, 3) := by decide +kernel
theorem dX0_loss_10 : decode cX0_loss 10 = .ok (.iload_n 2, 1) := by decide +kernel
theorem dX0_loss_11 : decode cX0_loss 11 = .ok (.iaload, 1) := by decide +kernel
theorem dX0_loss_12 : decode cX0_loss 12 = .ok (.iconst 0, 1) := by decide +kernel
theorem dX0_loss_13 : decode cX0_loss 13 = .ok (.iload_n 1, 1) := by decide +kernel
theorem dX0_loss_14 : decode cX0_loss 14 = .ok (.aload_n 0, 1) := by decide +kernel
theorem dX0_loss_15 : decode cX0_loss 15 = .ok (.getfield 15, 3) := by decide +kernel
theorem dX0_loss_18 : decode cX0_loss 18 = .ok (.iload_n 2, 1) := by decide +kernel
theorem dX0_loss_19 : decode cX0_loss 19 = .ok (.iaload, 1) := by decide +kernel
theorem dX0_loss_20 : decode cX0_loss 20 = .ok (.isub, 1) := by decide +kernel
theorem dX0_loss_21 : decode cX0_loss 21 = .ok (.invokestatic 60, 3) := by decide +kernel
theorem dX0_loss_24 : decode cX0_loss 24 = .ok (.iadd, 1) := by decide +kernel
theorem dX0_loss_25 : decode cX0_loss 25 = .ok (.ireturn, 1) := by decide +kernel
theorem dX0_gain_0 : decode cX0_gain 0 = .ok (.aload_n 0, 1) := by decide +kernel
theorem dX0_gain_1 : decode cX0_gain 1 = .ok (.invokevirtual 115, 3) := by decide +kernel
theorem dX0_gain_4 : decode cX0_gain 4 = .ok (.aload_n 0, 1) := by decide +kernel
theorem dX0_gain_5 : decode cX0_gain 5 = .ok (.aload_n 0, 1) := by decide +kernel
theorem dX0_gain_6 : decode cX0_gain 6 = .ok (.iconst (-1), 1) := by decide +kernel
theorem dX0_gain_7 : decode cX0_gain 7 = .ok (.invokevirtual 118, 3) := by decide +kernel
theorem dX0_gain_10 : decode cX0_gain 10 = .ok (.invokevirtual 121, 3) := by decide +kernel
theorem dX0_gain_13 : decode cX0_gain 13 = .ok (.isub, 1) := by decide +kernel
theorem dX0_gain_14 : decode cX0_gain 14 = .ok (.ireturn, 1) := by decide +kernel
theorem dX0_nearestOf_0 : decode cX0_nearestOf 0 = .ok (.iconst (-1), 1) := by decide +kernel
theorem dX0_nearestOf_1 : decode cX0_nearestOf 1 = .ok (.istore_n 3, 1) := by decide +kernel
theorem dX0_nearestOf_2 : decode cX0_nearestOf 2 = .ok (.iconst 0, 1) := by decide +kernel
theorem dX0_nearestOf_3 : decode cX0_nearestOf 3 = .ok (.istore 4, 2) := by decide +kernel
theorem dX0_nearestOf_5 : decode cX0_nearestOf 5 = .ok (.iload 4, 2) := by decide +kernel
theorem dX0_nearestOf_7 : decode cX0_nearestOf 7 = .ok (.aload_n 0, 1) := by decide +kernel
theorem dX0_nearestOf_8 : decode cX0_nearestOf 8 = .ok (.getfield 37, 3) := by decide +kernel
theorem dX0_nearestOf_11 : decode cX0_nearestOf 11 = .ok (.getfield 101, 3) := by decide +kernel
theorem dX0_nearestOf_14 : decode cX0_nearestOf 14 = .ok (.if_icmp .ge 60, 3) := by decide +kernel
theorem dX0_nearestOf_17 : decode cX0_nearestOf 17 = .ok (.iload_n 2, 1) := by decide +kernel
theorem dX0_nearestOf_18 : decode cX0_nearestOf 18 = .ok (.iconst 1, 1) := by decide +kernel
theorem dX0_nearestOf_19 : decode cX0_nearestOf 19 = .ok (.iload 4, 2) := by decide +kernel
theorem dX0_nearestOf_21 : decode cX0_nearestOf 21 = .ok (.ishl, 1) := by decide +kernel
theorem dX0_nearestOf_22 : decode cX0_nearestOf 22 = .ok (.iand, 1) := by decide +kernel
theorem dX0_nearestOf_23 : decode cX0_nearestOf 23 = .ok (.ifCond .ne 7, 3) := by decide +kernel
theorem dX0_nearestOf_26 : decode cX0_nearestOf 26 = .ok (.iconst 1, 1) := by decide +kernel
theorem dX0_nearestOf_27 : decode cX0_nearestOf 27 = .ok (.goto 4, 3) := by decide +kernel
theorem dX0_nearestOf_30 : decode cX0_nearestOf 30 = .ok (.iconst 0, 1) := by decide +kernel
theorem dX0_nearestOf_31 : decode cX0_nearestOf 31 = .ok (.istore 5, 2) := by decide +kernel
theorem dX0_nearestOf_33 : decode cX0_nearestOf 33 = .ok (.iload 5, 2) := by decide +kernel
theorem dX0_nearestOf_35 : decode cX0_nearestOf 35 = .ok (.ifCond .eq 33, 3) := by decide +kernel
theorem dX0_nearestOf_38 : decode cX0_nearestOf 38 = .ok (.iload_n 3, 1) := by decide +kernel
theorem dX0_nearestOf_39 : decode cX0_nearestOf 39 = .ok (.iconst (-1), 1) := by decide +kernel
theorem dX0_nearestOf_40 : decode cX0_nearestOf 40 = .ok (.if_icmp .eq 25, 3) := by decide +kernel
theorem dX0_nearestOf_43 : decode cX0_nearestOf 43 = .ok (.aload_n 0, 1) := by decide +kernel
theorem dX0_nearestOf_44 : decode cX0_nearestOf 44 = .ok (.getfield 37, 3) := by decide +kernel
theorem dX0_nearestOf_47 : decode cX0_nearestOf 47 = .ok (.iload_n 1, 1) := by decide +kernel
theorem dX0_nearestOf_48 : decode cX0_nearestOf 48 = .ok (.iload 4, 2) := by decide +kernel
theorem dX0_nearestOf_50 : decode cX0_nearestOf 50 = .ok (.invokevirtual 85, 3) := by decide +kernel
theorem dX0_nearestOf_53 : decode cX0_nearestOf 53 = .ok (.aload_n 0, 1) := by decide +kernel
theorem dX0_nearestOf_54 : decode cX0_nearestOf 54 = .ok (.getfield 37, 3) := by decide +kernel
theorem dX0_nearestOf_57 : decode cX0_nearestOf 57 = .ok (.iload_n 1, 1) := by decide +kernel
theorem dX0_nearestOf_58 : decode cX0_nearestOf 58 = .ok (.iload_n 3, 1) := by decide +kernel
theorem dX0_nearestOf_59 : decode cX0_nearestOf 59 = .ok (.invokevirtual 85, 3) := by decide +kernel
theorem dX0_nearestOf_62 : decode cX0_nearestOf 62 = .ok (.if_icmp .ge 6, 3) := by decide +kernel
theorem dX0_nearestOf_65 : decode cX0_nearestOf 65 = .ok (.iload 4, 2) := by decide +kernel
theorem dX0_nearestOf_67 : decode cX0_nearestOf 67 = .ok (.istore_n 3, 1) := by decide +kernel
theorem dX0_nearestOf_68 : decode cX0_nearestOf 68 = .ok (.iinc 4 1, 3) := by decide +kernel
theorem dX0_nearestOf_71 : decode cX0_nearestOf 71 = .ok (.goto (-66), 3) := by decide +kernel
theorem dX0_nearestOf_74 : decode cX0_nearestOf 74 = .ok (.iload_n 3, 1) := by decide +kernel
theorem dX0_nearestOf_75 : decode cX0_nearestOf 75 = .ok (.ireturn, 1) := by decide +kernel
theorem dX0_takeNearest_0 : decode cX0_takeNearest 0 = .ok (.aload_n 0, 1) := by decide +kernel
theorem dX0_takeNearest_1 : decode cX0_takeNearest 1 = .ok (.iconst 0, 1) := by decide +kernel
theorem dX0_takeNearest_2 : decode cX0_takeNearest 2 = .ok (.putfield 90, 3) := by decide +kernel
theorem dX0_takeNearest_5 : decode cX0_takeNearest 5 = .ok (.iconst (-1), 1) := by decide +kernel
theorem dX0_takeNearest_6 : decode cX0_takeNearest 6 = .ok (.istore_n 1, 1) := by decide +kernel
theorem dX0_takeNearest_7 : decode cX0_takeNearest 7 = .ok (.iconst 0, 1) := by decide +kernel
theorem dX0_takeNearest_8 : decode cX0_takeNearest 8 = .ok (.istore_n 2, 1) := by decide +kernel
theorem dX0_takeNearest_9 : decode cX0_takeNearest 9 = .ok (.iconst 0, 1) := by decide +kernel
theorem dX0_takeNearest_10 : decode cX0_takeNearest 10 = .ok (.istore_n 3, 1) := by decide +kernel
theorem dX0_takeNearest_11 : decode cX0_takeNearest 11 = .ok (.iconst 0, 1) := by decide +kernel
theorem dX0_takeNearest_12 : decode cX0_takeNearest 12 = .ok (.istore 4, 2) := by decide +kernel
theorem dX0_takeNearest_14 : decode cX0_takeNearest 14 = .ok (.iload 4, 2) := by decide +kernel
theorem dX0_takeNearest_16 : decode cX0_takeNearest 16 = .ok (.aload_n 0, 1) := by decide +kernel
theorem dX0_takeNearest_17 : decode cX0_takeNearest 17 = .ok (.getfield 37, 3) := by decide +kernel
theorem dX0_takeNearest_20 : decode cX0_takeNearest 20 = .ok (.getfield 101, 3) := by decide +kernel
theorem dX0_takeNearest_23 : decode cX0_takeNearest 23 = .ok (.if_icmp .ge 79, 3) := by decide +kernel
theorem dX0_takeNearest_26 : decode cX0_takeNearest 26 = .ok (.aload_n 0, 1) := by decide +kernel
theorem dX0_takeNearest_27 : decode cX0_takeNearest 27 = .ok (.iload_n 1, 1) := by decide +kernel
theorem dX0_takeNearest_28 : decode cX0_takeNearest 28 = .ok (.iload_n 3, 1) := by decide +kernel
theorem dX0_takeNearest_29 : decode cX0_takeNearest 29 = .ok (.invokevirtual 102, 3) := by decide +kernel
theorem dX0_takeNearest_32 : decode cX0_takeNearest 32 = .ok (.istore 5, 2) := by decide +kernel
theorem dX0_takeNearest_34 : decode cX0_takeNearest 34 = .ok (.iload 5, 2) := by decide +kernel
theorem dX0_takeNearest_36 : decode cX0_takeNearest 36 = .ok (.iconst (-1), 1) := by decide +kernel
theorem dX0_takeNearest_37 : decode cX0_takeNearest 37 = .ok (.if_icmp .ne 4, 3) := by decide +kernel
theorem dX0_takeNearest_40 : decode cX0_takeNearest 40 = .ok (.return_, 1) := by decide +kernel
theorem dX0_takeNearest_41 : decode cX0_takeNearest 41 = .ok (.iload_n 2, 1) := by decide +kernel
theorem dX0_takeNearest_42 : decode cX0_takeNearest 42 = .ok (.aload_n 0, 1) := by decide +kernel
theorem dX0_takeNearest_43 : decode cX0_takeNearest 43 = .ok (.iload_n 1, 1) := by decide +kernel
theorem dX0_takeNearest_44 : decode cX0_takeNearest 44 = .ok (.iload 5, 2) := by decide +kernel
theorem dX0_takeNearest_46 : decode cX0_takeNearest 46 = .ok (.aload_n 0, 1) := by decide +kernel
theorem dX0_takeNearest_47 : decode cX0_takeNearest 47 = .ok (.getfield 90, 3) := by decide +kernel
theorem dX0_takeNearest_50 : decode cX0_takeNearest 50 = .ok (.invokevirtual 105, 3) := by decide +kernel
theorem dX0_takeNearest_53 : decode cX0_takeNearest 53 = .ok (.iadd, 1) := by decide +kernel
theorem dX0_takeNearest_54 : decode cX0_takeNearest 54 = .ok (.istore_n 2, 1) := by decide +kernel
theorem dX0_takeNearest_55 : decode cX0_takeNearest 55 = .ok (.iload_n 2, 1) := by decide +kernel
theorem dX0_takeNearest_56 : decode cX0_takeNearest 56 = .ok (.aload_n 0, 1) := by decide +kernel
theorem dX0_takeNearest_57 : decode cX0_takeNearest 57 = .ok (.iload 5, 2) := by decide +kernel
theorem dX0_takeNearest_59 : decode cX0_takeNearest 59 = .ok (.iconst (-1), 1) := by decide +kernel
theorem dX0_takeNearest_60 : decode cX0_takeNearest 60 = .ok (.aload_n 0, 1) := by decide +kernel
theorem dX0_takeNearest_61 : decode cX0_takeNearest 61 = .ok (.getfield 90, 3) := by decide +kernel
theorem dX0_takeNearest_64 : decode cX0_takeNearest 64 = .ok (.iconst 1, 1) := by decide +kernel
theorem dX0_takeNearest_65 : decode cX0_takeNearest 65 = .ok (.iadd, 1) := by decide +kernel
theorem dX0_takeNearest_66 : decode cX0_takeNearest 66 = .ok (.invokevirtual 105, 3) := by decide +kernel
theorem dX0_takeNearest_69 : decode cX0_takeNearest 69 = .ok (.iadd, 1) := by decide +kernel
theorem dX0_takeNearest_70 : decode cX0_takeNearest 70 = .ok (.aload_n 0, 1) := by decide +kernel
theorem dX0_takeNearest_71 : decode cX0_takeNearest 71 = .ok (.getfield 15, 3) := by decide +kernel
theorem dX0_takeNearest_74 : decode cX0_takeNearest 74 = .ok (.iconst 0, 1) := by decide +kernel
theorem dX0_takeNearest_75 : decode cX0_takeNearest 75 = .ok (.iaload, 1) := by decide +kernel
theorem dX0_takeNearest_76 : decode cX0_takeNearest 76 = .ok (.if_icmp .le 4, 3) := by decide +kernel
theorem dX0_takeNearest_79 : decode cX0_takeNearest 79 = .ok (.return_, 1) := by decide +kernel
theorem dX0_takeNearest_80 : decode cX0_takeNearest 80 = .ok (.aload_n 0, 1) := by decide +kernel
theorem dX0_takeNearest_81 : decode cX0_takeNearest 81 = .ok (.iload 5, 2) := by decide +kernel
theorem dX0_takeNearest_83 : decode cX0_takeNearest 83 = .ok (.invokevirtual 97, 3) := by decide +kernel
theorem dX0_takeNearest_86 : decode cX0_takeNearest 86 = .ok (.iload_n 3, 1) := by decide +kernel
theorem dX0_takeNearest_87 : decode cX0_takeNearest 87 = .ok (.iconst 1, 1) := by decide +kernel
theorem dX0_takeNearest_88 : decode cX0_takeNearest 88 = .ok (.iload 5, 2) := by decide +kernel
theorem dX0_takeNearest_90 : decode cX0_takeNearest 90 = .ok (.ishl, 1) := by decide +kernel
theorem dX0_takeNearest_91 : decode cX0_takeNearest 91 = .ok (.ior, 1) := by decide +kernel
theorem dX0_takeNearest_92 : decode cX0_takeNearest 92 = .ok (.istore_n 3, 1) := by decide +kernel
theorem dX0_takeNearest_93 : decode cX0_takeNearest 93 = .ok (.iload 5, 2) := by decide +kernel
theorem dX0_takeNearest_95 : decode cX0_takeNearest 95 = .ok (.istore_n 1, 1) := by decide +kernel
theorem dX0_takeNearest_96 : decode cX0_takeNearest 96 = .ok (.iinc 4 1, 3) := by decide +kernel
theorem dX0_takeNearest_99 : decode cX0_takeNearest 99 = .ok (.goto (-85), 3) := by decide +kernel
theorem dX0_takeNearest_102 : decode cX0_takeNearest 102 = .ok (.return_, 1) := by decide +kernel
theorem dX0_digits_0 : decode cX0_digits 0 = .ok (.iconst 0, 1) := by decide +kernel
theorem dX0_digits_1 : decode cX0_digits 1 = .ok (.istore_n 1, 1) := by decide +kernel
theorem dX0_digits_2 : decode cX0_digits 2 = .ok (.iconst 0, 1) := by decide +kernel
theorem dX0_digits_3 : decode cX0_digits 3 = .ok (.istore_n 2, 1) := by decide +kernel
theorem dX0_digits_4 : decode cX0_digits 4 = .ok (.iload_n 2, 1) := by decide +kernel
theorem dX0_digits_5 : decode cX0_digits 5 = .ok (.aload_n 0, 1) := by decide +kernel
theorem dX0_digits_6 : decode cX0_digits 6 = .ok (.getfield 90, 3) := by decide +kernel
theorem dX0_digits_9 : decode cX0_digits 9 = .ok (.if_icmp .ge 23, 3) := by decide +kernel
theorem dX0_digits_12 : decode cX0_digits 12 = .ok (.iload_n 1, 1) := by decide +kernel
theorem dX0_digits_13 : decode cX0_digits 13 = .ok (.bipush 10, 2) := by decide +kernel
theorem dX0_digits_15 : decode cX0_digits 15 = .ok (.imul, 1) := by decide +kernel
theorem dX0_digits_16 : decode cX0_digits 16 = .ok (.aload_n 0, 1) := by decide +kernel
theorem dX0_digits_17 : decode cX0_digits 17 = .ok (.getfield 21, 3) := by decide +kernel
theorem dX0_digits_20 : decode cX0_digits 20 = .ok (.iload_n 2, 1) := by decide +kernel
theorem dX0_digits_21 : decode cX0_digits 21 = .ok (.iaload, 1) := by decide +kernel
theorem dX0_digits_22 : decode cX0_digits 22 = .ok (.iadd, 1) := by decide +kernel
theorem dX0_digits_23 : decode cX0_digits 23 = .ok (.iconst 1, 1) := by decide +kernel
theorem dX0_digits_24 : decode cX0_digits 24 = .ok (.iadd, 1) := by decide +kernel
theorem dX0_digits_25 : decode cX0_digits 25 = .ok (.istore_n 1, 1) := by decide +kernel
theorem dX0_digits_26 : decode cX0_digits 26 = .ok (.iinc 2 1, 3) := by decide +kernel
theorem dX0_digits_29 : decode cX0_digits 29 = .ok (.goto (-25), 3) := by decide +kernel
theorem dX0_digits_32 : decode cX0_digits 32 = .ok (.iload_n 1, 1) := by decide +kernel
theorem dX0_digits_33 : decode cX0_digits 33 = .ok (.ireturn, 1) := by decide +kernel
theorem dX0_weigh_0 : decode cX0_weigh 0 = .ok (.iload_n 1, 1) := by decide +kernel
theorem dX0_weigh_1 : decode cX0_weigh 1 = .ok (.ifCond .lt 9, 3) := by decide +kernel
theorem dX0_weigh_4 : decode cX0_weigh 4 = .ok (.iload_n 1, 1) := by decide +kernel
theorem dX0_weigh_5 : decode cX0_weigh 5 = .ok (.bipush 64, 2) := by decide +kernel
theorem dX0_weigh_7 : decode cX0_weigh 7 = .ok (.if_icmp .lt 4, 3) := by decide +kernel
theorem dX0_weigh_10 : decode cX0_weigh 10 = .ok (.return_, 1) := by decide +kernel
theorem dX0_weigh_11 : decode cX0_weigh 11 = .ok (.aload_n 0, 1) := by decide +kernel
theorem dX0_weigh_12 : decode cX0_weigh 12 = .ok (.iload_n 1, 1) := by decide +kernel
theorem dX0_weigh_13 : decode cX0_weigh 13 = .ok (.invokevirtual 112, 3) := by decide +kernel
theorem dX0_weigh_16 : decode cX0_weigh 16 = .ok (.aload_n 0, 1) := by decide +kernel
theorem dX0_weigh_17 : decode cX0_weigh 17 = .ok (.iload_n 3, 1) := by decide +kernel
theorem dX0_weigh_18 : decode cX0_weigh 18 = .ok (.invokevirtual 121, 3) := by decide +kernel
theorem dX0_weigh_21 : decode cX0_weigh 21 = .ok (.isub, 1) := by decide +kernel
theorem dX0_weigh_22 : decode cX0_weigh 22 = .ok (.istore 4, 2) := by decide +kernel
theorem dX0_weigh_24 : decode cX0_weigh 24 = .ok (.aload_n 0, 1) := by decide +kernel
theorem dX0_weigh_25 : decode cX0_weigh 25 = .ok (.getfield 24, 3) := by decide +kernel
theorem dX0_weigh_28 : decode cX0_weigh 28 = .ok (.iload_n 1, 1) := by decide +kernel
theorem dX0_weigh_29 : decode cX0_weigh 29 = .ok (.iaload, 1) := by decide +kernel
theorem dX0_weigh_30 : decode cX0_weigh 30 = .ok (.iconst (-1), 1) := by decide +kernel
theorem dX0_weigh_31 : decode cX0_weigh 31 = .ok (.if_icmp .eq 14, 3) := by decide +kernel
theorem dX0_weigh_34 : decode cX0_weigh 34 = .ok (.iload 4, 2) := by decide +kernel
theorem dX0_weigh_36 : decode cX0_weigh 36 = .ok (.aload_n 0, 1) := by decide +kernel
theorem dX0_weigh_37 : decode cX0_weigh 37 = .ok (.getfield 30, 3) := by decide +kernel
theorem dX0_weigh_40 : decode cX0_weigh 40 = .ok (.iload_n 1, 1) := by decide +kernel
theorem dX0_weigh_41 : decode cX0_weigh 41 = .ok (.iaload, 1) := by decide +kernel
theorem dX0_weigh_42 : decode cX0_weigh 42 = .ok (.if_icmp .le 25, 3) := by decide +kernel
theorem dX0_weigh_45 : decode cX0_weigh 45 = .ok (.aload_n 0, 1) := by decide +kernel
theorem dX0_weigh_46 : decode cX0_weigh 46 = .ok (.getfield 24, 3) := by decide +kernel
theorem dX0_weigh_49 : decode cX0_weigh 49 = .ok (.iload_n 1, 1) := by decide +kernel
theorem dX0_weigh_50 : decode cX0_weigh 50 = .ok (.iload_n 2, 1) := by decide +kernel
theorem dX0_weigh_51 : decode cX0_weigh 51 = .ok (.iastore, 1) := by decide +kernel
theorem dX0_weigh_52 : decode cX0_weigh 52 = .ok (.aload_n 0, 1) := by decide +kernel
theorem dX0_weigh_53 : decode cX0_weigh 53 = .ok (.getfield 27, 3) := by decide +kernel
theorem dX0_weigh_56 : decode cX0_weigh 56 = .ok (.iload_n 1, 1) := by decide +kernel
theorem dX0_weigh_57 : decode cX0_weigh 57 = .ok (.iload_n 3, 1) := by decide +kernel
theorem dX0_weigh_58 : decode cX0_weigh 58 = .ok (.iastore, 1) := by decide +kernel
theorem dX0_weigh_59 : decode cX0_weigh 59 = .ok (.aload_n 0, 1) := by decide +kernel
theorem dX0_weigh_60 : decode cX0_weigh 60 = .ok (.getfield 30, 3) := by decide +kernel
theorem dX0_weigh_63 : decode cX0_weigh 63 = .ok (.iload_n 1, 1) := by decide +kernel
theorem dX0_weigh_64 : decode cX0_weigh 64 = .ok (.iload 4, 2) := by decide +kernel
theorem dX0_weigh_66 : decode cX0_weigh 66 = .ok (.iastore, 1) := by decide +kernel
theorem dX0_weigh_67 : decode cX0_weigh 67 = .ok (.iload_n 1, 1) := by decide +kernel
theorem dX0_weigh_68 : decode cX0_weigh 68 = .ok (.aload_n 0, 1) := by decide +kernel
theorem dX0_weigh_69 : decode cX0_weigh 69 = .ok (.getfield 137, 3) := by decide +kernel
theorem dX0_weigh_72 : decode cX0_weigh 72 = .ok (.if_icmp .ne 33, 3) := by decide +kernel
theorem dX0_weigh_75 : decode cX0_weigh 75 = .ok (.iload_n 3, 1) := by decide +kernel
theorem dX0_weigh_76 : decode cX0_weigh 76 = .ok (.aload_n 0, 1) := by decide +kernel
theorem dX0_weigh_77 : decode cX0_weigh 77 = .ok (.getfield 140, 3) := by decide +kernel
theorem dX0_weigh_80 : decode cX0_weigh 80 = .ok (.if_icmp .ne 25, 3) := by decide +kernel
theorem dX0_weigh_83 : decode cX0_weigh 83 = .ok (.aload_n 0, 1) := by decide +kernel
theorem dX0_weigh_84 : decode cX0_weigh 84 = .ok (.getfield 131, 3) := by decide +kernel
theorem dX0_weigh_87 : decode cX0_weigh 87 = .ok (.ifCond .ne 8, 3) := by decide +kernel
theorem dX0_weigh_90 : decode cX0_weigh 90 = .ok (.aload_n 0, 1) := by decide +kernel
theorem dX0_weigh_91 : decode cX0_weigh 91 = .ok (.iload_n 2, 1) := by decide +kernel
theorem dX0_weigh_92 : decode cX0_weigh 92 = .ok (.putfield 134, 3) := by decide +kernel
theorem dX0_weigh_95 : decode cX0_weigh 95 = .ok (.aload_n 0, 1) := by decide +kernel
theorem dX0_weigh_96 : decode cX0_weigh 96 = .ok (.dup, 1) := by decide +kernel
theorem dX0_weigh_97 : decode cX0_weigh 97 = .ok (.getfield 131, 3) := by decide +kernel
theorem dX0_weigh_100 : decode cX0_weigh 100 = .ok (.iconst 1, 1) := by decide +kernel
theorem dX0_weigh_101 : decode cX0_weigh 101 = .ok (.iadd, 1) := by decide +kernel
theorem dX0_weigh_102 : decode cX0_weigh 102 = .ok (.putfield 131, 3) := by decide +kernel
theorem dX0_weigh_105 : decode cX0_weigh 105 = .ok (.return_, 1) := by decide +kernel
theorem dX0_visit_0 : decode cX0_visit 0 = .ok (.aload_n 0, 1) := by decide +kernel
theorem dX0_visit_1 : decode cX0_visit 1 = .ok (.iload 4, 2) := by decide +kernel
theorem dX0_visit_3 : decode cX0_visit 3 = .ok (.iload 5, 2) := by decide +kernel
theorem dX0_visit_5 : decode cX0_visit 5 = .ok (.iload_n 3, 1) := by decide +kernel
theorem dX0_visit_6 : decode cX0_visit 6 = .ok (.aload_n 0, 1) := by decide +kernel
theorem dX0_visit_7 : decode cX0_visit 7 = .ok (.iload_n 2, 1) := by decide +kernel
theorem dX0_visit_8 : decode cX0_visit 8 = .ok (.iconst (-1), 1) := by decide +kernel
theorem dX0_visit_9 : decode cX0_visit 9 = .ok (.iload 6, 2) := by decide +kernel
theorem dX0_visit_11 : decode cX0_visit 11 = .ok (.invokevirtual 105, 3) := by decide +kernel
theorem dX0_visit_14 : decode cX0_visit 14 = .ok (.iadd, 1) := by decide +kernel
theorem dX0_visit_15 : decode cX0_visit 15 = .ok (.invokevirtual 143, 3) := by decide +kernel
theorem dX0_visit_18 : decode cX0_visit 18 = .ok (.iload 6, 2) := by decide +kernel
theorem dX0_visit_20 : decode cX0_visit 20 = .ok (.bipush 6, 2) := by decide +kernel
theorem dX0_visit_22 : decode cX0_visit 22 = .ok (.if_icmp .lt 4, 3) := by decide +kernel
theorem dX0_visit_25 : decode cX0_visit 25 = .ok (.return_, 1) := by decide +kernel
theorem dX0_visit_26 : decode cX0_visit 26 = .ok (.iconst 0, 1) := by decide +kernel
theorem dX0_visit_27 : decode cX0_visit 27 = .ok (.istore 7, 2) := by decide +kernel
theorem dX0_visit_29 : decode cX0_visit 29 = .ok (.iload 7, 2) := by decide +kernel
theorem dX0_visit_31 : decode cX0_visit 31 = .ok (.aload_n 0, 1) := by decide +kernel
theorem dX0_visit_32 : decode cX0_visit 32 = .ok (.getfield 37, 3) := by decide +kernel
theorem dX0_visit_35 : decode cX0_visit 35 = .ok (.getfield 101, 3) := by decide +kernel
theorem dX0_visit_38 : decode cX0_visit 38 = .ok (.if_icmp .ge 67, 3) := by decide +kernel
theorem dX0_visit_41 : decode cX0_visit 41 = .ok (.iconst 1, 1) := by decide +kernel
theorem dX0_visit_42 : decode cX0_visit 42 = .ok (.iload 7, 2) := by decide +kernel
theorem dX0_visit_44 : decode cX0_visit 44 = .ok (.ishl, 1) := by decide +kernel
theorem dX0_visit_45 : decode cX0_visit 45 = .ok (.istore 8, 2) := by decide +kernel
theorem dX0_visit_47 : decode cX0_visit 47 = .ok (.iload_n 1, 1) := by decide +kernel
theorem dX0_visit_48 : decode cX0_visit 48 = .ok (.iload 8, 2) := by decide +kernel
theorem dX0_visit_50 : decode cX0_visit 50 = .ok (.iand, 1) := by decide +kernel
theorem dX0_visit_51 : decode cX0_visit 51 = .ok (.ifCond .eq 48, 3) := by decide +kernel
theorem dX0_visit_54 : decode cX0_visit 54 = .ok (.iload 4, 2) := by decide +kernel
theorem dX0_visit_56 : decode cX0_visit 56 = .ok (.iload 8, 2) := by decide +kernel
theorem dX0_visit_58 : decode cX0_visit 58 = .ok (.iand, 1) := by decide +kernel
theorem dX0_visit_59 : decode cX0_visit 59 = .ok (.ifCond .ne 40, 3) := by decide +kernel
theorem dX0_visit_62 : decode cX0_visit 62 = .ok (.aload_n 0, 1) := by decide +kernel
theorem dX0_visit_63 : decode cX0_visit 63 = .ok (.iload_n 1, 1) := by decide +kernel
theorem dX0_visit_64 : decode cX0_visit 64 = .ok (.iload 7, 2) := by decide +kernel
theorem dX0_visit_66 : decode cX0_visit 66 = .ok (.iload_n 3, 1) := by decide +kernel
theorem dX0_visit_67 : decode cX0_visit 67 = .ok (.aload_n 0, 1) := by decide +kernel
theorem dX0_visit_68 : decode cX0_visit 68 = .ok (.iload_n 2, 1) := by decide +kernel
theorem dX0_visit_69 : decode cX0_visit 69 = .ok (.iload 7, 2) := by decide +kernel
theorem dX0_visit_71 : decode cX0_visit 71 = .ok (.iload 6, 2) := by decide +kernel
theorem dX0_visit_73 : decode cX0_visit 73 = .ok (.invokevirtual 105, 3) := by decide +kernel
theorem dX0_visit_76 : decode cX0_visit 76 = .ok (.iadd, 1) := by decide +kernel
theorem dX0_visit_77 : decode cX0_visit 77 = .ok (.iload 4, 2) := by decide +kernel
theorem dX0_visit_79 : decode cX0_visit 79 = .ok (.iload 8, 2) := by decide +kernel
theorem dX0_visit_81 : decode cX0_visit 81 = .ok (.ior, 1) := by decide +kernel
theorem dX0_visit_82 : decode cX0_visit 82 = .ok (.iload 5, 2) := by decide +kernel
theorem dX0_visit_84 : decode cX0_visit 84 = .ok (.bipush 10, 2) := by decide +kernel
theorem dX0_visit_86 : decode cX0_visit 86 = .ok (.imul, 1) := by decide +kernel
theorem dX0_visit_87 : decode cX0_visit 87 = .ok (.iload 7, 2) := by decide +kernel
theorem dX0_visit_89 : decode cX0_visit 89 = .ok (.iadd, 1) := by decide +kernel
theorem dX0_visit_90 : decode cX0_visit 90 = .ok (.iconst 1, 1) := by decide +kernel
theorem dX0_visit_91 : decode cX0_visit 91 = .ok (.iadd, 1) := by decide +kernel
theorem dX0_visit_92 : decode cX0_visit 92 = .ok (.iload 6, 2) := by decide +kernel
theorem dX0_visit_94 : decode cX0_visit 94 = .ok (.iconst 1, 1) := by decide +kernel
theorem dX0_visit_95 : decode cX0_visit 95 = .ok (.iadd, 1) := by decide +kernel
theorem dX0_visit_96 : decode cX0_visit 96 = .ok (.invokestatic 127, 3) := by decide +kernel
theorem dX0_visit_99 : decode cX0_visit 99 = .ok (.iinc 7 1, 3) := by decide +kernel
theorem dX0_visit_102 : decode cX0_visit 102 = .ok (.goto (-73), 3) := by decide +kernel
theorem dX0_visit_105 : decode cX0_visit 105 = .ok (.return_, 1) := by decide +kernel
theorem dX0_survey_0 : decode cX0_survey 0 = .ok (.aload_n 0, 1) := by decide +kernel
theorem dX0_survey_1 : decode cX0_survey 1 = .ok (.invokevirtual 124, 3) := by decide +kernel
theorem dX0_survey_4 : decode cX0_survey 4 = .ok (.iconst 0, 1) := by decide +kernel
theorem dX0_survey_5 : decode cX0_survey 5 = .ok (.istore_n 2, 1) := by decide +kernel
theorem dX0_survey_6 : decode cX0_survey 6 = .ok (.iload_n 2, 1) := by decide +kernel
theorem dX0_survey_7 : decode cX0_survey 7 = .ok (.bipush 64, 2) := by decide +kernel
theorem dX0_survey_9 : decode cX0_survey 9 = .ok (.if_icmp .ge 16, 3) := by decide +kernel
theorem dX0_survey_12 : decode cX0_survey 12 = .ok (.aload_n 0, 1) := by decide +kernel
theorem dX0_survey_13 : decode cX0_survey 13 = .ok (.getfield 24, 3) := by decide +kernel
theorem dX0_survey_16 : decode cX0_survey 16 = .ok (.iload_n 2, 1) := by decide +kernel
theorem dX0_survey_17 : decode cX0_survey 17 = .ok (.iconst (-1), 1) := by decide +kernel
theorem dX0_survey_18 : decode cX0_survey 18 = .ok (.iastore, 1) := by decide +kernel
theorem dX0_survey_19 : decode cX0_survey 19 = .ok (.iinc 2 1, 3) := by decide +kernel
theorem dX0_survey_22 : decode cX0_survey 22 = .ok (.goto (-16), 3) := by decide +kernel
theorem dX0_survey_25 : decode cX0_survey 25 = .ok (.aload_n 0, 1) := by decide +kernel
theorem dX0_survey_26 : decode cX0_survey 26 = .ok (.iload_n 1, 1) := by decide +kernel
theorem dX0_survey_27 : decode cX0_survey 27 = .ok (.iconst (-1), 1) := by decide +kernel
theorem dX0_survey_28 : decode cX0_survey 28 = .ok (.iconst 0, 1) := by decide +kernel
theorem dX0_survey_29 : decode cX0_survey 29 = .ok (.iconst 0, 1) := by decide +kernel
theorem dX0_survey_30 : decode cX0_survey 30 = .ok (.iconst 0, 1) := by decide +kernel
theorem dX0_survey_31 : decode cX0_survey 31 = .ok (.iconst 0, 1) := by decide +kernel
theorem dX0_survey_32 : decode cX0_survey 32 = .ok (.invokestatic 127, 3) := by decide +kernel
theorem dX0_survey_35 : decode cX0_survey 35 = .ok (.return_, 1) := by decide +kernel
theorem dX0_isBetter_0 : decode cX0_isBetter 0 = .ok (.aload_n 0, 1) := by decide +kernel
theorem dX0_isBetter_1 : decode cX0_isBetter 1 = .ok (.getfield 30, 3) := by decide +kernel
theorem dX0_isBetter_4 : decode cX0_isBetter 4 = .ok (.iload_n 1, 1) := by decide +kernel
theorem dX0_isBetter_5 : decode cX0_isBetter 5 = .ok (.iaload, 1) := by decide +kernel
theorem dX0_isBetter_6 : decode cX0_isBetter 6 = .ok (.aload_n 0, 1) := by decide +kernel
theorem dX0_isBetter_7 : decode cX0_isBetter 7 = .ok (.getfield 30, 3) := by decide +kernel
theorem dX0_isBetter_10 : decode cX0_isBetter 10 = .ok (.iload_n 2, 1) := by decide +kernel
theorem dX0_isBetter_11 : decode cX0_isBetter 11 = .ok (.iaload, 1) := by decide +kernel
theorem dX0_isBetter_12 : decode cX0_isBetter 12 = .ok (.if_icmp .gt 33, 3) := by decide +kernel
theorem dX0_isBetter_15 : decode cX0_isBetter 15 = .ok (.aload_n 0, 1) := by decide +kernel
theorem dX0_isBetter_16 : decode cX0_isBetter 16 = .ok (.getfield 30, 3) := by decide +kernel
theorem dX0_isBetter_19 : decode cX0_isBetter 19 = .ok (.iload_n 1, 1) := by decide +kernel
theorem dX0_isBetter_20 : decode cX0_isBetter 20 = .ok (.iaload, 1) := by decide +kernel
theorem dX0_isBetter_21 : decode cX0_isBetter 21 = .ok (.aload_n 0, 1) := by decide +kernel
theorem dX0_isBetter_22 : decode cX0_isBetter 22 = .ok (.getfield 30, 3) := by decide +kernel
theorem dX0_isBetter_25 : decode cX0_isBetter 25 = .ok (.iload_n 2, 1) := by decide +kernel
theorem dX0_isBetter_26 : decode cX0_isBetter 26 = .ok (.iaload, 1) := by decide +kernel
theorem dX0_isBetter_27 : decode cX0_isBetter 27 = .ok (.if_icmp .ne 22, 3) := by decide +kernel
theorem dX0_isBetter_30 : decode cX0_isBetter 30 = .ok (.aload_n 0, 1) := by decide +kernel
theorem dX0_isBetter_31 : decode cX0_isBetter 31 = .ok (.getfield 24, 3) := by decide +kernel
theorem dX0_isBetter_34 : decode cX0_isBetter 34 = .ok (.iload_n 1, 1) := by decide +kernel
theorem dX0_isBetter_35 : decode cX0_isBetter 35 = .ok (.iaload, 1) := by decide +kernel
theorem dX0_isBetter_36 : decode cX0_isBetter 36 = .ok (.aload_n 0, 1) := by decide +kernel
theorem dX0_isBetter_37 : decode cX0_isBetter 37 = .ok (.getfield 24, 3) := by decide +kernel
theorem dX0_isBetter_40 : decode cX0_isBetter 40 = .ok (.iload_n 2, 1) := by decide +kernel
theorem dX0_isBetter_41 : decode cX0_isBetter 41 = .ok (.iaload, 1) := by decide +kernel
theorem dX0_isBetter_42 : decode cX0_isBetter 42 = .ok (.if_icmp .ge 7, 3) := by decide +kernel
theorem dX0_isBetter_45 : decode cX0_isBetter 45 = .ok (.iconst 1, 1) := by decide +kernel
theorem dX0_isBetter_46 : decode cX0_isBetter 46 = .ok (.goto 4, 3) := by decide +kernel
theorem dX0_isBetter_49 : decode cX0_isBetter 49 = .ok (.iconst 0, 1) := by decide +kernel
theorem dX0_isBetter_50 : decode cX0_isBetter 50 = .ok (.ireturn, 1) := by decide +kernel
theorem dX0_choose_0 : decode cX0_choose 0 = .ok (.iconst 0, 1) := by decide +kernel
theorem dX0_choose_1 : decode cX0_choose 1 = .ok (.istore_n 2, 1) := by decide +kernel
theorem dX0_choose_2 : decode cX0_choose 2 = .ok (.iconst 1, 1) := by decide +kernel
theorem dX0_choose_3 : decode cX0_choose 3 = .ok (.istore_n 3, 1) := by decide +kernel
theorem dX0_choose_4 : decode cX0_choose 4 = .ok (.iload_n 3, 1) := by decide +kernel
theorem dX0_choose_5 : decode cX0_choose 5 = .ok (.bipush 64, 2) := by decide +kernel
theorem dX0_choose_7 : decode cX0_choose 7 = .ok (.if_icmp .ge 38, 3) := by decide +kernel
theorem dX0_choose_10 : decode cX0_choose 10 = .ok (.iload_n 3, 1) := by decide +kernel
theorem dX0_choose_11 : decode cX0_choose 11 = .ok (.iload_n 1, 1) := by decide +kernel
theorem dX0_choose_12 : decode cX0_choose 12 = .ok (.iconst (-1), 1) := by decide +kernel
theorem dX0_choose_13 : decode cX0_choose 13 = .ok (.ixor, 1) := by decide +kernel
theorem dX0_choose_14 : decode cX0_choose 14 = .ok (.iand, 1) := by decide +kernel
theorem dX0_choose_15 : decode cX0_choose 15 = .ok (.ifCond .ne 24, 3) := by decide +kernel
theorem dX0_choose_18 : decode cX0_choose 18 = .ok (.aload_n 0, 1) := by decide +kernel
theorem dX0_choose_19 : decode cX0_choose 19 = .ok (.getfield 24, 3) := by decide +kernel
theorem dX0_choose_22 : decode cX0_choose 22 = .ok (.iload_n 3, 1) := by decide +kernel
theorem dX0_choose_23 : decode cX0_choose 23 = .ok (.iaload, 1) := by decide +kernel
theorem dX0_choose_24 : decode cX0_choose 24 = .ok (.iconst (-1), 1) := by decide +kernel
theorem dX0_choose_25 : decode cX0_choose 25 = .ok (.if_icmp .eq 14, 3) := by decide +kernel
theorem dX0_choose_28 : decode cX0_choose 28 = .ok (.aload_n 0, 1) := by decide +kernel
theorem dX0_choose_29 : decode cX0_choose 29 = .ok (.iload_n 3, 1) := by decide +kernel
theorem dX0_choose_30 : decode cX0_choose 30 = .ok (.iload_n 2, 1) := by decide +kernel
theorem dX0_choose_31 : decode cX0_choose 31 = .ok (.invokevirtual 150, 3) := by decide +kernel
theorem dX0_choose_34 : decode cX0_choose 34 = .ok (.ifCond .eq 5, 3) := by decide +kernel
theorem dX0_choose_37 : decode cX0_choose 37 = .ok (.iload_n 3, 1) := by decide +kernel
theorem dX0_choose_38 : decode cX0_choose 38 = .ok (.istore_n 2, 1) := by decide +kernel
theorem dX0_choose_39 : decode cX0_choose 39 = .ok (.iinc 3 1, 3) := by decide +kernel
theorem dX0_choose_42 : decode cX0_choose 42 = .ok (.goto (-38), 3) := by decide +kernel
theorem dX0_choose_45 : decode cX0_choose 45 = .ok (.iload_n 2, 1) := by decide +kernel
theorem dX0_choose_46 : decode cX0_choose 46 = .ok (.ireturn, 1) := by decide +kernel
theorem dX0_takePlan_0 : decode cX0_takePlan 0 = .ok (.aload_n 0, 1) := by decide +kernel
theorem dX0_takePlan_1 : decode cX0_takePlan 1 = .ok (.iconst 0, 1) := by decide +kernel
theorem dX0_takePlan_2 : decode cX0_takePlan 2 = .ok (.putfield 90, 3) := by decide +kernel
theorem dX0_takePlan_5 : decode cX0_takePlan 5 = .ok (.iconst 1, 1) := by decide +kernel
theorem dX0_takePlan_6 : decode cX0_takePlan 6 = .ok (.istore_n 2, 1) := by decide +kernel
theorem dX0_takePlan_7 : decode cX0_takePlan 7 = .ok (.iconst 1, 1) := by decide +kernel
theorem dX0_takePlan_8 : decode cX0_takePlan 8 = .ok (.istore_n 3, 1) := by decide +kernel
theorem dX0_takePlan_9 : decode cX0_takePlan 9 = .ok (.iload_n 3, 1) := by decide +kernel
theorem dX0_takePlan_10 : decode cX0_takePlan 10 = .ok (.bipush 6, 2) := by decide +kernel
theorem dX0_takePlan_12 : decode cX0_takePlan 12 = .ok (.if_icmp .ge 26, 3) := by decide +kernel
theorem dX0_takePlan_15 : decode cX0_takePlan 15 = .ok (.iload_n 2, 1) := by decide +kernel
theorem dX0_takePlan_16 : decode cX0_takePlan 16 = .ok (.ifCond .le 22, 3) := by decide +kernel
theorem dX0_takePlan_19 : decode cX0_takePlan 19 = .ok (.iload_n 1, 1) := by decide +kernel
theorem dX0_takePlan_20 : decode cX0_takePlan 20 = .ok (.iload_n 2, 1) := by decide +kernel
theorem dX0_takePlan_21 : decode cX0_takePlan 21 = .ok (.idiv, 1) := by decide +kernel
theorem dX0_takePlan_22 : decode cX0_takePlan 22 = .ok (.bipush 10, 2) := by decide +kernel
theorem dX0_takePlan_24 : decode cX0_takePlan 24 = .ok (.if_icmp .lt 14, 3) := by decide +kernel
theorem dX0_takePlan_27 : decode cX0_takePlan 27 = .ok (.iload_n 2, 1) := by decide +kernel
theorem dX0_takePlan_28 : decode cX0_takePlan 28 = .ok (.bipush 10, 2) := by decide +kernel
theorem dX0_takePlan_30 : decode cX0_takePlan 30 = .ok (.imul, 1) := by decide +kernel
theorem dX0_takePlan_31 : decode cX0_takePlan 31 = .ok (.istore_n 2, 1) := by decide +kernel
theorem dX0_takePlan_32 : decode cX0_takePlan 32 = .ok (.iinc 3 1, 3) := by decide +kernel
theorem dX0_takePlan_35 : decode cX0_takePlan 35 = .ok (.goto (-26), 3) := by decide +kernel
theorem dX0_takePlan_38 : decode cX0_takePlan 38 = .ok (.iconst 0, 1) := by decide +kernel
theorem dX0_takePlan_39 : decode cX0_takePlan 39 = .ok (.istore_n 3, 1) := by decide +kernel
theorem dX0_takePlan_40 : decode cX0_takePlan 40 = .ok (.iload_n 3, 1) := by decide +kernel
theorem dX0_takePlan_41 : decode cX0_takePlan 41 = .ok (.bipush 6, 2) := by decide +kernel
theorem dX0_takePlan_43 : decode cX0_takePlan 43 = .ok (.if_icmp .ge 46, 3) := by decide +kernel
theorem dX0_takePlan_46 : decode cX0_takePlan 46 = .ok (.iload_n 2, 1) := by decide +kernel
theorem dX0_takePlan_47 : decode cX0_takePlan 47 = .ok (.ifCond .le 42, 3) := by decide +kernel
theorem dX0_takePlan_50 : decode cX0_takePlan 50 = .ok (.iload_n 1, 1) := by decide +kernel
theorem dX0_takePlan_51 : decode cX0_takePlan 51 = .ok (.iload_n 2, 1) := by decide +kernel
theorem dX0_takePlan_52 : decode cX0_takePlan 52 = .ok (.idiv, 1) := by decide +kernel
theorem dX0_takePlan_53 : decode cX0_takePlan 53 = .ok (.bipush 10, 2) := by decide +kernel
theorem dX0_takePlan_55 : decode cX0_takePlan 55 = .ok (.irem, 1) := by decide +kernel
theorem dX0_takePlan_56 : decode cX0_takePlan 56 = .ok (.iconst 1, 1) := by decide +kernel
theorem dX0_takePlan_57 : decode cX0_takePlan 57 = .ok (.isub, 1) := by decide +kernel
theorem dX0_takePlan_58 : decode cX0_takePlan 58 = .ok (.istore 4, 2) := by decide +kernel
theorem dX0_takePlan_60 : decode cX0_takePlan 60 = .ok (.aload_n 0, 1) := by decide +kernel
theorem dX0_takePlan_61 : decode cX0_takePlan 61 = .ok (.getfield 37, 3) := by decide +kernel
theorem dX0_takePlan_64 : decode cX0_takePlan 64 = .ok (.iload 4, 2) := by decide +kernel
theorem dX0_takePlan_66 : decode cX0_takePlan 66 = .ok (.invokevirtual 93, 3) := by decide +kernel
theorem dX0_takePlan_69 : decode cX0_takePlan 69 = .ok (.ifCond .eq 9, 3) := by decide +kernel
theorem dX0_takePlan_72 : decode cX0_takePlan 72 = .ok (.aload_n 0, 1) := by decide +kernel
theorem dX0_takePlan_73 : decode cX0_takePlan 73 = .ok (.iload 4, 2) := by decide +kernel
theorem dX0_takePlan_75 : decode cX0_takePlan 75 = .ok (.invokevirtual 97, 3) := by decide +kernel
theorem dX0_takePlan_78 : decode cX0_takePlan 78 = .ok (.iload_n 2, 1) := by decide +kernel
theorem dX0_takePlan_79 : decode cX0_takePlan 79 = .ok (.bipush 10, 2) := by decide +kernel
theorem dX0_takePlan_81 : decode cX0_takePlan 81 = .ok (.idiv, 1) := by decide +kernel
theorem dX0_takePlan_82 : decode cX0_takePlan 82 = .ok (.istore_n 2, 1) := by decide +kernel
theorem dX0_takePlan_83 : decode cX0_takePlan 83 = .ok (.iinc 3 1, 3) := by decide +kernel
theorem dX0_takePlan_86 : decode cX0_takePlan 86 = .ok (.goto (-46), 3) := by decide +kernel
theorem dX0_takePlan_89 : decode cX0_takePlan 89 = .ok (.return_, 1) := by decide +kernel
theorem dX0_mostGain_0 : decode cX0_mostGain 0 = .ok (.aload_n 0, 1) := by decide +kernel
theorem dX0_mostGain_1 : decode cX0_mostGain 1 = .ok (.getfield 30, 3) := by decide +kernel
theorem dX0_mostGain_4 : decode cX0_mostGain 4 = .ok (.aload_n 0, 1) := by decide +kernel
theorem dX0_mostGain_5 : decode cX0_mostGain 5 = .ok (.iload_n 1, 1) := by decide +kernel
theorem dX0_mostGain_6 : decode cX0_mostGain 6 = .ok (.invokevirtual 154, 3) := by decide +kernel
theorem dX0_mostGain_9 : decode cX0_mostGain 9 = .ok (.iaload, 1) := by decide +kernel
theorem dX0_mostGain_10 : decode cX0_mostGain 10 = .ok (.ireturn, 1) := by decide +kernel
theorem dX0_seek_0 : decode cX0_seek 0 = .ok (.aload_n 0, 1) := by decide +kernel
theorem dX0_seek_1 : decode cX0_seek 1 = .ok (.iconst 0, 1) := by decide +kernel
theorem dX0_seek_2 : decode cX0_seek 2 = .ok (.putfield 131, 3) := by decide +kernel
theorem dX0_seek_5 : decode cX0_seek 5 = .ok (.aload_n 0, 1) := by decide +kernel
theorem dX0_seek_6 : decode cX0_seek 6 = .ok (.iconst (-1), 1) := by decide +kernel
theorem dX0_seek_7 : decode cX0_seek 7 = .ok (.putfield 134, 3) := by decide +kernel
theorem dX0_seek_10 : decode cX0_seek 10 = .ok (.aload_n 0, 1) := by decide +kernel
theorem dX0_seek_11 : decode cX0_seek 11 = .ok (.aload_n 0, 1) := by decide +kernel
theorem dX0_seek_12 : decode cX0_seek 12 = .ok (.invokevirtual 108, 3) := by decide +kernel
theorem dX0_seek_15 : decode cX0_seek 15 = .ok (.putfield 137, 3) := by decide +kernel
theorem dX0_seek_18 : decode cX0_seek 18 = .ok (.aload_n 0, 1) := by decide +kernel
theorem dX0_seek_19 : decode cX0_seek 19 = .ok (.iload_n 1, 1) := by decide +kernel
theorem dX0_seek_20 : decode cX0_seek 20 = .ok (.putfield 140, 3) := by decide +kernel
theorem dX0_seek_23 : decode cX0_seek 23 = .ok (.return_, 1) := by decide +kernel
-- KeepOurPlace$Errands.goTo
def F0_goTo (M : Mem) (a1 : Int32) : Option (Int32 × Mem) :=
    if (M 34 8) < (6 : Int32) then
      if inb (M 34 8) 6 = true then
      some ((0 : Int32), (up2 (up2 M 38 (Int32.toNatClampNeg (M 34 8)) a1) 34 8 ((M 34 8) + (1 : Int32))))
      else none
    else
      some ((0 : Int32), M)
set_option maxRecDepth 20000 in
theorem F0_goTo_ok {p : Program} {l : Launch} {e : Env} {s : State} {m : MethodId} {args : Array Value} {below : List Frame} {meth : Method} {c : Code} {G : GG} {D : Nat} {r : Int32 × Mem} (F : FrP shA G p s m args c RX0 cX0_goTo 2) (hr : meth.sig.returnType = none) (hlk : meth.locks = false) (hD : 1 ≤ D) {M : Mem} {a1 : Int32} (h : F0_goTo M a1 = some r) : XJ shA p l e (rmX D) s m args below meth c 0 0 G 2 (MQ below (QcX shA G ((none, r.2) : Option Value × Mem).1 ((none, r.2) : Option Value × Mem).2) args s 0 0 (AW shA G.2.1)) 0 [(0, .ref 34), (1, .int a1)] [] M := by
  unfold F0_goTo at h
  refine X_aload_n F dX0_goTo_0 rfl ?_
  refine X_geti (v := (M 34 8)) F ffRX0_90 dX0_goTo_1 rfl ?_
  refine X_bipush F dX0_goTo_4 (v := (6 : Int32)) rfl ?_
  refine X_icmp_lt (tgt := 10) F dX0_goTo_6 (by decide) (fun q1 => ?_) (fun q1 => ?_)
  · rw [if_pos q1] at h
    refine X_aload_n F dX0_goTo_10 rfl ?_
    refine X_getr F ffRX0_21 dX0_goTo_11 ?_
    refine X_aload_n F dX0_goTo_14 rfl ?_
    refine X_geti (v := (M 34 8)) F ffRX0_90 dX0_goTo_15 rfl ?_
    refine X_iload_n F dX0_goTo_18 rfl ?_
    obtain ⟨q2, h⟩ := ifS h
    refine X_iast (j := (Int32.toNatClampNeg (M 34 8))) F rfl (inbV q2) rfl dX0_goTo_19 ?_
    refine X_aload_n F dX0_goTo_20 rfl ?_
    refine X_dup F dX0_goTo_21 rfl ?_
    refine X_geti (v := (M 34 8)) F ffRX0_90 dX0_goTo_22 rfl ?_
    refine X_iconst F dX0_goTo_25 (v := (1 : Int32)) rfl ?_
    refine X_iadd F dX0_goTo_26 ?_
    refine X_puti F ffRX0_90 fw0_8 (by decide) dX0_goTo_27 ?_
    exact X_vret F hr hlk (retV h) dX0_goTo_30
  · rw [if_neg q1] at h
    exact X_vret F hr hlk (retV h) dX0_goTo_9
set_option maxRecDepth 20000 in
theorem F0_goTo_met {l : Launch} {G : GG} {D : Nat} {r : Int32 × Mem} {M : Mem} {a1 : Int32} (hI : Inj shA G.2.1) (hD : 1 ≤ D) (h : F0_goTo M a1 = some r) : MetX shA l G yX0_goTo cX0_goTo 2 none D [.ref 34, .int a1] M (none, r.2) :=
  X_met hI (by decide +kernel) (Nat.le_of_ble_eq_true rfl) (fun p e s m args below meth c F hr hlk => F0_goTo_ok F hr hlk hD h)
-- KeepOurPlace$Errands.takeRow
def F0_takeRow_l28_b (n1 : Nat) (rec28 : Mem → Nat → Int32 → Int32 → Int32 → Option (Int32 × Mem)) (M : Mem) (x1 : Nat) (x2 : Int32) (x3 : Int32) (x4 : Int32) : Option (Int32 × Mem) :=
    if x2 ≤ x4 then
      some ((1 : Int32), M)
    else
      if inb x4 n1 = true then
      Option.bind (F6_holds M (M x1 (Int32.toNatClampNeg x4))) fun r6 =>
      if r6.1 = 0 then
        some ((0 : Int32), r6.2)
      else
        if (x3 &&& ((1 : Int32) <<< ((M x1 (Int32.toNatClampNeg x4)) &&& 31))) = 0 then
          Option.bind (F0_goTo r6.2 (M x1 (Int32.toNatClampNeg x4))) fun r10 =>
          rec28 r10.2 x1 x2 (x3 ||| ((1 : Int32) <<< ((M x1 (Int32.toNatClampNeg x4)) &&& 31))) (x4 + (1 : Int32))
        else
          some ((0 : Int32), r6.2)
      else none
def F0_takeRow_l28 (n1 : Nat) : Nat → Mem → Nat → Int32 → Int32 → Int32 → Option (Int32 × Mem)
  | 0, _, _, _, _, _ => none
  | fu + 1, M, x1, x2, x3, x4 => F0_takeRow_l28_b n1 (F0_takeRow_l28 n1 fu) M x1 x2 x3 x4
def F0_takeRow (M : Mem) (a1 : Nat) (n1 : Nat) (a2 : Int32) : Option (Int32 × Mem) :=
    if a2 < 0 then
      some ((0 : Int32), (up2 M 34 8 (0 : Int32)))
    else
      if (Int32.ofNat n1) < a2 then
        some ((0 : Int32), (up2 M 34 8 (0 : Int32)))
      else
        if a2 ≤ (6 : Int32) then
          F0_takeRow_l28 n1 FUEL (up2 M 34 8 (0 : Int32)) a1 a2 (0 : Int32) (0 : Int32)
        else
          some ((0 : Int32), (up2 M 34 8 (0 : Int32)))
set_option maxRecDepth 20000 in
theorem F0_takeRow_l28_bok {p : Program} {l : Launch} {e : Env} {s : State} {m : MethodId} {args : Array Value} {below : List Frame} {meth : Method} {c : Code} {G : GG} {D : Nat} {r : Int32 × Mem} {n1 : Nat} {rec28 : Mem → Nat → Int32 → Int32 → Int32 → Option (Int32 × Mem)} (F : FrP shA G p s m args c RX0 cX0_takeRow 6) (hr : meth.sig.returnType = (some .boolean)) (hlk : meth.locks = false) (hD : 2 ≤ D) (hrec28 : ∀ (M : Mem) (x1 : Nat) (x2 : Int32) (x3 : Int32) (x4 : Int32), shA[x1]? = some (.inl (0, n1)) → rec28 M x1 x2 x3 x4 = some r → XJ shA p l e (rmX D) s m args below meth c 0 0 G 6 (MQ below (QcX shA G ((some (.int r.1), r.2) : Option Value × Mem).1 ((some (.int r.1), r.2) : Option Value × Mem).2) args s 0 0 (AW shA G.2.1)) 28 [(0, .ref 34), (1, .ref x1), (2, .int x2), (3, .int x3), (4, .int x4)] [] M) {M : Mem} {x1 : Nat} {x2 : Int32} {x3 : Int32} {x4 : Int32} (hx1 : shA[x1]? = some (.inl (0, n1))) (h : F0_takeRow_l28_b n1 rec28 M x1 x2 x3 x4 = some r) : XJ shA p l e (rmX D) s m args below meth c 0 0 G 6 (MQ below (QcX shA G ((some (.int r.1), r.2) : Option Value × Mem).1 ((some (.int r.1), r.2) : Option Value × Mem).2) args s 0 0 (AW shA G.2.1)) 28 [(0, .ref 34), (1, .ref x1), (2, .int x2), (3, .int x3), (4, .int x4)] [] M := by
  unfold F0_takeRow_l28_b at h
  refine X_iload F dX0_takeRow_28 rfl ?_
  refine X_iload_n F dX0_takeRow_30 rfl ?_
  refine X_icmp_ge (tgt := 82) F dX0_takeRow_31 (by decide) (fun q4 => ?_) (fun q4 => ?_)
  · rw [if_pos q4] at h
    refine X_iconst F dX0_takeRow_82 (v := (1 : Int32)) rfl ?_
    exact X_zret F hr hlk rfl (retI h) dX0_takeRow_83
  · rw [if_neg q4] at h
    refine X_aload_n F dX0_takeRow_34 rfl ?_
    refine X_iload F dX0_takeRow_35 rfl ?_
    obtain ⟨q5, h⟩ := ifS h
    refine X_iald (j := (Int32.toNatClampNeg x4)) (v := (M x1 (Int32.toNatClampNeg x4))) F hx1 (inbV q5) rfl rfl dX0_takeRow_37 ?_
    refine X_istore F dX0_takeRow_38 (by decide) rfl ?_
    refine X_aload_n F dX0_takeRow_40 rfl ?_
    refine X_getr F ffRX0_37 dX0_takeRow_41 ?_
    refine X_iload F dX0_takeRow_44 rfl ?_
    obtain ⟨r6, h7, h⟩ := bndS h
    refine X_callV (ci := 5) (As := [.int (M x1 (Int32.toNatClampNeg x4))]) (rest := []) F fkRX0_93 feX6_holds fvX6_holds ⟨_, _, _, rfl, rfl, rfl⟩ (F6_holds_met (D := D - 1) F.2.2.2.2.2.2.2.1 (by omega) h7) rfl rfl (Nat.le_of_ble_eq_true rfl) (rm_ok (by omega) (by decide)) dX0_takeRow_46 ?_
    show XJ shA p l e (rmX D) s m args below meth c 0 0 G 6 (MQ below (QcX shA G ((some (.int r.1), r.2) : Option Value × Mem).1 ((some (.int r.1), r.2) : Option Value × Mem).2) args s 0 0 (AW shA G.2.1)) 49 [(5, .int (M x1 (Int32.toNatClampNeg x4))), (0, .ref 34), (1, .ref x1), (2, .int x2), (3, .int x3), (4, .int x4)] [.int r6.1] r6.2
    refine X_if_eq (tgt := 61) F dX0_takeRow_49 (by decide) (fun q8 => ?_) (fun q8 => ?_)
    · rw [if_pos q8] at h
      refine X_iconst F dX0_takeRow_61 (v := (0 : Int32)) rfl ?_
      exact X_zret F hr hlk rfl (retI h) dX0_takeRow_62
    · rw [if_neg q8] at h
      refine X_iload_n F dX0_takeRow_52 rfl ?_
      refine X_iconst F dX0_takeRow_53 (v := (1 : Int32)) rfl ?_
      refine X_iload F dX0_takeRow_54 rfl ?_
      refine X_ishl F dX0_takeRow_56 ?_
      refine X_iand F dX0_takeRow_57 ?_
      refine X_if_eq (tgt := 63) F dX0_takeRow_58 (by decide) (fun q9 => ?_) (fun q9 => ?_)
      · rw [if_pos q9] at h
        refine X_iload_n F dX0_takeRow_63 rfl ?_
        refine X_iconst F dX0_takeRow_64 (v := (1 : Int32)) rfl ?_
        refine X_iload F dX0_takeRow_65 rfl ?_
        refine X_ishl F dX0_takeRow_67 ?_
        refine X_ior F dX0_takeRow_68 ?_
        refine X_istore_n F dX0_takeRow_69 (by decide) rfl ?_
        refine X_aload_n F dX0_takeRow_70 rfl ?_
        refine X_iload F dX0_takeRow_71 rfl ?_
        obtain ⟨r10, h11, h⟩ := bndS h
        refine X_callV (ci := 34) (As := [.int (M x1 (Int32.toNatClampNeg x4))]) (rest := []) F fkRX0_97 feX0_goTo fvX0_goTo ⟨_, _, _, rfl, rfl, rfl⟩ (F0_goTo_met (D := D - 1) F.2.2.2.2.2.2.2.1 (by omega) h11) rfl rfl (Nat.le_of_ble_eq_true rfl) (rm_ok (by omega) (by decide)) dX0_takeRow_73 ?_
        show XJ shA p l e (rmX D) s m args below meth c 0 0 G 6 (MQ below (QcX shA G ((some (.int r.1), r.2) : Option Value × Mem).1 ((some (.int r.1), r.2) : Option Value × Mem).2) args s 0 0 (AW shA G.2.1)) 76 [(3, .int (x3 ||| ((1 : Int32) <<< ((M x1 (Int32.toNatClampNeg x4)) &&& 31)))), (5, .int (M x1 (Int32.toNatClampNeg x4))), (0, .ref 34), (1, .ref x1), (2, .int x2), (4, .int x4)] [] r10.2
        refine X_iinc F dX0_takeRow_76 rfl (v := (1 : Int32)) rfl (by decide) rfl ?_
        refine X_goto (tgt := 28) F dX0_takeRow_79 (by decide) ?_
        refine X_pick [3, 4, 5, 1, 0] rfl ?_
        exact hrec28 _ _ _ _ _ hx1 h
      · rw [if_neg q9] at h
        refine X_iconst F dX0_takeRow_61 (v := (0 : Int32)) rfl ?_
        exact X_zret F hr hlk rfl (retI h) dX0_takeRow_62
set_option maxRecDepth 20000 in
theorem F0_takeRow_l28_ok {p : Program} {l : Launch} {e : Env} {s : State} {m : MethodId} {args : Array Value} {below : List Frame} {meth : Method} {c : Code} {G : GG} {D : Nat} {r : Int32 × Mem} {n1 : Nat} (F : FrP shA G p s m args c RX0 cX0_takeRow 6) (hr : meth.sig.returnType = (some .boolean)) (hlk : meth.locks = false) (hD : 2 ≤ D) : ∀ (fu : Nat) (M : Mem) (x1 : Nat) (x2 : Int32) (x3 : Int32) (x4 : Int32) (hx1 : shA[x1]? = some (.inl (0, n1))), F0_takeRow_l28 n1 fu M x1 x2 x3 x4 = some r → XJ shA p l e (rmX D) s m args below meth c 0 0 G 6 (MQ below (QcX shA G ((some (.int r.1), r.2) : Option Value × Mem).1 ((some (.int r.1), r.2) : Option Value × Mem).2) args s 0 0 (AW shA G.2.1)) 28 [(0, .ref 34), (1, .ref x1), (2, .int x2), (3, .int x3), (4, .int x4)] [] M := by
  intro fu
  induction fu with
  | zero => intro M x1 x2 x3 x4 hx1 h; cases h
  | succ fu ih => intro M x1 x2 x3 x4 hx1 h; exact F0_takeRow_l28_bok F hr hlk hD (fun M x1 x2 x3 x4 hx1 => ih M x1 x2 x3 x4 hx1) hx1 h
set_option maxRecDepth 20000 in
theorem F0_takeRow_ok {p : Program} {l : Launch} {e : Env} {s : State} {m : MethodId} {args : Array Value} {below : List Frame} {meth : Method} {c : Code} {G : GG} {D : Nat} {r : Int32 × Mem} (F : FrP shA G p s m args c RX0 cX0_takeRow 6) (hr : meth.sig.returnType = (some .boolean)) (hlk : meth.locks = false) (hD : 2 ≤ D) {M : Mem} {a1 : Nat} {n1 : Nat} {a2 : Int32} (ha1 : shA[a1]? = some (.inl (0, n1))) (h : F0_takeRow M a1 n1 a2 = some r) : XJ shA p l e (rmX D) s m args below meth c 0 0 G 6 (MQ below (QcX shA G ((some (.int r.1), r.2) : Option Value × Mem).1 ((some (.int r.1), r.2) : Option Value × Mem).2) args s 0 0 (AW shA G.2.1)) 0 [(0, .ref 34), (1, .ref a1), (2, .int a2)] [] M := by
  unfold F0_takeRow at h
  refine X_aload_n F dX0_takeRow_0 rfl ?_
  refine X_iconst F dX0_takeRow_1 (v := (0 : Int32)) rfl ?_
  refine X_puti F ffRX0_90 fw0_8 (by decide) dX0_takeRow_2 ?_
  refine X_iload_n F dX0_takeRow_5 rfl ?_
  refine X_if_lt (tgt := 21) F dX0_takeRow_6 (by decide) (fun q1 => ?_) (fun q1 => ?_)
  · rw [if_pos q1] at h
    refine X_iconst F dX0_takeRow_21 (v := (0 : Int32)) rfl ?_
    exact X_zret F hr hlk rfl (retI h) dX0_takeRow_22
  · rw [if_neg q1] at h
    refine X_iload_n F dX0_takeRow_9 rfl ?_
    refine X_aload_n F dX0_takeRow_10 rfl ?_
    refine X_alen F ha1 rfl dX0_takeRow_11 ?_
    refine X_icmp_gt (tgt := 21) F dX0_takeRow_12 (by decide) (fun q2 => ?_) (fun q2 => ?_)
    · rw [if_pos q2] at h
      refine X_iconst F dX0_takeRow_21 (v := (0 : Int32)) rfl ?_
      exact X_zret F hr hlk rfl (retI h) dX0_takeRow_22
    · rw [if_neg q2] at h
      refine X_iload_n F dX0_takeRow_15 rfl ?_
      refine X_bipush F dX0_takeRow_16 (v := (6 : Int32)) rfl ?_
      refine X_icmp_le (tgt := 23) F dX0_takeRow_18 (by decide) (fun q3 => ?_) (fun q3 => ?_)
      · rw [if_pos q3] at h
        refine X_iconst F dX0_takeRow_23 (v := (0 : Int32)) rfl ?_
        refine X_istore_n F dX0_takeRow_24 (by decide) rfl ?_
        refine X_iconst F dX0_takeRow_25 (v := (0 : Int32)) rfl ?_
        refine X_istore F dX0_takeRow_26 (by decide) rfl ?_
        refine X_pick [2, 3, 4, 1, 0] rfl ?_
        exact F0_takeRow_l28_ok F hr hlk hD FUEL _ _ _ _ _ ha1 h
      · rw [if_neg q3] at h
        refine X_iconst F dX0_takeRow_21 (v := (0 : Int32)) rfl ?_
        exact X_zret F hr hlk rfl (retI h) dX0_takeRow_22
set_option maxRecDepth 20000 in
theorem F0_takeRow_met {l : Launch} {G : GG} {D : Nat} {r : Int32 × Mem} {M : Mem} {a1 : Nat} {n1 : Nat} {a2 : Int32} (hI : Inj shA G.2.1) (hD : 2 ≤ D) (ha1 : shA[a1]? = some (.inl (0, n1))) (h : F0_takeRow M a1 n1 a2 = some r) : MetX shA l G yX0_takeRow cX0_takeRow 6 (some .boolean) D [.ref 34, .ref a1, .int a2] M (some (.int r.1), r.2) :=
  X_met hI (by decide +kernel) (Nat.le_of_ble_eq_true rfl) (fun p e s m args below meth c F hr hlk => F0_takeRow_ok F hr hlk hD ha1 h)
-- KeepOurPlace$Errands.prepare
def F0_prepare_l75_b (rec75 : Mem → Int32 → Option (Int32 × Mem)) (M : Mem) (x1 : Int32) : Option (Int32 × Mem) :=
    if (M 34 6) ≤ x1 then
      some ((0 : Int32), M)
    else
      if (8 : Int32) ≤ x1 then
        some ((0 : Int32), M)
      else
        if inb x1 9 = true then
        if inb ((M 1 4) + x1) 8 = true then
        Option.bind (F7_seconds M (M 2 (Int32.toNatClampNeg ((M 1 4) + x1))) ((M 1 4) + x1) ((M 1 4) + x1)) fun r11 =>
        if inb (x1 + (1 : Int32)) 9 = true then
        Option.bind (F7_minds (up2 r11.2 36 (Int32.toNatClampNeg (x1 + (1 : Int32))) ((M 36 (Int32.toNatClampNeg x1)) + r11.1)) ((M 1 4) + x1) x1) fun r14 =>
        rec75 (up2 r14.2 37 (Int32.toNatClampNeg (x1 + (1 : Int32))) ((r11.2 37 (Int32.toNatClampNeg x1)) + r14.1)) (x1 + (1 : Int32))
        else none
        else none
        else none
def F0_prepare_l75 : Nat → Mem → Int32 → Option (Int32 × Mem)
  | 0, _, _ => none
  | fu + 1, M, x1 => F0_prepare_l75_b (F0_prepare_l75 fu) M x1
def F0_prepare_l2_b (rec2 : Mem → Int32 → Option (Int32 × Mem)) (M : Mem) (x1 : Int32) : Option (Int32 × Mem) :=
    if (6 : Int32) < x1 then
      Option.bind (F7_turnChanged (up2 M 34 6 (jmax (0 : Int32) ((M 1 3) - (M 1 4)))) (-1 : Int32) (-1 : Int32)) fun r2 =>
      F0_prepare_l75 FUEL (up2 (up2 r2.2 36 0 r2.1) 37 0 (0 : Int32)) (0 : Int32)
    else
      Option.bind (F7_pace M x1) fun r4 =>
      if inb x1 7 = true then
      rec2 (up2 r4.2 35 (Int32.toNatClampNeg x1) r4.1) (x1 + (1 : Int32))
      else none
def F0_prepare_l2 : Nat → Mem → Int32 → Option (Int32 × Mem)
  | 0, _, _ => none
  | fu + 1, M, x1 => F0_prepare_l2_b (F0_prepare_l2 fu) M x1
def F0_prepare (M : Mem) : Option (Int32 × Mem) :=
    F0_prepare_l2 FUEL M (0 : Int32)
set_option maxRecDepth 20000 in
theorem F0_prepare_l75_bok {p : Program} {l : Launch} {e : Env} {s : State} {m : MethodId} {args : Array Value} {below : List Frame} {meth : Method} {c : Code} {G : GG} {D : Nat} {r : Int32 × Mem} {rec75 : Mem → Int32 → Option (Int32 × Mem)} (F : FrP shA G p s m args c RX0 cX0_prepare 3) (hr : meth.sig.returnType = none) (hlk : meth.locks = false) (hD : 5 ≤ D) (hrec75 : ∀ (M : Mem) (x1 : Int32), rec75 M x1 = some r → XJ shA p l e (rmX D) s m args below meth c 0 0 G 3 (MQ below (QcX shA G ((none, r.2) : Option Value × Mem).1 ((none, r.2) : Option Value × Mem).2) args s 0 0 (AW shA G.2.1)) 75 [(0, .ref 34), (1, .int x1)] [] M) {M : Mem} {x1 : Int32} (h : F0_prepare_l75_b rec75 M x1 = some r) : XJ shA p l e (rmX D) s m args below meth c 0 0 G 3 (MQ below (QcX shA G ((none, r.2) : Option Value × Mem).1 ((none, r.2) : Option Value × Mem).2) args s 0 0 (AW shA G.2.1)) 75 [(0, .ref 34), (1, .int x1)] [] M := by
  unfold F0_prepare_l75_b at h
  refine X_iload_n F dX0_prepare_75 rfl ?_
  refine X_aload_n F dX0_prepare_76 rfl ?_
  refine X_geti (v := (M 34 6)) F ffRX0_66 dX0_prepare_77 rfl ?_
  refine X_icmp_ge (tgt := 162) F dX0_prepare_80 (by decide) (fun q7 => ?_) (fun q7 => ?_)
  · rw [if_pos q7] at h
    exact X_vret F hr hlk (retV h) dX0_prepare_162
  · rw [if_neg q7] at h
    refine X_iload_n F dX0_prepare_83 rfl ?_
    refine X_bipush F dX0_prepare_84 (v := (8 : Int32)) rfl ?_
    refine X_icmp_ge (tgt := 162) F dX0_prepare_86 (by decide) (fun q8 => ?_) (fun q8 => ?_)
    · rw [if_pos q8] at h
      exact X_vret F hr hlk (retV h) dX0_prepare_162
    · rw [if_neg q8] at h
      refine X_aload_n F dX0_prepare_89 rfl ?_
      refine X_getr F ffRX0_33 dX0_prepare_90 ?_
      refine X_geti (v := (M 1 4)) F ffRX0_57 dX0_prepare_93 rfl ?_
      refine X_iload_n F dX0_prepare_96 rfl ?_
      refine X_iadd F dX0_prepare_97 ?_
      refine X_istore_n F dX0_prepare_98 (by decide) rfl ?_
      refine X_aload_n F dX0_prepare_99 rfl ?_
      refine X_getr F ffRX0_15 dX0_prepare_100 ?_
      refine X_iload_n F dX0_prepare_103 rfl ?_
      refine X_iconst F dX0_prepare_104 (v := (1 : Int32)) rfl ?_
      refine X_iadd F dX0_prepare_105 ?_
      refine X_aload_n F dX0_prepare_106 rfl ?_
      refine X_getr F ffRX0_15 dX0_prepare_107 ?_
      refine X_iload_n F dX0_prepare_110 rfl ?_
      obtain ⟨q9, h⟩ := ifS h
      refine X_iald (j := (Int32.toNatClampNeg x1)) (v := (M 36 (Int32.toNatClampNeg x1))) F rfl (inbV q9) rfl rfl dX0_prepare_111 ?_
      refine X_aload_n F dX0_prepare_112 rfl ?_
      refine X_getr F ffRX0_41 dX0_prepare_113 ?_
      refine X_aload_n F dX0_prepare_116 rfl ?_
      refine X_getr F ffRX0_33 dX0_prepare_117 ?_
      refine X_getr F ffRX0_72 dX0_prepare_120 ?_
      refine X_iload_n F dX0_prepare_123 rfl ?_
      obtain ⟨q10, h⟩ := ifS h
      refine X_iald (j := (Int32.toNatClampNeg ((M 1 4) + x1))) (v := (M 2 (Int32.toNatClampNeg ((M 1 4) + x1)))) F rfl (inbV q10) rfl rfl dX0_prepare_124 ?_
      refine X_iload_n F dX0_prepare_125 rfl ?_
      refine X_iload_n F dX0_prepare_126 rfl ?_
      obtain ⟨r11, h12, h⟩ := bndS h
      refine X_callV (ci := 33) (As := [.int (M 2 (Int32.toNatClampNeg ((M 1 4) + x1))), .int ((M 1 4) + x1), .int ((M 1 4) + x1)]) (rest := [.int (M 36 (Int32.toNatClampNeg x1)), .int (x1 + (1 : Int32)), .ref 36]) F fkRX0_75 feX7_seconds fvX7_seconds ⟨_, _, _, rfl, rfl, rfl⟩ (F7_seconds_met (D := D - 1) F.2.2.2.2.2.2.2.1 (by omega) h12) rfl rfl (Nat.le_of_ble_eq_true rfl) (rm_ok (by omega) (by decide)) dX0_prepare_127 ?_
      show XJ shA p l e (rmX D) s m args below meth c 0 0 G 3 (MQ below (QcX shA G ((none, r.2) : Option Value × Mem).1 ((none, r.2) : Option Value × Mem).2) args s 0 0 (AW shA G.2.1)) 130 [(2, .int ((M 1 4) + x1)), (0, .ref 34), (1, .int x1)] [.int r11.1, .int (M 36 (Int32.toNatClampNeg x1)), .int (x1 + (1 : Int32)), .ref 36] r11.2
      refine X_iadd F dX0_prepare_130 ?_
      obtain ⟨q13, h⟩ := ifS h
      refine X_iast (j := (Int32.toNatClampNeg (x1 + (1 : Int32)))) F rfl (inbV q13) rfl dX0_prepare_131 ?_
      refine X_aload_n F dX0_prepare_132 rfl ?_
      refine X_getr F ffRX0_18 dX0_prepare_133 ?_
      refine X_iload_n F dX0_prepare_136 rfl ?_
      refine X_iconst F dX0_prepare_137 (v := (1 : Int32)) rfl ?_
      refine X_iadd F dX0_prepare_138 ?_
      refine X_aload_n F dX0_prepare_139 rfl ?_
      refine X_getr F ffRX0_18 dX0_prepare_140 ?_
      refine X_iload_n F dX0_prepare_143 rfl ?_
      refine X_iald (j := (Int32.toNatClampNeg x1)) (v := (r11.2 37 (Int32.toNatClampNeg x1))) F rfl (inbV q9) rfl rfl dX0_prepare_144 ?_
      refine X_aload_n F dX0_prepare_145 rfl ?_
      refine X_getr F ffRX0_41 dX0_prepare_146 ?_
      refine X_iload_n F dX0_prepare_149 rfl ?_
      refine X_iload_n F dX0_prepare_150 rfl ?_
      obtain ⟨r14, h15, h⟩ := bndS h
      refine X_callV (ci := 33) (As := [.int ((M 1 4) + x1), .int x1]) (rest := [.int (r11.2 37 (Int32.toNatClampNeg x1)), .int (x1 + (1 : Int32)), .ref 37]) F fkRX0_79 feX7_minds fvX7_minds ⟨_, _, _, rfl, rfl, rfl⟩ (F7_minds_met (D := D - 1) F.2.2.2.2.2.2.2.1 (by omega) h15) rfl rfl (Nat.le_of_ble_eq_true rfl) (rm_ok (by omega) (by decide)) dX0_prepare_151 ?_
      show XJ shA p l e (rmX D) s m args below meth c 0 0 G 3 (MQ below (QcX shA G ((none, r.2) : Option Value × Mem).1 ((none, r.2) : Option Value × Mem).2) args s 0 0 (AW shA G.2.1)) 154 [(2, .int ((M 1 4) + x1)), (0, .ref 34), (1, .int x1)] [.int r14.1, .int (r11.2 37 (Int32.toNatClampNeg x1)), .int (x1 + (1 : Int32)), .ref 37] r14.2
      refine X_iadd F dX0_prepare_154 ?_
      refine X_iast (j := (Int32.toNatClampNeg (x1 + (1 : Int32)))) F rfl (inbV q13) rfl dX0_prepare_155 ?_
      refine X_iinc F dX0_prepare_156 rfl (v := (1 : Int32)) rfl (by decide) rfl ?_
      refine X_goto (tgt := 75) F dX0_prepare_159 (by decide) ?_
      refine X_pick [2, 0] rfl ?_
      exact hrec75 _ _ h
set_option maxRecDepth 20000 in
theorem F0_prepare_l75_ok {p : Program} {l : Launch} {e : Env} {s : State} {m : MethodId} {args : Array Value} {below : List Frame} {meth : Method} {c : Code} {G : GG} {D : Nat} {r : Int32 × Mem} (F : FrP shA G p s m args c RX0 cX0_prepare 3) (hr : meth.sig.returnType = none) (hlk : meth.locks = false) (hD : 5 ≤ D) : ∀ (fu : Nat) (M : Mem) (x1 : Int32), F0_prepare_l75 fu M x1 = some r → XJ shA p l e (rmX D) s m args below meth c 0 0 G 3 (MQ below (QcX shA G ((none, r.2) : Option Value × Mem).1 ((none, r.2) : Option Value × Mem).2) args s 0 0 (AW shA G.2.1)) 75 [(0, .ref 34), (1, .int x1)] [] M := by
  intro fu
  induction fu with
  | zero => intro M x1 h; cases h
  | succ fu ih => intro M x1 h; exact F0_prepare_l75_bok F hr hlk hD (fun M x1 => ih M x1) h
set_option maxRecDepth 20000 in
theorem F0_prepare_l2_bok {p : Program} {l : Launch} {e : Env} {s : State} {m : MethodId} {args : Array Value} {below : List Frame} {meth : Method} {c : Code} {G : GG} {D : Nat} {r : Int32 × Mem} {rec2 : Mem → Int32 → Option (Int32 × Mem)} (F : FrP shA G p s m args c RX0 cX0_prepare 3) (hr : meth.sig.returnType = none) (hlk : meth.locks = false) (hD : 5 ≤ D) (hrec2 : ∀ (M : Mem) (x1 : Int32), rec2 M x1 = some r → XJ shA p l e (rmX D) s m args below meth c 0 0 G 3 (MQ below (QcX shA G ((none, r.2) : Option Value × Mem).1 ((none, r.2) : Option Value × Mem).2) args s 0 0 (AW shA G.2.1)) 2 [(0, .ref 34), (1, .int x1)] [] M) {M : Mem} {x1 : Int32} (h : F0_prepare_l2_b rec2 M x1 = some r) : XJ shA p l e (rmX D) s m args below meth c 0 0 G 3 (MQ below (QcX shA G ((none, r.2) : Option Value × Mem).1 ((none, r.2) : Option Value × Mem).2) args s 0 0 (AW shA G.2.1)) 2 [(0, .ref 34), (1, .int x1)] [] M := by
  unfold F0_prepare_l2_b at h
  refine X_iload_n F dX0_prepare_2 rfl ?_
  refine X_bipush F dX0_prepare_3 (v := (6 : Int32)) rfl ?_
  refine X_icmp_gt (tgt := 28) F dX0_prepare_5 (by decide) (fun q1 => ?_) (fun q1 => ?_)
  · rw [if_pos q1] at h
    refine X_aload_n F dX0_prepare_28 rfl ?_
    refine X_iconst F dX0_prepare_29 (v := (0 : Int32)) rfl ?_
    refine X_aload_n F dX0_prepare_30 rfl ?_
    refine X_getr F ffRX0_33 dX0_prepare_31 ?_
    refine X_geti (v := (M 1 3)) F ffRX0_51 dX0_prepare_34 rfl ?_
    refine X_aload_n F dX0_prepare_37 rfl ?_
    refine X_getr F ffRX0_33 dX0_prepare_38 ?_
    refine X_geti (v := (M 1 4)) F ffRX0_57 dX0_prepare_41 rfl ?_
    refine X_isub F dX0_prepare_44 ?_
    refine X_mmax F fmRX0_60 math_smax math_i math_cmax (rm_1 (by omega)) (rm_w (n := 14) (by omega) (Nat.le_of_ble_eq_true rfl) (by decide)) dX0_prepare_45 ?_
    refine X_puti F ffRX0_66 fw0_6 (by decide) dX0_prepare_48 ?_
    refine X_aload_n F dX0_prepare_51 rfl ?_
    refine X_getr F ffRX0_15 dX0_prepare_52 ?_
    refine X_iconst F dX0_prepare_55 (v := (0 : Int32)) rfl ?_
    refine X_aload_n F dX0_prepare_56 rfl ?_
    refine X_getr F ffRX0_41 dX0_prepare_57 ?_
    refine X_iconst F dX0_prepare_60 (v := (-1 : Int32)) rfl ?_
    refine X_iconst F dX0_prepare_61 (v := (-1 : Int32)) rfl ?_
    obtain ⟨r2, h3, h⟩ := bndS h
    refine X_callV (ci := 33) (As := [.int (-1 : Int32), .int (-1 : Int32)]) (rest := [.int (0 : Int32), .ref 36]) F fkRX0_69 feX7_turnChanged fvX7_turnChanged ⟨_, _, _, rfl, rfl, rfl⟩ (F7_turnChanged_met (D := D - 1) F.2.2.2.2.2.2.2.1 (by omega) h3) rfl rfl (Nat.le_of_ble_eq_true rfl) (rm_ok (by omega) (by decide)) dX0_prepare_62 ?_
    show XJ shA p l e (rmX D) s m args below meth c 0 0 G 3 (MQ below (QcX shA G ((none, r.2) : Option Value × Mem).1 ((none, r.2) : Option Value × Mem).2) args s 0 0 (AW shA G.2.1)) 65 [(0, .ref 34), (1, .int x1)] [.int r2.1, .int (0 : Int32), .ref 36] r2.2
    refine X_iast (j := 0) F rfl (inbV (by decide)) (by decide) dX0_prepare_65 ?_
    refine X_aload_n F dX0_prepare_66 rfl ?_
    refine X_getr F ffRX0_18 dX0_prepare_67 ?_
    refine X_iconst F dX0_prepare_70 (v := (0 : Int32)) rfl ?_
    refine X_iconst F dX0_prepare_71 (v := (0 : Int32)) rfl ?_
    refine X_iast (j := 0) F rfl (inbV (by decide)) (by decide) dX0_prepare_72 ?_
    refine X_iconst F dX0_prepare_73 (v := (0 : Int32)) rfl ?_
    refine X_istore_n F dX0_prepare_74 (by decide) rfl ?_
    refine X_pick [1, 0] rfl ?_
    exact F0_prepare_l75_ok F hr hlk hD FUEL _ _ h
  · rw [if_neg q1] at h
    refine X_aload_n F dX0_prepare_8 rfl ?_
    refine X_getr F ffRX0_9 dX0_prepare_9 ?_
    refine X_iload_n F dX0_prepare_12 rfl ?_
    refine X_aload_n F dX0_prepare_13 rfl ?_
    refine X_getr F ffRX0_41 dX0_prepare_14 ?_
    refine X_iload_n F dX0_prepare_17 rfl ?_
    obtain ⟨r4, h5, h⟩ := bndS h
    refine X_callV (ci := 33) (As := [.int x1]) (rest := [.int x1, .ref 35]) F fkRX0_45 feX7_pace fvX7_pace ⟨_, _, _, rfl, rfl, rfl⟩ (F7_pace_met (D := D - 1) F.2.2.2.2.2.2.2.1 (by omega) h5) rfl rfl (Nat.le_of_ble_eq_true rfl) (rm_ok (by omega) (by decide)) dX0_prepare_18 ?_
    show XJ shA p l e (rmX D) s m args below meth c 0 0 G 3 (MQ below (QcX shA G ((none, r.2) : Option Value × Mem).1 ((none, r.2) : Option Value × Mem).2) args s 0 0 (AW shA G.2.1)) 21 [(0, .ref 34), (1, .int x1)] [.int r4.1, .int x1, .ref 35] r4.2
    obtain ⟨q6, h⟩ := ifS h
    refine X_iast (j := (Int32.toNatClampNeg x1)) F rfl (inbV q6) rfl dX0_prepare_21 ?_
    refine X_iinc F dX0_prepare_22 rfl (v := (1 : Int32)) rfl (by decide) rfl ?_
    refine X_goto (tgt := 2) F dX0_prepare_25 (by decide) ?_
    refine X_pick [1, 0] rfl ?_
    exact hrec2 _ _ h
set_option maxRecDepth 20000 in
theorem F0_prepare_l2_ok {p : Program} {l : Launch} {e : Env} {s : State} {m : MethodId} {args : Array Value} {below : List Frame} {meth : Method} {c : Code} {G : GG} {D : Nat} {r : Int32 × Mem} (F : FrP shA G p s m args c RX0 cX0_prepare 3) (hr : meth.sig.returnType = none) (hlk : meth.locks = false) (hD : 5 ≤ D) : ∀ (fu : Nat) (M : Mem) (x1 : Int32), F0_prepare_l2 fu M x1 = some r → XJ shA p l e (rmX D) s m args below meth c 0 0 G 3 (MQ below (QcX shA G ((none, r.2) : Option Value × Mem).1 ((none, r.2) : Option Value × Mem).2) args s 0 0 (AW shA G.2.1)) 2 [(0, .ref 34), (1, .int x1)] [] M := by
  intro fu
  induction fu with
  | zero => intro M x1 h; cases h
  | succ fu ih => intro M x1 h; exact F0_prepare_l2_bok F hr hlk hD (fun M x1 => ih M x1) h
set_option maxRecDepth 20000 in
theorem F0_prepare_ok {p : Program} {l : Launch} {e : Env} {s : State} {m : MethodId} {args : Array Value} {below : List Frame} {meth : Method} {c : Code} {G : GG} {D : Nat} {r : Int32 × Mem} (F : FrP shA G p s m args c RX0 cX0_prepare 3) (hr : meth.sig.returnType = none) (hlk : meth.locks = false) (hD : 5 ≤ D) {M : Mem} (h : F0_prepare M = some r) : XJ shA p l e (rmX D) s m args below meth c 0 0 G 3 (MQ below (QcX shA G ((none, r.2) : Option Value × Mem).1 ((none, r.2) : Option Value × Mem).2) args s 0 0 (AW shA G.2.1)) 0 [(0, .ref 34)] [] M := by
  unfold F0_prepare at h
  refine X_iconst F dX0_prepare_0 (v := (0 : Int32)) rfl ?_
  refine X_istore_n F dX0_prepare_1 (by decide) rfl ?_
  refine X_pick [1, 0] rfl ?_
  exact F0_prepare_l2_ok F hr hlk hD FUEL _ _ h
set_option maxRecDepth 20000 in
theorem F0_prepare_met {l : Launch} {G : GG} {D : Nat} {r : Int32 × Mem} {M : Mem} (hI : Inj shA G.2.1) (hD : 5 ≤ D) (h : F0_prepare M = some r) : MetX shA l G yX0_prepare cX0_prepare 3 none D [.ref 34] M (none, r.2) :=
  X_met hI (by decide +kernel) (Nat.le_of_ble_eq_true rfl) (fun p e s m args below meth c F hr hlk => F0_prepare_ok F hr hlk hD h)
-- KeepOurPlace$Errands.leg
def F0_leg (M : Mem) (a1 : Int32) (a2 : Int32) (a3 : Int32) : Option (Int32 × Mem) :=
    if a3 < 0 then
      some ((0 : Int32), M)
    else
      if a3 ≤ (6 : Int32) then
        Option.bind (F6_steps M a1 a2) fun r3 =>
        if inb a3 7 = true then
        some ((r3.1 * (r3.2 35 (Int32.toNatClampNeg a3))), r3.2)
        else none
      else
        some ((0 : Int32), M)
set_option maxRecDepth 20000 in
theorem F0_leg_ok {p : Program} {l : Launch} {e : Env} {s : State} {m : MethodId} {args : Array Value} {below : List Frame} {meth : Method} {c : Code} {G : GG} {D : Nat} {r : Int32 × Mem} (F : FrP shA G p s m args c RX0 cX0_leg 4) (hr : meth.sig.returnType = (some .int)) (hlk : meth.locks = false) (hD : 4 ≤ D) {M : Mem} {a1 : Int32} {a2 : Int32} {a3 : Int32} (h : F0_leg M a1 a2 a3 = some r) : XJ shA p l e (rmX D) s m args below meth c 0 0 G 4 (MQ below (QcX shA G ((some (.int r.1), r.2) : Option Value × Mem).1 ((some (.int r.1), r.2) : Option Value × Mem).2) args s 0 0 (AW shA G.2.1)) 0 [(0, .ref 34), (1, .int a1), (2, .int a2), (3, .int a3)] [] M := by
  unfold F0_leg at h
  refine X_iload_n F dX0_leg_0 rfl ?_
  refine X_if_lt (tgt := 10) F dX0_leg_1 (by decide) (fun q1 => ?_) (fun q1 => ?_)
  · rw [if_pos q1] at h
    refine X_iconst F dX0_leg_10 (v := (0 : Int32)) rfl ?_
    refine X_goto (tgt := 30) F dX0_leg_11 (by decide) ?_
    exact X_iret F hr hlk (retI h) dX0_leg_30
  · rw [if_neg q1] at h
    refine X_iload_n F dX0_leg_4 rfl ?_
    refine X_bipush F dX0_leg_5 (v := (6 : Int32)) rfl ?_
    refine X_icmp_le (tgt := 14) F dX0_leg_7 (by decide) (fun q2 => ?_) (fun q2 => ?_)
    · rw [if_pos q2] at h
      refine X_aload_n F dX0_leg_14 rfl ?_
      refine X_getr F ffRX0_37 dX0_leg_15 ?_
      refine X_iload_n F dX0_leg_18 rfl ?_
      refine X_iload_n F dX0_leg_19 rfl ?_
      obtain ⟨r3, h4, h⟩ := bndS h
      refine X_callV (ci := 5) (As := [.int a1, .int a2]) (rest := []) F fkRX0_85 feX6_steps fvX6_steps ⟨_, _, _, rfl, rfl, rfl⟩ (F6_steps_met (D := D - 1) F.2.2.2.2.2.2.2.1 (by omega) h4) rfl rfl (Nat.le_of_ble_eq_true rfl) (rm_ok (by omega) (by decide)) dX0_leg_20 ?_
      show XJ shA p l e (rmX D) s m args below meth c 0 0 G 4 (MQ below (QcX shA G ((some (.int r.1), r.2) : Option Value × Mem).1 ((some (.int r.1), r.2) : Option Value × Mem).2) args s 0 0 (AW shA G.2.1)) 23 [(0, .ref 34), (1, .int a1), (2, .int a2), (3, .int a3)] [.int r3.1] r3.2
      refine X_aload_n F dX0_leg_23 rfl ?_
      refine X_getr F ffRX0_9 dX0_leg_24 ?_
      refine X_iload_n F dX0_leg_27 rfl ?_
      obtain ⟨q5, h⟩ := ifS h
      refine X_iald (j := (Int32.toNatClampNeg a3)) (v := (r3.2 35 (Int32.toNatClampNeg a3))) F rfl (inbV q5) rfl rfl dX0_leg_28 ?_
      refine X_imul F dX0_leg_29 ?_
      exact X_iret F hr hlk (retI h) dX0_leg_30
    · rw [if_neg q2] at h
      refine X_iconst F dX0_leg_10 (v := (0 : Int32)) rfl ?_
      refine X_goto (tgt := 30) F dX0_leg_11 (by decide) ?_
      exact X_iret F hr hlk (retI h) dX0_leg_30
set_option maxRecDepth 20000 in
theorem F0_leg_met {l : Launch} {G : GG} {D : Nat} {r : Int32 × Mem} {M : Mem} {a1 : Int32} {a2 : Int32} {a3 : Int32} (hI : Inj shA G.2.1) (hD : 4 ≤ D) (h : F0_leg M a1 a2 a3 = some r) : MetX shA l G yX0_leg cX0_leg 4 (some .int) D [.ref 34, .int a1, .int a2, .int a3] M (some (.int r.1), r.2) :=
  X_met hI (by decide +kernel) (Nat.le_of_ble_eq_true rfl) (fun p e s m args below meth c F hr hlk => F0_leg_ok F hr hlk hD h)
-- KeepOurPlace$Errands.backWithout
def F0_backWithout_j56 (rec10 : Mem → Int32 → Int32 → Int32 → Int32 → Int32 → Option (Int32 × Mem)) (M : Mem) (x1 : Int32) (x2 : Int32) (x3 : Int32) (x4 : Int32) (x5 : Int32) : Option (Int32 × Mem) :=
    rec10 M x1 x2 x3 x4 (x5 + (1 : Int32))
def F0_backWithout_l10_b (rec10 : Mem → Int32 → Int32 → Int32 → Int32 → Int32 → Option (Int32 × Mem)) (M : Mem) (x1 : Int32) (x2 : Int32) (x3 : Int32) (x4 : Int32) (x5 : Int32) : Option (Int32 × Mem) :=
    if (M 34 8) ≤ x5 then
      Option.bind (F0_leg M x2 (-1 : Int32) x4) fun r2 =>
      some ((x3 + r2.1), r2.2)
    else
      if ¬ x5 = x1 then
        if inb x5 6 = true then
        Option.bind (F0_leg M x2 (M 38 (Int32.toNatClampNeg x5)) x4) fun r6 =>
        F0_backWithout_j56 rec10 r6.2 x1 (r6.2 38 (Int32.toNatClampNeg x5)) (x3 + r6.1) (x4 + (1 : Int32)) x5
        else none
      else
        F0_backWithout_j56 rec10 M x1 x2 x3 x4 x5
def F0_backWithout_l10 : Nat → Mem → Int32 → Int32 → Int32 → Int32 → Int32 → Option (Int32 × Mem)
  | 0, _, _, _, _, _, _ => none
  | fu + 1, M, x1, x2, x3, x4, x5 => F0_backWithout_l10_b (F0_backWithout_l10 fu) M x1 x2 x3 x4 x5
def F0_backWithout (M : Mem) (a1 : Int32) : Option (Int32 × Mem) :=
    F0_backWithout_l10 FUEL M a1 (-1 : Int32) (0 : Int32) (0 : Int32) (0 : Int32)
set_option maxRecDepth 20000 in
theorem F0_backWithout_j56_ok {p : Program} {l : Launch} {e : Env} {s : State} {m : MethodId} {args : Array Value} {below : List Frame} {meth : Method} {c : Code} {G : GG} {D : Nat} {r : Int32 × Mem} {rec10 : Mem → Int32 → Int32 → Int32 → Int32 → Int32 → Option (Int32 × Mem)} (F : FrP shA G p s m args c RX0 cX0_backWithout 6) (hr : meth.sig.returnType = (some .int)) (hlk : meth.locks = false) (hD : 5 ≤ D) (hrec10 : ∀ (M : Mem) (x1 : Int32) (x2 : Int32) (x3 : Int32) (x4 : Int32) (x5 : Int32), rec10 M x1 x2 x3 x4 x5 = some r → XJ shA p l e (rmX D) s m args below meth c 0 0 G 6 (MQ below (QcX shA G ((some (.int r.1), r.2) : Option Value × Mem).1 ((some (.int r.1), r.2) : Option Value × Mem).2) args s 0 0 (AW shA G.2.1)) 10 [(0, .ref 34), (1, .int x1), (2, .int x2), (3, .int x3), (4, .int x4), (5, .int x5)] [] M) {M : Mem} {x1 : Int32} {x2 : Int32} {x3 : Int32} {x4 : Int32} {x5 : Int32} (h : F0_backWithout_j56 rec10 M x1 x2 x3 x4 x5 = some r) : XJ shA p l e (rmX D) s m args below meth c 0 0 G 6 (MQ below (QcX shA G ((some (.int r.1), r.2) : Option Value × Mem).1 ((some (.int r.1), r.2) : Option Value × Mem).2) args s 0 0 (AW shA G.2.1)) 56 [(0, .ref 34), (1, .int x1), (2, .int x2), (3, .int x3), (4, .int x4), (5, .int x5)] [] M := by
  unfold F0_backWithout_j56 at h
  refine X_iinc F dX0_backWithout_56 rfl (v := (1 : Int32)) rfl (by decide) rfl ?_
  refine X_goto (tgt := 10) F dX0_backWithout_59 (by decide) ?_
  refine X_pick [1, 2, 3, 4, 5, 0] rfl ?_
  exact hrec10 _ _ _ _ _ _ h
set_option maxRecDepth 20000 in
theorem F0_backWithout_l10_bok {p : Program} {l : Launch} {e : Env} {s : State} {m : MethodId} {args : Array Value} {below : List Frame} {meth : Method} {c : Code} {G : GG} {D : Nat} {r : Int32 × Mem} {rec10 : Mem → Int32 → Int32 → Int32 → Int32 → Int32 → Option (Int32 × Mem)} (F : FrP shA G p s m args c RX0 cX0_backWithout 6) (hr : meth.sig.returnType = (some .int)) (hlk : meth.locks = false) (hD : 5 ≤ D) (hrec10 : ∀ (M : Mem) (x1 : Int32) (x2 : Int32) (x3 : Int32) (x4 : Int32) (x5 : Int32), rec10 M x1 x2 x3 x4 x5 = some r → XJ shA p l e (rmX D) s m args below meth c 0 0 G 6 (MQ below (QcX shA G ((some (.int r.1), r.2) : Option Value × Mem).1 ((some (.int r.1), r.2) : Option Value × Mem).2) args s 0 0 (AW shA G.2.1)) 10 [(0, .ref 34), (1, .int x1), (2, .int x2), (3, .int x3), (4, .int x4), (5, .int x5)] [] M) {M : Mem} {x1 : Int32} {x2 : Int32} {x3 : Int32} {x4 : Int32} {x5 : Int32} (h : F0_backWithout_l10_b rec10 M x1 x2 x3 x4 x5 = some r) : XJ shA p l e (rmX D) s m args below meth c 0 0 G 6 (MQ below (QcX shA G ((some (.int r.1), r.2) : Option Value × Mem).1 ((some (.int r.1), r.2) : Option Value × Mem).2) args s 0 0 (AW shA G.2.1)) 10 [(0, .ref 34), (1, .int x1), (2, .int x2), (3, .int x3), (4, .int x4), (5, .int x5)] [] M := by
  unfold F0_backWithout_l10_b at h
  refine X_iload F dX0_backWithout_10 rfl ?_
  refine X_aload_n F dX0_backWithout_12 rfl ?_
  refine X_geti (v := (M 34 8)) F ffRX0_90 dX0_backWithout_13 rfl ?_
  refine X_icmp_ge (tgt := 62) F dX0_backWithout_16 (by decide) (fun q1 => ?_) (fun q1 => ?_)
  · rw [if_pos q1] at h
    refine X_iload_n F dX0_backWithout_62 rfl ?_
    refine X_aload_n F dX0_backWithout_63 rfl ?_
    refine X_iload_n F dX0_backWithout_64 rfl ?_
    refine X_iconst F dX0_backWithout_65 (v := (-1 : Int32)) rfl ?_
    refine X_iload F dX0_backWithout_66 rfl ?_
    obtain ⟨r2, h3, h⟩ := bndS h
    refine X_callV (ci := 34) (As := [.int x2, .int (-1 : Int32), .int x4]) (rest := [.int x3]) F fkRX0_105 feX0_leg fvX0_leg ⟨_, _, _, rfl, rfl, rfl⟩ (F0_leg_met (D := D - 1) F.2.2.2.2.2.2.2.1 (by omega) h3) rfl rfl (Nat.le_of_ble_eq_true rfl) (rm_ok (by omega) (by decide)) dX0_backWithout_68 ?_
    show XJ shA p l e (rmX D) s m args below meth c 0 0 G 6 (MQ below (QcX shA G ((some (.int r.1), r.2) : Option Value × Mem).1 ((some (.int r.1), r.2) : Option Value × Mem).2) args s 0 0 (AW shA G.2.1)) 71 [(0, .ref 34), (1, .int x1), (2, .int x2), (3, .int x3), (4, .int x4), (5, .int x5)] [.int r2.1, .int x3] r2.2
    refine X_iadd F dX0_backWithout_71 ?_
    exact X_iret F hr hlk (retI h) dX0_backWithout_72
  · rw [if_neg q1] at h
    refine X_iload F dX0_backWithout_19 rfl ?_
    refine X_iload_n F dX0_backWithout_21 rfl ?_
    refine X_icmp_ne (tgt := 28) F dX0_backWithout_22 (by decide) (fun q4 => ?_) (fun q4 => ?_)
    · rw [if_pos q4] at h
      refine X_iload_n F dX0_backWithout_28 rfl ?_
      refine X_aload_n F dX0_backWithout_29 rfl ?_
      refine X_iload_n F dX0_backWithout_30 rfl ?_
      refine X_aload_n F dX0_backWithout_31 rfl ?_
      refine X_getr F ffRX0_21 dX0_backWithout_32 ?_
      refine X_iload F dX0_backWithout_35 rfl ?_
      obtain ⟨q5, h⟩ := ifS h
      refine X_iald (j := (Int32.toNatClampNeg x5)) (v := (M 38 (Int32.toNatClampNeg x5))) F rfl (inbV q5) rfl rfl dX0_backWithout_37 ?_
      refine X_iload F dX0_backWithout_38 rfl ?_
      obtain ⟨r6, h7, h⟩ := bndS h
      refine X_callV (ci := 34) (As := [.int x2, .int (M 38 (Int32.toNatClampNeg x5)), .int x4]) (rest := [.int x3]) F fkRX0_105 feX0_leg fvX0_leg ⟨_, _, _, rfl, rfl, rfl⟩ (F0_leg_met (D := D - 1) F.2.2.2.2.2.2.2.1 (by omega) h7) rfl rfl (Nat.le_of_ble_eq_true rfl) (rm_ok (by omega) (by decide)) dX0_backWithout_40 ?_
      show XJ shA p l e (rmX D) s m args below meth c 0 0 G 6 (MQ below (QcX shA G ((some (.int r.1), r.2) : Option Value × Mem).1 ((some (.int r.1), r.2) : Option Value × Mem).2) args s 0 0 (AW shA G.2.1)) 43 [(0, .ref 34), (1, .int x1), (2, .int x2), (3, .int x3), (4, .int x4), (5, .int x5)] [.int r6.1, .int x3] r6.2
      refine X_iadd F dX0_backWithout_43 ?_
      refine X_istore_n F dX0_backWithout_44 (by decide) rfl ?_
      refine X_aload_n F dX0_backWithout_45 rfl ?_
      refine X_getr F ffRX0_21 dX0_backWithout_46 ?_
      refine X_iload F dX0_backWithout_49 rfl ?_
      refine X_iald (j := (Int32.toNatClampNeg x5)) (v := (r6.2 38 (Int32.toNatClampNeg x5))) F rfl (inbV q5) rfl rfl dX0_backWithout_51 ?_
      refine X_istore_n F dX0_backWithout_52 (by decide) rfl ?_
      refine X_iinc F dX0_backWithout_53 rfl (v := (1 : Int32)) rfl (by decide) rfl ?_
      refine X_pick [3, 4, 1, 2, 0, 5] rfl ?_
      exact F0_backWithout_j56_ok F hr hlk hD hrec10 h
    · rw [if_neg (fun z => z q4)] at h
      refine X_goto (tgt := 56) F dX0_backWithout_25 (by decide) ?_
      exact F0_backWithout_j56_ok F hr hlk hD hrec10 h
set_option maxRecDepth 20000 in
theorem F0_backWithout_l10_ok {p : Program} {l : Launch} {e : Env} {s : State} {m : MethodId} {args : Array Value} {below : List Frame} {meth : Method} {c : Code} {G : GG} {D : Nat} {r : Int32 × Mem} (F : FrP shA G p s m args c RX0 cX0_backWithout 6) (hr : meth.sig.returnType = (some .int)) (hlk : meth.locks = false) (hD : 5 ≤ D) : ∀ (fu : Nat) (M : Mem) (x1 : Int32) (x2 : Int32) (x3 : Int32) (x4 : Int32) (x5 : Int32), F0_backWithout_l10 fu M x1 x2 x3 x4 x5 = some r → XJ shA p l e (rmX D) s m args below meth c 0 0 G 6 (MQ below (QcX shA G ((some (.int r.1), r.2) : Option Value × Mem).1 ((some (.int r.1), r.2) : Option Value × Mem).2) args s 0 0 (AW shA G.2.1)) 10 [(0, .ref 34), (1, .int x1), (2, .int x2), (3, .int x3), (4, .int x4), (5, .int x5)] [] M := by
  intro fu
  induction fu with
  | zero => intro M x1 x2 x3 x4 x5 h; cases h
  | succ fu ih => intro M x1 x2 x3 x4 x5 h; exact F0_backWithout_l10_bok F hr hlk hD (fun M x1 x2 x3 x4 x5 => ih M x1 x2 x3 x4 x5) h
set_option maxRecDepth 20000 in
theorem F0_backWithout_ok {p : Program} {l : Launch} {e : Env} {s : State} {m : MethodId} {args : Array Value} {below : List Frame} {meth : Method} {c : Code} {G : GG} {D : Nat} {r : Int32 × Mem} (F : FrP shA G p s m args c RX0 cX0_backWithout 6) (hr : meth.sig.returnType = (some .int)) (hlk : meth.locks = false) (hD : 5 ≤ D) {M : Mem} {a1 : Int32} (h : F0_backWithout M a1 = some r) : XJ shA p l e (rmX D) s m args below meth c 0 0 G 6 (MQ below (QcX shA G ((some (.int r.1), r.2) : Option Value × Mem).1 ((some (.int r.1), r.2) : Option Value × Mem).2) args s 0 0 (AW shA G.2.1)) 0 [(0, .ref 34), (1, .int a1)] [] M := by
  unfold F0_backWithout at h
  refine X_iconst F dX0_backWithout_0 (v := (-1 : Int32)) rfl ?_
  refine X_istore_n F dX0_backWithout_1 (by decide) rfl ?_
  refine X_iconst F dX0_backWithout_2 (v := (0 : Int32)) rfl ?_
  refine X_istore_n F dX0_backWithout_3 (by decide) rfl ?_
  refine X_iconst F dX0_backWithout_4 (v := (0 : Int32)) rfl ?_
  refine X_istore F dX0_backWithout_5 (by decide) rfl ?_
  refine X_iconst F dX0_backWithout_7 (v := (0 : Int32)) rfl ?_
  refine X_istore F dX0_backWithout_8 (by decide) rfl ?_
  refine X_pick [4, 5, 3, 2, 1, 0] rfl ?_
  exact F0_backWithout_l10_ok F hr hlk hD FUEL _ _ _ _ _ _ h
set_option maxRecDepth 20000 in
theorem F0_backWithout_met {l : Launch} {G : GG} {D : Nat} {r : Int32 × Mem} {M : Mem} {a1 : Int32} (hI : Inj shA G.2.1) (hD : 5 ≤ D) (h : F0_backWithout M a1 = some r) : MetX shA l G yX0_backWithout cX0_backWithout 6 (some .int) D [.ref 34, .int a1] M (some (.int r.1), r.2) :=
  X_met hI (by decide +kernel) (Nat.le_of_ble_eq_true rfl) (fun p e s m args below meth c F hr hlk => F0_backWithout_ok F hr hlk hD h)
-- KeepOurPlace$Errands.letBy
def F0_letBy_l2_b (rec2 : Mem → Int32 → Int32 → Option (Int32 × Mem)) (M : Mem) (x1 : Int32) (x2 : Int32) : Option (Int32 × Mem) :=
    if (M 34 6) ≤ x2 then
      some (x2, M)
    else
      if (8 : Int32) ≤ x2 then
        some (x2, M)
      else
        if inb x2 9 = true then
        if x1 ≤ (M 36 (Int32.toNatClampNeg x2)) then
          some (x2, M)
        else
          rec2 M x1 (x2 + (1 : Int32))
        else none
def F0_letBy_l2 : Nat → Mem → Int32 → Int32 → Option (Int32 × Mem)
  | 0, _, _, _ => none
  | fu + 1, M, x1, x2 => F0_letBy_l2_b (F0_letBy_l2 fu) M x1 x2
def F0_letBy (M : Mem) (a1 : Int32) : Option (Int32 × Mem) :=
    F0_letBy_l2 FUEL M a1 (0 : Int32)
set_option maxRecDepth 20000 in
theorem F0_letBy_l2_bok {p : Program} {l : Launch} {e : Env} {s : State} {m : MethodId} {args : Array Value} {below : List Frame} {meth : Method} {c : Code} {G : GG} {D : Nat} {r : Int32 × Mem} {rec2 : Mem → Int32 → Int32 → Option (Int32 × Mem)} (F : FrP shA G p s m args c RX0 cX0_letBy 3) (hr : meth.sig.returnType = (some .int)) (hlk : meth.locks = false) (hD : 1 ≤ D) (hrec2 : ∀ (M : Mem) (x1 : Int32) (x2 : Int32), rec2 M x1 x2 = some r → XJ shA p l e (rmX D) s m args below meth c 0 0 G 3 (MQ below (QcX shA G ((some (.int r.1), r.2) : Option Value × Mem).1 ((some (.int r.1), r.2) : Option Value × Mem).2) args s 0 0 (AW shA G.2.1)) 2 [(0, .ref 34), (1, .int x1), (2, .int x2)] [] M) {M : Mem} {x1 : Int32} {x2 : Int32} (h : F0_letBy_l2_b rec2 M x1 x2 = some r) : XJ shA p l e (rmX D) s m args below meth c 0 0 G 3 (MQ below (QcX shA G ((some (.int r.1), r.2) : Option Value × Mem).1 ((some (.int r.1), r.2) : Option Value × Mem).2) args s 0 0 (AW shA G.2.1)) 2 [(0, .ref 34), (1, .int x1), (2, .int x2)] [] M := by
  unfold F0_letBy_l2_b at h
  refine X_iload_n F dX0_letBy_2 rfl ?_
  refine X_aload_n F dX0_letBy_3 rfl ?_
  refine X_geti (v := (M 34 6)) F ffRX0_66 dX0_letBy_4 rfl ?_
  refine X_icmp_ge (tgt := 32) F dX0_letBy_7 (by decide) (fun q1 => ?_) (fun q1 => ?_)
  · rw [if_pos q1] at h
    refine X_iload_n F dX0_letBy_32 rfl ?_
    exact X_iret F hr hlk (retI h) dX0_letBy_33
  · rw [if_neg q1] at h
    refine X_iload_n F dX0_letBy_10 rfl ?_
    refine X_bipush F dX0_letBy_11 (v := (8 : Int32)) rfl ?_
    refine X_icmp_ge (tgt := 32) F dX0_letBy_13 (by decide) (fun q2 => ?_) (fun q2 => ?_)
    · rw [if_pos q2] at h
      refine X_iload_n F dX0_letBy_32 rfl ?_
      exact X_iret F hr hlk (retI h) dX0_letBy_33
    · rw [if_neg q2] at h
      refine X_iload_n F dX0_letBy_16 rfl ?_
      refine X_aload_n F dX0_letBy_17 rfl ?_
      refine X_getr F ffRX0_15 dX0_letBy_18 ?_
      refine X_iload_n F dX0_letBy_21 rfl ?_
      obtain ⟨q3, h⟩ := ifS h
      refine X_iald (j := (Int32.toNatClampNeg x2)) (v := (M 36 (Int32.toNatClampNeg x2))) F rfl (inbV q3) rfl rfl dX0_letBy_22 ?_
      refine X_icmp_le (tgt := 32) F dX0_letBy_23 (by decide) (fun q4 => ?_) (fun q4 => ?_)
      · rw [if_pos q4] at h
        refine X_iload_n F dX0_letBy_32 rfl ?_
        exact X_iret F hr hlk (retI h) dX0_letBy_33
      · rw [if_neg q4] at h
        refine X_iinc F dX0_letBy_26 rfl (v := (1 : Int32)) rfl (by decide) rfl ?_
        refine X_goto (tgt := 2) F dX0_letBy_29 (by decide) ?_
        refine X_pick [1, 2, 0] rfl ?_
        exact hrec2 _ _ _ h
set_option maxRecDepth 20000 in
theorem F0_letBy_l2_ok {p : Program} {l : Launch} {e : Env} {s : State} {m : MethodId} {args : Array Value} {below : List Frame} {meth : Method} {c : Code} {G : GG} {D : Nat} {r : Int32 × Mem} (F : FrP shA G p s m args c RX0 cX0_letBy 3) (hr : meth.sig.returnType = (some .int)) (hlk : meth.locks = false) (hD : 1 ≤ D) : ∀ (fu : Nat) (M : Mem) (x1 : Int32) (x2 : Int32), F0_letBy_l2 fu M x1 x2 = some r → XJ shA p l e (rmX D) s m args below meth c 0 0 G 3 (MQ below (QcX shA G ((some (.int r.1), r.2) : Option Value × Mem).1 ((some (.int r.1), r.2) : Option Value × Mem).2) args s 0 0 (AW shA G.2.1)) 2 [(0, .ref 34), (1, .int x1), (2, .int x2)] [] M := by
  intro fu
  induction fu with
  | zero => intro M x1 x2 h; cases h
  | succ fu ih => intro M x1 x2 h; exact F0_letBy_l2_bok F hr hlk hD (fun M x1 x2 => ih M x1 x2) h
set_option maxRecDepth 20000 in
theorem F0_letBy_ok {p : Program} {l : Launch} {e : Env} {s : State} {m : MethodId} {args : Array Value} {below : List Frame} {meth : Method} {c : Code} {G : GG} {D : Nat} {r : Int32 × Mem} (F : FrP shA G p s m args c RX0 cX0_letBy 3) (hr : meth.sig.returnType = (some .int)) (hlk : meth.locks = false) (hD : 1 ≤ D) {M : Mem} {a1 : Int32} (h : F0_letBy M a1 = some r) : XJ shA p l e (rmX D) s m args below meth c 0 0 G 3 (MQ below (QcX shA G ((some (.int r.1), r.2) : Option Value × Mem).1 ((some (.int r.1), r.2) : Option Value × Mem).2) args s 0 0 (AW shA G.2.1)) 0 [(0, .ref 34), (1, .int a1)] [] M := by
  unfold F0_letBy at h
  refine X_iconst F dX0_letBy_0 (v := (0 : Int32)) rfl ?_
  refine X_istore_n F dX0_letBy_1 (by decide) rfl ?_
  refine X_pick [1, 2, 0] rfl ?_
  exact F0_letBy_l2_ok F hr hlk hD FUEL _ _ _ h
set_option maxRecDepth 20000 in
theorem F0_letBy_met {l : Launch} {G : GG} {D : Nat} {r : Int32 × Mem} {M : Mem} {a1 : Int32} (hI : Inj shA G.2.1) (hD : 1 ≤ D) (h : F0_letBy M a1 = some r) : MetX shA l G yX0_letBy cX0_letBy 3 (some .int) D [.ref 34, .int a1] M (some (.int r.1), r.2) :=
  X_met hI (by decide +kernel) (Nat.le_of_ble_eq_true rfl) (fun p e s m args below meth c F hr hlk => F0_letBy_ok F hr hlk hD h)
-- KeepOurPlace$Errands.bits
def F0_bits_l4_b (rec4 : Mem → Int32 → Int32 → Option (Int32 × Mem)) (M : Mem) (x1 : Int32) (x2 : Int32) : Option (Int32 × Mem) :=
    if (M 34 8) ≤ x2 then
      some (x1, M)
    else
      if inb x2 6 = true then
      rec4 M (x1 ||| ((1 : Int32) <<< ((M 38 (Int32.toNatClampNeg x2)) &&& 31))) (x2 + (1 : Int32))
      else none
def F0_bits_l4 : Nat → Mem → Int32 → Int32 → Option (Int32 × Mem)
  | 0, _, _, _ => none
  | fu + 1, M, x1, x2 => F0_bits_l4_b (F0_bits_l4 fu) M x1 x2
def F0_bits (M : Mem) : Option (Int32 × Mem) :=
    F0_bits_l4 FUEL M (0 : Int32) (0 : Int32)
set_option maxRecDepth 20000 in
theorem F0_bits_l4_bok {p : Program} {l : Launch} {e : Env} {s : State} {m : MethodId} {args : Array Value} {below : List Frame} {meth : Method} {c : Code} {G : GG} {D : Nat} {r : Int32 × Mem} {rec4 : Mem → Int32 → Int32 → Option (Int32 × Mem)} (F : FrP shA G p s m args c RX0 cX0_bits 3) (hr : meth.sig.returnType = (some .int)) (hlk : meth.locks = false) (hD : 1 ≤ D) (hrec4 : ∀ (M : Mem) (x1 : Int32) (x2 : Int32), rec4 M x1 x2 = some r → XJ shA p l e (rmX D) s m args below meth c 0 0 G 3 (MQ below (QcX shA G ((some (.int r.1), r.2) : Option Value × Mem).1 ((some (.int r.1), r.2) : Option Value × Mem).2) args s 0 0 (AW shA G.2.1)) 4 [(0, .ref 34), (1, .int x1), (2, .int x2)] [] M) {M : Mem} {x1 : Int32} {x2 : Int32} (h : F0_bits_l4_b rec4 M x1 x2 = some r) : XJ shA p l e (rmX D) s m args below meth c 0 0 G 3 (MQ below (QcX shA G ((some (.int r.1), r.2) : Option Value × Mem).1 ((some (.int r.1), r.2) : Option Value × Mem).2) args s 0 0 (AW shA G.2.1)) 4 [(0, .ref 34), (1, .int x1), (2, .int x2)] [] M := by
  unfold F0_bits_l4_b at h
  refine X_iload_n F dX0_bits_4 rfl ?_
  refine X_aload_n F dX0_bits_5 rfl ?_
  refine X_geti (v := (M 34 8)) F ffRX0_90 dX0_bits_6 rfl ?_
  refine X_icmp_ge (tgt := 29) F dX0_bits_9 (by decide) (fun q1 => ?_) (fun q1 => ?_)
  · rw [if_pos q1] at h
    refine X_iload_n F dX0_bits_29 rfl ?_
    exact X_iret F hr hlk (retI h) dX0_bits_30
  · rw [if_neg q1] at h
    refine X_iload_n F dX0_bits_12 rfl ?_
    refine X_iconst F dX0_bits_13 (v := (1 : Int32)) rfl ?_
    refine X_aload_n F dX0_bits_14 rfl ?_
    refine X_getr F ffRX0_21 dX0_bits_15 ?_
    refine X_iload_n F dX0_bits_18 rfl ?_
    obtain ⟨q2, h⟩ := ifS h
    refine X_iald (j := (Int32.toNatClampNeg x2)) (v := (M 38 (Int32.toNatClampNeg x2))) F rfl (inbV q2) rfl rfl dX0_bits_19 ?_
    refine X_ishl F dX0_bits_20 ?_
    refine X_ior F dX0_bits_21 ?_
    refine X_istore_n F dX0_bits_22 (by decide) rfl ?_
    refine X_iinc F dX0_bits_23 rfl (v := (1 : Int32)) rfl (by decide) rfl ?_
    refine X_goto (tgt := 4) F dX0_bits_26 (by decide) ?_
    refine X_pick [2, 1, 0] rfl ?_
    exact hrec4 _ _ _ h
set_option maxRecDepth 20000 in
theorem F0_bits_l4_ok {p : Program} {l : Launch} {e : Env} {s : State} {m : MethodId} {args : Array Value} {below : List Frame} {meth : Method} {c : Code} {G : GG} {D : Nat} {r : Int32 × Mem} (F : FrP shA G p s m args c RX0 cX0_bits 3) (hr : meth.sig.returnType = (some .int)) (hlk : meth.locks = false) (hD : 1 ≤ D) : ∀ (fu : Nat) (M : Mem) (x1 : Int32) (x2 : Int32), F0_bits_l4 fu M x1 x2 = some r → XJ shA p l e (rmX D) s m args below meth c 0 0 G 3 (MQ below (QcX shA G ((some (.int r.1), r.2) : Option Value × Mem).1 ((some (.int r.1), r.2) : Option Value × Mem).2) args s 0 0 (AW shA G.2.1)) 4 [(0, .ref 34), (1, .int x1), (2, .int x2)] [] M := by
  intro fu
  induction fu with
  | zero => intro M x1 x2 h; cases h
  | succ fu ih => intro M x1 x2 h; exact F0_bits_l4_bok F hr hlk hD (fun M x1 x2 => ih M x1 x2) h
set_option maxRecDepth 20000 in
theorem F0_bits_ok {p : Program} {l : Launch} {e : Env} {s : State} {m : MethodId} {args : Array Value} {below : List Frame} {meth : Method} {c : Code} {G : GG} {D : Nat} {r : Int32 × Mem} (F : FrP shA G p s m args c RX0 cX0_bits 3) (hr : meth.sig.returnType = (some .int)) (hlk : meth.locks = false) (hD : 1 ≤ D) {M : Mem} (h : F0_bits M = some r) : XJ shA p l e (rmX D) s m args below meth c 0 0 G 3 (MQ below (QcX shA G ((some (.int r.1), r.2) : Option Value × Mem).1 ((some (.int r.1), r.2) : Option Value × Mem).2) args s 0 0 (AW shA G.2.1)) 0 [(0, .ref 34)] [] M := by
  unfold F0_bits at h
  refine X_iconst F dX0_bits_0 (v := (0 : Int32)) rfl ?_
  refine X_istore_n F dX0_bits_1 (by decide) rfl ?_
  refine X_iconst F dX0_bits_2 (v := (0 : Int32)) rfl ?_
  refine X_istore_n F dX0_bits_3 (by decide) rfl ?_
  refine X_pick [2, 1, 0] rfl ?_
  exact F0_bits_l4_ok F hr hlk hD FUEL _ _ _ h
set_option maxRecDepth 20000 in
theorem F0_bits_met {l : Launch} {G : GG} {D : Nat} {r : Int32 × Mem} {M : Mem} (hI : Inj shA G.2.1) (hD : 1 ≤ D) (h : F0_bits M = some r) : MetX shA l G yX0_bits cX0_bits 3 (some .int) D [.ref 34] M (some (.int r.1), r.2) :=
  X_met hI (by decide +kernel) (Nat.le_of_ble_eq_true rfl) (fun p e s m args below meth c F hr hlk => F0_bits_ok F hr hlk hD h)
-- KeepOurPlace$Errands.worthOf
def F0_worthOf_j35 (rec4 : Mem → Int32 → Int32 → Int32 → Option (Int32 × Mem)) (M : Mem) (x1 : Int32) (x2 : Int32) (x3 : Int32) : Option (Int32 × Mem) :=
    rec4 M x1 x2 (x3 + (1 : Int32))
def F0_worthOf_l4_b (rec4 : Mem → Int32 → Int32 → Int32 → Option (Int32 × Mem)) (M : Mem) (x1 : Int32) (x2 : Int32) (x3 : Int32) : Option (Int32 × Mem) :=
    if (M 5 3) ≤ x3 then
      some (x2, M)
    else
      if (x1 &&& ((1 : Int32) <<< (x3 &&& 31))) = 0 then
        F0_worthOf_j35 rec4 M x1 x2 x3
      else
        if inb x3 6 = true then
        F0_worthOf_j35 rec4 M x1 (x2 + (M 7 (Int32.toNatClampNeg x3))) x3
        else none
def F0_worthOf_l4 : Nat → Mem → Int32 → Int32 → Int32 → Option (Int32 × Mem)
  | 0, _, _, _, _ => none
  | fu + 1, M, x1, x2, x3 => F0_worthOf_l4_b (F0_worthOf_l4 fu) M x1 x2 x3
def F0_worthOf (M : Mem) (a1 : Int32) : Option (Int32 × Mem) :=
    F0_worthOf_l4 FUEL M a1 (0 : Int32) (0 : Int32)
set_option maxRecDepth 20000 in
theorem F0_worthOf_j35_ok {p : Program} {l : Launch} {e : Env} {s : State} {m : MethodId} {args : Array Value} {below : List Frame} {meth : Method} {c : Code} {G : GG} {D : Nat} {r : Int32 × Mem} {rec4 : Mem → Int32 → Int32 → Int32 → Option (Int32 × Mem)} (F : FrP shA G p s m args c RX0 cX0_worthOf 4) (hr : meth.sig.returnType = (some .int)) (hlk : meth.locks = false) (hD : 1 ≤ D) (hrec4 : ∀ (M : Mem) (x1 : Int32) (x2 : Int32) (x3 : Int32), rec4 M x1 x2 x3 = some r → XJ shA p l e (rmX D) s m args below meth c 0 0 G 4 (MQ below (QcX shA G ((some (.int r.1), r.2) : Option Value × Mem).1 ((some (.int r.1), r.2) : Option Value × Mem).2) args s 0 0 (AW shA G.2.1)) 4 [(0, .ref 34), (1, .int x1), (2, .int x2), (3, .int x3)] [] M) {M : Mem} {x1 : Int32} {x2 : Int32} {x3 : Int32} (h : F0_worthOf_j35 rec4 M x1 x2 x3 = some r) : XJ shA p l e (rmX D) s m args below meth c 0 0 G 4 (MQ below (QcX shA G ((some (.int r.1), r.2) : Option Value × Mem).1 ((some (.int r.1), r.2) : Option Value × Mem).2) args s 0 0 (AW shA G.2.1)) 35 [(0, .ref 34), (1, .int x1), (2, .int x2), (3, .int x3)] [] M := by
  unfold F0_worthOf_j35 at h
  refine X_iinc F dX0_worthOf_35 rfl (v := (1 : Int32)) rfl (by decide) rfl ?_
  refine X_goto (tgt := 4) F dX0_worthOf_38 (by decide) ?_
  refine X_pick [1, 2, 3, 0] rfl ?_
  exact hrec4 _ _ _ _ h
set_option maxRecDepth 20000 in
theorem F0_worthOf_l4_bok {p : Program} {l : Launch} {e : Env} {s : State} {m : MethodId} {args : Array Value} {below : List Frame} {meth : Method} {c : Code} {G : GG} {D : Nat} {r : Int32 × Mem} {rec4 : Mem → Int32 → Int32 → Int32 → Option (Int32 × Mem)} (F : FrP shA G p s m args c RX0 cX0_worthOf 4) (hr : meth.sig.returnType = (some .int)) (hlk : meth.locks = false) (hD : 1 ≤ D) (hrec4 : ∀ (M : Mem) (x1 : Int32) (x2 : Int32) (x3 : Int32), rec4 M x1 x2 x3 = some r → XJ shA p l e (rmX D) s m args below meth c 0 0 G 4 (MQ below (QcX shA G ((some (.int r.1), r.2) : Option Value × Mem).1 ((some (.int r.1), r.2) : Option Value × Mem).2) args s 0 0 (AW shA G.2.1)) 4 [(0, .ref 34), (1, .int x1), (2, .int x2), (3, .int x3)] [] M) {M : Mem} {x1 : Int32} {x2 : Int32} {x3 : Int32} (h : F0_worthOf_l4_b rec4 M x1 x2 x3 = some r) : XJ shA p l e (rmX D) s m args below meth c 0 0 G 4 (MQ below (QcX shA G ((some (.int r.1), r.2) : Option Value × Mem).1 ((some (.int r.1), r.2) : Option Value × Mem).2) args s 0 0 (AW shA G.2.1)) 4 [(0, .ref 34), (1, .int x1), (2, .int x2), (3, .int x3)] [] M := by
  unfold F0_worthOf_l4_b at h
  refine X_iload_n F dX0_worthOf_4 rfl ?_
  refine X_aload_n F dX0_worthOf_5 rfl ?_
  refine X_getr F ffRX0_37 dX0_worthOf_6 ?_
  refine X_geti (v := (M 5 3)) F ffRX0_101 dX0_worthOf_9 rfl ?_
  refine X_icmp_ge (tgt := 41) F dX0_worthOf_12 (by decide) (fun q1 => ?_) (fun q1 => ?_)
  · rw [if_pos q1] at h
    refine X_iload_n F dX0_worthOf_41 rfl ?_
    exact X_iret F hr hlk (retI h) dX0_worthOf_42
  · rw [if_neg q1] at h
    refine X_iload_n F dX0_worthOf_15 rfl ?_
    refine X_iconst F dX0_worthOf_16 (v := (1 : Int32)) rfl ?_
    refine X_iload_n F dX0_worthOf_17 rfl ?_
    refine X_ishl F dX0_worthOf_18 ?_
    refine X_iand F dX0_worthOf_19 ?_
    refine X_if_eq (tgt := 35) F dX0_worthOf_20 (by decide) (fun q2 => ?_) (fun q2 => ?_)
    · rw [if_pos q2] at h
      exact F0_worthOf_j35_ok F hr hlk hD hrec4 h
    · rw [if_neg q2] at h
      refine X_iload_n F dX0_worthOf_23 rfl ?_
      refine X_aload_n F dX0_worthOf_24 rfl ?_
      refine X_getr F ffRX0_37 dX0_worthOf_25 ?_
      refine X_getr F ffRX0_147 dX0_worthOf_28 ?_
      refine X_iload_n F dX0_worthOf_31 rfl ?_
      obtain ⟨q3, h⟩ := ifS h
      refine X_iald (j := (Int32.toNatClampNeg x3)) (v := (M 7 (Int32.toNatClampNeg x3))) F rfl (inbV q3) rfl rfl dX0_worthOf_32 ?_
      refine X_iadd F dX0_worthOf_33 ?_
      refine X_istore_n F dX0_worthOf_34 (by decide) rfl ?_
      refine X_pick [1, 2, 0, 3] rfl ?_
      exact F0_worthOf_j35_ok F hr hlk hD hrec4 h
set_option maxRecDepth 20000 in
theorem F0_worthOf_l4_ok {p : Program} {l : Launch} {e : Env} {s : State} {m : MethodId} {args : Array Value} {below : List Frame} {meth : Method} {c : Code} {G : GG} {D : Nat} {r : Int32 × Mem} (F : FrP shA G p s m args c RX0 cX0_worthOf 4) (hr : meth.sig.returnType = (some .int)) (hlk : meth.locks = false) (hD : 1 ≤ D) : ∀ (fu : Nat) (M : Mem) (x1 : Int32) (x2 : Int32) (x3 : Int32), F0_worthOf_l4 fu M x1 x2 x3 = some r → XJ shA p l e (rmX D) s m args below meth c 0 0 G 4 (MQ below (QcX shA G ((some (.int r.1), r.2) : Option Value × Mem).1 ((some (.int r.1), r.2) : Option Value × Mem).2) args s 0 0 (AW shA G.2.1)) 4 [(0, .ref 34), (1, .int x1), (2, .int x2), (3, .int x3)] [] M := by
  intro fu
  induction fu with
  | zero => intro M x1 x2 x3 h; cases h
  | succ fu ih => intro M x1 x2 x3 h; exact F0_worthOf_l4_bok F hr hlk hD (fun M x1 x2 x3 => ih M x1 x2 x3) h
set_option maxRecDepth 20000 in
theorem F0_worthOf_ok {p : Program} {l : Launch} {e : Env} {s : State} {m : MethodId} {args : Array Value} {below : List Frame} {meth : Method} {c : Code} {G : GG} {D : Nat} {r : Int32 × Mem} (F : FrP shA G p s m args c RX0 cX0_worthOf 4) (hr : meth.sig.returnType = (some .int)) (hlk : meth.locks = false) (hD : 1 ≤ D) {M : Mem} {a1 : Int32} (h : F0_worthOf M a1 = some r) : XJ shA p l e (rmX D) s m args below meth c 0 0 G 4 (MQ below (QcX shA G ((some (.int r.1), r.2) : Option Value × Mem).1 ((some (.int r.1), r.2) : Option Value × Mem).2) args s 0 0 (AW shA G.2.1)) 0 [(0, .ref 34), (1, .int a1)] [] M := by
  unfold F0_worthOf at h
  refine X_iconst F dX0_worthOf_0 (v := (0 : Int32)) rfl ?_
  refine X_istore_n F dX0_worthOf_1 (by decide) rfl ?_
  refine X_iconst F dX0_worthOf_2 (v := (0 : Int32)) rfl ?_
  refine X_istore_n F dX0_worthOf_3 (by decide) rfl ?_
  refine X_pick [2, 3, 1, 0] rfl ?_
  exact F0_worthOf_l4_ok F hr hlk hD FUEL _ _ _ _ h
set_option maxRecDepth 20000 in
theorem F0_worthOf_met {l : Launch} {G : GG} {D : Nat} {r : Int32 × Mem} {M : Mem} {a1 : Int32} (hI : Inj shA G.2.1) (hD : 1 ≤ D) (h : F0_worthOf M a1 = some r) : MetX shA l G yX0_worthOf cX0_worthOf 4 (some .int) D [.ref 34, .int a1] M (some (.int r.1), r.2) :=
  X_met hI (by decide +kernel) (Nat.le_of_ble_eq_true rfl) (fun p e s m args below meth c F hr hlk => F0_worthOf_ok F hr hlk hD h)
-- KeepOurPlace$Errands.worth
def F0_worth (M : Mem) : Option (Int32 × Mem) :=
    Option.bind (F0_bits M) fun r1 =>
    Option.bind (F0_worthOf r1.2 r1.1) fun r3 =>
    some (r3.1, r3.2)
set_option maxRecDepth 20000 in
theorem F0_worth_ok {p : Program} {l : Launch} {e : Env} {s : State} {m : MethodId} {args : Array Value} {below : List Frame} {meth : Method} {c : Code} {G : GG} {D : Nat} {r : Int32 × Mem} (F : FrP shA G p s m args c RX0 cX0_worth 1) (hr : meth.sig.returnType = (some .int)) (hlk : meth.locks = false) (hD : 2 ≤ D) {M : Mem} (h : F0_worth M = some r) : XJ shA p l e (rmX D) s m args below meth c 0 0 G 1 (MQ below (QcX shA G ((some (.int r.1), r.2) : Option Value × Mem).1 ((some (.int r.1), r.2) : Option Value × Mem).2) args s 0 0 (AW shA G.2.1)) 0 [(0, .ref 34)] [] M := by
  unfold F0_worth at h
  refine X_aload_n F dX0_worth_0 rfl ?_
  refine X_aload_n F dX0_worth_1 rfl ?_
  obtain ⟨r1, h2, h⟩ := bndS h
  refine X_callV (ci := 34) (As := []) (rest := [.ref 34]) F fkRX0_108 feX0_bits fvX0_bits ⟨_, _, _, rfl, rfl, rfl⟩ (F0_bits_met (D := D - 1) F.2.2.2.2.2.2.2.1 (by omega) h2) rfl rfl (Nat.le_of_ble_eq_true rfl) (rm_ok (by omega) (by decide)) dX0_worth_2 ?_
  show XJ shA p l e (rmX D) s m args below meth c 0 0 G 1 (MQ below (QcX shA G ((some (.int r.1), r.2) : Option Value × Mem).1 ((some (.int r.1), r.2) : Option Value × Mem).2) args s 0 0 (AW shA G.2.1)) 5 [(0, .ref 34)] [.int r1.1, .ref 34] r1.2
  obtain ⟨r3, h4, h⟩ := bndS h
  refine X_callV (ci := 34) (As := [.int r1.1]) (rest := []) F fkRX0_112 feX0_worthOf fvX0_worthOf ⟨_, _, _, rfl, rfl, rfl⟩ (F0_worthOf_met (D := D - 1) F.2.2.2.2.2.2.2.1 (by omega) h4) rfl rfl (Nat.le_of_ble_eq_true rfl) (rm_ok (by omega) (by decide)) dX0_worth_5 ?_
  show XJ shA p l e (rmX D) s m args below meth c 0 0 G 1 (MQ below (QcX shA G ((some (.int r.1), r.2) : Option Value × Mem).1 ((some (.int r.1), r.2) : Option Value × Mem).2) args s 0 0 (AW shA G.2.1)) 8 [(0, .ref 34)] [.int r3.1] r3.2
  exact X_iret F hr hlk (retI h) dX0_worth_8
set_option maxRecDepth 20000 in
theorem F0_worth_met {l : Launch} {G : GG} {D : Nat} {r : Int32 × Mem} {M : Mem} (hI : Inj shA G.2.1) (hD : 2 ≤ D) (h : F0_worth M = some r) : MetX shA l G yX0_worth cX0_worth 1 (some .int) D [.ref 34] M (some (.int r.1), r.2) :=
  X_met hI (by decide +kernel) (Nat.le_of_ble_eq_true rfl) (fun p e s m args below meth c F hr hlk => F0_worth_ok F hr hlk hD h)
-- KeepOurPlace$Errands.loss
def F0_loss (M : Mem) (a1 : Int32) : Option (Int32 × Mem) :=
    Option.bind (F0_letBy M a1) fun r1 =>
    if inb r1.1 9 = true then
    some (((r1.2 37 (Int32.toNatClampNeg r1.1)) + (jmax (0 : Int32) (a1 - (r1.2 36 (Int32.toNatClampNeg r1.1))))), r1.2)
    else none
set_option maxRecDepth 20000 in
theorem F0_loss_ok {p : Program} {l : Launch} {e : Env} {s : State} {m : MethodId} {args : Array Value} {below : List Frame} {meth : Method} {c : Code} {G : GG} {D : Nat} {r : Int32 × Mem} (F : FrP shA G p s m args c RX0 cX0_loss 3) (hr : meth.sig.returnType = (some .int)) (hlk : meth.locks = false) (hD : 2 ≤ D) {M : Mem} {a1 : Int32} (h : F0_loss M a1 = some r) : XJ shA p l e (rmX D) s m args below meth c 0 0 G 3 (MQ below (QcX shA G ((some (.int r.1), r.2) : Option Value × Mem).1 ((some (.int r.1), r.2) : Option Value × Mem).2) args s 0 0 (AW shA G.2.1)) 0 [(0, .ref 34), (1, .int a1)] [] M := by
  unfold F0_loss at h
  refine X_aload_n F dX0_loss_0 rfl ?_
  refine X_iload_n F dX0_loss_1 rfl ?_
  obtain ⟨r1, h2, h⟩ := bndS h
  refine X_callV (ci := 34) (As := [.int a1]) (rest := []) F fkRX0_82 feX0_letBy fvX0_letBy ⟨_, _, _, rfl, rfl, rfl⟩ (F0_letBy_met (D := D - 1) F.2.2.2.2.2.2.2.1 (by omega) h2) rfl rfl (Nat.le_of_ble_eq_true rfl) (rm_ok (by omega) (by decide)) dX0_loss_2 ?_
  show XJ shA p l e (rmX D) s m args below meth c 0 0 G 3 (MQ below (QcX shA G ((some (.int r.1), r.2) : Option Value × Mem).1 ((some (.int r.1), r.2) : Option Value × Mem).2) args s 0 0 (AW shA G.2.1)) 5 [(0, .ref 34), (1, .int a1)] [.int r1.1] r1.2
  refine X_istore_n F dX0_loss_5 (by decide) rfl ?_
  refine X_aload_n F dX0_loss_6 rfl ?_
  refine X_getr F ffRX0_18 dX0_loss_7 ?_
  refine X_iload_n F dX0_loss_10 rfl ?_
  obtain ⟨q3, h⟩ := ifS h
  refine X_iald (j := (Int32.toNatClampNeg r1.1)) (v := (r1.2 37 (Int32.toNatClampNeg r1.1))) F rfl (inbV q3) rfl rfl dX0_loss_11 ?_
  refine X_iconst F dX0_loss_12 (v := (0 : Int32)) rfl ?_
  refine X_iload_n F dX0_loss_13 rfl ?_
  refine X_aload_n F dX0_loss_14 rfl ?_
  refine X_getr F ffRX0_15 dX0_loss_15 ?_
  refine X_iload_n F dX0_loss_18 rfl ?_
  refine X_iald (j := (Int32.toNatClampNeg r1.1)) (v := (r1.2 36 (Int32.toNatClampNeg r1.1))) F rfl (inbV q3) rfl rfl dX0_loss_19 ?_
  refine X_isub F dX0_loss_20 ?_
  refine X_mmax F fmRX0_60 math_smax math_i math_cmax (rm_1 (by omega)) (rm_w (n := 14) (by omega) (Nat.le_of_ble_eq_true rfl) (by decide)) dX0_loss_21 ?_
  refine X_iadd F dX0_loss_24 ?_
  exact X_iret F hr hlk (retI h) dX0_loss_25
set_option maxRecDepth 20000 in
theorem F0_loss_met {l : Launch} {G : GG} {D : Nat} {r : Int32 × Mem} {M : Mem} {a1 : Int32} (hI : Inj shA G.2.1) (hD : 2 ≤ D) (h : F0_loss M a1 = some r) : MetX shA l G yX0_loss cX0_loss 3 (some .int) D [.ref 34, .int a1] M (some (.int r.1), r.2) :=
  X_met hI (by decide +kernel) (Nat.le_of_ble_eq_true rfl) (fun p e s m args below meth c F hr hlk => F0_loss_ok F hr hlk hD h)
-- KeepOurPlace$Errands.gain
def F0_gain (M : Mem) : Option (Int32 × Mem) :=
    Option.bind (F0_worth M) fun r1 =>
    Option.bind (F0_backWithout r1.2 (-1 : Int32)) fun r3 =>
    Option.bind (F0_loss r3.2 r3.1) fun r5 =>
    some ((r1.1 - r5.1), r5.2)
set_option maxRecDepth 20000 in
theorem F0_gain_ok {p : Program} {l : Launch} {e : Env} {s : State} {m : MethodId} {args : Array Value} {below : List Frame} {meth : Method} {c : Code} {G : GG} {D : Nat} {r : Int32 × Mem} (F : FrP shA G p s m args c RX0 cX0_gain 1) (hr : meth.sig.returnType = (some .int)) (hlk : meth.locks = false) (hD : 6 ≤ D) {M : Mem} (h : F0_gain M = some r) : XJ shA p l e (rmX D) s m args below meth c 0 0 G 1 (MQ below (QcX shA G ((some (.int r.1), r.2) : Option Value × Mem).1 ((some (.int r.1), r.2) : Option Value × Mem).2) args s 0 0 (AW shA G.2.1)) 0 [(0, .ref 34)] [] M := by
  unfold F0_gain at h
  refine X_aload_n F dX0_gain_0 rfl ?_
  obtain ⟨r1, h2, h⟩ := bndS h
  refine X_callV (ci := 34) (As := []) (rest := []) F fkRX0_115 feX0_worth fvX0_worth ⟨_, _, _, rfl, rfl, rfl⟩ (F0_worth_met (D := D - 1) F.2.2.2.2.2.2.2.1 (by omega) h2) rfl rfl (Nat.le_of_ble_eq_true rfl) (rm_ok (by omega) (by decide)) dX0_gain_1 ?_
  show XJ shA p l e (rmX D) s m args below meth c 0 0 G 1 (MQ below (QcX shA G ((some (.int r.1), r.2) : Option Value × Mem).1 ((some (.int r.1), r.2) : Option Value × Mem).2) args s 0 0 (AW shA G.2.1)) 4 [(0, .ref 34)] [.int r1.1] r1.2
  refine X_aload_n F dX0_gain_4 rfl ?_
  refine X_aload_n F dX0_gain_5 rfl ?_
  refine X_iconst F dX0_gain_6 (v := (-1 : Int32)) rfl ?_
  obtain ⟨r3, h4, h⟩ := bndS h
  refine X_callV (ci := 34) (As := [.int (-1 : Int32)]) (rest := [.ref 34, .int r1.1]) F fkRX0_118 feX0_backWithout fvX0_backWithout ⟨_, _, _, rfl, rfl, rfl⟩ (F0_backWithout_met (D := D - 1) F.2.2.2.2.2.2.2.1 (by omega) h4) rfl rfl (Nat.le_of_ble_eq_true rfl) (rm_ok (by omega) (by decide)) dX0_gain_7 ?_
  show XJ shA p l e (rmX D) s m args below meth c 0 0 G 1 (MQ below (QcX shA G ((some (.int r.1), r.2) : Option Value × Mem).1 ((some (.int r.1), r.2) : Option Value × Mem).2) args s 0 0 (AW shA G.2.1)) 10 [(0, .ref 34)] [.int r3.1, .ref 34, .int r1.1] r3.2
  obtain ⟨r5, h6, h⟩ := bndS h
  refine X_callV (ci := 34) (As := [.int r3.1]) (rest := [.int r1.1]) F fkRX0_121 feX0_loss fvX0_loss ⟨_, _, _, rfl, rfl, rfl⟩ (F0_loss_met (D := D - 1) F.2.2.2.2.2.2.2.1 (by omega) h6) rfl rfl (Nat.le_of_ble_eq_true rfl) (rm_ok (by omega) (by decide)) dX0_gain_10 ?_
  show XJ shA p l e (rmX D) s m args below meth c 0 0 G 1 (MQ below (QcX shA G ((some (.int r.1), r.2) : Option Value × Mem).1 ((some (.int r.1), r.2) : Option Value × Mem).2) args s 0 0 (AW shA G.2.1)) 13 [(0, .ref 34)] [.int r5.1, .int r1.1] r5.2
  refine X_isub F dX0_gain_13 ?_
  exact X_iret F hr hlk (retI h) dX0_gain_14
set_option maxRecDepth 20000 in
theorem F0_gain_met {l : Launch} {G : GG} {D : Nat} {r : Int32 × Mem} {M : Mem} (hI : Inj shA G.2.1) (hD : 6 ≤ D) (h : F0_gain M = some r) : MetX shA l G yX0_gain cX0_gain 1 (some .int) D [.ref 34] M (some (.int r.1), r.2) :=
  X_met hI (by decide +kernel) (Nat.le_of_ble_eq_true rfl) (fun p e s m args below meth c F hr hlk => F0_gain_ok F hr hlk hD h)
-- KeepOurPlace$Errands.nearestOf
def F0_nearestOf_j68 (rec5 : Mem → Int32 → Int32 → Int32 → Int32 → Option (Int32 × Mem)) (M : Mem) (x1 : Int32) (x2 : Int32) (x3 : Int32) (x4 : Int32) : Option (Int32 × Mem) :=
    rec5 M x1 x2 x3 (x4 + (1 : Int32))
def F0_nearestOf_j65 (rec5 : Mem → Int32 → Int32 → Int32 → Int32 → Option (Int32 × Mem)) (M : Mem) (x1 : Int32) (x2 : Int32) (x4 : Int32) : Option (Int32 × Mem) :=
    F0_nearestOf_j68 rec5 M x1 x2 x4 x4
def F0_nearestOf_j31 (rec5 : Mem → Int32 → Int32 → Int32 → Int32 → Option (Int32 × Mem)) (M : Mem) (x1 : Int32) (x2 : Int32) (x3 : Int32) (x4 : Int32) (y0 : Int32) : Option (Int32 × Mem) :=
    if y0 = 0 then
      F0_nearestOf_j68 rec5 M x1 x2 x3 x4
    else
      if x3 = (-1 : Int32) then
        F0_nearestOf_j65 rec5 M x1 x2 x4
      else
        Option.bind (F6_steps M x1 x4) fun r5 =>
        Option.bind (F6_steps r5.2 x1 x3) fun r7 =>
        if r7.1 ≤ r5.1 then
          F0_nearestOf_j68 rec5 r7.2 x1 x2 x3 x4
        else
          F0_nearestOf_j65 rec5 r7.2 x1 x2 x4
def F0_nearestOf_l5_b (rec5 : Mem → Int32 → Int32 → Int32 → Int32 → Option (Int32 × Mem)) (M : Mem) (x1 : Int32) (x2 : Int32) (x3 : Int32) (x4 : Int32) : Option (Int32 × Mem) :=
    if (M 5 3) ≤ x4 then
      some (x3, M)
    else
      if ¬ (x2 &&& ((1 : Int32) <<< (x4 &&& 31))) = 0 then
        F0_nearestOf_j31 rec5 M x1 x2 x3 x4 (0 : Int32)
      else
        F0_nearestOf_j31 rec5 M x1 x2 x3 x4 (1 : Int32)
def F0_nearestOf_l5 : Nat → Mem → Int32 → Int32 → Int32 → Int32 → Option (Int32 × Mem)
  | 0, _, _, _, _, _ => none
  | fu + 1, M, x1, x2, x3, x4 => F0_nearestOf_l5_b (F0_nearestOf_l5 fu) M x1 x2 x3 x4
def F0_nearestOf (M : Mem) (a1 : Int32) (a2 : Int32) : Option (Int32 × Mem) :=
    F0_nearestOf_l5 FUEL M a1 a2 (-1 : Int32) (0 : Int32)
set_option maxRecDepth 20000 in
theorem F0_nearestOf_j68_ok {p : Program} {l : Launch} {e : Env} {s : State} {m : MethodId} {args : Array Value} {below : List Frame} {meth : Method} {c : Code} {G : GG} {D : Nat} {r : Int32 × Mem} {rec5 : Mem → Int32 → Int32 → Int32 → Int32 → Option (Int32 × Mem)} (F : FrP shA G p s m args c RX0 cX0_nearestOf 6) (hr : meth.sig.returnType = (some .int)) (hlk : meth.locks = false) (hD : 4 ≤ D) (hrec5 : ∀ (M : Mem) (x1 : Int32) (x2 : Int32) (x3 : Int32) (x4 : Int32), rec5 M x1 x2 x3 x4 = some r → XJ shA p l e (rmX D) s m args below meth c 0 0 G 6 (MQ below (QcX shA G ((some (.int r.1), r.2) : Option Value × Mem).1 ((some (.int r.1), r.2) : Option Value × Mem).2) args s 0 0 (AW shA G.2.1)) 5 [(0, .ref 34), (1, .int x1), (2, .int x2), (3, .int x3), (4, .int x4)] [] M) {M : Mem} {x1 : Int32} {x2 : Int32} {x3 : Int32} {x4 : Int32} (h : F0_nearestOf_j68 rec5 M x1 x2 x3 x4 = some r) : XJ shA p l e (rmX D) s m args below meth c 0 0 G 6 (MQ below (QcX shA G ((some (.int r.1), r.2) : Option Value × Mem).1 ((some (.int r.1), r.2) : Option Value × Mem).2) args s 0 0 (AW shA G.2.1)) 68 [(0, .ref 34), (1, .int x1), (2, .int x2), (3, .int x3), (4, .int x4)] [] M := by
  unfold F0_nearestOf_j68 at h
  refine X_iinc F dX0_nearestOf_68 rfl (v := (1 : Int32)) rfl (by decide) rfl ?_
  refine X_goto (tgt := 5) F dX0_nearestOf_71 (by decide) ?_
  refine X_pick [1, 2, 3, 4, 0] rfl ?_
  exact hrec5 _ _ _ _ _ h
set_option maxRecDepth 20000 in
theorem F0_nearestOf_j65_ok {p : Program} {l : Launch} {e : Env} {s : State} {m : MethodId} {args : Array Value} {below : List Frame} {meth : Method} {c : Code} {G : GG} {D : Nat} {r : Int32 × Mem} {rec5 : Mem → Int32 → Int32 → Int32 → Int32 → Option (Int32 × Mem)} (F : FrP shA G p s m args c RX0 cX0_nearestOf 6) (hr : meth.sig.returnType = (some .int)) (hlk : meth.locks = false) (hD : 4 ≤ D) (hrec5 : ∀ (M : Mem) (x1 : Int32) (x2 : Int32) (x3 : Int32) (x4 : Int32), rec5 M x1 x2 x3 x4 = some r → XJ shA p l e (rmX D) s m args below meth c 0 0 G 6 (MQ below (QcX shA G ((some (.int r.1), r.2) : Option Value × Mem).1 ((some (.int r.1), r.2) : Option Value × Mem).2) args s 0 0 (AW shA G.2.1)) 5 [(0, .ref 34), (1, .int x1), (2, .int x2), (3, .int x3), (4, .int x4)] [] M) {M : Mem} {x1 : Int32} {x2 : Int32} {x4 : Int32} (h : F0_nearestOf_j65 rec5 M x1 x2 x4 = some r) : XJ shA p l e (rmX D) s m args below meth c 0 0 G 6 (MQ below (QcX shA G ((some (.int r.1), r.2) : Option Value × Mem).1 ((some (.int r.1), r.2) : Option Value × Mem).2) args s 0 0 (AW shA G.2.1)) 65 [(0, .ref 34), (1, .int x1), (2, .int x2), (4, .int x4)] [] M := by
  unfold F0_nearestOf_j65 at h
  refine X_iload F dX0_nearestOf_65 rfl ?_
  refine X_istore_n F dX0_nearestOf_67 (by decide) rfl ?_
  refine X_pick [1, 2, 3, 0, 4] rfl ?_
  exact F0_nearestOf_j68_ok F hr hlk hD hrec5 h
set_option maxRecDepth 20000 in
theorem F0_nearestOf_j31_ok {p : Program} {l : Launch} {e : Env} {s : State} {m : MethodId} {args : Array Value} {below : List Frame} {meth : Method} {c : Code} {G : GG} {D : Nat} {r : Int32 × Mem} {rec5 : Mem → Int32 → Int32 → Int32 → Int32 → Option (Int32 × Mem)} (F : FrP shA G p s m args c RX0 cX0_nearestOf 6) (hr : meth.sig.returnType = (some .int)) (hlk : meth.locks = false) (hD : 4 ≤ D) (hrec5 : ∀ (M : Mem) (x1 : Int32) (x2 : Int32) (x3 : Int32) (x4 : Int32), rec5 M x1 x2 x3 x4 = some r → XJ shA p l e (rmX D) s m args below meth c 0 0 G 6 (MQ below (QcX shA G ((some (.int r.1), r.2) : Option Value × Mem).1 ((some (.int r.1), r.2) : Option Value × Mem).2) args s 0 0 (AW shA G.2.1)) 5 [(0, .ref 34), (1, .int x1), (2, .int x2), (3, .int x3), (4, .int x4)] [] M) {M : Mem} {x1 : Int32} {x2 : Int32} {x3 : Int32} {x4 : Int32} {y0 : Int32} (h : F0_nearestOf_j31 rec5 M x1 x2 x3 x4 y0 = some r) : XJ shA p l e (rmX D) s m args below meth c 0 0 G 6 (MQ below (QcX shA G ((some (.int r.1), r.2) : Option Value × Mem).1 ((some (.int r.1), r.2) : Option Value × Mem).2) args s 0 0 (AW shA G.2.1)) 31 [(0, .ref 34), (1, .int x1), (2, .int x2), (3, .int x3), (4, .int x4)] [.int y0] M := by
  unfold F0_nearestOf_j31 at h
  refine X_istore F dX0_nearestOf_31 (by decide) rfl ?_
  refine X_iload F dX0_nearestOf_33 rfl ?_
  refine X_if_eq (tgt := 68) F dX0_nearestOf_35 (by decide) (fun q3 => ?_) (fun q3 => ?_)
  · rw [if_pos q3] at h
    refine X_pick [1, 2, 3, 4, 5] rfl ?_
    exact F0_nearestOf_j68_ok F hr hlk hD hrec5 h
  · rw [if_neg q3] at h
    refine X_iload_n F dX0_nearestOf_38 rfl ?_
    refine X_iconst F dX0_nearestOf_39 (v := (-1 : Int32)) rfl ?_
    refine X_icmp_eq (tgt := 65) F dX0_nearestOf_40 (by decide) (fun q4 => ?_) (fun q4 => ?_)
    · rw [if_pos q4] at h
      refine X_pick [1, 2, 3, 5] rfl ?_
      exact F0_nearestOf_j65_ok F hr hlk hD hrec5 h
    · rw [if_neg q4] at h
      refine X_aload_n F dX0_nearestOf_43 rfl ?_
      refine X_getr F ffRX0_37 dX0_nearestOf_44 ?_
      refine X_iload_n F dX0_nearestOf_47 rfl ?_
      refine X_iload F dX0_nearestOf_48 rfl ?_
      obtain ⟨r5, h6, h⟩ := bndS h
      refine X_callV (ci := 5) (As := [.int x1, .int x4]) (rest := []) F fkRX0_85 feX6_steps fvX6_steps ⟨_, _, _, rfl, rfl, rfl⟩ (F6_steps_met (D := D - 1) F.2.2.2.2.2.2.2.1 (by omega) h6) rfl rfl (Nat.le_of_ble_eq_true rfl) (rm_ok (by omega) (by decide)) dX0_nearestOf_50 ?_
      show XJ shA p l e (rmX D) s m args below meth c 0 0 G 6 (MQ below (QcX shA G ((some (.int r.1), r.2) : Option Value × Mem).1 ((some (.int r.1), r.2) : Option Value × Mem).2) args s 0 0 (AW shA G.2.1)) 53 [(5, .int y0), (0, .ref 34), (1, .int x1), (2, .int x2), (3, .int x3), (4, .int x4)] [.int r5.1] r5.2
      refine X_aload_n F dX0_nearestOf_53 rfl ?_
      refine X_getr F ffRX0_37 dX0_nearestOf_54 ?_
      refine X_iload_n F dX0_nearestOf_57 rfl ?_
      refine X_iload_n F dX0_nearestOf_58 rfl ?_
      obtain ⟨r7, h8, h⟩ := bndS h
      refine X_callV (ci := 5) (As := [.int x1, .int x3]) (rest := [.int r5.1]) F fkRX0_85 feX6_steps fvX6_steps ⟨_, _, _, rfl, rfl, rfl⟩ (F6_steps_met (D := D - 1) F.2.2.2.2.2.2.2.1 (by omega) h8) rfl rfl (Nat.le_of_ble_eq_true rfl) (rm_ok (by omega) (by decide)) dX0_nearestOf_59 ?_
      show XJ shA p l e (rmX D) s m args below meth c 0 0 G 6 (MQ below (QcX shA G ((some (.int r.1), r.2) : Option Value × Mem).1 ((some (.int r.1), r.2) : Option Value × Mem).2) args s 0 0 (AW shA G.2.1)) 62 [(5, .int y0), (0, .ref 34), (1, .int x1), (2, .int x2), (3, .int x3), (4, .int x4)] [.int r7.1, .int r5.1] r7.2
      refine X_icmp_ge (tgt := 68) F dX0_nearestOf_62 (by decide) (fun q9 => ?_) (fun q9 => ?_)
      · rw [if_pos q9] at h
        refine X_pick [1, 2, 3, 4, 5] rfl ?_
        exact F0_nearestOf_j68_ok F hr hlk hD hrec5 h
      · rw [if_neg q9] at h
        refine X_pick [1, 2, 3, 5] rfl ?_
        exact F0_nearestOf_j65_ok F hr hlk hD hrec5 h
set_option maxRecDepth 20000 in
theorem F0_nearestOf_l5_bok {p : Program} {l : Launch} {e : Env} {s : State} {m : MethodId} {args : Array Value} {below : List Frame} {meth : Method} {c : Code} {G : GG} {D : Nat} {r : Int32 × Mem} {rec5 : Mem → Int32 → Int32 → Int32 → Int32 → Option (Int32 × Mem)} (F : FrP shA G p s m args c RX0 cX0_nearestOf 6) (hr : meth.sig.returnType = (some .int)) (hlk : meth.locks = false) (hD : 4 ≤ D) (hrec5 : ∀ (M : Mem) (x1 : Int32) (x2 : Int32) (x3 : Int32) (x4 : Int32), rec5 M x1 x2 x3 x4 = some r → XJ shA p l e (rmX D) s m args below meth c 0 0 G 6 (MQ below (QcX shA G ((some (.int r.1), r.2) : Option Value × Mem).1 ((some (.int r.1), r.2) : Option Value × Mem).2) args s 0 0 (AW shA G.2.1)) 5 [(0, .ref 34), (1, .int x1), (2, .int x2), (3, .int x3), (4, .int x4)] [] M) {M : Mem} {x1 : Int32} {x2 : Int32} {x3 : Int32} {x4 : Int32} (h : F0_nearestOf_l5_b rec5 M x1 x2 x3 x4 = some r) : XJ shA p l e (rmX D) s m args below meth c 0 0 G 6 (MQ below (QcX shA G ((some (.int r.1), r.2) : Option Value × Mem).1 ((some (.int r.1), r.2) : Option Value × Mem).2) args s 0 0 (AW shA G.2.1)) 5 [(0, .ref 34), (1, .int x1), (2, .int x2), (3, .int x3), (4, .int x4)] [] M := by
  unfold F0_nearestOf_l5_b at h
  refine X_iload F dX0_nearestOf_5 rfl ?_
  refine X_aload_n F dX0_nearestOf_7 rfl ?_
  refine X_getr F ffRX0_37 dX0_nearestOf_8 ?_
  refine X_geti (v := (M 5 3)) F ffRX0_101 dX0_nearestOf_11 rfl ?_
  refine X_icmp_ge (tgt := 74) F dX0_nearestOf_14 (by decide) (fun q1 => ?_) (fun q1 => ?_)
  · rw [if_pos q1] at h
    refine X_iload_n F dX0_nearestOf_74 rfl ?_
    exact X_iret F hr hlk (retI h) dX0_nearestOf_75
  · rw [if_neg q1] at h
    refine X_iload_n F dX0_nearestOf_17 rfl ?_
    refine X_iconst F dX0_nearestOf_18 (v := (1 : Int32)) rfl ?_
    refine X_iload F dX0_nearestOf_19 rfl ?_
    refine X_ishl F dX0_nearestOf_21 ?_
    refine X_iand F dX0_nearestOf_22 ?_
    refine X_if_ne (tgt := 30) F dX0_nearestOf_23 (by decide) (fun q2 => ?_) (fun q2 => ?_)
    · rw [if_pos q2] at h
      refine X_iconst F dX0_nearestOf_30 (v := (0 : Int32)) rfl ?_
      exact F0_nearestOf_j31_ok F hr hlk hD hrec5 h
    · rw [if_neg (fun z => z q2)] at h
      refine X_iconst F dX0_nearestOf_26 (v := (1 : Int32)) rfl ?_
      refine X_goto (tgt := 31) F dX0_nearestOf_27 (by decide) ?_
      exact F0_nearestOf_j31_ok F hr hlk hD hrec5 h
set_option maxRecDepth 20000 in
theorem F0_nearestOf_l5_ok {p : Program} {l : Launch} {e : Env} {s : State} {m : MethodId} {args : Array Value} {below : List Frame} {meth : Method} {c : Code} {G : GG} {D : Nat} {r : Int32 × Mem} (F : FrP shA G p s m args c RX0 cX0_nearestOf 6) (hr : meth.sig.returnType = (some .int)) (hlk : meth.locks = false) (hD : 4 ≤ D) : ∀ (fu : Nat) (M : Mem) (x1 : Int32) (x2 : Int32) (x3 : Int32) (x4 : Int32), F0_nearestOf_l5 fu M x1 x2 x3 x4 = some r → XJ shA p l e (rmX D) s m args below meth c 0 0 G 6 (MQ below (QcX shA G ((some (.int r.1), r.2) : Option Value × Mem).1 ((some (.int r.1), r.2) : Option Value × Mem).2) args s 0 0 (AW shA G.2.1)) 5 [(0, .ref 34), (1, .int x1), (2, .int x2), (3, .int x3), (4, .int x4)] [] M := by
  intro fu
  induction fu with
  | zero => intro M x1 x2 x3 x4 h; cases h
  | succ fu ih => intro M x1 x2 x3 x4 h; exact F0_nearestOf_l5_bok F hr hlk hD (fun M x1 x2 x3 x4 => ih M x1 x2 x3 x4) h
set_option maxRecDepth 20000 in
theorem F0_nearestOf_ok {p : Program} {l : Launch} {e : Env} {s : State} {m : MethodId} {args : Array Value} {below : List Frame} {meth : Method} {c : Code} {G : GG} {D : Nat} {r : Int32 × Mem} (F : FrP shA G p s m args c RX0 cX0_nearestOf 6) (hr : meth.sig.returnType = (some .int)) (hlk : meth.locks = false) (hD : 4 ≤ D) {M : Mem} {a1 : Int32} {a2 : Int32} (h : F0_nearestOf M a1 a2 = some r) : XJ shA p l e (rmX D) s m args below meth c 0 0 G 6 (MQ below (QcX shA G ((some (.int r.1), r.2) : Option Value × Mem).1 ((some (.int r.1), r.2) : Option Value × Mem).2) args s 0 0 (AW shA G.2.1)) 0 [(0, .ref 34), (1, .int a1), (2, .int a2)] [] M := by
  unfold F0_nearestOf at h
  refine X_iconst F dX0_nearestOf_0 (v := (-1 : Int32)) rfl ?_
  refine X_istore_n F dX0_nearestOf_1 (by decide) rfl ?_
  refine X_iconst F dX0_nearestOf_2 (v := (0 : Int32)) rfl ?_
  refine X_istore F dX0_nearestOf_3 (by decide) rfl ?_
  refine X_pick [2, 3, 4, 1, 0] rfl ?_
  exact F0_nearestOf_l5_ok F hr hlk hD FUEL _ _ _ _ _ h
set_option maxRecDepth 20000 in
theorem F0_nearestOf_met {l : Launch} {G : GG} {D : Nat} {r : Int32 × Mem} {M : Mem} {a1 : Int32} {a2 : Int32} (hI : Inj shA G.2.1) (hD : 4 ≤ D) (h : F0_nearestOf M a1 a2 = some r) : MetX shA l G yX0_nearestOf cX0_nearestOf 6 (some .int) D [.ref 34, .int a1, .int a2] M (some (.int r.1), r.2) :=
  X_met hI (by decide +kernel) (Nat.le_of_ble_eq_true rfl) (fun p e s m args below meth c F hr hlk => F0_nearestOf_ok F hr hlk hD h)
-- KeepOurPlace$Errands.takeNearest
def F0_takeNearest_l14_b (rec14 : Mem → Int32 → Int32 → Int32 → Int32 → Option (Int32 × Mem)) (M : Mem) (x1 : Int32) (x2 : Int32) (x3 : Int32) (x4 : Int32) : Option (Int32 × Mem) :=
    if (M 5 3) ≤ x4 then
      some ((0 : Int32), M)
    else
      Option.bind (F0_nearestOf M x1 x3) fun r2 =>
      if ¬ r2.1 = (-1 : Int32) then
        Option.bind (F0_leg r2.2 x1 r2.1 (r2.2 34 8)) fun r5 =>
        Option.bind (F0_leg r5.2 r2.1 (-1 : Int32) ((r5.2 34 8) + (1 : Int32))) fun r7 =>
        if ((x2 + r5.1) + r7.1) ≤ (r7.2 36 0) then
          Option.bind (F0_goTo r7.2 r2.1) fun r10 =>
          rec14 r10.2 r2.1 (x2 + r5.1) (x3 ||| ((1 : Int32) <<< (r2.1 &&& 31))) (x4 + (1 : Int32))
        else
          some ((0 : Int32), r7.2)
      else
        some ((0 : Int32), r2.2)
def F0_takeNearest_l14 : Nat → Mem → Int32 → Int32 → Int32 → Int32 → Option (Int32 × Mem)
  | 0, _, _, _, _, _ => none
  | fu + 1, M, x1, x2, x3, x4 => F0_takeNearest_l14_b (F0_takeNearest_l14 fu) M x1 x2 x3 x4
def F0_takeNearest (M : Mem) : Option (Int32 × Mem) :=
    F0_takeNearest_l14 FUEL (up2 M 34 8 (0 : Int32)) (-1 : Int32) (0 : Int32) (0 : Int32) (0 : Int32)
set_option maxRecDepth 20000 in
theorem F0_takeNearest_l14_bok {p : Program} {l : Launch} {e : Env} {s : State} {m : MethodId} {args : Array Value} {below : List Frame} {meth : Method} {c : Code} {G : GG} {D : Nat} {r : Int32 × Mem} {rec14 : Mem → Int32 → Int32 → Int32 → Int32 → Option (Int32 × Mem)} (F : FrP shA G p s m args c RX0 cX0_takeNearest 6) (hr : meth.sig.returnType = none) (hlk : meth.locks = false) (hD : 5 ≤ D) (hrec14 : ∀ (M : Mem) (x1 : Int32) (x2 : Int32) (x3 : Int32) (x4 : Int32), rec14 M x1 x2 x3 x4 = some r → XJ shA p l e (rmX D) s m args below meth c 0 0 G 6 (MQ below (QcX shA G ((none, r.2) : Option Value × Mem).1 ((none, r.2) : Option Value × Mem).2) args s 0 0 (AW shA G.2.1)) 14 [(0, .ref 34), (1, .int x1), (2, .int x2), (3, .int x3), (4, .int x4)] [] M) {M : Mem} {x1 : Int32} {x2 : Int32} {x3 : Int32} {x4 : Int32} (h : F0_takeNearest_l14_b rec14 M x1 x2 x3 x4 = some r) : XJ shA p l e (rmX D) s m args below meth c 0 0 G 6 (MQ below (QcX shA G ((none, r.2) : Option Value × Mem).1 ((none, r.2) : Option Value × Mem).2) args s 0 0 (AW shA G.2.1)) 14 [(0, .ref 34), (1, .int x1), (2, .int x2), (3, .int x3), (4, .int x4)] [] M := by
  unfold F0_takeNearest_l14_b at h
  refine X_iload F dX0_takeNearest_14 rfl ?_
  refine X_aload_n F dX0_takeNearest_16 rfl ?_
  refine X_getr F ffRX0_37 dX0_takeNearest_17 ?_
  refine X_geti (v := (M 5 3)) F ffRX0_101 dX0_takeNearest_20 rfl ?_
  refine X_icmp_ge (tgt := 102) F dX0_takeNearest_23 (by decide) (fun q1 => ?_) (fun q1 => ?_)
  · rw [if_pos q1] at h
    exact X_vret F hr hlk (retV h) dX0_takeNearest_102
  · rw [if_neg q1] at h
    refine X_aload_n F dX0_takeNearest_26 rfl ?_
    refine X_iload_n F dX0_takeNearest_27 rfl ?_
    refine X_iload_n F dX0_takeNearest_28 rfl ?_
    obtain ⟨r2, h3, h⟩ := bndS h
    refine X_callV (ci := 34) (As := [.int x1, .int x3]) (rest := []) F fkRX0_102 feX0_nearestOf fvX0_nearestOf ⟨_, _, _, rfl, rfl, rfl⟩ (F0_nearestOf_met (D := D - 1) F.2.2.2.2.2.2.2.1 (by omega) h3) rfl rfl (Nat.le_of_ble_eq_true rfl) (rm_ok (by omega) (by decide)) dX0_takeNearest_29 ?_
    show XJ shA p l e (rmX D) s m args below meth c 0 0 G 6 (MQ below (QcX shA G ((none, r.2) : Option Value × Mem).1 ((none, r.2) : Option Value × Mem).2) args s 0 0 (AW shA G.2.1)) 32 [(0, .ref 34), (1, .int x1), (2, .int x2), (3, .int x3), (4, .int x4)] [.int r2.1] r2.2
    refine X_istore F dX0_takeNearest_32 (by decide) rfl ?_
    refine X_iload F dX0_takeNearest_34 rfl ?_
    refine X_iconst F dX0_takeNearest_36 (v := (-1 : Int32)) rfl ?_
    refine X_icmp_ne (tgt := 41) F dX0_takeNearest_37 (by decide) (fun q4 => ?_) (fun q4 => ?_)
    · rw [if_pos q4] at h
      refine X_iload_n F dX0_takeNearest_41 rfl ?_
      refine X_aload_n F dX0_takeNearest_42 rfl ?_
      refine X_iload_n F dX0_takeNearest_43 rfl ?_
      refine X_iload F dX0_takeNearest_44 rfl ?_
      refine X_aload_n F dX0_takeNearest_46 rfl ?_
      refine X_geti (v := (r2.2 34 8)) F ffRX0_90 dX0_takeNearest_47 rfl ?_
      obtain ⟨r5, h6, h⟩ := bndS h
      refine X_callV (ci := 34) (As := [.int x1, .int r2.1, .int (r2.2 34 8)]) (rest := [.int x2]) F fkRX0_105 feX0_leg fvX0_leg ⟨_, _, _, rfl, rfl, rfl⟩ (F0_leg_met (D := D - 1) F.2.2.2.2.2.2.2.1 (by omega) h6) rfl rfl (Nat.le_of_ble_eq_true rfl) (rm_ok (by omega) (by decide)) dX0_takeNearest_50 ?_
      show XJ shA p l e (rmX D) s m args below meth c 0 0 G 6 (MQ below (QcX shA G ((none, r.2) : Option Value × Mem).1 ((none, r.2) : Option Value × Mem).2) args s 0 0 (AW shA G.2.1)) 53 [(5, .int r2.1), (0, .ref 34), (1, .int x1), (2, .int x2), (3, .int x3), (4, .int x4)] [.int r5.1, .int x2] r5.2
      refine X_iadd F dX0_takeNearest_53 ?_
      refine X_istore_n F dX0_takeNearest_54 (by decide) rfl ?_
      refine X_iload_n F dX0_takeNearest_55 rfl ?_
      refine X_aload_n F dX0_takeNearest_56 rfl ?_
      refine X_iload F dX0_takeNearest_57 rfl ?_
      refine X_iconst F dX0_takeNearest_59 (v := (-1 : Int32)) rfl ?_
      refine X_aload_n F dX0_takeNearest_60 rfl ?_
      refine X_geti (v := (r5.2 34 8)) F ffRX0_90 dX0_takeNearest_61 rfl ?_
      refine X_iconst F dX0_takeNearest_64 (v := (1 : Int32)) rfl ?_
      refine X_iadd F dX0_takeNearest_65 ?_
      obtain ⟨r7, h8, h⟩ := bndS h
      refine X_callV (ci := 34) (As := [.int r2.1, .int (-1 : Int32), .int ((r5.2 34 8) + (1 : Int32))]) (rest := [.int (x2 + r5.1)]) F fkRX0_105 feX0_leg fvX0_leg ⟨_, _, _, rfl, rfl, rfl⟩ (F0_leg_met (D := D - 1) F.2.2.2.2.2.2.2.1 (by omega) h8) rfl rfl (Nat.le_of_ble_eq_true rfl) (rm_ok (by omega) (by decide)) dX0_takeNearest_66 ?_
      show XJ shA p l e (rmX D) s m args below meth c 0 0 G 6 (MQ below (QcX shA G ((none, r.2) : Option Value × Mem).1 ((none, r.2) : Option Value × Mem).2) args s 0 0 (AW shA G.2.1)) 69 [(2, .int (x2 + r5.1)), (5, .int r2.1), (0, .ref 34), (1, .int x1), (3, .int x3), (4, .int x4)] [.int r7.1, .int (x2 + r5.1)] r7.2
      refine X_iadd F dX0_takeNearest_69 ?_
      refine X_aload_n F dX0_takeNearest_70 rfl ?_
      refine X_getr F ffRX0_15 dX0_takeNearest_71 ?_
      refine X_iconst F dX0_takeNearest_74 (v := (0 : Int32)) rfl ?_
      refine X_iald (j := 0) (v := (r7.2 36 0)) F rfl (inbV (by decide)) (by decide) rfl dX0_takeNearest_75 ?_
      refine X_icmp_le (tgt := 80) F dX0_takeNearest_76 (by decide) (fun q9 => ?_) (fun q9 => ?_)
      · rw [if_pos q9] at h
        refine X_aload_n F dX0_takeNearest_80 rfl ?_
        refine X_iload F dX0_takeNearest_81 rfl ?_
        obtain ⟨r10, h11, h⟩ := bndS h
        refine X_callV (ci := 34) (As := [.int r2.1]) (rest := []) F fkRX0_97 feX0_goTo fvX0_goTo ⟨_, _, _, rfl, rfl, rfl⟩ (F0_goTo_met (D := D - 1) F.2.2.2.2.2.2.2.1 (by omega) h11) rfl rfl (Nat.le_of_ble_eq_true rfl) (rm_ok (by omega) (by decide)) dX0_takeNearest_83 ?_
        show XJ shA p l e (rmX D) s m args below meth c 0 0 G 6 (MQ below (QcX shA G ((none, r.2) : Option Value × Mem).1 ((none, r.2) : Option Value × Mem).2) args s 0 0 (AW shA G.2.1)) 86 [(2, .int (x2 + r5.1)), (5, .int r2.1), (0, .ref 34), (1, .int x1), (3, .int x3), (4, .int x4)] [] r10.2
        refine X_iload_n F dX0_takeNearest_86 rfl ?_
        refine X_iconst F dX0_takeNearest_87 (v := (1 : Int32)) rfl ?_
        refine X_iload F dX0_takeNearest_88 rfl ?_
        refine X_ishl F dX0_takeNearest_90 ?_
        refine X_ior F dX0_takeNearest_91 ?_
        refine X_istore_n F dX0_takeNearest_92 (by decide) rfl ?_
        refine X_iload F dX0_takeNearest_93 rfl ?_
        refine X_istore_n F dX0_takeNearest_95 (by decide) rfl ?_
        refine X_iinc F dX0_takeNearest_96 rfl (v := (1 : Int32)) rfl (by decide) rfl ?_
        refine X_goto (tgt := 14) F dX0_takeNearest_99 (by decide) ?_
        refine X_pick [5, 1, 3, 2, 0] rfl ?_
        exact hrec14 _ _ _ _ _ h
      · rw [if_neg q9] at h
        exact X_vret F hr hlk (retV h) dX0_takeNearest_79
    · rw [if_neg (fun z => z q4)] at h
      exact X_vret F hr hlk (retV h) dX0_takeNearest_40
set_option maxRecDepth 20000 in
theorem F0_takeNearest_l14_ok {p : Program} {l : Launch} {e : Env} {s : State} {m : MethodId} {args : Array Value} {below : List Frame} {meth : Method} {c : Code} {G : GG} {D : Nat} {r : Int32 × Mem} (F : FrP shA G p s m args c RX0 cX0_takeNearest 6) (hr : meth.sig.returnType = none) (hlk : meth.locks = false) (hD : 5 ≤ D) : ∀ (fu : Nat) (M : Mem) (x1 : Int32) (x2 : Int32) (x3 : Int32) (x4 : Int32), F0_takeNearest_l14 fu M x1 x2 x3 x4 = some r → XJ shA p l e (rmX D) s m args below meth c 0 0 G 6 (MQ below (QcX shA G ((none, r.2) : Option Value × Mem).1 ((none, r.2) : Option Value × Mem).2) args s 0 0 (AW shA G.2.1)) 14 [(0, .ref 34), (1, .int x1), (2, .int x2), (3, .int x3), (4, .int x4)] [] M := by
  intro fu
  induction fu with
  | zero => intro M x1 x2 x3 x4 h; cases h
  | succ fu ih => intro M x1 x2 x3 x4 h; exact F0_takeNearest_l14_bok F hr hlk hD (fun M x1 x2 x3 x4 => ih M x1 x2 x3 x4) h
set_option maxRecDepth 20000 in
theorem F0_takeNearest_ok {p : Program} {l : Launch} {e : Env} {s : State} {m : MethodId} {args : Array Value} {below : List Frame} {meth : Method} {c : Code} {G : GG} {D : Nat} {r : Int32 × Mem} (F : FrP shA G p s m args c RX0 cX0_takeNearest 6) (hr : meth.sig.returnType = none) (hlk : meth.locks = false) (hD : 5 ≤ D) {M : Mem} (h : F0_takeNearest M = some r) : XJ shA p l e (rmX D) s m args below meth c 0 0 G 6 (MQ below (QcX shA G ((none, r.2) : Option Value × Mem).1 ((none, r.2) : Option Value × Mem).2) args s 0 0 (AW shA G.2.1)) 0 [(0, .ref 34)] [] M := by
  unfold F0_takeNearest at h
  refine X_aload_n F dX0_takeNearest_0 rfl ?_
  refine X_iconst F dX0_takeNearest_1 (v := (0 : Int32)) rfl ?_
  refine X_puti F ffRX0_90 fw0_8 (by decide) dX0_takeNearest_2 ?_
  refine X_iconst F dX0_takeNearest_5 (v := (-1 : Int32)) rfl ?_
  refine X_istore_n F dX0_takeNearest_6 (by decide) rfl ?_
  refine X_iconst F dX0_takeNearest_7 (v := (0 : Int32)) rfl ?_
  refine X_istore_n F dX0_takeNearest_8 (by decide) rfl ?_
  refine X_iconst F dX0_takeNearest_9 (v := (0 : Int32)) rfl ?_
  refine X_istore_n F dX0_takeNearest_10 (by decide) rfl ?_
  refine X_iconst F dX0_takeNearest_11 (v := (0 : Int32)) rfl ?_
  refine X_istore F dX0_takeNearest_12 (by decide) rfl ?_
  refine X_pick [4, 3, 2, 1, 0] rfl ?_
  exact F0_takeNearest_l14_ok F hr hlk hD FUEL _ _ _ _ _ h
set_option maxRecDepth 20000 in
theorem F0_takeNearest_met {l : Launch} {G : GG} {D : Nat} {r : Int32 × Mem} {M : Mem} (hI : Inj shA G.2.1) (hD : 5 ≤ D) (h : F0_takeNearest M = some r) : MetX shA l G yX0_takeNearest cX0_takeNearest 6 none D [.ref 34] M (none, r.2) :=
  X_met hI (by decide +kernel) (Nat.le_of_ble_eq_true rfl) (fun p e s m args below meth c F hr hlk => F0_takeNearest_ok F hr hlk hD h)
-- KeepOurPlace$Errands.digits
def F0_digits_l4_b (rec4 : Mem → Int32 → Int32 → Option (Int32 × Mem)) (M : Mem) (x1 : Int32) (x2 : Int32) : Option (Int32 × Mem) :=
    if (M 34 8) ≤ x2 then
      some (x1, M)
    else
      if inb x2 6 = true then
      rec4 M (((x1 * (10 : Int32)) + (M 38 (Int32.toNatClampNeg x2))) + (1 : Int32)) (x2 + (1 : Int32))
      else none
def F0_digits_l4 : Nat → Mem → Int32 → Int32 → Option (Int32 × Mem)
  | 0, _, _, _ => none
  | fu + 1, M, x1, x2 => F0_digits_l4_b (F0_digits_l4 fu) M x1 x2
def F0_digits (M : Mem) : Option (Int32 × Mem) :=
    F0_digits_l4 FUEL M (0 : Int32) (0 : Int32)
set_option maxRecDepth 20000 in
theorem F0_digits_l4_bok {p : Program} {l : Launch} {e : Env} {s : State} {m : MethodId} {args : Array Value} {below : List Frame} {meth : Method} {c : Code} {G : GG} {D : Nat} {r : Int32 × Mem} {rec4 : Mem → Int32 → Int32 → Option (Int32 × Mem)} (F : FrP shA G p s m args c RX0 cX0_digits 3) (hr : meth.sig.returnType = (some .int)) (hlk : meth.locks = false) (hD : 1 ≤ D) (hrec4 : ∀ (M : Mem) (x1 : Int32) (x2 : Int32), rec4 M x1 x2 = some r → XJ shA p l e (rmX D) s m args below meth c 0 0 G 3 (MQ below (QcX shA G ((some (.int r.1), r.2) : Option Value × Mem).1 ((some (.int r.1), r.2) : Option Value × Mem).2) args s 0 0 (AW shA G.2.1)) 4 [(0, .ref 34), (1, .int x1), (2, .int x2)] [] M) {M : Mem} {x1 : Int32} {x2 : Int32} (h : F0_digits_l4_b rec4 M x1 x2 = some r) : XJ shA p l e (rmX D) s m args below meth c 0 0 G 3 (MQ below (QcX shA G ((some (.int r.1), r.2) : Option Value × Mem).1 ((some (.int r.1), r.2) : Option Value × Mem).2) args s 0 0 (AW shA G.2.1)) 4 [(0, .ref 34), (1, .int x1), (2, .int x2)] [] M := by
  unfold F0_digits_l4_b at h
  refine X_iload_n F dX0_digits_4 rfl ?_
  refine X_aload_n F dX0_digits_5 rfl ?_
  refine X_geti (v := (M 34 8)) F ffRX0_90 dX0_digits_6 rfl ?_
  refine X_icmp_ge (tgt := 32) F dX0_digits_9 (by decide) (fun q1 => ?_) (fun q1 => ?_)
  · rw [if_pos q1] at h
    refine X_iload_n F dX0_digits_32 rfl ?_
    exact X_iret F hr hlk (retI h) dX0_digits_33
  · rw [if_neg q1] at h
    refine X_iload_n F dX0_digits_12 rfl ?_
    refine X_bipush F dX0_digits_13 (v := (10 : Int32)) rfl ?_
    refine X_imul F dX0_digits_15 ?_
    refine X_aload_n F dX0_digits_16 rfl ?_
    refine X_getr F ffRX0_21 dX0_digits_17 ?_
    refine X_iload_n F dX0_digits_20 rfl ?_
    obtain ⟨q2, h⟩ := ifS h
    refine X_iald (j := (Int32.toNatClampNeg x2)) (v := (M 38 (Int32.toNatClampNeg x2))) F rfl (inbV q2) rfl rfl dX0_digits_21 ?_
    refine X_iadd F dX0_digits_22 ?_
    refine X_iconst F dX0_digits_23 (v := (1 : Int32)) rfl ?_
    refine X_iadd F dX0_digits_24 ?_
    refine X_istore_n F dX0_digits_25 (by decide) rfl ?_
    refine X_iinc F dX0_digits_26 rfl (v := (1 : Int32)) rfl (by decide) rfl ?_
    refine X_goto (tgt := 4) F dX0_digits_29 (by decide) ?_
    refine X_pick [2, 1, 0] rfl ?_
    exact hrec4 _ _ _ h
set_option maxRecDepth 20000 in
theorem F0_digits_l4_ok {p : Program} {l : Launch} {e : Env} {s : State} {m : MethodId} {args : Array Value} {below : List Frame} {meth : Method} {c : Code} {G : GG} {D : Nat} {r : Int32 × Mem} (F : FrP shA G p s m args c RX0 cX0_digits 3) (hr : meth.sig.returnType = (some .int)) (hlk : meth.locks = false) (hD : 1 ≤ D) : ∀ (fu : Nat) (M : Mem) (x1 : Int32) (x2 : Int32), F0_digits_l4 fu M x1 x2 = some r → XJ shA p l e (rmX D) s m args below meth c 0 0 G 3 (MQ below (QcX shA G ((some (.int r.1), r.2) : Option Value × Mem).1 ((some (.int r.1), r.2) : Option Value × Mem).2) args s 0 0 (AW shA G.2.1)) 4 [(0, .ref 34), (1, .int x1), (2, .int x2)] [] M := by
  intro fu
  induction fu with
  | zero => intro M x1 x2 h; cases h
  | succ fu ih => intro M x1 x2 h; exact F0_digits_l4_bok F hr hlk hD (fun M x1 x2 => ih M x1 x2) h
set_option maxRecDepth 20000 in
theorem F0_digits_ok {p : Program} {l : Launch} {e : Env} {s : State} {m : MethodId} {args : Array Value} {below : List Frame} {meth : Method} {c : Code} {G : GG} {D : Nat} {r : Int32 × Mem} (F : FrP shA G p s m args c RX0 cX0_digits 3) (hr : meth.sig.returnType = (some .int)) (hlk : meth.locks = false) (hD : 1 ≤ D) {M : Mem} (h : F0_digits M = some r) : XJ shA p l e (rmX D) s m args below meth c 0 0 G 3 (MQ below (QcX shA G ((some (.int r.1), r.2) : Option Value × Mem).1 ((some (.int r.1), r.2) : Option Value × Mem).2) args s 0 0 (AW shA G.2.1)) 0 [(0, .ref 34)] [] M := by
  unfold F0_digits at h
  refine X_iconst F dX0_digits_0 (v := (0 : Int32)) rfl ?_
  refine X_istore_n F dX0_digits_1 (by decide) rfl ?_
  refine X_iconst F dX0_digits_2 (v := (0 : Int32)) rfl ?_
  refine X_istore_n F dX0_digits_3 (by decide) rfl ?_
  refine X_pick [2, 1, 0] rfl ?_
  exact F0_digits_l4_ok F hr hlk hD FUEL _ _ _ h
set_option maxRecDepth 20000 in
theorem F0_digits_met {l : Launch} {G : GG} {D : Nat} {r : Int32 × Mem} {M : Mem} (hI : Inj shA G.2.1) (hD : 1 ≤ D) (h : F0_digits M = some r) : MetX shA l G yX0_digits cX0_digits 3 (some .int) D [.ref 34] M (some (.int r.1), r.2) :=
  X_met hI (by decide +kernel) (Nat.le_of_ble_eq_true rfl) (fun p e s m args below meth c F hr hlk => F0_digits_ok F hr hlk hD h)
-- KeepOurPlace$Errands.weigh
def F0_weigh_j95 (M : Mem) : Option (Int32 × Mem) :=
    some ((0 : Int32), (up2 M 34 14 ((M 34 14) + (1 : Int32))))
def F0_weigh_j67 (M : Mem) (x1 : Int32) (x2 : Int32) (x3 : Int32) : Option (Int32 × Mem) :=
    if ¬ x1 = (M 34 12) then
      some ((0 : Int32), M)
    else
      if ¬ x3 = (M 34 13) then
        some ((0 : Int32), M)
      else
        if ¬ (M 34 14) = 0 then
          F0_weigh_j95 M
        else
          F0_weigh_j95 (up2 M 34 15 x2)
def F0_weigh_j45 (M : Mem) (x1 : Int32) (x2 : Int32) (x3 : Int32) (x4 : Int32) : Option (Int32 × Mem) :=
    if inb x1 64 = true then
    F0_weigh_j67 (up2 (up2 (up2 M 39 (Int32.toNatClampNeg x1) x2) 40 (Int32.toNatClampNeg x1) x3) 41 (Int32.toNatClampNeg x1) x4) x1 x2 x3
    else none
def F0_weigh (M : Mem) (a1 : Int32) (a2 : Int32) (a3 : Int32) : Option (Int32 × Mem) :=
    if a1 < 0 then
      some ((0 : Int32), M)
    else
      if a1 < (64 : Int32) then
        Option.bind (F0_worthOf M a1) fun r3 =>
        Option.bind (F0_loss r3.2 a3) fun r5 =>
        if inb a1 64 = true then
        if (r5.2 39 (Int32.toNatClampNeg a1)) = (-1 : Int32) then
          F0_weigh_j45 r5.2 a1 a2 a3 (r3.1 - r5.1)
        else
          if (r3.1 - r5.1) ≤ (r5.2 41 (Int32.toNatClampNeg a1)) then
            F0_weigh_j67 r5.2 a1 a2 a3
          else
            F0_weigh_j45 r5.2 a1 a2 a3 (r3.1 - r5.1)
        else none
      else
        some ((0 : Int32), M)
set_option maxRecDepth 20000 in
theorem F0_weigh_j95_ok {p : Program} {l : Launch} {e : Env} {s : State} {m : MethodId} {args : Array Value} {below : List Frame} {meth : Method} {c : Code} {G : GG} {D : Nat} {r : Int32 × Mem} (F : FrP shA G p s m args c RX0 cX0_weigh 5) (hr : meth.sig.returnType = none) (hlk : meth.locks = false) (hD : 3 ≤ D) {M : Mem} (h : F0_weigh_j95 M = some r) : XJ shA p l e (rmX D) s m args below meth c 0 0 G 5 (MQ below (QcX shA G ((none, r.2) : Option Value × Mem).1 ((none, r.2) : Option Value × Mem).2) args s 0 0 (AW shA G.2.1)) 95 [(0, .ref 34)] [] M := by
  unfold F0_weigh_j95 at h
  refine X_aload_n F dX0_weigh_95 rfl ?_
  refine X_dup F dX0_weigh_96 rfl ?_
  refine X_geti (v := (M 34 14)) F ffRX0_131 dX0_weigh_97 rfl ?_
  refine X_iconst F dX0_weigh_100 (v := (1 : Int32)) rfl ?_
  refine X_iadd F dX0_weigh_101 ?_
  refine X_puti F ffRX0_131 fw0_14 (by decide) dX0_weigh_102 ?_
  exact X_vret F hr hlk (retV h) dX0_weigh_105
set_option maxRecDepth 20000 in
theorem F0_weigh_j67_ok {p : Program} {l : Launch} {e : Env} {s : State} {m : MethodId} {args : Array Value} {below : List Frame} {meth : Method} {c : Code} {G : GG} {D : Nat} {r : Int32 × Mem} (F : FrP shA G p s m args c RX0 cX0_weigh 5) (hr : meth.sig.returnType = none) (hlk : meth.locks = false) (hD : 3 ≤ D) {M : Mem} {x1 : Int32} {x2 : Int32} {x3 : Int32} (h : F0_weigh_j67 M x1 x2 x3 = some r) : XJ shA p l e (rmX D) s m args below meth c 0 0 G 5 (MQ below (QcX shA G ((none, r.2) : Option Value × Mem).1 ((none, r.2) : Option Value × Mem).2) args s 0 0 (AW shA G.2.1)) 67 [(0, .ref 34), (1, .int x1), (2, .int x2), (3, .int x3)] [] M := by
  unfold F0_weigh_j67 at h
  refine X_iload_n F dX0_weigh_67 rfl ?_
  refine X_aload_n F dX0_weigh_68 rfl ?_
  refine X_geti (v := (M 34 12)) F ffRX0_137 dX0_weigh_69 rfl ?_
  refine X_icmp_ne (tgt := 105) F dX0_weigh_72 (by decide) (fun q10 => ?_) (fun q10 => ?_)
  · rw [if_pos q10] at h
    exact X_vret F hr hlk (retV h) dX0_weigh_105
  · rw [if_neg (fun z => z q10)] at h
    refine X_iload_n F dX0_weigh_75 rfl ?_
    refine X_aload_n F dX0_weigh_76 rfl ?_
    refine X_geti (v := (M 34 13)) F ffRX0_140 dX0_weigh_77 rfl ?_
    refine X_icmp_ne (tgt := 105) F dX0_weigh_80 (by decide) (fun q11 => ?_) (fun q11 => ?_)
    · rw [if_pos q11] at h
      exact X_vret F hr hlk (retV h) dX0_weigh_105
    · rw [if_neg (fun z => z q11)] at h
      refine X_aload_n F dX0_weigh_83 rfl ?_
      refine X_geti (v := (M 34 14)) F ffRX0_131 dX0_weigh_84 rfl ?_
      refine X_if_ne (tgt := 95) F dX0_weigh_87 (by decide) (fun q12 => ?_) (fun q12 => ?_)
      · rw [if_pos q12] at h
        refine X_pick [0] rfl ?_
        exact F0_weigh_j95_ok F hr hlk hD h
      · rw [if_neg (fun z => z q12)] at h
        refine X_aload_n F dX0_weigh_90 rfl ?_
        refine X_iload_n F dX0_weigh_91 rfl ?_
        refine X_puti F ffRX0_134 fw0_15 (by decide) dX0_weigh_92 ?_
        refine X_pick [0] rfl ?_
        exact F0_weigh_j95_ok F hr hlk hD h
set_option maxRecDepth 20000 in
theorem F0_weigh_j45_ok {p : Program} {l : Launch} {e : Env} {s : State} {m : MethodId} {args : Array Value} {below : List Frame} {meth : Method} {c : Code} {G : GG} {D : Nat} {r : Int32 × Mem} (F : FrP shA G p s m args c RX0 cX0_weigh 5) (hr : meth.sig.returnType = none) (hlk : meth.locks = false) (hD : 3 ≤ D) {M : Mem} {x1 : Int32} {x2 : Int32} {x3 : Int32} {x4 : Int32} (h : F0_weigh_j45 M x1 x2 x3 x4 = some r) : XJ shA p l e (rmX D) s m args below meth c 0 0 G 5 (MQ below (QcX shA G ((none, r.2) : Option Value × Mem).1 ((none, r.2) : Option Value × Mem).2) args s 0 0 (AW shA G.2.1)) 45 [(0, .ref 34), (1, .int x1), (2, .int x2), (3, .int x3), (4, .int x4)] [] M := by
  unfold F0_weigh_j45 at h
  refine X_aload_n F dX0_weigh_45 rfl ?_
  refine X_getr F ffRX0_24 dX0_weigh_46 ?_
  refine X_iload_n F dX0_weigh_49 rfl ?_
  refine X_iload_n F dX0_weigh_50 rfl ?_
  obtain ⟨q13, h⟩ := ifS h
  refine X_iast (j := (Int32.toNatClampNeg x1)) F rfl (inbV q13) rfl dX0_weigh_51 ?_
  refine X_aload_n F dX0_weigh_52 rfl ?_
  refine X_getr F ffRX0_27 dX0_weigh_53 ?_
  refine X_iload_n F dX0_weigh_56 rfl ?_
  refine X_iload_n F dX0_weigh_57 rfl ?_
  refine X_iast (j := (Int32.toNatClampNeg x1)) F rfl (inbV q13) rfl dX0_weigh_58 ?_
  refine X_aload_n F dX0_weigh_59 rfl ?_
  refine X_getr F ffRX0_30 dX0_weigh_60 ?_
  refine X_iload_n F dX0_weigh_63 rfl ?_
  refine X_iload F dX0_weigh_64 rfl ?_
  refine X_iast (j := (Int32.toNatClampNeg x1)) F rfl (inbV q13) rfl dX0_weigh_66 ?_
  refine X_pick [0, 1, 2, 3] rfl ?_
  exact F0_weigh_j67_ok F hr hlk hD h
set_option maxRecDepth 20000 in
theorem F0_weigh_ok {p : Program} {l : Launch} {e : Env} {s : State} {m : MethodId} {args : Array Value} {below : List Frame} {meth : Method} {c : Code} {G : GG} {D : Nat} {r : Int32 × Mem} (F : FrP shA G p s m args c RX0 cX0_weigh 5) (hr : meth.sig.returnType = none) (hlk : meth.locks = false) (hD : 3 ≤ D) {M : Mem} {a1 : Int32} {a2 : Int32} {a3 : Int32} (h : F0_weigh M a1 a2 a3 = some r) : XJ shA p l e (rmX D) s m args below meth c 0 0 G 5 (MQ below (QcX shA G ((none, r.2) : Option Value × Mem).1 ((none, r.2) : Option Value × Mem).2) args s 0 0 (AW shA G.2.1)) 0 [(0, .ref 34), (1, .int a1), (2, .int a2), (3, .int a3)] [] M := by
  unfold F0_weigh at h
  refine X_iload_n F dX0_weigh_0 rfl ?_
  refine X_if_lt (tgt := 10) F dX0_weigh_1 (by decide) (fun q1 => ?_) (fun q1 => ?_)
  · rw [if_pos q1] at h
    exact X_vret F hr hlk (retV h) dX0_weigh_10
  · rw [if_neg q1] at h
    refine X_iload_n F dX0_weigh_4 rfl ?_
    refine X_bipush F dX0_weigh_5 (v := (64 : Int32)) rfl ?_
    refine X_icmp_lt (tgt := 11) F dX0_weigh_7 (by decide) (fun q2 => ?_) (fun q2 => ?_)
    · rw [if_pos q2] at h
      refine X_aload_n F dX0_weigh_11 rfl ?_
      refine X_iload_n F dX0_weigh_12 rfl ?_
      obtain ⟨r3, h4, h⟩ := bndS h
      refine X_callV (ci := 34) (As := [.int a1]) (rest := []) F fkRX0_112 feX0_worthOf fvX0_worthOf ⟨_, _, _, rfl, rfl, rfl⟩ (F0_worthOf_met (D := D - 1) F.2.2.2.2.2.2.2.1 (by omega) h4) rfl rfl (Nat.le_of_ble_eq_true rfl) (rm_ok (by omega) (by decide)) dX0_weigh_13 ?_
      show XJ shA p l e (rmX D) s m args below meth c 0 0 G 5 (MQ below (QcX shA G ((none, r.2) : Option Value × Mem).1 ((none, r.2) : Option Value × Mem).2) args s 0 0 (AW shA G.2.1)) 16 [(0, .ref 34), (1, .int a1), (2, .int a2), (3, .int a3)] [.int r3.1] r3.2
      refine X_aload_n F dX0_weigh_16 rfl ?_
      refine X_iload_n F dX0_weigh_17 rfl ?_
      obtain ⟨r5, h6, h⟩ := bndS h
      refine X_callV (ci := 34) (As := [.int a3]) (rest := [.int r3.1]) F fkRX0_121 feX0_loss fvX0_loss ⟨_, _, _, rfl, rfl, rfl⟩ (F0_loss_met (D := D - 1) F.2.2.2.2.2.2.2.1 (by omega) h6) rfl rfl (Nat.le_of_ble_eq_true rfl) (rm_ok (by omega) (by decide)) dX0_weigh_18 ?_
      show XJ shA p l e (rmX D) s m args below meth c 0 0 G 5 (MQ below (QcX shA G ((none, r.2) : Option Value × Mem).1 ((none, r.2) : Option Value × Mem).2) args s 0 0 (AW shA G.2.1)) 21 [(0, .ref 34), (1, .int a1), (2, .int a2), (3, .int a3)] [.int r5.1, .int r3.1] r5.2
      refine X_isub F dX0_weigh_21 ?_
      refine X_istore F dX0_weigh_22 (by decide) rfl ?_
      refine X_aload_n F dX0_weigh_24 rfl ?_
      refine X_getr F ffRX0_24 dX0_weigh_25 ?_
      refine X_iload_n F dX0_weigh_28 rfl ?_
      obtain ⟨q7, h⟩ := ifS h
      refine X_iald (j := (Int32.toNatClampNeg a1)) (v := (r5.2 39 (Int32.toNatClampNeg a1))) F rfl (inbV q7) rfl rfl dX0_weigh_29 ?_
      refine X_iconst F dX0_weigh_30 (v := (-1 : Int32)) rfl ?_
      refine X_icmp_eq (tgt := 45) F dX0_weigh_31 (by decide) (fun q8 => ?_) (fun q8 => ?_)
      · rw [if_pos q8] at h
        refine X_pick [1, 2, 3, 4, 0] rfl ?_
        exact F0_weigh_j45_ok F hr hlk hD h
      · rw [if_neg q8] at h
        refine X_iload F dX0_weigh_34 rfl ?_
        refine X_aload_n F dX0_weigh_36 rfl ?_
        refine X_getr F ffRX0_30 dX0_weigh_37 ?_
        refine X_iload_n F dX0_weigh_40 rfl ?_
        refine X_iald (j := (Int32.toNatClampNeg a1)) (v := (r5.2 41 (Int32.toNatClampNeg a1))) F rfl (inbV q7) rfl rfl dX0_weigh_41 ?_
        refine X_icmp_le (tgt := 67) F dX0_weigh_42 (by decide) (fun q9 => ?_) (fun q9 => ?_)
        · rw [if_pos q9] at h
          refine X_pick [1, 2, 3, 4] rfl ?_
          exact F0_weigh_j67_ok F hr hlk hD h
        · rw [if_neg q9] at h
          refine X_pick [1, 2, 3, 4, 0] rfl ?_
          exact F0_weigh_j45_ok F hr hlk hD h
    · rw [if_neg q2] at h
      exact X_vret F hr hlk (retV h) dX0_weigh_10
set_option maxRecDepth 20000 in
theorem F0_weigh_met {l : Launch} {G : GG} {D : Nat} {r : Int32 × Mem} {M : Mem} {a1 : Int32} {a2 : Int32} {a3 : Int32} (hI : Inj shA G.2.1) (hD : 3 ≤ D) (h : F0_weigh M a1 a2 a3 = some r) : MetX shA l G yX0_weigh cX0_weigh 5 none D [.ref 34, .int a1, .int a2, .int a3] M (none, r.2) :=
  X_met hI (by decide +kernel) (Nat.le_of_ble_eq_true rfl) (fun p e s m args below meth c F hr hlk => F0_weigh_ok F hr hlk hD h)
-- KeepOurPlace$Errands.visit
def F0_visit_j99 (rc : Nat → Int32 → Int32 → Int32 → Int32 → Int32 → Int32 → Mem → Option (Int32 × Mem)) (rec29 : Mem → Int32 → Int32 → Int32 → Int32 → Int32 → Int32 → Int32 → Option (Int32 × Mem)) (M : Mem) (x1 : Int32) (x2 : Int32) (x3 : Int32) (x4 : Int32) (x5 : Int32) (x6 : Int32) (x7 : Int32) : Option (Int32 × Mem) :=
    rec29 M x1 x2 x3 x4 x5 x6 (x7 + (1 : Int32))
def F0_visit_l29_b (rc : Nat → Int32 → Int32 → Int32 → Int32 → Int32 → Int32 → Mem → Option (Int32 × Mem)) (rec29 : Mem → Int32 → Int32 → Int32 → Int32 → Int32 → Int32 → Int32 → Option (Int32 × Mem)) (M : Mem) (x1 : Int32) (x2 : Int32) (x3 : Int32) (x4 : Int32) (x5 : Int32) (x6 : Int32) (x7 : Int32) : Option (Int32 × Mem) :=
    if (M 5 3) ≤ x7 then
      some ((0 : Int32), M)
    else
      if (x1 &&& ((1 : Int32) <<< (x7 &&& 31))) = 0 then
        F0_visit_j99 rc rec29 M x1 x2 x3 x4 x5 x6 x7
      else
        if ¬ (x4 &&& ((1 : Int32) <<< (x7 &&& 31))) = 0 then
          F0_visit_j99 rc rec29 M x1 x2 x3 x4 x5 x6 x7
        else
          Option.bind (F0_leg M x2 x7 x6) fun r9 =>
          Option.bind (rc 0 x1 x7 (x3 + r9.1) (x4 ||| ((1 : Int32) <<< (x7 &&& 31))) (((x5 * (10 : Int32)) + x7) + (1 : Int32)) (x6 + (1 : Int32)) r9.2) fun r11 =>
          F0_visit_j99 rc rec29 r11.2 x1 x2 x3 x4 x5 x6 x7
def F0_visit_l29 (rc : Nat → Int32 → Int32 → Int32 → Int32 → Int32 → Int32 → Mem → Option (Int32 × Mem)) : Nat → Mem → Int32 → Int32 → Int32 → Int32 → Int32 → Int32 → Int32 → Option (Int32 × Mem)
  | 0, _, _, _, _, _, _, _, _ => none
  | fu + 1, M, x1, x2, x3, x4, x5, x6, x7 => F0_visit_l29_b rc (F0_visit_l29 rc fu) M x1 x2 x3 x4 x5 x6 x7
def F0_visit (rc : Nat → Int32 → Int32 → Int32 → Int32 → Int32 → Int32 → Mem → Option (Int32 × Mem)) (M : Mem) (a1 : Int32) (a2 : Int32) (a3 : Int32) (a4 : Int32) (a5 : Int32) (a6 : Int32) : Option (Int32 × Mem) :=
    Option.bind (F0_leg M a2 (-1 : Int32) a6) fun r1 =>
    Option.bind (F0_weigh r1.2 a4 a5 (a3 + r1.1)) fun r3 =>
    if a6 < (6 : Int32) then
      F0_visit_l29 rc FUEL r3.2 a1 a2 a3 a4 a5 a6 (0 : Int32)
    else
      some ((0 : Int32), r3.2)
set_option maxRecDepth 20000 in
theorem F0_visit_j99_ok {p : Program} {l : Launch} {e : Env} {s : State} {m : MethodId} {args : Array Value} {below : List Frame} {meth : Method} {c : Code} {G : GG} {D : Nat} {r : Int32 × Mem} {rc : Nat → Int32 → Int32 → Int32 → Int32 → Int32 → Int32 → Mem → Option (Int32 × Mem)} {rec29 : Mem → Int32 → Int32 → Int32 → Int32 → Int32 → Int32 → Int32 → Option (Int32 × Mem)} (F : FrP shA G p s m args c RX0 cX0_visit 9) (hr : meth.sig.returnType = none) (hlk : meth.locks = false) (hD : 5 ≤ D) (hrc : (∀ (b0 : Int32) (b1 : Int32) (b2 : Int32) (b3 : Int32) (b4 : Int32) (b5 : Int32) (M : Mem) (r : Int32 × Mem), rc 0 b0 b1 b2 b3 b4 b5 M = some r → MetX shA l G yX0_visit cX0_visit 9 none (D - 1) [.ref 34, .int b0, .int b1, .int b2, .int b3, .int b4, .int b5] M (none, r.2))) (hrec29 : ∀ (M : Mem) (x1 : Int32) (x2 : Int32) (x3 : Int32) (x4 : Int32) (x5 : Int32) (x6 : Int32) (x7 : Int32), rec29 M x1 x2 x3 x4 x5 x6 x7 = some r → XJ shA p l e (rmX D) s m args below meth c 0 0 G 9 (MQ below (QcX shA G ((none, r.2) : Option Value × Mem).1 ((none, r.2) : Option Value × Mem).2) args s 0 0 (AW shA G.2.1)) 29 [(0, .ref 34), (1, .int x1), (2, .int x2), (3, .int x3), (4, .int x4), (5, .int x5), (6, .int x6), (7, .int x7)] [] M) {M : Mem} {x1 : Int32} {x2 : Int32} {x3 : Int32} {x4 : Int32} {x5 : Int32} {x6 : Int32} {x7 : Int32} (h : F0_visit_j99 rc rec29 M x1 x2 x3 x4 x5 x6 x7 = some r) : XJ shA p l e (rmX D) s m args below meth c 0 0 G 9 (MQ below (QcX shA G ((none, r.2) : Option Value × Mem).1 ((none, r.2) : Option Value × Mem).2) args s 0 0 (AW shA G.2.1)) 99 [(0, .ref 34), (1, .int x1), (2, .int x2), (3, .int x3), (4, .int x4), (5, .int x5), (6, .int x6), (7, .int x7)] [] M := by
  unfold F0_visit_j99 at h
  refine X_iinc F dX0_visit_99 rfl (v := (1 : Int32)) rfl (by decide) rfl ?_
  refine X_goto (tgt := 29) F dX0_visit_102 (by decide) ?_
  refine X_pick [1, 2, 3, 4, 5, 6, 7, 0] rfl ?_
  exact hrec29 _ _ _ _ _ _ _ _ h
set_option maxRecDepth 20000 in
theorem F0_visit_l29_bok {p : Program} {l : Launch} {e : Env} {s : State} {m : MethodId} {args : Array Value} {below : List Frame} {meth : Method} {c : Code} {G : GG} {D : Nat} {r : Int32 × Mem} {rc : Nat → Int32 → Int32 → Int32 → Int32 → Int32 → Int32 → Mem → Option (Int32 × Mem)} {rec29 : Mem → Int32 → Int32 → Int32 → Int32 → Int32 → Int32 → Int32 → Option (Int32 × Mem)} (F : FrP shA G p s m args c RX0 cX0_visit 9) (hr : meth.sig.returnType = none) (hlk : meth.locks = false) (hD : 5 ≤ D) (hrc : (∀ (b0 : Int32) (b1 : Int32) (b2 : Int32) (b3 : Int32) (b4 : Int32) (b5 : Int32) (M : Mem) (r : Int32 × Mem), rc 0 b0 b1 b2 b3 b4 b5 M = some r → MetX shA l G yX0_visit cX0_visit 9 none (D - 1) [.ref 34, .int b0, .int b1, .int b2, .int b3, .int b4, .int b5] M (none, r.2))) (hrec29 : ∀ (M : Mem) (x1 : Int32) (x2 : Int32) (x3 : Int32) (x4 : Int32) (x5 : Int32) (x6 : Int32) (x7 : Int32), rec29 M x1 x2 x3 x4 x5 x6 x7 = some r → XJ shA p l e (rmX D) s m args below meth c 0 0 G 9 (MQ below (QcX shA G ((none, r.2) : Option Value × Mem).1 ((none, r.2) : Option Value × Mem).2) args s 0 0 (AW shA G.2.1)) 29 [(0, .ref 34), (1, .int x1), (2, .int x2), (3, .int x3), (4, .int x4), (5, .int x5), (6, .int x6), (7, .int x7)] [] M) {M : Mem} {x1 : Int32} {x2 : Int32} {x3 : Int32} {x4 : Int32} {x5 : Int32} {x6 : Int32} {x7 : Int32} (h : F0_visit_l29_b rc rec29 M x1 x2 x3 x4 x5 x6 x7 = some r) : XJ shA p l e (rmX D) s m args below meth c 0 0 G 9 (MQ below (QcX shA G ((none, r.2) : Option Value × Mem).1 ((none, r.2) : Option Value × Mem).2) args s 0 0 (AW shA G.2.1)) 29 [(0, .ref 34), (1, .int x1), (2, .int x2), (3, .int x3), (4, .int x4), (5, .int x5), (6, .int x6), (7, .int x7)] [] M := by
  unfold F0_visit_l29_b at h
  refine X_iload F dX0_visit_29 rfl ?_
  refine X_aload_n F dX0_visit_31 rfl ?_
  refine X_getr F ffRX0_37 dX0_visit_32 ?_
  refine X_geti (v := (M 5 3)) F ffRX0_101 dX0_visit_35 rfl ?_
  refine X_icmp_ge (tgt := 105) F dX0_visit_38 (by decide) (fun q6 => ?_) (fun q6 => ?_)
  · rw [if_pos q6] at h
    exact X_vret F hr hlk (retV h) dX0_visit_105
  · rw [if_neg q6] at h
    refine X_iconst F dX0_visit_41 (v := (1 : Int32)) rfl ?_
    refine X_iload F dX0_visit_42 rfl ?_
    refine X_ishl F dX0_visit_44 ?_
    refine X_istore F dX0_visit_45 (by decide) rfl ?_
    refine X_iload_n F dX0_visit_47 rfl ?_
    refine X_iload F dX0_visit_48 rfl ?_
    refine X_iand F dX0_visit_50 ?_
    refine X_if_eq (tgt := 99) F dX0_visit_51 (by decide) (fun q7 => ?_) (fun q7 => ?_)
    · rw [if_pos q7] at h
      refine X_pick [1, 2, 3, 4, 5, 6, 7, 8] rfl ?_
      exact F0_visit_j99_ok F hr hlk hD hrc hrec29 h
    · rw [if_neg q7] at h
      refine X_iload F dX0_visit_54 rfl ?_
      refine X_iload F dX0_visit_56 rfl ?_
      refine X_iand F dX0_visit_58 ?_
      refine X_if_ne (tgt := 99) F dX0_visit_59 (by decide) (fun q8 => ?_) (fun q8 => ?_)
      · rw [if_pos q8] at h
        refine X_pick [1, 2, 3, 4, 5, 6, 7, 8] rfl ?_
        exact F0_visit_j99_ok F hr hlk hD hrc hrec29 h
      · rw [if_neg (fun z => z q8)] at h
        refine X_aload_n F dX0_visit_62 rfl ?_
        refine X_iload_n F dX0_visit_63 rfl ?_
        refine X_iload F dX0_visit_64 rfl ?_
        refine X_iload_n F dX0_visit_66 rfl ?_
        refine X_aload_n F dX0_visit_67 rfl ?_
        refine X_iload_n F dX0_visit_68 rfl ?_
        refine X_iload F dX0_visit_69 rfl ?_
        refine X_iload F dX0_visit_71 rfl ?_
        obtain ⟨r9, h10, h⟩ := bndS h
        refine X_callV (ci := 34) (As := [.int x2, .int x7, .int x6]) (rest := [.int x3, .int x7, .int x1, .ref 34]) F fkRX0_105 feX0_leg fvX0_leg ⟨_, _, _, rfl, rfl, rfl⟩ (F0_leg_met (D := D - 1) F.2.2.2.2.2.2.2.1 (by omega) h10) rfl rfl (Nat.le_of_ble_eq_true rfl) (rm_ok (by omega) (by decide)) dX0_visit_73 ?_
        show XJ shA p l e (rmX D) s m args below meth c 0 0 G 9 (MQ below (QcX shA G ((none, r.2) : Option Value × Mem).1 ((none, r.2) : Option Value × Mem).2) args s 0 0 (AW shA G.2.1)) 76 [(8, .int ((1 : Int32) <<< (x7 &&& 31))), (0, .ref 34), (1, .int x1), (2, .int x2), (3, .int x3), (4, .int x4), (5, .int x5), (6, .int x6), (7, .int x7)] [.int r9.1, .int x3, .int x7, .int x1, .ref 34] r9.2
        refine X_iadd F dX0_visit_76 ?_
        refine X_iload F dX0_visit_77 rfl ?_
        refine X_iload F dX0_visit_79 rfl ?_
        refine X_ior F dX0_visit_81 ?_
        refine X_iload F dX0_visit_82 rfl ?_
        refine X_bipush F dX0_visit_84 (v := (10 : Int32)) rfl ?_
        refine X_imul F dX0_visit_86 ?_
        refine X_iload F dX0_visit_87 rfl ?_
        refine X_iadd F dX0_visit_89 ?_
        refine X_iconst F dX0_visit_90 (v := (1 : Int32)) rfl ?_
        refine X_iadd F dX0_visit_91 ?_
        refine X_iload F dX0_visit_92 rfl ?_
        refine X_iconst F dX0_visit_94 (v := (1 : Int32)) rfl ?_
        refine X_iadd F dX0_visit_95 ?_
        obtain ⟨r11, h12, h⟩ := bndS h
        refine X_callS (As := [.ref 34, .int x1, .int x7, .int (x3 + r9.1), .int (x4 ||| ((1 : Int32) <<< (x7 &&& 31))), .int (((x5 * (10 : Int32)) + x7) + (1 : Int32)), .int (x6 + (1 : Int32))]) (rest := []) F fsRX0_127 feX0_visit ftX0_visit (hrc _ _ _ _ _ _ _ _ h12) rfl rfl (Nat.le_of_ble_eq_true rfl) (rm_ok (by omega) (by decide)) dX0_visit_96 ?_
        show XJ shA p l e (rmX D) s m args below meth c 0 0 G 9 (MQ below (QcX shA G ((none, r.2) : Option Value × Mem).1 ((none, r.2) : Option Value × Mem).2) args s 0 0 (AW shA G.2.1)) 99 [(8, .int ((1 : Int32) <<< (x7 &&& 31))), (0, .ref 34), (1, .int x1), (2, .int x2), (3, .int x3), (4, .int x4), (5, .int x5), (6, .int x6), (7, .int x7)] [] r11.2
        refine X_pick [1, 2, 3, 4, 5, 6, 7, 8] rfl ?_
        exact F0_visit_j99_ok F hr hlk hD hrc hrec29 h
set_option maxRecDepth 20000 in
theorem F0_visit_l29_ok {p : Program} {l : Launch} {e : Env} {s : State} {m : MethodId} {args : Array Value} {below : List Frame} {meth : Method} {c : Code} {G : GG} {D : Nat} {r : Int32 × Mem} {rc : Nat → Int32 → Int32 → Int32 → Int32 → Int32 → Int32 → Mem → Option (Int32 × Mem)} (F : FrP shA G p s m args c RX0 cX0_visit 9) (hr : meth.sig.returnType = none) (hlk : meth.locks = false) (hD : 5 ≤ D) (hrc : (∀ (b0 : Int32) (b1 : Int32) (b2 : Int32) (b3 : Int32) (b4 : Int32) (b5 : Int32) (M : Mem) (r : Int32 × Mem), rc 0 b0 b1 b2 b3 b4 b5 M = some r → MetX shA l G yX0_visit cX0_visit 9 none (D - 1) [.ref 34, .int b0, .int b1, .int b2, .int b3, .int b4, .int b5] M (none, r.2))) : ∀ (fu : Nat) (M : Mem) (x1 : Int32) (x2 : Int32) (x3 : Int32) (x4 : Int32) (x5 : Int32) (x6 : Int32) (x7 : Int32), F0_visit_l29 rc fu M x1 x2 x3 x4 x5 x6 x7 = some r → XJ shA p l e (rmX D) s m args below meth c 0 0 G 9 (MQ below (QcX shA G ((none, r.2) : Option Value × Mem).1 ((none, r.2) : Option Value × Mem).2) args s 0 0 (AW shA G.2.1)) 29 [(0, .ref 34), (1, .int x1), (2, .int x2), (3, .int x3), (4, .int x4), (5, .int x5), (6, .int x6), (7, .int x7)] [] M := by
  intro fu
  induction fu with
  | zero => intro M x1 x2 x3 x4 x5 x6 x7 h; cases h
  | succ fu ih => intro M x1 x2 x3 x4 x5 x6 x7 h; exact F0_visit_l29_bok F hr hlk hD hrc (fun M x1 x2 x3 x4 x5 x6 x7 => ih M x1 x2 x3 x4 x5 x6 x7) h
set_option maxRecDepth 20000 in
theorem F0_visit_ok {p : Program} {l : Launch} {e : Env} {s : State} {m : MethodId} {args : Array Value} {below : List Frame} {meth : Method} {c : Code} {G : GG} {D : Nat} {r : Int32 × Mem} {rc : Nat → Int32 → Int32 → Int32 → Int32 → Int32 → Int32 → Mem → Option (Int32 × Mem)} (F : FrP shA G p s m args c RX0 cX0_visit 9) (hr : meth.sig.returnType = none) (hlk : meth.locks = false) (hD : 5 ≤ D) (hrc : (∀ (b0 : Int32) (b1 : Int32) (b2 : Int32) (b3 : Int32) (b4 : Int32) (b5 : Int32) (M : Mem) (r : Int32 × Mem), rc 0 b0 b1 b2 b3 b4 b5 M = some r → MetX shA l G yX0_visit cX0_visit 9 none (D - 1) [.ref 34, .int b0, .int b1, .int b2, .int b3, .int b4, .int b5] M (none, r.2))) {M : Mem} {a1 : Int32} {a2 : Int32} {a3 : Int32} {a4 : Int32} {a5 : Int32} {a6 : Int32} (h : F0_visit rc M a1 a2 a3 a4 a5 a6 = some r) : XJ shA p l e (rmX D) s m args below meth c 0 0 G 9 (MQ below (QcX shA G ((none, r.2) : Option Value × Mem).1 ((none, r.2) : Option Value × Mem).2) args s 0 0 (AW shA G.2.1)) 0 [(0, .ref 34), (1, .int a1), (2, .int a2), (3, .int a3), (4, .int a4), (5, .int a5), (6, .int a6)] [] M := by
  unfold F0_visit at h
  refine X_aload_n F dX0_visit_0 rfl ?_
  refine X_iload F dX0_visit_1 rfl ?_
  refine X_iload F dX0_visit_3 rfl ?_
  refine X_iload_n F dX0_visit_5 rfl ?_
  refine X_aload_n F dX0_visit_6 rfl ?_
  refine X_iload_n F dX0_visit_7 rfl ?_
  refine X_iconst F dX0_visit_8 (v := (-1 : Int32)) rfl ?_
  refine X_iload F dX0_visit_9 rfl ?_
  obtain ⟨r1, h2, h⟩ := bndS h
  refine X_callV (ci := 34) (As := [.int a2, .int (-1 : Int32), .int a6]) (rest := [.int a3, .int a5, .int a4, .ref 34]) F fkRX0_105 feX0_leg fvX0_leg ⟨_, _, _, rfl, rfl, rfl⟩ (F0_leg_met (D := D - 1) F.2.2.2.2.2.2.2.1 (by omega) h2) rfl rfl (Nat.le_of_ble_eq_true rfl) (rm_ok (by omega) (by decide)) dX0_visit_11 ?_
  show XJ shA p l e (rmX D) s m args below meth c 0 0 G 9 (MQ below (QcX shA G ((none, r.2) : Option Value × Mem).1 ((none, r.2) : Option Value × Mem).2) args s 0 0 (AW shA G.2.1)) 14 [(0, .ref 34), (1, .int a1), (2, .int a2), (3, .int a3), (4, .int a4), (5, .int a5), (6, .int a6)] [.int r1.1, .int a3, .int a5, .int a4, .ref 34] r1.2
  refine X_iadd F dX0_visit_14 ?_
  obtain ⟨r3, h4, h⟩ := bndS h
  refine X_callV (ci := 34) (As := [.int a4, .int a5, .int (a3 + r1.1)]) (rest := []) F fkRX0_143 feX0_weigh fvX0_weigh ⟨_, _, _, rfl, rfl, rfl⟩ (F0_weigh_met (D := D - 1) F.2.2.2.2.2.2.2.1 (by omega) h4) rfl rfl (Nat.le_of_ble_eq_true rfl) (rm_ok (by omega) (by decide)) dX0_visit_15 ?_
  show XJ shA p l e (rmX D) s m args below meth c 0 0 G 9 (MQ below (QcX shA G ((none, r.2) : Option Value × Mem).1 ((none, r.2) : Option Value × Mem).2) args s 0 0 (AW shA G.2.1)) 18 [(0, .ref 34), (1, .int a1), (2, .int a2), (3, .int a3), (4, .int a4), (5, .int a5), (6, .int a6)] [] r3.2
  refine X_iload F dX0_visit_18 rfl ?_
  refine X_bipush F dX0_visit_20 (v := (6 : Int32)) rfl ?_
  refine X_icmp_lt (tgt := 26) F dX0_visit_22 (by decide) (fun q5 => ?_) (fun q5 => ?_)
  · rw [if_pos q5] at h
    refine X_iconst F dX0_visit_26 (v := (0 : Int32)) rfl ?_
    refine X_istore F dX0_visit_27 (by decide) rfl ?_
    refine X_pick [1, 2, 3, 4, 5, 6, 7, 0] rfl ?_
    exact F0_visit_l29_ok F hr hlk hD hrc FUEL _ _ _ _ _ _ _ _ h
  · rw [if_neg q5] at h
    exact X_vret F hr hlk (retV h) dX0_visit_25
def S2 : Nat → Nat → Int32 → Int32 → Int32 → Int32 → Int32 → Int32 → Mem → Option (Int32 × Mem)
  | 0, _, _, _, _, _, _, _, _ => none
  | fu + 1, _, b0, b1, b2, b3, b4, b5, M => F0_visit (S2 fu) M b0 b1 b2 b3 b4 b5
set_option maxRecDepth 20000 in
theorem S2_met {l : Launch} {G : GG} (hI : Inj shA G.2.1) : ∀ (fu D : Nat), 5 + fu ≤ D → ((∀ (b0 : Int32) (b1 : Int32) (b2 : Int32) (b3 : Int32) (b4 : Int32) (b5 : Int32) (M : Mem) (r : Int32 × Mem), S2 fu 0 b0 b1 b2 b3 b4 b5 M = some r → MetX shA l G yX0_visit cX0_visit 9 none (D) [.ref 34, .int b0, .int b1, .int b2, .int b3, .int b4, .int b5] M (none, r.2))) := by
  intro fu
  induction fu with
  | zero =>
    intro D _
    intro b0 b1 b2 b3 b4 b5 M r h; cases h
  | succ fu ih =>
    intro D hD
    have hrc := ih (D - 1) (by omega)
    intro b0 b1 b2 b3 b4 b5 M r h; exact X_met hI (by decide +kernel) (Nat.le_of_ble_eq_true rfl) (fun p e s m args below meth c F hr hlk => F0_visit_ok F hr hlk (by omega) hrc h)
set_option maxRecDepth 20000 in
theorem F0_visit_met {l : Launch} {G : GG} {D : Nat} {r : Int32 × Mem} {M : Mem} {b0 : Int32} {b1 : Int32} {b2 : Int32} {b3 : Int32} {b4 : Int32} {b5 : Int32} (hI : Inj shA G.2.1) (hD : 14 ≤ D) (h : S2 9 0 b0 b1 b2 b3 b4 b5 M = some r) : MetX shA l G yX0_visit cX0_visit 9 none D [.ref 34, .int b0, .int b1, .int b2, .int b3, .int b4, .int b5] M (none, r.2) := (S2_met hI 9 D hD) _ _ _ _ _ _ _ _ h

-- KeepOurPlace$Errands.survey
def F0_survey_l6_b (rec6 : Mem → Int32 → Int32 → Option (Int32 × Mem)) (M : Mem) (x1 : Int32) (x2 : Int32) : Option (Int32 × Mem) :=
    if (64 : Int32) ≤ x2 then
      Option.bind (S2 9 0 x1 (-1 : Int32) (0 : Int32) (0 : Int32) (0 : Int32) (0 : Int32) M) fun r4 =>
      some ((0 : Int32), r4.2)
    else
      if inb x2 64 = true then
      rec6 (up2 M 39 (Int32.toNatClampNeg x2) (-1 : Int32)) x1 (x2 + (1 : Int32))
      else none
def F0_survey_l6 : Nat → Mem → Int32 → Int32 → Option (Int32 × Mem)
  | 0, _, _, _ => none
  | fu + 1, M, x1, x2 => F0_survey_l6_b (F0_survey_l6 fu) M x1 x2
def F0_survey (M : Mem) (a1 : Int32) : Option (Int32 × Mem) :=
    Option.bind (F0_prepare M) fun r1 =>
    F0_survey_l6 FUEL r1.2 a1 (0 : Int32)
set_option maxRecDepth 20000 in
theorem F0_survey_l6_bok {p : Program} {l : Launch} {e : Env} {s : State} {m : MethodId} {args : Array Value} {below : List Frame} {meth : Method} {c : Code} {G : GG} {D : Nat} {r : Int32 × Mem} {rec6 : Mem → Int32 → Int32 → Option (Int32 × Mem)} (F : FrP shA G p s m args c RX0 cX0_survey 3) (hr : meth.sig.returnType = none) (hlk : meth.locks = false) (hD : 15 ≤ D) (hrec6 : ∀ (M : Mem) (x1 : Int32) (x2 : Int32), rec6 M x1 x2 = some r → XJ shA p l e (rmX D) s m args below meth c 0 0 G 3 (MQ below (QcX shA G ((none, r.2) : Option Value × Mem).1 ((none, r.2) : Option Value × Mem).2) args s 0 0 (AW shA G.2.1)) 6 [(0, .ref 34), (1, .int x1), (2, .int x2)] [] M) {M : Mem} {x1 : Int32} {x2 : Int32} (h : F0_survey_l6_b rec6 M x1 x2 = some r) : XJ shA p l e (rmX D) s m args below meth c 0 0 G 3 (MQ below (QcX shA G ((none, r.2) : Option Value × Mem).1 ((none, r.2) : Option Value × Mem).2) args s 0 0 (AW shA G.2.1)) 6 [(0, .ref 34), (1, .int x1), (2, .int x2)] [] M := by
  unfold F0_survey_l6_b at h
  refine X_iload_n F dX0_survey_6 rfl ?_
  refine X_bipush F dX0_survey_7 (v := (64 : Int32)) rfl ?_
  refine X_icmp_ge (tgt := 25) F dX0_survey_9 (by decide) (fun q3 => ?_) (fun q3 => ?_)
  · rw [if_pos q3] at h
    refine X_aload_n F dX0_survey_25 rfl ?_
    refine X_iload_n F dX0_survey_26 rfl ?_
    refine X_iconst F dX0_survey_27 (v := (-1 : Int32)) rfl ?_
    refine X_iconst F dX0_survey_28 (v := (0 : Int32)) rfl ?_
    refine X_iconst F dX0_survey_29 (v := (0 : Int32)) rfl ?_
    refine X_iconst F dX0_survey_30 (v := (0 : Int32)) rfl ?_
    refine X_iconst F dX0_survey_31 (v := (0 : Int32)) rfl ?_
    obtain ⟨r4, h5, h⟩ := bndS h
    refine X_callS (As := [.ref 34, .int x1, .int (-1 : Int32), .int (0 : Int32), .int (0 : Int32), .int (0 : Int32), .int (0 : Int32)]) (rest := []) F fsRX0_127 feX0_visit ftX0_visit (F0_visit_met (D := D - 1) F.2.2.2.2.2.2.2.1 (by omega) h5) rfl rfl (Nat.le_of_ble_eq_true rfl) (rm_ok (by omega) (by decide)) dX0_survey_32 ?_
    show XJ shA p l e (rmX D) s m args below meth c 0 0 G 3 (MQ below (QcX shA G ((none, r.2) : Option Value × Mem).1 ((none, r.2) : Option Value × Mem).2) args s 0 0 (AW shA G.2.1)) 35 [(0, .ref 34), (1, .int x1), (2, .int x2)] [] r4.2
    exact X_vret F hr hlk (retV h) dX0_survey_35
  · rw [if_neg q3] at h
    refine X_aload_n F dX0_survey_12 rfl ?_
    refine X_getr F ffRX0_24 dX0_survey_13 ?_
    refine X_iload_n F dX0_survey_16 rfl ?_
    refine X_iconst F dX0_survey_17 (v := (-1 : Int32)) rfl ?_
    obtain ⟨q6, h⟩ := ifS h
    refine X_iast (j := (Int32.toNatClampNeg x2)) F rfl (inbV q6) rfl dX0_survey_18 ?_
    refine X_iinc F dX0_survey_19 rfl (v := (1 : Int32)) rfl (by decide) rfl ?_
    refine X_goto (tgt := 6) F dX0_survey_22 (by decide) ?_
    refine X_pick [1, 2, 0] rfl ?_
    exact hrec6 _ _ _ h
set_option maxRecDepth 20000 in
theorem F0_survey_l6_ok {p : Program} {l : Launch} {e : Env} {s : State} {m : MethodId} {args : Array Value} {below : List Frame} {meth : Method} {c : Code} {G : GG} {D : Nat} {r : Int32 × Mem} (F : FrP shA G p s m args c RX0 cX0_survey 3) (hr : meth.sig.returnType = none) (hlk : meth.locks = false) (hD : 15 ≤ D) : ∀ (fu : Nat) (M : Mem) (x1 : Int32) (x2 : Int32), F0_survey_l6 fu M x1 x2 = some r → XJ shA p l e (rmX D) s m args below meth c 0 0 G 3 (MQ below (QcX shA G ((none, r.2) : Option Value × Mem).1 ((none, r.2) : Option Value × Mem).2) args s 0 0 (AW shA G.2.1)) 6 [(0, .ref 34), (1, .int x1), (2, .int x2)] [] M := by
  intro fu
  induction fu with
  | zero => intro M x1 x2 h; cases h
  | succ fu ih => intro M x1 x2 h; exact F0_survey_l6_bok F hr hlk hD (fun M x1 x2 => ih M x1 x2) h
set_option maxRecDepth 20000 in
theorem F0_survey_ok {p : Program} {l : Launch} {e : Env} {s : State} {m : MethodId} {args : Array Value} {below : List Frame} {meth : Method} {c : Code} {G : GG} {D : Nat} {r : Int32 × Mem} (F : FrP shA G p s m args c RX0 cX0_survey 3) (hr : meth.sig.returnType = none) (hlk : meth.locks = false) (hD : 15 ≤ D) {M : Mem} {a1 : Int32} (h : F0_survey M a1 = some r) : XJ shA p l e (rmX D) s m args below meth c 0 0 G 3 (MQ below (QcX shA G ((none, r.2) : Option Value × Mem).1 ((none, r.2) : Option Value × Mem).2) args s 0 0 (AW shA G.2.1)) 0 [(0, .ref 34), (1, .int a1)] [] M := by
  unfold F0_survey at h
  refine X_aload_n F dX0_survey_0 rfl ?_
  obtain ⟨r1, h2, h⟩ := bndS h
  refine X_callV (ci := 34) (As := []) (rest := []) F fkRX0_124 feX0_prepare fvX0_prepare ⟨_, _, _, rfl, rfl, rfl⟩ (F0_prepare_met (D := D - 1) F.2.2.2.2.2.2.2.1 (by omega) h2) rfl rfl (Nat.le_of_ble_eq_true rfl) (rm_ok (by omega) (by decide)) dX0_survey_1 ?_
  show XJ shA p l e (rmX D) s m args below meth c 0 0 G 3 (MQ below (QcX shA G ((none, r.2) : Option Value × Mem).1 ((none, r.2) : Option Value × Mem).2) args s 0 0 (AW shA G.2.1)) 4 [(0, .ref 34), (1, .int a1)] [] r1.2
  refine X_iconst F dX0_survey_4 (v := (0 : Int32)) rfl ?_
  refine X_istore_n F dX0_survey_5 (by decide) rfl ?_
  refine X_pick [1, 2, 0] rfl ?_
  exact F0_survey_l6_ok F hr hlk hD FUEL _ _ _ h
set_option maxRecDepth 20000 in
theorem F0_survey_met {l : Launch} {G : GG} {D : Nat} {r : Int32 × Mem} {M : Mem} {a1 : Int32} (hI : Inj shA G.2.1) (hD : 15 ≤ D) (h : F0_survey M a1 = some r) : MetX shA l G yX0_survey cX0_survey 3 none D [.ref 34, .int a1] M (none, r.2) :=
  X_met hI (by decide +kernel) (Nat.le_of_ble_eq_true rfl) (fun p e s m args below meth c F hr hlk => F0_survey_ok F hr hlk hD h)
-- KeepOurPlace$Errands.isBetter
def F0_isBetter (M : Mem) (a1 : Int32) (a2 : Int32) : Option (Int32 × Mem) :=
    if inb a1 64 = true then
    if inb a2 64 = true then
    if (M 41 (Int32.toNatClampNeg a2)) < (M 41 (Int32.toNatClampNeg a1)) then
      some ((1 : Int32), M)
    else
      if ¬ (M 41 (Int32.toNatClampNeg a1)) = (M 41 (Int32.toNatClampNeg a2)) then
        some ((0 : Int32), M)
      else
        if (M 39 (Int32.toNatClampNeg a2)) ≤ (M 39 (Int32.toNatClampNeg a1)) then
          some ((0 : Int32), M)
        else
          some ((1 : Int32), M)
    else none
    else none
set_option maxRecDepth 20000 in
theorem F0_isBetter_ok {p : Program} {l : Launch} {e : Env} {s : State} {m : MethodId} {args : Array Value} {below : List Frame} {meth : Method} {c : Code} {G : GG} {D : Nat} {r : Int32 × Mem} (F : FrP shA G p s m args c RX0 cX0_isBetter 3) (hr : meth.sig.returnType = (some .boolean)) (hlk : meth.locks = false) (hD : 1 ≤ D) {M : Mem} {a1 : Int32} {a2 : Int32} (h : F0_isBetter M a1 a2 = some r) : XJ shA p l e (rmX D) s m args below meth c 0 0 G 3 (MQ below (QcX shA G ((some (.int r.1), r.2) : Option Value × Mem).1 ((some (.int r.1), r.2) : Option Value × Mem).2) args s 0 0 (AW shA G.2.1)) 0 [(0, .ref 34), (1, .int a1), (2, .int a2)] [] M := by
  unfold F0_isBetter at h
  refine X_aload_n F dX0_isBetter_0 rfl ?_
  refine X_getr F ffRX0_30 dX0_isBetter_1 ?_
  refine X_iload_n F dX0_isBetter_4 rfl ?_
  obtain ⟨q1, h⟩ := ifS h
  refine X_iald (j := (Int32.toNatClampNeg a1)) (v := (M 41 (Int32.toNatClampNeg a1))) F rfl (inbV q1) rfl rfl dX0_isBetter_5 ?_
  refine X_aload_n F dX0_isBetter_6 rfl ?_
  refine X_getr F ffRX0_30 dX0_isBetter_7 ?_
  refine X_iload_n F dX0_isBetter_10 rfl ?_
  obtain ⟨q2, h⟩ := ifS h
  refine X_iald (j := (Int32.toNatClampNeg a2)) (v := (M 41 (Int32.toNatClampNeg a2))) F rfl (inbV q2) rfl rfl dX0_isBetter_11 ?_
  refine X_icmp_gt (tgt := 45) F dX0_isBetter_12 (by decide) (fun q3 => ?_) (fun q3 => ?_)
  · rw [if_pos q3] at h
    refine X_iconst F dX0_isBetter_45 (v := (1 : Int32)) rfl ?_
    refine X_goto (tgt := 50) F dX0_isBetter_46 (by decide) ?_
    exact X_zret F hr hlk rfl (retI h) dX0_isBetter_50
  · rw [if_neg q3] at h
    refine X_aload_n F dX0_isBetter_15 rfl ?_
    refine X_getr F ffRX0_30 dX0_isBetter_16 ?_
    refine X_iload_n F dX0_isBetter_19 rfl ?_
    refine X_iald (j := (Int32.toNatClampNeg a1)) (v := (M 41 (Int32.toNatClampNeg a1))) F rfl (inbV q1) rfl rfl dX0_isBetter_20 ?_
    refine X_aload_n F dX0_isBetter_21 rfl ?_
    refine X_getr F ffRX0_30 dX0_isBetter_22 ?_
    refine X_iload_n F dX0_isBetter_25 rfl ?_
    refine X_iald (j := (Int32.toNatClampNeg a2)) (v := (M 41 (Int32.toNatClampNeg a2))) F rfl (inbV q2) rfl rfl dX0_isBetter_26 ?_
    refine X_icmp_ne (tgt := 49) F dX0_isBetter_27 (by decide) (fun q4 => ?_) (fun q4 => ?_)
    · rw [if_pos q4] at h
      refine X_iconst F dX0_isBetter_49 (v := (0 : Int32)) rfl ?_
      exact X_zret F hr hlk rfl (retI h) dX0_isBetter_50
    · rw [if_neg (fun z => z q4)] at h
      refine X_aload_n F dX0_isBetter_30 rfl ?_
      refine X_getr F ffRX0_24 dX0_isBetter_31 ?_
      refine X_iload_n F dX0_isBetter_34 rfl ?_
      refine X_iald (j := (Int32.toNatClampNeg a1)) (v := (M 39 (Int32.toNatClampNeg a1))) F rfl (inbV q1) rfl rfl dX0_isBetter_35 ?_
      refine X_aload_n F dX0_isBetter_36 rfl ?_
      refine X_getr F ffRX0_24 dX0_isBetter_37 ?_
      refine X_iload_n F dX0_isBetter_40 rfl ?_
      refine X_iald (j := (Int32.toNatClampNeg a2)) (v := (M 39 (Int32.toNatClampNeg a2))) F rfl (inbV q2) rfl rfl dX0_isBetter_41 ?_
      refine X_icmp_ge (tgt := 49) F dX0_isBetter_42 (by decide) (fun q5 => ?_) (fun q5 => ?_)
      · rw [if_pos q5] at h
        refine X_iconst F dX0_isBetter_49 (v := (0 : Int32)) rfl ?_
        exact X_zret F hr hlk rfl (retI h) dX0_isBetter_50
      · rw [if_neg q5] at h
        refine X_iconst F dX0_isBetter_45 (v := (1 : Int32)) rfl ?_
        refine X_goto (tgt := 50) F dX0_isBetter_46 (by decide) ?_
        exact X_zret F hr hlk rfl (retI h) dX0_isBetter_50
set_option maxRecDepth 20000 in
theorem F0_isBetter_met {l : Launch} {G : GG} {D : Nat} {r : Int32 × Mem} {M : Mem} {a1 : Int32} {a2 : Int32} (hI : Inj shA G.2.1) (hD : 1 ≤ D) (h : F0_isBetter M a1 a2 = some r) : MetX shA l G yX0_isBetter cX0_isBetter 3 (some .boolean) D [.ref 34, .int a1, .int a2] M (some (.int r.1), r.2) :=
  X_met hI (by decide +kernel) (Nat.le_of_ble_eq_true rfl) (fun p e s m args below meth c F hr hlk => F0_isBetter_ok F hr hlk hD h)
-- KeepOurPlace$Errands.choose
def F0_choose_j39 (rec4 : Mem → Int32 → Int32 → Int32 → Option (Int32 × Mem)) (M : Mem) (x1 : Int32) (x2 : Int32) (x3 : Int32) : Option (Int32 × Mem) :=
    rec4 M x1 x2 (x3 + (1 : Int32))
def F0_choose_l4_b (rec4 : Mem → Int32 → Int32 → Int32 → Option (Int32 × Mem)) (M : Mem) (x1 : Int32) (x2 : Int32) (x3 : Int32) : Option (Int32 × Mem) :=
    if (64 : Int32) ≤ x3 then
      some (x2, M)
    else
      if ¬ (x3 &&& (x1 ^^^ (-1 : Int32))) = 0 then
        F0_choose_j39 rec4 M x1 x2 x3
      else
        if inb x3 64 = true then
        if (M 39 (Int32.toNatClampNeg x3)) = (-1 : Int32) then
          F0_choose_j39 rec4 M x1 x2 x3
        else
          Option.bind (F0_isBetter M x3 x2) fun r5 =>
          if r5.1 = 0 then
            F0_choose_j39 rec4 r5.2 x1 x2 x3
          else
            F0_choose_j39 rec4 r5.2 x1 x3 x3
        else none
def F0_choose_l4 : Nat → Mem → Int32 → Int32 → Int32 → Option (Int32 × Mem)
  | 0, _, _, _, _ => none
  | fu + 1, M, x1, x2, x3 => F0_choose_l4_b (F0_choose_l4 fu) M x1 x2 x3
def F0_choose (M : Mem) (a1 : Int32) : Option (Int32 × Mem) :=
    F0_choose_l4 FUEL M a1 (0 : Int32) (1 : Int32)
set_option maxRecDepth 20000 in
theorem F0_choose_j39_ok {p : Program} {l : Launch} {e : Env} {s : State} {m : MethodId} {args : Array Value} {below : List Frame} {meth : Method} {c : Code} {G : GG} {D : Nat} {r : Int32 × Mem} {rec4 : Mem → Int32 → Int32 → Int32 → Option (Int32 × Mem)} (F : FrP shA G p s m args c RX0 cX0_choose 4) (hr : meth.sig.returnType = (some .int)) (hlk : meth.locks = false) (hD : 2 ≤ D) (hrec4 : ∀ (M : Mem) (x1 : Int32) (x2 : Int32) (x3 : Int32), rec4 M x1 x2 x3 = some r → XJ shA p l e (rmX D) s m args below meth c 0 0 G 4 (MQ below (QcX shA G ((some (.int r.1), r.2) : Option Value × Mem).1 ((some (.int r.1), r.2) : Option Value × Mem).2) args s 0 0 (AW shA G.2.1)) 4 [(0, .ref 34), (1, .int x1), (2, .int x2), (3, .int x3)] [] M) {M : Mem} {x1 : Int32} {x2 : Int32} {x3 : Int32} (h : F0_choose_j39 rec4 M x1 x2 x3 = some r) : XJ shA p l e (rmX D) s m args below meth c 0 0 G 4 (MQ below (QcX shA G ((some (.int r.1), r.2) : Option Value × Mem).1 ((some (.int r.1), r.2) : Option Value × Mem).2) args s 0 0 (AW shA G.2.1)) 39 [(0, .ref 34), (1, .int x1), (2, .int x2), (3, .int x3)] [] M := by
  unfold F0_choose_j39 at h
  refine X_iinc F dX0_choose_39 rfl (v := (1 : Int32)) rfl (by decide) rfl ?_
  refine X_goto (tgt := 4) F dX0_choose_42 (by decide) ?_
  refine X_pick [1, 2, 3, 0] rfl ?_
  exact hrec4 _ _ _ _ h
set_option maxRecDepth 20000 in
theorem F0_choose_l4_bok {p : Program} {l : Launch} {e : Env} {s : State} {m : MethodId} {args : Array Value} {below : List Frame} {meth : Method} {c : Code} {G : GG} {D : Nat} {r : Int32 × Mem} {rec4 : Mem → Int32 → Int32 → Int32 → Option (Int32 × Mem)} (F : FrP shA G p s m args c RX0 cX0_choose 4) (hr : meth.sig.returnType = (some .int)) (hlk : meth.locks = false) (hD : 2 ≤ D) (hrec4 : ∀ (M : Mem) (x1 : Int32) (x2 : Int32) (x3 : Int32), rec4 M x1 x2 x3 = some r → XJ shA p l e (rmX D) s m args below meth c 0 0 G 4 (MQ below (QcX shA G ((some (.int r.1), r.2) : Option Value × Mem).1 ((some (.int r.1), r.2) : Option Value × Mem).2) args s 0 0 (AW shA G.2.1)) 4 [(0, .ref 34), (1, .int x1), (2, .int x2), (3, .int x3)] [] M) {M : Mem} {x1 : Int32} {x2 : Int32} {x3 : Int32} (h : F0_choose_l4_b rec4 M x1 x2 x3 = some r) : XJ shA p l e (rmX D) s m args below meth c 0 0 G 4 (MQ below (QcX shA G ((some (.int r.1), r.2) : Option Value × Mem).1 ((some (.int r.1), r.2) : Option Value × Mem).2) args s 0 0 (AW shA G.2.1)) 4 [(0, .ref 34), (1, .int x1), (2, .int x2), (3, .int x3)] [] M := by
  unfold F0_choose_l4_b at h
  refine X_iload_n F dX0_choose_4 rfl ?_
  refine X_bipush F dX0_choose_5 (v := (64 : Int32)) rfl ?_
  refine X_icmp_ge (tgt := 45) F dX0_choose_7 (by decide) (fun q1 => ?_) (fun q1 => ?_)
  · rw [if_pos q1] at h
    refine X_iload_n F dX0_choose_45 rfl ?_
    exact X_iret F hr hlk (retI h) dX0_choose_46
  · rw [if_neg q1] at h
    refine X_iload_n F dX0_choose_10 rfl ?_
    refine X_iload_n F dX0_choose_11 rfl ?_
    refine X_iconst F dX0_choose_12 (v := (-1 : Int32)) rfl ?_
    refine X_ixor F dX0_choose_13 ?_
    refine X_iand F dX0_choose_14 ?_
    refine X_if_ne (tgt := 39) F dX0_choose_15 (by decide) (fun q2 => ?_) (fun q2 => ?_)
    · rw [if_pos q2] at h
      exact F0_choose_j39_ok F hr hlk hD hrec4 h
    · rw [if_neg (fun z => z q2)] at h
      refine X_aload_n F dX0_choose_18 rfl ?_
      refine X_getr F ffRX0_24 dX0_choose_19 ?_
      refine X_iload_n F dX0_choose_22 rfl ?_
      obtain ⟨q3, h⟩ := ifS h
      refine X_iald (j := (Int32.toNatClampNeg x3)) (v := (M 39 (Int32.toNatClampNeg x3))) F rfl (inbV q3) rfl rfl dX0_choose_23 ?_
      refine X_iconst F dX0_choose_24 (v := (-1 : Int32)) rfl ?_
      refine X_icmp_eq (tgt := 39) F dX0_choose_25 (by decide) (fun q4 => ?_) (fun q4 => ?_)
      · rw [if_pos q4] at h
        exact F0_choose_j39_ok F hr hlk hD hrec4 h
      · rw [if_neg q4] at h
        refine X_aload_n F dX0_choose_28 rfl ?_
        refine X_iload_n F dX0_choose_29 rfl ?_
        refine X_iload_n F dX0_choose_30 rfl ?_
        obtain ⟨r5, h6, h⟩ := bndS h
        refine X_callV (ci := 34) (As := [.int x3, .int x2]) (rest := []) F fkRX0_150 feX0_isBetter fvX0_isBetter ⟨_, _, _, rfl, rfl, rfl⟩ (F0_isBetter_met (D := D - 1) F.2.2.2.2.2.2.2.1 (by omega) h6) rfl rfl (Nat.le_of_ble_eq_true rfl) (rm_ok (by omega) (by decide)) dX0_choose_31 ?_
        show XJ shA p l e (rmX D) s m args below meth c 0 0 G 4 (MQ below (QcX shA G ((some (.int r.1), r.2) : Option Value × Mem).1 ((some (.int r.1), r.2) : Option Value × Mem).2) args s 0 0 (AW shA G.2.1)) 34 [(0, .ref 34), (1, .int x1), (2, .int x2), (3, .int x3)] [.int r5.1] r5.2
        refine X_if_eq (tgt := 39) F dX0_choose_34 (by decide) (fun q7 => ?_) (fun q7 => ?_)
        · rw [if_pos q7] at h
          exact F0_choose_j39_ok F hr hlk hD hrec4 h
        · rw [if_neg q7] at h
          refine X_iload_n F dX0_choose_37 rfl ?_
          refine X_istore_n F dX0_choose_38 (by decide) rfl ?_
          refine X_pick [1, 2, 0, 3] rfl ?_
          exact F0_choose_j39_ok F hr hlk hD hrec4 h
set_option maxRecDepth 20000 in
theorem F0_choose_l4_ok {p : Program} {l : Launch} {e : Env} {s : State} {m : MethodId} {args : Array Value} {below : List Frame} {meth : Method} {c : Code} {G : GG} {D : Nat} {r : Int32 × Mem} (F : FrP shA G p s m args c RX0 cX0_choose 4) (hr : meth.sig.returnType = (some .int)) (hlk : meth.locks = false) (hD : 2 ≤ D) : ∀ (fu : Nat) (M : Mem) (x1 : Int32) (x2 : Int32) (x3 : Int32), F0_choose_l4 fu M x1 x2 x3 = some r → XJ shA p l e (rmX D) s m args below meth c 0 0 G 4 (MQ below (QcX shA G ((some (.int r.1), r.2) : Option Value × Mem).1 ((some (.int r.1), r.2) : Option Value × Mem).2) args s 0 0 (AW shA G.2.1)) 4 [(0, .ref 34), (1, .int x1), (2, .int x2), (3, .int x3)] [] M := by
  intro fu
  induction fu with
  | zero => intro M x1 x2 x3 h; cases h
  | succ fu ih => intro M x1 x2 x3 h; exact F0_choose_l4_bok F hr hlk hD (fun M x1 x2 x3 => ih M x1 x2 x3) h
set_option maxRecDepth 20000 in
theorem F0_choose_ok {p : Program} {l : Launch} {e : Env} {s : State} {m : MethodId} {args : Array Value} {below : List Frame} {meth : Method} {c : Code} {G : GG} {D : Nat} {r : Int32 × Mem} (F : FrP shA G p s m args c RX0 cX0_choose 4) (hr : meth.sig.returnType = (some .int)) (hlk : meth.locks = false) (hD : 2 ≤ D) {M : Mem} {a1 : Int32} (h : F0_choose M a1 = some r) : XJ shA p l e (rmX D) s m args below meth c 0 0 G 4 (MQ below (QcX shA G ((some (.int r.1), r.2) : Option Value × Mem).1 ((some (.int r.1), r.2) : Option Value × Mem).2) args s 0 0 (AW shA G.2.1)) 0 [(0, .ref 34), (1, .int a1)] [] M := by
  unfold F0_choose at h
  refine X_iconst F dX0_choose_0 (v := (0 : Int32)) rfl ?_
  refine X_istore_n F dX0_choose_1 (by decide) rfl ?_
  refine X_iconst F dX0_choose_2 (v := (1 : Int32)) rfl ?_
  refine X_istore_n F dX0_choose_3 (by decide) rfl ?_
  refine X_pick [2, 3, 1, 0] rfl ?_
  exact F0_choose_l4_ok F hr hlk hD FUEL _ _ _ _ h
set_option maxRecDepth 20000 in
theorem F0_choose_met {l : Launch} {G : GG} {D : Nat} {r : Int32 × Mem} {M : Mem} {a1 : Int32} (hI : Inj shA G.2.1) (hD : 2 ≤ D) (h : F0_choose M a1 = some r) : MetX shA l G yX0_choose cX0_choose 4 (some .int) D [.ref 34, .int a1] M (some (.int r.1), r.2) :=
  X_met hI (by decide +kernel) (Nat.le_of_ble_eq_true rfl) (fun p e s m args below meth c F hr hlk => F0_choose_ok F hr hlk hD h)
-- KeepOurPlace$Errands.takePlan
def F0_takePlan_j78 (rec40 : Mem → Int32 → Int32 → Int32 → Option (Int32 × Mem)) (M : Mem) (x1 : Int32) (x2 : Int32) (x3 : Int32) : Option (Int32 × Mem) :=
    rec40 M x1 (x2 / (10 : Int32)) (x3 + (1 : Int32))
def F0_takePlan_l40_b (rec40 : Mem → Int32 → Int32 → Int32 → Option (Int32 × Mem)) (M : Mem) (x1 : Int32) (x2 : Int32) (x3 : Int32) : Option (Int32 × Mem) :=
    if (6 : Int32) ≤ x3 then
      some ((0 : Int32), M)
    else
      if x2 ≤ 0 then
        some ((0 : Int32), M)
      else
        if ¬ x2 = 0 then
        Option.bind (F6_holds M ((jrem (x1 / x2) (10 : Int32)) - (1 : Int32))) fun r8 =>
        if r8.1 = 0 then
          F0_takePlan_j78 rec40 r8.2 x1 x2 x3
        else
          Option.bind (F0_goTo r8.2 ((jrem (x1 / x2) (10 : Int32)) - (1 : Int32))) fun r11 =>
          F0_takePlan_j78 rec40 r11.2 x1 x2 x3
        else none
def F0_takePlan_l40 : Nat → Mem → Int32 → Int32 → Int32 → Option (Int32 × Mem)
  | 0, _, _, _, _ => none
  | fu + 1, M, x1, x2, x3 => F0_takePlan_l40_b (F0_takePlan_l40 fu) M x1 x2 x3
def F0_takePlan_j38 (M : Mem) (x1 : Int32) (x2 : Int32) : Option (Int32 × Mem) :=
    F0_takePlan_l40 FUEL M x1 x2 (0 : Int32)
def F0_takePlan_l9_b (rec9 : Mem → Int32 → Int32 → Int32 → Option (Int32 × Mem)) (M : Mem) (x1 : Int32) (x2 : Int32) (x3 : Int32) : Option (Int32 × Mem) :=
    if (6 : Int32) ≤ x3 then
      F0_takePlan_j38 M x1 x2
    else
      if x2 ≤ 0 then
        F0_takePlan_j38 M x1 x2
      else
        if ¬ x2 = 0 then
        if (x1 / x2) < (10 : Int32) then
          F0_takePlan_j38 M x1 x2
        else
          rec9 M x1 (x2 * (10 : Int32)) (x3 + (1 : Int32))
        else none
def F0_takePlan_l9 : Nat → Mem → Int32 → Int32 → Int32 → Option (Int32 × Mem)
  | 0, _, _, _, _ => none
  | fu + 1, M, x1, x2, x3 => F0_takePlan_l9_b (F0_takePlan_l9 fu) M x1 x2 x3
def F0_takePlan (M : Mem) (a1 : Int32) : Option (Int32 × Mem) :=
    F0_takePlan_l9 FUEL (up2 M 34 8 (0 : Int32)) a1 (1 : Int32) (1 : Int32)
set_option maxRecDepth 20000 in
theorem F0_takePlan_j78_ok {p : Program} {l : Launch} {e : Env} {s : State} {m : MethodId} {args : Array Value} {below : List Frame} {meth : Method} {c : Code} {G : GG} {D : Nat} {r : Int32 × Mem} {rec40 : Mem → Int32 → Int32 → Int32 → Option (Int32 × Mem)} (F : FrP shA G p s m args c RX0 cX0_takePlan 5) (hr : meth.sig.returnType = none) (hlk : meth.locks = false) (hD : 2 ≤ D) (hrec40 : ∀ (M : Mem) (x1 : Int32) (x2 : Int32) (x3 : Int32), rec40 M x1 x2 x3 = some r → XJ shA p l e (rmX D) s m args below meth c 0 0 G 5 (MQ below (QcX shA G ((none, r.2) : Option Value × Mem).1 ((none, r.2) : Option Value × Mem).2) args s 0 0 (AW shA G.2.1)) 40 [(0, .ref 34), (1, .int x1), (2, .int x2), (3, .int x3)] [] M) {M : Mem} {x1 : Int32} {x2 : Int32} {x3 : Int32} (h : F0_takePlan_j78 rec40 M x1 x2 x3 = some r) : XJ shA p l e (rmX D) s m args below meth c 0 0 G 5 (MQ below (QcX shA G ((none, r.2) : Option Value × Mem).1 ((none, r.2) : Option Value × Mem).2) args s 0 0 (AW shA G.2.1)) 78 [(0, .ref 34), (1, .int x1), (2, .int x2), (3, .int x3)] [] M := by
  unfold F0_takePlan_j78 at h
  refine X_iload_n F dX0_takePlan_78 rfl ?_
  refine X_bipush F dX0_takePlan_79 (v := (10 : Int32)) rfl ?_
  refine X_idiv F dX0_takePlan_81 (by decide) ?_
  refine X_istore_n F dX0_takePlan_82 (by decide) rfl ?_
  refine X_iinc F dX0_takePlan_83 rfl (v := (1 : Int32)) rfl (by decide) rfl ?_
  refine X_goto (tgt := 40) F dX0_takePlan_86 (by decide) ?_
  refine X_pick [2, 3, 1, 0] rfl ?_
  exact hrec40 _ _ _ _ h
set_option maxRecDepth 20000 in
theorem F0_takePlan_l40_bok {p : Program} {l : Launch} {e : Env} {s : State} {m : MethodId} {args : Array Value} {below : List Frame} {meth : Method} {c : Code} {G : GG} {D : Nat} {r : Int32 × Mem} {rec40 : Mem → Int32 → Int32 → Int32 → Option (Int32 × Mem)} (F : FrP shA G p s m args c RX0 cX0_takePlan 5) (hr : meth.sig.returnType = none) (hlk : meth.locks = false) (hD : 2 ≤ D) (hrec40 : ∀ (M : Mem) (x1 : Int32) (x2 : Int32) (x3 : Int32), rec40 M x1 x2 x3 = some r → XJ shA p l e (rmX D) s m args below meth c 0 0 G 5 (MQ below (QcX shA G ((none, r.2) : Option Value × Mem).1 ((none, r.2) : Option Value × Mem).2) args s 0 0 (AW shA G.2.1)) 40 [(0, .ref 34), (1, .int x1), (2, .int x2), (3, .int x3)] [] M) {M : Mem} {x1 : Int32} {x2 : Int32} {x3 : Int32} (h : F0_takePlan_l40_b rec40 M x1 x2 x3 = some r) : XJ shA p l e (rmX D) s m args below meth c 0 0 G 5 (MQ below (QcX shA G ((none, r.2) : Option Value × Mem).1 ((none, r.2) : Option Value × Mem).2) args s 0 0 (AW shA G.2.1)) 40 [(0, .ref 34), (1, .int x1), (2, .int x2), (3, .int x3)] [] M := by
  unfold F0_takePlan_l40_b at h
  refine X_iload_n F dX0_takePlan_40 rfl ?_
  refine X_bipush F dX0_takePlan_41 (v := (6 : Int32)) rfl ?_
  refine X_icmp_ge (tgt := 89) F dX0_takePlan_43 (by decide) (fun q5 => ?_) (fun q5 => ?_)
  · rw [if_pos q5] at h
    exact X_vret F hr hlk (retV h) dX0_takePlan_89
  · rw [if_neg q5] at h
    refine X_iload_n F dX0_takePlan_46 rfl ?_
    refine X_if_le (tgt := 89) F dX0_takePlan_47 (by decide) (fun q6 => ?_) (fun q6 => ?_)
    · rw [if_pos q6] at h
      exact X_vret F hr hlk (retV h) dX0_takePlan_89
    · rw [if_neg q6] at h
      refine X_iload_n F dX0_takePlan_50 rfl ?_
      refine X_iload_n F dX0_takePlan_51 rfl ?_
      obtain ⟨q7, h⟩ := ifS h
      refine X_idiv F dX0_takePlan_52 q7 ?_
      refine X_bipush F dX0_takePlan_53 (v := (10 : Int32)) rfl ?_
      refine X_irem F dX0_takePlan_55 (by decide) ?_
      refine X_iconst F dX0_takePlan_56 (v := (1 : Int32)) rfl ?_
      refine X_isub F dX0_takePlan_57 ?_
      refine X_istore F dX0_takePlan_58 (by decide) rfl ?_
      refine X_aload_n F dX0_takePlan_60 rfl ?_
      refine X_getr F ffRX0_37 dX0_takePlan_61 ?_
      refine X_iload F dX0_takePlan_64 rfl ?_
      obtain ⟨r8, h9, h⟩ := bndS h
      refine X_callV (ci := 5) (As := [.int ((jrem (x1 / x2) (10 : Int32)) - (1 : Int32))]) (rest := []) F fkRX0_93 feX6_holds fvX6_holds ⟨_, _, _, rfl, rfl, rfl⟩ (F6_holds_met (D := D - 1) F.2.2.2.2.2.2.2.1 (by omega) h9) rfl rfl (Nat.le_of_ble_eq_true rfl) (rm_ok (by omega) (by decide)) dX0_takePlan_66 ?_
      show XJ shA p l e (rmX D) s m args below meth c 0 0 G 5 (MQ below (QcX shA G ((none, r.2) : Option Value × Mem).1 ((none, r.2) : Option Value × Mem).2) args s 0 0 (AW shA G.2.1)) 69 [(4, .int ((jrem (x1 / x2) (10 : Int32)) - (1 : Int32))), (0, .ref 34), (1, .int x1), (2, .int x2), (3, .int x3)] [.int r8.1] r8.2
      refine X_if_eq (tgt := 78) F dX0_takePlan_69 (by decide) (fun q10 => ?_) (fun q10 => ?_)
      · rw [if_pos q10] at h
        refine X_pick [1, 2, 3, 4] rfl ?_
        exact F0_takePlan_j78_ok F hr hlk hD hrec40 h
      · rw [if_neg q10] at h
        refine X_aload_n F dX0_takePlan_72 rfl ?_
        refine X_iload F dX0_takePlan_73 rfl ?_
        obtain ⟨r11, h12, h⟩ := bndS h
        refine X_callV (ci := 34) (As := [.int ((jrem (x1 / x2) (10 : Int32)) - (1 : Int32))]) (rest := []) F fkRX0_97 feX0_goTo fvX0_goTo ⟨_, _, _, rfl, rfl, rfl⟩ (F0_goTo_met (D := D - 1) F.2.2.2.2.2.2.2.1 (by omega) h12) rfl rfl (Nat.le_of_ble_eq_true rfl) (rm_ok (by omega) (by decide)) dX0_takePlan_75 ?_
        show XJ shA p l e (rmX D) s m args below meth c 0 0 G 5 (MQ below (QcX shA G ((none, r.2) : Option Value × Mem).1 ((none, r.2) : Option Value × Mem).2) args s 0 0 (AW shA G.2.1)) 78 [(4, .int ((jrem (x1 / x2) (10 : Int32)) - (1 : Int32))), (0, .ref 34), (1, .int x1), (2, .int x2), (3, .int x3)] [] r11.2
        refine X_pick [1, 2, 3, 4] rfl ?_
        exact F0_takePlan_j78_ok F hr hlk hD hrec40 h
set_option maxRecDepth 20000 in
theorem F0_takePlan_l40_ok {p : Program} {l : Launch} {e : Env} {s : State} {m : MethodId} {args : Array Value} {below : List Frame} {meth : Method} {c : Code} {G : GG} {D : Nat} {r : Int32 × Mem} (F : FrP shA G p s m args c RX0 cX0_takePlan 5) (hr : meth.sig.returnType = none) (hlk : meth.locks = false) (hD : 2 ≤ D) : ∀ (fu : Nat) (M : Mem) (x1 : Int32) (x2 : Int32) (x3 : Int32), F0_takePlan_l40 fu M x1 x2 x3 = some r → XJ shA p l e (rmX D) s m args below meth c 0 0 G 5 (MQ below (QcX shA G ((none, r.2) : Option Value × Mem).1 ((none, r.2) : Option Value × Mem).2) args s 0 0 (AW shA G.2.1)) 40 [(0, .ref 34), (1, .int x1), (2, .int x2), (3, .int x3)] [] M := by
  intro fu
  induction fu with
  | zero => intro M x1 x2 x3 h; cases h
  | succ fu ih => intro M x1 x2 x3 h; exact F0_takePlan_l40_bok F hr hlk hD (fun M x1 x2 x3 => ih M x1 x2 x3) h
set_option maxRecDepth 20000 in
theorem F0_takePlan_j38_ok {p : Program} {l : Launch} {e : Env} {s : State} {m : MethodId} {args : Array Value} {below : List Frame} {meth : Method} {c : Code} {G : GG} {D : Nat} {r : Int32 × Mem} (F : FrP shA G p s m args c RX0 cX0_takePlan 5) (hr : meth.sig.returnType = none) (hlk : meth.locks = false) (hD : 2 ≤ D) {M : Mem} {x1 : Int32} {x2 : Int32} (h : F0_takePlan_j38 M x1 x2 = some r) : XJ shA p l e (rmX D) s m args below meth c 0 0 G 5 (MQ below (QcX shA G ((none, r.2) : Option Value × Mem).1 ((none, r.2) : Option Value × Mem).2) args s 0 0 (AW shA G.2.1)) 38 [(0, .ref 34), (1, .int x1), (2, .int x2)] [] M := by
  unfold F0_takePlan_j38 at h
  refine X_iconst F dX0_takePlan_38 (v := (0 : Int32)) rfl ?_
  refine X_istore_n F dX0_takePlan_39 (by decide) rfl ?_
  refine X_pick [1, 2, 3, 0] rfl ?_
  exact F0_takePlan_l40_ok F hr hlk hD FUEL _ _ _ _ h
set_option maxRecDepth 20000 in
theorem F0_takePlan_l9_bok {p : Program} {l : Launch} {e : Env} {s : State} {m : MethodId} {args : Array Value} {below : List Frame} {meth : Method} {c : Code} {G : GG} {D : Nat} {r : Int32 × Mem} {rec9 : Mem → Int32 → Int32 → Int32 → Option (Int32 × Mem)} (F : FrP shA G p s m args c RX0 cX0_takePlan 5) (hr : meth.sig.returnType = none) (hlk : meth.locks = false) (hD : 2 ≤ D) (hrec9 : ∀ (M : Mem) (x1 : Int32) (x2 : Int32) (x3 : Int32), rec9 M x1 x2 x3 = some r → XJ shA p l e (rmX D) s m args below meth c 0 0 G 5 (MQ below (QcX shA G ((none, r.2) : Option Value × Mem).1 ((none, r.2) : Option Value × Mem).2) args s 0 0 (AW shA G.2.1)) 9 [(0, .ref 34), (1, .int x1), (2, .int x2), (3, .int x3)] [] M) {M : Mem} {x1 : Int32} {x2 : Int32} {x3 : Int32} (h : F0_takePlan_l9_b rec9 M x1 x2 x3 = some r) : XJ shA p l e (rmX D) s m args below meth c 0 0 G 5 (MQ below (QcX shA G ((none, r.2) : Option Value × Mem).1 ((none, r.2) : Option Value × Mem).2) args s 0 0 (AW shA G.2.1)) 9 [(0, .ref 34), (1, .int x1), (2, .int x2), (3, .int x3)] [] M := by
  unfold F0_takePlan_l9_b at h
  refine X_iload_n F dX0_takePlan_9 rfl ?_
  refine X_bipush F dX0_takePlan_10 (v := (6 : Int32)) rfl ?_
  refine X_icmp_ge (tgt := 38) F dX0_takePlan_12 (by decide) (fun q1 => ?_) (fun q1 => ?_)
  · rw [if_pos q1] at h
    refine X_pick [0, 1, 2] rfl ?_
    exact F0_takePlan_j38_ok F hr hlk hD h
  · rw [if_neg q1] at h
    refine X_iload_n F dX0_takePlan_15 rfl ?_
    refine X_if_le (tgt := 38) F dX0_takePlan_16 (by decide) (fun q2 => ?_) (fun q2 => ?_)
    · rw [if_pos q2] at h
      refine X_pick [0, 1, 2] rfl ?_
      exact F0_takePlan_j38_ok F hr hlk hD h
    · rw [if_neg q2] at h
      refine X_iload_n F dX0_takePlan_19 rfl ?_
      refine X_iload_n F dX0_takePlan_20 rfl ?_
      obtain ⟨q3, h⟩ := ifS h
      refine X_idiv F dX0_takePlan_21 q3 ?_
      refine X_bipush F dX0_takePlan_22 (v := (10 : Int32)) rfl ?_
      refine X_icmp_lt (tgt := 38) F dX0_takePlan_24 (by decide) (fun q4 => ?_) (fun q4 => ?_)
      · rw [if_pos q4] at h
        refine X_pick [0, 1, 2] rfl ?_
        exact F0_takePlan_j38_ok F hr hlk hD h
      · rw [if_neg q4] at h
        refine X_iload_n F dX0_takePlan_27 rfl ?_
        refine X_bipush F dX0_takePlan_28 (v := (10 : Int32)) rfl ?_
        refine X_imul F dX0_takePlan_30 ?_
        refine X_istore_n F dX0_takePlan_31 (by decide) rfl ?_
        refine X_iinc F dX0_takePlan_32 rfl (v := (1 : Int32)) rfl (by decide) rfl ?_
        refine X_goto (tgt := 9) F dX0_takePlan_35 (by decide) ?_
        refine X_pick [2, 3, 1, 0] rfl ?_
        exact hrec9 _ _ _ _ h
set_option maxRecDepth 20000 in
theorem F0_takePlan_l9_ok {p : Program} {l : Launch} {e : Env} {s : State} {m : MethodId} {args : Array Value} {below : List Frame} {meth : Method} {c : Code} {G : GG} {D : Nat} {r : Int32 × Mem} (F : FrP shA G p s m args c RX0 cX0_takePlan 5) (hr : meth.sig.returnType = none) (hlk : meth.locks = false) (hD : 2 ≤ D) : ∀ (fu : Nat) (M : Mem) (x1 : Int32) (x2 : Int32) (x3 : Int32), F0_takePlan_l9 fu M x1 x2 x3 = some r → XJ shA p l e (rmX D) s m args below meth c 0 0 G 5 (MQ below (QcX shA G ((none, r.2) : Option Value × Mem).1 ((none, r.2) : Option Value × Mem).2) args s 0 0 (AW shA G.2.1)) 9 [(0, .ref 34), (1, .int x1), (2, .int x2), (3, .int x3)] [] M := by
  intro fu
  induction fu with
  | zero => intro M x1 x2 x3 h; cases h
  | succ fu ih => intro M x1 x2 x3 h; exact F0_takePlan_l9_bok F hr hlk hD (fun M x1 x2 x3 => ih M x1 x2 x3) h
set_option maxRecDepth 20000 in
theorem F0_takePlan_ok {p : Program} {l : Launch} {e : Env} {s : State} {m : MethodId} {args : Array Value} {below : List Frame} {meth : Method} {c : Code} {G : GG} {D : Nat} {r : Int32 × Mem} (F : FrP shA G p s m args c RX0 cX0_takePlan 5) (hr : meth.sig.returnType = none) (hlk : meth.locks = false) (hD : 2 ≤ D) {M : Mem} {a1 : Int32} (h : F0_takePlan M a1 = some r) : XJ shA p l e (rmX D) s m args below meth c 0 0 G 5 (MQ below (QcX shA G ((none, r.2) : Option Value × Mem).1 ((none, r.2) : Option Value × Mem).2) args s 0 0 (AW shA G.2.1)) 0 [(0, .ref 34), (1, .int a1)] [] M := by
  unfold F0_takePlan at h
  refine X_aload_n F dX0_takePlan_0 rfl ?_
  refine X_iconst F dX0_takePlan_1 (v := (0 : Int32)) rfl ?_
  refine X_puti F ffRX0_90 fw0_8 (by decide) dX0_takePlan_2 ?_
  refine X_iconst F dX0_takePlan_5 (v := (1 : Int32)) rfl ?_
  refine X_istore_n F dX0_takePlan_6 (by decide) rfl ?_
  refine X_iconst F dX0_takePlan_7 (v := (1 : Int32)) rfl ?_
  refine X_istore_n F dX0_takePlan_8 (by decide) rfl ?_
  refine X_pick [2, 3, 1, 0] rfl ?_
  exact F0_takePlan_l9_ok F hr hlk hD FUEL _ _ _ _ h
set_option maxRecDepth 20000 in
theorem F0_takePlan_met {l : Launch} {G : GG} {D : Nat} {r : Int32 × Mem} {M : Mem} {a1 : Int32} (hI : Inj shA G.2.1) (hD : 2 ≤ D) (h : F0_takePlan M a1 = some r) : MetX shA l G yX0_takePlan cX0_takePlan 5 none D [.ref 34, .int a1] M (none, r.2) :=
  X_met hI (by decide +kernel) (Nat.le_of_ble_eq_true rfl) (fun p e s m args below meth c F hr hlk => F0_takePlan_ok F hr hlk hD h)
-- KeepOurPlace$Errands.mostGain
def F0_mostGain (M : Mem) (a1 : Int32) : Option (Int32 × Mem) :=
    Option.bind (F0_choose M a1) fun r1 =>
    if inb r1.1 64 = true then
    some ((r1.2 41 (Int32.toNatClampNeg r1.1)), r1.2)
    else none
set_option maxRecDepth 20000 in
theorem F0_mostGain_ok {p : Program} {l : Launch} {e : Env} {s : State} {m : MethodId} {args : Array Value} {below : List Frame} {meth : Method} {c : Code} {G : GG} {D : Nat} {r : Int32 × Mem} (F : FrP shA G p s m args c RX0 cX0_mostGain 2) (hr : meth.sig.returnType = (some .int)) (hlk : meth.locks = false) (hD : 3 ≤ D) {M : Mem} {a1 : Int32} (h : F0_mostGain M a1 = some r) : XJ shA p l e (rmX D) s m args below meth c 0 0 G 2 (MQ below (QcX shA G ((some (.int r.1), r.2) : Option Value × Mem).1 ((some (.int r.1), r.2) : Option Value × Mem).2) args s 0 0 (AW shA G.2.1)) 0 [(0, .ref 34), (1, .int a1)] [] M := by
  unfold F0_mostGain at h
  refine X_aload_n F dX0_mostGain_0 rfl ?_
  refine X_getr F ffRX0_30 dX0_mostGain_1 ?_
  refine X_aload_n F dX0_mostGain_4 rfl ?_
  refine X_iload_n F dX0_mostGain_5 rfl ?_
  obtain ⟨r1, h2, h⟩ := bndS h
  refine X_callV (ci := 34) (As := [.int a1]) (rest := [.ref 41]) F fkRX0_154 feX0_choose fvX0_choose ⟨_, _, _, rfl, rfl, rfl⟩ (F0_choose_met (D := D - 1) F.2.2.2.2.2.2.2.1 (by omega) h2) rfl rfl (Nat.le_of_ble_eq_true rfl) (rm_ok (by omega) (by decide)) dX0_mostGain_6 ?_
  show XJ shA p l e (rmX D) s m args below meth c 0 0 G 2 (MQ below (QcX shA G ((some (.int r.1), r.2) : Option Value × Mem).1 ((some (.int r.1), r.2) : Option Value × Mem).2) args s 0 0 (AW shA G.2.1)) 9 [(0, .ref 34), (1, .int a1)] [.int r1.1, .ref 41] r1.2
  obtain ⟨q3, h⟩ := ifS h
  refine X_iald (j := (Int32.toNatClampNeg r1.1)) (v := (r1.2 41 (Int32.toNatClampNeg r1.1))) F rfl (inbV q3) rfl rfl dX0_mostGain_9 ?_
  exact X_iret F hr hlk (retI h) dX0_mostGain_10
set_option maxRecDepth 20000 in
theorem F0_mostGain_met {l : Launch} {G : GG} {D : Nat} {r : Int32 × Mem} {M : Mem} {a1 : Int32} (hI : Inj shA G.2.1) (hD : 3 ≤ D) (h : F0_mostGain M a1 = some r) : MetX shA l G yX0_mostGain cX0_mostGain 2 (some .int) D [.ref 34, .int a1] M (some (.int r.1), r.2) :=
  X_met hI (by decide +kernel) (Nat.le_of_ble_eq_true rfl) (fun p e s m args below meth c F hr hlk => F0_mostGain_ok F hr hlk hD h)
-- KeepOurPlace$Errands.seek
def F0_seek (M : Mem) (a1 : Int32) : Option (Int32 × Mem) :=
    Option.bind (F0_bits (up2 (up2 M 34 14 (0 : Int32)) 34 15 (-1 : Int32))) fun r1 =>
    some ((0 : Int32), (up2 (up2 r1.2 34 12 r1.1) 34 13 a1))
set_option maxRecDepth 20000 in
theorem F0_seek_ok {p : Program} {l : Launch} {e : Env} {s : State} {m : MethodId} {args : Array Value} {below : List Frame} {meth : Method} {c : Code} {G : GG} {D : Nat} {r : Int32 × Mem} (F : FrP shA G p s m args c RX0 cX0_seek 2) (hr : meth.sig.returnType = none) (hlk : meth.locks = false) (hD : 2 ≤ D) {M : Mem} {a1 : Int32} (h : F0_seek M a1 = some r) : XJ shA p l e (rmX D) s m args below meth c 0 0 G 2 (MQ below (QcX shA G ((none, r.2) : Option Value × Mem).1 ((none, r.2) : Option Value × Mem).2) args s 0 0 (AW shA G.2.1)) 0 [(0, .ref 34), (1, .int a1)] [] M := by
  unfold F0_seek at h
  refine X_aload_n F dX0_seek_0 rfl ?_
  refine X_iconst F dX0_seek_1 (v := (0 : Int32)) rfl ?_
  refine X_puti F ffRX0_131 fw0_14 (by decide) dX0_seek_2 ?_
  refine X_aload_n F dX0_seek_5 rfl ?_
  refine X_iconst F dX0_seek_6 (v := (-1 : Int32)) rfl ?_
  refine X_puti F ffRX0_134 fw0_15 (by decide) dX0_seek_7 ?_
  refine X_aload_n F dX0_seek_10 rfl ?_
  refine X_aload_n F dX0_seek_11 rfl ?_
  obtain ⟨r1, h2, h⟩ := bndS h
  refine X_callV (ci := 34) (As := []) (rest := [.ref 34]) F fkRX0_108 feX0_bits fvX0_bits ⟨_, _, _, rfl, rfl, rfl⟩ (F0_bits_met (D := D - 1) F.2.2.2.2.2.2.2.1 (by omega) h2) rfl rfl (Nat.le_of_ble_eq_true rfl) (rm_ok (by omega) (by decide)) dX0_seek_12 ?_
  show XJ shA p l e (rmX D) s m args below meth c 0 0 G 2 (MQ below (QcX shA G ((none, r.2) : Option Value × Mem).1 ((none, r.2) : Option Value × Mem).2) args s 0 0 (AW shA G.2.1)) 15 [(0, .ref 34), (1, .int a1)] [.int r1.1, .ref 34] r1.2
  refine X_puti F ffRX0_137 fw0_12 (by decide) dX0_seek_15 ?_
  refine X_aload_n F dX0_seek_18 rfl ?_
  refine X_iload_n F dX0_seek_19 rfl ?_
  refine X_puti F ffRX0_140 fw0_13 (by decide) dX0_seek_20 ?_
  exact X_vret F hr hlk (retV h) dX0_seek_23
set_option maxRecDepth 20000 in
theorem F0_seek_met {l : Launch} {G : GG} {D : Nat} {r : Int32 × Mem} {M : Mem} {a1 : Int32} (hI : Inj shA G.2.1) (hD : 2 ≤ D) (h : F0_seek M a1 = some r) : MetX shA l G yX0_seek cX0_seek 2 none D [.ref 34, .int a1] M (none, r.2) :=
  X_met hI (by decide +kernel) (Nat.le_of_ble_eq_true rfl) (fun p e s m args below meth c F hr hlk => F0_seek_ok F hr hlk hD h)
