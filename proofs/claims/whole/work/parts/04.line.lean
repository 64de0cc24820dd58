/-! written by wip/whole/gen: the pure functions of these methods, read off their bytecode, and the walks that prove them -/
theorem ffRX3_30 : FLT shA RX3 9 3 30 1 (.int 0) := ⟨⟨RX3, TX3, 12, rfl, by decide, wsIn3, Or.inl (tmem 109 (by decide +kernel) rfl)⟩, _, rfl, rfl⟩
theorem ffRX3_11 : FLT shA RX3 9 3 11 0 (.ref 10) := ⟨⟨RX3, TX3, 12, rfl, by decide, wsIn3, Or.inl (tmem 108 (by decide +kernel) rfl)⟩, _, rfl, rfl⟩
theorem fw3_1 : FLW 3 1 .int := ⟨RX3, TX3, 12, tyX3, rfl, tyX3_ok, nmX3, rfl, by decide +kernel⟩
theorem fkRX3_93 : LNK RX3 93 yJ0_length_8abf5 := Or.inl (tmem 396 (by decide +kernel) rfl)
theorem fkRX3_96 : LNK RX3 96 yJ0_charAt_5068e := Or.inl (tmem 397 (by decide +kernel) rfl)
theorem feJ0_charAt_5068e : CLE yJ0_charAt_5068e 1 cJ0_charAt_5068e 2 (some .char) := ⟨tmem 10 (by decide +kernel) rfl, tmem 333 (by decide +kernel) rfl, by decide +kernel, by decide +kernel⟩
theorem fvJ0_charAt_5068e : CLV yJ0_charAt_5068e := ⟨tmem 331 (by decide +kernel) rfl, tmem 332 (by decide +kernel) rfl⟩
theorem fkRX3_100 : LNK RX3 100 yX3_isSame := Or.inl (tmem 398 (by decide +kernel) rfl)
theorem feX3_isSame : CLE yX3_isSame 3 cX3_isSame 6 (some .boolean) := ⟨tmem 4 (by decide +kernel) rfl, tmem 401 (by decide +kernel) rfl, by decide +kernel, by decide +kernel⟩
theorem fvX3_isSame : CLV yX3_isSame := ⟨tmem 400 (by decide +kernel) rfl, smem 6 (by decide +kernel) rfl⟩
theorem ffRX3_56 : FLT shA RX3 9 3 56 5 (.int 0) := ⟨⟨RX3, TX3, 12, rfl, by decide, wsIn3, Or.inl (tmem 114 (by decide +kernel) rfl)⟩, _, rfl, rfl⟩
theorem ffRX3_15 : FLT shA RX3 9 3 15 2 (.ref 11) := ⟨⟨RX3, TX3, 12, rfl, by decide, wsIn3, Or.inl (tmem 111 (by decide +kernel) rfl)⟩, _, rfl, rfl⟩
theorem ffRX3_18 : FLT shA RX3 9 3 18 3 (.ref 12) := ⟨⟨RX3, TX3, 12, rfl, by decide, wsIn3, Or.inl (tmem 112 (by decide +kernel) rfl)⟩, _, rfl, rfl⟩
theorem ffRX3_21 : FLT shA RX3 9 3 21 4 (.ref 13) := ⟨⟨RX3, TX3, 12, rfl, by decide, wsIn3, Or.inl (tmem 113 (by decide +kernel) rfl)⟩, _, rfl, rfl⟩
theorem fw3_5 : FLW 3 5 .int := ⟨RX3, TX3, 12, tyX3, rfl, tyX3_ok, nmX3, rfl, by decide +kernel⟩
theorem fsRX3_67 : Cond.methodLink RX3 67 yX3_isLetter ∈ TBL := tmem 384 (by decide +kernel) rfl
theorem feX3_isLetter : CLE yX3_isLetter 1 cX3_isLetter 1 (some .boolean) := ⟨tmem 4 (by decide +kernel) rfl, tmem 386 (by decide +kernel) rfl, by decide +kernel, by decide +kernel⟩
theorem ftX3_isLetter : Cond.static yX3_isLetter ∈ TBL := tmem 385 (by decide +kernel) rfl
theorem fkRX3_88 : LNK RX3 88 yX3_wordOf := Or.inl (tmem 391 (by decide +kernel) rfl)
theorem feX3_wordOf : CLE yX3_wordOf 2 cX3_wordOf 6 (some .int) := ⟨tmem 4 (by decide +kernel) rfl, tmem 394 (by decide +kernel) rfl, by decide +kernel, by decide +kernel⟩
theorem fvX3_wordOf : CLV yX3_wordOf := ⟨tmem 393 (by decide +kernel) rfl, smem 5 (by decide +kernel) rfl⟩
theorem fkRX3_63 : LNK RX3 63 yX3_note := Or.inl (tmem 402 (by decide +kernel) rfl)
theorem feX3_note : CLE yX3_note 3 cX3_note 4 none := ⟨tmem 4 (by decide +kernel) rfl, tmem 405 (by decide +kernel) rfl, by decide +kernel, by decide +kernel⟩
theorem fvX3_note : CLV yX3_note := ⟨tmem 404 (by decide +kernel) rfl, smem 7 (by decide +kernel) rfl⟩
theorem fsRX3_75 : Cond.methodLink RX3 75 yX3_isDigit ∈ TBL := tmem 406 (by decide +kernel) rfl
theorem feX3_isDigit : CLE yX3_isDigit 1 cX3_isDigit 1 (some .boolean) := ⟨tmem 4 (by decide +kernel) rfl, tmem 408 (by decide +kernel) rfl, by decide +kernel, by decide +kernel⟩
theorem ftX3_isDigit : Cond.static yX3_isDigit ∈ TBL := tmem 407 (by decide +kernel) rfl
theorem fkRX3_83 : LNK RX3 83 yJ0_indexOf_0f7a4 := Or.inl (tmem 414 (by decide +kernel) rfl)
theorem feJ0_indexOf_0f7a4 : CLE yJ0_indexOf_0f7a4 1 cJ0_indexOf_0f7a4 2 (some .int) := ⟨tmem 10 (by decide +kernel) rfl, tmem 417 (by decide +kernel) rfl, by decide +kernel, by decide +kernel⟩
theorem fvJ0_indexOf_0f7a4 : CLV yJ0_indexOf_0f7a4 := ⟨tmem 415 (by decide +kernel) rfl, tmem 416 (by decide +kernel) rfl⟩
theorem fkRX3_78 : LNK RX3 78 yX3_scanNumber := Or.inl (tmem 409 (by decide +kernel) rfl)
theorem feX3_scanNumber : CLE yX3_scanNumber 1 cX3_scanNumber 5 (some .int) := ⟨tmem 4 (by decide +kernel) rfl, tmem 412 (by decide +kernel) rfl, by decide +kernel, by decide +kernel⟩
theorem fvX3_scanNumber : CLV yX3_scanNumber := ⟨tmem 411 (by decide +kernel) rfl, smem 8 (by decide +kernel) rfl⟩
theorem fkRX3_71 : LNK RX3 71 yX3_scanWord := Or.inl (tmem 387 (by decide +kernel) rfl)
theorem feX3_scanWord : CLE yX3_scanWord 1 cX3_scanWord 4 (some .int) := ⟨tmem 4 (by decide +kernel) rfl, tmem 390 (by decide +kernel) rfl, by decide +kernel, by decide +kernel⟩
theorem fvX3_scanWord : CLV yX3_scanWord := ⟨tmem 389 (by decide +kernel) rfl, smem 4 (by decide +kernel) rfl⟩
theorem fkRX3_59 : LNK RX3 59 yX3_scanToken := Or.inl (tmem 380 (by decide +kernel) rfl)
theorem feX3_scanToken : CLE yX3_scanToken 2 cX3_scanToken 3 (some .int) := ⟨tmem 4 (by decide +kernel) rfl, tmem 383 (by decide +kernel) rfl, by decide +kernel, by decide +kernel⟩
theorem fvX3_scanToken : CLV yX3_scanToken := ⟨tmem 382 (by decide +kernel) rfl, smem 3 (by decide +kernel) rfl⟩
theorem ffRX3_43 : FLT shA RX3 9 3 43 8 (.int 0) := ⟨⟨RX3, TX3, 12, rfl, by decide, wsIn3, Or.inl (tmem 117 (by decide +kernel) rfl)⟩, _, rfl, rfl⟩
theorem ffRX3_37 : FLT shA RX3 9 3 37 6 (.int 0) := ⟨⟨RX3, TX3, 12, rfl, by decide, wsIn3, Or.inl (tmem 115 (by decide +kernel) rfl)⟩, _, rfl, rfl⟩
theorem fw3_6 : FLW 3 6 .int := ⟨RX3, TX3, 12, tyX3, rfl, tyX3_ok, nmX3, rfl, by decide +kernel⟩
theorem ffRX3_40 : FLT shA RX3 9 3 40 7 (.int 0) := ⟨⟨RX3, TX3, 12, rfl, by decide, wsIn3, Or.inl (tmem 116 (by decide +kernel) rfl)⟩, _, rfl, rfl⟩
theorem fw3_7 : FLW 3 7 .int := ⟨RX3, TX3, 12, tyX3, rfl, tyX3_ok, nmX3, rfl, by decide +kernel⟩
theorem fw3_8 : FLW 3 8 .int := ⟨RX3, TX3, 12, tyX3, rfl, tyX3_ok, nmX3, rfl, by decide +kernel⟩
theorem fkRX3_53 : LNK RX3 53 yX3_fail := Or.inl (tmem 485 (by decide +kernel) rfl)
theorem feX3_fail : CLE yX3_fail 0 cX3_fail 1 none := ⟨tmem 4 (by decide +kernel) rfl, tmem 488 (by decide +kernel) rfl, by decide +kernel, by decide +kernel⟩
theorem fvX3_fail : CLV yX3_fail := ⟨tmem 487 (by decide +kernel) rfl, smem 12 (by decide +kernel) rfl⟩
theorem fkRX3_114 : LNK RX3 114 yX3_advance := Or.inl (tmem 481 (by decide +kernel) rfl)
theorem feX3_advance : CLE yX3_advance 0 cX3_advance 1 none := ⟨tmem 4 (by decide +kernel) rfl, tmem 484 (by decide +kernel) rfl, by decide +kernel, by decide +kernel⟩
theorem fvX3_advance : CLV yX3_advance := ⟨tmem 483 (by decide +kernel) rfl, smem 11 (by decide +kernel) rfl⟩
theorem ffRX3_46 : FLT shA RX3 9 3 46 10 (.int 0) := ⟨⟨RX3, TX3, 12, rfl, by decide, wsIn3, Or.inl (tmem 121 (by decide +kernel) rfl)⟩, _, rfl, rfl⟩
theorem ffRX3_24 : FLT shA RX3 9 3 24 9 (.ref 14) := ⟨⟨RX3, TX3, 12, rfl, by decide, wsIn3, Or.inl (tmem 119 (by decide +kernel) rfl)⟩, _, rfl, rfl⟩
theorem fw3_10 : FLW 3 10 .int := ⟨RX3, TX3, 12, tyX3, rfl, tyX3_ok, nmX3, rfl, by decide +kernel⟩
theorem fkRX3_111 : LNK RX3 111 yX3_readAnd := Or.inl (tmem 493 (by decide +kernel) rfl)
theorem feX3_readAnd : CLE yX3_readAnd 1 cX3_readAnd 3 none := ⟨tmem 4 (by decide +kernel) rfl, tmem 496 (by decide +kernel) rfl, by decide +kernel, by decide +kernel⟩
theorem fvX3_readAnd : CLV yX3_readAnd := ⟨tmem 495 (by decide +kernel) rfl, smem 14 (by decide +kernel) rfl⟩
theorem fkRX3_117 : LNK RX3 117 yX3_emit := Or.inl (tmem 505 (by decide +kernel) rfl)
theorem feX3_emit : CLE yX3_emit 1 cX3_emit 2 none := ⟨tmem 4 (by decide +kernel) rfl, tmem 508 (by decide +kernel) rfl, by decide +kernel, by decide +kernel⟩
theorem fvX3_emit : CLV yX3_emit := ⟨tmem 507 (by decide +kernel) rfl, smem 17 (by decide +kernel) rfl⟩
theorem fkRX3_120 : LNK RX3 120 yX3_readNot := Or.inl (tmem 497 (by decide +kernel) rfl)
theorem feX3_readNot : CLE yX3_readNot 1 cX3_readNot 3 none := ⟨tmem 4 (by decide +kernel) rfl, tmem 500 (by decide +kernel) rfl, by decide +kernel, by decide +kernel⟩
theorem fvX3_readNot : CLV yX3_readNot := ⟨tmem 499 (by decide +kernel) rfl, smem 15 (by decide +kernel) rfl⟩
theorem fkRX3_126 : LNK RX3 126 yX3_readSum := Or.inl (tmem 509 (by decide +kernel) rfl)
theorem feX3_readSum : CLE yX3_readSum 1 cX3_readSum 4 none := ⟨tmem 4 (by decide +kernel) rfl, tmem 512 (by decide +kernel) rfl, by decide +kernel, by decide +kernel⟩
theorem fvX3_readSum : CLV yX3_readSum := ⟨tmem 511 (by decide +kernel) rfl, smem 18 (by decide +kernel) rfl⟩
theorem fkRX3_123 : LNK RX3 123 yX3_mayOpen := Or.inl (tmem 501 (by decide +kernel) rfl)
theorem feX3_mayOpen : CLE yX3_mayOpen 1 cX3_mayOpen 2 (some .boolean) := ⟨tmem 4 (by decide +kernel) rfl, tmem 504 (by decide +kernel) rfl, by decide +kernel, by decide +kernel⟩
theorem fvX3_mayOpen : CLV yX3_mayOpen := ⟨tmem 503 (by decide +kernel) rfl, smem 16 (by decide +kernel) rfl⟩
theorem fkRX3_129 : LNK RX3 129 yX3_readTerm := Or.inl (tmem 513 (by decide +kernel) rfl)
theorem feX3_readTerm : CLE yX3_readTerm 1 cX3_readTerm 3 none := ⟨tmem 4 (by decide +kernel) rfl, tmem 516 (by decide +kernel) rfl, by decide +kernel, by decide +kernel⟩
theorem fvX3_readTerm : CLV yX3_readTerm := ⟨tmem 515 (by decide +kernel) rfl, smem 19 (by decide +kernel) rfl⟩
theorem fkRX3_132 : LNK RX3 132 yX3_readOne := Or.inl (tmem 517 (by decide +kernel) rfl)
theorem feX3_readOne : CLE yX3_readOne 1 cX3_readOne 2 none := ⟨tmem 4 (by decide +kernel) rfl, tmem 520 (by decide +kernel) rfl, by decide +kernel, by decide +kernel⟩
theorem fvX3_readOne : CLV yX3_readOne := ⟨tmem 519 (by decide +kernel) rfl, smem 20 (by decide +kernel) rfl⟩
theorem fkRX3_108 : LNK RX3 108 yX3_readOr := Or.inl (tmem 489 (by decide +kernel) rfl)
theorem feX3_readOr : CLE yX3_readOr 1 cX3_readOr 3 none := ⟨tmem 4 (by decide +kernel) rfl, tmem 492 (by decide +kernel) rfl, by decide +kernel, by decide +kernel⟩
theorem fvX3_readOr : CLV yX3_readOr := ⟨tmem 491 (by decide +kernel) rfl, smem 13 (by decide +kernel) rfl⟩
theorem fkRX3_104 : LNK RX3 104 yX3_expect := Or.inl (tmem 477 (by decide +kernel) rfl)
theorem feX3_expect : CLE yX3_expect 1 cX3_expect 2 none := ⟨tmem 4 (by decide +kernel) rfl, tmem 480 (by decide +kernel) rfl, by decide +kernel, by decide +kernel⟩
theorem fvX3_expect : CLV yX3_expect := ⟨tmem 479 (by decide +kernel) rfl, smem 10 (by decide +kernel) rfl⟩
theorem ffRX3_27 : FLT shA RX3 9 3 27 11 (.ref 15) := ⟨⟨RX3, TX3, 12, rfl, by decide, wsIn3, Or.inl (tmem 122 (by decide +kernel) rfl)⟩, _, rfl, rfl⟩
theorem fkRX3_34 : LNK RX3 34 yX3_scan := Or.inl (tmem 376 (by decide +kernel) rfl)
theorem feX3_scan : CLE yX3_scan 0 cX3_scan 4 none := ⟨tmem 4 (by decide +kernel) rfl, tmem 379 (by decide +kernel) rfl, by decide +kernel, by decide +kernel⟩
theorem fvX3_scan : CLV yX3_scan := ⟨tmem 378 (by decide +kernel) rfl, smem 2 (by decide +kernel) rfl⟩
theorem fkRX3_49 : LNK RX3 49 yX3_readPart := Or.inl (tmem 473 (by decide +kernel) rfl)
theorem feX3_readPart : CLE yX3_readPart 2 cX3_readPart 3 none := ⟨tmem 4 (by decide +kernel) rfl, tmem 476 (by decide +kernel) rfl, by decide +kernel, by decide +kernel⟩
theorem fvX3_readPart : CLV yX3_readPart := ⟨tmem 475 (by decide +kernel) rfl, smem 9 (by decide +kernel) rfl⟩
theorem ffRX2_21 : FLT shA RX2 1 2 21 3 (.int 0) := ⟨⟨RX2, TX2, 6, rfl, by decide, wsIn2, Or.inl (tmem 44 (by decide +kernel) rfl)⟩, _, rfl, rfl⟩
theorem ffRX2_9 : FLT shA RX2 1 2 9 0 (.ref 2) := ⟨⟨RX2, TX2, 6, rfl, by decide, wsIn2, Or.inl (tmem 32 (by decide +kernel) rfl)⟩, _, rfl, rfl⟩
theorem ffRX2_15 : FLT shA RX2 1 2 15 1 (.ref 3) := ⟨⟨RX2, TX2, 6, rfl, by decide, wsIn2, Or.inl (tmem 36 (by decide +kernel) rfl)⟩, _, rfl, rfl⟩
theorem ffRX2_18 : FLT shA RX2 1 2 18 2 (.ref 4) := ⟨⟨RX2, TX2, 6, rfl, by decide, wsIn2, Or.inl (tmem 40 (by decide +kernel) rfl)⟩, _, rfl, rfl⟩
theorem fw2_3 : FLW 2 3 .int := ⟨RX2, TX2, 6, tyX2, rfl, tyX2_ok, nmX2, rfl, by decide +kernel⟩
theorem ffRX6_21 : FLT shA RX6 5 6 21 3 (.int 0) := ⟨⟨RX6, TX6, 4, rfl, by decide, wsIn6, Or.inl (tmem 89 (by decide +kernel) rfl)⟩, _, rfl, rfl⟩
theorem ffRX6_9 : FLT shA RX6 5 6 9 0 (.ref 6) := ⟨⟨RX6, TX6, 4, rfl, by decide, wsIn6, Or.inl (tmem 79 (by decide +kernel) rfl)⟩, _, rfl, rfl⟩
theorem ffRX6_15 : FLT shA RX6 5 6 15 1 (.ref 7) := ⟨⟨RX6, TX6, 4, rfl, by decide, wsIn6, Or.inl (tmem 82 (by decide +kernel) rfl)⟩, _, rfl, rfl⟩
theorem ffRX6_18 : FLT shA RX6 5 6 18 2 (.ref 8) := ⟨⟨RX6, TX6, 4, rfl, by decide, wsIn6, Or.inl (tmem 86 (by decide +kernel) rfl)⟩, _, rfl, rfl⟩
theorem fw6_3 : FLW 6 3 .int := ⟨RX6, TX6, 4, tyX6, rfl, tyX6_ok, nmX6, rfl, by decide +kernel⟩
theorem ffRX2_25 : FLT shA RX2 1 2 25 4 (.int 0) := ⟨⟨RX2, TX2, 6, rfl, by decide, wsIn2, Or.inl (tmem 53 (by decide +kernel) rfl)⟩, _, rfl, rfl⟩
theorem fw2_4 : FLW 2 4 .int := ⟨RX2, TX2, 6, tyX2, rfl, tyX2_ok, nmX2, rfl, by decide +kernel⟩
theorem ffRX2_28 : FLT shA RX2 1 2 28 5 (.int 0) := ⟨⟨RX2, TX2, 6, rfl, by decide, wsIn2, Or.inl (tmem 57 (by decide +kernel) rfl)⟩, _, rfl, rfl⟩
theorem fw2_5 : FLW 2 5 .int := ⟨RX2, TX2, 6, tyX2, rfl, tyX2_ok, nmX2, rfl, by decide +kernel⟩
theorem fkRX6_25 : LNK RX6 25 yX6_holds := Or.inl (tmem 701 (by decide +kernel) rfl)
theorem feX6_holds : CLE yX6_holds 1 cX6_holds 2 (some .boolean) := ⟨tmem 3 (by decide +kernel) rfl, tmem 592 (by decide +kernel) rfl, by decide +kernel, by decide +kernel⟩
theorem fvX6_holds : CLV yX6_holds := ⟨tmem 591 (by decide +kernel) rfl, smem 27 (by decide +kernel) rfl⟩
theorem fkRX6_29 : LNK RX6 29 yX6_shelfOf := Or.inl (tmem 697 (by decide +kernel) rfl)
theorem feX6_shelfOf : CLE yX6_shelfOf 1 cX6_shelfOf 2 (some .int) := ⟨tmem 3 (by decide +kernel) rfl, tmem 700 (by decide +kernel) rfl, by decide +kernel, by decide +kernel⟩
theorem fvX6_shelfOf : CLV yX6_shelfOf := ⟨tmem 699 (by decide +kernel) rfl, smem 43 (by decide +kernel) rfl⟩
theorem fmRX6_33 : Cond.methodLink RX6 33 Lib.Math.abs.name ∈ TBL := tmem 702 (by decide +kernel) rfl
theorem fcRX6_38 : Cond.constant RX6 38 (1103515245 : Int32) ∈ TBL := tmem 861 (by decide +kernel) rfl
theorem dX3_append_0 : decode cX3_append 0 = .ok (.aload_n 0, 1) := by decide +kernel
theorem dX3_append_1 : decode cX3_append 1 = .ok (.getfield 30, 3) := by decide +kernel
theorem dX3_append_4 : decode cX3_append 4 = .ok (.sipush 160, 3) := by decide +kernel
theorem dX3_append_7 : decode cX3_append 7 = .ok (.if_icmp .lt 5, 3) := by decide +kernel
theorem dX3_append_10 : decode cX3_append 10 = .ok (.iconst 0, 1) := by decide +kernel
theorem dX3_append_11 : decode cX3_append 11 = .ok (.ireturn, 1) := by decide +kernel
theorem dX3_append_12 : decode cX3_append 12 = .ok (.aload_n 0, 1) := by decide +kernel
theorem dX3_append_13 : decode cX3_append 13 = .ok (.getfield 11, 3) := by decide +kernel
theorem dX3_append_16 : decode cX3_append 16 = .ok (.aload_n 0, 1) := by decide +kernel
theorem dX3_append_17 : decode cX3_append 17 = .ok (.getfield 30, 3) := by decide +kernel
theorem dX3_append_20 : decode cX3_append 20 = .ok (.iload_n 1, 1) := by decide +kernel
theorem dX3_append_21 : decode cX3_append 21 = .ok (.iastore, 1) := by decide +kernel
theorem dX3_append_22 : decode cX3_append 22 = .ok (.aload_n 0, 1) := by decide +kernel
theorem dX3_append_23 : decode cX3_append 23 = .ok (.dup, 1) := by decide +kernel
theorem dX3_append_24 : decode cX3_append 24 = .ok (.getfield 30, 3) := by decide +kernel
theorem dX3_append_27 : decode cX3_append 27 = .ok (.iconst 1, 1) := by decide +kernel
theorem dX3_append_28 : decode cX3_append 28 = .ok (.iadd, 1) := by decide +kernel
theorem dX3_append_29 : decode cX3_append 29 = .ok (.putfield 30, 3) := by decide +kernel
theorem dX3_append_32 : decode cX3_append 32 = .ok (.iconst 1, 1) := by decide +kernel
theorem dX3_append_33 : decode cX3_append 33 = .ok (.ireturn, 1) := by decide +kernel
theorem dX3_isLetter_0 : decode cX3_isLetter 0 = .ok (.iload_n 0, 1) := by decide +kernel
theorem dX3_isLetter_1 : decode cX3_isLetter 1 = .ok (.bipush 97, 2) := by decide +kernel
theorem dX3_isLetter_3 : decode cX3_isLetter 3 = .ok (.if_icmp .lt 13, 3) := by decide +kernel
theorem dX3_isLetter_6 : decode cX3_isLetter 6 = .ok (.iload_n 0, 1) := by decide +kernel
theorem dX3_isLetter_7 : decode cX3_isLetter 7 = .ok (.bipush 122, 2) := by decide +kernel
theorem dX3_isLetter_9 : decode cX3_isLetter 9 = .ok (.if_icmp .gt 7, 3) := by decide +kernel
theorem dX3_isLetter_12 : decode cX3_isLetter 12 = .ok (.iconst 1, 1) := by decide +kernel
theorem dX3_isLetter_13 : decode cX3_isLetter 13 = .ok (.goto 4, 3) := by decide +kernel
theorem dX3_isLetter_16 : decode cX3_isLetter 16 = .ok (.iconst 0, 1) := by decide +kernel
theorem dX3_isLetter_17 : decode cX3_isLetter 17 = .ok (.ireturn, 1) := by decide +kernel
theorem dX3_isSame_0 : decode cX3_isSame 0 = .ok (.iload_n 1, 1) := by decide +kernel
theorem dX3_isSame_1 : decode cX3_isSame 1 = .ok (.istore 4, 2) := by decide +kernel
theorem dX3_isSame_3 : decode cX3_isSame 3 = .ok (.iload 4, 2) := by decide +kernel
theorem dX3_isSame_5 : decode cX3_isSame 5 = .ok (.iload_n 2, 1) := by decide +kernel
theorem dX3_isSame_6 : decode cX3_isSame 6 = .ok (.if_icmp .ge 60, 3) := by decide +kernel
theorem dX3_isSame_9 : decode cX3_isSame 9 = .ok (.iload 4, 2) := by decide +kernel
theorem dX3_isSame_11 : decode cX3_isSame 11 = .ok (.ldc 91, 2) := by decide +kernel
theorem dX3_isSame_13 : decode cX3_isSame 13 = .ok (.invokevirtual 93, 3) := by decide +kernel
theorem dX3_isSame_16 : decode cX3_isSame 16 = .ok (.if_icmp .ge 50, 3) := by decide +kernel
theorem dX3_isSame_19 : decode cX3_isSame 19 = .ok (.iload_n 3, 1) := by decide +kernel
theorem dX3_isSame_20 : decode cX3_isSame 20 = .ok (.iload 4, 2) := by decide +kernel
theorem dX3_isSame_22 : decode cX3_isSame 22 = .ok (.iadd, 1) := by decide +kernel
theorem dX3_isSame_23 : decode cX3_isSame 23 = .ok (.iload_n 1, 1) := by decide +kernel
theorem dX3_isSame_24 : decode cX3_isSame 24 = .ok (.isub, 1) := by decide +kernel
theorem dX3_isSame_25 : decode cX3_isSame 25 = .ok (.istore 5, 2) := by decide +kernel
theorem dX3_isSame_27 : decode cX3_isSame 27 = .ok (.iload 5, 2) := by decide +kernel
theorem dX3_isSame_29 : decode cX3_isSame 29 = .ok (.ifCond .lt 29, 3) := by decide +kernel
theorem dX3_isSame_32 : decode cX3_isSame 32 = .ok (.iload 5, 2) := by decide +kernel
theorem dX3_isSame_34 : decode cX3_isSame 34 = .ok (.aload_n 0, 1) := by decide +kernel
theorem dX3_isSame_35 : decode cX3_isSame 35 = .ok (.getfield 30, 3) := by decide +kernel
theorem dX3_isSame_38 : decode cX3_isSame 38 = .ok (.if_icmp .ge 20, 3) := by decide +kernel
theorem dX3_isSame_41 : decode cX3_isSame 41 = .ok (.ldc 91, 2) := by decide +kernel
theorem dX3_isSame_43 : decode cX3_isSame 43 = .ok (.iload 4, 2) := by decide +kernel
theorem dX3_isSame_45 : decode cX3_isSame 45 = .ok (.invokevirtual 96, 3) := by decide +kernel
theorem dX3_isSame_48 : decode cX3_isSame 48 = .ok (.aload_n 0, 1) := by decide +kernel
theorem dX3_isSame_49 : decode cX3_isSame 49 = .ok (.getfield 11, 3) := by decide +kernel
theorem dX3_isSame_52 : decode cX3_isSame 52 = .ok (.iload 5, 2) := by decide +kernel
theorem dX3_isSame_54 : decode cX3_isSame 54 = .ok (.iaload, 1) := by decide +kernel
theorem dX3_isSame_55 : decode cX3_isSame 55 = .ok (.if_icmp .eq 5, 3) := by decide +kernel
theorem dX3_isSame_58 : decode cX3_isSame 58 = .ok (.iconst 0, 1) := by decide +kernel
theorem dX3_isSame_59 : decode cX3_isSame 59 = .ok (.ireturn, 1) := by decide +kernel
theorem dX3_isSame_60 : decode cX3_isSame 60 = .ok (.iinc 4 1, 3) := by decide +kernel
theorem dX3_isSame_63 : decode cX3_isSame 63 = .ok (.goto (-60), 3) := by decide +kernel
theorem dX3_isSame_66 : decode cX3_isSame 66 = .ok (.iconst 1, 1) := by decide +kernel
theorem dX3_isSame_67 : decode cX3_isSame 67 = .ok (.ireturn, 1) := by decide +kernel
theorem dX3_wordOf_0 : decode cX3_wordOf 0 = .ok (.iconst 0, 1) := by decide +kernel
theorem dX3_wordOf_1 : decode cX3_wordOf 1 = .ok (.istore_n 3, 1) := by decide +kernel
theorem dX3_wordOf_2 : decode cX3_wordOf 2 = .ok (.iconst 0, 1) := by decide +kernel
theorem dX3_wordOf_3 : decode cX3_wordOf 3 = .ok (.istore 4, 2) := by decide +kernel
theorem dX3_wordOf_5 : decode cX3_wordOf 5 = .ok (.iconst 0, 1) := by decide +kernel
theorem dX3_wordOf_6 : decode cX3_wordOf 6 = .ok (.istore 5, 2) := by decide +kernel
theorem dX3_wordOf_8 : decode cX3_wordOf 8 = .ok (.iload 5, 2) := by decide +kernel
theorem dX3_wordOf_10 : decode cX3_wordOf 10 = .ok (.ldc 91, 2) := by decide +kernel
theorem dX3_wordOf_12 : decode cX3_wordOf 12 = .ok (.invokevirtual 93, 3) := by decide +kernel
theorem dX3_wordOf_15 : decode cX3_wordOf 15 = .ok (.if_icmp .ge 55, 3) := by decide +kernel
theorem dX3_wordOf_18 : decode cX3_wordOf 18 = .ok (.ldc 91, 2) := by decide +kernel
theorem dX3_wordOf_20 : decode cX3_wordOf 20 = .ok (.iload 5, 2) := by decide +kernel
theorem dX3_wordOf_22 : decode cX3_wordOf 22 = .ok (.invokevirtual 96, 3) := by decide +kernel
theorem dX3_wordOf_25 : decode cX3_wordOf 25 = .ok (.bipush 32, 2) := by decide +kernel
theorem dX3_wordOf_27 : decode cX3_wordOf 27 = .ok (.if_icmp .ne 37, 3) := by decide +kernel
theorem dX3_wordOf_30 : decode cX3_wordOf 30 = .ok (.iload 5, 2) := by decide +kernel
theorem dX3_wordOf_32 : decode cX3_wordOf 32 = .ok (.iload 4, 2) := by decide +kernel
theorem dX3_wordOf_34 : decode cX3_wordOf 34 = .ok (.isub, 1) := by decide +kernel
theorem dX3_wordOf_35 : decode cX3_wordOf 35 = .ok (.iload_n 2, 1) := by decide +kernel
theorem dX3_wordOf_36 : decode cX3_wordOf 36 = .ok (.iload_n 1, 1) := by decide +kernel
theorem dX3_wordOf_37 : decode cX3_wordOf 37 = .ok (.isub, 1) := by decide +kernel
theorem dX3_wordOf_38 : decode cX3_wordOf 38 = .ok (.if_icmp .ne 17, 3) := by decide +kernel
theorem dX3_wordOf_41 : decode cX3_wordOf 41 = .ok (.aload_n 0, 1) := by decide +kernel
theorem dX3_wordOf_42 : decode cX3_wordOf 42 = .ok (.iload 4, 2) := by decide +kernel
theorem dX3_wordOf_44 : decode cX3_wordOf 44 = .ok (.iload 5, 2) := by decide +kernel
theorem dX3_wordOf_46 : decode cX3_wordOf 46 = .ok (.iload_n 1, 1) := by decide +kernel
theorem dX3_wordOf_47 : decode cX3_wordOf 47 = .ok (.invokevirtual 100, 3) := by decide +kernel
theorem dX3_wordOf_50 : decode cX3_wordOf 50 = .ok (.ifCond .eq 5, 3) := by decide +kernel
theorem dX3_wordOf_53 : decode cX3_wordOf 53 = .ok (.iload_n 3, 1) := by decide +kernel
theorem dX3_wordOf_54 : decode cX3_wordOf 54 = .ok (.ireturn, 1) := by decide +kernel
theorem dX3_wordOf_55 : decode cX3_wordOf 55 = .ok (.iinc 3 1, 3) := by decide +kernel
theorem dX3_wordOf_58 : decode cX3_wordOf 58 = .ok (.iload 5, 2) := by decide +kernel
theorem dX3_wordOf_60 : decode cX3_wordOf 60 = .ok (.iconst 1, 1) := by decide +kernel
theorem dX3_wordOf_61 : decode cX3_wordOf 61 = .ok (.iadd, 1) := by decide +kernel
theorem dX3_wordOf_62 : decode cX3_wordOf 62 = .ok (.istore 4, 2) := by decide +kernel
theorem dX3_wordOf_64 : decode cX3_wordOf 64 = .ok (.iinc 5 1, 3) := by decide +kernel
theorem dX3_wordOf_67 : decode cX3_wordOf 67 = .ok (.goto (-59), 3) := by decide +kernel
theorem dX3_wordOf_70 : decode cX3_wordOf 70 = .ok (.iconst (-1), 1) := by decide +kernel
theorem dX3_wordOf_71 : decode cX3_wordOf 71 = .ok (.ireturn, 1) := by decide +kernel
theorem dX3_note_0 : decode cX3_note 0 = .ok (.aload_n 0, 1) := by decide +kernel
theorem dX3_note_1 : decode cX3_note 1 = .ok (.getfield 56, 3) := by decide +kernel
theorem dX3_note_4 : decode cX3_note 4 = .ok (.aload_n 0, 1) := by decide +kernel
theorem dX3_note_5 : decode cX3_note 5 = .ok (.getfield 15, 3) := by decide +kernel
theorem dX3_note_8 : decode cX3_note 8 = .ok (.arraylength, 1) := by decide +kernel
theorem dX3_note_9 : decode cX3_note 9 = .ok (.if_icmp .lt 4, 3) := by decide +kernel
theorem dX3_note_12 : decode cX3_note 12 = .ok (.return_, 1) := by decide +kernel
theorem dX3_note_13 : decode cX3_note 13 = .ok (.aload_n 0, 1) := by decide +kernel
theorem dX3_note_14 : decode cX3_note 14 = .ok (.getfield 15, 3) := by decide +kernel
theorem dX3_note_17 : decode cX3_note 17 = .ok (.aload_n 0, 1) := by decide +kernel
theorem dX3_note_18 : decode cX3_note 18 = .ok (.getfield 56, 3) := by decide +kernel
theorem dX3_note_21 : decode cX3_note 21 = .ok (.iload_n 1, 1) := by decide +kernel
theorem dX3_note_22 : decode cX3_note 22 = .ok (.iastore, 1) := by decide +kernel
theorem dX3_note_23 : decode cX3_note 23 = .ok (.aload_n 0, 1) := by decide +kernel
theorem dX3_note_24 : decode cX3_note 24 = .ok (.getfield 18, 3) := by decide +kernel
theorem dX3_note_27 : decode cX3_note 27 = .ok (.aload_n 0, 1) := by decide +kernel
theorem dX3_note_28 : decode cX3_note 28 = .ok (.getfield 56, 3) := by decide +kernel
theorem dX3_note_31 : decode cX3_note 31 = .ok (.iload_n 2, 1) := by decide +kernel
theorem dX3_note_32 : decode cX3_note 32 = .ok (.iastore, 1) := by decide +kernel
theorem dX3_note_33 : decode cX3_note 33 = .ok (.aload_n 0, 1) := by decide +kernel
theorem dX3_note_34 : decode cX3_note 34 = .ok (.getfield 21, 3) := by decide +kernel
theorem dX3_note_37 : decode cX3_note 37 = .ok (.aload_n 0, 1) := by decide +kernel
theorem dX3_note_38 : decode cX3_note 38 = .ok (.getfield 56, 3) := by decide +kernel
theorem dX3_note_41 : decode cX3_note 41 = .ok (.iload_n 3, 1) := by decide +kernel
theorem dX3_note_42 : decode cX3_note 42 = .ok (.iastore, 1) := by decide +kernel
theorem dX3_note_43 : decode cX3_note 43 = .ok (.aload_n 0, 1) := by decide +kernel
theorem dX3_note_44 : decode cX3_note 44 = .ok (.dup, 1) := by decide +kernel
theorem dX3_note_45 : decode cX3_note 45 = .ok (.getfield 56, 3) := by decide +kernel
theorem dX3_note_48 : decode cX3_note 48 = .ok (.iconst 1, 1) := by decide +kernel
theorem dX3_note_49 : decode cX3_note 49 = .ok (.iadd, 1) := by decide +kernel
theorem dX3_note_50 : decode cX3_note 50 = .ok (.putfield 56, 3) := by decide +kernel
theorem dX3_note_53 : decode cX3_note 53 = .ok (.return_, 1) := by decide +kernel
theorem dX3_scanWord_0 : decode cX3_scanWord 0 = .ok (.iload_n 1, 1) := by decide +kernel
theorem dX3_scanWord_1 : decode cX3_scanWord 1 = .ok (.istore_n 2, 1) := by decide +kernel
theorem dX3_scanWord_2 : decode cX3_scanWord 2 = .ok (.iload_n 1, 1) := by decide +kernel
theorem dX3_scanWord_3 : decode cX3_scanWord 3 = .ok (.istore_n 3, 1) := by decide +kernel
theorem dX3_scanWord_4 : decode cX3_scanWord 4 = .ok (.iload_n 3, 1) := by decide +kernel
theorem dX3_scanWord_5 : decode cX3_scanWord 5 = .ok (.aload_n 0, 1) := by decide +kernel
theorem dX3_scanWord_6 : decode cX3_scanWord 6 = .ok (.getfield 30, 3) := by decide +kernel
theorem dX3_scanWord_9 : decode cX3_scanWord 9 = .ok (.if_icmp .ge 25, 3) := by decide +kernel
theorem dX3_scanWord_12 : decode cX3_scanWord 12 = .ok (.aload_n 0, 1) := by decide +kernel
theorem dX3_scanWord_13 : decode cX3_scanWord 13 = .ok (.getfield 11, 3) := by decide +kernel
theorem dX3_scanWord_16 : decode cX3_scanWord 16 = .ok (.iload_n 3, 1) := by decide +kernel
theorem dX3_scanWord_17 : decode cX3_scanWord 17 = .ok (.iaload, 1) := by decide +kernel
theorem dX3_scanWord_18 : decode cX3_scanWord 18 = .ok (.invokestatic 67, 3) := by decide +kernel
theorem dX3_scanWord_21 : decode cX3_scanWord 21 = .ok (.ifCond .eq 13, 3) := by decide +kernel
theorem dX3_scanWord_24 : decode cX3_scanWord 24 = .ok (.iload_n 3, 1) := by decide +kernel
theorem dX3_scanWord_25 : decode cX3_scanWord 25 = .ok (.iconst 1, 1) := by decide +kernel
theorem dX3_scanWord_26 : decode cX3_scanWord 26 = .ok (.iadd, 1) := by decide +kernel
theorem dX3_scanWord_27 : decode cX3_scanWord 27 = .ok (.istore_n 2, 1) := by decide +kernel
theorem dX3_scanWord_28 : decode cX3_scanWord 28 = .ok (.iinc 3 1, 3) := by decide +kernel
theorem dX3_scanWord_31 : decode cX3_scanWord 31 = .ok (.goto (-27), 3) := by decide +kernel
theorem dX3_scanWord_34 : decode cX3_scanWord 34 = .ok (.aload_n 0, 1) := by decide +kernel
theorem dX3_scanWord_35 : decode cX3_scanWord 35 = .ok (.iload_n 1, 1) := by decide +kernel
theorem dX3_scanWord_36 : decode cX3_scanWord 36 = .ok (.iload_n 2, 1) := by decide +kernel
theorem dX3_scanWord_37 : decode cX3_scanWord 37 = .ok (.invokevirtual 88, 3) := by decide +kernel
theorem dX3_scanWord_40 : decode cX3_scanWord 40 = .ok (.istore_n 3, 1) := by decide +kernel
theorem dX3_scanWord_41 : decode cX3_scanWord 41 = .ok (.iload_n 3, 1) := by decide +kernel
theorem dX3_scanWord_42 : decode cX3_scanWord 42 = .ok (.iconst (-1), 1) := by decide +kernel
theorem dX3_scanWord_43 : decode cX3_scanWord 43 = .ok (.if_icmp .ne 14, 3) := by decide +kernel
theorem dX3_scanWord_46 : decode cX3_scanWord 46 = .ok (.aload_n 0, 1) := by decide +kernel
theorem dX3_scanWord_47 : decode cX3_scanWord 47 = .ok (.bipush (-2), 2) := by decide +kernel
theorem dX3_scanWord_49 : decode cX3_scanWord 49 = .ok (.iload_n 1, 1) := by decide +kernel
theorem dX3_scanWord_50 : decode cX3_scanWord 50 = .ok (.iconst 0, 1) := by decide +kernel
theorem dX3_scanWord_51 : decode cX3_scanWord 51 = .ok (.invokevirtual 63, 3) := by decide +kernel
theorem dX3_scanWord_54 : decode cX3_scanWord 54 = .ok (.goto 32, 3) := by decide +kernel
theorem dX3_scanWord_57 : decode cX3_scanWord 57 = .ok (.iload_n 3, 1) := by decide +kernel
theorem dX3_scanWord_58 : decode cX3_scanWord 58 = .ok (.bipush 6, 2) := by decide +kernel
theorem dX3_scanWord_60 : decode cX3_scanWord 60 = .ok (.if_icmp .ge 16, 3) := by decide +kernel
theorem dX3_scanWord_63 : decode cX3_scanWord 63 = .ok (.aload_n 0, 1) := by decide +kernel
theorem dX3_scanWord_64 : decode cX3_scanWord 64 = .ok (.bipush (-4), 2) := by decide +kernel
theorem dX3_scanWord_66 : decode cX3_scanWord 66 = .ok (.iload_n 1, 1) := by decide +kernel
theorem dX3_scanWord_67 : decode cX3_scanWord 67 = .ok (.iconst (-1), 1) := by decide +kernel
theorem dX3_scanWord_68 : decode cX3_scanWord 68 = .ok (.iload_n 3, 1) := by decide +kernel
theorem dX3_scanWord_69 : decode cX3_scanWord 69 = .ok (.isub, 1) := by decide +kernel
theorem dX3_scanWord_70 : decode cX3_scanWord 70 = .ok (.invokevirtual 63, 3) := by decide +kernel
theorem dX3_scanWord_73 : decode cX3_scanWord 73 = .ok (.goto 13, 3) := by decide +kernel
theorem dX3_scanWord_76 : decode cX3_scanWord 76 = .ok (.aload_n 0, 1) := by decide +kernel
theorem dX3_scanWord_77 : decode cX3_scanWord 77 = .ok (.bipush (-5), 2) := by decide +kernel
theorem dX3_scanWord_79 : decode cX3_scanWord 79 = .ok (.iload_n 3, 1) := by decide +kernel
theorem dX3_scanWord_80 : decode cX3_scanWord 80 = .ok (.isub, 1) := by decide +kernel
theorem dX3_scanWord_81 : decode cX3_scanWord 81 = .ok (.iload_n 1, 1) := by decide +kernel
theorem dX3_scanWord_82 : decode cX3_scanWord 82 = .ok (.iconst 0, 1) := by decide +kernel
theorem dX3_scanWord_83 : decode cX3_scanWord 83 = .ok (.invokevirtual 63, 3) := by decide +kernel
theorem dX3_scanWord_86 : decode cX3_scanWord 86 = .ok (.iload_n 2, 1) := by decide +kernel
theorem dX3_scanWord_87 : decode cX3_scanWord 87 = .ok (.ireturn, 1) := by decide +kernel
theorem dX3_isDigit_0 : decode cX3_isDigit 0 = .ok (.iload_n 0, 1) := by decide +kernel
theorem dX3_isDigit_1 : decode cX3_isDigit 1 = .ok (.bipush 48, 2) := by decide +kernel
theorem dX3_isDigit_3 : decode cX3_isDigit 3 = .ok (.if_icmp .lt 13, 3) := by decide +kernel
theorem dX3_isDigit_6 : decode cX3_isDigit 6 = .ok (.iload_n 0, 1) := by decide +kernel
theorem dX3_isDigit_7 : decode cX3_isDigit 7 = .ok (.bipush 57, 2) := by decide +kernel
theorem dX3_isDigit_9 : decode cX3_isDigit 9 = .ok (.if_icmp .gt 7, 3) := by decide +kernel
theorem dX3_isDigit_12 : decode cX3_isDigit 12 = .ok (.iconst 1, 1) := by decide +kernel
theorem dX3_isDigit_13 : decode cX3_isDigit 13 = .ok (.goto 4, 3) := by decide +kernel
theorem dX3_isDigit_16 : decode cX3_isDigit 16 = .ok (.iconst 0, 1) := by decide +kernel
theorem dX3_isDigit_17 : decode cX3_isDigit 17 = .ok (.ireturn, 1) := by decide +kernel
theorem dX3_scanNumber_0 : decode cX3_scanNumber 0 = .ok (.iconst 0, 1) := by decide +kernel
theorem dX3_scanNumber_1 : decode cX3_scanNumber 1 = .ok (.istore_n 2, 1) := by decide +kernel
theorem dX3_scanNumber_2 : decode cX3_scanNumber 2 = .ok (.iload_n 1, 1) := by decide +kernel
theorem dX3_scanNumber_3 : decode cX3_scanNumber 3 = .ok (.istore_n 3, 1) := by decide +kernel
theorem dX3_scanNumber_4 : decode cX3_scanNumber 4 = .ok (.iload_n 1, 1) := by decide +kernel
theorem dX3_scanNumber_5 : decode cX3_scanNumber 5 = .ok (.istore 4, 2) := by decide +kernel
theorem dX3_scanNumber_7 : decode cX3_scanNumber 7 = .ok (.iload 4, 2) := by decide +kernel
theorem dX3_scanNumber_9 : decode cX3_scanNumber 9 = .ok (.aload_n 0, 1) := by decide +kernel
theorem dX3_scanNumber_10 : decode cX3_scanNumber 10 = .ok (.getfield 30, 3) := by decide +kernel
theorem dX3_scanNumber_13 : decode cX3_scanNumber 13 = .ok (.if_icmp .ge 51, 3) := by decide +kernel
theorem dX3_scanNumber_16 : decode cX3_scanNumber 16 = .ok (.aload_n 0, 1) := by decide +kernel
theorem dX3_scanNumber_17 : decode cX3_scanNumber 17 = .ok (.getfield 11, 3) := by decide +kernel
theorem dX3_scanNumber_20 : decode cX3_scanNumber 20 = .ok (.iload 4, 2) := by decide +kernel
theorem dX3_scanNumber_22 : decode cX3_scanNumber 22 = .ok (.iaload, 1) := by decide +kernel
theorem dX3_scanNumber_23 : decode cX3_scanNumber 23 = .ok (.invokestatic 75, 3) := by decide +kernel
theorem dX3_scanNumber_26 : decode cX3_scanNumber 26 = .ok (.ifCond .eq 38, 3) := by decide +kernel
theorem dX3_scanNumber_29 : decode cX3_scanNumber 29 = .ok (.iload 4, 2) := by decide +kernel
theorem dX3_scanNumber_31 : decode cX3_scanNumber 31 = .ok (.iload_n 1, 1) := by decide +kernel
theorem dX3_scanNumber_32 : decode cX3_scanNumber 32 = .ok (.iconst 4, 1) := by decide +kernel
theorem dX3_scanNumber_33 : decode cX3_scanNumber 33 = .ok (.iadd, 1) := by decide +kernel
theorem dX3_scanNumber_34 : decode cX3_scanNumber 34 = .ok (.if_icmp .ge 19, 3) := by decide +kernel
theorem dX3_scanNumber_37 : decode cX3_scanNumber 37 = .ok (.iload_n 2, 1) := by decide +kernel
theorem dX3_scanNumber_38 : decode cX3_scanNumber 38 = .ok (.bipush 10, 2) := by decide +kernel
theorem dX3_scanNumber_40 : decode cX3_scanNumber 40 = .ok (.imul, 1) := by decide +kernel
theorem dX3_scanNumber_41 : decode cX3_scanNumber 41 = .ok (.aload_n 0, 1) := by decide +kernel
theorem dX3_scanNumber_42 : decode cX3_scanNumber 42 = .ok (.getfield 11, 3) := by decide +kernel
theorem dX3_scanNumber_45 : decode cX3_scanNumber 45 = .ok (.iload 4, 2) := by decide +kernel
theorem dX3_scanNumber_47 : decode cX3_scanNumber 47 = .ok (.iaload, 1) := by decide +kernel
theorem dX3_scanNumber_48 : decode cX3_scanNumber 48 = .ok (.iadd, 1) := by decide +kernel
theorem dX3_scanNumber_49 : decode cX3_scanNumber 49 = .ok (.bipush 48, 2) := by decide +kernel
theorem dX3_scanNumber_51 : decode cX3_scanNumber 51 = .ok (.isub, 1) := by decide +kernel
theorem dX3_scanNumber_52 : decode cX3_scanNumber 52 = .ok (.istore_n 2, 1) := by decide +kernel
theorem dX3_scanNumber_53 : decode cX3_scanNumber 53 = .ok (.iload 4, 2) := by decide +kernel
theorem dX3_scanNumber_55 : decode cX3_scanNumber 55 = .ok (.iconst 1, 1) := by decide +kernel
theorem dX3_scanNumber_56 : decode cX3_scanNumber 56 = .ok (.iadd, 1) := by decide +kernel
theorem dX3_scanNumber_57 : decode cX3_scanNumber 57 = .ok (.istore_n 3, 1) := by decide +kernel
theorem dX3_scanNumber_58 : decode cX3_scanNumber 58 = .ok (.iinc 4 1, 3) := by decide +kernel
theorem dX3_scanNumber_61 : decode cX3_scanNumber 61 = .ok (.goto (-54), 3) := by decide +kernel
theorem dX3_scanNumber_64 : decode cX3_scanNumber 64 = .ok (.aload_n 0, 1) := by decide +kernel
theorem dX3_scanNumber_65 : decode cX3_scanNumber 65 = .ok (.iload_n 3, 1) := by decide +kernel
theorem dX3_scanNumber_66 : decode cX3_scanNumber 66 = .ok (.iload_n 1, 1) := by decide +kernel
theorem dX3_scanNumber_67 : decode cX3_scanNumber 67 = .ok (.isub, 1) := by decide +kernel
theorem dX3_scanNumber_68 : decode cX3_scanNumber 68 = .ok (.iconst 4, 1) := by decide +kernel
theorem dX3_scanNumber_69 : decode cX3_scanNumber 69 = .ok (.if_icmp .le 8, 3) := by decide +kernel
theorem dX3_scanNumber_72 : decode cX3_scanNumber 72 = .ok (.bipush (-2), 2) := by decide +kernel
theorem dX3_scanNumber_74 : decode cX3_scanNumber 74 = .ok (.goto 5, 3) := by decide +kernel
theorem dX3_scanNumber_77 : decode cX3_scanNumber 77 = .ok (.bipush (-3), 2) := by decide +kernel
theorem dX3_scanNumber_79 : decode cX3_scanNumber 79 = .ok (.iload_n 1, 1) := by decide +kernel
theorem dX3_scanNumber_80 : decode cX3_scanNumber 80 = .ok (.iload_n 2, 1) := by decide +kernel
theorem dX3_scanNumber_81 : decode cX3_scanNumber 81 = .ok (.invokevirtual 63, 3) := by decide +kernel
theorem dX3_scanNumber_84 : decode cX3_scanNumber 84 = .ok (.iload_n 3, 1) := by decide +kernel
theorem dX3_scanNumber_85 : decode cX3_scanNumber 85 = .ok (.ireturn, 1) := by decide +kernel
theorem dX3_scanToken_0 : decode cX3_scanToken 0 = .ok (.iload_n 2, 1) := by decide +kernel
theorem dX3_scanToken_1 : decode cX3_scanToken 1 = .ok (.invokestatic 67, 3) := by decide +kernel
theorem dX3_scanToken_4 : decode cX3_scanToken 4 = .ok (.ifCond .eq 9, 3) := by decide +kernel
theorem dX3_scanToken_7 : decode cX3_scanToken 7 = .ok (.aload_n 0, 1) := by decide +kernel
theorem dX3_scanToken_8 : decode cX3_scanToken 8 = .ok (.iload_n 1, 1) := by decide +kernel
theorem dX3_scanToken_9 : decode cX3_scanToken 9 = .ok (.invokevirtual 71, 3) := by decide +kernel
theorem dX3_scanToken_12 : decode cX3_scanToken 12 = .ok (.ireturn, 1) := by decide +kernel
theorem dX3_scanToken_13 : decode cX3_scanToken 13 = .ok (.iload_n 2, 1) := by decide +kernel
theorem dX3_scanToken_14 : decode cX3_scanToken 14 = .ok (.invokestatic 75, 3) := by decide +kernel
theorem dX3_scanToken_17 : decode cX3_scanToken 17 = .ok (.ifCond .eq 9, 3) := by decide +kernel
theorem dX3_scanToken_20 : decode cX3_scanToken 20 = .ok (.aload_n 0, 1) := by decide +kernel
theorem dX3_scanToken_21 : decode cX3_scanToken 21 = .ok (.iload_n 1, 1) := by decide +kernel
theorem dX3_scanToken_22 : decode cX3_scanToken 22 = .ok (.invokevirtual 78, 3) := by decide +kernel
theorem dX3_scanToken_25 : decode cX3_scanToken 25 = .ok (.ireturn, 1) := by decide +kernel
theorem dX3_scanToken_26 : decode cX3_scanToken 26 = .ok (.aload_n 0, 1) := by decide +kernel
theorem dX3_scanToken_27 : decode cX3_scanToken 27 = .ok (.ldc 81, 2) := by decide +kernel
theorem dX3_scanToken_29 : decode cX3_scanToken 29 = .ok (.iload_n 2, 1) := by decide +kernel
theorem dX3_scanToken_30 : decode cX3_scanToken 30 = .ok (.i2c, 1) := by decide +kernel
theorem dX3_scanToken_31 : decode cX3_scanToken 31 = .ok (.invokevirtual 83, 3) := by decide +kernel
theorem dX3_scanToken_34 : decode cX3_scanToken 34 = .ok (.ifCond .lt 7, 3) := by decide +kernel
theorem dX3_scanToken_37 : decode cX3_scanToken 37 = .ok (.iload_n 2, 1) := by decide +kernel
theorem dX3_scanToken_38 : decode cX3_scanToken 38 = .ok (.goto 5, 3) := by decide +kernel
theorem dX3_scanToken_41 : decode cX3_scanToken 41 = .ok (.bipush (-2), 2) := by decide +kernel
theorem dX3_scanToken_43 : decode cX3_scanToken 43 = .ok (.iload_n 1, 1) := by decide +kernel
theorem dX3_scanToken_44 : decode cX3_scanToken 44 = .ok (.iconst 0, 1) := by decide +kernel
theorem dX3_scanToken_45 : decode cX3_scanToken 45 = .ok (.invokevirtual 63, 3) := by decide +kernel
theorem dX3_scanToken_48 : decode cX3_scanToken 48 = .ok (.iload_n 1, 1) := by decide +kernel
theorem dX3_scanToken_49 : decode cX3_scanToken 49 = .ok (.iconst 1, 1) := by decide +kernel
theorem dX3_scanToken_50 : decode cX3_scanToken 50 = .ok (.iadd, 1) := by decide +kernel
theorem dX3_scanToken_51 : decode cX3_scanToken 51 = .ok (.ireturn, 1) := by decide +kernel
theorem dX3_scan_0 : decode cX3_scan 0 = .ok (.aload_n 0, 1) := by decide +kernel
theorem dX3_scan_1 : decode cX3_scan 1 = .ok (.iconst 0, 1) := by decide +kernel
theorem dX3_scan_2 : decode cX3_scan 2 = .ok (.putfield 56, 3) := by decide +kernel
theorem dX3_scan_5 : decode cX3_scan 5 = .ok (.iconst 0, 1) := by decide +kernel
theorem dX3_scan_6 : decode cX3_scan 6 = .ok (.istore_n 1, 1) := by decide +kernel
theorem dX3_scan_7 : decode cX3_scan 7 = .ok (.iconst 0, 1) := by decide +kernel
theorem dX3_scan_8 : decode cX3_scan 8 = .ok (.istore_n 2, 1) := by decide +kernel
theorem dX3_scan_9 : decode cX3_scan 9 = .ok (.iload_n 2, 1) := by decide +kernel
theorem dX3_scan_10 : decode cX3_scan 10 = .ok (.sipush 160, 3) := by decide +kernel
theorem dX3_scan_13 : decode cX3_scan 13 = .ok (.if_icmp .ge 73, 3) := by decide +kernel
theorem dX3_scan_16 : decode cX3_scan 16 = .ok (.iload_n 1, 1) := by decide +kernel
theorem dX3_scan_17 : decode cX3_scan 17 = .ok (.aload_n 0, 1) := by decide +kernel
theorem dX3_scan_18 : decode cX3_scan 18 = .ok (.getfield 30, 3) := by decide +kernel
theorem dX3_scan_21 : decode cX3_scan 21 = .ok (.if_icmp .ge 65, 3) := by decide +kernel
theorem dX3_scan_24 : decode cX3_scan 24 = .ok (.aload_n 0, 1) := by decide +kernel
theorem dX3_scan_25 : decode cX3_scan 25 = .ok (.getfield 11, 3) := by decide +kernel
theorem dX3_scan_28 : decode cX3_scan 28 = .ok (.iload_n 1, 1) := by decide +kernel
theorem dX3_scan_29 : decode cX3_scan 29 = .ok (.iaload, 1) := by decide +kernel
theorem dX3_scan_30 : decode cX3_scan 30 = .ok (.istore_n 3, 1) := by decide +kernel
theorem dX3_scan_31 : decode cX3_scan 31 = .ok (.iload_n 3, 1) := by decide +kernel
theorem dX3_scan_32 : decode cX3_scan 32 = .ok (.bipush 32, 2) := by decide +kernel
theorem dX3_scan_34 : decode cX3_scan 34 = .ok (.if_icmp .eq 9, 3) := by decide +kernel
theorem dX3_scan_37 : decode cX3_scan 37 = .ok (.iload_n 3, 1) := by decide +kernel
theorem dX3_scan_38 : decode cX3_scan 38 = .ok (.bipush 10, 2) := by decide +kernel
theorem dX3_scan_40 : decode cX3_scan 40 = .ok (.if_icmp .ne 9, 3) := by decide +kernel
theorem dX3_scan_43 : decode cX3_scan 43 = .ok (.iinc 1 1, 3) := by decide +kernel
theorem dX3_scan_46 : decode cX3_scan 46 = .ok (.goto 34, 3) := by decide +kernel
theorem dX3_scan_49 : decode cX3_scan 49 = .ok (.aload_n 0, 1) := by decide +kernel
theorem dX3_scan_50 : decode cX3_scan 50 = .ok (.iload_n 1, 1) := by decide +kernel
theorem dX3_scan_51 : decode cX3_scan 51 = .ok (.iload_n 3, 1) := by decide +kernel
theorem dX3_scan_52 : decode cX3_scan 52 = .ok (.invokevirtual 59, 3) := by decide +kernel
theorem dX3_scan_55 : decode cX3_scan 55 = .ok (.istore_n 1, 1) := by decide +kernel
theorem dX3_scan_56 : decode cX3_scan 56 = .ok (.aload_n 0, 1) := by decide +kernel
theorem dX3_scan_57 : decode cX3_scan 57 = .ok (.getfield 56, 3) := by decide +kernel
theorem dX3_scan_60 : decode cX3_scan 60 = .ok (.ifCond .le 20, 3) := by decide +kernel
theorem dX3_scan_63 : decode cX3_scan 63 = .ok (.aload_n 0, 1) := by decide +kernel
theorem dX3_scan_64 : decode cX3_scan 64 = .ok (.getfield 15, 3) := by decide +kernel
theorem dX3_scan_67 : decode cX3_scan 67 = .ok (.aload_n 0, 1) := by decide +kernel
theorem dX3_scan_68 : decode cX3_scan 68 = .ok (.getfield 56, 3) := by decide +kernel
theorem dX3_scan_71 : decode cX3_scan 71 = .ok (.iconst 1, 1) := by decide +kernel
theorem dX3_scan_72 : decode cX3_scan 72 = .ok (.isub, 1) := by decide +kernel
theorem dX3_scan_73 : decode cX3_scan 73 = .ok (.iaload, 1) := by decide +kernel
theorem dX3_scan_74 : decode cX3_scan 74 = .ok (.bipush (-2), 2) := by decide +kernel
theorem dX3_scan_76 : decode cX3_scan 76 = .ok (.if_icmp .ne 4, 3) := by decide +kernel
theorem dX3_scan_79 : decode cX3_scan 79 = .ok (.return_, 1) := by decide +kernel
theorem dX3_scan_80 : decode cX3_scan 80 = .ok (.iinc 2 1, 3) := by decide +kernel
theorem dX3_scan_83 : decode cX3_scan 83 = .ok (.goto (-74), 3) := by decide +kernel
theorem dX3_scan_86 : decode cX3_scan 86 = .ok (.aload_n 0, 1) := by decide +kernel
theorem dX3_scan_87 : decode cX3_scan 87 = .ok (.iconst (-1), 1) := by decide +kernel
theorem dX3_scan_88 : decode cX3_scan 88 = .ok (.aload_n 0, 1) := by decide +kernel
theorem dX3_scan_89 : decode cX3_scan 89 = .ok (.getfield 30, 3) := by decide +kernel
theorem dX3_scan_92 : decode cX3_scan 92 = .ok (.iconst 0, 1) := by decide +kernel
theorem dX3_scan_93 : decode cX3_scan 93 = .ok (.invokevirtual 63, 3) := by decide +kernel
theorem dX3_scan_96 : decode cX3_scan 96 = .ok (.return_, 1) := by decide +kernel
theorem dX3_advance_0 : decode cX3_advance 0 = .ok (.aload_n 0, 1) := by decide +kernel
theorem dX3_advance_1 : decode cX3_advance 1 = .ok (.getfield 43, 3) := by decide +kernel
theorem dX3_advance_4 : decode cX3_advance 4 = .ok (.iconst (-1), 1) := by decide +kernel
theorem dX3_advance_5 : decode cX3_advance 5 = .ok (.if_icmp .ne 16, 3) := by decide +kernel
theorem dX3_advance_8 : decode cX3_advance 8 = .ok (.aload_n 0, 1) := by decide +kernel
theorem dX3_advance_9 : decode cX3_advance 9 = .ok (.getfield 37, 3) := by decide +kernel
theorem dX3_advance_12 : decode cX3_advance 12 = .ok (.iconst 1, 1) := by decide +kernel
theorem dX3_advance_13 : decode cX3_advance 13 = .ok (.iadd, 1) := by decide +kernel
theorem dX3_advance_14 : decode cX3_advance 14 = .ok (.aload_n 0, 1) := by decide +kernel
theorem dX3_advance_15 : decode cX3_advance 15 = .ok (.getfield 56, 3) := by decide +kernel
theorem dX3_advance_18 : decode cX3_advance 18 = .ok (.if_icmp .lt 4, 3) := by decide +kernel
theorem dX3_advance_21 : decode cX3_advance 21 = .ok (.return_, 1) := by decide +kernel
theorem dX3_advance_22 : decode cX3_advance 22 = .ok (.aload_n 0, 1) := by decide +kernel
theorem dX3_advance_23 : decode cX3_advance 23 = .ok (.dup, 1) := by decide +kernel
theorem dX3_advance_24 : decode cX3_advance 24 = .ok (.getfield 37, 3) := by decide +kernel
theorem dX3_advance_27 : decode cX3_advance 27 = .ok (.iconst 1, 1) := by decide +kernel
theorem dX3_advance_28 : decode cX3_advance 28 = .ok (.iadd, 1) := by decide +kernel
theorem dX3_advance_29 : decode cX3_advance 29 = .ok (.putfield 37, 3) := by decide +kernel
theorem dX3_advance_32 : decode cX3_advance 32 = .ok (.aload_n 0, 1) := by decide +kernel
theorem dX3_advance_33 : decode cX3_advance 33 = .ok (.aload_n 0, 1) := by decide +kernel
theorem dX3_advance_34 : decode cX3_advance 34 = .ok (.getfield 15, 3) := by decide +kernel
theorem dX3_advance_37 : decode cX3_advance 37 = .ok (.aload_n 0, 1) := by decide +kernel
theorem dX3_advance_38 : decode cX3_advance 38 = .ok (.getfield 37, 3) := by decide +kernel
theorem dX3_advance_41 : decode cX3_advance 41 = .ok (.iaload, 1) := by decide +kernel
theorem dX3_advance_42 : decode cX3_advance 42 = .ok (.putfield 40, 3) := by decide +kernel
theorem dX3_advance_45 : decode cX3_advance 45 = .ok (.return_, 1) := by decide +kernel
theorem dX3_fail_0 : decode cX3_fail 0 = .ok (.aload_n 0, 1) := by decide +kernel
theorem dX3_fail_1 : decode cX3_fail 1 = .ok (.getfield 43, 3) := by decide +kernel
theorem dX3_fail_4 : decode cX3_fail 4 = .ok (.iconst (-1), 1) := by decide +kernel
theorem dX3_fail_5 : decode cX3_fail 5 = .ok (.if_icmp .ne 16, 3) := by decide +kernel
theorem dX3_fail_8 : decode cX3_fail 8 = .ok (.aload_n 0, 1) := by decide +kernel
theorem dX3_fail_9 : decode cX3_fail 9 = .ok (.aload_n 0, 1) := by decide +kernel
theorem dX3_fail_10 : decode cX3_fail 10 = .ok (.getfield 18, 3) := by decide +kernel
theorem dX3_fail_13 : decode cX3_fail 13 = .ok (.aload_n 0, 1) := by decide +kernel
theorem dX3_fail_14 : decode cX3_fail 14 = .ok (.getfield 37, 3) := by decide +kernel
theorem dX3_fail_17 : decode cX3_fail 17 = .ok (.iaload, 1) := by decide +kernel
theorem dX3_fail_18 : decode cX3_fail 18 = .ok (.putfield 43, 3) := by decide +kernel
theorem dX3_fail_21 : decode cX3_fail 21 = .ok (.aload_n 0, 1) := by decide +kernel
theorem dX3_fail_22 : decode cX3_fail 22 = .ok (.bipush (-2), 2) := by decide +kernel
theorem dX3_fail_24 : decode cX3_fail 24 = .ok (.putfield 40, 3) := by decide +kernel
theorem dX3_fail_27 : decode cX3_fail 27 = .ok (.return_, 1) := by decide +kernel
theorem dX3_expect_0 : decode cX3_expect 0 = .ok (.aload_n 0, 1) := by decide +kernel
theorem dX3_expect_1 : decode cX3_expect 1 = .ok (.getfield 40, 3) := by decide +kernel
theorem dX3_expect_4 : decode cX3_expect 4 = .ok (.iload_n 1, 1) := by decide +kernel
theorem dX3_expect_5 : decode cX3_expect 5 = .ok (.if_icmp .ne 10, 3) := by decide +kernel
theorem dX3_expect_8 : decode cX3_expect 8 = .ok (.aload_n 0, 1) := by decide +kernel
theorem dX3_expect_9 : decode cX3_expect 9 = .ok (.invokevirtual 114, 3) := by decide +kernel
theorem dX3_expect_12 : decode cX3_expect 12 = .ok (.goto 7, 3) := by decide +kernel
theorem dX3_expect_15 : decode cX3_expect 15 = .ok (.aload_n 0, 1) := by decide +kernel
theorem dX3_expect_16 : decode cX3_expect 16 = .ok (.invokevirtual 53, 3) := by decide +kernel
theorem dX3_expect_19 : decode cX3_expect 19 = .ok (.return_, 1) := by decide +kernel
theorem dX3_mayOpen_0 : decode cX3_mayOpen 0 = .ok (.iload_n 1, 1) := by decide +kernel
theorem dX3_mayOpen_1 : decode cX3_mayOpen 1 = .ok (.iconst 5, 1) := by decide +kernel
theorem dX3_mayOpen_2 : decode cX3_mayOpen 2 = .ok (.if_icmp .lt 9, 3) := by decide +kernel
theorem dX3_mayOpen_5 : decode cX3_mayOpen 5 = .ok (.aload_n 0, 1) := by decide +kernel
theorem dX3_mayOpen_6 : decode cX3_mayOpen 6 = .ok (.invokevirtual 53, 3) := by decide +kernel
theorem dX3_mayOpen_9 : decode cX3_mayOpen 9 = .ok (.iconst 0, 1) := by decide +kernel
theorem dX3_mayOpen_10 : decode cX3_mayOpen 10 = .ok (.ireturn, 1) := by decide +kernel
theorem dX3_mayOpen_11 : decode cX3_mayOpen 11 = .ok (.aload_n 0, 1) := by decide +kernel
theorem dX3_mayOpen_12 : decode cX3_mayOpen 12 = .ok (.invokevirtual 114, 3) := by decide +kernel
theorem dX3_mayOpen_15 : decode cX3_mayOpen 15 = .ok (.iconst 1, 1) := by decide +kernel
theorem dX3_mayOpen_16 : decode cX3_mayOpen 16 = .ok (.ireturn, 1) := by decide +kernel
theorem dX3_emit_0 : decode cX3_emit 0 = .ok (.aload_n 0, 1) := by decide +kernel
theorem dX3_emit_1 : decode cX3_emit 1 = .ok (.getfield 46, 3) := by decide +kernel
theorem dX3_emit_4 : decode cX3_emit 4 = .ok (.aload_n 0, 1) := by decide +kernel
theorem dX3_emit_5 : decode cX3_emit 5 = .ok (.getfield 24, 3) := by decide +kernel
theorem dX3_emit_8 : decode cX3_emit 8 = .ok (.arraylength, 1) := by decide +kernel
theorem dX3_emit_9 : decode cX3_emit 9 = .ok (.if_icmp .lt 4, 3) := by decide +kernel
theorem dX3_emit_12 : decode cX3_emit 12 = .ok (.return_, 1) := by decide +kernel
theorem dX3_emit_13 : decode cX3_emit 13 = .ok (.aload_n 0, 1) := by decide +kernel
theorem dX3_emit_14 : decode cX3_emit 14 = .ok (.getfield 24, 3) := by decide +kernel
theorem dX3_emit_17 : decode cX3_emit 17 = .ok (.aload_n 0, 1) := by decide +kernel
theorem dX3_emit_18 : decode cX3_emit 18 = .ok (.getfield 46, 3) := by decide +kernel
theorem dX3_emit_21 : decode cX3_emit 21 = .ok (.iload_n 1, 1) := by decide +kernel
theorem dX3_emit_22 : decode cX3_emit 22 = .ok (.iastore, 1) := by decide +kernel
theorem dX3_emit_23 : decode cX3_emit 23 = .ok (.aload_n 0, 1) := by decide +kernel
theorem dX3_emit_24 : decode cX3_emit 24 = .ok (.dup, 1) := by decide +kernel
theorem dX3_emit_25 : decode cX3_emit 25 = .ok (.getfield 46, 3) := by decide +kernel
theorem dX3_emit_28 : decode cX3_emit 28 = .ok (.iconst 1, 1) := by decide +kernel
theorem dX3_emit_29 : decode cX3_emit 29 = .ok (.iadd, 1) := by decide +kernel
theorem dX3_emit_30 : decode cX3_emit 30 = .ok (.putfield 46, 3) := by decide +kernel
theorem dX3_emit_33 : decode cX3_emit 33 = .ok (.return_, 1) := by decide +kernel
theorem dX3_readOr_0 : decode cX3_readOr 0 = .ok (.aload_n 0, 1) := by decide +kernel
theorem dX3_readOr_1 : decode cX3_readOr 1 = .ok (.iload_n 1, 1) := by decide +kernel
theorem dX3_readOr_2 : decode cX3_readOr 2 = .ok (.invokevirtual 111, 3) := by decide +kernel
theorem dX3_readOr_5 : decode cX3_readOr 5 = .ok (.iconst 0, 1) := by decide +kernel
theorem dX3_readOr_6 : decode cX3_readOr 6 = .ok (.istore_n 2, 1) := by decide +kernel
theorem dX3_readOr_7 : decode cX3_readOr 7 = .ok (.iload_n 2, 1) := by decide +kernel
theorem dX3_readOr_8 : decode cX3_readOr 8 = .ok (.sipush 160, 3) := by decide +kernel
theorem dX3_readOr_11 : decode cX3_readOr 11 = .ok (.if_icmp .ge 33, 3) := by decide +kernel
theorem dX3_readOr_14 : decode cX3_readOr 14 = .ok (.aload_n 0, 1) := by decide +kernel
theorem dX3_readOr_15 : decode cX3_readOr 15 = .ok (.getfield 40, 3) := by decide +kernel
theorem dX3_readOr_18 : decode cX3_readOr 18 = .ok (.bipush (-14), 2) := by decide +kernel
theorem dX3_readOr_20 : decode cX3_readOr 20 = .ok (.if_icmp .ne 24, 3) := by decide +kernel
theorem dX3_readOr_23 : decode cX3_readOr 23 = .ok (.aload_n 0, 1) := by decide +kernel
theorem dX3_readOr_24 : decode cX3_readOr 24 = .ok (.invokevirtual 114, 3) := by decide +kernel
theorem dX3_readOr_27 : decode cX3_readOr 27 = .ok (.aload_n 0, 1) := by decide +kernel
theorem dX3_readOr_28 : decode cX3_readOr 28 = .ok (.iload_n 1, 1) := by decide +kernel
theorem dX3_readOr_29 : decode cX3_readOr 29 = .ok (.invokevirtual 111, 3) := by decide +kernel
theorem dX3_readOr_32 : decode cX3_readOr 32 = .ok (.aload_n 0, 1) := by decide +kernel
theorem dX3_readOr_33 : decode cX3_readOr 33 = .ok (.bipush (-9), 2) := by decide +kernel
theorem dX3_readOr_35 : decode cX3_readOr 35 = .ok (.invokevirtual 117, 3) := by decide +kernel
theorem dX3_readOr_38 : decode cX3_readOr 38 = .ok (.iinc 2 1, 3) := by decide +kernel
theorem dX3_readOr_41 : decode cX3_readOr 41 = .ok (.goto (-34), 3) := by decide +kernel
theorem dX3_readOr_44 : decode cX3_readOr 44 = .ok (.return_, 1) := by decide +kernel
theorem dX3_readAnd_0 : decode cX3_readAnd 0 = .ok (.aload_n 0, 1) := by decide +kernel
theorem dX3_readAnd_1 : decode cX3_readAnd 1 = .ok (.iload_n 1, 1) := by decide +kernel
theorem dX3_readAnd_2 : decode cX3_readAnd 2 = .ok (.invokevirtual 120, 3) := by decide +kernel
theorem dX3_readAnd_5 : decode cX3_readAnd 5 = .ok (.iconst 0, 1) := by decide +kernel
theorem dX3_readAnd_6 : decode cX3_readAnd 6 = .ok (.istore_n 2, 1) := by decide +kernel
theorem dX3_readAnd_7 : decode cX3_readAnd 7 = .ok (.iload_n 2, 1) := by decide +kernel
theorem dX3_readAnd_8 : decode cX3_readAnd 8 = .ok (.sipush 160, 3) := by decide +kernel
theorem dX3_readAnd_11 : decode cX3_readAnd 11 = .ok (.if_icmp .ge 33, 3) := by decide +kernel
theorem dX3_readAnd_14 : decode cX3_readAnd 14 = .ok (.aload_n 0, 1) := by decide +kernel
theorem dX3_readAnd_15 : decode cX3_readAnd 15 = .ok (.getfield 40, 3) := by decide +kernel
theorem dX3_readAnd_18 : decode cX3_readAnd 18 = .ok (.bipush (-15), 2) := by decide +kernel
theorem dX3_readAnd_20 : decode cX3_readAnd 20 = .ok (.if_icmp .ne 24, 3) := by decide +kernel
theorem dX3_readAnd_23 : decode cX3_readAnd 23 = .ok (.aload_n 0, 1) := by decide +kernel
theorem dX3_readAnd_24 : decode cX3_readAnd 24 = .ok (.invokevirtual 114, 3) := by decide +kernel
theorem dX3_readAnd_27 : decode cX3_readAnd 27 = .ok (.aload_n 0, 1) := by decide +kernel
theorem dX3_readAnd_28 : decode cX3_readAnd 28 = .ok (.iload_n 1, 1) := by decide +kernel
theorem dX3_readAnd_29 : decode cX3_readAnd 29 = .ok (.invokevirtual 120, 3) := by decide +kernel
theorem dX3_readAnd_32 : decode cX3_readAnd 32 = .ok (.aload_n 0, 1) := by decide +kernel
theorem dX3_readAnd_33 : decode cX3_readAnd 33 = .ok (.bipush (-10), 2) := by decide +kernel
theorem dX3_readAnd_35 : decode cX3_readAnd 35 = .ok (.invokevirtual 117, 3) := by decide +kernel
theorem dX3_readAnd_38 : decode cX3_readAnd 38 = .ok (.iinc 2 1, 3) := by decide +kernel
theorem dX3_readAnd_41 : decode cX3_readAnd 41 = .ok (.goto (-34), 3) := by decide +kernel
theorem dX3_readAnd_44 : decode cX3_readAnd 44 = .ok (.return_, 1) := by decide +kernel
theorem dX3_readNot_0 : decode cX3_readNot 0 = .ok (.aload_n 0, 1) := by decide +kernel
theorem dX3_readNot_1 : decode cX3_readNot 1 = .ok (.getfield 40, 3) := by decide +kernel
theorem dX3_readNot_4 : decode cX3_readNot 4 = .ok (.bipush (-16), 2) := by decide +kernel
theorem dX3_readNot_6 : decode cX3_readNot 6 = .ok (.if_icmp .ne 25, 3) := by decide +kernel
theorem dX3_readNot_9 : decode cX3_readNot 9 = .ok (.aload_n 0, 1) := by decide +kernel
theorem dX3_readNot_10 : decode cX3_readNot 10 = .ok (.iload_n 1, 1) := by decide +kernel
theorem dX3_readNot_11 : decode cX3_readNot 11 = .ok (.invokevirtual 123, 3) := by decide +kernel
theorem dX3_readNot_14 : decode cX3_readNot 14 = .ok (.ifCond .eq 16, 3) := by decide +kernel
theorem dX3_readNot_17 : decode cX3_readNot 17 = .ok (.aload_n 0, 1) := by decide +kernel
theorem dX3_readNot_18 : decode cX3_readNot 18 = .ok (.iload_n 1, 1) := by decide +kernel
theorem dX3_readNot_19 : decode cX3_readNot 19 = .ok (.iconst 1, 1) := by decide +kernel
theorem dX3_readNot_20 : decode cX3_readNot 20 = .ok (.iadd, 1) := by decide +kernel
theorem dX3_readNot_21 : decode cX3_readNot 21 = .ok (.invokevirtual 120, 3) := by decide +kernel
theorem dX3_readNot_24 : decode cX3_readNot 24 = .ok (.aload_n 0, 1) := by decide +kernel
theorem dX3_readNot_25 : decode cX3_readNot 25 = .ok (.bipush (-8), 2) := by decide +kernel
theorem dX3_readNot_27 : decode cX3_readNot 27 = .ok (.invokevirtual 117, 3) := by decide +kernel
theorem dX3_readNot_30 : decode cX3_readNot 30 = .ok (.return_, 1) := by decide +kernel
theorem dX3_readNot_31 : decode cX3_readNot 31 = .ok (.aload_n 0, 1) := by decide +kernel
theorem dX3_readNot_32 : decode cX3_readNot 32 = .ok (.iload_n 1, 1) := by decide +kernel
theorem dX3_readNot_33 : decode cX3_readNot 33 = .ok (.invokevirtual 126, 3) := by decide +kernel
theorem dX3_readNot_36 : decode cX3_readNot 36 = .ok (.aload_n 0, 1) := by decide +kernel
theorem dX3_readNot_37 : decode cX3_readNot 37 = .ok (.getfield 40, 3) := by decide +kernel
theorem dX3_readNot_40 : decode cX3_readNot 40 = .ok (.bipush 60, 2) := by decide +kernel
theorem dX3_readNot_42 : decode cX3_readNot 42 = .ok (.if_icmp .eq 12, 3) := by decide +kernel
theorem dX3_readNot_45 : decode cX3_readNot 45 = .ok (.aload_n 0, 1) := by decide +kernel
theorem dX3_readNot_46 : decode cX3_readNot 46 = .ok (.getfield 40, 3) := by decide +kernel
theorem dX3_readNot_49 : decode cX3_readNot 49 = .ok (.bipush 61, 2) := by decide +kernel
theorem dX3_readNot_51 : decode cX3_readNot 51 = .ok (.if_icmp .ne 34, 3) := by decide +kernel
theorem dX3_readNot_54 : decode cX3_readNot 54 = .ok (.aload_n 0, 1) := by decide +kernel
theorem dX3_readNot_55 : decode cX3_readNot 55 = .ok (.getfield 40, 3) := by decide +kernel
theorem dX3_readNot_58 : decode cX3_readNot 58 = .ok (.bipush 60, 2) := by decide +kernel
theorem dX3_readNot_60 : decode cX3_readNot 60 = .ok (.if_icmp .ne 8, 3) := by decide +kernel
theorem dX3_readNot_63 : decode cX3_readNot 63 = .ok (.bipush (-11), 2) := by decide +kernel
theorem dX3_readNot_65 : decode cX3_readNot 65 = .ok (.goto 5, 3) := by decide +kernel
theorem dX3_readNot_68 : decode cX3_readNot 68 = .ok (.bipush (-12), 2) := by decide +kernel
theorem dX3_readNot_70 : decode cX3_readNot 70 = .ok (.istore_n 2, 1) := by decide +kernel
theorem dX3_readNot_71 : decode cX3_readNot 71 = .ok (.aload_n 0, 1) := by decide +kernel
theorem dX3_readNot_72 : decode cX3_readNot 72 = .ok (.invokevirtual 114, 3) := by decide +kernel
theorem dX3_readNot_75 : decode cX3_readNot 75 = .ok (.aload_n 0, 1) := by decide +kernel
theorem dX3_readNot_76 : decode cX3_readNot 76 = .ok (.iload_n 1, 1) := by decide +kernel
theorem dX3_readNot_77 : decode cX3_readNot 77 = .ok (.invokevirtual 126, 3) := by decide +kernel
theorem dX3_readNot_80 : decode cX3_readNot 80 = .ok (.aload_n 0, 1) := by decide +kernel
theorem dX3_readNot_81 : decode cX3_readNot 81 = .ok (.iload_n 2, 1) := by decide +kernel
theorem dX3_readNot_82 : decode cX3_readNot 82 = .ok (.invokevirtual 117, 3) := by decide +kernel
theorem dX3_readNot_85 : decode cX3_readNot 85 = .ok (.return_, 1) := by decide +kernel
theorem dX3_readSum_0 : decode cX3_readSum 0 = .ok (.aload_n 0, 1) := by decide +kernel
theorem dX3_readSum_1 : decode cX3_readSum 1 = .ok (.iload_n 1, 1) := by decide +kernel
theorem dX3_readSum_2 : decode cX3_readSum 2 = .ok (.invokevirtual 129, 3) := by decide +kernel
theorem dX3_readSum_5 : decode cX3_readSum 5 = .ok (.iconst 0, 1) := by decide +kernel
theorem dX3_readSum_6 : decode cX3_readSum 6 = .ok (.istore_n 2, 1) := by decide +kernel
theorem dX3_readSum_7 : decode cX3_readSum 7 = .ok (.iload_n 2, 1) := by decide +kernel
theorem dX3_readSum_8 : decode cX3_readSum 8 = .ok (.sipush 160, 3) := by decide +kernel
theorem dX3_readSum_11 : decode cX3_readSum 11 = .ok (.if_icmp .ge 58, 3) := by decide +kernel
theorem dX3_readSum_14 : decode cX3_readSum 14 = .ok (.aload_n 0, 1) := by decide +kernel
theorem dX3_readSum_15 : decode cX3_readSum 15 = .ok (.getfield 40, 3) := by decide +kernel
theorem dX3_readSum_18 : decode cX3_readSum 18 = .ok (.bipush 43, 2) := by decide +kernel
theorem dX3_readSum_20 : decode cX3_readSum 20 = .ok (.if_icmp .eq 12, 3) := by decide +kernel
theorem dX3_readSum_23 : decode cX3_readSum 23 = .ok (.aload_n 0, 1) := by decide +kernel
theorem dX3_readSum_24 : decode cX3_readSum 24 = .ok (.getfield 40, 3) := by decide +kernel
theorem dX3_readSum_27 : decode cX3_readSum 27 = .ok (.bipush 45, 2) := by decide +kernel
theorem dX3_readSum_29 : decode cX3_readSum 29 = .ok (.if_icmp .ne 40, 3) := by decide +kernel
theorem dX3_readSum_32 : decode cX3_readSum 32 = .ok (.aload_n 0, 1) := by decide +kernel
theorem dX3_readSum_33 : decode cX3_readSum 33 = .ok (.getfield 40, 3) := by decide +kernel
theorem dX3_readSum_36 : decode cX3_readSum 36 = .ok (.bipush 43, 2) := by decide +kernel
theorem dX3_readSum_38 : decode cX3_readSum 38 = .ok (.if_icmp .ne 8, 3) := by decide +kernel
theorem dX3_readSum_41 : decode cX3_readSum 41 = .ok (.bipush (-13), 2) := by decide +kernel
theorem dX3_readSum_43 : decode cX3_readSum 43 = .ok (.goto 5, 3) := by decide +kernel
theorem dX3_readSum_46 : decode cX3_readSum 46 = .ok (.bipush (-14), 2) := by decide +kernel
theorem dX3_readSum_48 : decode cX3_readSum 48 = .ok (.istore_n 3, 1) := by decide +kernel
theorem dX3_readSum_49 : decode cX3_readSum 49 = .ok (.aload_n 0, 1) := by decide +kernel
theorem dX3_readSum_50 : decode cX3_readSum 50 = .ok (.invokevirtual 114, 3) := by decide +kernel
theorem dX3_readSum_53 : decode cX3_readSum 53 = .ok (.aload_n 0, 1) := by decide +kernel
theorem dX3_readSum_54 : decode cX3_readSum 54 = .ok (.iload_n 1, 1) := by decide +kernel
theorem dX3_readSum_55 : decode cX3_readSum 55 = .ok (.invokevirtual 129, 3) := by decide +kernel
theorem dX3_readSum_58 : decode cX3_readSum 58 = .ok (.aload_n 0, 1) := by decide +kernel
theorem dX3_readSum_59 : decode cX3_readSum 59 = .ok (.iload_n 3, 1) := by decide +kernel
theorem dX3_readSum_60 : decode cX3_readSum 60 = .ok (.invokevirtual 117, 3) := by decide +kernel
theorem dX3_readSum_63 : decode cX3_readSum 63 = .ok (.iinc 2 1, 3) := by decide +kernel
theorem dX3_readSum_66 : decode cX3_readSum 66 = .ok (.goto (-59), 3) := by decide +kernel
theorem dX3_readSum_69 : decode cX3_readSum 69 = .ok (.return_, 1) := by decide +kernel
theorem dX3_readTerm_0 : decode cX3_readTerm 0 = .ok (.aload_n 0, 1) := by decide +kernel
theorem dX3_readTerm_1 : decode cX3_readTerm 1 = .ok (.iload_n 1, 1) := by decide +kernel
theorem dX3_readTerm_2 : decode cX3_readTerm 2 = .ok (.invokevirtual 132, 3) := by decide +kernel
theorem dX3_readTerm_5 : decode cX3_readTerm 5 = .ok (.iconst 0, 1) := by decide +kernel
theorem dX3_readTerm_6 : decode cX3_readTerm 6 = .ok (.istore_n 2, 1) := by decide +kernel
theorem dX3_readTerm_7 : decode cX3_readTerm 7 = .ok (.iload_n 2, 1) := by decide +kernel
theorem dX3_readTerm_8 : decode cX3_readTerm 8 = .ok (.sipush 160, 3) := by decide +kernel
theorem dX3_readTerm_11 : decode cX3_readTerm 11 = .ok (.if_icmp .ge 33, 3) := by decide +kernel
theorem dX3_readTerm_14 : decode cX3_readTerm 14 = .ok (.aload_n 0, 1) := by decide +kernel
theorem dX3_readTerm_15 : decode cX3_readTerm 15 = .ok (.getfield 40, 3) := by decide +kernel
theorem dX3_readTerm_18 : decode cX3_readTerm 18 = .ok (.bipush 42, 2) := by decide +kernel
theorem dX3_readTerm_20 : decode cX3_readTerm 20 = .ok (.if_icmp .ne 24, 3) := by decide +kernel
theorem dX3_readTerm_23 : decode cX3_readTerm 23 = .ok (.aload_n 0, 1) := by decide +kernel
theorem dX3_readTerm_24 : decode cX3_readTerm 24 = .ok (.invokevirtual 114, 3) := by decide +kernel
theorem dX3_readTerm_27 : decode cX3_readTerm 27 = .ok (.aload_n 0, 1) := by decide +kernel
theorem dX3_readTerm_28 : decode cX3_readTerm 28 = .ok (.iload_n 1, 1) := by decide +kernel
theorem dX3_readTerm_29 : decode cX3_readTerm 29 = .ok (.invokevirtual 132, 3) := by decide +kernel
theorem dX3_readTerm_32 : decode cX3_readTerm 32 = .ok (.aload_n 0, 1) := by decide +kernel
theorem dX3_readTerm_33 : decode cX3_readTerm 33 = .ok (.bipush (-15), 2) := by decide +kernel
theorem dX3_readTerm_35 : decode cX3_readTerm 35 = .ok (.invokevirtual 117, 3) := by decide +kernel
theorem dX3_readTerm_38 : decode cX3_readTerm 38 = .ok (.iinc 2 1, 3) := by decide +kernel
theorem dX3_readTerm_41 : decode cX3_readTerm 41 = .ok (.goto (-34), 3) := by decide +kernel
theorem dX3_readTerm_44 : decode cX3_readTerm 44 = .ok (.return_, 1) := by decide +kernel
theorem dX3_readOne_0 : decode cX3_readOne 0 = .ok (.aload_n 0, 1) := by decide +kernel
theorem dX3_readOne_1 : decode cX3_readOne 1 = .ok (.getfield 40, 3) := by decide +kernel
theorem dX3_readOne_4 : decode cX3_readOne 4 = .ok (.bipush (-3), 2) := by decide +kernel
theorem dX3_readOne_6 : decode cX3_readOne 6 = .ok (.if_icmp .eq 12, 3) := by decide +kernel
theorem dX3_readOne_9 : decode cX3_readOne 9 = .ok (.aload_n 0, 1) := by decide +kernel
theorem dX3_readOne_10 : decode cX3_readOne 10 = .ok (.getfield 40, 3) := by decide +kernel
theorem dX3_readOne_13 : decode cX3_readOne 13 = .ok (.bipush (-4), 2) := by decide +kernel
theorem dX3_readOne_15 : decode cX3_readOne 15 = .ok (.if_icmp .ne 23, 3) := by decide +kernel
theorem dX3_readOne_18 : decode cX3_readOne 18 = .ok (.aload_n 0, 1) := by decide +kernel
theorem dX3_readOne_19 : decode cX3_readOne 19 = .ok (.aload_n 0, 1) := by decide +kernel
theorem dX3_readOne_20 : decode cX3_readOne 20 = .ok (.getfield 21, 3) := by decide +kernel
theorem dX3_readOne_23 : decode cX3_readOne 23 = .ok (.aload_n 0, 1) := by decide +kernel
theorem dX3_readOne_24 : decode cX3_readOne 24 = .ok (.getfield 37, 3) := by decide +kernel
theorem dX3_readOne_27 : decode cX3_readOne 27 = .ok (.iaload, 1) := by decide +kernel
theorem dX3_readOne_28 : decode cX3_readOne 28 = .ok (.invokevirtual 117, 3) := by decide +kernel
theorem dX3_readOne_31 : decode cX3_readOne 31 = .ok (.aload_n 0, 1) := by decide +kernel
theorem dX3_readOne_32 : decode cX3_readOne 32 = .ok (.invokevirtual 114, 3) := by decide +kernel
theorem dX3_readOne_35 : decode cX3_readOne 35 = .ok (.goto 73, 3) := by decide +kernel
theorem dX3_readOne_38 : decode cX3_readOne 38 = .ok (.aload_n 0, 1) := by decide +kernel
theorem dX3_readOne_39 : decode cX3_readOne 39 = .ok (.getfield 40, 3) := by decide +kernel
theorem dX3_readOne_42 : decode cX3_readOne 42 = .ok (.bipush 45, 2) := by decide +kernel
theorem dX3_readOne_44 : decode cX3_readOne 44 = .ok (.if_icmp .ne 27, 3) := by decide +kernel
theorem dX3_readOne_47 : decode cX3_readOne 47 = .ok (.aload_n 0, 1) := by decide +kernel
theorem dX3_readOne_48 : decode cX3_readOne 48 = .ok (.iload_n 1, 1) := by decide +kernel
theorem dX3_readOne_49 : decode cX3_readOne 49 = .ok (.invokevirtual 123, 3) := by decide +kernel
theorem dX3_readOne_52 : decode cX3_readOne 52 = .ok (.ifCond .eq 56, 3) := by decide +kernel
theorem dX3_readOne_55 : decode cX3_readOne 55 = .ok (.aload_n 0, 1) := by decide +kernel
theorem dX3_readOne_56 : decode cX3_readOne 56 = .ok (.iload_n 1, 1) := by decide +kernel
theorem dX3_readOne_57 : decode cX3_readOne 57 = .ok (.iconst 1, 1) := by decide +kernel
theorem dX3_readOne_58 : decode cX3_readOne 58 = .ok (.iadd, 1) := by decide +kernel
theorem dX3_readOne_59 : decode cX3_readOne 59 = .ok (.invokevirtual 132, 3) := by decide +kernel
theorem dX3_readOne_62 : decode cX3_readOne 62 = .ok (.aload_n 0, 1) := by decide +kernel
theorem dX3_readOne_63 : decode cX3_readOne 63 = .ok (.bipush (-7), 2) := by decide +kernel
theorem dX3_readOne_65 : decode cX3_readOne 65 = .ok (.invokevirtual 117, 3) := by decide +kernel
theorem dX3_readOne_68 : decode cX3_readOne 68 = .ok (.goto 40, 3) := by decide +kernel
theorem dX3_readOne_71 : decode cX3_readOne 71 = .ok (.aload_n 0, 1) := by decide +kernel
theorem dX3_readOne_72 : decode cX3_readOne 72 = .ok (.getfield 40, 3) := by decide +kernel
theorem dX3_readOne_75 : decode cX3_readOne 75 = .ok (.bipush 40, 2) := by decide +kernel
theorem dX3_readOne_77 : decode cX3_readOne 77 = .ok (.if_icmp .ne 27, 3) := by decide +kernel
theorem dX3_readOne_80 : decode cX3_readOne 80 = .ok (.aload_n 0, 1) := by decide +kernel
theorem dX3_readOne_81 : decode cX3_readOne 81 = .ok (.iload_n 1, 1) := by decide +kernel
theorem dX3_readOne_82 : decode cX3_readOne 82 = .ok (.invokevirtual 123, 3) := by decide +kernel
theorem dX3_readOne_85 : decode cX3_readOne 85 = .ok (.ifCond .eq 23, 3) := by decide +kernel
theorem dX3_readOne_88 : decode cX3_readOne 88 = .ok (.aload_n 0, 1) := by decide +kernel
theorem dX3_readOne_89 : decode cX3_readOne 89 = .ok (.iload_n 1, 1) := by decide +kernel
theorem dX3_readOne_90 : decode cX3_readOne 90 = .ok (.iconst 1, 1) := by decide +kernel
theorem dX3_readOne_91 : decode cX3_readOne 91 = .ok (.iadd, 1) := by decide +kernel
theorem dX3_readOne_92 : decode cX3_readOne 92 = .ok (.invokevirtual 108, 3) := by decide +kernel
theorem dX3_readOne_95 : decode cX3_readOne 95 = .ok (.aload_n 0, 1) := by decide +kernel
theorem dX3_readOne_96 : decode cX3_readOne 96 = .ok (.bipush 41, 2) := by decide +kernel
theorem dX3_readOne_98 : decode cX3_readOne 98 = .ok (.invokevirtual 104, 3) := by decide +kernel
theorem dX3_readOne_101 : decode cX3_readOne 101 = .ok (.goto 7, 3) := by decide +kernel
theorem dX3_readOne_104 : decode cX3_readOne 104 = .ok (.aload_n 0, 1) := by decide +kernel
theorem dX3_readOne_105 : decode cX3_readOne 105 = .ok (.invokevirtual 53, 3) := by decide +kernel
theorem dX3_readOne_108 : decode cX3_readOne 108 = .ok (.return_, 1) := by decide +kernel
theorem dX3_readPart_0 : decode cX3_readPart 0 = .ok (.aload_n 0, 1) := by decide +kernel
theorem dX3_readPart_1 : decode cX3_readPart 1 = .ok (.getfield 27, 3) := by decide +kernel
theorem dX3_readPart_4 : decode cX3_readPart 4 = .ok (.iload_n 1, 1) := by decide +kernel
theorem dX3_readPart_5 : decode cX3_readPart 5 = .ok (.aload_n 0, 1) := by decide +kernel
theorem dX3_readPart_6 : decode cX3_readPart 6 = .ok (.getfield 46, 3) := by decide +kernel
theorem dX3_readPart_9 : decode cX3_readPart 9 = .ok (.iastore, 1) := by decide +kernel
theorem dX3_readPart_10 : decode cX3_readPart 10 = .ok (.aload_n 0, 1) := by decide +kernel
theorem dX3_readPart_11 : decode cX3_readPart 11 = .ok (.iload_n 2, 1) := by decide +kernel
theorem dX3_readPart_12 : decode cX3_readPart 12 = .ok (.invokevirtual 104, 3) := by decide +kernel
theorem dX3_readPart_15 : decode cX3_readPart 15 = .ok (.aload_n 0, 1) := by decide +kernel
theorem dX3_readPart_16 : decode cX3_readPart 16 = .ok (.iconst 0, 1) := by decide +kernel
theorem dX3_readPart_17 : decode cX3_readPart 17 = .ok (.invokevirtual 108, 3) := by decide +kernel
theorem dX3_readPart_20 : decode cX3_readPart 20 = .ok (.aload_n 0, 1) := by decide +kernel
theorem dX3_readPart_21 : decode cX3_readPart 21 = .ok (.bipush 59, 2) := by decide +kernel
theorem dX3_readPart_23 : decode cX3_readPart 23 = .ok (.invokevirtual 104, 3) := by decide +kernel
theorem dX3_readPart_26 : decode cX3_readPart 26 = .ok (.return_, 1) := by decide +kernel
theorem dX3_read_0 : decode cX3_read 0 = .ok (.aload_n 0, 1) := by decide +kernel
theorem dX3_read_1 : decode cX3_read 1 = .ok (.invokevirtual 34, 3) := by decide +kernel
theorem dX3_read_4 : decode cX3_read 4 = .ok (.aload_n 0, 1) := by decide +kernel
theorem dX3_read_5 : decode cX3_read 5 = .ok (.iconst 0, 1) := by decide +kernel
theorem dX3_read_6 : decode cX3_read 6 = .ok (.putfield 37, 3) := by decide +kernel
theorem dX3_read_9 : decode cX3_read 9 = .ok (.aload_n 0, 1) := by decide +kernel
theorem dX3_read_10 : decode cX3_read 10 = .ok (.aload_n 0, 1) := by decide +kernel
theorem dX3_read_11 : decode cX3_read 11 = .ok (.getfield 15, 3) := by decide +kernel
theorem dX3_read_14 : decode cX3_read 14 = .ok (.iconst 0, 1) := by decide +kernel
theorem dX3_read_15 : decode cX3_read 15 = .ok (.iaload, 1) := by decide +kernel
theorem dX3_read_16 : decode cX3_read 16 = .ok (.putfield 40, 3) := by decide +kernel
theorem dX3_read_19 : decode cX3_read 19 = .ok (.aload_n 0, 1) := by decide +kernel
theorem dX3_read_20 : decode cX3_read 20 = .ok (.iconst (-1), 1) := by decide +kernel
theorem dX3_read_21 : decode cX3_read 21 = .ok (.putfield 43, 3) := by decide +kernel
theorem dX3_read_24 : decode cX3_read 24 = .ok (.aload_n 0, 1) := by decide +kernel
theorem dX3_read_25 : decode cX3_read 25 = .ok (.iconst 0, 1) := by decide +kernel
theorem dX3_read_26 : decode cX3_read 26 = .ok (.putfield 46, 3) := by decide +kernel
theorem dX3_read_29 : decode cX3_read 29 = .ok (.aload_n 0, 1) := by decide +kernel
theorem dX3_read_30 : decode cX3_read 30 = .ok (.iconst 0, 1) := by decide +kernel
theorem dX3_read_31 : decode cX3_read 31 = .ok (.bipush (-11), 2) := by decide +kernel
theorem dX3_read_33 : decode cX3_read 33 = .ok (.invokevirtual 49, 3) := by decide +kernel
theorem dX3_read_36 : decode cX3_read 36 = .ok (.aload_n 0, 1) := by decide +kernel
theorem dX3_read_37 : decode cX3_read 37 = .ok (.iconst 1, 1) := by decide +kernel
theorem dX3_read_38 : decode cX3_read 38 = .ok (.bipush (-12), 2) := by decide +kernel
theorem dX3_read_40 : decode cX3_read 40 = .ok (.invokevirtual 49, 3) := by decide +kernel
theorem dX3_read_43 : decode cX3_read 43 = .ok (.aload_n 0, 1) := by decide +kernel
theorem dX3_read_44 : decode cX3_read 44 = .ok (.iconst 2, 1) := by decide +kernel
theorem dX3_read_45 : decode cX3_read 45 = .ok (.bipush (-13), 2) := by decide +kernel
theorem dX3_read_47 : decode cX3_read 47 = .ok (.invokevirtual 49, 3) := by decide +kernel
theorem dX3_read_50 : decode cX3_read 50 = .ok (.aload_n 0, 1) := by decide +kernel
theorem dX3_read_51 : decode cX3_read 51 = .ok (.getfield 27, 3) := by decide +kernel
theorem dX3_read_54 : decode cX3_read 54 = .ok (.iconst 3, 1) := by decide +kernel
theorem dX3_read_55 : decode cX3_read 55 = .ok (.aload_n 0, 1) := by decide +kernel
theorem dX3_read_56 : decode cX3_read 56 = .ok (.getfield 46, 3) := by decide +kernel
theorem dX3_read_59 : decode cX3_read 59 = .ok (.iastore, 1) := by decide +kernel
theorem dX3_read_60 : decode cX3_read 60 = .ok (.aload_n 0, 1) := by decide +kernel
theorem dX3_read_61 : decode cX3_read 61 = .ok (.getfield 40, 3) := by decide +kernel
theorem dX3_read_64 : decode cX3_read 64 = .ok (.iconst (-1), 1) := by decide +kernel
theorem dX3_read_65 : decode cX3_read 65 = .ok (.if_icmp .eq 7, 3) := by decide +kernel
theorem dX3_read_68 : decode cX3_read 68 = .ok (.aload_n 0, 1) := by decide +kernel
theorem dX3_read_69 : decode cX3_read 69 = .ok (.invokevirtual 53, 3) := by decide +kernel
theorem dX3_read_72 : decode cX3_read 72 = .ok (.return_, 1) := by decide +kernel
theorem dX3_clear_0 : decode cX3_clear 0 = .ok (.aload_n 0, 1) := by decide +kernel
theorem dX3_clear_1 : decode cX3_clear 1 = .ok (.iconst 0, 1) := by decide +kernel
theorem dX3_clear_2 : decode cX3_clear 2 = .ok (.putfield 30, 3) := by decide +kernel
theorem dX3_clear_5 : decode cX3_clear 5 = .ok (.return_, 1) := by decide +kernel
theorem dX2_join_0 : decode cX2_join 0 = .ok (.iload_n 1, 1) := by decide +kernel
theorem dX2_join_1 : decode cX2_join 1 = .ok (.ifCond .lt 20, 3) := by decide +kernel
theorem dX2_join_4 : decode cX2_join 4 = .ok (.iload_n 1, 1) := by decide +kernel
theorem dX2_join_5 : decode cX2_join 5 = .ok (.bipush 6, 2) := by decide +kernel
theorem dX2_join_7 : decode cX2_join 7 = .ok (.if_icmp .ge 14, 3) := by decide +kernel
theorem dX2_join_10 : decode cX2_join 10 = .ok (.iload_n 2, 1) := by decide +kernel
theorem dX2_join_11 : decode cX2_join 11 = .ok (.ifCond .lt 10, 3) := by decide +kernel
theorem dX2_join_14 : decode cX2_join 14 = .ok (.iload_n 2, 1) := by decide +kernel
theorem dX2_join_15 : decode cX2_join 15 = .ok (.sipush 409, 3) := by decide +kernel
theorem dX2_join_18 : decode cX2_join 18 = .ok (.if_icmp .le 6, 3) := by decide +kernel
theorem dX2_join_21 : decode cX2_join 21 = .ok (.bipush (-2), 2) := by decide +kernel
theorem dX2_join_23 : decode cX2_join 23 = .ok (.ireturn, 1) := by decide +kernel
theorem dX2_join_24 : decode cX2_join 24 = .ok (.aload_n 0, 1) := by decide +kernel
theorem dX2_join_25 : decode cX2_join 25 = .ok (.getfield 21, 3) := by decide +kernel
theorem dX2_join_28 : decode cX2_join 28 = .ok (.bipush 8, 2) := by decide +kernel
theorem dX2_join_30 : decode cX2_join 30 = .ok (.if_icmp .lt 6, 3) := by decide +kernel
theorem dX2_join_33 : decode cX2_join 33 = .ok (.bipush (-4), 2) := by decide +kernel
theorem dX2_join_35 : decode cX2_join 35 = .ok (.ireturn, 1) := by decide +kernel
theorem dX2_join_36 : decode cX2_join 36 = .ok (.aload_n 0, 1) := by decide +kernel
theorem dX2_join_37 : decode cX2_join 37 = .ok (.getfield 9, 3) := by decide +kernel
theorem dX2_join_40 : decode cX2_join 40 = .ok (.aload_n 0, 1) := by decide +kernel
theorem dX2_join_41 : decode cX2_join 41 = .ok (.getfield 21, 3) := by decide +kernel
theorem dX2_join_44 : decode cX2_join 44 = .ok (.iload_n 1, 1) := by decide +kernel
theorem dX2_join_45 : decode cX2_join 45 = .ok (.iastore, 1) := by decide +kernel
theorem dX2_join_46 : decode cX2_join 46 = .ok (.aload_n 0, 1) := by decide +kernel
theorem dX2_join_47 : decode cX2_join 47 = .ok (.getfield 15, 3) := by decide +kernel
theorem dX2_join_50 : decode cX2_join 50 = .ok (.aload_n 0, 1) := by decide +kernel
theorem dX2_join_51 : decode cX2_join 51 = .ok (.getfield 21, 3) := by decide +kernel
theorem dX2_join_54 : decode cX2_join 54 = .ok (.iload_n 2, 1) := by decide +kernel
theorem dX2_join_55 : decode cX2_join 55 = .ok (.bipush 10, 2) := by decide +kernel
theorem dX2_join_57 : decode cX2_join 57 = .ok (.idiv, 1) := by decide +kernel
theorem dX2_join_58 : decode cX2_join 58 = .ok (.iastore, 1) := by decide +kernel
theorem dX2_join_59 : decode cX2_join 59 = .ok (.aload_n 0, 1) := by decide +kernel
theorem dX2_join_60 : decode cX2_join 60 = .ok (.getfield 18, 3) := by decide +kernel
theorem dX2_join_63 : decode cX2_join 63 = .ok (.aload_n 0, 1) := by decide +kernel
theorem dX2_join_64 : decode cX2_join 64 = .ok (.getfield 21, 3) := by decide +kernel
theorem dX2_join_67 : decode cX2_join 67 = .ok (.iload_n 2, 1) := by decide +kernel
theorem dX2_join_68 : decode cX2_join 68 = .ok (.bipush 10, 2) := by decide +kernel
theorem dX2_join_70 : decode cX2_join 70 = .ok (.irem, 1) := by decide +kernel
theorem dX2_join_71 : decode cX2_join 71 = .ok (.iastore, 1) := by decide +kernel
theorem dX2_join_72 : decode cX2_join 72 = .ok (.aload_n 0, 1) := by decide +kernel
theorem dX2_join_73 : decode cX2_join 73 = .ok (.dup, 1) := by decide +kernel
theorem dX2_join_74 : decode cX2_join 74 = .ok (.getfield 21, 3) := by decide +kernel
theorem dX2_join_77 : decode cX2_join 77 = .ok (.iconst 1, 1) := by decide +kernel
theorem dX2_join_78 : decode cX2_join 78 = .ok (.iadd, 1) := by decide +kernel
theorem dX2_join_79 : decode cX2_join 79 = .ok (.putfield 21, 3) := by decide +kernel
theorem dX2_join_82 : decode cX2_join 82 = .ok (.aload_n 0, 1) := by decide +kernel
theorem dX2_join_83 : decode cX2_join 83 = .ok (.getfield 21, 3) := by decide +kernel
theorem dX2_join_86 : decode cX2_join 86 = .ok (.iconst 1, 1) := by decide +kernel
theorem dX2_join_87 : decode cX2_join 87 = .ok (.isub, 1) := by decide +kernel
theorem dX2_join_88 : decode cX2_join 88 = .ok (.ireturn, 1) := by decide +kernel
theorem dX6_lay_0 : decode cX6_lay 0 = .ok (.iload_n 1, 1) := by decide +kernel
theorem dX6_lay_1 : decode cX6_lay 1 = .ok (.ifCond .lt 13, 3) := by decide +kernel
theorem dX6_lay_4 : decode cX6_lay 4 = .ok (.iload_n 1, 1) := by decide +kernel
theorem dX6_lay_5 : decode cX6_lay 5 = .ok (.bipush 99, 2) := by decide +kernel
theorem dX6_lay_7 : decode cX6_lay 7 = .ok (.if_icmp .gt 7, 3) := by decide +kernel
theorem dX6_lay_10 : decode cX6_lay 10 = .ok (.iload_n 2, 1) := by decide +kernel
theorem dX6_lay_11 : decode cX6_lay 11 = .ok (.ifCond .ge 6, 3) := by decide +kernel
theorem dX6_lay_14 : decode cX6_lay 14 = .ok (.bipush (-2), 2) := by decide +kernel
theorem dX6_lay_16 : decode cX6_lay 16 = .ok (.ireturn, 1) := by decide +kernel
theorem dX6_lay_17 : decode cX6_lay 17 = .ok (.iload_n 2, 1) := by decide +kernel
theorem dX6_lay_18 : decode cX6_lay 18 = .ok (.sipush 1000, 3) := by decide +kernel
theorem dX6_lay_21 : decode cX6_lay 21 = .ok (.idiv, 1) := by decide +kernel
theorem dX6_lay_22 : decode cX6_lay 22 = .ok (.bipush 99, 2) := by decide +kernel
theorem dX6_lay_24 : decode cX6_lay 24 = .ok (.if_icmp .gt 13, 3) := by decide +kernel
theorem dX6_lay_27 : decode cX6_lay 27 = .ok (.iload_n 2, 1) := by decide +kernel
theorem dX6_lay_28 : decode cX6_lay 28 = .ok (.sipush 1000, 3) := by decide +kernel
theorem dX6_lay_31 : decode cX6_lay 31 = .ok (.irem, 1) := by decide +kernel
theorem dX6_lay_32 : decode cX6_lay 32 = .ok (.bipush 100, 2) := by decide +kernel
theorem dX6_lay_34 : decode cX6_lay 34 = .ok (.if_icmp .le 6, 3) := by decide +kernel
theorem dX6_lay_37 : decode cX6_lay 37 = .ok (.bipush (-2), 2) := by decide +kernel
theorem dX6_lay_39 : decode cX6_lay 39 = .ok (.ireturn, 1) := by decide +kernel
theorem dX6_lay_40 : decode cX6_lay 40 = .ok (.aload_n 0, 1) := by decide +kernel
theorem dX6_lay_41 : decode cX6_lay 41 = .ok (.getfield 21, 3) := by decide +kernel
theorem dX6_lay_44 : decode cX6_lay 44 = .ok (.bipush 6, 2) := by decide +kernel
theorem dX6_lay_46 : decode cX6_lay 46 = .ok (.if_icmp .lt 6, 3) := by decide +kernel
theorem dX6_lay_49 : decode cX6_lay 49 = .ok (.bipush (-4), 2) := by decide +kernel
theorem dX6_lay_51 : decode cX6_lay 51 = .ok (.ireturn, 1) := by decide +kernel
theorem dX6_lay_52 : decode cX6_lay 52 = .ok (.aload_n 0, 1) := by decide +kernel
theorem dX6_lay_53 : decode cX6_lay 53 = .ok (.getfield 9, 3) := by decide +kernel
theorem dX6_lay_56 : decode cX6_lay 56 = .ok (.aload_n 0, 1) := by decide +kernel
theorem dX6_lay_57 : decode cX6_lay 57 = .ok (.getfield 21, 3) := by decide +kernel
theorem dX6_lay_60 : decode cX6_lay 60 = .ok (.iload_n 1, 1) := by decide +kernel
theorem dX6_lay_61 : decode cX6_lay 61 = .ok (.iastore, 1) := by decide +kernel
theorem dX6_lay_62 : decode cX6_lay 62 = .ok (.aload_n 0, 1) := by decide +kernel
theorem dX6_lay_63 : decode cX6_lay 63 = .ok (.getfield 15, 3) := by decide +kernel
theorem dX6_lay_66 : decode cX6_lay 66 = .ok (.aload_n 0, 1) := by decide +kernel
theorem dX6_lay_67 : decode cX6_lay 67 = .ok (.getfield 21, 3) := by decide +kernel
theorem dX6_lay_70 : decode cX6_lay 70 = .ok (.iload_n 2, 1) := by decide +kernel
theorem dX6_lay_71 : decode cX6_lay 71 = .ok (.sipush 1000, 3) := by decide +kernel
theorem dX6_lay_74 : decode cX6_lay 74 = .ok (.idiv, 1) := by decide +kernel
theorem dX6_lay_75 : decode cX6_lay 75 = .ok (.iastore, 1) := by decide +kernel
theorem dX6_lay_76 : decode cX6_lay 76 = .ok (.aload_n 0, 1) := by decide +kernel
theorem dX6_lay_77 : decode cX6_lay 77 = .ok (.getfield 18, 3) := by decide +kernel
theorem dX6_lay_80 : decode cX6_lay 80 = .ok (.aload_n 0, 1) := by decide +kernel
theorem dX6_lay_81 : decode cX6_lay 81 = .ok (.getfield 21, 3) := by decide +kernel
theorem dX6_lay_84 : decode cX6_lay 84 = .ok (.iload_n 2, 1) := by decide +kernel
theorem dX6_lay_85 : decode cX6_lay 85 = .ok (.sipush 1000, 3) := by decide +kernel
theorem dX6_lay_88 : decode cX6_lay 88 = .ok (.irem, 1) := by decide +kernel
theorem dX6_lay_89 : decode cX6_lay 89 = .ok (.iastore, 1) := by decide +kernel
theorem dX6_lay_90 : decode cX6_lay 90 = .ok (.aload_n 0, 1) := by decide +kernel
theorem dX6_lay_91 : decode cX6_lay 91 = .ok (.dup, 1) := by decide +kernel
theorem dX6_lay_92 : decode cX6_lay 92 = .ok (.getfield 21, 3) := by decide +kernel
theorem dX6_lay_95 : decode cX6_lay 95 = .ok (.iconst 1, 1) := by decide +kernel
theorem dX6_lay_96 : decode cX6_lay 96 = .ok (.iadd, 1) := by decide +kernel
theorem dX6_lay_97 : decode cX6_lay 97 = .ok (.putfield 21, 3) := by decide +kernel
theorem dX6_lay_100 : decode cX6_lay 100 = .ok (.aload_n 0, 1) := by decide +kernel
theorem dX6_lay_101 : decode cX6_lay 101 = .ok (.getfield 21, 3) := by decide +kernel
theorem dX6_lay_104 : decode cX6_lay 104 = .ok (.iconst 1, 1) := by decide +kernel
theorem dX6_lay_105 : decode cX6_lay 105 = .ok (.isub, 1) := by decide +kernel
theorem dX6_lay_106 : decode cX6_lay 106 = .ok (.ireturn, 1) := by decide +kernel
theorem dX2_moveUs_0 : decode cX2_moveUs 0 = .ok (.iload_n 1, 1) := by decide +kernel
theorem dX2_moveUs_1 : decode cX2_moveUs 1 = .ok (.ifCond .lt 11, 3) := by decide +kernel
theorem dX2_moveUs_4 : decode cX2_moveUs 4 = .ok (.iload_n 1, 1) := by decide +kernel
theorem dX2_moveUs_5 : decode cX2_moveUs 5 = .ok (.aload_n 0, 1) := by decide +kernel
theorem dX2_moveUs_6 : decode cX2_moveUs 6 = .ok (.getfield 21, 3) := by decide +kernel
theorem dX2_moveUs_9 : decode cX2_moveUs 9 = .ok (.if_icmp .le 6, 3) := by decide +kernel
theorem dX2_moveUs_12 : decode cX2_moveUs 12 = .ok (.bipush (-2), 2) := by decide +kernel
theorem dX2_moveUs_14 : decode cX2_moveUs 14 = .ok (.ireturn, 1) := by decide +kernel
theorem dX2_moveUs_15 : decode cX2_moveUs 15 = .ok (.aload_n 0, 1) := by decide +kernel
theorem dX2_moveUs_16 : decode cX2_moveUs 16 = .ok (.getfield 25, 3) := by decide +kernel
theorem dX2_moveUs_19 : decode cX2_moveUs 19 = .ok (.istore_n 2, 1) := by decide +kernel
theorem dX2_moveUs_20 : decode cX2_moveUs 20 = .ok (.aload_n 0, 1) := by decide +kernel
theorem dX2_moveUs_21 : decode cX2_moveUs 21 = .ok (.iload_n 1, 1) := by decide +kernel
theorem dX2_moveUs_22 : decode cX2_moveUs 22 = .ok (.putfield 25, 3) := by decide +kernel
theorem dX2_moveUs_25 : decode cX2_moveUs 25 = .ok (.iload_n 2, 1) := by decide +kernel
theorem dX2_moveUs_26 : decode cX2_moveUs 26 = .ok (.ireturn, 1) := by decide +kernel
theorem dX2_holds_0 : decode cX2_holds 0 = .ok (.iload_n 1, 1) := by decide +kernel
theorem dX2_holds_1 : decode cX2_holds 1 = .ok (.ifCond .lt 15, 3) := by decide +kernel
theorem dX2_holds_4 : decode cX2_holds 4 = .ok (.iload_n 1, 1) := by decide +kernel
theorem dX2_holds_5 : decode cX2_holds 5 = .ok (.aload_n 0, 1) := by decide +kernel
theorem dX2_holds_6 : decode cX2_holds 6 = .ok (.getfield 21, 3) := by decide +kernel
theorem dX2_holds_9 : decode cX2_holds 9 = .ok (.if_icmp .ge 7, 3) := by decide +kernel
theorem dX2_holds_12 : decode cX2_holds 12 = .ok (.iconst 1, 1) := by decide +kernel
theorem dX2_holds_13 : decode cX2_holds 13 = .ok (.goto 4, 3) := by decide +kernel
theorem dX2_holds_16 : decode cX2_holds 16 = .ok (.iconst 0, 1) := by decide +kernel
theorem dX2_holds_17 : decode cX2_holds 17 = .ok (.ireturn, 1) := by decide +kernel
theorem dX6_holds_0 : decode cX6_holds 0 = .ok (.iload_n 1, 1) := by decide +kernel
theorem dX6_holds_1 : decode cX6_holds 1 = .ok (.ifCond .lt 15, 3) := by decide +kernel
theorem dX6_holds_4 : decode cX6_holds 4 = .ok (.iload_n 1, 1) := by decide +kernel
theorem dX6_holds_5 : decode cX6_holds 5 = .ok (.aload_n 0, 1) := by decide +kernel
theorem dX6_holds_6 : decode cX6_holds 6 = .ok (.getfield 21, 3) := by decide +kernel
theorem dX6_holds_9 : decode cX6_holds 9 = .ok (.if_icmp .ge 7, 3) := by decide +kernel
theorem dX6_holds_12 : decode cX6_holds 12 = .ok (.iconst 1, 1) := by decide +kernel
theorem dX6_holds_13 : decode cX6_holds 13 = .ok (.goto 4, 3) := by decide +kernel
theorem dX6_holds_16 : decode cX6_holds 16 = .ok (.iconst 0, 1) := by decide +kernel
theorem dX6_holds_17 : decode cX6_holds 17 = .ok (.ireturn, 1) := by decide +kernel
theorem dX2_dropFirst_0 : decode cX2_dropFirst 0 = .ok (.aload_n 0, 1) := by decide +kernel
theorem dX2_dropFirst_1 : decode cX2_dropFirst 1 = .ok (.getfield 21, 3) := by decide +kernel
theorem dX2_dropFirst_4 : decode cX2_dropFirst 4 = .ok (.ifCond .gt 4, 3) := by decide +kernel
theorem dX2_dropFirst_7 : decode cX2_dropFirst 7 = .ok (.return_, 1) := by decide +kernel
theorem dX2_dropFirst_8 : decode cX2_dropFirst 8 = .ok (.iconst 1, 1) := by decide +kernel
theorem dX2_dropFirst_9 : decode cX2_dropFirst 9 = .ok (.istore_n 1, 1) := by decide +kernel
theorem dX2_dropFirst_10 : decode cX2_dropFirst 10 = .ok (.iload_n 1, 1) := by decide +kernel
theorem dX2_dropFirst_11 : decode cX2_dropFirst 11 = .ok (.aload_n 0, 1) := by decide +kernel
theorem dX2_dropFirst_12 : decode cX2_dropFirst 12 = .ok (.getfield 21, 3) := by decide +kernel
theorem dX2_dropFirst_15 : decode cX2_dropFirst 15 = .ok (.if_icmp .ge 51, 3) := by decide +kernel
theorem dX2_dropFirst_18 : decode cX2_dropFirst 18 = .ok (.aload_n 0, 1) := by decide +kernel
theorem dX2_dropFirst_19 : decode cX2_dropFirst 19 = .ok (.getfield 9, 3) := by decide +kernel
theorem dX2_dropFirst_22 : decode cX2_dropFirst 22 = .ok (.iload_n 1, 1) := by decide +kernel
theorem dX2_dropFirst_23 : decode cX2_dropFirst 23 = .ok (.iconst 1, 1) := by decide +kernel
theorem dX2_dropFirst_24 : decode cX2_dropFirst 24 = .ok (.isub, 1) := by decide +kernel
theorem dX2_dropFirst_25 : decode cX2_dropFirst 25 = .ok (.aload_n 0, 1) := by decide +kernel
theorem dX2_dropFirst_26 : decode cX2_dropFirst 26 = .ok (.getfield 9, 3) := by decide +kernel
theorem dX2_dropFirst_29 : decode cX2_dropFirst 29 = .ok (.iload_n 1, 1) := by decide +kernel
theorem dX2_dropFirst_30 : decode cX2_dropFirst 30 = .ok (.iaload, 1) := by decide +kernel
theorem dX2_dropFirst_31 : decode cX2_dropFirst 31 = .ok (.iastore, 1) := by decide +kernel
theorem dX2_dropFirst_32 : decode cX2_dropFirst 32 = .ok (.aload_n 0, 1) := by decide +kernel
theorem dX2_dropFirst_33 : decode cX2_dropFirst 33 = .ok (.getfield 15, 3) := by decide +kernel
theorem dX2_dropFirst_36 : decode cX2_dropFirst 36 = .ok (.iload_n 1, 1) := by decide +kernel
theorem dX2_dropFirst_37 : decode cX2_dropFirst 37 = .ok (.iconst 1, 1) := by decide +kernel
theorem dX2_dropFirst_38 : decode cX2_dropFirst 38 = .ok (.isub, 1) := by decide +kernel
theorem dX2_dropFirst_39 : decode cX2_dropFirst 39 = .ok (.aload_n 0, 1) := by decide +kernel
theorem dX2_dropFirst_40 : decode cX2_dropFirst 40 = .ok (.getfield 15, 3) := by decide +kernel
theorem dX2_dropFirst_43 : decode cX2_dropFirst 43 = .ok (.iload_n 1, 1) := by decide +kernel
theorem dX2_dropFirst_44 : decode cX2_dropFirst 44 = .ok (.iaload, 1) := by decide +kernel
theorem dX2_dropFirst_45 : decode cX2_dropFirst 45 = .ok (.iastore, 1) := by decide +kernel
theorem dX2_dropFirst_46 : decode cX2_dropFirst 46 = .ok (.aload_n 0, 1) := by decide +kernel
theorem dX2_dropFirst_47 : decode cX2_dropFirst 47 = .ok (.getfield 18, 3) := by decide +kernel
theorem dX2_dropFirst_50 : decode cX2_dropFirst 50 = .ok (.iload_n 1, 1) := by decide +kernel
theorem dX2_dropFirst_51 : decode cX2_dropFirst 51 = .ok (.iconst 1, 1) := by decide +kernel
theorem dX2_dropFirst_52 : decode cX2_dropFirst 52 = .ok (.isub, 1) := by decide +kernel
theorem dX2_dropFirst_53 : decode cX2_dropFirst 53 = .ok (.aload_n 0, 1) := by decide +kernel
theorem dX2_dropFirst_54 : decode cX2_dropFirst 54 = .ok (.getfield 18, 3) := by decide +kernel
theorem dX2_dropFirst_57 : decode cX2_dropFirst 57 = .ok (.iload_n 1, 1) := by decide +kernel
theorem dX2_dropFirst_58 : decode cX2_dropFirst 58 = .ok (.iaload, 1) := by decide +kernel
theorem dX2_dropFirst_59 : decode cX2_dropFirst 59 = .ok (.iastore, 1) := by decide +kernel
theorem dX2_dropFirst_60 : decode cX2_dropFirst 60 = .ok (.iinc 1 1, 3) := by decide +kernel
theorem dX2_dropFirst_63 : decode cX2_dropFirst 63 = .ok (.goto (-53), 3) := by decide +kernel
theorem dX2_dropFirst_66 : decode cX2_dropFirst 66 = .ok (.aload_n 0, 1) := by decide +kernel
theorem dX2_dropFirst_67 : decode cX2_dropFirst 67 = .ok (.dup, 1) := by decide +kernel
theorem dX2_dropFirst_68 : decode cX2_dropFirst 68 = .ok (.getfield 21, 3) := by decide +kernel
theorem dX2_dropFirst_71 : decode cX2_dropFirst 71 = .ok (.iconst 1, 1) := by decide +kernel
theorem dX2_dropFirst_72 : decode cX2_dropFirst 72 = .ok (.isub, 1) := by decide +kernel
theorem dX2_dropFirst_73 : decode cX2_dropFirst 73 = .ok (.putfield 21, 3) := by decide +kernel
theorem dX2_dropFirst_76 : decode cX2_dropFirst 76 = .ok (.aload_n 0, 1) := by decide +kernel
theorem dX2_dropFirst_77 : decode cX2_dropFirst 77 = .ok (.dup, 1) := by decide +kernel
theorem dX2_dropFirst_78 : decode cX2_dropFirst 78 = .ok (.getfield 28, 3) := by decide +kernel
theorem dX2_dropFirst_81 : decode cX2_dropFirst 81 = .ok (.iconst 1, 1) := by decide +kernel
theorem dX2_dropFirst_82 : decode cX2_dropFirst 82 = .ok (.iadd, 1) := by decide +kernel
theorem dX2_dropFirst_83 : decode cX2_dropFirst 83 = .ok (.putfield 28, 3) := by decide +kernel
theorem dX2_dropFirst_86 : decode cX2_dropFirst 86 = .ok (.aload_n 0, 1) := by decide +kernel
theorem dX2_dropFirst_87 : decode cX2_dropFirst 87 = .ok (.getfield 25, 3) := by decide +kernel
theorem dX2_dropFirst_90 : decode cX2_dropFirst 90 = .ok (.ifCond .le 13, 3) := by decide +kernel
theorem dX2_dropFirst_93 : decode cX2_dropFirst 93 = .ok (.aload_n 0, 1) := by decide +kernel
theorem dX2_dropFirst_94 : decode cX2_dropFirst 94 = .ok (.dup, 1) := by decide +kernel
theorem dX2_dropFirst_95 : decode cX2_dropFirst 95 = .ok (.getfield 25, 3) := by decide +kernel
theorem dX2_dropFirst_98 : decode cX2_dropFirst 98 = .ok (.iconst 1, 1) := by decide +kernel
theorem dX2_dropFirst_99 : decode cX2_dropFirst 99 = .ok (.isub, 1) := by decide +kernel
theorem dX2_dropFirst_100 : decode cX2_dropFirst 100 = .ok (.putfield 25, 3) := by decide +kernel
theorem dX2_dropFirst_103 : decode cX2_dropFirst 103 = .ok (.return_, 1) := by decide +kernel
theorem dX6_shelfOf_0 : decode cX6_shelfOf 0 = .ok (.aload_n 0, 1) := by decide +kernel
theorem dX6_shelfOf_1 : decode cX6_shelfOf 1 = .ok (.iload_n 1, 1) := by decide +kernel
theorem dX6_shelfOf_2 : decode cX6_shelfOf 2 = .ok (.invokevirtual 25, 3) := by decide +kernel
theorem dX6_shelfOf_5 : decode cX6_shelfOf 5 = .ok (.ifCond .eq 12, 3) := by decide +kernel
theorem dX6_shelfOf_8 : decode cX6_shelfOf 8 = .ok (.aload_n 0, 1) := by decide +kernel
theorem dX6_shelfOf_9 : decode cX6_shelfOf 9 = .ok (.getfield 9, 3) := by decide +kernel
theorem dX6_shelfOf_12 : decode cX6_shelfOf 12 = .ok (.iload_n 1, 1) := by decide +kernel
theorem dX6_shelfOf_13 : decode cX6_shelfOf 13 = .ok (.iaload, 1) := by decide +kernel
theorem dX6_shelfOf_14 : decode cX6_shelfOf 14 = .ok (.goto 4, 3) := by decide +kernel
theorem dX6_shelfOf_17 : decode cX6_shelfOf 17 = .ok (.iconst 0, 1) := by decide +kernel
theorem dX6_shelfOf_18 : decode cX6_shelfOf 18 = .ok (.ireturn, 1) := by decide +kernel
theorem dX6_steps_0 : decode cX6_steps 0 = .ok (.aload_n 0, 1) := by decide +kernel
theorem dX6_steps_1 : decode cX6_steps 1 = .ok (.iload_n 1, 1) := by decide +kernel
theorem dX6_steps_2 : decode cX6_steps 2 = .ok (.invokevirtual 29, 3) := by decide +kernel
theorem dX6_steps_5 : decode cX6_steps 5 = .ok (.istore_n 3, 1) := by decide +kernel
theorem dX6_steps_6 : decode cX6_steps 6 = .ok (.aload_n 0, 1) := by decide +kernel
theorem dX6_steps_7 : decode cX6_steps 7 = .ok (.iload_n 2, 1) := by decide +kernel
theorem dX6_steps_8 : decode cX6_steps 8 = .ok (.invokevirtual 29, 3) := by decide +kernel
theorem dX6_steps_11 : decode cX6_steps 11 = .ok (.istore 4, 2) := by decide +kernel
theorem dX6_steps_13 : decode cX6_steps 13 = .ok (.iload_n 3, 1) := by decide +kernel
theorem dX6_steps_14 : decode cX6_steps 14 = .ok (.bipush 10, 2) := by decide +kernel
theorem dX6_steps_16 : decode cX6_steps 16 = .ok (.irem, 1) := by decide +kernel
theorem dX6_steps_17 : decode cX6_steps 17 = .ok (.iload 4, 2) := by decide +kernel
theorem dX6_steps_19 : decode cX6_steps 19 = .ok (.bipush 10, 2) := by decide +kernel
theorem dX6_steps_21 : decode cX6_steps 21 = .ok (.irem, 1) := by decide +kernel
theorem dX6_steps_22 : decode cX6_steps 22 = .ok (.isub, 1) := by decide +kernel
theorem dX6_steps_23 : decode cX6_steps 23 = .ok (.invokestatic 33, 3) := by decide +kernel
theorem dX6_steps_26 : decode cX6_steps 26 = .ok (.iload_n 3, 1) := by decide +kernel
theorem dX6_steps_27 : decode cX6_steps 27 = .ok (.bipush 10, 2) := by decide +kernel
theorem dX6_steps_29 : decode cX6_steps 29 = .ok (.idiv, 1) := by decide +kernel
theorem dX6_steps_30 : decode cX6_steps 30 = .ok (.iload 4, 2) := by decide +kernel
theorem dX6_steps_32 : decode cX6_steps 32 = .ok (.bipush 10, 2) := by decide +kernel
theorem dX6_steps_34 : decode cX6_steps 34 = .ok (.idiv, 1) := by decide +kernel
theorem dX6_steps_35 : decode cX6_steps 35 = .ok (.isub, 1) := by decide +kernel
theorem dX6_steps_36 : decode cX6_steps 36 = .ok (.invokestatic 33, 3) := by decide +kernel
theorem dX6_steps_39 : decode cX6_steps 39 = .ok (.iadd, 1) := by decide +kernel
theorem dX6_steps_40 : decode cX6_steps 40 = .ok (.ireturn, 1) := by decide +kernel
theorem dX6_all_0 : decode cX6_all 0 = .ok (.iconst 1, 1) := by decide +kernel
theorem dX6_all_1 : decode cX6_all 1 = .ok (.aload_n 0, 1) := by decide +kernel
theorem dX6_all_2 : decode cX6_all 2 = .ok (.getfield 21, 3) := by decide +kernel
theorem dX6_all_5 : decode cX6_all 5 = .ok (.ishl, 1) := by decide +kernel
theorem dX6_all_6 : decode cX6_all 6 = .ok (.iconst 1, 1) := by decide +kernel
theorem dX6_all_7 : decode cX6_all 7 = .ok (.isub, 1) := by decide +kernel
theorem dX6_all_8 : decode cX6_all 8 = .ok (.ireturn, 1) := by decide +kernel
theorem dX6_draw_0 : decode cX6_draw 0 = .ok (.iconst 0, 1) := by decide +kernel
theorem dX6_draw_1 : decode cX6_draw 1 = .ok (.istore_n 2, 1) := by decide +kernel
theorem dX6_draw_2 : decode cX6_draw 2 = .ok (.iload_n 1, 1) := by decide +kernel
theorem dX6_draw_3 : decode cX6_draw 3 = .ok (.istore_n 3, 1) := by decide +kernel
theorem dX6_draw_4 : decode cX6_draw 4 = .ok (.iconst 0, 1) := by decide +kernel
theorem dX6_draw_5 : decode cX6_draw 5 = .ok (.istore 4, 2) := by decide +kernel
theorem dX6_draw_7 : decode cX6_draw 7 = .ok (.iload 4, 2) := by decide +kernel
theorem dX6_draw_9 : decode cX6_draw 9 = .ok (.aload_n 0, 1) := by decide +kernel
theorem dX6_draw_10 : decode cX6_draw 10 = .ok (.getfield 21, 3) := by decide +kernel
theorem dX6_draw_13 : decode cX6_draw 13 = .ok (.if_icmp .ge 42, 3) := by decide +kernel
theorem dX6_draw_16 : decode cX6_draw 16 = .ok (.iload_n 3, 1) := by decide +kernel
theorem dX6_draw_17 : decode cX6_draw 17 = .ok (.ldc 38, 2) := by decide +kernel
theorem dX6_draw_19 : decode cX6_draw 19 = .ok (.imul, 1) := by decide +kernel
theorem dX6_draw_20 : decode cX6_draw 20 = .ok (.sipush 12345, 3) := by decide +kernel
theorem dX6_draw_23 : decode cX6_draw 23 = .ok (.iadd, 1) := by decide +kernel
theorem dX6_draw_24 : decode cX6_draw 24 = .ok (.istore_n 3, 1) := by decide +kernel
theorem dX6_draw_25 : decode cX6_draw 25 = .ok (.iload_n 3, 1) := by decide +kernel
theorem dX6_draw_26 : decode cX6_draw 26 = .ok (.bipush 9, 2) := by decide +kernel
theorem dX6_draw_28 : decode cX6_draw 28 = .ok (.iushr, 1) := by decide +kernel
theorem dX6_draw_29 : decode cX6_draw 29 = .ok (.bipush 100, 2) := by decide +kernel
theorem dX6_draw_31 : decode cX6_draw 31 = .ok (.irem, 1) := by decide +kernel
theorem dX6_draw_32 : decode cX6_draw 32 = .ok (.aload_n 0, 1) := by decide +kernel
theorem dX6_draw_33 : decode cX6_draw 33 = .ok (.getfield 18, 3) := by decide +kernel
theorem dX6_draw_36 : decode cX6_draw 36 = .ok (.iload 4, 2) := by decide +kernel
theorem dX6_draw_38 : decode cX6_draw 38 = .ok (.iaload, 1) := by decide +kernel
theorem dX6_draw_39 : decode cX6_draw 39 = .ok (.if_icmp .ge 10, 3) := by decide +kernel
theorem dX6_draw_42 : decode cX6_draw 42 = .ok (.iload_n 2, 1) := by decide +kernel
theorem dX6_draw_43 : decode cX6_draw 43 = .ok (.iconst 1, 1) := by decide +kernel
theorem dX6_draw_44 : decode cX6_draw 44 = .ok (.iload 4, 2) := by decide +kernel
theorem dX6_draw_46 : decode cX6_draw 46 = .ok (.ishl, 1) := by decide +kernel
theorem dX6_draw_47 : decode cX6_draw 47 = .ok (.ior, 1) := by decide +kernel
theorem dX6_draw_48 : decode cX6_draw 48 = .ok (.istore_n 2, 1) := by decide +kernel
theorem dX6_draw_49 : decode cX6_draw 49 = .ok (.iinc 4 1, 3) := by decide +kernel
theorem dX6_draw_52 : decode cX6_draw 52 = .ok (.goto (-45), 3) := by decide +kernel
theorem dX6_draw_55 : decode cX6_draw 55 = .ok (.iload_n 2, 1) := by decide +kernel
theorem dX6_draw_56 : decode cX6_draw 56 = .ok (.ireturn, 1) := by decide +kernel
-- KeepOurPlace$Reader.append
def F3_append (M : Mem) (a1 : Int32) : Option (Int32 × Mem) :=
    if (M 9 1) < (160 : Int32) then
      if inb (M 9 1) 160 = true then
      some ((1 : Int32), (up2 (up2 M 10 (Int32.toNatClampNeg (M 9 1)) a1) 9 1 ((M 9 1) + (1 : Int32))))
      else none
    else
      some ((0 : Int32), M)
set_option maxRecDepth 20000 in
theorem F3_append_ok {p : Program} {l : Launch} {e : Env} {s : State} {m : MethodId} {args : Array Value} {below : List Frame} {meth : Method} {c : Code} {G : GG} {D : Nat} {r : Int32 × Mem} (F : FrP shA G p s m args c RX3 cX3_append 2) (hr : meth.sig.returnType = (some .boolean)) (hlk : meth.locks = false) (hD : 1 ≤ D) {M : Mem} {a1 : Int32} (h : F3_append M a1 = some r) : XJ shA p l e (rmX D) s m args below meth c 0 0 G 2 (MQ below (QcX shA G ((some (.int r.1), r.2) : Option Value × Mem).1 ((some (.int r.1), r.2) : Option Value × Mem).2) args s 0 0 (AW shA G.2.1)) 0 [(0, .ref 9), (1, .int a1)] [] M := by
  unfold F3_append at h
  refine X_aload_n F dX3_append_0 rfl ?_
  refine X_geti (v := (M 9 1)) F ffRX3_30 dX3_append_1 rfl ?_
  refine X_sipush F dX3_append_4 (v := (160 : Int32)) rfl ?_
  refine X_icmp_lt (tgt := 12) F dX3_append_7 (by decide) (fun q1 => ?_) (fun q1 => ?_)
  · rw [if_pos q1] at h
    refine X_aload_n F dX3_append_12 rfl ?_
    refine X_getr F ffRX3_11 dX3_append_13 ?_
    refine X_aload_n F dX3_append_16 rfl ?_
    refine X_geti (v := (M 9 1)) F ffRX3_30 dX3_append_17 rfl ?_
    refine X_iload_n F dX3_append_20 rfl ?_
    obtain ⟨q2, h⟩ := ifS h
    refine X_iast (j := (Int32.toNatClampNeg (M 9 1))) F rfl (inbV q2) rfl dX3_append_21 ?_
    refine X_aload_n F dX3_append_22 rfl ?_
    refine X_dup F dX3_append_23 rfl ?_
    refine X_geti (v := (M 9 1)) F ffRX3_30 dX3_append_24 rfl ?_
    refine X_iconst F dX3_append_27 (v := (1 : Int32)) rfl ?_
    refine X_iadd F dX3_append_28 ?_
    refine X_puti F ffRX3_30 fw3_1 (by decide) dX3_append_29 ?_
    refine X_iconst F dX3_append_32 (v := (1 : Int32)) rfl ?_
    exact X_zret F hr hlk rfl (retI h) dX3_append_33
  · rw [if_neg q1] at h
    refine X_iconst F dX3_append_10 (v := (0 : Int32)) rfl ?_
    exact X_zret F hr hlk rfl (retI h) dX3_append_11
set_option maxRecDepth 20000 in
theorem F3_append_met {l : Launch} {G : GG} {D : Nat} {r : Int32 × Mem} {M : Mem} {a1 : Int32} (hI : Inj shA G.2.1) (hD : 1 ≤ D) (h : F3_append M a1 = some r) : MetX shA l G yX3_append cX3_append 2 (some .boolean) D [.ref 9, .int a1] M (some (.int r.1), r.2) :=
  X_met hI (by decide +kernel) (Nat.le_of_ble_eq_true rfl) (fun p e s m args below meth c F hr hlk => F3_append_ok F hr hlk hD h)
-- KeepOurPlace$Reader.isLetter
def F3_isLetter (M : Mem) (a0 : Int32) : Option (Int32 × Mem) :=
    if a0 < (97 : Int32) then
      some ((0 : Int32), M)
    else
      if (122 : Int32) < a0 then
        some ((0 : Int32), M)
      else
        some ((1 : Int32), M)
set_option maxRecDepth 20000 in
theorem F3_isLetter_ok {p : Program} {l : Launch} {e : Env} {s : State} {m : MethodId} {args : Array Value} {below : List Frame} {meth : Method} {c : Code} {G : GG} {D : Nat} {r : Int32 × Mem} (F : FrP shA G p s m args c RX3 cX3_isLetter 1) (hr : meth.sig.returnType = (some .boolean)) (hlk : meth.locks = false) (hD : 1 ≤ D) {M : Mem} {a0 : Int32} (h : F3_isLetter M a0 = some r) : XJ shA p l e (rmX D) s m args below meth c 0 0 G 1 (MQ below (QcX shA G ((some (.int r.1), r.2) : Option Value × Mem).1 ((some (.int r.1), r.2) : Option Value × Mem).2) args s 0 0 (AW shA G.2.1)) 0 [(0, .int a0)] [] M := by
  unfold F3_isLetter at h
  refine X_iload_n F dX3_isLetter_0 rfl ?_
  refine X_bipush F dX3_isLetter_1 (v := (97 : Int32)) rfl ?_
  refine X_icmp_lt (tgt := 16) F dX3_isLetter_3 (by decide) (fun q1 => ?_) (fun q1 => ?_)
  · rw [if_pos q1] at h
    refine X_iconst F dX3_isLetter_16 (v := (0 : Int32)) rfl ?_
    exact X_zret F hr hlk rfl (retI h) dX3_isLetter_17
  · rw [if_neg q1] at h
    refine X_iload_n F dX3_isLetter_6 rfl ?_
    refine X_bipush F dX3_isLetter_7 (v := (122 : Int32)) rfl ?_
    refine X_icmp_gt (tgt := 16) F dX3_isLetter_9 (by decide) (fun q2 => ?_) (fun q2 => ?_)
    · rw [if_pos q2] at h
      refine X_iconst F dX3_isLetter_16 (v := (0 : Int32)) rfl ?_
      exact X_zret F hr hlk rfl (retI h) dX3_isLetter_17
    · rw [if_neg q2] at h
      refine X_iconst F dX3_isLetter_12 (v := (1 : Int32)) rfl ?_
      refine X_goto (tgt := 17) F dX3_isLetter_13 (by decide) ?_
      exact X_zret F hr hlk rfl (retI h) dX3_isLetter_17
set_option maxRecDepth 20000 in
theorem F3_isLetter_met {l : Launch} {G : GG} {D : Nat} {r : Int32 × Mem} {M : Mem} {a0 : Int32} (hI : Inj shA G.2.1) (hD : 1 ≤ D) (h : F3_isLetter M a0 = some r) : MetX shA l G yX3_isLetter cX3_isLetter 1 (some .boolean) D [.int a0] M (some (.int r.1), r.2) :=
  X_met hI (by decide +kernel) (Nat.le_of_ble_eq_true rfl) (fun p e s m args below meth c F hr hlk => F3_isLetter_ok F hr hlk hD h)
-- KeepOurPlace$Reader.isSame
def F3_isSame_l3_b (rec3 : Mem → Int32 → Int32 → Int32 → Int32 → Option (Int32 × Mem)) (M : Mem) (x1 : Int32) (x2 : Int32) (x3 : Int32) (x4 : Int32) : Option (Int32 × Mem) :=
    if x2 ≤ x4 then
      some ((1 : Int32), M)
    else
      Option.bind (FJ0_length_8abf5 M 1) fun r2 =>
      if r2.1 ≤ x4 then
        some ((1 : Int32), r2.2)
      else
        if ((x3 + x4) - x1) < 0 then
          some ((0 : Int32), r2.2)
        else
          if (r2.2 9 1) ≤ ((x3 + x4) - x1) then
            some ((0 : Int32), r2.2)
          else
            Option.bind (FJ0_charAt_5068e r2.2 1 x4) fun r7 =>
            if inb ((x3 + x4) - x1) 160 = true then
            if r7.1 = (r7.2 10 (Int32.toNatClampNeg ((x3 + x4) - x1))) then
              rec3 r7.2 x1 x2 x3 (x4 + (1 : Int32))
            else
              some ((0 : Int32), r7.2)
            else none
def F3_isSame_l3 : Nat → Mem → Int32 → Int32 → Int32 → Int32 → Option (Int32 × Mem)
  | 0, _, _, _, _, _ => none
  | fu + 1, M, x1, x2, x3, x4 => F3_isSame_l3_b (F3_isSame_l3 fu) M x1 x2 x3 x4
def F3_isSame (M : Mem) (a1 : Int32) (a2 : Int32) (a3 : Int32) : Option (Int32 × Mem) :=
    F3_isSame_l3 FUEL M a1 a2 a3 a1
set_option maxRecDepth 20000 in
theorem F3_isSame_l3_bok {p : Program} {l : Launch} {e : Env} {s : State} {m : MethodId} {args : Array Value} {below : List Frame} {meth : Method} {c : Code} {G : GG} {D : Nat} {r : Int32 × Mem} {rec3 : Mem → Int32 → Int32 → Int32 → Int32 → Option (Int32 × Mem)} (F : FrP shA G p s m args c RX3 cX3_isSame 6) (hr : meth.sig.returnType = (some .boolean)) (hlk : meth.locks = false) (hD : 5 ≤ D) (hrec3 : ∀ (M : Mem) (x1 : Int32) (x2 : Int32) (x3 : Int32) (x4 : Int32), rec3 M x1 x2 x3 x4 = some r → XJ shA p l e (rmX D) s m args below meth c 0 0 G 6 (MQ below (QcX shA G ((some (.int r.1), r.2) : Option Value × Mem).1 ((some (.int r.1), r.2) : Option Value × Mem).2) args s 0 0 (AW shA G.2.1)) 3 [(0, .ref 9), (1, .int x1), (2, .int x2), (3, .int x3), (4, .int x4)] [] M) {M : Mem} {x1 : Int32} {x2 : Int32} {x3 : Int32} {x4 : Int32} (h : F3_isSame_l3_b rec3 M x1 x2 x3 x4 = some r) : XJ shA p l e (rmX D) s m args below meth c 0 0 G 6 (MQ below (QcX shA G ((some (.int r.1), r.2) : Option Value × Mem).1 ((some (.int r.1), r.2) : Option Value × Mem).2) args s 0 0 (AW shA G.2.1)) 3 [(0, .ref 9), (1, .int x1), (2, .int x2), (3, .int x3), (4, .int x4)] [] M := by
  unfold F3_isSame_l3_b at h
  refine X_iload F dX3_isSame_3 rfl ?_
  refine X_iload_n F dX3_isSame_5 rfl ?_
  refine X_icmp_ge (tgt := 66) F dX3_isSame_6 (by decide) (fun q1 => ?_) (fun q1 => ?_)
  · rw [if_pos q1] at h
    refine X_iconst F dX3_isSame_66 (v := (1 : Int32)) rfl ?_
    exact X_zret F hr hlk rfl (retI h) dX3_isSame_67
  · rw [if_neg q1] at h
    refine X_iload F dX3_isSame_9 rfl ?_
    refine X_ldcS1 F dX3_isSame_11 ?_
    obtain ⟨r2, h3, h⟩ := bndS h
    refine X_callT (si := 1) (As := []) (rest := [.int x4]) F fkRX3_93 feJ0_length_8abf5 fvJ0_length_8abf5 (by decide) rfl (FJ0_length_8abf5_met (D := D - 1) F.2.2.2.2.2.2.2.1 (by omega) (by decide) h3) rfl rfl (Nat.le_of_ble_eq_true rfl) (rm_ok (by omega) (by decide)) dX3_isSame_13 ?_
    show XJ shA p l e (rmX D) s m args below meth c 0 0 G 6 (MQ below (QcX shA G ((some (.int r.1), r.2) : Option Value × Mem).1 ((some (.int r.1), r.2) : Option Value × Mem).2) args s 0 0 (AW shA G.2.1)) 16 [(0, .ref 9), (1, .int x1), (2, .int x2), (3, .int x3), (4, .int x4)] [.int r2.1, .int x4] r2.2
    refine X_icmp_ge (tgt := 66) F dX3_isSame_16 (by decide) (fun q4 => ?_) (fun q4 => ?_)
    · rw [if_pos q4] at h
      refine X_iconst F dX3_isSame_66 (v := (1 : Int32)) rfl ?_
      exact X_zret F hr hlk rfl (retI h) dX3_isSame_67
    · rw [if_neg q4] at h
      refine X_iload_n F dX3_isSame_19 rfl ?_
      refine X_iload F dX3_isSame_20 rfl ?_
      refine X_iadd F dX3_isSame_22 ?_
      refine X_iload_n F dX3_isSame_23 rfl ?_
      refine X_isub F dX3_isSame_24 ?_
      refine X_istore F dX3_isSame_25 (by decide) rfl ?_
      refine X_iload F dX3_isSame_27 rfl ?_
      refine X_if_lt (tgt := 58) F dX3_isSame_29 (by decide) (fun q5 => ?_) (fun q5 => ?_)
      · rw [if_pos q5] at h
        refine X_iconst F dX3_isSame_58 (v := (0 : Int32)) rfl ?_
        exact X_zret F hr hlk rfl (retI h) dX3_isSame_59
      · rw [if_neg q5] at h
        refine X_iload F dX3_isSame_32 rfl ?_
        refine X_aload_n F dX3_isSame_34 rfl ?_
        refine X_geti (v := (r2.2 9 1)) F ffRX3_30 dX3_isSame_35 rfl ?_
        refine X_icmp_ge (tgt := 58) F dX3_isSame_38 (by decide) (fun q6 => ?_) (fun q6 => ?_)
        · rw [if_pos q6] at h
          refine X_iconst F dX3_isSame_58 (v := (0 : Int32)) rfl ?_
          exact X_zret F hr hlk rfl (retI h) dX3_isSame_59
        · rw [if_neg q6] at h
          refine X_ldcS1 F dX3_isSame_41 ?_
          refine X_iload F dX3_isSame_43 rfl ?_
          obtain ⟨r7, h8, h⟩ := bndS h
          refine X_callT (si := 1) (As := [.int x4]) (rest := []) F fkRX3_96 feJ0_charAt_5068e fvJ0_charAt_5068e (by decide) rfl (FJ0_charAt_5068e_met (D := D - 1) F.2.2.2.2.2.2.2.1 (by omega) (by decide) h8) rfl rfl (Nat.le_of_ble_eq_true rfl) (rm_ok (by omega) (by decide)) dX3_isSame_45 ?_
          show XJ shA p l e (rmX D) s m args below meth c 0 0 G 6 (MQ below (QcX shA G ((some (.int r.1), r.2) : Option Value × Mem).1 ((some (.int r.1), r.2) : Option Value × Mem).2) args s 0 0 (AW shA G.2.1)) 48 [(5, .int ((x3 + x4) - x1)), (0, .ref 9), (1, .int x1), (2, .int x2), (3, .int x3), (4, .int x4)] [.int r7.1] r7.2
          refine X_aload_n F dX3_isSame_48 rfl ?_
          refine X_getr F ffRX3_11 dX3_isSame_49 ?_
          refine X_iload F dX3_isSame_52 rfl ?_
          obtain ⟨q9, h⟩ := ifS h
          refine X_iald (j := (Int32.toNatClampNeg ((x3 + x4) - x1))) (v := (r7.2 10 (Int32.toNatClampNeg ((x3 + x4) - x1)))) F rfl (inbV q9) rfl rfl dX3_isSame_54 ?_
          refine X_icmp_eq (tgt := 60) F dX3_isSame_55 (by decide) (fun q10 => ?_) (fun q10 => ?_)
          · rw [if_pos q10] at h
            refine X_iinc F dX3_isSame_60 rfl (v := (1 : Int32)) rfl (by decide) rfl ?_
            refine X_goto (tgt := 3) F dX3_isSame_63 (by decide) ?_
            refine X_pick [2, 3, 4, 5, 0] rfl ?_
            exact hrec3 _ _ _ _ _ h
          · rw [if_neg q10] at h
            refine X_iconst F dX3_isSame_58 (v := (0 : Int32)) rfl ?_
            exact X_zret F hr hlk rfl (retI h) dX3_isSame_59
set_option maxRecDepth 20000 in
theorem F3_isSame_l3_ok {p : Program} {l : Launch} {e : Env} {s : State} {m : MethodId} {args : Array Value} {below : List Frame} {meth : Method} {c : Code} {G : GG} {D : Nat} {r : Int32 × Mem} (F : FrP shA G p s m args c RX3 cX3_isSame 6) (hr : meth.sig.returnType = (some .boolean)) (hlk : meth.locks = false) (hD : 5 ≤ D) : ∀ (fu : Nat) (M : Mem) (x1 : Int32) (x2 : Int32) (x3 : Int32) (x4 : Int32), F3_isSame_l3 fu M x1 x2 x3 x4 = some r → XJ shA p l e (rmX D) s m args below meth c 0 0 G 6 (MQ below (QcX shA G ((some (.int r.1), r.2) : Option Value × Mem).1 ((some (.int r.1), r.2) : Option Value × Mem).2) args s 0 0 (AW shA G.2.1)) 3 [(0, .ref 9), (1, .int x1), (2, .int x2), (3, .int x3), (4, .int x4)] [] M := by
  intro fu
  induction fu with
  | zero => intro M x1 x2 x3 x4 h; cases h
  | succ fu ih => intro M x1 x2 x3 x4 h; exact F3_isSame_l3_bok F hr hlk hD (fun M x1 x2 x3 x4 => ih M x1 x2 x3 x4) h
set_option maxRecDepth 20000 in
theorem F3_isSame_ok {p : Program} {l : Launch} {e : Env} {s : State} {m : MethodId} {args : Array Value} {below : List Frame} {meth : Method} {c : Code} {G : GG} {D : Nat} {r : Int32 × Mem} (F : FrP shA G p s m args c RX3 cX3_isSame 6) (hr : meth.sig.returnType = (some .boolean)) (hlk : meth.locks = false) (hD : 5 ≤ D) {M : Mem} {a1 : Int32} {a2 : Int32} {a3 : Int32} (h : F3_isSame M a1 a2 a3 = some r) : XJ shA p l e (rmX D) s m args below meth c 0 0 G 6 (MQ below (QcX shA G ((some (.int r.1), r.2) : Option Value × Mem).1 ((some (.int r.1), r.2) : Option Value × Mem).2) args s 0 0 (AW shA G.2.1)) 0 [(0, .ref 9), (1, .int a1), (2, .int a2), (3, .int a3)] [] M := by
  unfold F3_isSame at h
  refine X_iload_n F dX3_isSame_0 rfl ?_
  refine X_istore F dX3_isSame_1 (by decide) rfl ?_
  refine X_pick [1, 2, 3, 4, 0] rfl ?_
  exact F3_isSame_l3_ok F hr hlk hD FUEL _ _ _ _ _ h
set_option maxRecDepth 20000 in
theorem F3_isSame_met {l : Launch} {G : GG} {D : Nat} {r : Int32 × Mem} {M : Mem} {a1 : Int32} {a2 : Int32} {a3 : Int32} (hI : Inj shA G.2.1) (hD : 5 ≤ D) (h : F3_isSame M a1 a2 a3 = some r) : MetX shA l G yX3_isSame cX3_isSame 6 (some .boolean) D [.ref 9, .int a1, .int a2, .int a3] M (some (.int r.1), r.2) :=
  X_met hI (by decide +kernel) (Nat.le_of_ble_eq_true rfl) (fun p e s m args below meth c F hr hlk => F3_isSame_ok F hr hlk hD h)
-- KeepOurPlace$Reader.wordOf
def F3_wordOf_j64 (rec8 : Mem → Int32 → Int32 → Int32 → Int32 → Int32 → Option (Int32 × Mem)) (M : Mem) (x1 : Int32) (x2 : Int32) (x3 : Int32) (x4 : Int32) (x5 : Int32) : Option (Int32 × Mem) :=
    rec8 M x1 x2 x3 x4 (x5 + (1 : Int32))
def F3_wordOf_j55 (rec8 : Mem → Int32 → Int32 → Int32 → Int32 → Int32 → Option (Int32 × Mem)) (M : Mem) (x1 : Int32) (x2 : Int32) (x3 : Int32) (x5 : Int32) : Option (Int32 × Mem) :=
    F3_wordOf_j64 rec8 M x1 x2 (x3 + (1 : Int32)) (x5 + (1 : Int32)) x5
def F3_wordOf_l8_b (rec8 : Mem → Int32 → Int32 → Int32 → Int32 → Int32 → Option (Int32 × Mem)) (M : Mem) (x1 : Int32) (x2 : Int32) (x3 : Int32) (x4 : Int32) (x5 : Int32) : Option (Int32 × Mem) :=
    Option.bind (FJ0_length_8abf5 M 1) fun r1 =>
    if r1.1 ≤ x5 then
      some ((-1 : Int32), r1.2)
    else
      Option.bind (FJ0_charAt_5068e r1.2 1 x5) fun r4 =>
      if ¬ r4.1 = (32 : Int32) then
        F3_wordOf_j64 rec8 r4.2 x1 x2 x3 x4 x5
      else
        if ¬ (x5 - x4) = (x2 - x1) then
          F3_wordOf_j55 rec8 r4.2 x1 x2 x3 x5
        else
          Option.bind (F3_isSame r4.2 x4 x5 x1) fun r8 =>
          if r8.1 = 0 then
            F3_wordOf_j55 rec8 r8.2 x1 x2 x3 x5
          else
            some (x3, r8.2)
def F3_wordOf_l8 : Nat → Mem → Int32 → Int32 → Int32 → Int32 → Int32 → Option (Int32 × Mem)
  | 0, _, _, _, _, _, _ => none
  | fu + 1, M, x1, x2, x3, x4, x5 => F3_wordOf_l8_b (F3_wordOf_l8 fu) M x1 x2 x3 x4 x5
def F3_wordOf (M : Mem) (a1 : Int32) (a2 : Int32) : Option (Int32 × Mem) :=
    F3_wordOf_l8 FUEL M a1 a2 (0 : Int32) (0 : Int32) (0 : Int32)
set_option maxRecDepth 20000 in
theorem F3_wordOf_j64_ok {p : Program} {l : Launch} {e : Env} {s : State} {m : MethodId} {args : Array Value} {below : List Frame} {meth : Method} {c : Code} {G : GG} {D : Nat} {r : Int32 × Mem} {rec8 : Mem → Int32 → Int32 → Int32 → Int32 → Int32 → Option (Int32 × Mem)} (F : FrP shA G p s m args c RX3 cX3_wordOf 6) (hr : meth.sig.returnType = (some .int)) (hlk : meth.locks = false) (hD : 6 ≤ D) (hrec8 : ∀ (M : Mem) (x1 : Int32) (x2 : Int32) (x3 : Int32) (x4 : Int32) (x5 : Int32), rec8 M x1 x2 x3 x4 x5 = some r → XJ shA p l e (rmX D) s m args below meth c 0 0 G 6 (MQ below (QcX shA G ((some (.int r.1), r.2) : Option Value × Mem).1 ((some (.int r.1), r.2) : Option Value × Mem).2) args s 0 0 (AW shA G.2.1)) 8 [(0, .ref 9), (1, .int x1), (2, .int x2), (3, .int x3), (4, .int x4), (5, .int x5)] [] M) {M : Mem} {x1 : Int32} {x2 : Int32} {x3 : Int32} {x4 : Int32} {x5 : Int32} (h : F3_wordOf_j64 rec8 M x1 x2 x3 x4 x5 = some r) : XJ shA p l e (rmX D) s m args below meth c 0 0 G 6 (MQ below (QcX shA G ((some (.int r.1), r.2) : Option Value × Mem).1 ((some (.int r.1), r.2) : Option Value × Mem).2) args s 0 0 (AW shA G.2.1)) 64 [(0, .ref 9), (1, .int x1), (2, .int x2), (3, .int x3), (4, .int x4), (5, .int x5)] [] M := by
  unfold F3_wordOf_j64 at h
  refine X_iinc F dX3_wordOf_64 rfl (v := (1 : Int32)) rfl (by decide) rfl ?_
  refine X_goto (tgt := 8) F dX3_wordOf_67 (by decide) ?_
  refine X_pick [1, 2, 3, 4, 5, 0] rfl ?_
  exact hrec8 _ _ _ _ _ _ h
set_option maxRecDepth 20000 in
theorem F3_wordOf_j55_ok {p : Program} {l : Launch} {e : Env} {s : State} {m : MethodId} {args : Array Value} {below : List Frame} {meth : Method} {c : Code} {G : GG} {D : Nat} {r : Int32 × Mem} {rec8 : Mem → Int32 → Int32 → Int32 → Int32 → Int32 → Option (Int32 × Mem)} (F : FrP shA G p s m args c RX3 cX3_wordOf 6) (hr : meth.sig.returnType = (some .int)) (hlk : meth.locks = false) (hD : 6 ≤ D) (hrec8 : ∀ (M : Mem) (x1 : Int32) (x2 : Int32) (x3 : Int32) (x4 : Int32) (x5 : Int32), rec8 M x1 x2 x3 x4 x5 = some r → XJ shA p l e (rmX D) s m args below meth c 0 0 G 6 (MQ below (QcX shA G ((some (.int r.1), r.2) : Option Value × Mem).1 ((some (.int r.1), r.2) : Option Value × Mem).2) args s 0 0 (AW shA G.2.1)) 8 [(0, .ref 9), (1, .int x1), (2, .int x2), (3, .int x3), (4, .int x4), (5, .int x5)] [] M) {M : Mem} {x1 : Int32} {x2 : Int32} {x3 : Int32} {x5 : Int32} (h : F3_wordOf_j55 rec8 M x1 x2 x3 x5 = some r) : XJ shA p l e (rmX D) s m args below meth c 0 0 G 6 (MQ below (QcX shA G ((some (.int r.1), r.2) : Option Value × Mem).1 ((some (.int r.1), r.2) : Option Value × Mem).2) args s 0 0 (AW shA G.2.1)) 55 [(0, .ref 9), (1, .int x1), (2, .int x2), (3, .int x3), (5, .int x5)] [] M := by
  unfold F3_wordOf_j55 at h
  refine X_iinc F dX3_wordOf_55 rfl (v := (1 : Int32)) rfl (by decide) rfl ?_
  refine X_iload F dX3_wordOf_58 rfl ?_
  refine X_iconst F dX3_wordOf_60 (v := (1 : Int32)) rfl ?_
  refine X_iadd F dX3_wordOf_61 ?_
  refine X_istore F dX3_wordOf_62 (by decide) rfl ?_
  refine X_pick [2, 3, 4, 1, 0, 5] rfl ?_
  exact F3_wordOf_j64_ok F hr hlk hD hrec8 h
set_option maxRecDepth 20000 in
theorem F3_wordOf_l8_bok {p : Program} {l : Launch} {e : Env} {s : State} {m : MethodId} {args : Array Value} {below : List Frame} {meth : Method} {c : Code} {G : GG} {D : Nat} {r : Int32 × Mem} {rec8 : Mem → Int32 → Int32 → Int32 → Int32 → Int32 → Option (Int32 × Mem)} (F : FrP shA G p s m args c RX3 cX3_wordOf 6) (hr : meth.sig.returnType = (some .int)) (hlk : meth.locks = false) (hD : 6 ≤ D) (hrec8 : ∀ (M : Mem) (x1 : Int32) (x2 : Int32) (x3 : Int32) (x4 : Int32) (x5 : Int32), rec8 M x1 x2 x3 x4 x5 = some r → XJ shA p l e (rmX D) s m args below meth c 0 0 G 6 (MQ below (QcX shA G ((some (.int r.1), r.2) : Option Value × Mem).1 ((some (.int r.1), r.2) : Option Value × Mem).2) args s 0 0 (AW shA G.2.1)) 8 [(0, .ref 9), (1, .int x1), (2, .int x2), (3, .int x3), (4, .int x4), (5, .int x5)] [] M) {M : Mem} {x1 : Int32} {x2 : Int32} {x3 : Int32} {x4 : Int32} {x5 : Int32} (h : F3_wordOf_l8_b rec8 M x1 x2 x3 x4 x5 = some r) : XJ shA p l e (rmX D) s m args below meth c 0 0 G 6 (MQ below (QcX shA G ((some (.int r.1), r.2) : Option Value × Mem).1 ((some (.int r.1), r.2) : Option Value × Mem).2) args s 0 0 (AW shA G.2.1)) 8 [(0, .ref 9), (1, .int x1), (2, .int x2), (3, .int x3), (4, .int x4), (5, .int x5)] [] M := by
  unfold F3_wordOf_l8_b at h
  refine X_iload F dX3_wordOf_8 rfl ?_
  refine X_ldcS1 F dX3_wordOf_10 ?_
  obtain ⟨r1, h2, h⟩ := bndS h
  refine X_callT (si := 1) (As := []) (rest := [.int x5]) F fkRX3_93 feJ0_length_8abf5 fvJ0_length_8abf5 (by decide) rfl (FJ0_length_8abf5_met (D := D - 1) F.2.2.2.2.2.2.2.1 (by omega) (by decide) h2) rfl rfl (Nat.le_of_ble_eq_true rfl) (rm_ok (by omega) (by decide)) dX3_wordOf_12 ?_
  show XJ shA p l e (rmX D) s m args below meth c 0 0 G 6 (MQ below (QcX shA G ((some (.int r.1), r.2) : Option Value × Mem).1 ((some (.int r.1), r.2) : Option Value × Mem).2) args s 0 0 (AW shA G.2.1)) 15 [(0, .ref 9), (1, .int x1), (2, .int x2), (3, .int x3), (4, .int x4), (5, .int x5)] [.int r1.1, .int x5] r1.2
  refine X_icmp_ge (tgt := 70) F dX3_wordOf_15 (by decide) (fun q3 => ?_) (fun q3 => ?_)
  · rw [if_pos q3] at h
    refine X_iconst F dX3_wordOf_70 (v := (-1 : Int32)) rfl ?_
    exact X_iret F hr hlk (retI h) dX3_wordOf_71
  · rw [if_neg q3] at h
    refine X_ldcS1 F dX3_wordOf_18 ?_
    refine X_iload F dX3_wordOf_20 rfl ?_
    obtain ⟨r4, h5, h⟩ := bndS h
    refine X_callT (si := 1) (As := [.int x5]) (rest := []) F fkRX3_96 feJ0_charAt_5068e fvJ0_charAt_5068e (by decide) rfl (FJ0_charAt_5068e_met (D := D - 1) F.2.2.2.2.2.2.2.1 (by omega) (by decide) h5) rfl rfl (Nat.le_of_ble_eq_true rfl) (rm_ok (by omega) (by decide)) dX3_wordOf_22 ?_
    show XJ shA p l e (rmX D) s m args below meth c 0 0 G 6 (MQ below (QcX shA G ((some (.int r.1), r.2) : Option Value × Mem).1 ((some (.int r.1), r.2) : Option Value × Mem).2) args s 0 0 (AW shA G.2.1)) 25 [(0, .ref 9), (1, .int x1), (2, .int x2), (3, .int x3), (4, .int x4), (5, .int x5)] [.int r4.1] r4.2
    refine X_bipush F dX3_wordOf_25 (v := (32 : Int32)) rfl ?_
    refine X_icmp_ne (tgt := 64) F dX3_wordOf_27 (by decide) (fun q6 => ?_) (fun q6 => ?_)
    · rw [if_pos q6] at h
      exact F3_wordOf_j64_ok F hr hlk hD hrec8 h
    · rw [if_neg (fun z => z q6)] at h
      refine X_iload F dX3_wordOf_30 rfl ?_
      refine X_iload F dX3_wordOf_32 rfl ?_
      refine X_isub F dX3_wordOf_34 ?_
      refine X_iload_n F dX3_wordOf_35 rfl ?_
      refine X_iload_n F dX3_wordOf_36 rfl ?_
      refine X_isub F dX3_wordOf_37 ?_
      refine X_icmp_ne (tgt := 55) F dX3_wordOf_38 (by decide) (fun q7 => ?_) (fun q7 => ?_)
      · rw [if_pos q7] at h
        refine X_pick [0, 1, 2, 3, 5] rfl ?_
        exact F3_wordOf_j55_ok F hr hlk hD hrec8 h
      · rw [if_neg (fun z => z q7)] at h
        refine X_aload_n F dX3_wordOf_41 rfl ?_
        refine X_iload F dX3_wordOf_42 rfl ?_
        refine X_iload F dX3_wordOf_44 rfl ?_
        refine X_iload_n F dX3_wordOf_46 rfl ?_
        obtain ⟨r8, h9, h⟩ := bndS h
        refine X_callV (ci := 9) (As := [.int x4, .int x5, .int x1]) (rest := []) F fkRX3_100 feX3_isSame fvX3_isSame ⟨_, _, _, rfl, rfl, rfl⟩ (F3_isSame_met (D := D - 1) F.2.2.2.2.2.2.2.1 (by omega) h9) rfl rfl (Nat.le_of_ble_eq_true rfl) (rm_ok (by omega) (by decide)) dX3_wordOf_47 ?_
        show XJ shA p l e (rmX D) s m args below meth c 0 0 G 6 (MQ below (QcX shA G ((some (.int r.1), r.2) : Option Value × Mem).1 ((some (.int r.1), r.2) : Option Value × Mem).2) args s 0 0 (AW shA G.2.1)) 50 [(0, .ref 9), (1, .int x1), (2, .int x2), (3, .int x3), (4, .int x4), (5, .int x5)] [.int r8.1] r8.2
        refine X_if_eq (tgt := 55) F dX3_wordOf_50 (by decide) (fun q10 => ?_) (fun q10 => ?_)
        · rw [if_pos q10] at h
          refine X_pick [0, 1, 2, 3, 5] rfl ?_
          exact F3_wordOf_j55_ok F hr hlk hD hrec8 h
        · rw [if_neg q10] at h
          refine X_iload_n F dX3_wordOf_53 rfl ?_
          exact X_iret F hr hlk (retI h) dX3_wordOf_54
set_option maxRecDepth 20000 in
theorem F3_wordOf_l8_ok {p : Program} {l : Launch} {e : Env} {s : State} {m : MethodId} {args : Array Value} {below : List Frame} {meth : Method} {c : Code} {G : GG} {D : Nat} {r : Int32 × Mem} (F : FrP shA G p s m args c RX3 cX3_wordOf 6) (hr : meth.sig.returnType = (some .int)) (hlk : meth.locks = false) (hD : 6 ≤ D) : ∀ (fu : Nat) (M : Mem) (x1 : Int32) (x2 : Int32) (x3 : Int32) (x4 : Int32) (x5 : Int32), F3_wordOf_l8 fu M x1 x2 x3 x4 x5 = some r → XJ shA p l e (rmX D) s m args below meth c 0 0 G 6 (MQ below (QcX shA G ((some (.int r.1), r.2) : Option Value × Mem).1 ((some (.int r.1), r.2) : Option Value × Mem).2) args s 0 0 (AW shA G.2.1)) 8 [(0, .ref 9), (1, .int x1), (2, .int x2), (3, .int x3), (4, .int x4), (5, .int x5)] [] M := by
  intro fu
  induction fu with
  | zero => intro M x1 x2 x3 x4 x5 h; cases h
  | succ fu ih => intro M x1 x2 x3 x4 x5 h; exact F3_wordOf_l8_bok F hr hlk hD (fun M x1 x2 x3 x4 x5 => ih M x1 x2 x3 x4 x5) h
set_option maxRecDepth 20000 in
theorem F3_wordOf_ok {p : Program} {l : Launch} {e : Env} {s : State} {m : MethodId} {args : Array Value} {below : List Frame} {meth : Method} {c : Code} {G : GG} {D : Nat} {r : Int32 × Mem} (F : FrP shA G p s m args c RX3 cX3_wordOf 6) (hr : meth.sig.returnType = (some .int)) (hlk : meth.locks = false) (hD : 6 ≤ D) {M : Mem} {a1 : Int32} {a2 : Int32} (h : F3_wordOf M a1 a2 = some r) : XJ shA p l e (rmX D) s m args below meth c 0 0 G 6 (MQ below (QcX shA G ((some (.int r.1), r.2) : Option Value × Mem).1 ((some (.int r.1), r.2) : Option Value × Mem).2) args s 0 0 (AW shA G.2.1)) 0 [(0, .ref 9), (1, .int a1), (2, .int a2)] [] M := by
  unfold F3_wordOf at h
  refine X_iconst F dX3_wordOf_0 (v := (0 : Int32)) rfl ?_
  refine X_istore_n F dX3_wordOf_1 (by decide) rfl ?_
  refine X_iconst F dX3_wordOf_2 (v := (0 : Int32)) rfl ?_
  refine X_istore F dX3_wordOf_3 (by decide) rfl ?_
  refine X_iconst F dX3_wordOf_5 (v := (0 : Int32)) rfl ?_
  refine X_istore F dX3_wordOf_6 (by decide) rfl ?_
  refine X_pick [3, 4, 5, 2, 1, 0] rfl ?_
  exact F3_wordOf_l8_ok F hr hlk hD FUEL _ _ _ _ _ _ h
set_option maxRecDepth 20000 in
theorem F3_wordOf_met {l : Launch} {G : GG} {D : Nat} {r : Int32 × Mem} {M : Mem} {a1 : Int32} {a2 : Int32} (hI : Inj shA G.2.1) (hD : 6 ≤ D) (h : F3_wordOf M a1 a2 = some r) : MetX shA l G yX3_wordOf cX3_wordOf 6 (some .int) D [.ref 9, .int a1, .int a2] M (some (.int r.1), r.2) :=
  X_met hI (by decide +kernel) (Nat.le_of_ble_eq_true rfl) (fun p e s m args below meth c F hr hlk => F3_wordOf_ok F hr hlk hD h)
-- KeepOurPlace$Reader.note
def F3_note (M : Mem) (a1 : Int32) (a2 : Int32) (a3 : Int32) : Option (Int32 × Mem) :=
    if (M 9 5) < (161 : Int32) then
      if inb (M 9 5) 161 = true then
      some ((0 : Int32), (up2 (up2 (up2 (up2 M 11 (Int32.toNatClampNeg (M 9 5)) a1) 12 (Int32.toNatClampNeg (M 9 5)) a2) 13 (Int32.toNatClampNeg (M 9 5)) a3) 9 5 ((M 9 5) + (1 : Int32))))
      else none
    else
      some ((0 : Int32), M)
set_option maxRecDepth 20000 in
theorem F3_note_ok {p : Program} {l : Launch} {e : Env} {s : State} {m : MethodId} {args : Array Value} {below : List Frame} {meth : Method} {c : Code} {G : GG} {D : Nat} {r : Int32 × Mem} (F : FrP shA G p s m args c RX3 cX3_note 4) (hr : meth.sig.returnType = none) (hlk : meth.locks = false) (hD : 1 ≤ D) {M : Mem} {a1 : Int32} {a2 : Int32} {a3 : Int32} (h : F3_note M a1 a2 a3 = some r) : XJ shA p l e (rmX D) s m args below meth c 0 0 G 4 (MQ below (QcX shA G ((none, r.2) : Option Value × Mem).1 ((none, r.2) : Option Value × Mem).2) args s 0 0 (AW shA G.2.1)) 0 [(0, .ref 9), (1, .int a1), (2, .int a2), (3, .int a3)] [] M := by
  unfold F3_note at h
  refine X_aload_n F dX3_note_0 rfl ?_
  refine X_geti (v := (M 9 5)) F ffRX3_56 dX3_note_1 rfl ?_
  refine X_aload_n F dX3_note_4 rfl ?_
  refine X_getr F ffRX3_15 dX3_note_5 ?_
  refine X_alen (v := (161 : Int32)) F rfl rfl dX3_note_8 ?_
  refine X_icmp_lt (tgt := 13) F dX3_note_9 (by decide) (fun q1 => ?_) (fun q1 => ?_)
  · rw [if_pos q1] at h
    refine X_aload_n F dX3_note_13 rfl ?_
    refine X_getr F ffRX3_15 dX3_note_14 ?_
    refine X_aload_n F dX3_note_17 rfl ?_
    refine X_geti (v := (M 9 5)) F ffRX3_56 dX3_note_18 rfl ?_
    refine X_iload_n F dX3_note_21 rfl ?_
    obtain ⟨q2, h⟩ := ifS h
    refine X_iast (j := (Int32.toNatClampNeg (M 9 5))) F rfl (inbV q2) rfl dX3_note_22 ?_
    refine X_aload_n F dX3_note_23 rfl ?_
    refine X_getr F ffRX3_18 dX3_note_24 ?_
    refine X_aload_n F dX3_note_27 rfl ?_
    refine X_geti (v := (M 9 5)) F ffRX3_56 dX3_note_28 rfl ?_
    refine X_iload_n F dX3_note_31 rfl ?_
    refine X_iast (j := (Int32.toNatClampNeg (M 9 5))) F rfl (inbV q2) rfl dX3_note_32 ?_
    refine X_aload_n F dX3_note_33 rfl ?_
    refine X_getr F ffRX3_21 dX3_note_34 ?_
    refine X_aload_n F dX3_note_37 rfl ?_
    refine X_geti (v := (M 9 5)) F ffRX3_56 dX3_note_38 rfl ?_
    refine X_iload_n F dX3_note_41 rfl ?_
    refine X_iast (j := (Int32.toNatClampNeg (M 9 5))) F rfl (inbV q2) rfl dX3_note_42 ?_
    refine X_aload_n F dX3_note_43 rfl ?_
    refine X_dup F dX3_note_44 rfl ?_
    refine X_geti (v := (M 9 5)) F ffRX3_56 dX3_note_45 rfl ?_
    refine X_iconst F dX3_note_48 (v := (1 : Int32)) rfl ?_
    refine X_iadd F dX3_note_49 ?_
    refine X_puti F ffRX3_56 fw3_5 (by decide) dX3_note_50 ?_
    exact X_vret F hr hlk (retV h) dX3_note_53
  · rw [if_neg q1] at h
    exact X_vret F hr hlk (retV h) dX3_note_12
set_option maxRecDepth 20000 in
theorem F3_note_met {l : Launch} {G : GG} {D : Nat} {r : Int32 × Mem} {M : Mem} {a1 : Int32} {a2 : Int32} {a3 : Int32} (hI : Inj shA G.2.1) (hD : 1 ≤ D) (h : F3_note M a1 a2 a3 = some r) : MetX shA l G yX3_note cX3_note 4 none D [.ref 9, .int a1, .int a2, .int a3] M (none, r.2) :=
  X_met hI (by decide +kernel) (Nat.le_of_ble_eq_true rfl) (fun p e s m args below meth c F hr hlk => F3_note_ok F hr hlk hD h)
-- KeepOurPlace$Reader.scanWord
def F3_scanWord_j34 (M : Mem) (x1 : Int32) (x2 : Int32) : Option (Int32 × Mem) :=
    Option.bind (F3_wordOf M x1 x2) fun r6 =>
    if ¬ r6.1 = (-1 : Int32) then
      if (6 : Int32) ≤ r6.1 then
        Option.bind (F3_note r6.2 ((-5 : Int32) - r6.1) x1 (0 : Int32)) fun r10 =>
        some (x2, r10.2)
      else
        Option.bind (F3_note r6.2 (-4 : Int32) x1 ((-1 : Int32) - r6.1)) fun r12 =>
        some (x2, r12.2)
    else
      Option.bind (F3_note r6.2 (-2 : Int32) x1 (0 : Int32)) fun r14 =>
      some (x2, r14.2)
def F3_scanWord_l4_b (rec4 : Mem → Int32 → Int32 → Int32 → Option (Int32 × Mem)) (M : Mem) (x1 : Int32) (x2 : Int32) (x3 : Int32) : Option (Int32 × Mem) :=
    if (M 9 1) ≤ x3 then
      F3_scanWord_j34 M x1 x2
    else
      if inb x3 160 = true then
      Option.bind (F3_isLetter M (M 10 (Int32.toNatClampNeg x3))) fun r3 =>
      if r3.1 = 0 then
        F3_scanWord_j34 r3.2 x1 x2
      else
        rec4 r3.2 x1 (x3 + (1 : Int32)) (x3 + (1 : Int32))
      else none
def F3_scanWord_l4 : Nat → Mem → Int32 → Int32 → Int32 → Option (Int32 × Mem)
  | 0, _, _, _, _ => none
  | fu + 1, M, x1, x2, x3 => F3_scanWord_l4_b (F3_scanWord_l4 fu) M x1 x2 x3
def F3_scanWord (M : Mem) (a1 : Int32) : Option (Int32 × Mem) :=
    F3_scanWord_l4 FUEL M a1 a1 a1
set_option maxRecDepth 20000 in
theorem F3_scanWord_j34_ok {p : Program} {l : Launch} {e : Env} {s : State} {m : MethodId} {args : Array Value} {below : List Frame} {meth : Method} {c : Code} {G : GG} {D : Nat} {r : Int32 × Mem} (F : FrP shA G p s m args c RX3 cX3_scanWord 4) (hr : meth.sig.returnType = (some .int)) (hlk : meth.locks = false) (hD : 7 ≤ D) {M : Mem} {x1 : Int32} {x2 : Int32} (h : F3_scanWord_j34 M x1 x2 = some r) : XJ shA p l e (rmX D) s m args below meth c 0 0 G 4 (MQ below (QcX shA G ((some (.int r.1), r.2) : Option Value × Mem).1 ((some (.int r.1), r.2) : Option Value × Mem).2) args s 0 0 (AW shA G.2.1)) 34 [(0, .ref 9), (1, .int x1), (2, .int x2)] [] M := by
  unfold F3_scanWord_j34 at h
  refine X_aload_n F dX3_scanWord_34 rfl ?_
  refine X_iload_n F dX3_scanWord_35 rfl ?_
  refine X_iload_n F dX3_scanWord_36 rfl ?_
  obtain ⟨r6, h7, h⟩ := bndS h
  refine X_callV (ci := 9) (As := [.int x1, .int x2]) (rest := []) F fkRX3_88 feX3_wordOf fvX3_wordOf ⟨_, _, _, rfl, rfl, rfl⟩ (F3_wordOf_met (D := D - 1) F.2.2.2.2.2.2.2.1 (by omega) h7) rfl rfl (Nat.le_of_ble_eq_true rfl) (rm_ok (by omega) (by decide)) dX3_scanWord_37 ?_
  show XJ shA p l e (rmX D) s m args below meth c 0 0 G 4 (MQ below (QcX shA G ((some (.int r.1), r.2) : Option Value × Mem).1 ((some (.int r.1), r.2) : Option Value × Mem).2) args s 0 0 (AW shA G.2.1)) 40 [(0, .ref 9), (1, .int x1), (2, .int x2)] [.int r6.1] r6.2
  refine X_istore_n F dX3_scanWord_40 (by decide) rfl ?_
  refine X_iload_n F dX3_scanWord_41 rfl ?_
  refine X_iconst F dX3_scanWord_42 (v := (-1 : Int32)) rfl ?_
  refine X_icmp_ne (tgt := 57) F dX3_scanWord_43 (by decide) (fun q8 => ?_) (fun q8 => ?_)
  · rw [if_pos q8] at h
    refine X_iload_n F dX3_scanWord_57 rfl ?_
    refine X_bipush F dX3_scanWord_58 (v := (6 : Int32)) rfl ?_
    refine X_icmp_ge (tgt := 76) F dX3_scanWord_60 (by decide) (fun q9 => ?_) (fun q9 => ?_)
    · rw [if_pos q9] at h
      refine X_aload_n F dX3_scanWord_76 rfl ?_
      refine X_bipush F dX3_scanWord_77 (v := (-5 : Int32)) rfl ?_
      refine X_iload_n F dX3_scanWord_79 rfl ?_
      refine X_isub F dX3_scanWord_80 ?_
      refine X_iload_n F dX3_scanWord_81 rfl ?_
      refine X_iconst F dX3_scanWord_82 (v := (0 : Int32)) rfl ?_
      obtain ⟨r10, h11, h⟩ := bndS h
      refine X_callV (ci := 9) (As := [.int ((-5 : Int32) - r6.1), .int x1, .int (0 : Int32)]) (rest := []) F fkRX3_63 feX3_note fvX3_note ⟨_, _, _, rfl, rfl, rfl⟩ (F3_note_met (D := D - 1) F.2.2.2.2.2.2.2.1 (by omega) h11) rfl rfl (Nat.le_of_ble_eq_true rfl) (rm_ok (by omega) (by decide)) dX3_scanWord_83 ?_
      show XJ shA p l e (rmX D) s m args below meth c 0 0 G 4 (MQ below (QcX shA G ((some (.int r.1), r.2) : Option Value × Mem).1 ((some (.int r.1), r.2) : Option Value × Mem).2) args s 0 0 (AW shA G.2.1)) 86 [(3, .int r6.1), (0, .ref 9), (1, .int x1), (2, .int x2)] [] r10.2
      refine X_iload_n F dX3_scanWord_86 rfl ?_
      exact X_iret F hr hlk (retI h) dX3_scanWord_87
    · rw [if_neg q9] at h
      refine X_aload_n F dX3_scanWord_63 rfl ?_
      refine X_bipush F dX3_scanWord_64 (v := (-4 : Int32)) rfl ?_
      refine X_iload_n F dX3_scanWord_66 rfl ?_
      refine X_iconst F dX3_scanWord_67 (v := (-1 : Int32)) rfl ?_
      refine X_iload_n F dX3_scanWord_68 rfl ?_
      refine X_isub F dX3_scanWord_69 ?_
      obtain ⟨r12, h13, h⟩ := bndS h
      refine X_callV (ci := 9) (As := [.int (-4 : Int32), .int x1, .int ((-1 : Int32) - r6.1)]) (rest := []) F fkRX3_63 feX3_note fvX3_note ⟨_, _, _, rfl, rfl, rfl⟩ (F3_note_met (D := D - 1) F.2.2.2.2.2.2.2.1 (by omega) h13) rfl rfl (Nat.le_of_ble_eq_true rfl) (rm_ok (by omega) (by decide)) dX3_scanWord_70 ?_
      show XJ shA p l e (rmX D) s m args below meth c 0 0 G 4 (MQ below (QcX shA G ((some (.int r.1), r.2) : Option Value × Mem).1 ((some (.int r.1), r.2) : Option Value × Mem).2) args s 0 0 (AW shA G.2.1)) 73 [(3, .int r6.1), (0, .ref 9), (1, .int x1), (2, .int x2)] [] r12.2
      refine X_goto (tgt := 86) F dX3_scanWord_73 (by decide) ?_
      refine X_iload_n F dX3_scanWord_86 rfl ?_
      exact X_iret F hr hlk (retI h) dX3_scanWord_87
  · rw [if_neg (fun z => z q8)] at h
    refine X_aload_n F dX3_scanWord_46 rfl ?_
    refine X_bipush F dX3_scanWord_47 (v := (-2 : Int32)) rfl ?_
    refine X_iload_n F dX3_scanWord_49 rfl ?_
    refine X_iconst F dX3_scanWord_50 (v := (0 : Int32)) rfl ?_
    obtain ⟨r14, h15, h⟩ := bndS h
    refine X_callV (ci := 9) (As := [.int (-2 : Int32), .int x1, .int (0 : Int32)]) (rest := []) F fkRX3_63 feX3_note fvX3_note ⟨_, _, _, rfl, rfl, rfl⟩ (F3_note_met (D := D - 1) F.2.2.2.2.2.2.2.1 (by omega) h15) rfl rfl (Nat.le_of_ble_eq_true rfl) (rm_ok (by omega) (by decide)) dX3_scanWord_51 ?_
    show XJ shA p l e (rmX D) s m args below meth c 0 0 G 4 (MQ below (QcX shA G ((some (.int r.1), r.2) : Option Value × Mem).1 ((some (.int r.1), r.2) : Option Value × Mem).2) args s 0 0 (AW shA G.2.1)) 54 [(3, .int r6.1), (0, .ref 9), (1, .int x1), (2, .int x2)] [] r14.2
    refine X_goto (tgt := 86) F dX3_scanWord_54 (by decide) ?_
    refine X_iload_n F dX3_scanWord_86 rfl ?_
    exact X_iret F hr hlk (retI h) dX3_scanWord_87
set_option maxRecDepth 20000 in
theorem F3_scanWord_l4_bok {p : Program} {l : Launch} {e : Env} {s : State} {m : MethodId} {args : Array Value} {below : List Frame} {meth : Method} {c : Code} {G : GG} {D : Nat} {r : Int32 × Mem} {rec4 : Mem → Int32 → Int32 → Int32 → Option (Int32 × Mem)} (F : FrP shA G p s m args c RX3 cX3_scanWord 4) (hr : meth.sig.returnType = (some .int)) (hlk : meth.locks = false) (hD : 7 ≤ D) (hrec4 : ∀ (M : Mem) (x1 : Int32) (x2 : Int32) (x3 : Int32), rec4 M x1 x2 x3 = some r → XJ shA p l e (rmX D) s m args below meth c 0 0 G 4 (MQ below (QcX shA G ((some (.int r.1), r.2) : Option Value × Mem).1 ((some (.int r.1), r.2) : Option Value × Mem).2) args s 0 0 (AW shA G.2.1)) 4 [(0, .ref 9), (1, .int x1), (2, .int x2), (3, .int x3)] [] M) {M : Mem} {x1 : Int32} {x2 : Int32} {x3 : Int32} (h : F3_scanWord_l4_b rec4 M x1 x2 x3 = some r) : XJ shA p l e (rmX D) s m args below meth c 0 0 G 4 (MQ below (QcX shA G ((some (.int r.1), r.2) : Option Value × Mem).1 ((some (.int r.1), r.2) : Option Value × Mem).2) args s 0 0 (AW shA G.2.1)) 4 [(0, .ref 9), (1, .int x1), (2, .int x2), (3, .int x3)] [] M := by
  unfold F3_scanWord_l4_b at h
  refine X_iload_n F dX3_scanWord_4 rfl ?_
  refine X_aload_n F dX3_scanWord_5 rfl ?_
  refine X_geti (v := (M 9 1)) F ffRX3_30 dX3_scanWord_6 rfl ?_
  refine X_icmp_ge (tgt := 34) F dX3_scanWord_9 (by decide) (fun q1 => ?_) (fun q1 => ?_)
  · rw [if_pos q1] at h
    refine X_pick [0, 1, 2] rfl ?_
    exact F3_scanWord_j34_ok F hr hlk hD h
  · rw [if_neg q1] at h
    refine X_aload_n F dX3_scanWord_12 rfl ?_
    refine X_getr F ffRX3_11 dX3_scanWord_13 ?_
    refine X_iload_n F dX3_scanWord_16 rfl ?_
    obtain ⟨q2, h⟩ := ifS h
    refine X_iald (j := (Int32.toNatClampNeg x3)) (v := (M 10 (Int32.toNatClampNeg x3))) F rfl (inbV q2) rfl rfl dX3_scanWord_17 ?_
    obtain ⟨r3, h4, h⟩ := bndS h
    refine X_callS (As := [.int (M 10 (Int32.toNatClampNeg x3))]) (rest := []) F fsRX3_67 feX3_isLetter ftX3_isLetter (F3_isLetter_met (D := D - 1) F.2.2.2.2.2.2.2.1 (by omega) h4) rfl rfl (Nat.le_of_ble_eq_true rfl) (rm_ok (by omega) (by decide)) dX3_scanWord_18 ?_
    show XJ shA p l e (rmX D) s m args below meth c 0 0 G 4 (MQ below (QcX shA G ((some (.int r.1), r.2) : Option Value × Mem).1 ((some (.int r.1), r.2) : Option Value × Mem).2) args s 0 0 (AW shA G.2.1)) 21 [(0, .ref 9), (1, .int x1), (2, .int x2), (3, .int x3)] [.int r3.1] r3.2
    refine X_if_eq (tgt := 34) F dX3_scanWord_21 (by decide) (fun q5 => ?_) (fun q5 => ?_)
    · rw [if_pos q5] at h
      refine X_pick [0, 1, 2] rfl ?_
      exact F3_scanWord_j34_ok F hr hlk hD h
    · rw [if_neg q5] at h
      refine X_iload_n F dX3_scanWord_24 rfl ?_
      refine X_iconst F dX3_scanWord_25 (v := (1 : Int32)) rfl ?_
      refine X_iadd F dX3_scanWord_26 ?_
      refine X_istore_n F dX3_scanWord_27 (by decide) rfl ?_
      refine X_iinc F dX3_scanWord_28 rfl (v := (1 : Int32)) rfl (by decide) rfl ?_
      refine X_goto (tgt := 4) F dX3_scanWord_31 (by decide) ?_
      refine X_pick [2, 3, 1, 0] rfl ?_
      exact hrec4 _ _ _ _ h
set_option maxRecDepth 20000 in
theorem F3_scanWord_l4_ok {p : Program} {l : Launch} {e : Env} {s : State} {m : MethodId} {args : Array Value} {below : List Frame} {meth : Method} {c : Code} {G : GG} {D : Nat} {r : Int32 × Mem} (F : FrP shA G p s m args c RX3 cX3_scanWord 4) (hr : meth.sig.returnType = (some .int)) (hlk : meth.locks = false) (hD : 7 ≤ D) : ∀ (fu : Nat) (M : Mem) (x1 : Int32) (x2 : Int32) (x3 : Int32), F3_scanWord_l4 fu M x1 x2 x3 = some r → XJ shA p l e (rmX D) s m args below meth c 0 0 G 4 (MQ below (QcX shA G ((some (.int r.1), r.2) : Option Value × Mem).1 ((some (.int r.1), r.2) : Option Value × Mem).2) args s 0 0 (AW shA G.2.1)) 4 [(0, .ref 9), (1, .int x1), (2, .int x2), (3, .int x3)] [] M := by
  intro fu
  induction fu with
  | zero => intro M x1 x2 x3 h; cases h
  | succ fu ih => intro M x1 x2 x3 h; exact F3_scanWord_l4_bok F hr hlk hD (fun M x1 x2 x3 => ih M x1 x2 x3) h
set_option maxRecDepth 20000 in
theorem F3_scanWord_ok {p : Program} {l : Launch} {e : Env} {s : State} {m : MethodId} {args : Array Value} {below : List Frame} {meth : Method} {c : Code} {G : GG} {D : Nat} {r : Int32 × Mem} (F : FrP shA G p s m args c RX3 cX3_scanWord 4) (hr : meth.sig.returnType = (some .int)) (hlk : meth.locks = false) (hD : 7 ≤ D) {M : Mem} {a1 : Int32} (h : F3_scanWord M a1 = some r) : XJ shA p l e (rmX D) s m args below meth c 0 0 G 4 (MQ below (QcX shA G ((some (.int r.1), r.2) : Option Value × Mem).1 ((some (.int r.1), r.2) : Option Value × Mem).2) args s 0 0 (AW shA G.2.1)) 0 [(0, .ref 9), (1, .int a1)] [] M := by
  unfold F3_scanWord at h
  refine X_iload_n F dX3_scanWord_0 rfl ?_
  refine X_istore_n F dX3_scanWord_1 (by decide) rfl ?_
  refine X_iload_n F dX3_scanWord_2 rfl ?_
  refine X_istore_n F dX3_scanWord_3 (by decide) rfl ?_
  refine X_pick [2, 3, 1, 0] rfl ?_
  exact F3_scanWord_l4_ok F hr hlk hD FUEL _ _ _ _ h
set_option maxRecDepth 20000 in
theorem F3_scanWord_met {l : Launch} {G : GG} {D : Nat} {r : Int32 × Mem} {M : Mem} {a1 : Int32} (hI : Inj shA G.2.1) (hD : 7 ≤ D) (h : F3_scanWord M a1 = some r) : MetX shA l G yX3_scanWord cX3_scanWord 4 (some .int) D [.ref 9, .int a1] M (some (.int r.1), r.2) :=
  X_met hI (by decide +kernel) (Nat.le_of_ble_eq_true rfl) (fun p e s m args below meth c F hr hlk => F3_scanWord_ok F hr hlk hD h)
-- KeepOurPlace$Reader.isDigit
def F3_isDigit (M : Mem) (a0 : Int32) : Option (Int32 × Mem) :=
    if a0 < (48 : Int32) then
      some ((0 : Int32), M)
    else
      if (57 : Int32) < a0 then
        some ((0 : Int32), M)
      else
        some ((1 : Int32), M)
set_option maxRecDepth 20000 in
theorem F3_isDigit_ok {p : Program} {l : Launch} {e : Env} {s : State} {m : MethodId} {args : Array Value} {below : List Frame} {meth : Method} {c : Code} {G : GG} {D : Nat} {r : Int32 × Mem} (F : FrP shA G p s m args c RX3 cX3_isDigit 1) (hr : meth.sig.returnType = (some .boolean)) (hlk : meth.locks = false) (hD : 1 ≤ D) {M : Mem} {a0 : Int32} (h : F3_isDigit M a0 = some r) : XJ shA p l e (rmX D) s m args below meth c 0 0 G 1 (MQ below (QcX shA G ((some (.int r.1), r.2) : Option Value × Mem).1 ((some (.int r.1), r.2) : Option Value × Mem).2) args s 0 0 (AW shA G.2.1)) 0 [(0, .int a0)] [] M := by
  unfold F3_isDigit at h
  refine X_iload_n F dX3_isDigit_0 rfl ?_
  refine X_bipush F dX3_isDigit_1 (v := (48 : Int32)) rfl ?_
  refine X_icmp_lt (tgt := 16) F dX3_isDigit_3 (by decide) (fun q1 => ?_) (fun q1 => ?_)
  · rw [if_pos q1] at h
    refine X_iconst F dX3_isDigit_16 (v := (0 : Int32)) rfl ?_
    exact X_zret F hr hlk rfl (retI h) dX3_isDigit_17
  · rw [if_neg q1] at h
    refine X_iload_n F dX3_isDigit_6 rfl ?_
    refine X_bipush F dX3_isDigit_7 (v := (57 : Int32)) rfl ?_
    refine X_icmp_gt (tgt := 16) F dX3_isDigit_9 (by decide) (fun q2 => ?_) (fun q2 => ?_)
    · rw [if_pos q2] at h
      refine X_iconst F dX3_isDigit_16 (v := (0 : Int32)) rfl ?_
      exact X_zret F hr hlk rfl (retI h) dX3_isDigit_17
    · rw [if_neg q2] at h
      refine X_iconst F dX3_isDigit_12 (v := (1 : Int32)) rfl ?_
      refine X_goto (tgt := 17) F dX3_isDigit_13 (by decide) ?_
      exact X_zret F hr hlk rfl (retI h) dX3_isDigit_17
set_option maxRecDepth 20000 in
theorem F3_isDigit_met {l : Launch} {G : GG} {D : Nat} {r : Int32 × Mem} {M : Mem} {a0 : Int32} (hI : Inj shA G.2.1) (hD : 1 ≤ D) (h : F3_isDigit M a0 = some r) : MetX shA l G yX3_isDigit cX3_isDigit 1 (some .boolean) D [.int a0] M (some (.int r.1), r.2) :=
  X_met hI (by decide +kernel) (Nat.le_of_ble_eq_true rfl) (fun p e s m args below meth c F hr hlk => F3_isDigit_ok F hr hlk hD h)
-- KeepOurPlace$Reader.scanNumber
def F3_scanNumber_j79 (M : Mem) (x1 : Int32) (x2 : Int32) (x3 : Int32) (y0 : Int32) : Option (Int32 × Mem) :=
    Option.bind (F3_note M y0 x1 x2) fun r8 =>
    some (x3, r8.2)
def F3_scanNumber_j64 (M : Mem) (x1 : Int32) (x2 : Int32) (x3 : Int32) : Option (Int32 × Mem) :=
    if (x3 - x1) ≤ (4 : Int32) then
      F3_scanNumber_j79 M x1 x2 x3 (-3 : Int32)
    else
      F3_scanNumber_j79 M x1 x2 x3 (-2 : Int32)
def F3_scanNumber_j53 (rec7 : Mem → Int32 → Int32 → Int32 → Int32 → Option (Int32 × Mem)) (M : Mem) (x1 : Int32) (x2 : Int32) (x4 : Int32) : Option (Int32 × Mem) :=
    rec7 M x1 x2 (x4 + (1 : Int32)) (x4 + (1 : Int32))
def F3_scanNumber_l7_b (rec7 : Mem → Int32 → Int32 → Int32 → Int32 → Option (Int32 × Mem)) (M : Mem) (x1 : Int32) (x2 : Int32) (x3 : Int32) (x4 : Int32) : Option (Int32 × Mem) :=
    if (M 9 1) ≤ x4 then
      F3_scanNumber_j64 M x1 x2 x3
    else
      if inb x4 160 = true then
      Option.bind (F3_isDigit M (M 10 (Int32.toNatClampNeg x4))) fun r3 =>
      if r3.1 = 0 then
        F3_scanNumber_j64 r3.2 x1 x2 x3
      else
        if (x1 + (4 : Int32)) ≤ x4 then
          F3_scanNumber_j53 rec7 r3.2 x1 x2 x4
        else
          F3_scanNumber_j53 rec7 r3.2 x1 (((x2 * (10 : Int32)) + (r3.2 10 (Int32.toNatClampNeg x4))) - (48 : Int32)) x4
      else none
def F3_scanNumber_l7 : Nat → Mem → Int32 → Int32 → Int32 → Int32 → Option (Int32 × Mem)
  | 0, _, _, _, _, _ => none
  | fu + 1, M, x1, x2, x3, x4 => F3_scanNumber_l7_b (F3_scanNumber_l7 fu) M x1 x2 x3 x4
def F3_scanNumber (M : Mem) (a1 : Int32) : Option (Int32 × Mem) :=
    F3_scanNumber_l7 FUEL M a1 (0 : Int32) a1 a1
set_option maxRecDepth 20000 in
theorem F3_scanNumber_j79_ok {p : Program} {l : Launch} {e : Env} {s : State} {m : MethodId} {args : Array Value} {below : List Frame} {meth : Method} {c : Code} {G : GG} {D : Nat} {r : Int32 × Mem} (F : FrP shA G p s m args c RX3 cX3_scanNumber 5) (hr : meth.sig.returnType = (some .int)) (hlk : meth.locks = false) (hD : 2 ≤ D) {M : Mem} {x1 : Int32} {x2 : Int32} {x3 : Int32} {y0 : Int32} (h : F3_scanNumber_j79 M x1 x2 x3 y0 = some r) : XJ shA p l e (rmX D) s m args below meth c 0 0 G 5 (MQ below (QcX shA G ((some (.int r.1), r.2) : Option Value × Mem).1 ((some (.int r.1), r.2) : Option Value × Mem).2) args s 0 0 (AW shA G.2.1)) 79 [(1, .int x1), (2, .int x2), (3, .int x3)] [.int y0, .ref 9] M := by
  unfold F3_scanNumber_j79 at h
  refine X_iload_n F dX3_scanNumber_79 rfl ?_
  refine X_iload_n F dX3_scanNumber_80 rfl ?_
  obtain ⟨r8, h9, h⟩ := bndS h
  refine X_callV (ci := 9) (As := [.int y0, .int x1, .int x2]) (rest := []) F fkRX3_63 feX3_note fvX3_note ⟨_, _, _, rfl, rfl, rfl⟩ (F3_note_met (D := D - 1) F.2.2.2.2.2.2.2.1 (by omega) h9) rfl rfl (Nat.le_of_ble_eq_true rfl) (rm_ok (by omega) (by decide)) dX3_scanNumber_81 ?_
  show XJ shA p l e (rmX D) s m args below meth c 0 0 G 5 (MQ below (QcX shA G ((some (.int r.1), r.2) : Option Value × Mem).1 ((some (.int r.1), r.2) : Option Value × Mem).2) args s 0 0 (AW shA G.2.1)) 84 [(1, .int x1), (2, .int x2), (3, .int x3)] [] r8.2
  refine X_iload_n F dX3_scanNumber_84 rfl ?_
  exact X_iret F hr hlk (retI h) dX3_scanNumber_85
set_option maxRecDepth 20000 in
theorem F3_scanNumber_j64_ok {p : Program} {l : Launch} {e : Env} {s : State} {m : MethodId} {args : Array Value} {below : List Frame} {meth : Method} {c : Code} {G : GG} {D : Nat} {r : Int32 × Mem} (F : FrP shA G p s m args c RX3 cX3_scanNumber 5) (hr : meth.sig.returnType = (some .int)) (hlk : meth.locks = false) (hD : 2 ≤ D) {M : Mem} {x1 : Int32} {x2 : Int32} {x3 : Int32} (h : F3_scanNumber_j64 M x1 x2 x3 = some r) : XJ shA p l e (rmX D) s m args below meth c 0 0 G 5 (MQ below (QcX shA G ((some (.int r.1), r.2) : Option Value × Mem).1 ((some (.int r.1), r.2) : Option Value × Mem).2) args s 0 0 (AW shA G.2.1)) 64 [(0, .ref 9), (1, .int x1), (2, .int x2), (3, .int x3)] [] M := by
  unfold F3_scanNumber_j64 at h
  refine X_aload_n F dX3_scanNumber_64 rfl ?_
  refine X_iload_n F dX3_scanNumber_65 rfl ?_
  refine X_iload_n F dX3_scanNumber_66 rfl ?_
  refine X_isub F dX3_scanNumber_67 ?_
  refine X_iconst F dX3_scanNumber_68 (v := (4 : Int32)) rfl ?_
  refine X_icmp_le (tgt := 77) F dX3_scanNumber_69 (by decide) (fun q7 => ?_) (fun q7 => ?_)
  · rw [if_pos q7] at h
    refine X_bipush F dX3_scanNumber_77 (v := (-3 : Int32)) rfl ?_
    refine X_pick [1, 2, 3] rfl ?_
    exact F3_scanNumber_j79_ok F hr hlk hD h
  · rw [if_neg q7] at h
    refine X_bipush F dX3_scanNumber_72 (v := (-2 : Int32)) rfl ?_
    refine X_goto (tgt := 79) F dX3_scanNumber_74 (by decide) ?_
    refine X_pick [1, 2, 3] rfl ?_
    exact F3_scanNumber_j79_ok F hr hlk hD h
set_option maxRecDepth 20000 in
theorem F3_scanNumber_j53_ok {p : Program} {l : Launch} {e : Env} {s : State} {m : MethodId} {args : Array Value} {below : List Frame} {meth : Method} {c : Code} {G : GG} {D : Nat} {r : Int32 × Mem} {rec7 : Mem → Int32 → Int32 → Int32 → Int32 → Option (Int32 × Mem)} (F : FrP shA G p s m args c RX3 cX3_scanNumber 5) (hr : meth.sig.returnType = (some .int)) (hlk : meth.locks = false) (hD : 2 ≤ D) (hrec7 : ∀ (M : Mem) (x1 : Int32) (x2 : Int32) (x3 : Int32) (x4 : Int32), rec7 M x1 x2 x3 x4 = some r → XJ shA p l e (rmX D) s m args below meth c 0 0 G 5 (MQ below (QcX shA G ((some (.int r.1), r.2) : Option Value × Mem).1 ((some (.int r.1), r.2) : Option Value × Mem).2) args s 0 0 (AW shA G.2.1)) 7 [(0, .ref 9), (1, .int x1), (2, .int x2), (3, .int x3), (4, .int x4)] [] M) {M : Mem} {x1 : Int32} {x2 : Int32} {x4 : Int32} (h : F3_scanNumber_j53 rec7 M x1 x2 x4 = some r) : XJ shA p l e (rmX D) s m args below meth c 0 0 G 5 (MQ below (QcX shA G ((some (.int r.1), r.2) : Option Value × Mem).1 ((some (.int r.1), r.2) : Option Value × Mem).2) args s 0 0 (AW shA G.2.1)) 53 [(0, .ref 9), (1, .int x1), (2, .int x2), (4, .int x4)] [] M := by
  unfold F3_scanNumber_j53 at h
  refine X_iload F dX3_scanNumber_53 rfl ?_
  refine X_iconst F dX3_scanNumber_55 (v := (1 : Int32)) rfl ?_
  refine X_iadd F dX3_scanNumber_56 ?_
  refine X_istore_n F dX3_scanNumber_57 (by decide) rfl ?_
  refine X_iinc F dX3_scanNumber_58 rfl (v := (1 : Int32)) rfl (by decide) rfl ?_
  refine X_goto (tgt := 7) F dX3_scanNumber_61 (by decide) ?_
  refine X_pick [2, 3, 4, 1, 0] rfl ?_
  exact hrec7 _ _ _ _ _ h
set_option maxRecDepth 20000 in
theorem F3_scanNumber_l7_bok {p : Program} {l : Launch} {e : Env} {s : State} {m : MethodId} {args : Array Value} {below : List Frame} {meth : Method} {c : Code} {G : GG} {D : Nat} {r : Int32 × Mem} {rec7 : Mem → Int32 → Int32 → Int32 → Int32 → Option (Int32 × Mem)} (F : FrP shA G p s m args c RX3 cX3_scanNumber 5) (hr : meth.sig.returnType = (some .int)) (hlk : meth.locks = false) (hD : 2 ≤ D) (hrec7 : ∀ (M : Mem) (x1 : Int32) (x2 : Int32) (x3 : Int32) (x4 : Int32), rec7 M x1 x2 x3 x4 = some r → XJ shA p l e (rmX D) s m args below meth c 0 0 G 5 (MQ below (QcX shA G ((some (.int r.1), r.2) : Option Value × Mem).1 ((some (.int r.1), r.2) : Option Value × Mem).2) args s 0 0 (AW shA G.2.1)) 7 [(0, .ref 9), (1, .int x1), (2, .int x2), (3, .int x3), (4, .int x4)] [] M) {M : Mem} {x1 : Int32} {x2 : Int32} {x3 : Int32} {x4 : Int32} (h : F3_scanNumber_l7_b rec7 M x1 x2 x3 x4 = some r) : XJ shA p l e (rmX D) s m args below meth c 0 0 G 5 (MQ below (QcX shA G ((some (.int r.1), r.2) : Option Value × Mem).1 ((some (.int r.1), r.2) : Option Value × Mem).2) args s 0 0 (AW shA G.2.1)) 7 [(0, .ref 9), (1, .int x1), (2, .int x2), (3, .int x3), (4, .int x4)] [] M := by
  unfold F3_scanNumber_l7_b at h
  refine X_iload F dX3_scanNumber_7 rfl ?_
  refine X_aload_n F dX3_scanNumber_9 rfl ?_
  refine X_geti (v := (M 9 1)) F ffRX3_30 dX3_scanNumber_10 rfl ?_
  refine X_icmp_ge (tgt := 64) F dX3_scanNumber_13 (by decide) (fun q1 => ?_) (fun q1 => ?_)
  · rw [if_pos q1] at h
    refine X_pick [0, 1, 2, 3] rfl ?_
    exact F3_scanNumber_j64_ok F hr hlk hD h
  · rw [if_neg q1] at h
    refine X_aload_n F dX3_scanNumber_16 rfl ?_
    refine X_getr F ffRX3_11 dX3_scanNumber_17 ?_
    refine X_iload F dX3_scanNumber_20 rfl ?_
    obtain ⟨q2, h⟩ := ifS h
    refine X_iald (j := (Int32.toNatClampNeg x4)) (v := (M 10 (Int32.toNatClampNeg x4))) F rfl (inbV q2) rfl rfl dX3_scanNumber_22 ?_
    obtain ⟨r3, h4, h⟩ := bndS h
    refine X_callS (As := [.int (M 10 (Int32.toNatClampNeg x4))]) (rest := []) F fsRX3_75 feX3_isDigit ftX3_isDigit (F3_isDigit_met (D := D - 1) F.2.2.2.2.2.2.2.1 (by omega) h4) rfl rfl (Nat.le_of_ble_eq_true rfl) (rm_ok (by omega) (by decide)) dX3_scanNumber_23 ?_
    show XJ shA p l e (rmX D) s m args below meth c 0 0 G 5 (MQ below (QcX shA G ((some (.int r.1), r.2) : Option Value × Mem).1 ((some (.int r.1), r.2) : Option Value × Mem).2) args s 0 0 (AW shA G.2.1)) 26 [(0, .ref 9), (1, .int x1), (2, .int x2), (3, .int x3), (4, .int x4)] [.int r3.1] r3.2
    refine X_if_eq (tgt := 64) F dX3_scanNumber_26 (by decide) (fun q5 => ?_) (fun q5 => ?_)
    · rw [if_pos q5] at h
      refine X_pick [0, 1, 2, 3] rfl ?_
      exact F3_scanNumber_j64_ok F hr hlk hD h
    · rw [if_neg q5] at h
      refine X_iload F dX3_scanNumber_29 rfl ?_
      refine X_iload_n F dX3_scanNumber_31 rfl ?_
      refine X_iconst F dX3_scanNumber_32 (v := (4 : Int32)) rfl ?_
      refine X_iadd F dX3_scanNumber_33 ?_
      refine X_icmp_ge (tgt := 53) F dX3_scanNumber_34 (by decide) (fun q6 => ?_) (fun q6 => ?_)
      · rw [if_pos q6] at h
        refine X_pick [0, 1, 2, 4] rfl ?_
        exact F3_scanNumber_j53_ok F hr hlk hD hrec7 h
      · rw [if_neg q6] at h
        refine X_iload_n F dX3_scanNumber_37 rfl ?_
        refine X_bipush F dX3_scanNumber_38 (v := (10 : Int32)) rfl ?_
        refine X_imul F dX3_scanNumber_40 ?_
        refine X_aload_n F dX3_scanNumber_41 rfl ?_
        refine X_getr F ffRX3_11 dX3_scanNumber_42 ?_
        refine X_iload F dX3_scanNumber_45 rfl ?_
        refine X_iald (j := (Int32.toNatClampNeg x4)) (v := (r3.2 10 (Int32.toNatClampNeg x4))) F rfl (inbV q2) rfl rfl dX3_scanNumber_47 ?_
        refine X_iadd F dX3_scanNumber_48 ?_
        refine X_bipush F dX3_scanNumber_49 (v := (48 : Int32)) rfl ?_
        refine X_isub F dX3_scanNumber_51 ?_
        refine X_istore_n F dX3_scanNumber_52 (by decide) rfl ?_
        refine X_pick [1, 2, 0, 4] rfl ?_
        exact F3_scanNumber_j53_ok F hr hlk hD hrec7 h
set_option maxRecDepth 20000 in
theorem F3_scanNumber_l7_ok {p : Program} {l : Launch} {e : Env} {s : State} {m : MethodId} {args : Array Value} {below : List Frame} {meth : Method} {c : Code} {G : GG} {D : Nat} {r : Int32 × Mem} (F : FrP shA G p s m args c RX3 cX3_scanNumber 5) (hr : meth.sig.returnType = (some .int)) (hlk : meth.locks = false) (hD : 2 ≤ D) : ∀ (fu : Nat) (M : Mem) (x1 : Int32) (x2 : Int32) (x3 : Int32) (x4 : Int32), F3_scanNumber_l7 fu M x1 x2 x3 x4 = some r → XJ shA p l e (rmX D) s m args below meth c 0 0 G 5 (MQ below (QcX shA G ((some (.int r.1), r.2) : Option Value × Mem).1 ((some (.int r.1), r.2) : Option Value × Mem).2) args s 0 0 (AW shA G.2.1)) 7 [(0, .ref 9), (1, .int x1), (2, .int x2), (3, .int x3), (4, .int x4)] [] M := by
  intro fu
  induction fu with
  | zero => intro M x1 x2 x3 x4 h; cases h
  | succ fu ih => intro M x1 x2 x3 x4 h; exact F3_scanNumber_l7_bok F hr hlk hD (fun M x1 x2 x3 x4 => ih M x1 x2 x3 x4) h
set_option maxRecDepth 20000 in
theorem F3_scanNumber_ok {p : Program} {l : Launch} {e : Env} {s : State} {m : MethodId} {args : Array Value} {below : List Frame} {meth : Method} {c : Code} {G : GG} {D : Nat} {r : Int32 × Mem} (F : FrP shA G p s m args c RX3 cX3_scanNumber 5) (hr : meth.sig.returnType = (some .int)) (hlk : meth.locks = false) (hD : 2 ≤ D) {M : Mem} {a1 : Int32} (h : F3_scanNumber M a1 = some r) : XJ shA p l e (rmX D) s m args below meth c 0 0 G 5 (MQ below (QcX shA G ((some (.int r.1), r.2) : Option Value × Mem).1 ((some (.int r.1), r.2) : Option Value × Mem).2) args s 0 0 (AW shA G.2.1)) 0 [(0, .ref 9), (1, .int a1)] [] M := by
  unfold F3_scanNumber at h
  refine X_iconst F dX3_scanNumber_0 (v := (0 : Int32)) rfl ?_
  refine X_istore_n F dX3_scanNumber_1 (by decide) rfl ?_
  refine X_iload_n F dX3_scanNumber_2 rfl ?_
  refine X_istore_n F dX3_scanNumber_3 (by decide) rfl ?_
  refine X_iload_n F dX3_scanNumber_4 rfl ?_
  refine X_istore F dX3_scanNumber_5 (by decide) rfl ?_
  refine X_pick [3, 4, 2, 1, 0] rfl ?_
  exact F3_scanNumber_l7_ok F hr hlk hD FUEL _ _ _ _ _ h
set_option maxRecDepth 20000 in
theorem F3_scanNumber_met {l : Launch} {G : GG} {D : Nat} {r : Int32 × Mem} {M : Mem} {a1 : Int32} (hI : Inj shA G.2.1) (hD : 2 ≤ D) (h : F3_scanNumber M a1 = some r) : MetX shA l G yX3_scanNumber cX3_scanNumber 5 (some .int) D [.ref 9, .int a1] M (some (.int r.1), r.2) :=
  X_met hI (by decide +kernel) (Nat.le_of_ble_eq_true rfl) (fun p e s m args below meth c F hr hlk => F3_scanNumber_ok F hr hlk hD h)
-- KeepOurPlace$Reader.scanToken
def F3_scanToken_j43 (M : Mem) (x1 : Int32) (y0 : Int32) : Option (Int32 × Mem) :=
    Option.bind (F3_note M y0 x1 (0 : Int32)) fun r14 =>
    some ((x1 + (1 : Int32)), r14.2)
def F3_scanToken (M : Mem) (a1 : Int32) (a2 : Int32) : Option (Int32 × Mem) :=
    Option.bind (F3_isLetter M a2) fun r1 =>
    if r1.1 = 0 then
      Option.bind (F3_isDigit r1.2 a2) fun r4 =>
      if r4.1 = 0 then
        Option.bind (FJ0_indexOf_0f7a4 r4.2 2 (jchar a2)) fun r7 =>
        if r7.1 < 0 then
          F3_scanToken_j43 r7.2 a1 (-2 : Int32)
        else
          F3_scanToken_j43 r7.2 a1 a2
      else
        Option.bind (F3_scanNumber r4.2 a1) fun r10 =>
        some (r10.1, r10.2)
    else
      Option.bind (F3_scanWord r1.2 a1) fun r12 =>
      some (r12.1, r12.2)
set_option maxRecDepth 20000 in
theorem F3_scanToken_j43_ok {p : Program} {l : Launch} {e : Env} {s : State} {m : MethodId} {args : Array Value} {below : List Frame} {meth : Method} {c : Code} {G : GG} {D : Nat} {r : Int32 × Mem} (F : FrP shA G p s m args c RX3 cX3_scanToken 3) (hr : meth.sig.returnType = (some .int)) (hlk : meth.locks = false) (hD : 8 ≤ D) {M : Mem} {x1 : Int32} {y0 : Int32} (h : F3_scanToken_j43 M x1 y0 = some r) : XJ shA p l e (rmX D) s m args below meth c 0 0 G 3 (MQ below (QcX shA G ((some (.int r.1), r.2) : Option Value × Mem).1 ((some (.int r.1), r.2) : Option Value × Mem).2) args s 0 0 (AW shA G.2.1)) 43 [(1, .int x1)] [.int y0, .ref 9] M := by
  unfold F3_scanToken_j43 at h
  refine X_iload_n F dX3_scanToken_43 rfl ?_
  refine X_iconst F dX3_scanToken_44 (v := (0 : Int32)) rfl ?_
  obtain ⟨r14, h15, h⟩ := bndS h
  refine X_callV (ci := 9) (As := [.int y0, .int x1, .int (0 : Int32)]) (rest := []) F fkRX3_63 feX3_note fvX3_note ⟨_, _, _, rfl, rfl, rfl⟩ (F3_note_met (D := D - 1) F.2.2.2.2.2.2.2.1 (by omega) h15) rfl rfl (Nat.le_of_ble_eq_true rfl) (rm_ok (by omega) (by decide)) dX3_scanToken_45 ?_
  show XJ shA p l e (rmX D) s m args below meth c 0 0 G 3 (MQ below (QcX shA G ((some (.int r.1), r.2) : Option Value × Mem).1 ((some (.int r.1), r.2) : Option Value × Mem).2) args s 0 0 (AW shA G.2.1)) 48 [(1, .int x1)] [] r14.2
  refine X_iload_n F dX3_scanToken_48 rfl ?_
  refine X_iconst F dX3_scanToken_49 (v := (1 : Int32)) rfl ?_
  refine X_iadd F dX3_scanToken_50 ?_
  exact X_iret F hr hlk (retI h) dX3_scanToken_51
set_option maxRecDepth 20000 in
theorem F3_scanToken_ok {p : Program} {l : Launch} {e : Env} {s : State} {m : MethodId} {args : Array Value} {below : List Frame} {meth : Method} {c : Code} {G : GG} {D : Nat} {r : Int32 × Mem} (F : FrP shA G p s m args c RX3 cX3_scanToken 3) (hr : meth.sig.returnType = (some .int)) (hlk : meth.locks = false) (hD : 8 ≤ D) {M : Mem} {a1 : Int32} {a2 : Int32} (h : F3_scanToken M a1 a2 = some r) : XJ shA p l e (rmX D) s m args below meth c 0 0 G 3 (MQ below (QcX shA G ((some (.int r.1), r.2) : Option Value × Mem).1 ((some (.int r.1), r.2) : Option Value × Mem).2) args s 0 0 (AW shA G.2.1)) 0 [(0, .ref 9), (1, .int a1), (2, .int a2)] [] M := by
  unfold F3_scanToken at h
  refine X_iload_n F dX3_scanToken_0 rfl ?_
  obtain ⟨r1, h2, h⟩ := bndS h
  refine X_callS (As := [.int a2]) (rest := []) F fsRX3_67 feX3_isLetter ftX3_isLetter (F3_isLetter_met (D := D - 1) F.2.2.2.2.2.2.2.1 (by omega) h2) rfl rfl (Nat.le_of_ble_eq_true rfl) (rm_ok (by omega) (by decide)) dX3_scanToken_1 ?_
  show XJ shA p l e (rmX D) s m args below meth c 0 0 G 3 (MQ below (QcX shA G ((some (.int r.1), r.2) : Option Value × Mem).1 ((some (.int r.1), r.2) : Option Value × Mem).2) args s 0 0 (AW shA G.2.1)) 4 [(0, .ref 9), (1, .int a1), (2, .int a2)] [.int r1.1] r1.2
  refine X_if_eq (tgt := 13) F dX3_scanToken_4 (by decide) (fun q3 => ?_) (fun q3 => ?_)
  · rw [if_pos q3] at h
    refine X_iload_n F dX3_scanToken_13 rfl ?_
    obtain ⟨r4, h5, h⟩ := bndS h
    refine X_callS (As := [.int a2]) (rest := []) F fsRX3_75 feX3_isDigit ftX3_isDigit (F3_isDigit_met (D := D - 1) F.2.2.2.2.2.2.2.1 (by omega) h5) rfl rfl (Nat.le_of_ble_eq_true rfl) (rm_ok (by omega) (by decide)) dX3_scanToken_14 ?_
    show XJ shA p l e (rmX D) s m args below meth c 0 0 G 3 (MQ below (QcX shA G ((some (.int r.1), r.2) : Option Value × Mem).1 ((some (.int r.1), r.2) : Option Value × Mem).2) args s 0 0 (AW shA G.2.1)) 17 [(0, .ref 9), (1, .int a1), (2, .int a2)] [.int r4.1] r4.2
    refine X_if_eq (tgt := 26) F dX3_scanToken_17 (by decide) (fun q6 => ?_) (fun q6 => ?_)
    · rw [if_pos q6] at h
      refine X_aload_n F dX3_scanToken_26 rfl ?_
      refine X_ldcS2 F dX3_scanToken_27 ?_
      refine X_iload_n F dX3_scanToken_29 rfl ?_
      refine X_i2c F dX3_scanToken_30 ?_
      obtain ⟨r7, h8, h⟩ := bndS h
      refine X_callT (si := 2) (As := [.int (jchar a2)]) (rest := [.ref 9]) F fkRX3_83 feJ0_indexOf_0f7a4 fvJ0_indexOf_0f7a4 (by decide) rfl (FJ0_indexOf_0f7a4_met (D := D - 1) F.2.2.2.2.2.2.2.1 (by omega) (by decide) h8) rfl rfl (Nat.le_of_ble_eq_true rfl) (rm_ok (by omega) (by decide)) dX3_scanToken_31 ?_
      show XJ shA p l e (rmX D) s m args below meth c 0 0 G 3 (MQ below (QcX shA G ((some (.int r.1), r.2) : Option Value × Mem).1 ((some (.int r.1), r.2) : Option Value × Mem).2) args s 0 0 (AW shA G.2.1)) 34 [(0, .ref 9), (1, .int a1), (2, .int a2)] [.int r7.1, .ref 9] r7.2
      refine X_if_lt (tgt := 41) F dX3_scanToken_34 (by decide) (fun q9 => ?_) (fun q9 => ?_)
      · rw [if_pos q9] at h
        refine X_bipush F dX3_scanToken_41 (v := (-2 : Int32)) rfl ?_
        refine X_pick [1] rfl ?_
        exact F3_scanToken_j43_ok F hr hlk hD h
      · rw [if_neg q9] at h
        refine X_iload_n F dX3_scanToken_37 rfl ?_
        refine X_goto (tgt := 43) F dX3_scanToken_38 (by decide) ?_
        refine X_pick [1] rfl ?_
        exact F3_scanToken_j43_ok F hr hlk hD h
    · rw [if_neg q6] at h
      refine X_aload_n F dX3_scanToken_20 rfl ?_
      refine X_iload_n F dX3_scanToken_21 rfl ?_
      obtain ⟨r10, h11, h⟩ := bndS h
      refine X_callV (ci := 9) (As := [.int a1]) (rest := []) F fkRX3_78 feX3_scanNumber fvX3_scanNumber ⟨_, _, _, rfl, rfl, rfl⟩ (F3_scanNumber_met (D := D - 1) F.2.2.2.2.2.2.2.1 (by omega) h11) rfl rfl (Nat.le_of_ble_eq_true rfl) (rm_ok (by omega) (by decide)) dX3_scanToken_22 ?_
      show XJ shA p l e (rmX D) s m args below meth c 0 0 G 3 (MQ below (QcX shA G ((some (.int r.1), r.2) : Option Value × Mem).1 ((some (.int r.1), r.2) : Option Value × Mem).2) args s 0 0 (AW shA G.2.1)) 25 [(0, .ref 9), (1, .int a1), (2, .int a2)] [.int r10.1] r10.2
      exact X_iret F hr hlk (retI h) dX3_scanToken_25
  · rw [if_neg q3] at h
    refine X_aload_n F dX3_scanToken_7 rfl ?_
    refine X_iload_n F dX3_scanToken_8 rfl ?_
    obtain ⟨r12, h13, h⟩ := bndS h
    refine X_callV (ci := 9) (As := [.int a1]) (rest := []) F fkRX3_71 feX3_scanWord fvX3_scanWord ⟨_, _, _, rfl, rfl, rfl⟩ (F3_scanWord_met (D := D - 1) F.2.2.2.2.2.2.2.1 (by omega) h13) rfl rfl (Nat.le_of_ble_eq_true rfl) (rm_ok (by omega) (by decide)) dX3_scanToken_9 ?_
    show XJ shA p l e (rmX D) s m args below meth c 0 0 G 3 (MQ below (QcX shA G ((some (.int r.1), r.2) : Option Value × Mem).1 ((some (.int r.1), r.2) : Option Value × Mem).2) args s 0 0 (AW shA G.2.1)) 12 [(0, .ref 9), (1, .int a1), (2, .int a2)] [.int r12.1] r12.2
    exact X_iret F hr hlk (retI h) dX3_scanToken_12
set_option maxRecDepth 20000 in
theorem F3_scanToken_met {l : Launch} {G : GG} {D : Nat} {r : Int32 × Mem} {M : Mem} {a1 : Int32} {a2 : Int32} (hI : Inj shA G.2.1) (hD : 8 ≤ D) (h : F3_scanToken M a1 a2 = some r) : MetX shA l G yX3_scanToken cX3_scanToken 3 (some .int) D [.ref 9, .int a1, .int a2] M (some (.int r.1), r.2) :=
  X_met hI (by decide +kernel) (Nat.le_of_ble_eq_true rfl) (fun p e s m args below meth c F hr hlk => F3_scanToken_ok F hr hlk hD h)
-- KeepOurPlace$Reader.scan
def F3_scan_j86 (M : Mem) : Option (Int32 × Mem) :=
    Option.bind (F3_note M (-1 : Int32) (M 9 1) (0 : Int32)) fun r11 =>
    some ((0 : Int32), r11.2)
def F3_scan_j80 (rec9 : Mem → Int32 → Int32 → Option (Int32 × Mem)) (M : Mem) (x1 : Int32) (x2 : Int32) : Option (Int32 × Mem) :=
    rec9 M x1 (x2 + (1 : Int32))
def F3_scan_j43 (rec9 : Mem → Int32 → Int32 → Option (Int32 × Mem)) (M : Mem) (x1 : Int32) (x2 : Int32) : Option (Int32 × Mem) :=
    F3_scan_j80 rec9 M (x1 + (1 : Int32)) x2
def F3_scan_l9_b (rec9 : Mem → Int32 → Int32 → Option (Int32 × Mem)) (M : Mem) (x1 : Int32) (x2 : Int32) : Option (Int32 × Mem) :=
    if (160 : Int32) ≤ x2 then
      F3_scan_j86 M
    else
      if (M 9 1) ≤ x1 then
        F3_scan_j86 M
      else
        if inb x1 160 = true then
        if (M 10 (Int32.toNatClampNeg x1)) = (32 : Int32) then
          F3_scan_j43 rec9 M x1 x2
        else
          if ¬ (M 10 (Int32.toNatClampNeg x1)) = (10 : Int32) then
            Option.bind (F3_scanToken M x1 (M 10 (Int32.toNatClampNeg x1))) fun r6 =>
            if (r6.2 9 5) ≤ 0 then
              F3_scan_j80 rec9 r6.2 r6.1 x2
            else
              if inb ((r6.2 9 5) - (1 : Int32)) 161 = true then
              if ¬ (r6.2 11 (Int32.toNatClampNeg ((r6.2 9 5) - (1 : Int32)))) = (-2 : Int32) then
                F3_scan_j80 rec9 r6.2 r6.1 x2
              else
                some ((0 : Int32), r6.2)
              else none
          else
            F3_scan_j43 rec9 M x1 x2
        else none
def F3_scan_l9 : Nat → Mem → Int32 → Int32 → Option (Int32 × Mem)
  | 0, _, _, _ => none
  | fu + 1, M, x1, x2 => F3_scan_l9_b (F3_scan_l9 fu) M x1 x2
def F3_scan (M : Mem) : Option (Int32 × Mem) :=
    F3_scan_l9 FUEL (up2 M 9 5 (0 : Int32)) (0 : Int32) (0 : Int32)
set_option maxRecDepth 20000 in
theorem F3_scan_j86_ok {p : Program} {l : Launch} {e : Env} {s : State} {m : MethodId} {args : Array Value} {below : List Frame} {meth : Method} {c : Code} {G : GG} {D : Nat} {r : Int32 × Mem} (F : FrP shA G p s m args c RX3 cX3_scan 4) (hr : meth.sig.returnType = none) (hlk : meth.locks = false) (hD : 9 ≤ D) {M : Mem} (h : F3_scan_j86 M = some r) : XJ shA p l e (rmX D) s m args below meth c 0 0 G 4 (MQ below (QcX shA G ((none, r.2) : Option Value × Mem).1 ((none, r.2) : Option Value × Mem).2) args s 0 0 (AW shA G.2.1)) 86 [(0, .ref 9)] [] M := by
  unfold F3_scan_j86 at h
  refine X_aload_n F dX3_scan_86 rfl ?_
  refine X_iconst F dX3_scan_87 (v := (-1 : Int32)) rfl ?_
  refine X_aload_n F dX3_scan_88 rfl ?_
  refine X_geti (v := (M 9 1)) F ffRX3_30 dX3_scan_89 rfl ?_
  refine X_iconst F dX3_scan_92 (v := (0 : Int32)) rfl ?_
  obtain ⟨r11, h12, h⟩ := bndS h
  refine X_callV (ci := 9) (As := [.int (-1 : Int32), .int (M 9 1), .int (0 : Int32)]) (rest := []) F fkRX3_63 feX3_note fvX3_note ⟨_, _, _, rfl, rfl, rfl⟩ (F3_note_met (D := D - 1) F.2.2.2.2.2.2.2.1 (by omega) h12) rfl rfl (Nat.le_of_ble_eq_true rfl) (rm_ok (by omega) (by decide)) dX3_scan_93 ?_
  show XJ shA p l e (rmX D) s m args below meth c 0 0 G 4 (MQ below (QcX shA G ((none, r.2) : Option Value × Mem).1 ((none, r.2) : Option Value × Mem).2) args s 0 0 (AW shA G.2.1)) 96 [(0, .ref 9)] [] r11.2
  exact X_vret F hr hlk (retV h) dX3_scan_96
set_option maxRecDepth 20000 in
theorem F3_scan_j80_ok {p : Program} {l : Launch} {e : Env} {s : State} {m : MethodId} {args : Array Value} {below : List Frame} {meth : Method} {c : Code} {G : GG} {D : Nat} {r : Int32 × Mem} {rec9 : Mem → Int32 → Int32 → Option (Int32 × Mem)} (F : FrP shA G p s m args c RX3 cX3_scan 4) (hr : meth.sig.returnType = none) (hlk : meth.locks = false) (hD : 9 ≤ D) (hrec9 : ∀ (M : Mem) (x1 : Int32) (x2 : Int32), rec9 M x1 x2 = some r → XJ shA p l e (rmX D) s m args below meth c 0 0 G 4 (MQ below (QcX shA G ((none, r.2) : Option Value × Mem).1 ((none, r.2) : Option Value × Mem).2) args s 0 0 (AW shA G.2.1)) 9 [(0, .ref 9), (1, .int x1), (2, .int x2)] [] M) {M : Mem} {x1 : Int32} {x2 : Int32} (h : F3_scan_j80 rec9 M x1 x2 = some r) : XJ shA p l e (rmX D) s m args below meth c 0 0 G 4 (MQ below (QcX shA G ((none, r.2) : Option Value × Mem).1 ((none, r.2) : Option Value × Mem).2) args s 0 0 (AW shA G.2.1)) 80 [(0, .ref 9), (1, .int x1), (2, .int x2)] [] M := by
  unfold F3_scan_j80 at h
  refine X_iinc F dX3_scan_80 rfl (v := (1 : Int32)) rfl (by decide) rfl ?_
  refine X_goto (tgt := 9) F dX3_scan_83 (by decide) ?_
  refine X_pick [1, 2, 0] rfl ?_
  exact hrec9 _ _ _ h
set_option maxRecDepth 20000 in
theorem F3_scan_j43_ok {p : Program} {l : Launch} {e : Env} {s : State} {m : MethodId} {args : Array Value} {below : List Frame} {meth : Method} {c : Code} {G : GG} {D : Nat} {r : Int32 × Mem} {rec9 : Mem → Int32 → Int32 → Option (Int32 × Mem)} (F : FrP shA G p s m args c RX3 cX3_scan 4) (hr : meth.sig.returnType = none) (hlk : meth.locks = false) (hD : 9 ≤ D) (hrec9 : ∀ (M : Mem) (x1 : Int32) (x2 : Int32), rec9 M x1 x2 = some r → XJ shA p l e (rmX D) s m args below meth c 0 0 G 4 (MQ below (QcX shA G ((none, r.2) : Option Value × Mem).1 ((none, r.2) : Option Value × Mem).2) args s 0 0 (AW shA G.2.1)) 9 [(0, .ref 9), (1, .int x1), (2, .int x2)] [] M) {M : Mem} {x1 : Int32} {x2 : Int32} (h : F3_scan_j43 rec9 M x1 x2 = some r) : XJ shA p l e (rmX D) s m args below meth c 0 0 G 4 (MQ below (QcX shA G ((none, r.2) : Option Value × Mem).1 ((none, r.2) : Option Value × Mem).2) args s 0 0 (AW shA G.2.1)) 43 [(0, .ref 9), (1, .int x1), (2, .int x2)] [] M := by
  unfold F3_scan_j43 at h
  refine X_iinc F dX3_scan_43 rfl (v := (1 : Int32)) rfl (by decide) rfl ?_
  refine X_goto (tgt := 80) F dX3_scan_46 (by decide) ?_
  refine X_pick [1, 0, 2] rfl ?_
  exact F3_scan_j80_ok F hr hlk hD hrec9 h
set_option maxRecDepth 20000 in
theorem F3_scan_l9_bok {p : Program} {l : Launch} {e : Env} {s : State} {m : MethodId} {args : Array Value} {below : List Frame} {meth : Method} {c : Code} {G : GG} {D : Nat} {r : Int32 × Mem} {rec9 : Mem → Int32 → Int32 → Option (Int32 × Mem)} (F : FrP shA G p s m args c RX3 cX3_scan 4) (hr : meth.sig.returnType = none) (hlk : meth.locks = false) (hD : 9 ≤ D) (hrec9 : ∀ (M : Mem) (x1 : Int32) (x2 : Int32), rec9 M x1 x2 = some r → XJ shA p l e (rmX D) s m args below meth c 0 0 G 4 (MQ below (QcX shA G ((none, r.2) : Option Value × Mem).1 ((none, r.2) : Option Value × Mem).2) args s 0 0 (AW shA G.2.1)) 9 [(0, .ref 9), (1, .int x1), (2, .int x2)] [] M) {M : Mem} {x1 : Int32} {x2 : Int32} (h : F3_scan_l9_b rec9 M x1 x2 = some r) : XJ shA p l e (rmX D) s m args below meth c 0 0 G 4 (MQ below (QcX shA G ((none, r.2) : Option Value × Mem).1 ((none, r.2) : Option Value × Mem).2) args s 0 0 (AW shA G.2.1)) 9 [(0, .ref 9), (1, .int x1), (2, .int x2)] [] M := by
  unfold F3_scan_l9_b at h
  refine X_iload_n F dX3_scan_9 rfl ?_
  refine X_sipush F dX3_scan_10 (v := (160 : Int32)) rfl ?_
  refine X_icmp_ge (tgt := 86) F dX3_scan_13 (by decide) (fun q1 => ?_) (fun q1 => ?_)
  · rw [if_pos q1] at h
    refine X_pick [0] rfl ?_
    exact F3_scan_j86_ok F hr hlk hD h
  · rw [if_neg q1] at h
    refine X_iload_n F dX3_scan_16 rfl ?_
    refine X_aload_n F dX3_scan_17 rfl ?_
    refine X_geti (v := (M 9 1)) F ffRX3_30 dX3_scan_18 rfl ?_
    refine X_icmp_ge (tgt := 86) F dX3_scan_21 (by decide) (fun q2 => ?_) (fun q2 => ?_)
    · rw [if_pos q2] at h
      refine X_pick [0] rfl ?_
      exact F3_scan_j86_ok F hr hlk hD h
    · rw [if_neg q2] at h
      refine X_aload_n F dX3_scan_24 rfl ?_
      refine X_getr F ffRX3_11 dX3_scan_25 ?_
      refine X_iload_n F dX3_scan_28 rfl ?_
      obtain ⟨q3, h⟩ := ifS h
      refine X_iald (j := (Int32.toNatClampNeg x1)) (v := (M 10 (Int32.toNatClampNeg x1))) F rfl (inbV q3) rfl rfl dX3_scan_29 ?_
      refine X_istore_n F dX3_scan_30 (by decide) rfl ?_
      refine X_iload_n F dX3_scan_31 rfl ?_
      refine X_bipush F dX3_scan_32 (v := (32 : Int32)) rfl ?_
      refine X_icmp_eq (tgt := 43) F dX3_scan_34 (by decide) (fun q4 => ?_) (fun q4 => ?_)
      · rw [if_pos q4] at h
        refine X_pick [1, 2, 3] rfl ?_
        exact F3_scan_j43_ok F hr hlk hD hrec9 h
      · rw [if_neg q4] at h
        refine X_iload_n F dX3_scan_37 rfl ?_
        refine X_bipush F dX3_scan_38 (v := (10 : Int32)) rfl ?_
        refine X_icmp_ne (tgt := 49) F dX3_scan_40 (by decide) (fun q5 => ?_) (fun q5 => ?_)
        · rw [if_pos q5] at h
          refine X_aload_n F dX3_scan_49 rfl ?_
          refine X_iload_n F dX3_scan_50 rfl ?_
          refine X_iload_n F dX3_scan_51 rfl ?_
          obtain ⟨r6, h7, h⟩ := bndS h
          refine X_callV (ci := 9) (As := [.int x1, .int (M 10 (Int32.toNatClampNeg x1))]) (rest := []) F fkRX3_59 feX3_scanToken fvX3_scanToken ⟨_, _, _, rfl, rfl, rfl⟩ (F3_scanToken_met (D := D - 1) F.2.2.2.2.2.2.2.1 (by omega) h7) rfl rfl (Nat.le_of_ble_eq_true rfl) (rm_ok (by omega) (by decide)) dX3_scan_52 ?_
          show XJ shA p l e (rmX D) s m args below meth c 0 0 G 4 (MQ below (QcX shA G ((none, r.2) : Option Value × Mem).1 ((none, r.2) : Option Value × Mem).2) args s 0 0 (AW shA G.2.1)) 55 [(3, .int (M 10 (Int32.toNatClampNeg x1))), (0, .ref 9), (1, .int x1), (2, .int x2)] [.int r6.1] r6.2
          refine X_istore_n F dX3_scan_55 (by decide) rfl ?_
          refine X_aload_n F dX3_scan_56 rfl ?_
          refine X_geti (v := (r6.2 9 5)) F ffRX3_56 dX3_scan_57 rfl ?_
          refine X_if_le (tgt := 80) F dX3_scan_60 (by decide) (fun q8 => ?_) (fun q8 => ?_)
          · rw [if_pos q8] at h
            refine X_pick [2, 0, 3] rfl ?_
            exact F3_scan_j80_ok F hr hlk hD hrec9 h
          · rw [if_neg q8] at h
            refine X_aload_n F dX3_scan_63 rfl ?_
            refine X_getr F ffRX3_15 dX3_scan_64 ?_
            refine X_aload_n F dX3_scan_67 rfl ?_
            refine X_geti (v := (r6.2 9 5)) F ffRX3_56 dX3_scan_68 rfl ?_
            refine X_iconst F dX3_scan_71 (v := (1 : Int32)) rfl ?_
            refine X_isub F dX3_scan_72 ?_
            obtain ⟨q9, h⟩ := ifS h
            refine X_iald (j := (Int32.toNatClampNeg ((r6.2 9 5) - (1 : Int32)))) (v := (r6.2 11 (Int32.toNatClampNeg ((r6.2 9 5) - (1 : Int32))))) F rfl (inbV q9) rfl rfl dX3_scan_73 ?_
            refine X_bipush F dX3_scan_74 (v := (-2 : Int32)) rfl ?_
            refine X_icmp_ne (tgt := 80) F dX3_scan_76 (by decide) (fun q10 => ?_) (fun q10 => ?_)
            · rw [if_pos q10] at h
              refine X_pick [2, 0, 3] rfl ?_
              exact F3_scan_j80_ok F hr hlk hD hrec9 h
            · rw [if_neg (fun z => z q10)] at h
              exact X_vret F hr hlk (retV h) dX3_scan_79
        · rw [if_neg (fun z => z q5)] at h
          refine X_pick [1, 2, 3] rfl ?_
          exact F3_scan_j43_ok F hr hlk hD hrec9 h
set_option maxRecDepth 20000 in
theorem F3_scan_l9_ok {p : Program} {l : Launch} {e : Env} {s : State} {m : MethodId} {args : Array Value} {below : List Frame} {meth : Method} {c : Code} {G : GG} {D : Nat} {r : Int32 × Mem} (F : FrP shA G p s m args c RX3 cX3_scan 4) (hr : meth.sig.returnType = none) (hlk : meth.locks = false) (hD : 9 ≤ D) : ∀ (fu : Nat) (M : Mem) (x1 : Int32) (x2 : Int32), F3_scan_l9 fu M x1 x2 = some r → XJ shA p l e (rmX D) s m args below meth c 0 0 G 4 (MQ below (QcX shA G ((none, r.2) : Option Value × Mem).1 ((none, r.2) : Option Value × Mem).2) args s 0 0 (AW shA G.2.1)) 9 [(0, .ref 9), (1, .int x1), (2, .int x2)] [] M := by
  intro fu
  induction fu with
  | zero => intro M x1 x2 h; cases h
  | succ fu ih => intro M x1 x2 h; exact F3_scan_l9_bok F hr hlk hD (fun M x1 x2 => ih M x1 x2) h
set_option maxRecDepth 20000 in
theorem F3_scan_ok {p : Program} {l : Launch} {e : Env} {s : State} {m : MethodId} {args : Array Value} {below : List Frame} {meth : Method} {c : Code} {G : GG} {D : Nat} {r : Int32 × Mem} (F : FrP shA G p s m args c RX3 cX3_scan 4) (hr : meth.sig.returnType = none) (hlk : meth.locks = false) (hD : 9 ≤ D) {M : Mem} (h : F3_scan M = some r) : XJ shA p l e (rmX D) s m args below meth c 0 0 G 4 (MQ below (QcX shA G ((none, r.2) : Option Value × Mem).1 ((none, r.2) : Option Value × Mem).2) args s 0 0 (AW shA G.2.1)) 0 [(0, .ref 9)] [] M := by
  unfold F3_scan at h
  refine X_aload_n F dX3_scan_0 rfl ?_
  refine X_iconst F dX3_scan_1 (v := (0 : Int32)) rfl ?_
  refine X_puti F ffRX3_56 fw3_5 (by decide) dX3_scan_2 ?_
  refine X_iconst F dX3_scan_5 (v := (0 : Int32)) rfl ?_
  refine X_istore_n F dX3_scan_6 (by decide) rfl ?_
  refine X_iconst F dX3_scan_7 (v := (0 : Int32)) rfl ?_
  refine X_istore_n F dX3_scan_8 (by decide) rfl ?_
  refine X_pick [2, 1, 0] rfl ?_
  exact F3_scan_l9_ok F hr hlk hD FUEL _ _ _ h
set_option maxRecDepth 20000 in
theorem F3_scan_met {l : Launch} {G : GG} {D : Nat} {r : Int32 × Mem} {M : Mem} (hI : Inj shA G.2.1) (hD : 9 ≤ D) (h : F3_scan M = some r) : MetX shA l G yX3_scan cX3_scan 4 none D [.ref 9] M (none, r.2) :=
  X_met hI (by decide +kernel) (Nat.le_of_ble_eq_true rfl) (fun p e s m args below meth c F hr hlk => F3_scan_ok F hr hlk hD h)
-- KeepOurPlace$Reader.advance
def F3_advance (M : Mem) : Option (Int32 × Mem) :=
    if ¬ (M 9 8) = (-1 : Int32) then
      some ((0 : Int32), M)
    else
      if ((M 9 6) + (1 : Int32)) < (M 9 5) then
        if inb ((M 9 6) + (1 : Int32)) 161 = true then
        some ((0 : Int32), (up2 (up2 M 9 6 ((M 9 6) + (1 : Int32))) 9 7 (M 11 (Int32.toNatClampNeg ((M 9 6) + (1 : Int32))))))
        else none
      else
        some ((0 : Int32), M)
set_option maxRecDepth 20000 in
theorem F3_advance_ok {p : Program} {l : Launch} {e : Env} {s : State} {m : MethodId} {args : Array Value} {below : List Frame} {meth : Method} {c : Code} {G : GG} {D : Nat} {r : Int32 × Mem} (F : FrP shA G p s m args c RX3 cX3_advance 1) (hr : meth.sig.returnType = none) (hlk : meth.locks = false) (hD : 1 ≤ D) {M : Mem} (h : F3_advance M = some r) : XJ shA p l e (rmX D) s m args below meth c 0 0 G 1 (MQ below (QcX shA G ((none, r.2) : Option Value × Mem).1 ((none, r.2) : Option Value × Mem).2) args s 0 0 (AW shA G.2.1)) 0 [(0, .ref 9)] [] M := by
  unfold F3_advance at h
  refine X_aload_n F dX3_advance_0 rfl ?_
  refine X_geti (v := (M 9 8)) F ffRX3_43 dX3_advance_1 rfl ?_
  refine X_iconst F dX3_advance_4 (v := (-1 : Int32)) rfl ?_
  refine X_icmp_ne (tgt := 21) F dX3_advance_5 (by decide) (fun q1 => ?_) (fun q1 => ?_)
  · rw [if_pos q1] at h
    exact X_vret F hr hlk (retV h) dX3_advance_21
  · rw [if_neg (fun z => z q1)] at h
    refine X_aload_n F dX3_advance_8 rfl ?_
    refine X_geti (v := (M 9 6)) F ffRX3_37 dX3_advance_9 rfl ?_
    refine X_iconst F dX3_advance_12 (v := (1 : Int32)) rfl ?_
    refine X_iadd F dX3_advance_13 ?_
    refine X_aload_n F dX3_advance_14 rfl ?_
    refine X_geti (v := (M 9 5)) F ffRX3_56 dX3_advance_15 rfl ?_
    refine X_icmp_lt (tgt := 22) F dX3_advance_18 (by decide) (fun q2 => ?_) (fun q2 => ?_)
    · rw [if_pos q2] at h
      refine X_aload_n F dX3_advance_22 rfl ?_
      refine X_dup F dX3_advance_23 rfl ?_
      refine X_geti (v := (M 9 6)) F ffRX3_37 dX3_advance_24 rfl ?_
      refine X_iconst F dX3_advance_27 (v := (1 : Int32)) rfl ?_
      refine X_iadd F dX3_advance_28 ?_
      refine X_puti F ffRX3_37 fw3_6 (by decide) dX3_advance_29 ?_
      refine X_aload_n F dX3_advance_32 rfl ?_
      refine X_aload_n F dX3_advance_33 rfl ?_
      refine X_getr F ffRX3_15 dX3_advance_34 ?_
      refine X_aload_n F dX3_advance_37 rfl ?_
      refine X_geti (v := ((M 9 6) + (1 : Int32))) F ffRX3_37 dX3_advance_38 rfl ?_
      obtain ⟨q3, h⟩ := ifS h
      refine X_iald (j := (Int32.toNatClampNeg ((M 9 6) + (1 : Int32)))) (v := (M 11 (Int32.toNatClampNeg ((M 9 6) + (1 : Int32))))) F rfl (inbV q3) rfl rfl dX3_advance_41 ?_
      refine X_puti F ffRX3_40 fw3_7 (by decide) dX3_advance_42 ?_
      exact X_vret F hr hlk (retV h) dX3_advance_45
    · rw [if_neg q2] at h
      exact X_vret F hr hlk (retV h) dX3_advance_21
set_option maxRecDepth 20000 in
theorem F3_advance_met {l : Launch} {G : GG} {D : Nat} {r : Int32 × Mem} {M : Mem} (hI : Inj shA G.2.1) (hD : 1 ≤ D) (h : F3_advance M = some r) : MetX shA l G yX3_advance cX3_advance 1 none D [.ref 9] M (none, r.2) :=
  X_met hI (by decide +kernel) (Nat.le_of_ble_eq_true rfl) (fun p e s m args below meth c F hr hlk => F3_advance_ok F hr hlk hD h)
-- KeepOurPlace$Reader.fail
def F3_fail (M : Mem) : Option (Int32 × Mem) :=
    if ¬ (M 9 8) = (-1 : Int32) then
      some ((0 : Int32), (up2 M 9 7 (-2 : Int32)))
    else
      if inb (M 9 6) 161 = true then
      some ((0 : Int32), (up2 (up2 M 9 8 (M 12 (Int32.toNatClampNeg (M 9 6)))) 9 7 (-2 : Int32)))
      else none
set_option maxRecDepth 20000 in
theorem F3_fail_ok {p : Program} {l : Launch} {e : Env} {s : State} {m : MethodId} {args : Array Value} {below : List Frame} {meth : Method} {c : Code} {G : GG} {D : Nat} {r : Int32 × Mem} (F : FrP shA G p s m args c RX3 cX3_fail 1) (hr : meth.sig.returnType = none) (hlk : meth.locks = false) (hD : 1 ≤ D) {M : Mem} (h : F3_fail M = some r) : XJ shA p l e (rmX D) s m args below meth c 0 0 G 1 (MQ below (QcX shA G ((none, r.2) : Option Value × Mem).1 ((none, r.2) : Option Value × Mem).2) args s 0 0 (AW shA G.2.1)) 0 [(0, .ref 9)] [] M := by
  unfold F3_fail at h
  refine X_aload_n F dX3_fail_0 rfl ?_
  refine X_geti (v := (M 9 8)) F ffRX3_43 dX3_fail_1 rfl ?_
  refine X_iconst F dX3_fail_4 (v := (-1 : Int32)) rfl ?_
  refine X_icmp_ne (tgt := 21) F dX3_fail_5 (by decide) (fun q1 => ?_) (fun q1 => ?_)
  · rw [if_pos q1] at h
    refine X_aload_n F dX3_fail_21 rfl ?_
    refine X_bipush F dX3_fail_22 (v := (-2 : Int32)) rfl ?_
    refine X_puti F ffRX3_40 fw3_7 (by decide) dX3_fail_24 ?_
    exact X_vret F hr hlk (retV h) dX3_fail_27
  · rw [if_neg (fun z => z q1)] at h
    refine X_aload_n F dX3_fail_8 rfl ?_
    refine X_aload_n F dX3_fail_9 rfl ?_
    refine X_getr F ffRX3_18 dX3_fail_10 ?_
    refine X_aload_n F dX3_fail_13 rfl ?_
    refine X_geti (v := (M 9 6)) F ffRX3_37 dX3_fail_14 rfl ?_
    obtain ⟨q2, h⟩ := ifS h
    refine X_iald (j := (Int32.toNatClampNeg (M 9 6))) (v := (M 12 (Int32.toNatClampNeg (M 9 6)))) F rfl (inbV q2) rfl rfl dX3_fail_17 ?_
    refine X_puti F ffRX3_43 fw3_8 (by decide) dX3_fail_18 ?_
    refine X_aload_n F dX3_fail_21 rfl ?_
    refine X_bipush F dX3_fail_22 (v := (-2 : Int32)) rfl ?_
    refine X_puti F ffRX3_40 fw3_7 (by decide) dX3_fail_24 ?_
    exact X_vret F hr hlk (retV h) dX3_fail_27
set_option maxRecDepth 20000 in
theorem F3_fail_met {l : Launch} {G : GG} {D : Nat} {r : Int32 × Mem} {M : Mem} (hI : Inj shA G.2.1) (hD : 1 ≤ D) (h : F3_fail M = some r) : MetX shA l G yX3_fail cX3_fail 1 none D [.ref 9] M (none, r.2) :=
  X_met hI (by decide +kernel) (Nat.le_of_ble_eq_true rfl) (fun p e s m args below meth c F hr hlk => F3_fail_ok F hr hlk hD h)
-- KeepOurPlace$Reader.expect
def F3_expect (M : Mem) (a1 : Int32) : Option (Int32 × Mem) :=
    if ¬ (M 9 7) = a1 then
      Option.bind (F3_fail M) fun r2 =>
      some ((0 : Int32), r2.2)
    else
      Option.bind (F3_advance M) fun r4 =>
      some ((0 : Int32), r4.2)
set_option maxRecDepth 20000 in
theorem F3_expect_ok {p : Program} {l : Launch} {e : Env} {s : State} {m : MethodId} {args : Array Value} {below : List Frame} {meth : Method} {c : Code} {G : GG} {D : Nat} {r : Int32 × Mem} (F : FrP shA G p s m args c RX3 cX3_expect 2) (hr : meth.sig.returnType = none) (hlk : meth.locks = false) (hD : 2 ≤ D) {M : Mem} {a1 : Int32} (h : F3_expect M a1 = some r) : XJ shA p l e (rmX D) s m args below meth c 0 0 G 2 (MQ below (QcX shA G ((none, r.2) : Option Value × Mem).1 ((none, r.2) : Option Value × Mem).2) args s 0 0 (AW shA G.2.1)) 0 [(0, .ref 9), (1, .int a1)] [] M := by
  unfold F3_expect at h
  refine X_aload_n F dX3_expect_0 rfl ?_
  refine X_geti (v := (M 9 7)) F ffRX3_40 dX3_expect_1 rfl ?_
  refine X_iload_n F dX3_expect_4 rfl ?_
  refine X_icmp_ne (tgt := 15) F dX3_expect_5 (by decide) (fun q1 => ?_) (fun q1 => ?_)
  · rw [if_pos q1] at h
    refine X_aload_n F dX3_expect_15 rfl ?_
    obtain ⟨r2, h3, h⟩ := bndS h
    refine X_callV (ci := 9) (As := []) (rest := []) F fkRX3_53 feX3_fail fvX3_fail ⟨_, _, _, rfl, rfl, rfl⟩ (F3_fail_met (D := D - 1) F.2.2.2.2.2.2.2.1 (by omega) h3) rfl rfl (Nat.le_of_ble_eq_true rfl) (rm_ok (by omega) (by decide)) dX3_expect_16 ?_
    show XJ shA p l e (rmX D) s m args below meth c 0 0 G 2 (MQ below (QcX shA G ((none, r.2) : Option Value × Mem).1 ((none, r.2) : Option Value × Mem).2) args s 0 0 (AW shA G.2.1)) 19 [(0, .ref 9), (1, .int a1)] [] r2.2
    exact X_vret F hr hlk (retV h) dX3_expect_19
  · rw [if_neg (fun z => z q1)] at h
    refine X_aload_n F dX3_expect_8 rfl ?_
    obtain ⟨r4, h5, h⟩ := bndS h
    refine X_callV (ci := 9) (As := []) (rest := []) F fkRX3_114 feX3_advance fvX3_advance ⟨_, _, _, rfl, rfl, rfl⟩ (F3_advance_met (D := D - 1) F.2.2.2.2.2.2.2.1 (by omega) h5) rfl rfl (Nat.le_of_ble_eq_true rfl) (rm_ok (by omega) (by decide)) dX3_expect_9 ?_
    show XJ shA p l e (rmX D) s m args below meth c 0 0 G 2 (MQ below (QcX shA G ((none, r.2) : Option Value × Mem).1 ((none, r.2) : Option Value × Mem).2) args s 0 0 (AW shA G.2.1)) 12 [(0, .ref 9), (1, .int a1)] [] r4.2
    refine X_goto (tgt := 19) F dX3_expect_12 (by decide) ?_
    exact X_vret F hr hlk (retV h) dX3_expect_19
set_option maxRecDepth 20000 in
theorem F3_expect_met {l : Launch} {G : GG} {D : Nat} {r : Int32 × Mem} {M : Mem} {a1 : Int32} (hI : Inj shA G.2.1) (hD : 2 ≤ D) (h : F3_expect M a1 = some r) : MetX shA l G yX3_expect cX3_expect 2 none D [.ref 9, .int a1] M (none, r.2) :=
  X_met hI (by decide +kernel) (Nat.le_of_ble_eq_true rfl) (fun p e s m args below meth c F hr hlk => F3_expect_ok F hr hlk hD h)
-- KeepOurPlace$Reader.mayOpen
def F3_mayOpen (M : Mem) (a1 : Int32) : Option (Int32 × Mem) :=
    if a1 < (5 : Int32) then
      Option.bind (F3_advance M) fun r2 =>
      some ((1 : Int32), r2.2)
    else
      Option.bind (F3_fail M) fun r4 =>
      some ((0 : Int32), r4.2)
set_option maxRecDepth 20000 in
theorem F3_mayOpen_ok {p : Program} {l : Launch} {e : Env} {s : State} {m : MethodId} {args : Array Value} {below : List Frame} {meth : Method} {c : Code} {G : GG} {D : Nat} {r : Int32 × Mem} (F : FrP shA G p s m args c RX3 cX3_mayOpen 2) (hr : meth.sig.returnType = (some .boolean)) (hlk : meth.locks = false) (hD : 2 ≤ D) {M : Mem} {a1 : Int32} (h : F3_mayOpen M a1 = some r) : XJ shA p l e (rmX D) s m args below meth c 0 0 G 2 (MQ below (QcX shA G ((some (.int r.1), r.2) : Option Value × Mem).1 ((some (.int r.1), r.2) : Option Value × Mem).2) args s 0 0 (AW shA G.2.1)) 0 [(0, .ref 9), (1, .int a1)] [] M := by
  unfold F3_mayOpen at h
  refine X_iload_n F dX3_mayOpen_0 rfl ?_
  refine X_iconst F dX3_mayOpen_1 (v := (5 : Int32)) rfl ?_
  refine X_icmp_lt (tgt := 11) F dX3_mayOpen_2 (by decide) (fun q1 => ?_) (fun q1 => ?_)
  · rw [if_pos q1] at h
    refine X_aload_n F dX3_mayOpen_11 rfl ?_
    obtain ⟨r2, h3, h⟩ := bndS h
    refine X_callV (ci := 9) (As := []) (rest := []) F fkRX3_114 feX3_advance fvX3_advance ⟨_, _, _, rfl, rfl, rfl⟩ (F3_advance_met (D := D - 1) F.2.2.2.2.2.2.2.1 (by omega) h3) rfl rfl (Nat.le_of_ble_eq_true rfl) (rm_ok (by omega) (by decide)) dX3_mayOpen_12 ?_
    show XJ shA p l e (rmX D) s m args below meth c 0 0 G 2 (MQ below (QcX shA G ((some (.int r.1), r.2) : Option Value × Mem).1 ((some (.int r.1), r.2) : Option Value × Mem).2) args s 0 0 (AW shA G.2.1)) 15 [(0, .ref 9), (1, .int a1)] [] r2.2
    refine X_iconst F dX3_mayOpen_15 (v := (1 : Int32)) rfl ?_
    exact X_zret F hr hlk rfl (retI h) dX3_mayOpen_16
  · rw [if_neg q1] at h
    refine X_aload_n F dX3_mayOpen_5 rfl ?_
    obtain ⟨r4, h5, h⟩ := bndS h
    refine X_callV (ci := 9) (As := []) (rest := []) F fkRX3_53 feX3_fail fvX3_fail ⟨_, _, _, rfl, rfl, rfl⟩ (F3_fail_met (D := D - 1) F.2.2.2.2.2.2.2.1 (by omega) h5) rfl rfl (Nat.le_of_ble_eq_true rfl) (rm_ok (by omega) (by decide)) dX3_mayOpen_6 ?_
    show XJ shA p l e (rmX D) s m args below meth c 0 0 G 2 (MQ below (QcX shA G ((some (.int r.1), r.2) : Option Value × Mem).1 ((some (.int r.1), r.2) : Option Value × Mem).2) args s 0 0 (AW shA G.2.1)) 9 [(0, .ref 9), (1, .int a1)] [] r4.2
    refine X_iconst F dX3_mayOpen_9 (v := (0 : Int32)) rfl ?_
    exact X_zret F hr hlk rfl (retI h) dX3_mayOpen_10
set_option maxRecDepth 20000 in
theorem F3_mayOpen_met {l : Launch} {G : GG} {D : Nat} {r : Int32 × Mem} {M : Mem} {a1 : Int32} (hI : Inj shA G.2.1) (hD : 2 ≤ D) (h : F3_mayOpen M a1 = some r) : MetX shA l G yX3_mayOpen cX3_mayOpen 2 (some .boolean) D [.ref 9, .int a1] M (some (.int r.1), r.2) :=
  X_met hI (by decide +kernel) (Nat.le_of_ble_eq_true rfl) (fun p e s m args below meth c F hr hlk => F3_mayOpen_ok F hr hlk hD h)
-- KeepOurPlace$Reader.emit
def F3_emit (M : Mem) (a1 : Int32) : Option (Int32 × Mem) :=
    if (M 9 10) < (160 : Int32) then
      if inb (M 9 10) 160 = true then
      some ((0 : Int32), (up2 (up2 M 14 (Int32.toNatClampNeg (M 9 10)) a1) 9 10 ((M 9 10) + (1 : Int32))))
      else none
    else
      some ((0 : Int32), M)
set_option maxRecDepth 20000 in
theorem F3_emit_ok {p : Program} {l : Launch} {e : Env} {s : State} {m : MethodId} {args : Array Value} {below : List Frame} {meth : Method} {c : Code} {G : GG} {D : Nat} {r : Int32 × Mem} (F : FrP shA G p s m args c RX3 cX3_emit 2) (hr : meth.sig.returnType = none) (hlk : meth.locks = false) (hD : 1 ≤ D) {M : Mem} {a1 : Int32} (h : F3_emit M a1 = some r) : XJ shA p l e (rmX D) s m args below meth c 0 0 G 2 (MQ below (QcX shA G ((none, r.2) : Option Value × Mem).1 ((none, r.2) : Option Value × Mem).2) args s 0 0 (AW shA G.2.1)) 0 [(0, .ref 9), (1, .int a1)] [] M := by
  unfold F3_emit at h
  refine X_aload_n F dX3_emit_0 rfl ?_
  refine X_geti (v := (M 9 10)) F ffRX3_46 dX3_emit_1 rfl ?_
  refine X_aload_n F dX3_emit_4 rfl ?_
  refine X_getr F ffRX3_24 dX3_emit_5 ?_
  refine X_alen (v := (160 : Int32)) F rfl rfl dX3_emit_8 ?_
  refine X_icmp_lt (tgt := 13) F dX3_emit_9 (by decide) (fun q1 => ?_) (fun q1 => ?_)
  · rw [if_pos q1] at h
    refine X_aload_n F dX3_emit_13 rfl ?_
    refine X_getr F ffRX3_24 dX3_emit_14 ?_
    refine X_aload_n F dX3_emit_17 rfl ?_
    refine X_geti (v := (M 9 10)) F ffRX3_46 dX3_emit_18 rfl ?_
    refine X_iload_n F dX3_emit_21 rfl ?_
    obtain ⟨q2, h⟩ := ifS h
    refine X_iast (j := (Int32.toNatClampNeg (M 9 10))) F rfl (inbV q2) rfl dX3_emit_22 ?_
    refine X_aload_n F dX3_emit_23 rfl ?_
    refine X_dup F dX3_emit_24 rfl ?_
    refine X_geti (v := (M 9 10)) F ffRX3_46 dX3_emit_25 rfl ?_
    refine X_iconst F dX3_emit_28 (v := (1 : Int32)) rfl ?_
    refine X_iadd F dX3_emit_29 ?_
    refine X_puti F ffRX3_46 fw3_10 (by decide) dX3_emit_30 ?_
    exact X_vret F hr hlk (retV h) dX3_emit_33
  · rw [if_neg q1] at h
    exact X_vret F hr hlk (retV h) dX3_emit_12
set_option maxRecDepth 20000 in
theorem F3_emit_met {l : Launch} {G : GG} {D : Nat} {r : Int32 × Mem} {M : Mem} {a1 : Int32} (hI : Inj shA G.2.1) (hD : 1 ≤ D) (h : F3_emit M a1 = some r) : MetX shA l G yX3_emit cX3_emit 2 none D [.ref 9, .int a1] M (none, r.2) :=
  X_met hI (by decide +kernel) (Nat.le_of_ble_eq_true rfl) (fun p e s m args below meth c F hr hlk => F3_emit_ok F hr hlk hD h)
-- KeepOurPlace$Reader.readOr
def F3_readOr_l7_b (rc : Nat → Int32 → Mem → Option (Int32 × Mem)) (rec7 : Mem → Int32 → Int32 → Option (Int32 × Mem)) (M : Mem) (x1 : Int32) (x2 : Int32) : Option (Int32 × Mem) :=
    if (160 : Int32) ≤ x2 then
      some ((0 : Int32), M)
    else
      if ¬ (M 9 7) = (-14 : Int32) then
        some ((0 : Int32), M)
      else
        Option.bind (F3_advance M) fun r5 =>
        Option.bind (rc 1 x1 r5.2) fun r7 =>
        Option.bind (F3_emit r7.2 (-9 : Int32)) fun r9 =>
        rec7 r9.2 x1 (x2 + (1 : Int32))
def F3_readOr_l7 (rc : Nat → Int32 → Mem → Option (Int32 × Mem)) : Nat → Mem → Int32 → Int32 → Option (Int32 × Mem)
  | 0, _, _, _ => none
  | fu + 1, M, x1, x2 => F3_readOr_l7_b rc (F3_readOr_l7 rc fu) M x1 x2
def F3_readOr (rc : Nat → Int32 → Mem → Option (Int32 × Mem)) (M : Mem) (a1 : Int32) : Option (Int32 × Mem) :=
    Option.bind (rc 1 a1 M) fun r1 =>
    F3_readOr_l7 rc FUEL r1.2 a1 (0 : Int32)
-- KeepOurPlace$Reader.readAnd
def F3_readAnd_l7_b (rc : Nat → Int32 → Mem → Option (Int32 × Mem)) (rec7 : Mem → Int32 → Int32 → Option (Int32 × Mem)) (M : Mem) (x1 : Int32) (x2 : Int32) : Option (Int32 × Mem) :=
    if (160 : Int32) ≤ x2 then
      some ((0 : Int32), M)
    else
      if ¬ (M 9 7) = (-15 : Int32) then
        some ((0 : Int32), M)
      else
        Option.bind (F3_advance M) fun r5 =>
        Option.bind (rc 2 x1 r5.2) fun r7 =>
        Option.bind (F3_emit r7.2 (-10 : Int32)) fun r9 =>
        rec7 r9.2 x1 (x2 + (1 : Int32))
def F3_readAnd_l7 (rc : Nat → Int32 → Mem → Option (Int32 × Mem)) : Nat → Mem → Int32 → Int32 → Option (Int32 × Mem)
  | 0, _, _, _ => none
  | fu + 1, M, x1, x2 => F3_readAnd_l7_b rc (F3_readAnd_l7 rc fu) M x1 x2
def F3_readAnd (rc : Nat → Int32 → Mem → Option (Int32 × Mem)) (M : Mem) (a1 : Int32) : Option (Int32 × Mem) :=
    Option.bind (rc 2 a1 M) fun r1 =>
    F3_readAnd_l7 rc FUEL r1.2 a1 (0 : Int32)
-- KeepOurPlace$Reader.readNot
def F3_readNot_j70 (rc : Nat → Int32 → Mem → Option (Int32 × Mem)) (M : Mem) (x1 : Int32) (y0 : Int32) : Option (Int32 × Mem) :=
    Option.bind (F3_advance M) fun r14 =>
    Option.bind (rc 3 x1 r14.2) fun r16 =>
    Option.bind (F3_emit r16.2 y0) fun r18 =>
    some ((0 : Int32), r18.2)
def F3_readNot_j54 (rc : Nat → Int32 → Mem → Option (Int32 × Mem)) (M : Mem) (x1 : Int32) : Option (Int32 × Mem) :=
    if ¬ (M 9 7) = (60 : Int32) then
      F3_readNot_j70 rc M x1 (-12 : Int32)
    else
      F3_readNot_j70 rc M x1 (-11 : Int32)
def F3_readNot (rc : Nat → Int32 → Mem → Option (Int32 × Mem)) (M : Mem) (a1 : Int32) : Option (Int32 × Mem) :=
    if ¬ (M 9 7) = (-16 : Int32) then
      Option.bind (rc 3 a1 M) fun r2 =>
      if (r2.2 9 7) = (60 : Int32) then
        F3_readNot_j54 rc r2.2 a1
      else
        if ¬ (r2.2 9 7) = (61 : Int32) then
          some ((0 : Int32), r2.2)
        else
          F3_readNot_j54 rc r2.2 a1
    else
      Option.bind (F3_mayOpen M a1) fun r6 =>
      if r6.1 = 0 then
        some ((0 : Int32), r6.2)
      else
        Option.bind (rc 2 (a1 + (1 : Int32)) r6.2) fun r9 =>
        Option.bind (F3_emit r9.2 (-8 : Int32)) fun r11 =>
        some ((0 : Int32), r11.2)
-- KeepOurPlace$Reader.readSum
def F3_readSum_j48 (rc : Nat → Int32 → Mem → Option (Int32 × Mem)) (rec7 : Mem → Int32 → Int32 → Option (Int32 × Mem)) (M : Mem) (x1 : Int32) (x2 : Int32) (y0 : Int32) : Option (Int32 × Mem) :=
    Option.bind (F3_advance M) fun r7 =>
    Option.bind (rc 4 x1 r7.2) fun r9 =>
    Option.bind (F3_emit r9.2 y0) fun r11 =>
    rec7 r11.2 x1 (x2 + (1 : Int32))
def F3_readSum_j32 (rc : Nat → Int32 → Mem → Option (Int32 × Mem)) (rec7 : Mem → Int32 → Int32 → Option (Int32 × Mem)) (M : Mem) (x1 : Int32) (x2 : Int32) : Option (Int32 × Mem) :=
    if ¬ (M 9 7) = (43 : Int32) then
      F3_readSum_j48 rc rec7 M x1 x2 (-14 : Int32)
    else
      F3_readSum_j48 rc rec7 M x1 x2 (-13 : Int32)
def F3_readSum_l7_b (rc : Nat → Int32 → Mem → Option (Int32 × Mem)) (rec7 : Mem → Int32 → Int32 → Option (Int32 × Mem)) (M : Mem) (x1 : Int32) (x2 : Int32) : Option (Int32 × Mem) :=
    if (160 : Int32) ≤ x2 then
      some ((0 : Int32), M)
    else
      if (M 9 7) = (43 : Int32) then
        F3_readSum_j32 rc rec7 M x1 x2
      else
        if ¬ (M 9 7) = (45 : Int32) then
          some ((0 : Int32), M)
        else
          F3_readSum_j32 rc rec7 M x1 x2
def F3_readSum_l7 (rc : Nat → Int32 → Mem → Option (Int32 × Mem)) : Nat → Mem → Int32 → Int32 → Option (Int32 × Mem)
  | 0, _, _, _ => none
  | fu + 1, M, x1, x2 => F3_readSum_l7_b rc (F3_readSum_l7 rc fu) M x1 x2
def F3_readSum (rc : Nat → Int32 → Mem → Option (Int32 × Mem)) (M : Mem) (a1 : Int32) : Option (Int32 × Mem) :=
    Option.bind (rc 4 a1 M) fun r1 =>
    F3_readSum_l7 rc FUEL r1.2 a1 (0 : Int32)
-- KeepOurPlace$Reader.readTerm
def F3_readTerm_l7_b (rc : Nat → Int32 → Mem → Option (Int32 × Mem)) (rec7 : Mem → Int32 → Int32 → Option (Int32 × Mem)) (M : Mem) (x1 : Int32) (x2 : Int32) : Option (Int32 × Mem) :=
    if (160 : Int32) ≤ x2 then
      some ((0 : Int32), M)
    else
      if ¬ (M 9 7) = (42 : Int32) then
        some ((0 : Int32), M)
      else
        Option.bind (F3_advance M) fun r5 =>
        Option.bind (rc 5 x1 r5.2) fun r7 =>
        Option.bind (F3_emit r7.2 (-15 : Int32)) fun r9 =>
        rec7 r9.2 x1 (x2 + (1 : Int32))
def F3_readTerm_l7 (rc : Nat → Int32 → Mem → Option (Int32 × Mem)) : Nat → Mem → Int32 → Int32 → Option (Int32 × Mem)
  | 0, _, _, _ => none
  | fu + 1, M, x1, x2 => F3_readTerm_l7_b rc (F3_readTerm_l7 rc fu) M x1 x2
def F3_readTerm (rc : Nat → Int32 → Mem → Option (Int32 × Mem)) (M : Mem) (a1 : Int32) : Option (Int32 × Mem) :=
    Option.bind (rc 5 a1 M) fun r1 =>
    F3_readTerm_l7 rc FUEL r1.2 a1 (0 : Int32)
-- KeepOurPlace$Reader.readOne
def F3_readOne_j18 (rc : Nat → Int32 → Mem → Option (Int32 × Mem)) (M : Mem) : Option (Int32 × Mem) :=
    if inb (M 9 6) 161 = true then
    Option.bind (F3_emit M (M 13 (Int32.toNatClampNeg (M 9 6)))) fun r22 =>
    Option.bind (F3_advance r22.2) fun r24 =>
    some ((0 : Int32), r24.2)
    else none
def F3_readOne (rc : Nat → Int32 → Mem → Option (Int32 × Mem)) (M : Mem) (a1 : Int32) : Option (Int32 × Mem) :=
    if (M 9 7) = (-3 : Int32) then
      F3_readOne_j18 rc M
    else
      if ¬ (M 9 7) = (-4 : Int32) then
        if ¬ (M 9 7) = (45 : Int32) then
          if ¬ (M 9 7) = (40 : Int32) then
            Option.bind (F3_fail M) fun r5 =>
            some ((0 : Int32), r5.2)
          else
            Option.bind (F3_mayOpen M a1) fun r7 =>
            if r7.1 = 0 then
              some ((0 : Int32), r7.2)
            else
              Option.bind (rc 0 (a1 + (1 : Int32)) r7.2) fun r10 =>
              Option.bind (F3_expect r10.2 (41 : Int32)) fun r12 =>
              some ((0 : Int32), r12.2)
        else
          Option.bind (F3_mayOpen M a1) fun r14 =>
          if r14.1 = 0 then
            some ((0 : Int32), r14.2)
          else
            Option.bind (rc 5 (a1 + (1 : Int32)) r14.2) fun r17 =>
            Option.bind (F3_emit r17.2 (-7 : Int32)) fun r19 =>
            some ((0 : Int32), r19.2)
      else
        F3_readOne_j18 rc M
set_option maxRecDepth 20000 in
theorem F3_readOr_l7_bok {p : Program} {l : Launch} {e : Env} {s : State} {m : MethodId} {args : Array Value} {below : List Frame} {meth : Method} {c : Code} {G : GG} {D : Nat} {r : Int32 × Mem} {rc : Nat → Int32 → Mem → Option (Int32 × Mem)} {rec7 : Mem → Int32 → Int32 → Option (Int32 × Mem)} (F : FrP shA G p s m args c RX3 cX3_readOr 3) (hr : meth.sig.returnType = none) (hlk : meth.locks = false) (hD : 3 ≤ D) (hrc : (∀ (b0 : Int32) (M : Mem) (r : Int32 × Mem), rc 0 b0 M = some r → MetX shA l G yX3_readOr cX3_readOr 3 none (D - 1) [.ref 9, .int b0] M (none, r.2)) ∧ (∀ (b0 : Int32) (M : Mem) (r : Int32 × Mem), rc 1 b0 M = some r → MetX shA l G yX3_readAnd cX3_readAnd 3 none (D - 1) [.ref 9, .int b0] M (none, r.2)) ∧ (∀ (b0 : Int32) (M : Mem) (r : Int32 × Mem), rc 2 b0 M = some r → MetX shA l G yX3_readNot cX3_readNot 3 none (D - 1) [.ref 9, .int b0] M (none, r.2)) ∧ (∀ (b0 : Int32) (M : Mem) (r : Int32 × Mem), rc 3 b0 M = some r → MetX shA l G yX3_readSum cX3_readSum 4 none (D - 1) [.ref 9, .int b0] M (none, r.2)) ∧ (∀ (b0 : Int32) (M : Mem) (r : Int32 × Mem), rc 4 b0 M = some r → MetX shA l G yX3_readTerm cX3_readTerm 3 none (D - 1) [.ref 9, .int b0] M (none, r.2)) ∧ (∀ (b0 : Int32) (M : Mem) (r : Int32 × Mem), rc 5 b0 M = some r → MetX shA l G yX3_readOne cX3_readOne 2 none (D - 1) [.ref 9, .int b0] M (none, r.2))) (hrec7 : ∀ (M : Mem) (x1 : Int32) (x2 : Int32), rec7 M x1 x2 = some r → XJ shA p l e (rmX D) s m args below meth c 0 0 G 3 (MQ below (QcX shA G ((none, r.2) : Option Value × Mem).1 ((none, r.2) : Option Value × Mem).2) args s 0 0 (AW shA G.2.1)) 7 [(0, .ref 9), (1, .int x1), (2, .int x2)] [] M) {M : Mem} {x1 : Int32} {x2 : Int32} (h : F3_readOr_l7_b rc rec7 M x1 x2 = some r) : XJ shA p l e (rmX D) s m args below meth c 0 0 G 3 (MQ below (QcX shA G ((none, r.2) : Option Value × Mem).1 ((none, r.2) : Option Value × Mem).2) args s 0 0 (AW shA G.2.1)) 7 [(0, .ref 9), (1, .int x1), (2, .int x2)] [] M := by
  unfold F3_readOr_l7_b at h
  refine X_iload_n F dX3_readOr_7 rfl ?_
  refine X_sipush F dX3_readOr_8 (v := (160 : Int32)) rfl ?_
  refine X_icmp_ge (tgt := 44) F dX3_readOr_11 (by decide) (fun q3 => ?_) (fun q3 => ?_)
  · rw [if_pos q3] at h
    exact X_vret F hr hlk (retV h) dX3_readOr_44
  · rw [if_neg q3] at h
    refine X_aload_n F dX3_readOr_14 rfl ?_
    refine X_geti (v := (M 9 7)) F ffRX3_40 dX3_readOr_15 rfl ?_
    refine X_bipush F dX3_readOr_18 (v := (-14 : Int32)) rfl ?_
    refine X_icmp_ne (tgt := 44) F dX3_readOr_20 (by decide) (fun q4 => ?_) (fun q4 => ?_)
    · rw [if_pos q4] at h
      exact X_vret F hr hlk (retV h) dX3_readOr_44
    · rw [if_neg (fun z => z q4)] at h
      refine X_aload_n F dX3_readOr_23 rfl ?_
      obtain ⟨r5, h6, h⟩ := bndS h
      refine X_callV (ci := 9) (As := []) (rest := []) F fkRX3_114 feX3_advance fvX3_advance ⟨_, _, _, rfl, rfl, rfl⟩ (F3_advance_met (D := D - 1) F.2.2.2.2.2.2.2.1 (by omega) h6) rfl rfl (Nat.le_of_ble_eq_true rfl) (rm_ok (by omega) (by decide)) dX3_readOr_24 ?_
      show XJ shA p l e (rmX D) s m args below meth c 0 0 G 3 (MQ below (QcX shA G ((none, r.2) : Option Value × Mem).1 ((none, r.2) : Option Value × Mem).2) args s 0 0 (AW shA G.2.1)) 27 [(0, .ref 9), (1, .int x1), (2, .int x2)] [] r5.2
      refine X_aload_n F dX3_readOr_27 rfl ?_
      refine X_iload_n F dX3_readOr_28 rfl ?_
      obtain ⟨r7, h8, h⟩ := bndS h
      refine X_callV (ci := 9) (As := [.int x1]) (rest := []) F fkRX3_111 feX3_readAnd fvX3_readAnd ⟨_, _, _, rfl, rfl, rfl⟩ (hrc.2.1 _ _ _ h8) rfl rfl (Nat.le_of_ble_eq_true rfl) (rm_ok (by omega) (by decide)) dX3_readOr_29 ?_
      show XJ shA p l e (rmX D) s m args below meth c 0 0 G 3 (MQ below (QcX shA G ((none, r.2) : Option Value × Mem).1 ((none, r.2) : Option Value × Mem).2) args s 0 0 (AW shA G.2.1)) 32 [(0, .ref 9), (1, .int x1), (2, .int x2)] [] r7.2
      refine X_aload_n F dX3_readOr_32 rfl ?_
      refine X_bipush F dX3_readOr_33 (v := (-9 : Int32)) rfl ?_
      obtain ⟨r9, h10, h⟩ := bndS h
      refine X_callV (ci := 9) (As := [.int (-9 : Int32)]) (rest := []) F fkRX3_117 feX3_emit fvX3_emit ⟨_, _, _, rfl, rfl, rfl⟩ (F3_emit_met (D := D - 1) F.2.2.2.2.2.2.2.1 (by omega) h10) rfl rfl (Nat.le_of_ble_eq_true rfl) (rm_ok (by omega) (by decide)) dX3_readOr_35 ?_
      show XJ shA p l e (rmX D) s m args below meth c 0 0 G 3 (MQ below (QcX shA G ((none, r.2) : Option Value × Mem).1 ((none, r.2) : Option Value × Mem).2) args s 0 0 (AW shA G.2.1)) 38 [(0, .ref 9), (1, .int x1), (2, .int x2)] [] r9.2
      refine X_iinc F dX3_readOr_38 rfl (v := (1 : Int32)) rfl (by decide) rfl ?_
      refine X_goto (tgt := 7) F dX3_readOr_41 (by decide) ?_
      refine X_pick [1, 2, 0] rfl ?_
      exact hrec7 _ _ _ h
set_option maxRecDepth 20000 in
theorem F3_readOr_l7_ok {p : Program} {l : Launch} {e : Env} {s : State} {m : MethodId} {args : Array Value} {below : List Frame} {meth : Method} {c : Code} {G : GG} {D : Nat} {r : Int32 × Mem} {rc : Nat → Int32 → Mem → Option (Int32 × Mem)} (F : FrP shA G p s m args c RX3 cX3_readOr 3) (hr : meth.sig.returnType = none) (hlk : meth.locks = false) (hD : 3 ≤ D) (hrc : (∀ (b0 : Int32) (M : Mem) (r : Int32 × Mem), rc 0 b0 M = some r → MetX shA l G yX3_readOr cX3_readOr 3 none (D - 1) [.ref 9, .int b0] M (none, r.2)) ∧ (∀ (b0 : Int32) (M : Mem) (r : Int32 × Mem), rc 1 b0 M = some r → MetX shA l G yX3_readAnd cX3_readAnd 3 none (D - 1) [.ref 9, .int b0] M (none, r.2)) ∧ (∀ (b0 : Int32) (M : Mem) (r : Int32 × Mem), rc 2 b0 M = some r → MetX shA l G yX3_readNot cX3_readNot 3 none (D - 1) [.ref 9, .int b0] M (none, r.2)) ∧ (∀ (b0 : Int32) (M : Mem) (r : Int32 × Mem), rc 3 b0 M = some r → MetX shA l G yX3_readSum cX3_readSum 4 none (D - 1) [.ref 9, .int b0] M (none, r.2)) ∧ (∀ (b0 : Int32) (M : Mem) (r : Int32 × Mem), rc 4 b0 M = some r → MetX shA l G yX3_readTerm cX3_readTerm 3 none (D - 1) [.ref 9, .int b0] M (none, r.2)) ∧ (∀ (b0 : Int32) (M : Mem) (r : Int32 × Mem), rc 5 b0 M = some r → MetX shA l G yX3_readOne cX3_readOne 2 none (D - 1) [.ref 9, .int b0] M (none, r.2))) : ∀ (fu : Nat) (M : Mem) (x1 : Int32) (x2 : Int32), F3_readOr_l7 rc fu M x1 x2 = some r → XJ shA p l e (rmX D) s m args below meth c 0 0 G 3 (MQ below (QcX shA G ((none, r.2) : Option Value × Mem).1 ((none, r.2) : Option Value × Mem).2) args s 0 0 (AW shA G.2.1)) 7 [(0, .ref 9), (1, .int x1), (2, .int x2)] [] M := by
  intro fu
  induction fu with
  | zero => intro M x1 x2 h; cases h
  | succ fu ih => intro M x1 x2 h; exact F3_readOr_l7_bok F hr hlk hD hrc (fun M x1 x2 => ih M x1 x2) h
set_option maxRecDepth 20000 in
theorem F3_readOr_ok {p : Program} {l : Launch} {e : Env} {s : State} {m : MethodId} {args : Array Value} {below : List Frame} {meth : Method} {c : Code} {G : GG} {D : Nat} {r : Int32 × Mem} {rc : Nat → Int32 → Mem → Option (Int32 × Mem)} (F : FrP shA G p s m args c RX3 cX3_readOr 3) (hr : meth.sig.returnType = none) (hlk : meth.locks = false) (hD : 3 ≤ D) (hrc : (∀ (b0 : Int32) (M : Mem) (r : Int32 × Mem), rc 0 b0 M = some r → MetX shA l G yX3_readOr cX3_readOr 3 none (D - 1) [.ref 9, .int b0] M (none, r.2)) ∧ (∀ (b0 : Int32) (M : Mem) (r : Int32 × Mem), rc 1 b0 M = some r → MetX shA l G yX3_readAnd cX3_readAnd 3 none (D - 1) [.ref 9, .int b0] M (none, r.2)) ∧ (∀ (b0 : Int32) (M : Mem) (r : Int32 × Mem), rc 2 b0 M = some r → MetX shA l G yX3_readNot cX3_readNot 3 none (D - 1) [.ref 9, .int b0] M (none, r.2)) ∧ (∀ (b0 : Int32) (M : Mem) (r : Int32 × Mem), rc 3 b0 M = some r → MetX shA l G yX3_readSum cX3_readSum 4 none (D - 1) [.ref 9, .int b0] M (none, r.2)) ∧ (∀ (b0 : Int32) (M : Mem) (r : Int32 × Mem), rc 4 b0 M = some r → MetX shA l G yX3_readTerm cX3_readTerm 3 none (D - 1) [.ref 9, .int b0] M (none, r.2)) ∧ (∀ (b0 : Int32) (M : Mem) (r : Int32 × Mem), rc 5 b0 M = some r → MetX shA l G yX3_readOne cX3_readOne 2 none (D - 1) [.ref 9, .int b0] M (none, r.2))) {M : Mem} {a1 : Int32} (h : F3_readOr rc M a1 = some r) : XJ shA p l e (rmX D) s m args below meth c 0 0 G 3 (MQ below (QcX shA G ((none, r.2) : Option Value × Mem).1 ((none, r.2) : Option Value × Mem).2) args s 0 0 (AW shA G.2.1)) 0 [(0, .ref 9), (1, .int a1)] [] M := by
  unfold F3_readOr at h
  refine X_aload_n F dX3_readOr_0 rfl ?_
  refine X_iload_n F dX3_readOr_1 rfl ?_
  obtain ⟨r1, h2, h⟩ := bndS h
  refine X_callV (ci := 9) (As := [.int a1]) (rest := []) F fkRX3_111 feX3_readAnd fvX3_readAnd ⟨_, _, _, rfl, rfl, rfl⟩ (hrc.2.1 _ _ _ h2) rfl rfl (Nat.le_of_ble_eq_true rfl) (rm_ok (by omega) (by decide)) dX3_readOr_2 ?_
  show XJ shA p l e (rmX D) s m args below meth c 0 0 G 3 (MQ below (QcX shA G ((none, r.2) : Option Value × Mem).1 ((none, r.2) : Option Value × Mem).2) args s 0 0 (AW shA G.2.1)) 5 [(0, .ref 9), (1, .int a1)] [] r1.2
  refine X_iconst F dX3_readOr_5 (v := (0 : Int32)) rfl ?_
  refine X_istore_n F dX3_readOr_6 (by decide) rfl ?_
  refine X_pick [1, 2, 0] rfl ?_
  exact F3_readOr_l7_ok F hr hlk hD hrc FUEL _ _ _ h
set_option maxRecDepth 20000 in
theorem F3_readAnd_l7_bok {p : Program} {l : Launch} {e : Env} {s : State} {m : MethodId} {args : Array Value} {below : List Frame} {meth : Method} {c : Code} {G : GG} {D : Nat} {r : Int32 × Mem} {rc : Nat → Int32 → Mem → Option (Int32 × Mem)} {rec7 : Mem → Int32 → Int32 → Option (Int32 × Mem)} (F : FrP shA G p s m args c RX3 cX3_readAnd 3) (hr : meth.sig.returnType = none) (hlk : meth.locks = false) (hD : 3 ≤ D) (hrc : (∀ (b0 : Int32) (M : Mem) (r : Int32 × Mem), rc 0 b0 M = some r → MetX shA l G yX3_readOr cX3_readOr 3 none (D - 1) [.ref 9, .int b0] M (none, r.2)) ∧ (∀ (b0 : Int32) (M : Mem) (r : Int32 × Mem), rc 1 b0 M = some r → MetX shA l G yX3_readAnd cX3_readAnd 3 none (D - 1) [.ref 9, .int b0] M (none, r.2)) ∧ (∀ (b0 : Int32) (M : Mem) (r : Int32 × Mem), rc 2 b0 M = some r → MetX shA l G yX3_readNot cX3_readNot 3 none (D - 1) [.ref 9, .int b0] M (none, r.2)) ∧ (∀ (b0 : Int32) (M : Mem) (r : Int32 × Mem), rc 3 b0 M = some r → MetX shA l G yX3_readSum cX3_readSum 4 none (D - 1) [.ref 9, .int b0] M (none, r.2)) ∧ (∀ (b0 : Int32) (M : Mem) (r : Int32 × Mem), rc 4 b0 M = some r → MetX shA l G yX3_readTerm cX3_readTerm 3 none (D - 1) [.ref 9, .int b0] M (none, r.2)) ∧ (∀ (b0 : Int32) (M : Mem) (r : Int32 × Mem), rc 5 b0 M = some r → MetX shA l G yX3_readOne cX3_readOne 2 none (D - 1) [.ref 9, .int b0] M (none, r.2))) (hrec7 : ∀ (M : Mem) (x1 : Int32) (x2 : Int32), rec7 M x1 x2 = some r → XJ shA p l e (rmX D) s m args below meth c 0 0 G 3 (MQ below (QcX shA G ((none, r.2) : Option Value × Mem).1 ((none, r.2) : Option Value × Mem).2) args s 0 0 (AW shA G.2.1)) 7 [(0, .ref 9), (1, .int x1), (2, .int x2)] [] M) {M : Mem} {x1 : Int32} {x2 : Int32} (h : F3_readAnd_l7_b rc rec7 M x1 x2 = some r) : XJ shA p l e (rmX D) s m args below meth c 0 0 G 3 (MQ below (QcX shA G ((none, r.2) : Option Value × Mem).1 ((none, r.2) : Option Value × Mem).2) args s 0 0 (AW shA G.2.1)) 7 [(0, .ref 9), (1, .int x1), (2, .int x2)] [] M := by
  unfold F3_readAnd_l7_b at h
  refine X_iload_n F dX3_readAnd_7 rfl ?_
  refine X_sipush F dX3_readAnd_8 (v := (160 : Int32)) rfl ?_
  refine X_icmp_ge (tgt := 44) F dX3_readAnd_11 (by decide) (fun q3 => ?_) (fun q3 => ?_)
  · rw [if_pos q3] at h
    exact X_vret F hr hlk (retV h) dX3_readAnd_44
  · rw [if_neg q3] at h
    refine X_aload_n F dX3_readAnd_14 rfl ?_
    refine X_geti (v := (M 9 7)) F ffRX3_40 dX3_readAnd_15 rfl ?_
    refine X_bipush F dX3_readAnd_18 (v := (-15 : Int32)) rfl ?_
    refine X_icmp_ne (tgt := 44) F dX3_readAnd_20 (by decide) (fun q4 => ?_) (fun q4 => ?_)
    · rw [if_pos q4] at h
      exact X_vret F hr hlk (retV h) dX3_readAnd_44
    · rw [if_neg (fun z => z q4)] at h
      refine X_aload_n F dX3_readAnd_23 rfl ?_
      obtain ⟨r5, h6, h⟩ := bndS h
      refine X_callV (ci := 9) (As := []) (rest := []) F fkRX3_114 feX3_advance fvX3_advance ⟨_, _, _, rfl, rfl, rfl⟩ (F3_advance_met (D := D - 1) F.2.2.2.2.2.2.2.1 (by omega) h6) rfl rfl (Nat.le_of_ble_eq_true rfl) (rm_ok (by omega) (by decide)) dX3_readAnd_24 ?_
      show XJ shA p l e (rmX D) s m args below meth c 0 0 G 3 (MQ below (QcX shA G ((none, r.2) : Option Value × Mem).1 ((none, r.2) : Option Value × Mem).2) args s 0 0 (AW shA G.2.1)) 27 [(0, .ref 9), (1, .int x1), (2, .int x2)] [] r5.2
      refine X_aload_n F dX3_readAnd_27 rfl ?_
      refine X_iload_n F dX3_readAnd_28 rfl ?_
      obtain ⟨r7, h8, h⟩ := bndS h
      refine X_callV (ci := 9) (As := [.int x1]) (rest := []) F fkRX3_120 feX3_readNot fvX3_readNot ⟨_, _, _, rfl, rfl, rfl⟩ (hrc.2.2.1 _ _ _ h8) rfl rfl (Nat.le_of_ble_eq_true rfl) (rm_ok (by omega) (by decide)) dX3_readAnd_29 ?_
      show XJ shA p l e (rmX D) s m args below meth c 0 0 G 3 (MQ below (QcX shA G ((none, r.2) : Option Value × Mem).1 ((none, r.2) : Option Value × Mem).2) args s 0 0 (AW shA G.2.1)) 32 [(0, .ref 9), (1, .int x1), (2, .int x2)] [] r7.2
      refine X_aload_n F dX3_readAnd_32 rfl ?_
      refine X_bipush F dX3_readAnd_33 (v := (-10 : Int32)) rfl ?_
      obtain ⟨r9, h10, h⟩ := bndS h
      refine X_callV (ci := 9) (As := [.int (-10 : Int32)]) (rest := []) F fkRX3_117 feX3_emit fvX3_emit ⟨_, _, _, rfl, rfl, rfl⟩ (F3_emit_met (D := D - 1) F.2.2.2.2.2.2.2.1 (by omega) h10) rfl rfl (Nat.le_of_ble_eq_true rfl) (rm_ok (by omega) (by decide)) dX3_readAnd_35 ?_
      show XJ shA p l e (rmX D) s m args below meth c 0 0 G 3 (MQ below (QcX shA G ((none, r.2) : Option Value × Mem).1 ((none, r.2) : Option Value × Mem).2) args s 0 0 (AW shA G.2.1)) 38 [(0, .ref 9), (1, .int x1), (2, .int x2)] [] r9.2
      refine X_iinc F dX3_readAnd_38 rfl (v := (1 : Int32)) rfl (by decide) rfl ?_
      refine X_goto (tgt := 7) F dX3_readAnd_41 (by decide) ?_
      refine X_pick [1, 2, 0] rfl ?_
      exact hrec7 _ _ _ h
set_option maxRecDepth 20000 in
theorem F3_readAnd_l7_ok {p : Program} {l : Launch} {e : Env} {s : State} {m : MethodId} {args : Array Value} {below : List Frame} {meth : Method} {c : Code} {G : GG} {D : Nat} {r : Int32 × Mem} {rc : Nat → Int32 → Mem → Option (Int32 × Mem)} (F : FrP shA G p s m args c RX3 cX3_readAnd 3) (hr : meth.sig.returnType = none) (hlk : meth.locks = false) (hD : 3 ≤ D) (hrc : (∀ (b0 : Int32) (M : Mem) (r : Int32 × Mem), rc 0 b0 M = some r → MetX shA l G yX3_readOr cX3_readOr 3 none (D - 1) [.ref 9, .int b0] M (none, r.2)) ∧ (∀ (b0 : Int32) (M : Mem) (r : Int32 × Mem), rc 1 b0 M = some r → MetX shA l G yX3_readAnd cX3_readAnd 3 none (D - 1) [.ref 9, .int b0] M (none, r.2)) ∧ (∀ (b0 : Int32) (M : Mem) (r : Int32 × Mem), rc 2 b0 M = some r → MetX shA l G yX3_readNot cX3_readNot 3 none (D - 1) [.ref 9, .int b0] M (none, r.2)) ∧ (∀ (b0 : Int32) (M : Mem) (r : Int32 × Mem), rc 3 b0 M = some r → MetX shA l G yX3_readSum cX3_readSum 4 none (D - 1) [.ref 9, .int b0] M (none, r.2)) ∧ (∀ (b0 : Int32) (M : Mem) (r : Int32 × Mem), rc 4 b0 M = some r → MetX shA l G yX3_readTerm cX3_readTerm 3 none (D - 1) [.ref 9, .int b0] M (none, r.2)) ∧ (∀ (b0 : Int32) (M : Mem) (r : Int32 × Mem), rc 5 b0 M = some r → MetX shA l G yX3_readOne cX3_readOne 2 none (D - 1) [.ref 9, .int b0] M (none, r.2))) : ∀ (fu : Nat) (M : Mem) (x1 : Int32) (x2 : Int32), F3_readAnd_l7 rc fu M x1 x2 = some r → XJ shA p l e (rmX D) s m args below meth c 0 0 G 3 (MQ below (QcX shA G ((none, r.2) : Option Value × Mem).1 ((none, r.2) : Option Value × Mem).2) args s 0 0 (AW shA G.2.1)) 7 [(0, .ref 9), (1, .int x1), (2, .int x2)] [] M := by
  intro fu
  induction fu with
  | zero => intro M x1 x2 h; cases h
  | succ fu ih => intro M x1 x2 h; exact F3_readAnd_l7_bok F hr hlk hD hrc (fun M x1 x2 => ih M x1 x2) h
set_option maxRecDepth 20000 in
theorem F3_readAnd_ok {p : Program} {l : Launch} {e : Env} {s : State} {m : MethodId} {args : Array Value} {below : List Frame} {meth : Method} {c : Code} {G : GG} {D : Nat} {r : Int32 × Mem} {rc : Nat → Int32 → Mem → Option (Int32 × Mem)} (F : FrP shA G p s m args c RX3 cX3_readAnd 3) (hr : meth.sig.returnType = none) (hlk : meth.locks = false) (hD : 3 ≤ D) (hrc : (∀ (b0 : Int32) (M : Mem) (r : Int32 × Mem), rc 0 b0 M = some r → MetX shA l G yX3_readOr cX3_readOr 3 none (D - 1) [.ref 9, .int b0] M (none, r.2)) ∧ (∀ (b0 : Int32) (M : Mem) (r : Int32 × Mem), rc 1 b0 M = some r → MetX shA l G yX3_readAnd cX3_readAnd 3 none (D - 1) [.ref 9, .int b0] M (none, r.2)) ∧ (∀ (b0 : Int32) (M : Mem) (r : Int32 × Mem), rc 2 b0 M = some r → MetX shA l G yX3_readNot cX3_readNot 3 none (D - 1) [.ref 9, .int b0] M (none, r.2)) ∧ (∀ (b0 : Int32) (M : Mem) (r : Int32 × Mem), rc 3 b0 M = some r → MetX shA l G yX3_readSum cX3_readSum 4 none (D - 1) [.ref 9, .int b0] M (none, r.2)) ∧ (∀ (b0 : Int32) (M : Mem) (r : Int32 × Mem), rc 4 b0 M = some r → MetX shA l G yX3_readTerm cX3_readTerm 3 none (D - 1) [.ref 9, .int b0] M (none, r.2)) ∧ (∀ (b0 : Int32) (M : Mem) (r : Int32 × Mem), rc 5 b0 M = some r → MetX shA l G yX3_readOne cX3_readOne 2 none (D - 1) [.ref 9, .int b0] M (none, r.2))) {M : Mem} {a1 : Int32} (h : F3_readAnd rc M a1 = some r) : XJ shA p l e (rmX D) s m args below meth c 0 0 G 3 (MQ below (QcX shA G ((none, r.2) : Option Value × Mem).1 ((none, r.2) : Option Value × Mem).2) args s 0 0 (AW shA G.2.1)) 0 [(0, .ref 9), (1, .int a1)] [] M := by
  unfold F3_readAnd at h
  refine X_aload_n F dX3_readAnd_0 rfl ?_
  refine X_iload_n F dX3_readAnd_1 rfl ?_
  obtain ⟨r1, h2, h⟩ := bndS h
  refine X_callV (ci := 9) (As := [.int a1]) (rest := []) F fkRX3_120 feX3_readNot fvX3_readNot ⟨_, _, _, rfl, rfl, rfl⟩ (hrc.2.2.1 _ _ _ h2) rfl rfl (Nat.le_of_ble_eq_true rfl) (rm_ok (by omega) (by decide)) dX3_readAnd_2 ?_
  show XJ shA p l e (rmX D) s m args below meth c 0 0 G 3 (MQ below (QcX shA G ((none, r.2) : Option Value × Mem).1 ((none, r.2) : Option Value × Mem).2) args s 0 0 (AW shA G.2.1)) 5 [(0, .ref 9), (1, .int a1)] [] r1.2
  refine X_iconst F dX3_readAnd_5 (v := (0 : Int32)) rfl ?_
  refine X_istore_n F dX3_readAnd_6 (by decide) rfl ?_
  refine X_pick [1, 2, 0] rfl ?_
  exact F3_readAnd_l7_ok F hr hlk hD hrc FUEL _ _ _ h
set_option maxRecDepth 20000 in
theorem F3_readNot_j70_ok {p : Program} {l : Launch} {e : Env} {s : State} {m : MethodId} {args : Array Value} {below : List Frame} {meth : Method} {c : Code} {G : GG} {D : Nat} {r : Int32 × Mem} {rc : Nat → Int32 → Mem → Option (Int32 × Mem)} (F : FrP shA G p s m args c RX3 cX3_readNot 3) (hr : meth.sig.returnType = none) (hlk : meth.locks = false) (hD : 3 ≤ D) (hrc : (∀ (b0 : Int32) (M : Mem) (r : Int32 × Mem), rc 0 b0 M = some r → MetX shA l G yX3_readOr cX3_readOr 3 none (D - 1) [.ref 9, .int b0] M (none, r.2)) ∧ (∀ (b0 : Int32) (M : Mem) (r : Int32 × Mem), rc 1 b0 M = some r → MetX shA l G yX3_readAnd cX3_readAnd 3 none (D - 1) [.ref 9, .int b0] M (none, r.2)) ∧ (∀ (b0 : Int32) (M : Mem) (r : Int32 × Mem), rc 2 b0 M = some r → MetX shA l G yX3_readNot cX3_readNot 3 none (D - 1) [.ref 9, .int b0] M (none, r.2)) ∧ (∀ (b0 : Int32) (M : Mem) (r : Int32 × Mem), rc 3 b0 M = some r → MetX shA l G yX3_readSum cX3_readSum 4 none (D - 1) [.ref 9, .int b0] M (none, r.2)) ∧ (∀ (b0 : Int32) (M : Mem) (r : Int32 × Mem), rc 4 b0 M = some r → MetX shA l G yX3_readTerm cX3_readTerm 3 none (D - 1) [.ref 9, .int b0] M (none, r.2)) ∧ (∀ (b0 : Int32) (M : Mem) (r : Int32 × Mem), rc 5 b0 M = some r → MetX shA l G yX3_readOne cX3_readOne 2 none (D - 1) [.ref 9, .int b0] M (none, r.2))) {M : Mem} {x1 : Int32} {y0 : Int32} (h : F3_readNot_j70 rc M x1 y0 = some r) : XJ shA p l e (rmX D) s m args below meth c 0 0 G 3 (MQ below (QcX shA G ((none, r.2) : Option Value × Mem).1 ((none, r.2) : Option Value × Mem).2) args s 0 0 (AW shA G.2.1)) 70 [(0, .ref 9), (1, .int x1)] [.int y0] M := by
  unfold F3_readNot_j70 at h
  refine X_istore_n F dX3_readNot_70 (by decide) rfl ?_
  refine X_aload_n F dX3_readNot_71 rfl ?_
  obtain ⟨r14, h15, h⟩ := bndS h
  refine X_callV (ci := 9) (As := []) (rest := []) F fkRX3_114 feX3_advance fvX3_advance ⟨_, _, _, rfl, rfl, rfl⟩ (F3_advance_met (D := D - 1) F.2.2.2.2.2.2.2.1 (by omega) h15) rfl rfl (Nat.le_of_ble_eq_true rfl) (rm_ok (by omega) (by decide)) dX3_readNot_72 ?_
  show XJ shA p l e (rmX D) s m args below meth c 0 0 G 3 (MQ below (QcX shA G ((none, r.2) : Option Value × Mem).1 ((none, r.2) : Option Value × Mem).2) args s 0 0 (AW shA G.2.1)) 75 [(2, .int y0), (0, .ref 9), (1, .int x1)] [] r14.2
  refine X_aload_n F dX3_readNot_75 rfl ?_
  refine X_iload_n F dX3_readNot_76 rfl ?_
  obtain ⟨r16, h17, h⟩ := bndS h
  refine X_callV (ci := 9) (As := [.int x1]) (rest := []) F fkRX3_126 feX3_readSum fvX3_readSum ⟨_, _, _, rfl, rfl, rfl⟩ (hrc.2.2.2.1 _ _ _ h17) rfl rfl (Nat.le_of_ble_eq_true rfl) (rm_ok (by omega) (by decide)) dX3_readNot_77 ?_
  show XJ shA p l e (rmX D) s m args below meth c 0 0 G 3 (MQ below (QcX shA G ((none, r.2) : Option Value × Mem).1 ((none, r.2) : Option Value × Mem).2) args s 0 0 (AW shA G.2.1)) 80 [(2, .int y0), (0, .ref 9), (1, .int x1)] [] r16.2
  refine X_aload_n F dX3_readNot_80 rfl ?_
  refine X_iload_n F dX3_readNot_81 rfl ?_
  obtain ⟨r18, h19, h⟩ := bndS h
  refine X_callV (ci := 9) (As := [.int y0]) (rest := []) F fkRX3_117 feX3_emit fvX3_emit ⟨_, _, _, rfl, rfl, rfl⟩ (F3_emit_met (D := D - 1) F.2.2.2.2.2.2.2.1 (by omega) h19) rfl rfl (Nat.le_of_ble_eq_true rfl) (rm_ok (by omega) (by decide)) dX3_readNot_82 ?_
  show XJ shA p l e (rmX D) s m args below meth c 0 0 G 3 (MQ below (QcX shA G ((none, r.2) : Option Value × Mem).1 ((none, r.2) : Option Value × Mem).2) args s 0 0 (AW shA G.2.1)) 85 [(2, .int y0), (0, .ref 9), (1, .int x1)] [] r18.2
  exact X_vret F hr hlk (retV h) dX3_readNot_85
set_option maxRecDepth 20000 in
theorem F3_readNot_j54_ok {p : Program} {l : Launch} {e : Env} {s : State} {m : MethodId} {args : Array Value} {below : List Frame} {meth : Method} {c : Code} {G : GG} {D : Nat} {r : Int32 × Mem} {rc : Nat → Int32 → Mem → Option (Int32 × Mem)} (F : FrP shA G p s m args c RX3 cX3_readNot 3) (hr : meth.sig.returnType = none) (hlk : meth.locks = false) (hD : 3 ≤ D) (hrc : (∀ (b0 : Int32) (M : Mem) (r : Int32 × Mem), rc 0 b0 M = some r → MetX shA l G yX3_readOr cX3_readOr 3 none (D - 1) [.ref 9, .int b0] M (none, r.2)) ∧ (∀ (b0 : Int32) (M : Mem) (r : Int32 × Mem), rc 1 b0 M = some r → MetX shA l G yX3_readAnd cX3_readAnd 3 none (D - 1) [.ref 9, .int b0] M (none, r.2)) ∧ (∀ (b0 : Int32) (M : Mem) (r : Int32 × Mem), rc 2 b0 M = some r → MetX shA l G yX3_readNot cX3_readNot 3 none (D - 1) [.ref 9, .int b0] M (none, r.2)) ∧ (∀ (b0 : Int32) (M : Mem) (r : Int32 × Mem), rc 3 b0 M = some r → MetX shA l G yX3_readSum cX3_readSum 4 none (D - 1) [.ref 9, .int b0] M (none, r.2)) ∧ (∀ (b0 : Int32) (M : Mem) (r : Int32 × Mem), rc 4 b0 M = some r → MetX shA l G yX3_readTerm cX3_readTerm 3 none (D - 1) [.ref 9, .int b0] M (none, r.2)) ∧ (∀ (b0 : Int32) (M : Mem) (r : Int32 × Mem), rc 5 b0 M = some r → MetX shA l G yX3_readOne cX3_readOne 2 none (D - 1) [.ref 9, .int b0] M (none, r.2))) {M : Mem} {x1 : Int32} (h : F3_readNot_j54 rc M x1 = some r) : XJ shA p l e (rmX D) s m args below meth c 0 0 G 3 (MQ below (QcX shA G ((none, r.2) : Option Value × Mem).1 ((none, r.2) : Option Value × Mem).2) args s 0 0 (AW shA G.2.1)) 54 [(0, .ref 9), (1, .int x1)] [] M := by
  unfold F3_readNot_j54 at h
  refine X_aload_n F dX3_readNot_54 rfl ?_
  refine X_geti (v := (M 9 7)) F ffRX3_40 dX3_readNot_55 rfl ?_
  refine X_bipush F dX3_readNot_58 (v := (60 : Int32)) rfl ?_
  refine X_icmp_ne (tgt := 68) F dX3_readNot_60 (by decide) (fun q13 => ?_) (fun q13 => ?_)
  · rw [if_pos q13] at h
    refine X_bipush F dX3_readNot_68 (v := (-12 : Int32)) rfl ?_
    exact F3_readNot_j70_ok F hr hlk hD hrc h
  · rw [if_neg (fun z => z q13)] at h
    refine X_bipush F dX3_readNot_63 (v := (-11 : Int32)) rfl ?_
    refine X_goto (tgt := 70) F dX3_readNot_65 (by decide) ?_
    exact F3_readNot_j70_ok F hr hlk hD hrc h
set_option maxRecDepth 20000 in
theorem F3_readNot_ok {p : Program} {l : Launch} {e : Env} {s : State} {m : MethodId} {args : Array Value} {below : List Frame} {meth : Method} {c : Code} {G : GG} {D : Nat} {r : Int32 × Mem} {rc : Nat → Int32 → Mem → Option (Int32 × Mem)} (F : FrP shA G p s m args c RX3 cX3_readNot 3) (hr : meth.sig.returnType = none) (hlk : meth.locks = false) (hD : 3 ≤ D) (hrc : (∀ (b0 : Int32) (M : Mem) (r : Int32 × Mem), rc 0 b0 M = some r → MetX shA l G yX3_readOr cX3_readOr 3 none (D - 1) [.ref 9, .int b0] M (none, r.2)) ∧ (∀ (b0 : Int32) (M : Mem) (r : Int32 × Mem), rc 1 b0 M = some r → MetX shA l G yX3_readAnd cX3_readAnd 3 none (D - 1) [.ref 9, .int b0] M (none, r.2)) ∧ (∀ (b0 : Int32) (M : Mem) (r : Int32 × Mem), rc 2 b0 M = some r → MetX shA l G yX3_readNot cX3_readNot 3 none (D - 1) [.ref 9, .int b0] M (none, r.2)) ∧ (∀ (b0 : Int32) (M : Mem) (r : Int32 × Mem), rc 3 b0 M = some r → MetX shA l G yX3_readSum cX3_readSum 4 none (D - 1) [.ref 9, .int b0] M (none, r.2)) ∧ (∀ (b0 : Int32) (M : Mem) (r : Int32 × Mem), rc 4 b0 M = some r → MetX shA l G yX3_readTerm cX3_readTerm 3 none (D - 1) [.ref 9, .int b0] M (none, r.2)) ∧ (∀ (b0 : Int32) (M : Mem) (r : Int32 × Mem), rc 5 b0 M = some r → MetX shA l G yX3_readOne cX3_readOne 2 none (D - 1) [.ref 9, .int b0] M (none, r.2))) {M : Mem} {a1 : Int32} (h : F3_readNot rc M a1 = some r) : XJ shA p l e (rmX D) s m args below meth c 0 0 G 3 (MQ below (QcX shA G ((none, r.2) : Option Value × Mem).1 ((none, r.2) : Option Value × Mem).2) args s 0 0 (AW shA G.2.1)) 0 [(0, .ref 9), (1, .int a1)] [] M := by
  unfold F3_readNot at h
  refine X_aload_n F dX3_readNot_0 rfl ?_
  refine X_geti (v := (M 9 7)) F ffRX3_40 dX3_readNot_1 rfl ?_
  refine X_bipush F dX3_readNot_4 (v := (-16 : Int32)) rfl ?_
  refine X_icmp_ne (tgt := 31) F dX3_readNot_6 (by decide) (fun q1 => ?_) (fun q1 => ?_)
  · rw [if_pos q1] at h
    refine X_aload_n F dX3_readNot_31 rfl ?_
    refine X_iload_n F dX3_readNot_32 rfl ?_
    obtain ⟨r2, h3, h⟩ := bndS h
    refine X_callV (ci := 9) (As := [.int a1]) (rest := []) F fkRX3_126 feX3_readSum fvX3_readSum ⟨_, _, _, rfl, rfl, rfl⟩ (hrc.2.2.2.1 _ _ _ h3) rfl rfl (Nat.le_of_ble_eq_true rfl) (rm_ok (by omega) (by decide)) dX3_readNot_33 ?_
    show XJ shA p l e (rmX D) s m args below meth c 0 0 G 3 (MQ below (QcX shA G ((none, r.2) : Option Value × Mem).1 ((none, r.2) : Option Value × Mem).2) args s 0 0 (AW shA G.2.1)) 36 [(0, .ref 9), (1, .int a1)] [] r2.2
    refine X_aload_n F dX3_readNot_36 rfl ?_
    refine X_geti (v := (r2.2 9 7)) F ffRX3_40 dX3_readNot_37 rfl ?_
    refine X_bipush F dX3_readNot_40 (v := (60 : Int32)) rfl ?_
    refine X_icmp_eq (tgt := 54) F dX3_readNot_42 (by decide) (fun q4 => ?_) (fun q4 => ?_)
    · rw [if_pos q4] at h
      exact F3_readNot_j54_ok F hr hlk hD hrc h
    · rw [if_neg q4] at h
      refine X_aload_n F dX3_readNot_45 rfl ?_
      refine X_geti (v := (r2.2 9 7)) F ffRX3_40 dX3_readNot_46 rfl ?_
      refine X_bipush F dX3_readNot_49 (v := (61 : Int32)) rfl ?_
      refine X_icmp_ne (tgt := 85) F dX3_readNot_51 (by decide) (fun q5 => ?_) (fun q5 => ?_)
      · rw [if_pos q5] at h
        exact X_vret F hr hlk (retV h) dX3_readNot_85
      · rw [if_neg (fun z => z q5)] at h
        exact F3_readNot_j54_ok F hr hlk hD hrc h
  · rw [if_neg (fun z => z q1)] at h
    refine X_aload_n F dX3_readNot_9 rfl ?_
    refine X_iload_n F dX3_readNot_10 rfl ?_
    obtain ⟨r6, h7, h⟩ := bndS h
    refine X_callV (ci := 9) (As := [.int a1]) (rest := []) F fkRX3_123 feX3_mayOpen fvX3_mayOpen ⟨_, _, _, rfl, rfl, rfl⟩ (F3_mayOpen_met (D := D - 1) F.2.2.2.2.2.2.2.1 (by omega) h7) rfl rfl (Nat.le_of_ble_eq_true rfl) (rm_ok (by omega) (by decide)) dX3_readNot_11 ?_
    show XJ shA p l e (rmX D) s m args below meth c 0 0 G 3 (MQ below (QcX shA G ((none, r.2) : Option Value × Mem).1 ((none, r.2) : Option Value × Mem).2) args s 0 0 (AW shA G.2.1)) 14 [(0, .ref 9), (1, .int a1)] [.int r6.1] r6.2
    refine X_if_eq (tgt := 30) F dX3_readNot_14 (by decide) (fun q8 => ?_) (fun q8 => ?_)
    · rw [if_pos q8] at h
      exact X_vret F hr hlk (retV h) dX3_readNot_30
    · rw [if_neg q8] at h
      refine X_aload_n F dX3_readNot_17 rfl ?_
      refine X_iload_n F dX3_readNot_18 rfl ?_
      refine X_iconst F dX3_readNot_19 (v := (1 : Int32)) rfl ?_
      refine X_iadd F dX3_readNot_20 ?_
      obtain ⟨r9, h10, h⟩ := bndS h
      refine X_callV (ci := 9) (As := [.int (a1 + (1 : Int32))]) (rest := []) F fkRX3_120 feX3_readNot fvX3_readNot ⟨_, _, _, rfl, rfl, rfl⟩ (hrc.2.2.1 _ _ _ h10) rfl rfl (Nat.le_of_ble_eq_true rfl) (rm_ok (by omega) (by decide)) dX3_readNot_21 ?_
      show XJ shA p l e (rmX D) s m args below meth c 0 0 G 3 (MQ below (QcX shA G ((none, r.2) : Option Value × Mem).1 ((none, r.2) : Option Value × Mem).2) args s 0 0 (AW shA G.2.1)) 24 [(0, .ref 9), (1, .int a1)] [] r9.2
      refine X_aload_n F dX3_readNot_24 rfl ?_
      refine X_bipush F dX3_readNot_25 (v := (-8 : Int32)) rfl ?_
      obtain ⟨r11, h12, h⟩ := bndS h
      refine X_callV (ci := 9) (As := [.int (-8 : Int32)]) (rest := []) F fkRX3_117 feX3_emit fvX3_emit ⟨_, _, _, rfl, rfl, rfl⟩ (F3_emit_met (D := D - 1) F.2.2.2.2.2.2.2.1 (by omega) h12) rfl rfl (Nat.le_of_ble_eq_true rfl) (rm_ok (by omega) (by decide)) dX3_readNot_27 ?_
      show XJ shA p l e (rmX D) s m args below meth c 0 0 G 3 (MQ below (QcX shA G ((none, r.2) : Option Value × Mem).1 ((none, r.2) : Option Value × Mem).2) args s 0 0 (AW shA G.2.1)) 30 [(0, .ref 9), (1, .int a1)] [] r11.2
      exact X_vret F hr hlk (retV h) dX3_readNot_30
set_option maxRecDepth 20000 in
theorem F3_readSum_j48_ok {p : Program} {l : Launch} {e : Env} {s : State} {m : MethodId} {args : Array Value} {below : List Frame} {meth : Method} {c : Code} {G : GG} {D : Nat} {r : Int32 × Mem} {rc : Nat → Int32 → Mem → Option (Int32 × Mem)} {rec7 : Mem → Int32 → Int32 → Option (Int32 × Mem)} (F : FrP shA G p s m args c RX3 cX3_readSum 4) (hr : meth.sig.returnType = none) (hlk : meth.locks = false) (hD : 3 ≤ D) (hrc : (∀ (b0 : Int32) (M : Mem) (r : Int32 × Mem), rc 0 b0 M = some r → MetX shA l G yX3_readOr cX3_readOr 3 none (D - 1) [.ref 9, .int b0] M (none, r.2)) ∧ (∀ (b0 : Int32) (M : Mem) (r : Int32 × Mem), rc 1 b0 M = some r → MetX shA l G yX3_readAnd cX3_readAnd 3 none (D - 1) [.ref 9, .int b0] M (none, r.2)) ∧ (∀ (b0 : Int32) (M : Mem) (r : Int32 × Mem), rc 2 b0 M = some r → MetX shA l G yX3_readNot cX3_readNot 3 none (D - 1) [.ref 9, .int b0] M (none, r.2)) ∧ (∀ (b0 : Int32) (M : Mem) (r : Int32 × Mem), rc 3 b0 M = some r → MetX shA l G yX3_readSum cX3_readSum 4 none (D - 1) [.ref 9, .int b0] M (none, r.2)) ∧ (∀ (b0 : Int32) (M : Mem) (r : Int32 × Mem), rc 4 b0 M = some r → MetX shA l G yX3_readTerm cX3_readTerm 3 none (D - 1) [.ref 9, .int b0] M (none, r.2)) ∧ (∀ (b0 : Int32) (M : Mem) (r : Int32 × Mem), rc 5 b0 M = some r → MetX shA l G yX3_readOne cX3_readOne 2 none (D - 1) [.ref 9, .int b0] M (none, r.2))) (hrec7 : ∀ (M : Mem) (x1 : Int32) (x2 : Int32), rec7 M x1 x2 = some r → XJ shA p l e (rmX D) s m args below meth c 0 0 G 4 (MQ below (QcX shA G ((none, r.2) : Option Value × Mem).1 ((none, r.2) : Option Value × Mem).2) args s 0 0 (AW shA G.2.1)) 7 [(0, .ref 9), (1, .int x1), (2, .int x2)] [] M) {M : Mem} {x1 : Int32} {x2 : Int32} {y0 : Int32} (h : F3_readSum_j48 rc rec7 M x1 x2 y0 = some r) : XJ shA p l e (rmX D) s m args below meth c 0 0 G 4 (MQ below (QcX shA G ((none, r.2) : Option Value × Mem).1 ((none, r.2) : Option Value × Mem).2) args s 0 0 (AW shA G.2.1)) 48 [(0, .ref 9), (1, .int x1), (2, .int x2)] [.int y0] M := by
  unfold F3_readSum_j48 at h
  refine X_istore_n F dX3_readSum_48 (by decide) rfl ?_
  refine X_aload_n F dX3_readSum_49 rfl ?_
  obtain ⟨r7, h8, h⟩ := bndS h
  refine X_callV (ci := 9) (As := []) (rest := []) F fkRX3_114 feX3_advance fvX3_advance ⟨_, _, _, rfl, rfl, rfl⟩ (F3_advance_met (D := D - 1) F.2.2.2.2.2.2.2.1 (by omega) h8) rfl rfl (Nat.le_of_ble_eq_true rfl) (rm_ok (by omega) (by decide)) dX3_readSum_50 ?_
  show XJ shA p l e (rmX D) s m args below meth c 0 0 G 4 (MQ below (QcX shA G ((none, r.2) : Option Value × Mem).1 ((none, r.2) : Option Value × Mem).2) args s 0 0 (AW shA G.2.1)) 53 [(3, .int y0), (0, .ref 9), (1, .int x1), (2, .int x2)] [] r7.2
  refine X_aload_n F dX3_readSum_53 rfl ?_
  refine X_iload_n F dX3_readSum_54 rfl ?_
  obtain ⟨r9, h10, h⟩ := bndS h
  refine X_callV (ci := 9) (As := [.int x1]) (rest := []) F fkRX3_129 feX3_readTerm fvX3_readTerm ⟨_, _, _, rfl, rfl, rfl⟩ (hrc.2.2.2.2.1 _ _ _ h10) rfl rfl (Nat.le_of_ble_eq_true rfl) (rm_ok (by omega) (by decide)) dX3_readSum_55 ?_
  show XJ shA p l e (rmX D) s m args below meth c 0 0 G 4 (MQ below (QcX shA G ((none, r.2) : Option Value × Mem).1 ((none, r.2) : Option Value × Mem).2) args s 0 0 (AW shA G.2.1)) 58 [(3, .int y0), (0, .ref 9), (1, .int x1), (2, .int x2)] [] r9.2
  refine X_aload_n F dX3_readSum_58 rfl ?_
  refine X_iload_n F dX3_readSum_59 rfl ?_
  obtain ⟨r11, h12, h⟩ := bndS h
  refine X_callV (ci := 9) (As := [.int y0]) (rest := []) F fkRX3_117 feX3_emit fvX3_emit ⟨_, _, _, rfl, rfl, rfl⟩ (F3_emit_met (D := D - 1) F.2.2.2.2.2.2.2.1 (by omega) h12) rfl rfl (Nat.le_of_ble_eq_true rfl) (rm_ok (by omega) (by decide)) dX3_readSum_60 ?_
  show XJ shA p l e (rmX D) s m args below meth c 0 0 G 4 (MQ below (QcX shA G ((none, r.2) : Option Value × Mem).1 ((none, r.2) : Option Value × Mem).2) args s 0 0 (AW shA G.2.1)) 63 [(3, .int y0), (0, .ref 9), (1, .int x1), (2, .int x2)] [] r11.2
  refine X_iinc F dX3_readSum_63 rfl (v := (1 : Int32)) rfl (by decide) rfl ?_
  refine X_goto (tgt := 7) F dX3_readSum_66 (by decide) ?_
  refine X_pick [2, 3, 0] rfl ?_
  exact hrec7 _ _ _ h
set_option maxRecDepth 20000 in
theorem F3_readSum_j32_ok {p : Program} {l : Launch} {e : Env} {s : State} {m : MethodId} {args : Array Value} {below : List Frame} {meth : Method} {c : Code} {G : GG} {D : Nat} {r : Int32 × Mem} {rc : Nat → Int32 → Mem → Option (Int32 × Mem)} {rec7 : Mem → Int32 → Int32 → Option (Int32 × Mem)} (F : FrP shA G p s m args c RX3 cX3_readSum 4) (hr : meth.sig.returnType = none) (hlk : meth.locks = false) (hD : 3 ≤ D) (hrc : (∀ (b0 : Int32) (M : Mem) (r : Int32 × Mem), rc 0 b0 M = some r → MetX shA l G yX3_readOr cX3_readOr 3 none (D - 1) [.ref 9, .int b0] M (none, r.2)) ∧ (∀ (b0 : Int32) (M : Mem) (r : Int32 × Mem), rc 1 b0 M = some r → MetX shA l G yX3_readAnd cX3_readAnd 3 none (D - 1) [.ref 9, .int b0] M (none, r.2)) ∧ (∀ (b0 : Int32) (M : Mem) (r : Int32 × Mem), rc 2 b0 M = some r → MetX shA l G yX3_readNot cX3_readNot 3 none (D - 1) [.ref 9, .int b0] M (none, r.2)) ∧ (∀ (b0 : Int32) (M : Mem) (r : Int32 × Mem), rc 3 b0 M = some r → MetX shA l G yX3_readSum cX3_readSum 4 none (D - 1) [.ref 9, .int b0] M (none, r.2)) ∧ (∀ (b0 : Int32) (M : Mem) (r : Int32 × Mem), rc 4 b0 M = some r → MetX shA l G yX3_readTerm cX3_readTerm 3 none (D - 1) [.ref 9, .int b0] M (none, r.2)) ∧ (∀ (b0 : Int32) (M : Mem) (r : Int32 × Mem), rc 5 b0 M = some r → MetX shA l G yX3_readOne cX3_readOne 2 none (D - 1) [.ref 9, .int b0] M (none, r.2))) (hrec7 : ∀ (M : Mem) (x1 : Int32) (x2 : Int32), rec7 M x1 x2 = some r → XJ shA p l e (rmX D) s m args below meth c 0 0 G 4 (MQ below (QcX shA G ((none, r.2) : Option Value × Mem).1 ((none, r.2) : Option Value × Mem).2) args s 0 0 (AW shA G.2.1)) 7 [(0, .ref 9), (1, .int x1), (2, .int x2)] [] M) {M : Mem} {x1 : Int32} {x2 : Int32} (h : F3_readSum_j32 rc rec7 M x1 x2 = some r) : XJ shA p l e (rmX D) s m args below meth c 0 0 G 4 (MQ below (QcX shA G ((none, r.2) : Option Value × Mem).1 ((none, r.2) : Option Value × Mem).2) args s 0 0 (AW shA G.2.1)) 32 [(0, .ref 9), (1, .int x1), (2, .int x2)] [] M := by
  unfold F3_readSum_j32 at h
  refine X_aload_n F dX3_readSum_32 rfl ?_
  refine X_geti (v := (M 9 7)) F ffRX3_40 dX3_readSum_33 rfl ?_
  refine X_bipush F dX3_readSum_36 (v := (43 : Int32)) rfl ?_
  refine X_icmp_ne (tgt := 46) F dX3_readSum_38 (by decide) (fun q6 => ?_) (fun q6 => ?_)
  · rw [if_pos q6] at h
    refine X_bipush F dX3_readSum_46 (v := (-14 : Int32)) rfl ?_
    exact F3_readSum_j48_ok F hr hlk hD hrc hrec7 h
  · rw [if_neg (fun z => z q6)] at h
    refine X_bipush F dX3_readSum_41 (v := (-13 : Int32)) rfl ?_
    refine X_goto (tgt := 48) F dX3_readSum_43 (by decide) ?_
    exact F3_readSum_j48_ok F hr hlk hD hrc hrec7 h
set_option maxRecDepth 20000 in
theorem F3_readSum_l7_bok {p : Program} {l : Launch} {e : Env} {s : State} {m : MethodId} {args : Array Value} {below : List Frame} {meth : Method} {c : Code} {G : GG} {D : Nat} {r : Int32 × Mem} {rc : Nat → Int32 → Mem → Option (Int32 × Mem)} {rec7 : Mem → Int32 → Int32 → Option (Int32 × Mem)} (F : FrP shA G p s m args c RX3 cX3_readSum 4) (hr : meth.sig.returnType = none) (hlk : meth.locks = false) (hD : 3 ≤ D) (hrc : (∀ (b0 : Int32) (M : Mem) (r : Int32 × Mem), rc 0 b0 M = some r → MetX shA l G yX3_readOr cX3_readOr 3 none (D - 1) [.ref 9, .int b0] M (none, r.2)) ∧ (∀ (b0 : Int32) (M : Mem) (r : Int32 × Mem), rc 1 b0 M = some r → MetX shA l G yX3_readAnd cX3_readAnd 3 none (D - 1) [.ref 9, .int b0] M (none, r.2)) ∧ (∀ (b0 : Int32) (M : Mem) (r : Int32 × Mem), rc 2 b0 M = some r → MetX shA l G yX3_readNot cX3_readNot 3 none (D - 1) [.ref 9, .int b0] M (none, r.2)) ∧ (∀ (b0 : Int32) (M : Mem) (r : Int32 × Mem), rc 3 b0 M = some r → MetX shA l G yX3_readSum cX3_readSum 4 none (D - 1) [.ref 9, .int b0] M (none, r.2)) ∧ (∀ (b0 : Int32) (M : Mem) (r : Int32 × Mem), rc 4 b0 M = some r → MetX shA l G yX3_readTerm cX3_readTerm 3 none (D - 1) [.ref 9, .int b0] M (none, r.2)) ∧ (∀ (b0 : Int32) (M : Mem) (r : Int32 × Mem), rc 5 b0 M = some r → MetX shA l G yX3_readOne cX3_readOne 2 none (D - 1) [.ref 9, .int b0] M (none, r.2))) (hrec7 : ∀ (M : Mem) (x1 : Int32) (x2 : Int32), rec7 M x1 x2 = some r → XJ shA p l e (rmX D) s m args below meth c 0 0 G 4 (MQ below (QcX shA G ((none, r.2) : Option Value × Mem).1 ((none, r.2) : Option Value × Mem).2) args s 0 0 (AW shA G.2.1)) 7 [(0, .ref 9), (1, .int x1), (2, .int x2)] [] M) {M : Mem} {x1 : Int32} {x2 : Int32} (h : F3_readSum_l7_b rc rec7 M x1 x2 = some r) : XJ shA p l e (rmX D) s m args below meth c 0 0 G 4 (MQ below (QcX shA G ((none, r.2) : Option Value × Mem).1 ((none, r.2) : Option Value × Mem).2) args s 0 0 (AW shA G.2.1)) 7 [(0, .ref 9), (1, .int x1), (2, .int x2)] [] M := by
  unfold F3_readSum_l7_b at h
  refine X_iload_n F dX3_readSum_7 rfl ?_
  refine X_sipush F dX3_readSum_8 (v := (160 : Int32)) rfl ?_
  refine X_icmp_ge (tgt := 69) F dX3_readSum_11 (by decide) (fun q3 => ?_) (fun q3 => ?_)
  · rw [if_pos q3] at h
    exact X_vret F hr hlk (retV h) dX3_readSum_69
  · rw [if_neg q3] at h
    refine X_aload_n F dX3_readSum_14 rfl ?_
    refine X_geti (v := (M 9 7)) F ffRX3_40 dX3_readSum_15 rfl ?_
    refine X_bipush F dX3_readSum_18 (v := (43 : Int32)) rfl ?_
    refine X_icmp_eq (tgt := 32) F dX3_readSum_20 (by decide) (fun q4 => ?_) (fun q4 => ?_)
    · rw [if_pos q4] at h
      exact F3_readSum_j32_ok F hr hlk hD hrc hrec7 h
    · rw [if_neg q4] at h
      refine X_aload_n F dX3_readSum_23 rfl ?_
      refine X_geti (v := (M 9 7)) F ffRX3_40 dX3_readSum_24 rfl ?_
      refine X_bipush F dX3_readSum_27 (v := (45 : Int32)) rfl ?_
      refine X_icmp_ne (tgt := 69) F dX3_readSum_29 (by decide) (fun q5 => ?_) (fun q5 => ?_)
      · rw [if_pos q5] at h
        exact X_vret F hr hlk (retV h) dX3_readSum_69
      · rw [if_neg (fun z => z q5)] at h
        exact F3_readSum_j32_ok F hr hlk hD hrc hrec7 h
set_option maxRecDepth 20000 in
theorem F3_readSum_l7_ok {p : Program} {l : Launch} {e : Env} {s : State} {m : MethodId} {args : Array Value} {below : List Frame} {meth : Method} {c : Code} {G : GG} {D : Nat} {r : Int32 × Mem} {rc : Nat → Int32 → Mem → Option (Int32 × Mem)} (F : FrP shA G p s m args c RX3 cX3_readSum 4) (hr : meth.sig.returnType = none) (hlk : meth.locks = false) (hD : 3 ≤ D) (hrc : (∀ (b0 : Int32) (M : Mem) (r : Int32 × Mem), rc 0 b0 M = some r → MetX shA l G yX3_readOr cX3_readOr 3 none (D - 1) [.ref 9, .int b0] M (none, r.2)) ∧ (∀ (b0 : Int32) (M : Mem) (r : Int32 × Mem), rc 1 b0 M = some r → MetX shA l G yX3_readAnd cX3_readAnd 3 none (D - 1) [.ref 9, .int b0] M (none, r.2)) ∧ (∀ (b0 : Int32) (M : Mem) (r : Int32 × Mem), rc 2 b0 M = some r → MetX shA l G yX3_readNot cX3_readNot 3 none (D - 1) [.ref 9, .int b0] M (none, r.2)) ∧ (∀ (b0 : Int32) (M : Mem) (r : Int32 × Mem), rc 3 b0 M = some r → MetX shA l G yX3_readSum cX3_readSum 4 none (D - 1) [.ref 9, .int b0] M (none, r.2)) ∧ (∀ (b0 : Int32) (M : Mem) (r : Int32 × Mem), rc 4 b0 M = some r → MetX shA l G yX3_readTerm cX3_readTerm 3 none (D - 1) [.ref 9, .int b0] M (none, r.2)) ∧ (∀ (b0 : Int32) (M : Mem) (r : Int32 × Mem), rc 5 b0 M = some r → MetX shA l G yX3_readOne cX3_readOne 2 none (D - 1) [.ref 9, .int b0] M (none, r.2))) : ∀ (fu : Nat) (M : Mem) (x1 : Int32) (x2 : Int32), F3_readSum_l7 rc fu M x1 x2 = some r → XJ shA p l e (rmX D) s m args below meth c 0 0 G 4 (MQ below (QcX shA G ((none, r.2) : Option Value × Mem).1 ((none, r.2) : Option Value × Mem).2) args s 0 0 (AW shA G.2.1)) 7 [(0, .ref 9), (1, .int x1), (2, .int x2)] [] M := by
  intro fu
  induction fu with
  | zero => intro M x1 x2 h; cases h
  | succ fu ih => intro M x1 x2 h; exact F3_readSum_l7_bok F hr hlk hD hrc (fun M x1 x2 => ih M x1 x2) h
set_option maxRecDepth 20000 in
theorem F3_readSum_ok {p : Program} {l : Launch} {e : Env} {s : State} {m : MethodId} {args : Array Value} {below : List Frame} {meth : Method} {c : Code} {G : GG} {D : Nat} {r : Int32 × Mem} {rc : Nat → Int32 → Mem → Option (Int32 × Mem)} (F : FrP shA G p s m args c RX3 cX3_readSum 4) (hr : meth.sig.returnType = none) (hlk : meth.locks = false) (hD : 3 ≤ D) (hrc : (∀ (b0 : Int32) (M : Mem) (r : Int32 × Mem), rc 0 b0 M = some r → MetX shA l G yX3_readOr cX3_readOr 3 none (D - 1) [.ref 9, .int b0] M (none, r.2)) ∧ (∀ (b0 : Int32) (M : Mem) (r : Int32 × Mem), rc 1 b0 M = some r → MetX shA l G yX3_readAnd cX3_readAnd 3 none (D - 1) [.ref 9, .int b0] M (none, r.2)) ∧ (∀ (b0 : Int32) (M : Mem) (r : Int32 × Mem), rc 2 b0 M = some r → MetX shA l G yX3_readNot cX3_readNot 3 none (D - 1) [.ref 9, .int b0] M (none, r.2)) ∧ (∀ (b0 : Int32) (M : Mem) (r : Int32 × Mem), rc 3 b0 M = some r → MetX shA l G yX3_readSum cX3_readSum 4 none (D - 1) [.ref 9, .int b0] M (none, r.2)) ∧ (∀ (b0 : Int32) (M : Mem) (r : Int32 × Mem), rc 4 b0 M = some r → MetX shA l G yX3_readTerm cX3_readTerm 3 none (D - 1) [.ref 9, .int b0] M (none, r.2)) ∧ (∀ (b0 : Int32) (M : Mem) (r : Int32 × Mem), rc 5 b0 M = some r → MetX shA l G yX3_readOne cX3_readOne 2 none (D - 1) [.ref 9, .int b0] M (none, r.2))) {M : Mem} {a1 : Int32} (h : F3_readSum rc M a1 = some r) : XJ shA p l e (rmX D) s m args below meth c 0 0 G 4 (MQ below (QcX shA G ((none, r.2) : Option Value × Mem).1 ((none, r.2) : Option Value × Mem).2) args s 0 0 (AW shA G.2.1)) 0 [(0, .ref 9), (1, .int a1)] [] M := by
  unfold F3_readSum at h
  refine X_aload_n F dX3_readSum_0 rfl ?_
  refine X_iload_n F dX3_readSum_1 rfl ?_
  obtain ⟨r1, h2, h⟩ := bndS h
  refine X_callV (ci := 9) (As := [.int a1]) (rest := []) F fkRX3_129 feX3_readTerm fvX3_readTerm ⟨_, _, _, rfl, rfl, rfl⟩ (hrc.2.2.2.2.1 _ _ _ h2) rfl rfl (Nat.le_of_ble_eq_true rfl) (rm_ok (by omega) (by decide)) dX3_readSum_2 ?_
  show XJ shA p l e (rmX D) s m args below meth c 0 0 G 4 (MQ below (QcX shA G ((none, r.2) : Option Value × Mem).1 ((none, r.2) : Option Value × Mem).2) args s 0 0 (AW shA G.2.1)) 5 [(0, .ref 9), (1, .int a1)] [] r1.2
  refine X_iconst F dX3_readSum_5 (v := (0 : Int32)) rfl ?_
  refine X_istore_n F dX3_readSum_6 (by decide) rfl ?_
  refine X_pick [1, 2, 0] rfl ?_
  exact F3_readSum_l7_ok F hr hlk hD hrc FUEL _ _ _ h
set_option maxRecDepth 20000 in
theorem F3_readTerm_l7_bok {p : Program} {l : Launch} {e : Env} {s : State} {m : MethodId} {args : Array Value} {below : List Frame} {meth : Method} {c : Code} {G : GG} {D : Nat} {r : Int32 × Mem} {rc : Nat → Int32 → Mem → Option (Int32 × Mem)} {rec7 : Mem → Int32 → Int32 → Option (Int32 × Mem)} (F : FrP shA G p s m args c RX3 cX3_readTerm 3) (hr : meth.sig.returnType = none) (hlk : meth.locks = false) (hD : 3 ≤ D) (hrc : (∀ (b0 : Int32) (M : Mem) (r : Int32 × Mem), rc 0 b0 M = some r → MetX shA l G yX3_readOr cX3_readOr 3 none (D - 1) [.ref 9, .int b0] M (none, r.2)) ∧ (∀ (b0 : Int32) (M : Mem) (r : Int32 × Mem), rc 1 b0 M = some r → MetX shA l G yX3_readAnd cX3_readAnd 3 none (D - 1) [.ref 9, .int b0] M (none, r.2)) ∧ (∀ (b0 : Int32) (M : Mem) (r : Int32 × Mem), rc 2 b0 M = some r → MetX shA l G yX3_readNot cX3_readNot 3 none (D - 1) [.ref 9, .int b0] M (none, r.2)) ∧ (∀ (b0 : Int32) (M : Mem) (r : Int32 × Mem), rc 3 b0 M = some r → MetX shA l G yX3_readSum cX3_readSum 4 none (D - 1) [.ref 9, .int b0] M (none, r.2)) ∧ (∀ (b0 : Int32) (M : Mem) (r : Int32 × Mem), rc 4 b0 M = some r → MetX shA l G yX3_readTerm cX3_readTerm 3 none (D - 1) [.ref 9, .int b0] M (none, r.2)) ∧ (∀ (b0 : Int32) (M : Mem) (r : Int32 × Mem), rc 5 b0 M = some r → MetX shA l G yX3_readOne cX3_readOne 2 none (D - 1) [.ref 9, .int b0] M (none, r.2))) (hrec7 : ∀ (M : Mem) (x1 : Int32) (x2 : Int32), rec7 M x1 x2 = some r → XJ shA p l e (rmX D) s m args below meth c 0 0 G 3 (MQ below (QcX shA G ((none, r.2) : Option Value × Mem).1 ((none, r.2) : Option Value × Mem).2) args s 0 0 (AW shA G.2.1)) 7 [(0, .ref 9), (1, .int x1), (2, .int x2)] [] M) {M : Mem} {x1 : Int32} {x2 : Int32} (h : F3_readTerm_l7_b rc rec7 M x1 x2 = some r) : XJ shA p l e (rmX D) s m args below meth c 0 0 G 3 (MQ below (QcX shA G ((none, r.2) : Option Value × Mem).1 ((none, r.2) : Option Value × Mem).2) args s 0 0 (AW shA G.2.1)) 7 [(0, .ref 9), (1, .int x1), (2, .int x2)] [] M := by
  unfold F3_readTerm_l7_b at h
  refine X_iload_n F dX3_readTerm_7 rfl ?_
  refine X_sipush F dX3_readTerm_8 (v := (160 : Int32)) rfl ?_
  refine X_icmp_ge (tgt := 44) F dX3_readTerm_11 (by decide) (fun q3 => ?_) (fun q3 => ?_)
  · rw [if_pos q3] at h
    exact X_vret F hr hlk (retV h) dX3_readTerm_44
  · rw [if_neg q3] at h
    refine X_aload_n F dX3_readTerm_14 rfl ?_
    refine X_geti (v := (M 9 7)) F ffRX3_40 dX3_readTerm_15 rfl ?_
    refine X_bipush F dX3_readTerm_18 (v := (42 : Int32)) rfl ?_
    refine X_icmp_ne (tgt := 44) F dX3_readTerm_20 (by decide) (fun q4 => ?_) (fun q4 => ?_)
    · rw [if_pos q4] at h
      exact X_vret F hr hlk (retV h) dX3_readTerm_44
    · rw [if_neg (fun z => z q4)] at h
      refine X_aload_n F dX3_readTerm_23 rfl ?_
      obtain ⟨r5, h6, h⟩ := bndS h
      refine X_callV (ci := 9) (As := []) (rest := []) F fkRX3_114 feX3_advance fvX3_advance ⟨_, _, _, rfl, rfl, rfl⟩ (F3_advance_met (D := D - 1) F.2.2.2.2.2.2.2.1 (by omega) h6) rfl rfl (Nat.le_of_ble_eq_true rfl) (rm_ok (by omega) (by decide)) dX3_readTerm_24 ?_
      show XJ shA p l e (rmX D) s m args below meth c 0 0 G 3 (MQ below (QcX shA G ((none, r.2) : Option Value × Mem).1 ((none, r.2) : Option Value × Mem).2) args s 0 0 (AW shA G.2.1)) 27 [(0, .ref 9), (1, .int x1), (2, .int x2)] [] r5.2
      refine X_aload_n F dX3_readTerm_27 rfl ?_
      refine X_iload_n F dX3_readTerm_28 rfl ?_
      obtain ⟨r7, h8, h⟩ := bndS h
      refine X_callV (ci := 9) (As := [.int x1]) (rest := []) F fkRX3_132 feX3_readOne fvX3_readOne ⟨_, _, _, rfl, rfl, rfl⟩ (hrc.2.2.2.2.2 _ _ _ h8) rfl rfl (Nat.le_of_ble_eq_true rfl) (rm_ok (by omega) (by decide)) dX3_readTerm_29 ?_
      show XJ shA p l e (rmX D) s m args below meth c 0 0 G 3 (MQ below (QcX shA G ((none, r.2) : Option Value × Mem).1 ((none, r.2) : Option Value × Mem).2) args s 0 0 (AW shA G.2.1)) 32 [(0, .ref 9), (1, .int x1), (2, .int x2)] [] r7.2
      refine X_aload_n F dX3_readTerm_32 rfl ?_
      refine X_bipush F dX3_readTerm_33 (v := (-15 : Int32)) rfl ?_
      obtain ⟨r9, h10, h⟩ := bndS h
      refine X_callV (ci := 9) (As := [.int (-15 : Int32)]) (rest := []) F fkRX3_117 feX3_emit fvX3_emit ⟨_, _, _, rfl, rfl, rfl⟩ (F3_emit_met (D := D - 1) F.2.2.2.2.2.2.2.1 (by omega) h10) rfl rfl (Nat.le_of_ble_eq_true rfl) (rm_ok (by omega) (by decide)) dX3_readTerm_35 ?_
      show XJ shA p l e (rmX D) s m args below meth c 0 0 G 3 (MQ below (QcX shA G ((none, r.2) : Option Value × Mem).1 ((none, r.2) : Option Value × Mem).2) args s 0 0 (AW shA G.2.1)) 38 [(0, .ref 9), (1, .int x1), (2, .int x2)] [] r9.2
      refine X_iinc F dX3_readTerm_38 rfl (v := (1 : Int32)) rfl (by decide) rfl ?_
      refine X_goto (tgt := 7) F dX3_readTerm_41 (by decide) ?_
      refine X_pick [1, 2, 0] rfl ?_
      exact hrec7 _ _ _ h
set_option maxRecDepth 20000 in
theorem F3_readTerm_l7_ok {p : Program} {l : Launch} {e : Env} {s : State} {m : MethodId} {args : Array Value} {below : List Frame} {meth : Method} {c : Code} {G : GG} {D : Nat} {r : Int32 × Mem} {rc : Nat → Int32 → Mem → Option (Int32 × Mem)} (F : FrP shA G p s m args c RX3 cX3_readTerm 3) (hr : meth.sig.returnType = none) (hlk : meth.locks = false) (hD : 3 ≤ D) (hrc : (∀ (b0 : Int32) (M : Mem) (r : Int32 × Mem), rc 0 b0 M = some r → MetX shA l G yX3_readOr cX3_readOr 3 none (D - 1) [.ref 9, .int b0] M (none, r.2)) ∧ (∀ (b0 : Int32) (M : Mem) (r : Int32 × Mem), rc 1 b0 M = some r → MetX shA l G yX3_readAnd cX3_readAnd 3 none (D - 1) [.ref 9, .int b0] M (none, r.2)) ∧ (∀ (b0 : Int32) (M : Mem) (r : Int32 × Mem), rc 2 b0 M = some r → MetX shA l G yX3_readNot cX3_readNot 3 none (D - 1) [.ref 9, .int b0] M (none, r.2)) ∧ (∀ (b0 : Int32) (M : Mem) (r : Int32 × Mem), rc 3 b0 M = some r → MetX shA l G yX3_readSum cX3_readSum 4 none (D - 1) [.ref 9, .int b0] M (none, r.2)) ∧ (∀ (b0 : Int32) (M : Mem) (r : Int32 × Mem), rc 4 b0 M = some r → MetX shA l G yX3_readTerm cX3_readTerm 3 none (D - 1) [.ref 9, .int b0] M (none, r.2)) ∧ (∀ (b0 : Int32) (M : Mem) (r : Int32 × Mem), rc 5 b0 M = some r → MetX shA l G yX3_readOne cX3_readOne 2 none (D - 1) [.ref 9, .int b0] M (none, r.2))) : ∀ (fu : Nat) (M : Mem) (x1 : Int32) (x2 : Int32), F3_readTerm_l7 rc fu M x1 x2 = some r → XJ shA p l e (rmX D) s m args below meth c 0 0 G 3 (MQ below (QcX shA G ((none, r.2) : Option Value × Mem).1 ((none, r.2) : Option Value × Mem).2) args s 0 0 (AW shA G.2.1)) 7 [(0, .ref 9), (1, .int x1), (2, .int x2)] [] M := by
  intro fu
  induction fu with
  | zero => intro M x1 x2 h; cases h
  | succ fu ih => intro M x1 x2 h; exact F3_readTerm_l7_bok F hr hlk hD hrc (fun M x1 x2 => ih M x1 x2) h
set_option maxRecDepth 20000 in
theorem F3_readTerm_ok {p : Program} {l : Launch} {e : Env} {s : State} {m : MethodId} {args : Array Value} {below : List Frame} {meth : Method} {c : Code} {G : GG} {D : Nat} {r : Int32 × Mem} {rc : Nat → Int32 → Mem → Option (Int32 × Mem)} (F : FrP shA G p s m args c RX3 cX3_readTerm 3) (hr : meth.sig.returnType = none) (hlk : meth.locks = false) (hD : 3 ≤ D) (hrc : (∀ (b0 : Int32) (M : Mem) (r : Int32 × Mem), rc 0 b0 M = some r → MetX shA l G yX3_readOr cX3_readOr 3 none (D - 1) [.ref 9, .int b0] M (none, r.2)) ∧ (∀ (b0 : Int32) (M : Mem) (r : Int32 × Mem), rc 1 b0 M = some r → MetX shA l G yX3_readAnd cX3_readAnd 3 none (D - 1) [.ref 9, .int b0] M (none, r.2)) ∧ (∀ (b0 : Int32) (M : Mem) (r : Int32 × Mem), rc 2 b0 M = some r → MetX shA l G yX3_readNot cX3_readNot 3 none (D - 1) [.ref 9, .int b0] M (none, r.2)) ∧ (∀ (b0 : Int32) (M : Mem) (r : Int32 × Mem), rc 3 b0 M = some r → MetX shA l G yX3_readSum cX3_readSum 4 none (D - 1) [.ref 9, .int b0] M (none, r.2)) ∧ (∀ (b0 : Int32) (M : Mem) (r : Int32 × Mem), rc 4 b0 M = some r → MetX shA l G yX3_readTerm cX3_readTerm 3 none (D - 1) [.ref 9, .int b0] M (none, r.2)) ∧ (∀ (b0 : Int32) (M : Mem) (r : Int32 × Mem), rc 5 b0 M = some r → MetX shA l G yX3_readOne cX3_readOne 2 none (D - 1) [.ref 9, .int b0] M (none, r.2))) {M : Mem} {a1 : Int32} (h : F3_readTerm rc M a1 = some r) : XJ shA p l e (rmX D) s m args below meth c 0 0 G 3 (MQ below (QcX shA G ((none, r.2) : Option Value × Mem).1 ((none, r.2) : Option Value × Mem).2) args s 0 0 (AW shA G.2.1)) 0 [(0, .ref 9), (1, .int a1)] [] M := by
  unfold F3_readTerm at h
  refine X_aload_n F dX3_readTerm_0 rfl ?_
  refine X_iload_n F dX3_readTerm_1 rfl ?_
  obtain ⟨r1, h2, h⟩ := bndS h
  refine X_callV (ci := 9) (As := [.int a1]) (rest := []) F fkRX3_132 feX3_readOne fvX3_readOne ⟨_, _, _, rfl, rfl, rfl⟩ (hrc.2.2.2.2.2 _ _ _ h2) rfl rfl (Nat.le_of_ble_eq_true rfl) (rm_ok (by omega) (by decide)) dX3_readTerm_2 ?_
  show XJ shA p l e (rmX D) s m args below meth c 0 0 G 3 (MQ below (QcX shA G ((none, r.2) : Option Value × Mem).1 ((none, r.2) : Option Value × Mem).2) args s 0 0 (AW shA G.2.1)) 5 [(0, .ref 9), (1, .int a1)] [] r1.2
  refine X_iconst F dX3_readTerm_5 (v := (0 : Int32)) rfl ?_
  refine X_istore_n F dX3_readTerm_6 (by decide) rfl ?_
  refine X_pick [1, 2, 0] rfl ?_
  exact F3_readTerm_l7_ok F hr hlk hD hrc FUEL _ _ _ h
set_option maxRecDepth 20000 in
theorem F3_readOne_j18_ok {p : Program} {l : Launch} {e : Env} {s : State} {m : MethodId} {args : Array Value} {below : List Frame} {meth : Method} {c : Code} {G : GG} {D : Nat} {r : Int32 × Mem} {rc : Nat → Int32 → Mem → Option (Int32 × Mem)} (F : FrP shA G p s m args c RX3 cX3_readOne 2) (hr : meth.sig.returnType = none) (hlk : meth.locks = false) (hD : 3 ≤ D) (hrc : (∀ (b0 : Int32) (M : Mem) (r : Int32 × Mem), rc 0 b0 M = some r → MetX shA l G yX3_readOr cX3_readOr 3 none (D - 1) [.ref 9, .int b0] M (none, r.2)) ∧ (∀ (b0 : Int32) (M : Mem) (r : Int32 × Mem), rc 1 b0 M = some r → MetX shA l G yX3_readAnd cX3_readAnd 3 none (D - 1) [.ref 9, .int b0] M (none, r.2)) ∧ (∀ (b0 : Int32) (M : Mem) (r : Int32 × Mem), rc 2 b0 M = some r → MetX shA l G yX3_readNot cX3_readNot 3 none (D - 1) [.ref 9, .int b0] M (none, r.2)) ∧ (∀ (b0 : Int32) (M : Mem) (r : Int32 × Mem), rc 3 b0 M = some r → MetX shA l G yX3_readSum cX3_readSum 4 none (D - 1) [.ref 9, .int b0] M (none, r.2)) ∧ (∀ (b0 : Int32) (M : Mem) (r : Int32 × Mem), rc 4 b0 M = some r → MetX shA l G yX3_readTerm cX3_readTerm 3 none (D - 1) [.ref 9, .int b0] M (none, r.2)) ∧ (∀ (b0 : Int32) (M : Mem) (r : Int32 × Mem), rc 5 b0 M = some r → MetX shA l G yX3_readOne cX3_readOne 2 none (D - 1) [.ref 9, .int b0] M (none, r.2))) {M : Mem} (h : F3_readOne_j18 rc M = some r) : XJ shA p l e (rmX D) s m args below meth c 0 0 G 2 (MQ below (QcX shA G ((none, r.2) : Option Value × Mem).1 ((none, r.2) : Option Value × Mem).2) args s 0 0 (AW shA G.2.1)) 18 [(0, .ref 9)] [] M := by
  unfold F3_readOne_j18 at h
  refine X_aload_n F dX3_readOne_18 rfl ?_
  refine X_aload_n F dX3_readOne_19 rfl ?_
  refine X_getr F ffRX3_21 dX3_readOne_20 ?_
  refine X_aload_n F dX3_readOne_23 rfl ?_
  refine X_geti (v := (M 9 6)) F ffRX3_37 dX3_readOne_24 rfl ?_
  obtain ⟨q21, h⟩ := ifS h
  refine X_iald (j := (Int32.toNatClampNeg (M 9 6))) (v := (M 13 (Int32.toNatClampNeg (M 9 6)))) F rfl (inbV q21) rfl rfl dX3_readOne_27 ?_
  obtain ⟨r22, h23, h⟩ := bndS h
  refine X_callV (ci := 9) (As := [.int (M 13 (Int32.toNatClampNeg (M 9 6)))]) (rest := []) F fkRX3_117 feX3_emit fvX3_emit ⟨_, _, _, rfl, rfl, rfl⟩ (F3_emit_met (D := D - 1) F.2.2.2.2.2.2.2.1 (by omega) h23) rfl rfl (Nat.le_of_ble_eq_true rfl) (rm_ok (by omega) (by decide)) dX3_readOne_28 ?_
  show XJ shA p l e (rmX D) s m args below meth c 0 0 G 2 (MQ below (QcX shA G ((none, r.2) : Option Value × Mem).1 ((none, r.2) : Option Value × Mem).2) args s 0 0 (AW shA G.2.1)) 31 [(0, .ref 9)] [] r22.2
  refine X_aload_n F dX3_readOne_31 rfl ?_
  obtain ⟨r24, h25, h⟩ := bndS h
  refine X_callV (ci := 9) (As := []) (rest := []) F fkRX3_114 feX3_advance fvX3_advance ⟨_, _, _, rfl, rfl, rfl⟩ (F3_advance_met (D := D - 1) F.2.2.2.2.2.2.2.1 (by omega) h25) rfl rfl (Nat.le_of_ble_eq_true rfl) (rm_ok (by omega) (by decide)) dX3_readOne_32 ?_
  show XJ shA p l e (rmX D) s m args below meth c 0 0 G 2 (MQ below (QcX shA G ((none, r.2) : Option Value × Mem).1 ((none, r.2) : Option Value × Mem).2) args s 0 0 (AW shA G.2.1)) 35 [(0, .ref 9)] [] r24.2
  refine X_goto (tgt := 108) F dX3_readOne_35 (by decide) ?_
  exact X_vret F hr hlk (retV h) dX3_readOne_108
set_option maxRecDepth 20000 in
theorem F3_readOne_ok {p : Program} {l : Launch} {e : Env} {s : State} {m : MethodId} {args : Array Value} {below : List Frame} {meth : Method} {c : Code} {G : GG} {D : Nat} {r : Int32 × Mem} {rc : Nat → Int32 → Mem → Option (Int32 × Mem)} (F : FrP shA G p s m args c RX3 cX3_readOne 2) (hr : meth.sig.returnType = none) (hlk : meth.locks = false) (hD : 3 ≤ D) (hrc : (∀ (b0 : Int32) (M : Mem) (r : Int32 × Mem), rc 0 b0 M = some r → MetX shA l G yX3_readOr cX3_readOr 3 none (D - 1) [.ref 9, .int b0] M (none, r.2)) ∧ (∀ (b0 : Int32) (M : Mem) (r : Int32 × Mem), rc 1 b0 M = some r → MetX shA l G yX3_readAnd cX3_readAnd 3 none (D - 1) [.ref 9, .int b0] M (none, r.2)) ∧ (∀ (b0 : Int32) (M : Mem) (r : Int32 × Mem), rc 2 b0 M = some r → MetX shA l G yX3_readNot cX3_readNot 3 none (D - 1) [.ref 9, .int b0] M (none, r.2)) ∧ (∀ (b0 : Int32) (M : Mem) (r : Int32 × Mem), rc 3 b0 M = some r → MetX shA l G yX3_readSum cX3_readSum 4 none (D - 1) [.ref 9, .int b0] M (none, r.2)) ∧ (∀ (b0 : Int32) (M : Mem) (r : Int32 × Mem), rc 4 b0 M = some r → MetX shA l G yX3_readTerm cX3_readTerm 3 none (D - 1) [.ref 9, .int b0] M (none, r.2)) ∧ (∀ (b0 : Int32) (M : Mem) (r : Int32 × Mem), rc 5 b0 M = some r → MetX shA l G yX3_readOne cX3_readOne 2 none (D - 1) [.ref 9, .int b0] M (none, r.2))) {M : Mem} {a1 : Int32} (h : F3_readOne rc M a1 = some r) : XJ shA p l e (rmX D) s m args below meth c 0 0 G 2 (MQ below (QcX shA G ((none, r.2) : Option Value × Mem).1 ((none, r.2) : Option Value × Mem).2) args s 0 0 (AW shA G.2.1)) 0 [(0, .ref 9), (1, .int a1)] [] M := by
  unfold F3_readOne at h
  refine X_aload_n F dX3_readOne_0 rfl ?_
  refine X_geti (v := (M 9 7)) F ffRX3_40 dX3_readOne_1 rfl ?_
  refine X_bipush F dX3_readOne_4 (v := (-3 : Int32)) rfl ?_
  refine X_icmp_eq (tgt := 18) F dX3_readOne_6 (by decide) (fun q1 => ?_) (fun q1 => ?_)
  · rw [if_pos q1] at h
    refine X_pick [0] rfl ?_
    exact F3_readOne_j18_ok F hr hlk hD hrc h
  · rw [if_neg q1] at h
    refine X_aload_n F dX3_readOne_9 rfl ?_
    refine X_geti (v := (M 9 7)) F ffRX3_40 dX3_readOne_10 rfl ?_
    refine X_bipush F dX3_readOne_13 (v := (-4 : Int32)) rfl ?_
    refine X_icmp_ne (tgt := 38) F dX3_readOne_15 (by decide) (fun q2 => ?_) (fun q2 => ?_)
    · rw [if_pos q2] at h
      refine X_aload_n F dX3_readOne_38 rfl ?_
      refine X_geti (v := (M 9 7)) F ffRX3_40 dX3_readOne_39 rfl ?_
      refine X_bipush F dX3_readOne_42 (v := (45 : Int32)) rfl ?_
      refine X_icmp_ne (tgt := 71) F dX3_readOne_44 (by decide) (fun q3 => ?_) (fun q3 => ?_)
      · rw [if_pos q3] at h
        refine X_aload_n F dX3_readOne_71 rfl ?_
        refine X_geti (v := (M 9 7)) F ffRX3_40 dX3_readOne_72 rfl ?_
        refine X_bipush F dX3_readOne_75 (v := (40 : Int32)) rfl ?_
        refine X_icmp_ne (tgt := 104) F dX3_readOne_77 (by decide) (fun q4 => ?_) (fun q4 => ?_)
        · rw [if_pos q4] at h
          refine X_aload_n F dX3_readOne_104 rfl ?_
          obtain ⟨r5, h6, h⟩ := bndS h
          refine X_callV (ci := 9) (As := []) (rest := []) F fkRX3_53 feX3_fail fvX3_fail ⟨_, _, _, rfl, rfl, rfl⟩ (F3_fail_met (D := D - 1) F.2.2.2.2.2.2.2.1 (by omega) h6) rfl rfl (Nat.le_of_ble_eq_true rfl) (rm_ok (by omega) (by decide)) dX3_readOne_105 ?_
          show XJ shA p l e (rmX D) s m args below meth c 0 0 G 2 (MQ below (QcX shA G ((none, r.2) : Option Value × Mem).1 ((none, r.2) : Option Value × Mem).2) args s 0 0 (AW shA G.2.1)) 108 [(0, .ref 9), (1, .int a1)] [] r5.2
          exact X_vret F hr hlk (retV h) dX3_readOne_108
        · rw [if_neg (fun z => z q4)] at h
          refine X_aload_n F dX3_readOne_80 rfl ?_
          refine X_iload_n F dX3_readOne_81 rfl ?_
          obtain ⟨r7, h8, h⟩ := bndS h
          refine X_callV (ci := 9) (As := [.int a1]) (rest := []) F fkRX3_123 feX3_mayOpen fvX3_mayOpen ⟨_, _, _, rfl, rfl, rfl⟩ (F3_mayOpen_met (D := D - 1) F.2.2.2.2.2.2.2.1 (by omega) h8) rfl rfl (Nat.le_of_ble_eq_true rfl) (rm_ok (by omega) (by decide)) dX3_readOne_82 ?_
          show XJ shA p l e (rmX D) s m args below meth c 0 0 G 2 (MQ below (QcX shA G ((none, r.2) : Option Value × Mem).1 ((none, r.2) : Option Value × Mem).2) args s 0 0 (AW shA G.2.1)) 85 [(0, .ref 9), (1, .int a1)] [.int r7.1] r7.2
          refine X_if_eq (tgt := 108) F dX3_readOne_85 (by decide) (fun q9 => ?_) (fun q9 => ?_)
          · rw [if_pos q9] at h
            exact X_vret F hr hlk (retV h) dX3_readOne_108
          · rw [if_neg q9] at h
            refine X_aload_n F dX3_readOne_88 rfl ?_
            refine X_iload_n F dX3_readOne_89 rfl ?_
            refine X_iconst F dX3_readOne_90 (v := (1 : Int32)) rfl ?_
            refine X_iadd F dX3_readOne_91 ?_
            obtain ⟨r10, h11, h⟩ := bndS h
            refine X_callV (ci := 9) (As := [.int (a1 + (1 : Int32))]) (rest := []) F fkRX3_108 feX3_readOr fvX3_readOr ⟨_, _, _, rfl, rfl, rfl⟩ (hrc.1 _ _ _ h11) rfl rfl (Nat.le_of_ble_eq_true rfl) (rm_ok (by omega) (by decide)) dX3_readOne_92 ?_
            show XJ shA p l e (rmX D) s m args below meth c 0 0 G 2 (MQ below (QcX shA G ((none, r.2) : Option Value × Mem).1 ((none, r.2) : Option Value × Mem).2) args s 0 0 (AW shA G.2.1)) 95 [(0, .ref 9), (1, .int a1)] [] r10.2
            refine X_aload_n F dX3_readOne_95 rfl ?_
            refine X_bipush F dX3_readOne_96 (v := (41 : Int32)) rfl ?_
            obtain ⟨r12, h13, h⟩ := bndS h
            refine X_callV (ci := 9) (As := [.int (41 : Int32)]) (rest := []) F fkRX3_104 feX3_expect fvX3_expect ⟨_, _, _, rfl, rfl, rfl⟩ (F3_expect_met (D := D - 1) F.2.2.2.2.2.2.2.1 (by omega) h13) rfl rfl (Nat.le_of_ble_eq_true rfl) (rm_ok (by omega) (by decide)) dX3_readOne_98 ?_
            show XJ shA p l e (rmX D) s m args below meth c 0 0 G 2 (MQ below (QcX shA G ((none, r.2) : Option Value × Mem).1 ((none, r.2) : Option Value × Mem).2) args s 0 0 (AW shA G.2.1)) 101 [(0, .ref 9), (1, .int a1)] [] r12.2
            refine X_goto (tgt := 108) F dX3_readOne_101 (by decide) ?_
            exact X_vret F hr hlk (retV h) dX3_readOne_108
      · rw [if_neg (fun z => z q3)] at h
        refine X_aload_n F dX3_readOne_47 rfl ?_
        refine X_iload_n F dX3_readOne_48 rfl ?_
        obtain ⟨r14, h15, h⟩ := bndS h
        refine X_callV (ci := 9) (As := [.int a1]) (rest := []) F fkRX3_123 feX3_mayOpen fvX3_mayOpen ⟨_, _, _, rfl, rfl, rfl⟩ (F3_mayOpen_met (D := D - 1) F.2.2.2.2.2.2.2.1 (by omega) h15) rfl rfl (Nat.le_of_ble_eq_true rfl) (rm_ok (by omega) (by decide)) dX3_readOne_49 ?_
        show XJ shA p l e (rmX D) s m args below meth c 0 0 G 2 (MQ below (QcX shA G ((none, r.2) : Option Value × Mem).1 ((none, r.2) : Option Value × Mem).2) args s 0 0 (AW shA G.2.1)) 52 [(0, .ref 9), (1, .int a1)] [.int r14.1] r14.2
        refine X_if_eq (tgt := 108) F dX3_readOne_52 (by decide) (fun q16 => ?_) (fun q16 => ?_)
        · rw [if_pos q16] at h
          exact X_vret F hr hlk (retV h) dX3_readOne_108
        · rw [if_neg q16] at h
          refine X_aload_n F dX3_readOne_55 rfl ?_
          refine X_iload_n F dX3_readOne_56 rfl ?_
          refine X_iconst F dX3_readOne_57 (v := (1 : Int32)) rfl ?_
          refine X_iadd F dX3_readOne_58 ?_
          obtain ⟨r17, h18, h⟩ := bndS h
          refine X_callV (ci := 9) (As := [.int (a1 + (1 : Int32))]) (rest := []) F fkRX3_132 feX3_readOne fvX3_readOne ⟨_, _, _, rfl, rfl, rfl⟩ (hrc.2.2.2.2.2 _ _ _ h18) rfl rfl (Nat.le_of_ble_eq_true rfl) (rm_ok (by omega) (by decide)) dX3_readOne_59 ?_
          show XJ shA p l e (rmX D) s m args below meth c 0 0 G 2 (MQ below (QcX shA G ((none, r.2) : Option Value × Mem).1 ((none, r.2) : Option Value × Mem).2) args s 0 0 (AW shA G.2.1)) 62 [(0, .ref 9), (1, .int a1)] [] r17.2
          refine X_aload_n F dX3_readOne_62 rfl ?_
          refine X_bipush F dX3_readOne_63 (v := (-7 : Int32)) rfl ?_
          obtain ⟨r19, h20, h⟩ := bndS h
          refine X_callV (ci := 9) (As := [.int (-7 : Int32)]) (rest := []) F fkRX3_117 feX3_emit fvX3_emit ⟨_, _, _, rfl, rfl, rfl⟩ (F3_emit_met (D := D - 1) F.2.2.2.2.2.2.2.1 (by omega) h20) rfl rfl (Nat.le_of_ble_eq_true rfl) (rm_ok (by omega) (by decide)) dX3_readOne_65 ?_
          show XJ shA p l e (rmX D) s m args below meth c 0 0 G 2 (MQ below (QcX shA G ((none, r.2) : Option Value × Mem).1 ((none, r.2) : Option Value × Mem).2) args s 0 0 (AW shA G.2.1)) 68 [(0, .ref 9), (1, .int a1)] [] r19.2
          refine X_goto (tgt := 108) F dX3_readOne_68 (by decide) ?_
          exact X_vret F hr hlk (retV h) dX3_readOne_108
    · rw [if_neg (fun z => z q2)] at h
      refine X_pick [0] rfl ?_
      exact F3_readOne_j18_ok F hr hlk hD hrc h
def S1 : Nat → Nat → Int32 → Mem → Option (Int32 × Mem)
  | 0, _, _, _ => none
  | fu + 1, 0, b0, M => F3_readOr (S1 fu) M b0
  | fu + 1, 1, b0, M => F3_readAnd (S1 fu) M b0
  | fu + 1, 2, b0, M => F3_readNot (S1 fu) M b0
  | fu + 1, 3, b0, M => F3_readSum (S1 fu) M b0
  | fu + 1, 4, b0, M => F3_readTerm (S1 fu) M b0
  | fu + 1, _, b0, M => F3_readOne (S1 fu) M b0
set_option maxRecDepth 20000 in
theorem S1_met {l : Launch} {G : GG} (hI : Inj shA G.2.1) : ∀ (fu D : Nat), 3 + fu ≤ D → ((∀ (b0 : Int32) (M : Mem) (r : Int32 × Mem), S1 fu 0 b0 M = some r → MetX shA l G yX3_readOr cX3_readOr 3 none (D) [.ref 9, .int b0] M (none, r.2)) ∧ (∀ (b0 : Int32) (M : Mem) (r : Int32 × Mem), S1 fu 1 b0 M = some r → MetX shA l G yX3_readAnd cX3_readAnd 3 none (D) [.ref 9, .int b0] M (none, r.2)) ∧ (∀ (b0 : Int32) (M : Mem) (r : Int32 × Mem), S1 fu 2 b0 M = some r → MetX shA l G yX3_readNot cX3_readNot 3 none (D) [.ref 9, .int b0] M (none, r.2)) ∧ (∀ (b0 : Int32) (M : Mem) (r : Int32 × Mem), S1 fu 3 b0 M = some r → MetX shA l G yX3_readSum cX3_readSum 4 none (D) [.ref 9, .int b0] M (none, r.2)) ∧ (∀ (b0 : Int32) (M : Mem) (r : Int32 × Mem), S1 fu 4 b0 M = some r → MetX shA l G yX3_readTerm cX3_readTerm 3 none (D) [.ref 9, .int b0] M (none, r.2)) ∧ (∀ (b0 : Int32) (M : Mem) (r : Int32 × Mem), S1 fu 5 b0 M = some r → MetX shA l G yX3_readOne cX3_readOne 2 none (D) [.ref 9, .int b0] M (none, r.2))) := by
  intro fu
  induction fu with
  | zero =>
    intro D _
    refine ⟨?_, ?_, ?_, ?_, ?_, ?_⟩
    · intro b0 M r h; cases h
    · intro b0 M r h; cases h
    · intro b0 M r h; cases h
    · intro b0 M r h; cases h
    · intro b0 M r h; cases h
    · intro b0 M r h; cases h
  | succ fu ih =>
    intro D hD
    have hrc := ih (D - 1) (by omega)
    refine ⟨?_, ?_, ?_, ?_, ?_, ?_⟩
    · intro b0 M r h; exact X_met hI (by decide +kernel) (Nat.le_of_ble_eq_true rfl) (fun p e s m args below meth c F hr hlk => F3_readOr_ok F hr hlk (by omega) hrc h)
    · intro b0 M r h; exact X_met hI (by decide +kernel) (Nat.le_of_ble_eq_true rfl) (fun p e s m args below meth c F hr hlk => F3_readAnd_ok F hr hlk (by omega) hrc h)
    · intro b0 M r h; exact X_met hI (by decide +kernel) (Nat.le_of_ble_eq_true rfl) (fun p e s m args below meth c F hr hlk => F3_readNot_ok F hr hlk (by omega) hrc h)
    · intro b0 M r h; exact X_met hI (by decide +kernel) (Nat.le_of_ble_eq_true rfl) (fun p e s m args below meth c F hr hlk => F3_readSum_ok F hr hlk (by omega) hrc h)
    · intro b0 M r h; exact X_met hI (by decide +kernel) (Nat.le_of_ble_eq_true rfl) (fun p e s m args below meth c F hr hlk => F3_readTerm_ok F hr hlk (by omega) hrc h)
    · intro b0 M r h; exact X_met hI (by decide +kernel) (Nat.le_of_ble_eq_true rfl) (fun p e s m args below meth c F hr hlk => F3_readOne_ok F hr hlk (by omega) hrc h)
set_option maxRecDepth 20000 in
theorem F3_readOr_met {l : Launch} {G : GG} {D : Nat} {r : Int32 × Mem} {M : Mem} {b0 : Int32} (hI : Inj shA G.2.1) (hD : 83 ≤ D) (h : S1 80 0 b0 M = some r) : MetX shA l G yX3_readOr cX3_readOr 3 none D [.ref 9, .int b0] M (none, r.2) := (S1_met hI 80 D hD).1 _ _ _ h
set_option maxRecDepth 20000 in
theorem F3_readAnd_met {l : Launch} {G : GG} {D : Nat} {r : Int32 × Mem} {M : Mem} {b0 : Int32} (hI : Inj shA G.2.1) (hD : 83 ≤ D) (h : S1 80 1 b0 M = some r) : MetX shA l G yX3_readAnd cX3_readAnd 3 none D [.ref 9, .int b0] M (none, r.2) := (S1_met hI 80 D hD).2.1 _ _ _ h
set_option maxRecDepth 20000 in
theorem F3_readNot_met {l : Launch} {G : GG} {D : Nat} {r : Int32 × Mem} {M : Mem} {b0 : Int32} (hI : Inj shA G.2.1) (hD : 83 ≤ D) (h : S1 80 2 b0 M = some r) : MetX shA l G yX3_readNot cX3_readNot 3 none D [.ref 9, .int b0] M (none, r.2) := (S1_met hI 80 D hD).2.2.1 _ _ _ h
set_option maxRecDepth 20000 in
theorem F3_readSum_met {l : Launch} {G : GG} {D : Nat} {r : Int32 × Mem} {M : Mem} {b0 : Int32} (hI : Inj shA G.2.1) (hD : 83 ≤ D) (h : S1 80 3 b0 M = some r) : MetX shA l G yX3_readSum cX3_readSum 4 none D [.ref 9, .int b0] M (none, r.2) := (S1_met hI 80 D hD).2.2.2.1 _ _ _ h
set_option maxRecDepth 20000 in
theorem F3_readTerm_met {l : Launch} {G : GG} {D : Nat} {r : Int32 × Mem} {M : Mem} {b0 : Int32} (hI : Inj shA G.2.1) (hD : 83 ≤ D) (h : S1 80 4 b0 M = some r) : MetX shA l G yX3_readTerm cX3_readTerm 3 none D [.ref 9, .int b0] M (none, r.2) := (S1_met hI 80 D hD).2.2.2.2.1 _ _ _ h
set_option maxRecDepth 20000 in
theorem F3_readOne_met {l : Launch} {G : GG} {D : Nat} {r : Int32 × Mem} {M : Mem} {b0 : Int32} (hI : Inj shA G.2.1) (hD : 83 ≤ D) (h : S1 80 5 b0 M = some r) : MetX shA l G yX3_readOne cX3_readOne 2 none D [.ref 9, .int b0] M (none, r.2) := (S1_met hI 80 D hD).2.2.2.2.2 _ _ _ h

-- KeepOurPlace$Reader.readPart
def F3_readPart (M : Mem) (a1 : Int32) (a2 : Int32) : Option (Int32 × Mem) :=
    if inb a1 4 = true then
    Option.bind (F3_expect (up2 M 15 (Int32.toNatClampNeg a1) (M 9 10)) a2) fun r2 =>
    Option.bind (S1 80 0 (0 : Int32) r2.2) fun r4 =>
    Option.bind (F3_expect r4.2 (59 : Int32)) fun r6 =>
    some ((0 : Int32), r6.2)
    else none
set_option maxRecDepth 20000 in
theorem F3_readPart_ok {p : Program} {l : Launch} {e : Env} {s : State} {m : MethodId} {args : Array Value} {below : List Frame} {meth : Method} {c : Code} {G : GG} {D : Nat} {r : Int32 × Mem} (F : FrP shA G p s m args c RX3 cX3_readPart 3) (hr : meth.sig.returnType = none) (hlk : meth.locks = false) (hD : 84 ≤ D) {M : Mem} {a1 : Int32} {a2 : Int32} (h : F3_readPart M a1 a2 = some r) : XJ shA p l e (rmX D) s m args below meth c 0 0 G 3 (MQ below (QcX shA G ((none, r.2) : Option Value × Mem).1 ((none, r.2) : Option Value × Mem).2) args s 0 0 (AW shA G.2.1)) 0 [(0, .ref 9), (1, .int a1), (2, .int a2)] [] M := by
  unfold F3_readPart at h
  refine X_aload_n F dX3_readPart_0 rfl ?_
  refine X_getr F ffRX3_27 dX3_readPart_1 ?_
  refine X_iload_n F dX3_readPart_4 rfl ?_
  refine X_aload_n F dX3_readPart_5 rfl ?_
  refine X_geti (v := (M 9 10)) F ffRX3_46 dX3_readPart_6 rfl ?_
  obtain ⟨q1, h⟩ := ifS h
  refine X_iast (j := (Int32.toNatClampNeg a1)) F rfl (inbV q1) rfl dX3_readPart_9 ?_
  refine X_aload_n F dX3_readPart_10 rfl ?_
  refine X_iload_n F dX3_readPart_11 rfl ?_
  obtain ⟨r2, h3, h⟩ := bndS h
  refine X_callV (ci := 9) (As := [.int a2]) (rest := []) F fkRX3_104 feX3_expect fvX3_expect ⟨_, _, _, rfl, rfl, rfl⟩ (F3_expect_met (D := D - 1) F.2.2.2.2.2.2.2.1 (by omega) h3) rfl rfl (Nat.le_of_ble_eq_true rfl) (rm_ok (by omega) (by decide)) dX3_readPart_12 ?_
  show XJ shA p l e (rmX D) s m args below meth c 0 0 G 3 (MQ below (QcX shA G ((none, r.2) : Option Value × Mem).1 ((none, r.2) : Option Value × Mem).2) args s 0 0 (AW shA G.2.1)) 15 [(0, .ref 9), (1, .int a1), (2, .int a2)] [] r2.2
  refine X_aload_n F dX3_readPart_15 rfl ?_
  refine X_iconst F dX3_readPart_16 (v := (0 : Int32)) rfl ?_
  obtain ⟨r4, h5, h⟩ := bndS h
  refine X_callV (ci := 9) (As := [.int (0 : Int32)]) (rest := []) F fkRX3_108 feX3_readOr fvX3_readOr ⟨_, _, _, rfl, rfl, rfl⟩ (F3_readOr_met (D := D - 1) F.2.2.2.2.2.2.2.1 (by omega) h5) rfl rfl (Nat.le_of_ble_eq_true rfl) (rm_ok (by omega) (by decide)) dX3_readPart_17 ?_
  show XJ shA p l e (rmX D) s m args below meth c 0 0 G 3 (MQ below (QcX shA G ((none, r.2) : Option Value × Mem).1 ((none, r.2) : Option Value × Mem).2) args s 0 0 (AW shA G.2.1)) 20 [(0, .ref 9), (1, .int a1), (2, .int a2)] [] r4.2
  refine X_aload_n F dX3_readPart_20 rfl ?_
  refine X_bipush F dX3_readPart_21 (v := (59 : Int32)) rfl ?_
  obtain ⟨r6, h7, h⟩ := bndS h
  refine X_callV (ci := 9) (As := [.int (59 : Int32)]) (rest := []) F fkRX3_104 feX3_expect fvX3_expect ⟨_, _, _, rfl, rfl, rfl⟩ (F3_expect_met (D := D - 1) F.2.2.2.2.2.2.2.1 (by omega) h7) rfl rfl (Nat.le_of_ble_eq_true rfl) (rm_ok (by omega) (by decide)) dX3_readPart_23 ?_
  show XJ shA p l e (rmX D) s m args below meth c 0 0 G 3 (MQ below (QcX shA G ((none, r.2) : Option Value × Mem).1 ((none, r.2) : Option Value × Mem).2) args s 0 0 (AW shA G.2.1)) 26 [(0, .ref 9), (1, .int a1), (2, .int a2)] [] r6.2
  exact X_vret F hr hlk (retV h) dX3_readPart_26
set_option maxRecDepth 20000 in
theorem F3_readPart_met {l : Launch} {G : GG} {D : Nat} {r : Int32 × Mem} {M : Mem} {a1 : Int32} {a2 : Int32} (hI : Inj shA G.2.1) (hD : 84 ≤ D) (h : F3_readPart M a1 a2 = some r) : MetX shA l G yX3_readPart cX3_readPart 3 none D [.ref 9, .int a1, .int a2] M (none, r.2) :=
  X_met hI (by decide +kernel) (Nat.le_of_ble_eq_true rfl) (fun p e s m args below meth c F hr hlk => F3_readPart_ok F hr hlk hD h)
-- KeepOurPlace$Reader.read
def F3_read (M : Mem) : Option (Int32 × Mem) :=
    Option.bind (F3_scan M) fun r1 =>
    Option.bind (F3_readPart (up2 (up2 (up2 (up2 r1.2 9 6 (0 : Int32)) 9 7 (r1.2 11 0)) 9 8 (-1 : Int32)) 9 10 (0 : Int32)) (0 : Int32) (-11 : Int32)) fun r3 =>
    Option.bind (F3_readPart r3.2 (1 : Int32) (-12 : Int32)) fun r5 =>
    Option.bind (F3_readPart r5.2 (2 : Int32) (-13 : Int32)) fun r7 =>
    if (r7.2 9 7) = (-1 : Int32) then
      some ((0 : Int32), (up2 r7.2 15 3 (r7.2 9 10)))
    else
      Option.bind (F3_fail (up2 r7.2 15 3 (r7.2 9 10))) fun r10 =>
      some ((0 : Int32), r10.2)
set_option maxRecDepth 20000 in
theorem F3_read_ok {p : Program} {l : Launch} {e : Env} {s : State} {m : MethodId} {args : Array Value} {below : List Frame} {meth : Method} {c : Code} {G : GG} {D : Nat} {r : Int32 × Mem} (F : FrP shA G p s m args c RX3 cX3_read 1) (hr : meth.sig.returnType = none) (hlk : meth.locks = false) (hD : 85 ≤ D) {M : Mem} (h : F3_read M = some r) : XJ shA p l e (rmX D) s m args below meth c 0 0 G 1 (MQ below (QcX shA G ((none, r.2) : Option Value × Mem).1 ((none, r.2) : Option Value × Mem).2) args s 0 0 (AW shA G.2.1)) 0 [(0, .ref 9)] [] M := by
  unfold F3_read at h
  refine X_aload_n F dX3_read_0 rfl ?_
  obtain ⟨r1, h2, h⟩ := bndS h
  refine X_callV (ci := 9) (As := []) (rest := []) F fkRX3_34 feX3_scan fvX3_scan ⟨_, _, _, rfl, rfl, rfl⟩ (F3_scan_met (D := D - 1) F.2.2.2.2.2.2.2.1 (by omega) h2) rfl rfl (Nat.le_of_ble_eq_true rfl) (rm_ok (by omega) (by decide)) dX3_read_1 ?_
  show XJ shA p l e (rmX D) s m args below meth c 0 0 G 1 (MQ below (QcX shA G ((none, r.2) : Option Value × Mem).1 ((none, r.2) : Option Value × Mem).2) args s 0 0 (AW shA G.2.1)) 4 [(0, .ref 9)] [] r1.2
  refine X_aload_n F dX3_read_4 rfl ?_
  refine X_iconst F dX3_read_5 (v := (0 : Int32)) rfl ?_
  refine X_puti F ffRX3_37 fw3_6 (by decide) dX3_read_6 ?_
  refine X_aload_n F dX3_read_9 rfl ?_
  refine X_aload_n F dX3_read_10 rfl ?_
  refine X_getr F ffRX3_15 dX3_read_11 ?_
  refine X_iconst F dX3_read_14 (v := (0 : Int32)) rfl ?_
  refine X_iald (j := 0) (v := (r1.2 11 0)) F rfl (inbV (by decide)) (by decide) rfl dX3_read_15 ?_
  refine X_puti F ffRX3_40 fw3_7 (by decide) dX3_read_16 ?_
  refine X_aload_n F dX3_read_19 rfl ?_
  refine X_iconst F dX3_read_20 (v := (-1 : Int32)) rfl ?_
  refine X_puti F ffRX3_43 fw3_8 (by decide) dX3_read_21 ?_
  refine X_aload_n F dX3_read_24 rfl ?_
  refine X_iconst F dX3_read_25 (v := (0 : Int32)) rfl ?_
  refine X_puti F ffRX3_46 fw3_10 (by decide) dX3_read_26 ?_
  refine X_aload_n F dX3_read_29 rfl ?_
  refine X_iconst F dX3_read_30 (v := (0 : Int32)) rfl ?_
  refine X_bipush F dX3_read_31 (v := (-11 : Int32)) rfl ?_
  obtain ⟨r3, h4, h⟩ := bndS h
  refine X_callV (ci := 9) (As := [.int (0 : Int32), .int (-11 : Int32)]) (rest := []) F fkRX3_49 feX3_readPart fvX3_readPart ⟨_, _, _, rfl, rfl, rfl⟩ (F3_readPart_met (D := D - 1) F.2.2.2.2.2.2.2.1 (by omega) h4) rfl rfl (Nat.le_of_ble_eq_true rfl) (rm_ok (by omega) (by decide)) dX3_read_33 ?_
  show XJ shA p l e (rmX D) s m args below meth c 0 0 G 1 (MQ below (QcX shA G ((none, r.2) : Option Value × Mem).1 ((none, r.2) : Option Value × Mem).2) args s 0 0 (AW shA G.2.1)) 36 [(0, .ref 9)] [] r3.2
  refine X_aload_n F dX3_read_36 rfl ?_
  refine X_iconst F dX3_read_37 (v := (1 : Int32)) rfl ?_
  refine X_bipush F dX3_read_38 (v := (-12 : Int32)) rfl ?_
  obtain ⟨r5, h6, h⟩ := bndS h
  refine X_callV (ci := 9) (As := [.int (1 : Int32), .int (-12 : Int32)]) (rest := []) F fkRX3_49 feX3_readPart fvX3_readPart ⟨_, _, _, rfl, rfl, rfl⟩ (F3_readPart_met (D := D - 1) F.2.2.2.2.2.2.2.1 (by omega) h6) rfl rfl (Nat.le_of_ble_eq_true rfl) (rm_ok (by omega) (by decide)) dX3_read_40 ?_
  show XJ shA p l e (rmX D) s m args below meth c 0 0 G 1 (MQ below (QcX shA G ((none, r.2) : Option Value × Mem).1 ((none, r.2) : Option Value × Mem).2) args s 0 0 (AW shA G.2.1)) 43 [(0, .ref 9)] [] r5.2
  refine X_aload_n F dX3_read_43 rfl ?_
  refine X_iconst F dX3_read_44 (v := (2 : Int32)) rfl ?_
  refine X_bipush F dX3_read_45 (v := (-13 : Int32)) rfl ?_
  obtain ⟨r7, h8, h⟩ := bndS h
  refine X_callV (ci := 9) (As := [.int (2 : Int32), .int (-13 : Int32)]) (rest := []) F fkRX3_49 feX3_readPart fvX3_readPart ⟨_, _, _, rfl, rfl, rfl⟩ (F3_readPart_met (D := D - 1) F.2.2.2.2.2.2.2.1 (by omega) h8) rfl rfl (Nat.le_of_ble_eq_true rfl) (rm_ok (by omega) (by decide)) dX3_read_47 ?_
  show XJ shA p l e (rmX D) s m args below meth c 0 0 G 1 (MQ below (QcX shA G ((none, r.2) : Option Value × Mem).1 ((none, r.2) : Option Value × Mem).2) args s 0 0 (AW shA G.2.1)) 50 [(0, .ref 9)] [] r7.2
  refine X_aload_n F dX3_read_50 rfl ?_
  refine X_getr F ffRX3_27 dX3_read_51 ?_
  refine X_iconst F dX3_read_54 (v := (3 : Int32)) rfl ?_
  refine X_aload_n F dX3_read_55 rfl ?_
  refine X_geti (v := (r7.2 9 10)) F ffRX3_46 dX3_read_56 rfl ?_
  refine X_iast (j := 3) F rfl (inbV (by decide)) (by decide) dX3_read_59 ?_
  refine X_aload_n F dX3_read_60 rfl ?_
  refine X_geti (v := (r7.2 9 7)) F ffRX3_40 dX3_read_61 rfl ?_
  refine X_iconst F dX3_read_64 (v := (-1 : Int32)) rfl ?_
  refine X_icmp_eq (tgt := 72) F dX3_read_65 (by decide) (fun q9 => ?_) (fun q9 => ?_)
  · rw [if_pos q9] at h
    exact X_vret F hr hlk (retV h) dX3_read_72
  · rw [if_neg q9] at h
    refine X_aload_n F dX3_read_68 rfl ?_
    obtain ⟨r10, h11, h⟩ := bndS h
    refine X_callV (ci := 9) (As := []) (rest := []) F fkRX3_53 feX3_fail fvX3_fail ⟨_, _, _, rfl, rfl, rfl⟩ (F3_fail_met (D := D - 1) F.2.2.2.2.2.2.2.1 (by omega) h11) rfl rfl (Nat.le_of_ble_eq_true rfl) (rm_ok (by omega) (by decide)) dX3_read_69 ?_
    show XJ shA p l e (rmX D) s m args below meth c 0 0 G 1 (MQ below (QcX shA G ((none, r.2) : Option Value × Mem).1 ((none, r.2) : Option Value × Mem).2) args s 0 0 (AW shA G.2.1)) 72 [(0, .ref 9)] [] r10.2
    exact X_vret F hr hlk (retV h) dX3_read_72
set_option maxRecDepth 20000 in
theorem F3_read_met {l : Launch} {G : GG} {D : Nat} {r : Int32 × Mem} {M : Mem} (hI : Inj shA G.2.1) (hD : 85 ≤ D) (h : F3_read M = some r) : MetX shA l G yX3_read cX3_read 1 none D [.ref 9] M (none, r.2) :=
  X_met hI (by decide +kernel) (Nat.le_of_ble_eq_true rfl) (fun p e s m args below meth c F hr hlk => F3_read_ok F hr hlk hD h)
-- KeepOurPlace$Reader.clear
def F3_clear (M : Mem) : Option (Int32 × Mem) :=
    some ((0 : Int32), (up2 M 9 1 (0 : Int32)))
set_option maxRecDepth 20000 in
theorem F3_clear_ok {p : Program} {l : Launch} {e : Env} {s : State} {m : MethodId} {args : Array Value} {below : List Frame} {meth : Method} {c : Code} {G : GG} {D : Nat} {r : Int32 × Mem} (F : FrP shA G p s m args c RX3 cX3_clear 1) (hr : meth.sig.returnType = none) (hlk : meth.locks = false) (hD : 1 ≤ D) {M : Mem} (h : F3_clear M = some r) : XJ shA p l e (rmX D) s m args below meth c 0 0 G 1 (MQ below (QcX shA G ((none, r.2) : Option Value × Mem).1 ((none, r.2) : Option Value × Mem).2) args s 0 0 (AW shA G.2.1)) 0 [(0, .ref 9)] [] M := by
  unfold F3_clear at h
  refine X_aload_n F dX3_clear_0 rfl ?_
  refine X_iconst F dX3_clear_1 (v := (0 : Int32)) rfl ?_
  refine X_puti F ffRX3_30 fw3_1 (by decide) dX3_clear_2 ?_
  exact X_vret F hr hlk (retV h) dX3_clear_5
set_option maxRecDepth 20000 in
theorem F3_clear_met {l : Launch} {G : GG} {D : Nat} {r : Int32 × Mem} {M : Mem} (hI : Inj shA G.2.1) (hD : 1 ≤ D) (h : F3_clear M = some r) : MetX shA l G yX3_clear cX3_clear 1 none D [.ref 9] M (none, r.2) :=
  X_met hI (by decide +kernel) (Nat.le_of_ble_eq_true rfl) (fun p e s m args below meth c F hr hlk => F3_clear_ok F hr hlk hD h)
-- KeepOurPlace$Line.join
def F2_join (M : Mem) (a1 : Int32) (a2 : Int32) : Option (Int32 × Mem) :=
    if a1 < 0 then
      some ((-2 : Int32), M)
    else
      if (6 : Int32) ≤ a1 then
        some ((-2 : Int32), M)
      else
        if a2 < 0 then
          some ((-2 : Int32), M)
        else
          if a2 ≤ (409 : Int32) then
            if (M 1 3) < (8 : Int32) then
              if inb (M 1 3) 8 = true then
              some ((((M 1 3) + (1 : Int32)) - (1 : Int32)), (up2 (up2 (up2 (up2 M 2 (Int32.toNatClampNeg (M 1 3)) a1) 3 (Int32.toNatClampNeg (M 1 3)) (a2 / (10 : Int32))) 4 (Int32.toNatClampNeg (M 1 3)) (jrem a2 (10 : Int32))) 1 3 ((M 1 3) + (1 : Int32))))
              else none
            else
              some ((-4 : Int32), M)
          else
            some ((-2 : Int32), M)
set_option maxRecDepth 20000 in
theorem F2_join_ok {p : Program} {l : Launch} {e : Env} {s : State} {m : MethodId} {args : Array Value} {below : List Frame} {meth : Method} {c : Code} {G : GG} {D : Nat} {r : Int32 × Mem} (F : FrP shA G p s m args c RX2 cX2_join 3) (hr : meth.sig.returnType = (some .int)) (hlk : meth.locks = false) (hD : 1 ≤ D) {M : Mem} {a1 : Int32} {a2 : Int32} (h : F2_join M a1 a2 = some r) : XJ shA p l e (rmX D) s m args below meth c 0 0 G 3 (MQ below (QcX shA G ((some (.int r.1), r.2) : Option Value × Mem).1 ((some (.int r.1), r.2) : Option Value × Mem).2) args s 0 0 (AW shA G.2.1)) 0 [(0, .ref 1), (1, .int a1), (2, .int a2)] [] M := by
  unfold F2_join at h
  refine X_iload_n F dX2_join_0 rfl ?_
  refine X_if_lt (tgt := 21) F dX2_join_1 (by decide) (fun q1 => ?_) (fun q1 => ?_)
  · rw [if_pos q1] at h
    refine X_bipush F dX2_join_21 (v := (-2 : Int32)) rfl ?_
    exact X_iret F hr hlk (retI h) dX2_join_23
  · rw [if_neg q1] at h
    refine X_iload_n F dX2_join_4 rfl ?_
    refine X_bipush F dX2_join_5 (v := (6 : Int32)) rfl ?_
    refine X_icmp_ge (tgt := 21) F dX2_join_7 (by decide) (fun q2 => ?_) (fun q2 => ?_)
    · rw [if_pos q2] at h
      refine X_bipush F dX2_join_21 (v := (-2 : Int32)) rfl ?_
      exact X_iret F hr hlk (retI h) dX2_join_23
    · rw [if_neg q2] at h
      refine X_iload_n F dX2_join_10 rfl ?_
      refine X_if_lt (tgt := 21) F dX2_join_11 (by decide) (fun q3 => ?_) (fun q3 => ?_)
      · rw [if_pos q3] at h
        refine X_bipush F dX2_join_21 (v := (-2 : Int32)) rfl ?_
        exact X_iret F hr hlk (retI h) dX2_join_23
      · rw [if_neg q3] at h
        refine X_iload_n F dX2_join_14 rfl ?_
        refine X_sipush F dX2_join_15 (v := (409 : Int32)) rfl ?_
        refine X_icmp_le (tgt := 24) F dX2_join_18 (by decide) (fun q4 => ?_) (fun q4 => ?_)
        · rw [if_pos q4] at h
          refine X_aload_n F dX2_join_24 rfl ?_
          refine X_geti (v := (M 1 3)) F ffRX2_21 dX2_join_25 rfl ?_
          refine X_bipush F dX2_join_28 (v := (8 : Int32)) rfl ?_
          refine X_icmp_lt (tgt := 36) F dX2_join_30 (by decide) (fun q5 => ?_) (fun q5 => ?_)
          · rw [if_pos q5] at h
            refine X_aload_n F dX2_join_36 rfl ?_
            refine X_getr F ffRX2_9 dX2_join_37 ?_
            refine X_aload_n F dX2_join_40 rfl ?_
            refine X_geti (v := (M 1 3)) F ffRX2_21 dX2_join_41 rfl ?_
            refine X_iload_n F dX2_join_44 rfl ?_
            obtain ⟨q6, h⟩ := ifS h
            refine X_iast (j := (Int32.toNatClampNeg (M 1 3))) F rfl (inbV q6) rfl dX2_join_45 ?_
            refine X_aload_n F dX2_join_46 rfl ?_
            refine X_getr F ffRX2_15 dX2_join_47 ?_
            refine X_aload_n F dX2_join_50 rfl ?_
            refine X_geti (v := (M 1 3)) F ffRX2_21 dX2_join_51 rfl ?_
            refine X_iload_n F dX2_join_54 rfl ?_
            refine X_bipush F dX2_join_55 (v := (10 : Int32)) rfl ?_
            refine X_idiv F dX2_join_57 (by decide) ?_
            refine X_iast (j := (Int32.toNatClampNeg (M 1 3))) F rfl (inbV q6) rfl dX2_join_58 ?_
            refine X_aload_n F dX2_join_59 rfl ?_
            refine X_getr F ffRX2_18 dX2_join_60 ?_
            refine X_aload_n F dX2_join_63 rfl ?_
            refine X_geti (v := (M 1 3)) F ffRX2_21 dX2_join_64 rfl ?_
            refine X_iload_n F dX2_join_67 rfl ?_
            refine X_bipush F dX2_join_68 (v := (10 : Int32)) rfl ?_
            refine X_irem F dX2_join_70 (by decide) ?_
            refine X_iast (j := (Int32.toNatClampNeg (M 1 3))) F rfl (inbV q6) rfl dX2_join_71 ?_
            refine X_aload_n F dX2_join_72 rfl ?_
            refine X_dup F dX2_join_73 rfl ?_
            refine X_geti (v := (M 1 3)) F ffRX2_21 dX2_join_74 rfl ?_
            refine X_iconst F dX2_join_77 (v := (1 : Int32)) rfl ?_
            refine X_iadd F dX2_join_78 ?_
            refine X_puti F ffRX2_21 fw2_3 (by decide) dX2_join_79 ?_
            refine X_aload_n F dX2_join_82 rfl ?_
            refine X_geti (v := ((M 1 3) + (1 : Int32))) F ffRX2_21 dX2_join_83 rfl ?_
            refine X_iconst F dX2_join_86 (v := (1 : Int32)) rfl ?_
            refine X_isub F dX2_join_87 ?_
            exact X_iret F hr hlk (retI h) dX2_join_88
          · rw [if_neg q5] at h
            refine X_bipush F dX2_join_33 (v := (-4 : Int32)) rfl ?_
            exact X_iret F hr hlk (retI h) dX2_join_35
        · rw [if_neg q4] at h
          refine X_bipush F dX2_join_21 (v := (-2 : Int32)) rfl ?_
          exact X_iret F hr hlk (retI h) dX2_join_23
set_option maxRecDepth 20000 in
theorem F2_join_met {l : Launch} {G : GG} {D : Nat} {r : Int32 × Mem} {M : Mem} {a1 : Int32} {a2 : Int32} (hI : Inj shA G.2.1) (hD : 1 ≤ D) (h : F2_join M a1 a2 = some r) : MetX shA l G yX2_join cX2_join 3 (some .int) D [.ref 1, .int a1, .int a2] M (some (.int r.1), r.2) :=
  X_met hI (by decide +kernel) (Nat.le_of_ble_eq_true rfl) (fun p e s m args below meth c F hr hlk => F2_join_ok F hr hlk hD h)
-- KeepOurPlace$Things.lay
def F6_lay (M : Mem) (a1 : Int32) (a2 : Int32) : Option (Int32 × Mem) :=
    if a1 < 0 then
      some ((-2 : Int32), M)
    else
      if (99 : Int32) < a1 then
        some ((-2 : Int32), M)
      else
        if 0 ≤ a2 then
          if (99 : Int32) < (a2 / (1000 : Int32)) then
            some ((-2 : Int32), M)
          else
            if (jrem a2 (1000 : Int32)) ≤ (100 : Int32) then
              if (M 5 3) < (6 : Int32) then
                if inb (M 5 3) 6 = true then
                some ((((M 5 3) + (1 : Int32)) - (1 : Int32)), (up2 (up2 (up2 (up2 M 6 (Int32.toNatClampNeg (M 5 3)) a1) 7 (Int32.toNatClampNeg (M 5 3)) (a2 / (1000 : Int32))) 8 (Int32.toNatClampNeg (M 5 3)) (jrem a2 (1000 : Int32))) 5 3 ((M 5 3) + (1 : Int32))))
                else none
              else
                some ((-4 : Int32), M)
            else
              some ((-2 : Int32), M)
        else
          some ((-2 : Int32), M)
set_option maxRecDepth 20000 in
theorem F6_lay_ok {p : Program} {l : Launch} {e : Env} {s : State} {m : MethodId} {args : Array Value} {below : List Frame} {meth : Method} {c : Code} {G : GG} {D : Nat} {r : Int32 × Mem} (F : FrP shA G p s m args c RX6 cX6_lay 3) (hr : meth.sig.returnType = (some .int)) (hlk : meth.locks = false) (hD : 1 ≤ D) {M : Mem} {a1 : Int32} {a2 : Int32} (h : F6_lay M a1 a2 = some r) : XJ shA p l e (rmX D) s m args below meth c 0 0 G 3 (MQ below (QcX shA G ((some (.int r.1), r.2) : Option Value × Mem).1 ((some (.int r.1), r.2) : Option Value × Mem).2) args s 0 0 (AW shA G.2.1)) 0 [(0, .ref 5), (1, .int a1), (2, .int a2)] [] M := by
  unfold F6_lay at h
  refine X_iload_n F dX6_lay_0 rfl ?_
  refine X_if_lt (tgt := 14) F dX6_lay_1 (by decide) (fun q1 => ?_) (fun q1 => ?_)
  · rw [if_pos q1] at h
    refine X_bipush F dX6_lay_14 (v := (-2 : Int32)) rfl ?_
    exact X_iret F hr hlk (retI h) dX6_lay_16
  · rw [if_neg q1] at h
    refine X_iload_n F dX6_lay_4 rfl ?_
    refine X_bipush F dX6_lay_5 (v := (99 : Int32)) rfl ?_
    refine X_icmp_gt (tgt := 14) F dX6_lay_7 (by decide) (fun q2 => ?_) (fun q2 => ?_)
    · rw [if_pos q2] at h
      refine X_bipush F dX6_lay_14 (v := (-2 : Int32)) rfl ?_
      exact X_iret F hr hlk (retI h) dX6_lay_16
    · rw [if_neg q2] at h
      refine X_iload_n F dX6_lay_10 rfl ?_
      refine X_if_ge (tgt := 17) F dX6_lay_11 (by decide) (fun q3 => ?_) (fun q3 => ?_)
      · rw [if_pos q3] at h
        refine X_iload_n F dX6_lay_17 rfl ?_
        refine X_sipush F dX6_lay_18 (v := (1000 : Int32)) rfl ?_
        refine X_idiv F dX6_lay_21 (by decide) ?_
        refine X_bipush F dX6_lay_22 (v := (99 : Int32)) rfl ?_
        refine X_icmp_gt (tgt := 37) F dX6_lay_24 (by decide) (fun q4 => ?_) (fun q4 => ?_)
        · rw [if_pos q4] at h
          refine X_bipush F dX6_lay_37 (v := (-2 : Int32)) rfl ?_
          exact X_iret F hr hlk (retI h) dX6_lay_39
        · rw [if_neg q4] at h
          refine X_iload_n F dX6_lay_27 rfl ?_
          refine X_sipush F dX6_lay_28 (v := (1000 : Int32)) rfl ?_
          refine X_irem F dX6_lay_31 (by decide) ?_
          refine X_bipush F dX6_lay_32 (v := (100 : Int32)) rfl ?_
          refine X_icmp_le (tgt := 40) F dX6_lay_34 (by decide) (fun q5 => ?_) (fun q5 => ?_)
          · rw [if_pos q5] at h
            refine X_aload_n F dX6_lay_40 rfl ?_
            refine X_geti (v := (M 5 3)) F ffRX6_21 dX6_lay_41 rfl ?_
            refine X_bipush F dX6_lay_44 (v := (6 : Int32)) rfl ?_
            refine X_icmp_lt (tgt := 52) F dX6_lay_46 (by decide) (fun q6 => ?_) (fun q6 => ?_)
            · rw [if_pos q6] at h
              refine X_aload_n F dX6_lay_52 rfl ?_
              refine X_getr F ffRX6_9 dX6_lay_53 ?_
              refine X_aload_n F dX6_lay_56 rfl ?_
              refine X_geti (v := (M 5 3)) F ffRX6_21 dX6_lay_57 rfl ?_
              refine X_iload_n F dX6_lay_60 rfl ?_
              obtain ⟨q7, h⟩ := ifS h
              refine X_iast (j := (Int32.toNatClampNeg (M 5 3))) F rfl (inbV q7) rfl dX6_lay_61 ?_
              refine X_aload_n F dX6_lay_62 rfl ?_
              refine X_getr F ffRX6_15 dX6_lay_63 ?_
              refine X_aload_n F dX6_lay_66 rfl ?_
              refine X_geti (v := (M 5 3)) F ffRX6_21 dX6_lay_67 rfl ?_
              refine X_iload_n F dX6_lay_70 rfl ?_
              refine X_sipush F dX6_lay_71 (v := (1000 : Int32)) rfl ?_
              refine X_idiv F dX6_lay_74 (by decide) ?_
              refine X_iast (j := (Int32.toNatClampNeg (M 5 3))) F rfl (inbV q7) rfl dX6_lay_75 ?_
              refine X_aload_n F dX6_lay_76 rfl ?_
              refine X_getr F ffRX6_18 dX6_lay_77 ?_
              refine X_aload_n F dX6_lay_80 rfl ?_
              refine X_geti (v := (M 5 3)) F ffRX6_21 dX6_lay_81 rfl ?_
              refine X_iload_n F dX6_lay_84 rfl ?_
              refine X_sipush F dX6_lay_85 (v := (1000 : Int32)) rfl ?_
              refine X_irem F dX6_lay_88 (by decide) ?_
              refine X_iast (j := (Int32.toNatClampNeg (M 5 3))) F rfl (inbV q7) rfl dX6_lay_89 ?_
              refine X_aload_n F dX6_lay_90 rfl ?_
              refine X_dup F dX6_lay_91 rfl ?_
              refine X_geti (v := (M 5 3)) F ffRX6_21 dX6_lay_92 rfl ?_
              refine X_iconst F dX6_lay_95 (v := (1 : Int32)) rfl ?_
              refine X_iadd F dX6_lay_96 ?_
              refine X_puti F ffRX6_21 fw6_3 (by decide) dX6_lay_97 ?_
              refine X_aload_n F dX6_lay_100 rfl ?_
              refine X_geti (v := ((M 5 3) + (1 : Int32))) F ffRX6_21 dX6_lay_101 rfl ?_
              refine X_iconst F dX6_lay_104 (v := (1 : Int32)) rfl ?_
              refine X_isub F dX6_lay_105 ?_
              exact X_iret F hr hlk (retI h) dX6_lay_106
            · rw [if_neg q6] at h
              refine X_bipush F dX6_lay_49 (v := (-4 : Int32)) rfl ?_
              exact X_iret F hr hlk (retI h) dX6_lay_51
          · rw [if_neg q5] at h
            refine X_bipush F dX6_lay_37 (v := (-2 : Int32)) rfl ?_
            exact X_iret F hr hlk (retI h) dX6_lay_39
      · rw [if_neg q3] at h
        refine X_bipush F dX6_lay_14 (v := (-2 : Int32)) rfl ?_
        exact X_iret F hr hlk (retI h) dX6_lay_16
set_option maxRecDepth 20000 in
theorem F6_lay_met {l : Launch} {G : GG} {D : Nat} {r : Int32 × Mem} {M : Mem} {a1 : Int32} {a2 : Int32} (hI : Inj shA G.2.1) (hD : 1 ≤ D) (h : F6_lay M a1 a2 = some r) : MetX shA l G yX6_lay cX6_lay 3 (some .int) D [.ref 5, .int a1, .int a2] M (some (.int r.1), r.2) :=
  X_met hI (by decide +kernel) (Nat.le_of_ble_eq_true rfl) (fun p e s m args below meth c F hr hlk => F6_lay_ok F hr hlk hD h)
-- KeepOurPlace$Line.moveUs
def F2_moveUs (M : Mem) (a1 : Int32) : Option (Int32 × Mem) :=
    if a1 < 0 then
      some ((-2 : Int32), M)
    else
      if a1 ≤ (M 1 3) then
        some ((M 1 4), (up2 M 1 4 a1))
      else
        some ((-2 : Int32), M)
set_option maxRecDepth 20000 in
theorem F2_moveUs_ok {p : Program} {l : Launch} {e : Env} {s : State} {m : MethodId} {args : Array Value} {below : List Frame} {meth : Method} {c : Code} {G : GG} {D : Nat} {r : Int32 × Mem} (F : FrP shA G p s m args c RX2 cX2_moveUs 3) (hr : meth.sig.returnType = (some .int)) (hlk : meth.locks = false) (hD : 1 ≤ D) {M : Mem} {a1 : Int32} (h : F2_moveUs M a1 = some r) : XJ shA p l e (rmX D) s m args below meth c 0 0 G 3 (MQ below (QcX shA G ((some (.int r.1), r.2) : Option Value × Mem).1 ((some (.int r.1), r.2) : Option Value × Mem).2) args s 0 0 (AW shA G.2.1)) 0 [(0, .ref 1), (1, .int a1)] [] M := by
  unfold F2_moveUs at h
  refine X_iload_n F dX2_moveUs_0 rfl ?_
  refine X_if_lt (tgt := 12) F dX2_moveUs_1 (by decide) (fun q1 => ?_) (fun q1 => ?_)
  · rw [if_pos q1] at h
    refine X_bipush F dX2_moveUs_12 (v := (-2 : Int32)) rfl ?_
    exact X_iret F hr hlk (retI h) dX2_moveUs_14
  · rw [if_neg q1] at h
    refine X_iload_n F dX2_moveUs_4 rfl ?_
    refine X_aload_n F dX2_moveUs_5 rfl ?_
    refine X_geti (v := (M 1 3)) F ffRX2_21 dX2_moveUs_6 rfl ?_
    refine X_icmp_le (tgt := 15) F dX2_moveUs_9 (by decide) (fun q2 => ?_) (fun q2 => ?_)
    · rw [if_pos q2] at h
      refine X_aload_n F dX2_moveUs_15 rfl ?_
      refine X_geti (v := (M 1 4)) F ffRX2_25 dX2_moveUs_16 rfl ?_
      refine X_istore_n F dX2_moveUs_19 (by decide) rfl ?_
      refine X_aload_n F dX2_moveUs_20 rfl ?_
      refine X_iload_n F dX2_moveUs_21 rfl ?_
      refine X_puti F ffRX2_25 fw2_4 (by decide) dX2_moveUs_22 ?_
      refine X_iload_n F dX2_moveUs_25 rfl ?_
      exact X_iret F hr hlk (retI h) dX2_moveUs_26
    · rw [if_neg q2] at h
      refine X_bipush F dX2_moveUs_12 (v := (-2 : Int32)) rfl ?_
      exact X_iret F hr hlk (retI h) dX2_moveUs_14
set_option maxRecDepth 20000 in
theorem F2_moveUs_met {l : Launch} {G : GG} {D : Nat} {r : Int32 × Mem} {M : Mem} {a1 : Int32} (hI : Inj shA G.2.1) (hD : 1 ≤ D) (h : F2_moveUs M a1 = some r) : MetX shA l G yX2_moveUs cX2_moveUs 3 (some .int) D [.ref 1, .int a1] M (some (.int r.1), r.2) :=
  X_met hI (by decide +kernel) (Nat.le_of_ble_eq_true rfl) (fun p e s m args below meth c F hr hlk => F2_moveUs_ok F hr hlk hD h)
-- KeepOurPlace$Line.holds
def F2_holds (M : Mem) (a1 : Int32) : Option (Int32 × Mem) :=
    if a1 < 0 then
      some ((0 : Int32), M)
    else
      if (M 1 3) ≤ a1 then
        some ((0 : Int32), M)
      else
        some ((1 : Int32), M)
set_option maxRecDepth 20000 in
theorem F2_holds_ok {p : Program} {l : Launch} {e : Env} {s : State} {m : MethodId} {args : Array Value} {below : List Frame} {meth : Method} {c : Code} {G : GG} {D : Nat} {r : Int32 × Mem} (F : FrP shA G p s m args c RX2 cX2_holds 2) (hr : meth.sig.returnType = (some .boolean)) (hlk : meth.locks = false) (hD : 1 ≤ D) {M : Mem} {a1 : Int32} (h : F2_holds M a1 = some r) : XJ shA p l e (rmX D) s m args below meth c 0 0 G 2 (MQ below (QcX shA G ((some (.int r.1), r.2) : Option Value × Mem).1 ((some (.int r.1), r.2) : Option Value × Mem).2) args s 0 0 (AW shA G.2.1)) 0 [(0, .ref 1), (1, .int a1)] [] M := by
  unfold F2_holds at h
  refine X_iload_n F dX2_holds_0 rfl ?_
  refine X_if_lt (tgt := 16) F dX2_holds_1 (by decide) (fun q1 => ?_) (fun q1 => ?_)
  · rw [if_pos q1] at h
    refine X_iconst F dX2_holds_16 (v := (0 : Int32)) rfl ?_
    exact X_zret F hr hlk rfl (retI h) dX2_holds_17
  · rw [if_neg q1] at h
    refine X_iload_n F dX2_holds_4 rfl ?_
    refine X_aload_n F dX2_holds_5 rfl ?_
    refine X_geti (v := (M 1 3)) F ffRX2_21 dX2_holds_6 rfl ?_
    refine X_icmp_ge (tgt := 16) F dX2_holds_9 (by decide) (fun q2 => ?_) (fun q2 => ?_)
    · rw [if_pos q2] at h
      refine X_iconst F dX2_holds_16 (v := (0 : Int32)) rfl ?_
      exact X_zret F hr hlk rfl (retI h) dX2_holds_17
    · rw [if_neg q2] at h
      refine X_iconst F dX2_holds_12 (v := (1 : Int32)) rfl ?_
      refine X_goto (tgt := 17) F dX2_holds_13 (by decide) ?_
      exact X_zret F hr hlk rfl (retI h) dX2_holds_17
set_option maxRecDepth 20000 in
theorem F2_holds_met {l : Launch} {G : GG} {D : Nat} {r : Int32 × Mem} {M : Mem} {a1 : Int32} (hI : Inj shA G.2.1) (hD : 1 ≤ D) (h : F2_holds M a1 = some r) : MetX shA l G yX2_holds cX2_holds 2 (some .boolean) D [.ref 1, .int a1] M (some (.int r.1), r.2) :=
  X_met hI (by decide +kernel) (Nat.le_of_ble_eq_true rfl) (fun p e s m args below meth c F hr hlk => F2_holds_ok F hr hlk hD h)
-- KeepOurPlace$Things.holds
def F6_holds (M : Mem) (a1 : Int32) : Option (Int32 × Mem) :=
    if a1 < 0 then
      some ((0 : Int32), M)
    else
      if (M 5 3) ≤ a1 then
        some ((0 : Int32), M)
      else
        some ((1 : Int32), M)
set_option maxRecDepth 20000 in
theorem F6_holds_ok {p : Program} {l : Launch} {e : Env} {s : State} {m : MethodId} {args : Array Value} {below : List Frame} {meth : Method} {c : Code} {G : GG} {D : Nat} {r : Int32 × Mem} (F : FrP shA G p s m args c RX6 cX6_holds 2) (hr : meth.sig.returnType = (some .boolean)) (hlk : meth.locks = false) (hD : 1 ≤ D) {M : Mem} {a1 : Int32} (h : F6_holds M a1 = some r) : XJ shA p l e (rmX D) s m args below meth c 0 0 G 2 (MQ below (QcX shA G ((some (.int r.1), r.2) : Option Value × Mem).1 ((some (.int r.1), r.2) : Option Value × Mem).2) args s 0 0 (AW shA G.2.1)) 0 [(0, .ref 5), (1, .int a1)] [] M := by
  unfold F6_holds at h
  refine X_iload_n F dX6_holds_0 rfl ?_
  refine X_if_lt (tgt := 16) F dX6_holds_1 (by decide) (fun q1 => ?_) (fun q1 => ?_)
  · rw [if_pos q1] at h
    refine X_iconst F dX6_holds_16 (v := (0 : Int32)) rfl ?_
    exact X_zret F hr hlk rfl (retI h) dX6_holds_17
  · rw [if_neg q1] at h
    refine X_iload_n F dX6_holds_4 rfl ?_
    refine X_aload_n F dX6_holds_5 rfl ?_
    refine X_geti (v := (M 5 3)) F ffRX6_21 dX6_holds_6 rfl ?_
    refine X_icmp_ge (tgt := 16) F dX6_holds_9 (by decide) (fun q2 => ?_) (fun q2 => ?_)
    · rw [if_pos q2] at h
      refine X_iconst F dX6_holds_16 (v := (0 : Int32)) rfl ?_
      exact X_zret F hr hlk rfl (retI h) dX6_holds_17
    · rw [if_neg q2] at h
      refine X_iconst F dX6_holds_12 (v := (1 : Int32)) rfl ?_
      refine X_goto (tgt := 17) F dX6_holds_13 (by decide) ?_
      exact X_zret F hr hlk rfl (retI h) dX6_holds_17
set_option maxRecDepth 20000 in
theorem F6_holds_met {l : Launch} {G : GG} {D : Nat} {r : Int32 × Mem} {M : Mem} {a1 : Int32} (hI : Inj shA G.2.1) (hD : 1 ≤ D) (h : F6_holds M a1 = some r) : MetX shA l G yX6_holds cX6_holds 2 (some .boolean) D [.ref 5, .int a1] M (some (.int r.1), r.2) :=
  X_met hI (by decide +kernel) (Nat.le_of_ble_eq_true rfl) (fun p e s m args below meth c F hr hlk => F6_holds_ok F hr hlk hD h)
-- KeepOurPlace$Line.dropFirst
def F2_dropFirst_l10_b (rec10 : Mem → Int32 → Option (Int32 × Mem)) (M : Mem) (x1 : Int32) : Option (Int32 × Mem) :=
    if (M 1 3) ≤ x1 then
      if (M 1 4) ≤ 0 then
        some ((0 : Int32), (up2 (up2 M 1 3 ((M 1 3) - (1 : Int32))) 1 5 ((M 1 5) + (1 : Int32))))
      else
        some ((0 : Int32), (up2 (up2 (up2 M 1 3 ((M 1 3) - (1 : Int32))) 1 5 ((M 1 5) + (1 : Int32))) 1 4 ((M 1 4) - (1 : Int32))))
    else
      if inb x1 8 = true then
      if inb (x1 - (1 : Int32)) 8 = true then
      rec10 (up2 (up2 (up2 M 2 (Int32.toNatClampNeg (x1 - (1 : Int32))) (M 2 (Int32.toNatClampNeg x1))) 3 (Int32.toNatClampNeg (x1 - (1 : Int32))) (M 3 (Int32.toNatClampNeg x1))) 4 (Int32.toNatClampNeg (x1 - (1 : Int32))) (M 4 (Int32.toNatClampNeg x1))) (x1 + (1 : Int32))
      else none
      else none
def F2_dropFirst_l10 : Nat → Mem → Int32 → Option (Int32 × Mem)
  | 0, _, _ => none
  | fu + 1, M, x1 => F2_dropFirst_l10_b (F2_dropFirst_l10 fu) M x1
def F2_dropFirst (M : Mem) : Option (Int32 × Mem) :=
    if 0 < (M 1 3) then
      F2_dropFirst_l10 FUEL M (1 : Int32)
    else
      some ((0 : Int32), M)
set_option maxRecDepth 20000 in
theorem F2_dropFirst_l10_bok {p : Program} {l : Launch} {e : Env} {s : State} {m : MethodId} {args : Array Value} {below : List Frame} {meth : Method} {c : Code} {G : GG} {D : Nat} {r : Int32 × Mem} {rec10 : Mem → Int32 → Option (Int32 × Mem)} (F : FrP shA G p s m args c RX2 cX2_dropFirst 2) (hr : meth.sig.returnType = none) (hlk : meth.locks = false) (hD : 1 ≤ D) (hrec10 : ∀ (M : Mem) (x1 : Int32), rec10 M x1 = some r → XJ shA p l e (rmX D) s m args below meth c 0 0 G 2 (MQ below (QcX shA G ((none, r.2) : Option Value × Mem).1 ((none, r.2) : Option Value × Mem).2) args s 0 0 (AW shA G.2.1)) 10 [(0, .ref 1), (1, .int x1)] [] M) {M : Mem} {x1 : Int32} (h : F2_dropFirst_l10_b rec10 M x1 = some r) : XJ shA p l e (rmX D) s m args below meth c 0 0 G 2 (MQ below (QcX shA G ((none, r.2) : Option Value × Mem).1 ((none, r.2) : Option Value × Mem).2) args s 0 0 (AW shA G.2.1)) 10 [(0, .ref 1), (1, .int x1)] [] M := by
  unfold F2_dropFirst_l10_b at h
  refine X_iload_n F dX2_dropFirst_10 rfl ?_
  refine X_aload_n F dX2_dropFirst_11 rfl ?_
  refine X_geti (v := (M 1 3)) F ffRX2_21 dX2_dropFirst_12 rfl ?_
  refine X_icmp_ge (tgt := 66) F dX2_dropFirst_15 (by decide) (fun q2 => ?_) (fun q2 => ?_)
  · rw [if_pos q2] at h
    refine X_aload_n F dX2_dropFirst_66 rfl ?_
    refine X_dup F dX2_dropFirst_67 rfl ?_
    refine X_geti (v := (M 1 3)) F ffRX2_21 dX2_dropFirst_68 rfl ?_
    refine X_iconst F dX2_dropFirst_71 (v := (1 : Int32)) rfl ?_
    refine X_isub F dX2_dropFirst_72 ?_
    refine X_puti F ffRX2_21 fw2_3 (by decide) dX2_dropFirst_73 ?_
    refine X_aload_n F dX2_dropFirst_76 rfl ?_
    refine X_dup F dX2_dropFirst_77 rfl ?_
    refine X_geti (v := (M 1 5)) F ffRX2_28 dX2_dropFirst_78 rfl ?_
    refine X_iconst F dX2_dropFirst_81 (v := (1 : Int32)) rfl ?_
    refine X_iadd F dX2_dropFirst_82 ?_
    refine X_puti F ffRX2_28 fw2_5 (by decide) dX2_dropFirst_83 ?_
    refine X_aload_n F dX2_dropFirst_86 rfl ?_
    refine X_geti (v := (M 1 4)) F ffRX2_25 dX2_dropFirst_87 rfl ?_
    refine X_if_le (tgt := 103) F dX2_dropFirst_90 (by decide) (fun q3 => ?_) (fun q3 => ?_)
    · rw [if_pos q3] at h
      exact X_vret F hr hlk (retV h) dX2_dropFirst_103
    · rw [if_neg q3] at h
      refine X_aload_n F dX2_dropFirst_93 rfl ?_
      refine X_dup F dX2_dropFirst_94 rfl ?_
      refine X_geti (v := (M 1 4)) F ffRX2_25 dX2_dropFirst_95 rfl ?_
      refine X_iconst F dX2_dropFirst_98 (v := (1 : Int32)) rfl ?_
      refine X_isub F dX2_dropFirst_99 ?_
      refine X_puti F ffRX2_25 fw2_4 (by decide) dX2_dropFirst_100 ?_
      exact X_vret F hr hlk (retV h) dX2_dropFirst_103
  · rw [if_neg q2] at h
    refine X_aload_n F dX2_dropFirst_18 rfl ?_
    refine X_getr F ffRX2_9 dX2_dropFirst_19 ?_
    refine X_iload_n F dX2_dropFirst_22 rfl ?_
    refine X_iconst F dX2_dropFirst_23 (v := (1 : Int32)) rfl ?_
    refine X_isub F dX2_dropFirst_24 ?_
    refine X_aload_n F dX2_dropFirst_25 rfl ?_
    refine X_getr F ffRX2_9 dX2_dropFirst_26 ?_
    refine X_iload_n F dX2_dropFirst_29 rfl ?_
    obtain ⟨q4, h⟩ := ifS h
    refine X_iald (j := (Int32.toNatClampNeg x1)) (v := (M 2 (Int32.toNatClampNeg x1))) F rfl (inbV q4) rfl rfl dX2_dropFirst_30 ?_
    obtain ⟨q5, h⟩ := ifS h
    refine X_iast (j := (Int32.toNatClampNeg (x1 - (1 : Int32)))) F rfl (inbV q5) rfl dX2_dropFirst_31 ?_
    refine X_aload_n F dX2_dropFirst_32 rfl ?_
    refine X_getr F ffRX2_15 dX2_dropFirst_33 ?_
    refine X_iload_n F dX2_dropFirst_36 rfl ?_
    refine X_iconst F dX2_dropFirst_37 (v := (1 : Int32)) rfl ?_
    refine X_isub F dX2_dropFirst_38 ?_
    refine X_aload_n F dX2_dropFirst_39 rfl ?_
    refine X_getr F ffRX2_15 dX2_dropFirst_40 ?_
    refine X_iload_n F dX2_dropFirst_43 rfl ?_
    refine X_iald (j := (Int32.toNatClampNeg x1)) (v := (M 3 (Int32.toNatClampNeg x1))) F rfl (inbV q4) rfl rfl dX2_dropFirst_44 ?_
    refine X_iast (j := (Int32.toNatClampNeg (x1 - (1 : Int32)))) F rfl (inbV q5) rfl dX2_dropFirst_45 ?_
    refine X_aload_n F dX2_dropFirst_46 rfl ?_
    refine X_getr F ffRX2_18 dX2_dropFirst_47 ?_
    refine X_iload_n F dX2_dropFirst_50 rfl ?_
    refine X_iconst F dX2_dropFirst_51 (v := (1 : Int32)) rfl ?_
    refine X_isub F dX2_dropFirst_52 ?_
    refine X_aload_n F dX2_dropFirst_53 rfl ?_
    refine X_getr F ffRX2_18 dX2_dropFirst_54 ?_
    refine X_iload_n F dX2_dropFirst_57 rfl ?_
    refine X_iald (j := (Int32.toNatClampNeg x1)) (v := (M 4 (Int32.toNatClampNeg x1))) F rfl (inbV q4) rfl rfl dX2_dropFirst_58 ?_
    refine X_iast (j := (Int32.toNatClampNeg (x1 - (1 : Int32)))) F rfl (inbV q5) rfl dX2_dropFirst_59 ?_
    refine X_iinc F dX2_dropFirst_60 rfl (v := (1 : Int32)) rfl (by decide) rfl ?_
    refine X_goto (tgt := 10) F dX2_dropFirst_63 (by decide) ?_
    refine X_pick [1, 0] rfl ?_
    exact hrec10 _ _ h
set_option maxRecDepth 20000 in
theorem F2_dropFirst_l10_ok {p : Program} {l : Launch} {e : Env} {s : State} {m : MethodId} {args : Array Value} {below : List Frame} {meth : Method} {c : Code} {G : GG} {D : Nat} {r : Int32 × Mem} (F : FrP shA G p s m args c RX2 cX2_dropFirst 2) (hr : meth.sig.returnType = none) (hlk : meth.locks = false) (hD : 1 ≤ D) : ∀ (fu : Nat) (M : Mem) (x1 : Int32), F2_dropFirst_l10 fu M x1 = some r → XJ shA p l e (rmX D) s m args below meth c 0 0 G 2 (MQ below (QcX shA G ((none, r.2) : Option Value × Mem).1 ((none, r.2) : Option Value × Mem).2) args s 0 0 (AW shA G.2.1)) 10 [(0, .ref 1), (1, .int x1)] [] M := by
  intro fu
  induction fu with
  | zero => intro M x1 h; cases h
  | succ fu ih => intro M x1 h; exact F2_dropFirst_l10_bok F hr hlk hD (fun M x1 => ih M x1) h
set_option maxRecDepth 20000 in
theorem F2_dropFirst_ok {p : Program} {l : Launch} {e : Env} {s : State} {m : MethodId} {args : Array Value} {below : List Frame} {meth : Method} {c : Code} {G : GG} {D : Nat} {r : Int32 × Mem} (F : FrP shA G p s m args c RX2 cX2_dropFirst 2) (hr : meth.sig.returnType = none) (hlk : meth.locks = false) (hD : 1 ≤ D) {M : Mem} (h : F2_dropFirst M = some r) : XJ shA p l e (rmX D) s m args below meth c 0 0 G 2 (MQ below (QcX shA G ((none, r.2) : Option Value × Mem).1 ((none, r.2) : Option Value × Mem).2) args s 0 0 (AW shA G.2.1)) 0 [(0, .ref 1)] [] M := by
  unfold F2_dropFirst at h
  refine X_aload_n F dX2_dropFirst_0 rfl ?_
  refine X_geti (v := (M 1 3)) F ffRX2_21 dX2_dropFirst_1 rfl ?_
  refine X_if_gt (tgt := 8) F dX2_dropFirst_4 (by decide) (fun q1 => ?_) (fun q1 => ?_)
  · rw [if_pos q1] at h
    refine X_iconst F dX2_dropFirst_8 (v := (1 : Int32)) rfl ?_
    refine X_istore_n F dX2_dropFirst_9 (by decide) rfl ?_
    refine X_pick [1, 0] rfl ?_
    exact F2_dropFirst_l10_ok F hr hlk hD FUEL _ _ h
  · rw [if_neg q1] at h
    exact X_vret F hr hlk (retV h) dX2_dropFirst_7
set_option maxRecDepth 20000 in
theorem F2_dropFirst_met {l : Launch} {G : GG} {D : Nat} {r : Int32 × Mem} {M : Mem} (hI : Inj shA G.2.1) (hD : 1 ≤ D) (h : F2_dropFirst M = some r) : MetX shA l G yX2_dropFirst cX2_dropFirst 2 none D [.ref 1] M (none, r.2) :=
  X_met hI (by decide +kernel) (Nat.le_of_ble_eq_true rfl) (fun p e s m args below meth c F hr hlk => F2_dropFirst_ok F hr hlk hD h)
-- KeepOurPlace$Things.shelfOf
def F6_shelfOf (M : Mem) (a1 : Int32) : Option (Int32 × Mem) :=
    Option.bind (F6_holds M a1) fun r1 =>
    if r1.1 = 0 then
      some ((0 : Int32), r1.2)
    else
      if inb a1 6 = true then
      some ((r1.2 6 (Int32.toNatClampNeg a1)), r1.2)
      else none
set_option maxRecDepth 20000 in
theorem F6_shelfOf_ok {p : Program} {l : Launch} {e : Env} {s : State} {m : MethodId} {args : Array Value} {below : List Frame} {meth : Method} {c : Code} {G : GG} {D : Nat} {r : Int32 × Mem} (F : FrP shA G p s m args c RX6 cX6_shelfOf 2) (hr : meth.sig.returnType = (some .int)) (hlk : meth.locks = false) (hD : 2 ≤ D) {M : Mem} {a1 : Int32} (h : F6_shelfOf M a1 = some r) : XJ shA p l e (rmX D) s m args below meth c 0 0 G 2 (MQ below (QcX shA G ((some (.int r.1), r.2) : Option Value × Mem).1 ((some (.int r.1), r.2) : Option Value × Mem).2) args s 0 0 (AW shA G.2.1)) 0 [(0, .ref 5), (1, .int a1)] [] M := by
  unfold F6_shelfOf at h
  refine X_aload_n F dX6_shelfOf_0 rfl ?_
  refine X_iload_n F dX6_shelfOf_1 rfl ?_
  obtain ⟨r1, h2, h⟩ := bndS h
  refine X_callV (ci := 5) (As := [.int a1]) (rest := []) F fkRX6_25 feX6_holds fvX6_holds ⟨_, _, _, rfl, rfl, rfl⟩ (F6_holds_met (D := D - 1) F.2.2.2.2.2.2.2.1 (by omega) h2) rfl rfl (Nat.le_of_ble_eq_true rfl) (rm_ok (by omega) (by decide)) dX6_shelfOf_2 ?_
  show XJ shA p l e (rmX D) s m args below meth c 0 0 G 2 (MQ below (QcX shA G ((some (.int r.1), r.2) : Option Value × Mem).1 ((some (.int r.1), r.2) : Option Value × Mem).2) args s 0 0 (AW shA G.2.1)) 5 [(0, .ref 5), (1, .int a1)] [.int r1.1] r1.2
  refine X_if_eq (tgt := 17) F dX6_shelfOf_5 (by decide) (fun q3 => ?_) (fun q3 => ?_)
  · rw [if_pos q3] at h
    refine X_iconst F dX6_shelfOf_17 (v := (0 : Int32)) rfl ?_
    exact X_iret F hr hlk (retI h) dX6_shelfOf_18
  · rw [if_neg q3] at h
    refine X_aload_n F dX6_shelfOf_8 rfl ?_
    refine X_getr F ffRX6_9 dX6_shelfOf_9 ?_
    refine X_iload_n F dX6_shelfOf_12 rfl ?_
    obtain ⟨q4, h⟩ := ifS h
    refine X_iald (j := (Int32.toNatClampNeg a1)) (v := (r1.2 6 (Int32.toNatClampNeg a1))) F rfl (inbV q4) rfl rfl dX6_shelfOf_13 ?_
    refine X_goto (tgt := 18) F dX6_shelfOf_14 (by decide) ?_
    exact X_iret F hr hlk (retI h) dX6_shelfOf_18
set_option maxRecDepth 20000 in
theorem F6_shelfOf_met {l : Launch} {G : GG} {D : Nat} {r : Int32 × Mem} {M : Mem} {a1 : Int32} (hI : Inj shA G.2.1) (hD : 2 ≤ D) (h : F6_shelfOf M a1 = some r) : MetX shA l G yX6_shelfOf cX6_shelfOf 2 (some .int) D [.ref 5, .int a1] M (some (.int r.1), r.2) :=
  X_met hI (by decide +kernel) (Nat.le_of_ble_eq_true rfl) (fun p e s m args below meth c F hr hlk => F6_shelfOf_ok F hr hlk hD h)
-- KeepOurPlace$Things.steps
def F6_steps (M : Mem) (a1 : Int32) (a2 : Int32) : Option (Int32 × Mem) :=
    Option.bind (F6_shelfOf M a1) fun r1 =>
    Option.bind (F6_shelfOf r1.2 a2) fun r3 =>
    some (((jabs ((jrem r1.1 (10 : Int32)) - (jrem r3.1 (10 : Int32)))) + (jabs ((r1.1 / (10 : Int32)) - (r3.1 / (10 : Int32))))), r3.2)
set_option maxRecDepth 20000 in
theorem F6_steps_ok {p : Program} {l : Launch} {e : Env} {s : State} {m : MethodId} {args : Array Value} {below : List Frame} {meth : Method} {c : Code} {G : GG} {D : Nat} {r : Int32 × Mem} (F : FrP shA G p s m args c RX6 cX6_steps 5) (hr : meth.sig.returnType = (some .int)) (hlk : meth.locks = false) (hD : 3 ≤ D) {M : Mem} {a1 : Int32} {a2 : Int32} (h : F6_steps M a1 a2 = some r) : XJ shA p l e (rmX D) s m args below meth c 0 0 G 5 (MQ below (QcX shA G ((some (.int r.1), r.2) : Option Value × Mem).1 ((some (.int r.1), r.2) : Option Value × Mem).2) args s 0 0 (AW shA G.2.1)) 0 [(0, .ref 5), (1, .int a1), (2, .int a2)] [] M := by
  unfold F6_steps at h
  refine X_aload_n F dX6_steps_0 rfl ?_
  refine X_iload_n F dX6_steps_1 rfl ?_
  obtain ⟨r1, h2, h⟩ := bndS h
  refine X_callV (ci := 5) (As := [.int a1]) (rest := []) F fkRX6_29 feX6_shelfOf fvX6_shelfOf ⟨_, _, _, rfl, rfl, rfl⟩ (F6_shelfOf_met (D := D - 1) F.2.2.2.2.2.2.2.1 (by omega) h2) rfl rfl (Nat.le_of_ble_eq_true rfl) (rm_ok (by omega) (by decide)) dX6_steps_2 ?_
  show XJ shA p l e (rmX D) s m args below meth c 0 0 G 5 (MQ below (QcX shA G ((some (.int r.1), r.2) : Option Value × Mem).1 ((some (.int r.1), r.2) : Option Value × Mem).2) args s 0 0 (AW shA G.2.1)) 5 [(0, .ref 5), (1, .int a1), (2, .int a2)] [.int r1.1] r1.2
  refine X_istore_n F dX6_steps_5 (by decide) rfl ?_
  refine X_aload_n F dX6_steps_6 rfl ?_
  refine X_iload_n F dX6_steps_7 rfl ?_
  obtain ⟨r3, h4, h⟩ := bndS h
  refine X_callV (ci := 5) (As := [.int a2]) (rest := []) F fkRX6_29 feX6_shelfOf fvX6_shelfOf ⟨_, _, _, rfl, rfl, rfl⟩ (F6_shelfOf_met (D := D - 1) F.2.2.2.2.2.2.2.1 (by omega) h4) rfl rfl (Nat.le_of_ble_eq_true rfl) (rm_ok (by omega) (by decide)) dX6_steps_8 ?_
  show XJ shA p l e (rmX D) s m args below meth c 0 0 G 5 (MQ below (QcX shA G ((some (.int r.1), r.2) : Option Value × Mem).1 ((some (.int r.1), r.2) : Option Value × Mem).2) args s 0 0 (AW shA G.2.1)) 11 [(3, .int r1.1), (0, .ref 5), (1, .int a1), (2, .int a2)] [.int r3.1] r3.2
  refine X_istore F dX6_steps_11 (by decide) rfl ?_
  refine X_iload_n F dX6_steps_13 rfl ?_
  refine X_bipush F dX6_steps_14 (v := (10 : Int32)) rfl ?_
  refine X_irem F dX6_steps_16 (by decide) ?_
  refine X_iload F dX6_steps_17 rfl ?_
  refine X_bipush F dX6_steps_19 (v := (10 : Int32)) rfl ?_
  refine X_irem F dX6_steps_21 (by decide) ?_
  refine X_isub F dX6_steps_22 ?_
  refine X_mabs F fmRX6_33 math_sabs math_i math_cabs (rm_1 (by omega)) (rm_w (n := 13) (by omega) (Nat.le_of_ble_eq_true rfl) (by decide)) dX6_steps_23 ?_
  refine X_iload_n F dX6_steps_26 rfl ?_
  refine X_bipush F dX6_steps_27 (v := (10 : Int32)) rfl ?_
  refine X_idiv F dX6_steps_29 (by decide) ?_
  refine X_iload F dX6_steps_30 rfl ?_
  refine X_bipush F dX6_steps_32 (v := (10 : Int32)) rfl ?_
  refine X_idiv F dX6_steps_34 (by decide) ?_
  refine X_isub F dX6_steps_35 ?_
  refine X_mabs F fmRX6_33 math_sabs math_i math_cabs (rm_1 (by omega)) (rm_w (n := 14) (by omega) (Nat.le_of_ble_eq_true rfl) (by decide)) dX6_steps_36 ?_
  refine X_iadd F dX6_steps_39 ?_
  exact X_iret F hr hlk (retI h) dX6_steps_40
set_option maxRecDepth 20000 in
theorem F6_steps_met {l : Launch} {G : GG} {D : Nat} {r : Int32 × Mem} {M : Mem} {a1 : Int32} {a2 : Int32} (hI : Inj shA G.2.1) (hD : 3 ≤ D) (h : F6_steps M a1 a2 = some r) : MetX shA l G yX6_steps cX6_steps 5 (some .int) D [.ref 5, .int a1, .int a2] M (some (.int r.1), r.2) :=
  X_met hI (by decide +kernel) (Nat.le_of_ble_eq_true rfl) (fun p e s m args below meth c F hr hlk => F6_steps_ok F hr hlk hD h)
-- KeepOurPlace$Things.all
def F6_all (M : Mem) : Option (Int32 × Mem) :=
    some ((((1 : Int32) <<< ((M 5 3) &&& 31)) - (1 : Int32)), M)
set_option maxRecDepth 20000 in
theorem F6_all_ok {p : Program} {l : Launch} {e : Env} {s : State} {m : MethodId} {args : Array Value} {below : List Frame} {meth : Method} {c : Code} {G : GG} {D : Nat} {r : Int32 × Mem} (F : FrP shA G p s m args c RX6 cX6_all 1) (hr : meth.sig.returnType = (some .int)) (hlk : meth.locks = false) (hD : 1 ≤ D) {M : Mem} (h : F6_all M = some r) : XJ shA p l e (rmX D) s m args below meth c 0 0 G 1 (MQ below (QcX shA G ((some (.int r.1), r.2) : Option Value × Mem).1 ((some (.int r.1), r.2) : Option Value × Mem).2) args s 0 0 (AW shA G.2.1)) 0 [(0, .ref 5)] [] M := by
  unfold F6_all at h
  refine X_iconst F dX6_all_0 (v := (1 : Int32)) rfl ?_
  refine X_aload_n F dX6_all_1 rfl ?_
  refine X_geti (v := (M 5 3)) F ffRX6_21 dX6_all_2 rfl ?_
  refine X_ishl F dX6_all_5 ?_
  refine X_iconst F dX6_all_6 (v := (1 : Int32)) rfl ?_
  refine X_isub F dX6_all_7 ?_
  exact X_iret F hr hlk (retI h) dX6_all_8
set_option maxRecDepth 20000 in
theorem F6_all_met {l : Launch} {G : GG} {D : Nat} {r : Int32 × Mem} {M : Mem} (hI : Inj shA G.2.1) (hD : 1 ≤ D) (h : F6_all M = some r) : MetX shA l G yX6_all cX6_all 1 (some .int) D [.ref 5] M (some (.int r.1), r.2) :=
  X_met hI (by decide +kernel) (Nat.le_of_ble_eq_true rfl) (fun p e s m args below meth c F hr hlk => F6_all_ok F hr hlk hD h)
-- KeepOurPlace$Things.draw
def F6_draw_j49 (rec7 : Mem → Int32 → Int32 → Int32 → Option (Int32 × Mem)) (M : Mem) (x2 : Int32) (x3 : Int32) (x4 : Int32) : Option (Int32 × Mem) :=
    rec7 M x2 x3 (x4 + (1 : Int32))
def F6_draw_l7_b (rec7 : Mem → Int32 → Int32 → Int32 → Option (Int32 × Mem)) (M : Mem) (x2 : Int32) (x3 : Int32) (x4 : Int32) : Option (Int32 × Mem) :=
    if (M 5 3) ≤ x4 then
      some (x2, M)
    else
      if inb x4 6 = true then
      if (M 8 (Int32.toNatClampNeg x4)) ≤ (jrem (jushr ((x3 * (1103515245 : Int32)) + (12345 : Int32)) (9 : Int32)) (100 : Int32)) then
        F6_draw_j49 rec7 M x2 ((x3 * (1103515245 : Int32)) + (12345 : Int32)) x4
      else
        F6_draw_j49 rec7 M (x2 ||| ((1 : Int32) <<< (x4 &&& 31))) ((x3 * (1103515245 : Int32)) + (12345 : Int32)) x4
      else none
def F6_draw_l7 : Nat → Mem → Int32 → Int32 → Int32 → Option (Int32 × Mem)
  | 0, _, _, _, _ => none
  | fu + 1, M, x2, x3, x4 => F6_draw_l7_b (F6_draw_l7 fu) M x2 x3 x4
def F6_draw (M : Mem) (a1 : Int32) : Option (Int32 × Mem) :=
    F6_draw_l7 FUEL M (0 : Int32) a1 (0 : Int32)
set_option maxRecDepth 20000 in
theorem F6_draw_j49_ok {p : Program} {l : Launch} {e : Env} {s : State} {m : MethodId} {args : Array Value} {below : List Frame} {meth : Method} {c : Code} {G : GG} {D : Nat} {r : Int32 × Mem} {rec7 : Mem → Int32 → Int32 → Int32 → Option (Int32 × Mem)} (F : FrP shA G p s m args c RX6 cX6_draw 5) (hr : meth.sig.returnType = (some .int)) (hlk : meth.locks = false) (hD : 1 ≤ D) (hrec7 : ∀ (M : Mem) (x2 : Int32) (x3 : Int32) (x4 : Int32), rec7 M x2 x3 x4 = some r → XJ shA p l e (rmX D) s m args below meth c 0 0 G 5 (MQ below (QcX shA G ((some (.int r.1), r.2) : Option Value × Mem).1 ((some (.int r.1), r.2) : Option Value × Mem).2) args s 0 0 (AW shA G.2.1)) 7 [(0, .ref 5), (2, .int x2), (3, .int x3), (4, .int x4)] [] M) {M : Mem} {x2 : Int32} {x3 : Int32} {x4 : Int32} (h : F6_draw_j49 rec7 M x2 x3 x4 = some r) : XJ shA p l e (rmX D) s m args below meth c 0 0 G 5 (MQ below (QcX shA G ((some (.int r.1), r.2) : Option Value × Mem).1 ((some (.int r.1), r.2) : Option Value × Mem).2) args s 0 0 (AW shA G.2.1)) 49 [(0, .ref 5), (2, .int x2), (3, .int x3), (4, .int x4)] [] M := by
  unfold F6_draw_j49 at h
  refine X_iinc F dX6_draw_49 rfl (v := (1 : Int32)) rfl (by decide) rfl ?_
  refine X_goto (tgt := 7) F dX6_draw_52 (by decide) ?_
  refine X_pick [1, 2, 3, 0] rfl ?_
  exact hrec7 _ _ _ _ h
set_option maxRecDepth 20000 in
theorem F6_draw_l7_bok {p : Program} {l : Launch} {e : Env} {s : State} {m : MethodId} {args : Array Value} {below : List Frame} {meth : Method} {c : Code} {G : GG} {D : Nat} {r : Int32 × Mem} {rec7 : Mem → Int32 → Int32 → Int32 → Option (Int32 × Mem)} (F : FrP shA G p s m args c RX6 cX6_draw 5) (hr : meth.sig.returnType = (some .int)) (hlk : meth.locks = false) (hD : 1 ≤ D) (hrec7 : ∀ (M : Mem) (x2 : Int32) (x3 : Int32) (x4 : Int32), rec7 M x2 x3 x4 = some r → XJ shA p l e (rmX D) s m args below meth c 0 0 G 5 (MQ below (QcX shA G ((some (.int r.1), r.2) : Option Value × Mem).1 ((some (.int r.1), r.2) : Option Value × Mem).2) args s 0 0 (AW shA G.2.1)) 7 [(0, .ref 5), (2, .int x2), (3, .int x3), (4, .int x4)] [] M) {M : Mem} {x2 : Int32} {x3 : Int32} {x4 : Int32} (h : F6_draw_l7_b rec7 M x2 x3 x4 = some r) : XJ shA p l e (rmX D) s m args below meth c 0 0 G 5 (MQ below (QcX shA G ((some (.int r.1), r.2) : Option Value × Mem).1 ((some (.int r.1), r.2) : Option Value × Mem).2) args s 0 0 (AW shA G.2.1)) 7 [(0, .ref 5), (2, .int x2), (3, .int x3), (4, .int x4)] [] M := by
  unfold F6_draw_l7_b at h
  refine X_iload F dX6_draw_7 rfl ?_
  refine X_aload_n F dX6_draw_9 rfl ?_
  refine X_geti (v := (M 5 3)) F ffRX6_21 dX6_draw_10 rfl ?_
  refine X_icmp_ge (tgt := 55) F dX6_draw_13 (by decide) (fun q1 => ?_) (fun q1 => ?_)
  · rw [if_pos q1] at h
    refine X_iload_n F dX6_draw_55 rfl ?_
    exact X_iret F hr hlk (retI h) dX6_draw_56
  · rw [if_neg q1] at h
    refine X_iload_n F dX6_draw_16 rfl ?_
    refine X_ldc F fcRX6_38 dX6_draw_17 ?_
    refine X_imul F dX6_draw_19 ?_
    refine X_sipush F dX6_draw_20 (v := (12345 : Int32)) rfl ?_
    refine X_iadd F dX6_draw_23 ?_
    refine X_istore_n F dX6_draw_24 (by decide) rfl ?_
    refine X_iload_n F dX6_draw_25 rfl ?_
    refine X_bipush F dX6_draw_26 (v := (9 : Int32)) rfl ?_
    refine X_iushr F dX6_draw_28 ?_
    refine X_bipush F dX6_draw_29 (v := (100 : Int32)) rfl ?_
    refine X_irem F dX6_draw_31 (by decide) ?_
    refine X_aload_n F dX6_draw_32 rfl ?_
    refine X_getr F ffRX6_18 dX6_draw_33 ?_
    refine X_iload F dX6_draw_36 rfl ?_
    obtain ⟨q2, h⟩ := ifS h
    refine X_iald (j := (Int32.toNatClampNeg x4)) (v := (M 8 (Int32.toNatClampNeg x4))) F rfl (inbV q2) rfl rfl dX6_draw_38 ?_
    refine X_icmp_ge (tgt := 49) F dX6_draw_39 (by decide) (fun q3 => ?_) (fun q3 => ?_)
    · rw [if_pos q3] at h
      refine X_pick [1, 2, 0, 3] rfl ?_
      exact F6_draw_j49_ok F hr hlk hD hrec7 h
    · rw [if_neg q3] at h
      refine X_iload_n F dX6_draw_42 rfl ?_
      refine X_iconst F dX6_draw_43 (v := (1 : Int32)) rfl ?_
      refine X_iload F dX6_draw_44 rfl ?_
      refine X_ishl F dX6_draw_46 ?_
      refine X_ior F dX6_draw_47 ?_
      refine X_istore_n F dX6_draw_48 (by decide) rfl ?_
      refine X_pick [2, 0, 1, 3] rfl ?_
      exact F6_draw_j49_ok F hr hlk hD hrec7 h
set_option maxRecDepth 20000 in
theorem F6_draw_l7_ok {p : Program} {l : Launch} {e : Env} {s : State} {m : MethodId} {args : Array Value} {below : List Frame} {meth : Method} {c : Code} {G : GG} {D : Nat} {r : Int32 × Mem} (F : FrP shA G p s m args c RX6 cX6_draw 5) (hr : meth.sig.returnType = (some .int)) (hlk : meth.locks = false) (hD : 1 ≤ D) : ∀ (fu : Nat) (M : Mem) (x2 : Int32) (x3 : Int32) (x4 : Int32), F6_draw_l7 fu M x2 x3 x4 = some r → XJ shA p l e (rmX D) s m args below meth c 0 0 G 5 (MQ below (QcX shA G ((some (.int r.1), r.2) : Option Value × Mem).1 ((some (.int r.1), r.2) : Option Value × Mem).2) args s 0 0 (AW shA G.2.1)) 7 [(0, .ref 5), (2, .int x2), (3, .int x3), (4, .int x4)] [] M := by
  intro fu
  induction fu with
  | zero => intro M x2 x3 x4 h; cases h
  | succ fu ih => intro M x2 x3 x4 h; exact F6_draw_l7_bok F hr hlk hD (fun M x2 x3 x4 => ih M x2 x3 x4) h
set_option maxRecDepth 20000 in
theorem F6_draw_ok {p : Program} {l : Launch} {e : Env} {s : State} {m : MethodId} {args : Array Value} {below : List Frame} {meth : Method} {c : Code} {G : GG} {D : Nat} {r : Int32 × Mem} (F : FrP shA G p s m args c RX6 cX6_draw 5) (hr : meth.sig.returnType = (some .int)) (hlk : meth.locks = false) (hD : 1 ≤ D) {M : Mem} {a1 : Int32} (h : F6_draw M a1 = some r) : XJ shA p l e (rmX D) s m args below meth c 0 0 G 5 (MQ below (QcX shA G ((some (.int r.1), r.2) : Option Value × Mem).1 ((some (.int r.1), r.2) : Option Value × Mem).2) args s 0 0 (AW shA G.2.1)) 0 [(0, .ref 5), (1, .int a1)] [] M := by
  unfold F6_draw at h
  refine X_iconst F dX6_draw_0 (v := (0 : Int32)) rfl ?_
  refine X_istore_n F dX6_draw_1 (by decide) rfl ?_
  refine X_iload_n F dX6_draw_2 rfl ?_
  refine X_istore_n F dX6_draw_3 (by decide) rfl ?_
  refine X_iconst F dX6_draw_4 (v := (0 : Int32)) rfl ?_
  refine X_istore F dX6_draw_5 (by decide) rfl ?_
  refine X_pick [3, 2, 1, 0] rfl ?_
  exact F6_draw_l7_ok F hr hlk hD FUEL _ _ _ _ h
set_option maxRecDepth 20000 in
theorem F6_draw_met {l : Launch} {G : GG} {D : Nat} {r : Int32 × Mem} {M : Mem} {a1 : Int32} (hI : Inj shA G.2.1) (hD : 1 ≤ D) (h : F6_draw M a1 = some r) : MetX shA l G yX6_draw cX6_draw 5 (some .int) D [.ref 5, .int a1] M (some (.int r.1), r.2) :=
  X_met hI (by decide +kernel) (Nat.le_of_ble_eq_true rfl) (fun p e s m args below meth c F hr hlk => F6_draw_ok F hr hlk hD h)
