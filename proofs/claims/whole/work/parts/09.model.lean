/-! written by wip/whole/gen: the pure functions of these methods, read off their bytecode, and the walks that prove them -/
theorem ffRX9_13 : FLT shB RX9 0 9 13 1 (.ref 1) := ⟨⟨RX9, TX9, 56, rfl, by decide, wsIn9, Or.inl (tmem 932 (by decide +kernel) rfl)⟩, _, rfl, rfl⟩
theorem fcRX9_95 : Cond.constantLong RX9 95 (5 : Int64) ∈ TBL := tmem 1105 (by decide +kernel) rfl
theorem fsRX9_88 : Cond.methodLink RX9 88 yX9_in ∈ TBL := tmem 1106 (by decide +kernel) rfl
theorem feX9_in : CLE yX9_in 3 cX9_in 6 (some .boolean) := ⟨tmem 17 (by decide +kernel) rfl, tmem 1108 (by decide +kernel) rfl, by decide +kernel, by decide +kernel⟩
theorem ftX9_in : Cond.static yX9_in ∈ TBL := tmem 1107 (by decide +kernel) rfl
theorem fcRX9_97 : Cond.constantLong RX9 97 (409 : Int64) ∈ TBL := tmem 1109 (by decide +kernel) rfl
theorem ffRX9_85 : FLT shB RX9 0 9 85 10 (.int 0) := ⟨⟨RX9, TX9, 56, rfl, by decide, wsIn9, Or.inl (tmem 941 (by decide +kernel) rfl)⟩, _, rfl, rfl⟩
theorem ffRX9_23 : FLT shB RX9 0 9 23 7 (.ref 4) := ⟨⟨RX9, TX9, 56, rfl, by decide, wsIn9, Or.inl (tmem 938 (by decide +kernel) rfl)⟩, _, rfl, rfl⟩
theorem ffRX9_26 : FLT shB RX9 0 9 26 8 (.ref 5) := ⟨⟨RX9, TX9, 56, rfl, by decide, wsIn9, Or.inl (tmem 939 (by decide +kernel) rfl)⟩, _, rfl, rfl⟩
theorem ffRX9_29 : FLT shB RX9 0 9 29 9 (.ref 6) := ⟨⟨RX9, TX9, 56, rfl, by decide, wsIn9, Or.inl (tmem 940 (by decide +kernel) rfl)⟩, _, rfl, rfl⟩
theorem fw9_10 : FLW 9 10 .int := ⟨RX9, TX9, 56, tyX9, rfl, tyX9_ok, nmX9, rfl, by decide +kernel⟩
theorem fcRX9_99 : Cond.constantLong RX9 99 (99 : Int64) ∈ TBL := tmem 1114 (by decide +kernel) rfl
theorem fcRX9_101 : Cond.constantLong RX9 101 (99100 : Int64) ∈ TBL := tmem 1115 (by decide +kernel) rfl
theorem ffRX9_92 : FLT shB RX9 0 9 92 16 (.int 0) := ⟨⟨RX9, TX9, 56, rfl, by decide, wsIn9, Or.inl (tmem 947 (by decide +kernel) rfl)⟩, _, rfl, rfl⟩
theorem ffRX9_32 : FLT shB RX9 0 9 32 13 (.ref 7) := ⟨⟨RX9, TX9, 56, rfl, by decide, wsIn9, Or.inl (tmem 944 (by decide +kernel) rfl)⟩, _, rfl, rfl⟩
theorem ffRX9_35 : FLT shB RX9 0 9 35 14 (.ref 8) := ⟨⟨RX9, TX9, 56, rfl, by decide, wsIn9, Or.inl (tmem 945 (by decide +kernel) rfl)⟩, _, rfl, rfl⟩
theorem ffRX9_38 : FLT shB RX9 0 9 38 15 (.ref 9) := ⟨⟨RX9, TX9, 56, rfl, by decide, wsIn9, Or.inl (tmem 946 (by decide +kernel) rfl)⟩, _, rfl, rfl⟩
theorem fw9_16 : FLW 9 16 .int := ⟨RX9, TX9, 56, tyX9, rfl, tyX9_ok, nmX9, rfl, by decide +kernel⟩
theorem fcRX9_103 : Cond.constantLong RX9 103 (2 : Int64) ∈ TBL := tmem 1120 (by decide +kernel) rfl
theorem fkRX9_105 : LNK RX9 105 yX9_isOne := Or.inl (tmem 1121 (by decide +kernel) rfl)
theorem feX9_isOne : CLE yX9_isOne 1 cX9_isOne 2 (some .boolean) := ⟨tmem 17 (by decide +kernel) rfl, tmem 1124 (by decide +kernel) rfl, by decide +kernel, by decide +kernel⟩
theorem fvX9_isOne : CLV yX9_isOne := ⟨tmem 1123 (by decide +kernel) rfl, smem 70 (by decide +kernel) rfl⟩
theorem fkRX9_109 : LNK RX9 109 yX9_isThing := Or.inl (tmem 1125 (by decide +kernel) rfl)
theorem feX9_isThing : CLE yX9_isThing 1 cX9_isThing 2 (some .boolean) := ⟨tmem 17 (by decide +kernel) rfl, tmem 1128 (by decide +kernel) rfl, by decide +kernel, by decide +kernel⟩
theorem fvX9_isThing : CLV yX9_isThing := ⟨tmem 1127 (by decide +kernel) rfl, smem 71 (by decide +kernel) rfl⟩
theorem fcRX9_116 : Cond.constantLong RX9 116 (100 : Int64) ∈ TBL := tmem 1131 (by decide +kernel) rfl
theorem fcRX9_114 : Cond.constantLong RX9 114 (9 : Int64) ∈ TBL := tmem 1130 (by decide +kernel) rfl
theorem fcRX9_112 : Cond.constantLong RX9 112 (40 : Int64) ∈ TBL := tmem 1129 (by decide +kernel) rfl
theorem ffRX9_118 : FLT shB RX9 0 9 118 11 (.int 0) := ⟨⟨RX9, TX9, 56, rfl, by decide, wsIn9, Or.inl (tmem 942 (by decide +kernel) rfl)⟩, _, rfl, rfl⟩
theorem fw9_11 : FLW 9 11 .int := ⟨RX9, TX9, 56, tyX9, rfl, tyX9_ok, nmX9, rfl, by decide +kernel⟩
theorem ffRX9_141 : FLT shB RX9 0 9 141 24 (.int 0) := ⟨⟨RX9, TX9, 56, rfl, by decide, wsIn9, Or.inl (tmem 955 (by decide +kernel) rfl)⟩, _, rfl, rfl⟩
theorem ffRX9_144 : FLT shB RX9 0 9 144 23 (.int 0) := ⟨⟨RX9, TX9, 56, rfl, by decide, wsIn9, Or.inl (tmem 954 (by decide +kernel) rfl)⟩, _, rfl, rfl⟩
theorem ffRX9_147 : FLT shB RX9 0 9 147 25 (.int 0) := ⟨⟨RX9, TX9, 56, rfl, by decide, wsIn9, Or.inl (tmem 956 (by decide +kernel) rfl)⟩, _, rfl, rfl⟩
theorem fkRX9_150 : LNK RX9 150 yX9_byteAt := Or.inl (tmem 1154 (by decide +kernel) rfl)
theorem feX9_byteAt : CLE yX9_byteAt 1 cX9_byteAt 2 (some .int) := ⟨tmem 17 (by decide +kernel) rfl, tmem 1157 (by decide +kernel) rfl, by decide +kernel, by decide +kernel⟩
theorem fvX9_byteAt : CLV yX9_byteAt := ⟨tmem 1156 (by decide +kernel) rfl, smem 76 (by decide +kernel) rfl⟩
theorem ffRX9_153 : FLT shB RX9 0 9 153 27 (.int 0) := ⟨⟨RX9, TX9, 56, rfl, by decide, wsIn9, Or.inl (tmem 958 (by decide +kernel) rfl)⟩, _, rfl, rfl⟩
theorem fw9_27 : FLW 9 27 .int := ⟨RX9, TX9, 56, tyX9, rfl, tyX9_ok, nmX9, rfl, by decide +kernel⟩
theorem ffRX9_156 : FLT shB RX9 0 9 156 26 (.int 0) := ⟨⟨RX9, TX9, 56, rfl, by decide, wsIn9, Or.inl (tmem 957 (by decide +kernel) rfl)⟩, _, rfl, rfl⟩
theorem fw9_26 : FLW 9 26 .int := ⟨RX9, TX9, 56, tyX9, rfl, tyX9_ok, nmX9, rfl, by decide +kernel⟩
theorem fcRX9_159 : Cond.constantLong RX9 159 (97 : Int64) ∈ TBL := tmem 1158 (by decide +kernel) rfl
theorem fcRX9_161 : Cond.constantLong RX9 161 (122 : Int64) ∈ TBL := tmem 1159 (by decide +kernel) rfl
theorem fcRX9_163 : Cond.constantLong RX9 163 (48 : Int64) ∈ TBL := tmem 1160 (by decide +kernel) rfl
theorem fcRX9_165 : Cond.constantLong RX9 165 (57 : Int64) ∈ TBL := tmem 1161 (by decide +kernel) rfl
theorem ffRX9_167 : FLT shB RX9 0 9 167 28 (.long 0) := ⟨⟨RX9, TX9, 56, rfl, by decide, wsIn9, Or.inl (tmem 959 (by decide +kernel) rfl)⟩, _, rfl, rfl⟩
theorem fw9_28 : FLW 9 28 .long := ⟨RX9, TX9, 56, tyX9, rfl, tyX9_ok, nmX9, rfl, by decide +kernel⟩
theorem fw9_25 : FLW 9 25 .int := ⟨RX9, TX9, 56, tyX9, rfl, tyX9_ok, nmX9, rfl, by decide +kernel⟩
theorem fcRX9_171 : Cond.constantLong RX9 171 (10 : Int64) ∈ TBL := tmem 1162 (by decide +kernel) rfl
theorem ffRX9_173 : FLT shB RX9 0 9 173 30 (.int 0) := ⟨⟨RX9, TX9, 56, rfl, by decide, wsIn9, Or.inl (tmem 961 (by decide +kernel) rfl)⟩, _, rfl, rfl⟩
theorem fkRX9_180 : LNK RX9 180 yX9_isLetter := Or.inl (tmem 1167 (by decide +kernel) rfl)
theorem feX9_isLetter : CLE yX9_isLetter 2 cX9_isLetter 3 (some .boolean) := ⟨tmem 17 (by decide +kernel) rfl, tmem 1170 (by decide +kernel) rfl, by decide +kernel, by decide +kernel⟩
theorem fvX9_isLetter : CLV yX9_isLetter := ⟨tmem 1169 (by decide +kernel) rfl, smem 78 (by decide +kernel) rfl⟩
theorem fw9_30 : FLW 9 30 .boolean := ⟨RX9, TX9, 56, tyX9, rfl, tyX9_ok, nmX9, rfl, by decide +kernel⟩
theorem ffRX9_177 : FLT shB RX9 0 9 177 31 (.int 0) := ⟨⟨RX9, TX9, 56, rfl, by decide, wsIn9, Or.inl (tmem 962 (by decide +kernel) rfl)⟩, _, rfl, rfl⟩
theorem fw9_31 : FLW 9 31 .int := ⟨RX9, TX9, 56, tyX9, rfl, tyX9_ok, nmX9, rfl, by decide +kernel⟩
theorem ffRX9_184 : FLT shB RX9 0 9 184 29 (.int 0) := ⟨⟨RX9, TX9, 56, rfl, by decide, wsIn9, Or.inl (tmem 960 (by decide +kernel) rfl)⟩, _, rfl, rfl⟩
theorem fw9_29 : FLW 9 29 .int := ⟨RX9, TX9, 56, tyX9, rfl, tyX9_ok, nmX9, rfl, by decide +kernel⟩
theorem fkRX9_190 : LNK RX9 190 yX9_next := Or.inl (tmem 1150 (by decide +kernel) rfl)
theorem feX9_next : CLE yX9_next 0 cX9_next 3 none := ⟨tmem 17 (by decide +kernel) rfl, tmem 1153 (by decide +kernel) rfl, by decide +kernel, by decide +kernel⟩
theorem fvX9_next : CLV yX9_next := ⟨tmem 1152 (by decide +kernel) rfl, smem 75 (by decide +kernel) rfl⟩
theorem fkRX9_187 : LNK RX9 187 yX9_fail := Or.inl (tmem 1175 (by decide +kernel) rfl)
theorem feX9_fail : CLE yX9_fail 0 cX9_fail 1 none := ⟨tmem 17 (by decide +kernel) rfl, tmem 1178 (by decide +kernel) rfl, by decide +kernel, by decide +kernel⟩
theorem fvX9_fail : CLV yX9_fail := ⟨tmem 1177 (by decide +kernel) rfl, smem 80 (by decide +kernel) rfl⟩
theorem fkRX9_193 : LNK RX9 193 yX9_isWord := Or.inl (tmem 1163 (by decide +kernel) rfl)
theorem feX9_isWord : CLE yX9_isWord 8 cX9_isWord 9 (some .boolean) := ⟨tmem 17 (by decide +kernel) rfl, tmem 1166 (by decide +kernel) rfl, by decide +kernel, by decide +kernel⟩
theorem fvX9_isWord : CLV yX9_isWord := ⟨tmem 1165 (by decide +kernel) rfl, smem 77 (by decide +kernel) rfl⟩
theorem ffRX9_212 : FLT shB RX9 0 9 212 22 (.int 0) := ⟨⟨RX9, TX9, 56, rfl, by decide, wsIn9, Or.inl (tmem 953 (by decide +kernel) rfl)⟩, _, rfl, rfl⟩
theorem ffRX9_209 : FLT shB RX9 0 9 209 21 (.int 0) := ⟨⟨RX9, TX9, 56, rfl, by decide, wsIn9, Or.inl (tmem 952 (by decide +kernel) rfl)⟩, _, rfl, rfl⟩
theorem ffRX9_206 : FLT shB RX9 0 9 206 20 (.int 0) := ⟨⟨RX9, TX9, 56, rfl, by decide, wsIn9, Or.inl (tmem 951 (by decide +kernel) rfl)⟩, _, rfl, rfl⟩
theorem ffRX9_203 : FLT shB RX9 0 9 203 19 (.int 0) := ⟨⟨RX9, TX9, 56, rfl, by decide, wsIn9, Or.inl (tmem 950 (by decide +kernel) rfl)⟩, _, rfl, rfl⟩
theorem ffRX9_200 : FLT shB RX9 0 9 200 18 (.int 0) := ⟨⟨RX9, TX9, 56, rfl, by decide, wsIn9, Or.inl (tmem 949 (by decide +kernel) rfl)⟩, _, rfl, rfl⟩
theorem ffRX9_197 : FLT shB RX9 0 9 197 17 (.int 0) := ⟨⟨RX9, TX9, 56, rfl, by decide, wsIn9, Or.inl (tmem 948 (by decide +kernel) rfl)⟩, _, rfl, rfl⟩
theorem dX9_spell_0 : decode cX9_spell 0 = .ok (.aload_n 0, 1) := by decide +kernel
theorem dX9_spell_1 : decode cX9_spell 1 = .ok (.getfield 13, 3) := by decide +kernel
theorem dX9_spell_4 : decode cX9_spell 4 = .ok (.iload_n 1, 1) := by decide +kernel
theorem dX9_spell_5 : decode cX9_spell 5 = .ok (.iload_n 2, 1) := by decide +kernel
theorem dX9_spell_6 : decode cX9_spell 6 = .ok (.iastore, 1) := by decide +kernel
theorem dX9_spell_7 : decode cX9_spell 7 = .ok (.aload_n 0, 1) := by decide +kernel
theorem dX9_spell_8 : decode cX9_spell 8 = .ok (.getfield 13, 3) := by decide +kernel
theorem dX9_spell_11 : decode cX9_spell 11 = .ok (.iload_n 1, 1) := by decide +kernel
theorem dX9_spell_12 : decode cX9_spell 12 = .ok (.iconst 1, 1) := by decide +kernel
theorem dX9_spell_13 : decode cX9_spell 13 = .ok (.iadd, 1) := by decide +kernel
theorem dX9_spell_14 : decode cX9_spell 14 = .ok (.iload_n 3, 1) := by decide +kernel
theorem dX9_spell_15 : decode cX9_spell 15 = .ok (.iastore, 1) := by decide +kernel
theorem dX9_spell_16 : decode cX9_spell 16 = .ok (.aload_n 0, 1) := by decide +kernel
theorem dX9_spell_17 : decode cX9_spell 17 = .ok (.getfield 13, 3) := by decide +kernel
theorem dX9_spell_20 : decode cX9_spell 20 = .ok (.iload_n 1, 1) := by decide +kernel
theorem dX9_spell_21 : decode cX9_spell 21 = .ok (.iconst 2, 1) := by decide +kernel
theorem dX9_spell_22 : decode cX9_spell 22 = .ok (.iadd, 1) := by decide +kernel
theorem dX9_spell_23 : decode cX9_spell 23 = .ok (.iload 4, 2) := by decide +kernel
theorem dX9_spell_25 : decode cX9_spell 25 = .ok (.iastore, 1) := by decide +kernel
theorem dX9_spell_26 : decode cX9_spell 26 = .ok (.aload_n 0, 1) := by decide +kernel
theorem dX9_spell_27 : decode cX9_spell 27 = .ok (.getfield 13, 3) := by decide +kernel
theorem dX9_spell_30 : decode cX9_spell 30 = .ok (.iload_n 1, 1) := by decide +kernel
theorem dX9_spell_31 : decode cX9_spell 31 = .ok (.iconst 3, 1) := by decide +kernel
theorem dX9_spell_32 : decode cX9_spell 32 = .ok (.iadd, 1) := by decide +kernel
theorem dX9_spell_33 : decode cX9_spell 33 = .ok (.iload 5, 2) := by decide +kernel
theorem dX9_spell_35 : decode cX9_spell 35 = .ok (.iastore, 1) := by decide +kernel
theorem dX9_spell_36 : decode cX9_spell 36 = .ok (.aload_n 0, 1) := by decide +kernel
theorem dX9_spell_37 : decode cX9_spell 37 = .ok (.getfield 13, 3) := by decide +kernel
theorem dX9_spell_40 : decode cX9_spell 40 = .ok (.iload_n 1, 1) := by decide +kernel
theorem dX9_spell_41 : decode cX9_spell 41 = .ok (.iconst 4, 1) := by decide +kernel
theorem dX9_spell_42 : decode cX9_spell 42 = .ok (.iadd, 1) := by decide +kernel
theorem dX9_spell_43 : decode cX9_spell 43 = .ok (.iload 6, 2) := by decide +kernel
theorem dX9_spell_45 : decode cX9_spell 45 = .ok (.iastore, 1) := by decide +kernel
theorem dX9_spell_46 : decode cX9_spell 46 = .ok (.aload_n 0, 1) := by decide +kernel
theorem dX9_spell_47 : decode cX9_spell 47 = .ok (.getfield 13, 3) := by decide +kernel
theorem dX9_spell_50 : decode cX9_spell 50 = .ok (.iload_n 1, 1) := by decide +kernel
theorem dX9_spell_51 : decode cX9_spell 51 = .ok (.iconst 5, 1) := by decide +kernel
theorem dX9_spell_52 : decode cX9_spell 52 = .ok (.iadd, 1) := by decide +kernel
theorem dX9_spell_53 : decode cX9_spell 53 = .ok (.iload 7, 2) := by decide +kernel
theorem dX9_spell_55 : decode cX9_spell 55 = .ok (.iastore, 1) := by decide +kernel
theorem dX9_spell_56 : decode cX9_spell 56 = .ok (.aload_n 0, 1) := by decide +kernel
theorem dX9_spell_57 : decode cX9_spell 57 = .ok (.getfield 13, 3) := by decide +kernel
theorem dX9_spell_60 : decode cX9_spell 60 = .ok (.iload_n 1, 1) := by decide +kernel
theorem dX9_spell_61 : decode cX9_spell 61 = .ok (.bipush 6, 2) := by decide +kernel
theorem dX9_spell_63 : decode cX9_spell 63 = .ok (.iadd, 1) := by decide +kernel
theorem dX9_spell_64 : decode cX9_spell 64 = .ok (.iload 8, 2) := by decide +kernel
theorem dX9_spell_66 : decode cX9_spell 66 = .ok (.iastore, 1) := by decide +kernel
theorem dX9_spell_67 : decode cX9_spell 67 = .ok (.aload_n 0, 1) := by decide +kernel
theorem dX9_spell_68 : decode cX9_spell 68 = .ok (.getfield 13, 3) := by decide +kernel
theorem dX9_spell_71 : decode cX9_spell 71 = .ok (.iload_n 1, 1) := by decide +kernel
theorem dX9_spell_72 : decode cX9_spell 72 = .ok (.bipush 7, 2) := by decide +kernel
theorem dX9_spell_74 : decode cX9_spell 74 = .ok (.iadd, 1) := by decide +kernel
theorem dX9_spell_75 : decode cX9_spell 75 = .ok (.iload 9, 2) := by decide +kernel
theorem dX9_spell_77 : decode cX9_spell 77 = .ok (.iastore, 1) := by decide +kernel
theorem dX9_spell_78 : decode cX9_spell 78 = .ok (.return_, 1) := by decide +kernel
theorem dX9_in_0 : decode cX9_in 0 = .ok (.lload_n 0, 1) := by decide +kernel
theorem dX9_in_1 : decode cX9_in 1 = .ok (.lload_n 2, 1) := by decide +kernel
theorem dX9_in_2 : decode cX9_in 2 = .ok (.lcmp, 1) := by decide +kernel
theorem dX9_in_3 : decode cX9_in 3 = .ok (.ifCond .lt 14, 3) := by decide +kernel
theorem dX9_in_6 : decode cX9_in 6 = .ok (.lload_n 0, 1) := by decide +kernel
theorem dX9_in_7 : decode cX9_in 7 = .ok (.lload 4, 2) := by decide +kernel
theorem dX9_in_9 : decode cX9_in 9 = .ok (.lcmp, 1) := by decide +kernel
theorem dX9_in_10 : decode cX9_in 10 = .ok (.ifCond .gt 7, 3) := by decide +kernel
theorem dX9_in_13 : decode cX9_in 13 = .ok (.iconst 1, 1) := by decide +kernel
theorem dX9_in_14 : decode cX9_in 14 = .ok (.goto 4, 3) := by decide +kernel
theorem dX9_in_17 : decode cX9_in 17 = .ok (.iconst 0, 1) := by decide +kernel
theorem dX9_in_18 : decode cX9_in 18 = .ok (.ireturn, 1) := by decide +kernel
theorem dX9_customer_0 : decode cX9_customer 0 = .ok (.iload_n 1, 1) := by decide +kernel
theorem dX9_customer_1 : decode cX9_customer 1 = .ok (.i2l, 1) := by decide +kernel
theorem dX9_customer_2 : decode cX9_customer 2 = .ok (.lconst 0, 1) := by decide +kernel
theorem dX9_customer_3 : decode cX9_customer 3 = .ok (.ldc2_w 95, 3) := by decide +kernel
theorem dX9_customer_6 : decode cX9_customer 6 = .ok (.invokestatic 88, 3) := by decide +kernel
theorem dX9_customer_9 : decode cX9_customer 9 = .ok (.ifCond .eq 15, 3) := by decide +kernel
theorem dX9_customer_12 : decode cX9_customer 12 = .ok (.iload_n 2, 1) := by decide +kernel
theorem dX9_customer_13 : decode cX9_customer 13 = .ok (.i2l, 1) := by decide +kernel
theorem dX9_customer_14 : decode cX9_customer 14 = .ok (.lconst 0, 1) := by decide +kernel
theorem dX9_customer_15 : decode cX9_customer 15 = .ok (.ldc2_w 97, 3) := by decide +kernel
theorem dX9_customer_18 : decode cX9_customer 18 = .ok (.invokestatic 88, 3) := by decide +kernel
theorem dX9_customer_21 : decode cX9_customer 21 = .ok (.ifCond .ne 6, 3) := by decide +kernel
theorem dX9_customer_24 : decode cX9_customer 24 = .ok (.bipush (-2), 2) := by decide +kernel
theorem dX9_customer_26 : decode cX9_customer 26 = .ok (.ireturn, 1) := by decide +kernel
theorem dX9_customer_27 : decode cX9_customer 27 = .ok (.aload_n 0, 1) := by decide +kernel
theorem dX9_customer_28 : decode cX9_customer 28 = .ok (.getfield 85, 3) := by decide +kernel
theorem dX9_customer_31 : decode cX9_customer 31 = .ok (.bipush 8, 2) := by decide +kernel
theorem dX9_customer_33 : decode cX9_customer 33 = .ok (.if_icmp .ne 6, 3) := by decide +kernel
theorem dX9_customer_36 : decode cX9_customer 36 = .ok (.bipush (-4), 2) := by decide +kernel
theorem dX9_customer_38 : decode cX9_customer 38 = .ok (.ireturn, 1) := by decide +kernel
theorem dX9_customer_39 : decode cX9_customer 39 = .ok (.aload_n 0, 1) := by decide +kernel
theorem dX9_customer_40 : decode cX9_customer 40 = .ok (.getfield 23, 3) := by decide +kernel
theorem dX9_customer_43 : decode cX9_customer 43 = .ok (.aload_n 0, 1) := by decide +kernel
theorem dX9_customer_44 : decode cX9_customer 44 = .ok (.getfield 85, 3) := by decide +kernel
theorem dX9_customer_47 : decode cX9_customer 47 = .ok (.iload_n 1, 1) := by decide +kernel
theorem dX9_customer_48 : decode cX9_customer 48 = .ok (.iastore, 1) := by decide +kernel
theorem dX9_customer_49 : decode cX9_customer 49 = .ok (.aload_n 0, 1) := by decide +kernel
theorem dX9_customer_50 : decode cX9_customer 50 = .ok (.getfield 26, 3) := by decide +kernel
theorem dX9_customer_53 : decode cX9_customer 53 = .ok (.aload_n 0, 1) := by decide +kernel
theorem dX9_customer_54 : decode cX9_customer 54 = .ok (.getfield 85, 3) := by decide +kernel
theorem dX9_customer_57 : decode cX9_customer 57 = .ok (.iload_n 2, 1) := by decide +kernel
theorem dX9_customer_58 : decode cX9_customer 58 = .ok (.bipush 10, 2) := by decide +kernel
theorem dX9_customer_60 : decode cX9_customer 60 = .ok (.idiv, 1) := by decide +kernel
theorem dX9_customer_61 : decode cX9_customer 61 = .ok (.iastore, 1) := by decide +kernel
theorem dX9_customer_62 : decode cX9_customer 62 = .ok (.aload_n 0, 1) := by decide +kernel
theorem dX9_customer_63 : decode cX9_customer 63 = .ok (.getfield 29, 3) := by decide +kernel
theorem dX9_customer_66 : decode cX9_customer 66 = .ok (.aload_n 0, 1) := by decide +kernel
theorem dX9_customer_67 : decode cX9_customer 67 = .ok (.getfield 85, 3) := by decide +kernel
theorem dX9_customer_70 : decode cX9_customer 70 = .ok (.iload_n 2, 1) := by decide +kernel
theorem dX9_customer_71 : decode cX9_customer 71 = .ok (.bipush 10, 2) := by decide +kernel
theorem dX9_customer_73 : decode cX9_customer 73 = .ok (.irem, 1) := by decide +kernel
theorem dX9_customer_74 : decode cX9_customer 74 = .ok (.iastore, 1) := by decide +kernel
theorem dX9_customer_75 : decode cX9_customer 75 = .ok (.aload_n 0, 1) := by decide +kernel
theorem dX9_customer_76 : decode cX9_customer 76 = .ok (.dup, 1) := by decide +kernel
theorem dX9_customer_77 : decode cX9_customer 77 = .ok (.getfield 85, 3) := by decide +kernel
theorem dX9_customer_80 : decode cX9_customer 80 = .ok (.iconst 1, 1) := by decide +kernel
theorem dX9_customer_81 : decode cX9_customer 81 = .ok (.iadd, 1) := by decide +kernel
theorem dX9_customer_82 : decode cX9_customer 82 = .ok (.putfield 85, 3) := by decide +kernel
theorem dX9_customer_85 : decode cX9_customer 85 = .ok (.aload_n 0, 1) := by decide +kernel
theorem dX9_customer_86 : decode cX9_customer 86 = .ok (.getfield 85, 3) := by decide +kernel
theorem dX9_customer_89 : decode cX9_customer 89 = .ok (.iconst 1, 1) := by decide +kernel
theorem dX9_customer_90 : decode cX9_customer 90 = .ok (.isub, 1) := by decide +kernel
theorem dX9_customer_91 : decode cX9_customer 91 = .ok (.ireturn, 1) := by decide +kernel
theorem dX9_thing_0 : decode cX9_thing 0 = .ok (.iload_n 1, 1) := by decide +kernel
theorem dX9_thing_1 : decode cX9_thing 1 = .ok (.i2l, 1) := by decide +kernel
theorem dX9_thing_2 : decode cX9_thing 2 = .ok (.lconst 0, 1) := by decide +kernel
theorem dX9_thing_3 : decode cX9_thing 3 = .ok (.ldc2_w 99, 3) := by decide +kernel
theorem dX9_thing_6 : decode cX9_thing 6 = .ok (.invokestatic 88, 3) := by decide +kernel
theorem dX9_thing_9 : decode cX9_thing 9 = .ok (.ifCond .eq 25, 3) := by decide +kernel
theorem dX9_thing_12 : decode cX9_thing 12 = .ok (.iload_n 2, 1) := by decide +kernel
theorem dX9_thing_13 : decode cX9_thing 13 = .ok (.i2l, 1) := by decide +kernel
theorem dX9_thing_14 : decode cX9_thing 14 = .ok (.lconst 0, 1) := by decide +kernel
theorem dX9_thing_15 : decode cX9_thing 15 = .ok (.ldc2_w 101, 3) := by decide +kernel
theorem dX9_thing_18 : decode cX9_thing 18 = .ok (.invokestatic 88, 3) := by decide +kernel
theorem dX9_thing_21 : decode cX9_thing 21 = .ok (.ifCond .eq 13, 3) := by decide +kernel
theorem dX9_thing_24 : decode cX9_thing 24 = .ok (.iload_n 2, 1) := by decide +kernel
theorem dX9_thing_25 : decode cX9_thing 25 = .ok (.sipush 1000, 3) := by decide +kernel
theorem dX9_thing_28 : decode cX9_thing 28 = .ok (.irem, 1) := by decide +kernel
theorem dX9_thing_29 : decode cX9_thing 29 = .ok (.bipush 100, 2) := by decide +kernel
theorem dX9_thing_31 : decode cX9_thing 31 = .ok (.if_icmp .le 6, 3) := by decide +kernel
theorem dX9_thing_34 : decode cX9_thing 34 = .ok (.bipush (-2), 2) := by decide +kernel
theorem dX9_thing_36 : decode cX9_thing 36 = .ok (.ireturn, 1) := by decide +kernel
theorem dX9_thing_37 : decode cX9_thing 37 = .ok (.aload_n 0, 1) := by decide +kernel
theorem dX9_thing_38 : decode cX9_thing 38 = .ok (.getfield 92, 3) := by decide +kernel
theorem dX9_thing_41 : decode cX9_thing 41 = .ok (.bipush 6, 2) := by decide +kernel
theorem dX9_thing_43 : decode cX9_thing 43 = .ok (.if_icmp .ne 6, 3) := by decide +kernel
theorem dX9_thing_46 : decode cX9_thing 46 = .ok (.bipush (-4), 2) := by decide +kernel
theorem dX9_thing_48 : decode cX9_thing 48 = .ok (.ireturn, 1) := by decide +kernel
theorem dX9_thing_49 : decode cX9_thing 49 = .ok (.aload_n 0, 1) := by decide +kernel
theorem dX9_thing_50 : decode cX9_thing 50 = .ok (.getfield 32, 3) := by decide +kernel
theorem dX9_thing_53 : decode cX9_thing 53 = .ok (.aload_n 0, 1) := by decide +kernel
theorem dX9_thing_54 : decode cX9_thing 54 = .ok (.getfield 92, 3) := by decide +kernel
theorem dX9_thing_57 : decode cX9_thing 57 = .ok (.iload_n 1, 1) := by decide +kernel
theorem dX9_thing_58 : decode cX9_thing 58 = .ok (.iastore, 1) := by decide +kernel
theorem dX9_thing_59 : decode cX9_thing 59 = .ok (.aload_n 0, 1) := by decide +kernel
theorem dX9_thing_60 : decode cX9_thing 60 = .ok (.getfield 35, 3) := by decide +kernel
theorem dX9_thing_63 : decode cX9_thing 63 = .ok (.aload_n 0, 1) := by decide +kernel
theorem dX9_thing_64 : decode cX9_thing 64 = .ok (.getfield 92, 3) := by decide +kernel
theorem dX9_thing_67 : decode cX9_thing 67 = .ok (.iload_n 2, 1) := by decide +kernel
theorem dX9_thing_68 : decode cX9_thing 68 = .ok (.sipush 1000, 3) := by decide +kernel
theorem dX9_thing_71 : decode cX9_thing 71 = .ok (.idiv, 1) := by decide +kernel
theorem dX9_thing_72 : decode cX9_thing 72 = .ok (.iastore, 1) := by decide +kernel
theorem dX9_thing_73 : decode cX9_thing 73 = .ok (.aload_n 0, 1) := by decide +kernel
theorem dX9_thing_74 : decode cX9_thing 74 = .ok (.getfield 38, 3) := by decide +kernel
theorem dX9_thing_77 : decode cX9_thing 77 = .ok (.aload_n 0, 1) := by decide +kernel
theorem dX9_thing_78 : decode cX9_thing 78 = .ok (.getfield 92, 3) := by decide +kernel
theorem dX9_thing_81 : decode cX9_thing 81 = .ok (.iload_n 2, 1) := by decide +kernel
theorem dX9_thing_82 : decode cX9_thing 82 = .ok (.sipush 1000, 3) := by decide +kernel
theorem dX9_thing_85 : decode cX9_thing 85 = .ok (.irem, 1) := by decide +kernel
theorem dX9_thing_86 : decode cX9_thing 86 = .ok (.iastore, 1) := by decide +kernel
theorem dX9_thing_87 : decode cX9_thing 87 = .ok (.aload_n 0, 1) := by decide +kernel
theorem dX9_thing_88 : decode cX9_thing 88 = .ok (.dup, 1) := by decide +kernel
theorem dX9_thing_89 : decode cX9_thing 89 = .ok (.getfield 92, 3) := by decide +kernel
theorem dX9_thing_92 : decode cX9_thing 92 = .ok (.iconst 1, 1) := by decide +kernel
theorem dX9_thing_93 : decode cX9_thing 93 = .ok (.iadd, 1) := by decide +kernel
theorem dX9_thing_94 : decode cX9_thing 94 = .ok (.putfield 92, 3) := by decide +kernel
theorem dX9_thing_97 : decode cX9_thing 97 = .ok (.aload_n 0, 1) := by decide +kernel
theorem dX9_thing_98 : decode cX9_thing 98 = .ok (.getfield 92, 3) := by decide +kernel
theorem dX9_thing_101 : decode cX9_thing 101 = .ok (.iconst 1, 1) := by decide +kernel
theorem dX9_thing_102 : decode cX9_thing 102 = .ok (.isub, 1) := by decide +kernel
theorem dX9_thing_103 : decode cX9_thing 103 = .ok (.ireturn, 1) := by decide +kernel
theorem dX9_isOne_0 : decode cX9_isOne 0 = .ok (.iload_n 1, 1) := by decide +kernel
theorem dX9_isOne_1 : decode cX9_isOne 1 = .ok (.i2l, 1) := by decide +kernel
theorem dX9_isOne_2 : decode cX9_isOne 2 = .ok (.lconst 0, 1) := by decide +kernel
theorem dX9_isOne_3 : decode cX9_isOne 3 = .ok (.aload_n 0, 1) := by decide +kernel
theorem dX9_isOne_4 : decode cX9_isOne 4 = .ok (.getfield 85, 3) := by decide +kernel
theorem dX9_isOne_7 : decode cX9_isOne 7 = .ok (.iconst 1, 1) := by decide +kernel
theorem dX9_isOne_8 : decode cX9_isOne 8 = .ok (.isub, 1) := by decide +kernel
theorem dX9_isOne_9 : decode cX9_isOne 9 = .ok (.i2l, 1) := by decide +kernel
theorem dX9_isOne_10 : decode cX9_isOne 10 = .ok (.invokestatic 88, 3) := by decide +kernel
theorem dX9_isOne_13 : decode cX9_isOne 13 = .ok (.ireturn, 1) := by decide +kernel
theorem dX9_isThing_0 : decode cX9_isThing 0 = .ok (.iload_n 1, 1) := by decide +kernel
theorem dX9_isThing_1 : decode cX9_isThing 1 = .ok (.i2l, 1) := by decide +kernel
theorem dX9_isThing_2 : decode cX9_isThing 2 = .ok (.lconst 0, 1) := by decide +kernel
theorem dX9_isThing_3 : decode cX9_isThing 3 = .ok (.aload_n 0, 1) := by decide +kernel
theorem dX9_isThing_4 : decode cX9_isThing 4 = .ok (.getfield 92, 3) := by decide +kernel
theorem dX9_isThing_7 : decode cX9_isThing 7 = .ok (.iconst 1, 1) := by decide +kernel
theorem dX9_isThing_8 : decode cX9_isThing 8 = .ok (.isub, 1) := by decide +kernel
theorem dX9_isThing_9 : decode cX9_isThing 9 = .ok (.i2l, 1) := by decide +kernel
theorem dX9_isThing_10 : decode cX9_isThing 10 = .ok (.invokestatic 88, 3) := by decide +kernel
theorem dX9_isThing_13 : decode cX9_isThing 13 = .ok (.ireturn, 1) := by decide +kernel
theorem dX9_set_0 : decode cX9_set 0 = .ok (.iload_n 1, 1) := by decide +kernel
theorem dX9_set_1 : decode cX9_set 1 = .ok (.i2l, 1) := by decide +kernel
theorem dX9_set_2 : decode cX9_set 2 = .ok (.lconst 0, 1) := by decide +kernel
theorem dX9_set_3 : decode cX9_set 3 = .ok (.ldc2_w 95, 3) := by decide +kernel
theorem dX9_set_6 : decode cX9_set 6 = .ok (.invokestatic 88, 3) := by decide +kernel
theorem dX9_set_9 : decode cX9_set 9 = .ok (.ifCond .eq 36, 3) := by decide +kernel
theorem dX9_set_12 : decode cX9_set 12 = .ok (.iload_n 1, 1) := by decide +kernel
theorem dX9_set_13 : decode cX9_set 13 = .ok (.i2l, 1) := by decide +kernel
theorem dX9_set_14 : decode cX9_set 14 = .ok (.lconst 1, 1) := by decide +kernel
theorem dX9_set_15 : decode cX9_set 15 = .ok (.ldc2_w 103, 3) := by decide +kernel
theorem dX9_set_18 : decode cX9_set 18 = .ok (.invokestatic 88, 3) := by decide +kernel
theorem dX9_set_21 : decode cX9_set 21 = .ok (.ifCond .eq 11, 3) := by decide +kernel
theorem dX9_set_24 : decode cX9_set 24 = .ok (.aload_n 0, 1) := by decide +kernel
theorem dX9_set_25 : decode cX9_set 25 = .ok (.iload_n 2, 1) := by decide +kernel
theorem dX9_set_26 : decode cX9_set 26 = .ok (.invokevirtual 105, 3) := by decide +kernel
theorem dX9_set_29 : decode cX9_set 29 = .ok (.ifCond .eq 16, 3) := by decide +kernel
theorem dX9_set_32 : decode cX9_set 32 = .ok (.iload_n 1, 1) := by decide +kernel
theorem dX9_set_33 : decode cX9_set 33 = .ok (.iconst 2, 1) := by decide +kernel
theorem dX9_set_34 : decode cX9_set 34 = .ok (.if_icmp .le 14, 3) := by decide +kernel
theorem dX9_set_37 : decode cX9_set 37 = .ok (.aload_n 0, 1) := by decide +kernel
theorem dX9_set_38 : decode cX9_set 38 = .ok (.iload_n 2, 1) := by decide +kernel
theorem dX9_set_39 : decode cX9_set 39 = .ok (.invokevirtual 109, 3) := by decide +kernel
theorem dX9_set_42 : decode cX9_set 42 = .ok (.ifCond .ne 6, 3) := by decide +kernel
theorem dX9_set_45 : decode cX9_set 45 = .ok (.bipush (-2), 2) := by decide +kernel
theorem dX9_set_47 : decode cX9_set 47 = .ok (.ireturn, 1) := by decide +kernel
theorem dX9_set_48 : decode cX9_set 48 = .ok (.iload_n 3, 1) := by decide +kernel
theorem dX9_set_49 : decode cX9_set 49 = .ok (.i2l, 1) := by decide +kernel
theorem dX9_set_50 : decode cX9_set 50 = .ok (.lconst 0, 1) := by decide +kernel
theorem dX9_set_51 : decode cX9_set 51 = .ok (.iload_n 1, 1) := by decide +kernel
theorem dX9_set_52 : decode cX9_set 52 = .ok (.ifCond .ne 11, 3) := by decide +kernel
theorem dX9_set_55 : decode cX9_set 55 = .ok (.aload_n 0, 1) := by decide +kernel
theorem dX9_set_56 : decode cX9_set 56 = .ok (.getfield 85, 3) := by decide +kernel
theorem dX9_set_59 : decode cX9_set 59 = .ok (.i2l, 1) := by decide +kernel
theorem dX9_set_60 : decode cX9_set 60 = .ok (.goto 39, 3) := by decide +kernel
theorem dX9_set_63 : decode cX9_set 63 = .ok (.iload_n 1, 1) := by decide +kernel
theorem dX9_set_64 : decode cX9_set 64 = .ok (.iconst 1, 1) := by decide +kernel
theorem dX9_set_65 : decode cX9_set 65 = .ok (.if_icmp .ne 9, 3) := by decide +kernel
theorem dX9_set_68 : decode cX9_set 68 = .ok (.ldc2_w 112, 3) := by decide +kernel
theorem dX9_set_71 : decode cX9_set 71 = .ok (.goto 28, 3) := by decide +kernel
theorem dX9_set_74 : decode cX9_set 74 = .ok (.iload_n 1, 1) := by decide +kernel
theorem dX9_set_75 : decode cX9_set 75 = .ok (.iconst 2, 1) := by decide +kernel
theorem dX9_set_76 : decode cX9_set 76 = .ok (.if_icmp .ne 9, 3) := by decide +kernel
theorem dX9_set_79 : decode cX9_set 79 = .ok (.ldc2_w 114, 3) := by decide +kernel
theorem dX9_set_82 : decode cX9_set 82 = .ok (.goto 17, 3) := by decide +kernel
theorem dX9_set_85 : decode cX9_set 85 = .ok (.iload_n 1, 1) := by decide +kernel
theorem dX9_set_86 : decode cX9_set 86 = .ok (.iconst 5, 1) := by decide +kernel
theorem dX9_set_87 : decode cX9_set 87 = .ok (.if_icmp .ne 9, 3) := by decide +kernel
theorem dX9_set_90 : decode cX9_set 90 = .ok (.ldc2_w 116, 3) := by decide +kernel
theorem dX9_set_93 : decode cX9_set 93 = .ok (.goto 6, 3) := by decide +kernel
theorem dX9_set_96 : decode cX9_set 96 = .ok (.ldc2_w 99, 3) := by decide +kernel
theorem dX9_set_99 : decode cX9_set 99 = .ok (.invokestatic 88, 3) := by decide +kernel
theorem dX9_set_102 : decode cX9_set 102 = .ok (.ifCond .ne 6, 3) := by decide +kernel
theorem dX9_set_105 : decode cX9_set 105 = .ok (.bipush (-2), 2) := by decide +kernel
theorem dX9_set_107 : decode cX9_set 107 = .ok (.ireturn, 1) := by decide +kernel
theorem dX9_set_108 : decode cX9_set 108 = .ok (.iload_n 1, 1) := by decide +kernel
theorem dX9_set_109 : decode cX9_set 109 = .ok (.ifCond .ne 10, 3) := by decide +kernel
theorem dX9_set_112 : decode cX9_set 112 = .ok (.aload_n 0, 1) := by decide +kernel
theorem dX9_set_113 : decode cX9_set 113 = .ok (.getfield 118, 3) := by decide +kernel
theorem dX9_set_116 : decode cX9_set 116 = .ok (.goto 65, 3) := by decide +kernel
theorem dX9_set_119 : decode cX9_set 119 = .ok (.iload_n 1, 1) := by decide +kernel
theorem dX9_set_120 : decode cX9_set 120 = .ok (.iconst 1, 1) := by decide +kernel
theorem dX9_set_121 : decode cX9_set 121 = .ok (.if_icmp .ne 12, 3) := by decide +kernel
theorem dX9_set_124 : decode cX9_set 124 = .ok (.aload_n 0, 1) := by decide +kernel
theorem dX9_set_125 : decode cX9_set 125 = .ok (.getfield 26, 3) := by decide +kernel
theorem dX9_set_128 : decode cX9_set 128 = .ok (.iload_n 2, 1) := by decide +kernel
theorem dX9_set_129 : decode cX9_set 129 = .ok (.iaload, 1) := by decide +kernel
theorem dX9_set_130 : decode cX9_set 130 = .ok (.goto 51, 3) := by decide +kernel
theorem dX9_set_133 : decode cX9_set 133 = .ok (.iload_n 1, 1) := by decide +kernel
theorem dX9_set_134 : decode cX9_set 134 = .ok (.iconst 2, 1) := by decide +kernel
theorem dX9_set_135 : decode cX9_set 135 = .ok (.if_icmp .ne 12, 3) := by decide +kernel
theorem dX9_set_138 : decode cX9_set 138 = .ok (.aload_n 0, 1) := by decide +kernel
theorem dX9_set_139 : decode cX9_set 139 = .ok (.getfield 29, 3) := by decide +kernel
theorem dX9_set_142 : decode cX9_set 142 = .ok (.iload_n 2, 1) := by decide +kernel
theorem dX9_set_143 : decode cX9_set 143 = .ok (.iaload, 1) := by decide +kernel
theorem dX9_set_144 : decode cX9_set 144 = .ok (.goto 37, 3) := by decide +kernel
theorem dX9_set_147 : decode cX9_set 147 = .ok (.iload_n 1, 1) := by decide +kernel
theorem dX9_set_148 : decode cX9_set 148 = .ok (.iconst 3, 1) := by decide +kernel
theorem dX9_set_149 : decode cX9_set 149 = .ok (.if_icmp .ne 12, 3) := by decide +kernel
theorem dX9_set_152 : decode cX9_set 152 = .ok (.aload_n 0, 1) := by decide +kernel
theorem dX9_set_153 : decode cX9_set 153 = .ok (.getfield 32, 3) := by decide +kernel
theorem dX9_set_156 : decode cX9_set 156 = .ok (.iload_n 2, 1) := by decide +kernel
theorem dX9_set_157 : decode cX9_set 157 = .ok (.iaload, 1) := by decide +kernel
theorem dX9_set_158 : decode cX9_set 158 = .ok (.goto 23, 3) := by decide +kernel
theorem dX9_set_161 : decode cX9_set 161 = .ok (.iload_n 1, 1) := by decide +kernel
theorem dX9_set_162 : decode cX9_set 162 = .ok (.iconst 4, 1) := by decide +kernel
theorem dX9_set_163 : decode cX9_set 163 = .ok (.if_icmp .ne 12, 3) := by decide +kernel
theorem dX9_set_166 : decode cX9_set 166 = .ok (.aload_n 0, 1) := by decide +kernel
theorem dX9_set_167 : decode cX9_set 167 = .ok (.getfield 35, 3) := by decide +kernel
theorem dX9_set_170 : decode cX9_set 170 = .ok (.iload_n 2, 1) := by decide +kernel
theorem dX9_set_171 : decode cX9_set 171 = .ok (.iaload, 1) := by decide +kernel
theorem dX9_set_172 : decode cX9_set 172 = .ok (.goto 9, 3) := by decide +kernel
theorem dX9_set_175 : decode cX9_set 175 = .ok (.aload_n 0, 1) := by decide +kernel
theorem dX9_set_176 : decode cX9_set 176 = .ok (.getfield 38, 3) := by decide +kernel
theorem dX9_set_179 : decode cX9_set 179 = .ok (.iload_n 2, 1) := by decide +kernel
theorem dX9_set_180 : decode cX9_set 180 = .ok (.iaload, 1) := by decide +kernel
theorem dX9_set_181 : decode cX9_set 181 = .ok (.istore 4, 2) := by decide +kernel
theorem dX9_set_183 : decode cX9_set 183 = .ok (.iload_n 1, 1) := by decide +kernel
theorem dX9_set_184 : decode cX9_set 184 = .ok (.ifCond .ne 11, 3) := by decide +kernel
theorem dX9_set_187 : decode cX9_set 187 = .ok (.aload_n 0, 1) := by decide +kernel
theorem dX9_set_188 : decode cX9_set 188 = .ok (.iload_n 3, 1) := by decide +kernel
theorem dX9_set_189 : decode cX9_set 189 = .ok (.putfield 118, 3) := by decide +kernel
theorem dX9_set_192 : decode cX9_set 192 = .ok (.goto 70, 3) := by decide +kernel
theorem dX9_set_195 : decode cX9_set 195 = .ok (.iload_n 1, 1) := by decide +kernel
theorem dX9_set_196 : decode cX9_set 196 = .ok (.iconst 1, 1) := by decide +kernel
theorem dX9_set_197 : decode cX9_set 197 = .ok (.if_icmp .ne 13, 3) := by decide +kernel
theorem dX9_set_200 : decode cX9_set 200 = .ok (.aload_n 0, 1) := by decide +kernel
theorem dX9_set_201 : decode cX9_set 201 = .ok (.getfield 26, 3) := by decide +kernel
theorem dX9_set_204 : decode cX9_set 204 = .ok (.iload_n 2, 1) := by decide +kernel
theorem dX9_set_205 : decode cX9_set 205 = .ok (.iload_n 3, 1) := by decide +kernel
theorem dX9_set_206 : decode cX9_set 206 = .ok (.iastore, 1) := by decide +kernel
theorem dX9_set_207 : decode cX9_set 207 = .ok (.goto 55, 3) := by decide +kernel
theorem dX9_set_210 : decode cX9_set 210 = .ok (.iload_n 1, 1) := by decide +kernel
theorem dX9_set_211 : decode cX9_set 211 = .ok (.iconst 2, 1) := by decide +kernel
theorem dX9_set_212 : decode cX9_set 212 = .ok (.if_icmp .ne 13, 3) := by decide +kernel
theorem dX9_set_215 : decode cX9_set 215 = .ok (.aload_n 0, 1) := by decide +kernel
theorem dX9_set_216 : decode cX9_set 216 = .ok (.getfield 29, 3) := by decide +kernel
theorem dX9_set_219 : decode cX9_set 219 = .ok (.iload_n 2, 1) := by decide +kernel
theorem dX9_set_220 : decode cX9_set 220 = .ok (.iload_n 3, 1) := by decide +kernel
theorem dX9_set_221 : decode cX9_set 221 = .ok (.iastore, 1) := by decide +kernel
theorem dX9_set_222 : decode cX9_set 222 = .ok (.goto 40, 3) := by decide +kernel
theorem dX9_set_225 : decode cX9_set 225 = .ok (.iload_n 1, 1) := by decide +kernel
theorem dX9_set_226 : decode cX9_set 226 = .ok (.iconst 3, 1) := by decide +kernel
theorem dX9_set_227 : decode cX9_set 227 = .ok (.if_icmp .ne 13, 3) := by decide +kernel
theorem dX9_set_230 : decode cX9_set 230 = .ok (.aload_n 0, 1) := by decide +kernel
theorem dX9_set_231 : decode cX9_set 231 = .ok (.getfield 32, 3) := by decide +kernel
theorem dX9_set_234 : decode cX9_set 234 = .ok (.iload_n 2, 1) := by decide +kernel
theorem dX9_set_235 : decode cX9_set 235 = .ok (.iload_n 3, 1) := by decide +kernel
theorem dX9_set_236 : decode cX9_set 236 = .ok (.iastore, 1) := by decide +kernel
theorem dX9_set_237 : decode cX9_set 237 = .ok (.goto 25, 3) := by decide +kernel
theorem dX9_set_240 : decode cX9_set 240 = .ok (.iload_n 1, 1) := by decide +kernel
theorem dX9_set_241 : decode cX9_set 241 = .ok (.iconst 4, 1) := by decide +kernel
theorem dX9_set_242 : decode cX9_set 242 = .ok (.if_icmp .ne 13, 3) := by decide +kernel
theorem dX9_set_245 : decode cX9_set 245 = .ok (.aload_n 0, 1) := by decide +kernel
theorem dX9_set_246 : decode cX9_set 246 = .ok (.getfield 35, 3) := by decide +kernel
theorem dX9_set_249 : decode cX9_set 249 = .ok (.iload_n 2, 1) := by decide +kernel
theorem dX9_set_250 : decode cX9_set 250 = .ok (.iload_n 3, 1) := by decide +kernel
theorem dX9_set_251 : decode cX9_set 251 = .ok (.iastore, 1) := by decide +kernel
theorem dX9_set_252 : decode cX9_set 252 = .ok (.goto 10, 3) := by decide +kernel
theorem dX9_set_255 : decode cX9_set 255 = .ok (.aload_n 0, 1) := by decide +kernel
theorem dX9_set_256 : decode cX9_set 256 = .ok (.getfield 38, 3) := by decide +kernel
theorem dX9_set_259 : decode cX9_set 259 = .ok (.iload_n 2, 1) := by decide +kernel
theorem dX9_set_260 : decode cX9_set 260 = .ok (.iload_n 3, 1) := by decide +kernel
theorem dX9_set_261 : decode cX9_set 261 = .ok (.iastore, 1) := by decide +kernel
theorem dX9_set_262 : decode cX9_set 262 = .ok (.iload 4, 2) := by decide +kernel
theorem dX9_set_264 : decode cX9_set 264 = .ok (.ireturn, 1) := by decide +kernel
theorem dX9_byteAt_0 : decode cX9_byteAt 0 = .ok (.iload_n 1, 1) := by decide +kernel
theorem dX9_byteAt_1 : decode cX9_byteAt 1 = .ok (.aload_n 0, 1) := by decide +kernel
theorem dX9_byteAt_2 : decode cX9_byteAt 2 = .ok (.getfield 141, 3) := by decide +kernel
theorem dX9_byteAt_5 : decode cX9_byteAt 5 = .ok (.if_icmp .ge 17, 3) := by decide +kernel
theorem dX9_byteAt_8 : decode cX9_byteAt 8 = .ok (.aload_n 0, 1) := by decide +kernel
theorem dX9_byteAt_9 : decode cX9_byteAt 9 = .ok (.getfield 13, 3) := by decide +kernel
theorem dX9_byteAt_12 : decode cX9_byteAt 12 = .ok (.aload_n 0, 1) := by decide +kernel
theorem dX9_byteAt_13 : decode cX9_byteAt 13 = .ok (.getfield 144, 3) := by decide +kernel
theorem dX9_byteAt_16 : decode cX9_byteAt 16 = .ok (.iload_n 1, 1) := by decide +kernel
theorem dX9_byteAt_17 : decode cX9_byteAt 17 = .ok (.iadd, 1) := by decide +kernel
theorem dX9_byteAt_18 : decode cX9_byteAt 18 = .ok (.iaload, 1) := by decide +kernel
theorem dX9_byteAt_19 : decode cX9_byteAt 19 = .ok (.goto 4, 3) := by decide +kernel
theorem dX9_byteAt_22 : decode cX9_byteAt 22 = .ok (.iconst (-1), 1) := by decide +kernel
theorem dX9_byteAt_23 : decode cX9_byteAt 23 = .ok (.ireturn, 1) := by decide +kernel
theorem dX9_next_0 : decode cX9_next 0 = .ok (.aload_n 0, 1) := by decide +kernel
theorem dX9_next_1 : decode cX9_next 1 = .ok (.aload_n 0, 1) := by decide +kernel
theorem dX9_next_2 : decode cX9_next 2 = .ok (.getfield 147, 3) := by decide +kernel
theorem dX9_next_5 : decode cX9_next 5 = .ok (.invokevirtual 150, 3) := by decide +kernel
theorem dX9_next_8 : decode cX9_next 8 = .ok (.bipush 32, 2) := by decide +kernel
theorem dX9_next_10 : decode cX9_next 10 = .ok (.if_icmp .eq 16, 3) := by decide +kernel
theorem dX9_next_13 : decode cX9_next 13 = .ok (.aload_n 0, 1) := by decide +kernel
theorem dX9_next_14 : decode cX9_next 14 = .ok (.aload_n 0, 1) := by decide +kernel
theorem dX9_next_15 : decode cX9_next 15 = .ok (.getfield 147, 3) := by decide +kernel
theorem dX9_next_18 : decode cX9_next 18 = .ok (.invokevirtual 150, 3) := by decide +kernel
theorem dX9_next_21 : decode cX9_next 21 = .ok (.bipush 10, 2) := by decide +kernel
theorem dX9_next_23 : decode cX9_next 23 = .ok (.if_icmp .ne 16, 3) := by decide +kernel
theorem dX9_next_26 : decode cX9_next 26 = .ok (.aload_n 0, 1) := by decide +kernel
theorem dX9_next_27 : decode cX9_next 27 = .ok (.dup, 1) := by decide +kernel
theorem dX9_next_28 : decode cX9_next 28 = .ok (.getfield 147, 3) := by decide +kernel
theorem dX9_next_31 : decode cX9_next 31 = .ok (.iconst 1, 1) := by decide +kernel
theorem dX9_next_32 : decode cX9_next 32 = .ok (.iadd, 1) := by decide +kernel
theorem dX9_next_33 : decode cX9_next 33 = .ok (.putfield 147, 3) := by decide +kernel
theorem dX9_next_36 : decode cX9_next 36 = .ok (.goto (-36), 3) := by decide +kernel
theorem dX9_next_39 : decode cX9_next 39 = .ok (.aload_n 0, 1) := by decide +kernel
theorem dX9_next_40 : decode cX9_next 40 = .ok (.aload_n 0, 1) := by decide +kernel
theorem dX9_next_41 : decode cX9_next 41 = .ok (.getfield 147, 3) := by decide +kernel
theorem dX9_next_44 : decode cX9_next 44 = .ok (.putfield 153, 3) := by decide +kernel
theorem dX9_next_47 : decode cX9_next 47 = .ok (.aload_n 0, 1) := by decide +kernel
theorem dX9_next_48 : decode cX9_next 48 = .ok (.aload_n 0, 1) := by decide +kernel
theorem dX9_next_49 : decode cX9_next 49 = .ok (.getfield 147, 3) := by decide +kernel
theorem dX9_next_52 : decode cX9_next 52 = .ok (.invokevirtual 150, 3) := by decide +kernel
theorem dX9_next_55 : decode cX9_next 55 = .ok (.istore_n 1, 1) := by decide +kernel
theorem dX9_next_56 : decode cX9_next 56 = .ok (.aload_n 0, 1) := by decide +kernel
theorem dX9_next_57 : decode cX9_next 57 = .ok (.iconst 4, 1) := by decide +kernel
theorem dX9_next_58 : decode cX9_next 58 = .ok (.putfield 156, 3) := by decide +kernel
theorem dX9_next_61 : decode cX9_next 61 = .ok (.iload_n 1, 1) := by decide +kernel
theorem dX9_next_62 : decode cX9_next 62 = .ok (.ifCond .ge 19, 3) := by decide +kernel
theorem dX9_next_65 : decode cX9_next 65 = .ok (.aload_n 0, 1) := by decide +kernel
theorem dX9_next_66 : decode cX9_next 66 = .ok (.iconst 0, 1) := by decide +kernel
theorem dX9_next_67 : decode cX9_next 67 = .ok (.putfield 156, 3) := by decide +kernel
theorem dX9_next_70 : decode cX9_next 70 = .ok (.aload_n 0, 1) := by decide +kernel
theorem dX9_next_71 : decode cX9_next 71 = .ok (.aload_n 0, 1) := by decide +kernel
theorem dX9_next_72 : decode cX9_next 72 = .ok (.getfield 141, 3) := by decide +kernel
theorem dX9_next_75 : decode cX9_next 75 = .ok (.putfield 153, 3) := by decide +kernel
theorem dX9_next_78 : decode cX9_next 78 = .ok (.goto 243, 3) := by decide +kernel
theorem dX9_next_81 : decode cX9_next 81 = .ok (.iload_n 1, 1) := by decide +kernel
theorem dX9_next_82 : decode cX9_next 82 = .ok (.i2l, 1) := by decide +kernel
theorem dX9_next_83 : decode cX9_next 83 = .ok (.ldc2_w 159, 3) := by decide +kernel
theorem dX9_next_86 : decode cX9_next 86 = .ok (.ldc2_w 161, 3) := by decide +kernel
theorem dX9_next_89 : decode cX9_next 89 = .ok (.invokestatic 88, 3) := by decide +kernel
theorem dX9_next_92 : decode cX9_next 92 = .ok (.ifCond .eq 42, 3) := by decide +kernel
theorem dX9_next_95 : decode cX9_next 95 = .ok (.aload_n 0, 1) := by decide +kernel
theorem dX9_next_96 : decode cX9_next 96 = .ok (.iconst 1, 1) := by decide +kernel
theorem dX9_next_97 : decode cX9_next 97 = .ok (.putfield 156, 3) := by decide +kernel
theorem dX9_next_100 : decode cX9_next 100 = .ok (.aload_n 0, 1) := by decide +kernel
theorem dX9_next_101 : decode cX9_next 101 = .ok (.aload_n 0, 1) := by decide +kernel
theorem dX9_next_102 : decode cX9_next 102 = .ok (.getfield 147, 3) := by decide +kernel
theorem dX9_next_105 : decode cX9_next 105 = .ok (.invokevirtual 150, 3) := by decide +kernel
theorem dX9_next_108 : decode cX9_next 108 = .ok (.i2l, 1) := by decide +kernel
theorem dX9_next_109 : decode cX9_next 109 = .ok (.ldc2_w 159, 3) := by decide +kernel
theorem dX9_next_112 : decode cX9_next 112 = .ok (.ldc2_w 161, 3) := by decide +kernel
theorem dX9_next_115 : decode cX9_next 115 = .ok (.invokestatic 88, 3) := by decide +kernel
theorem dX9_next_118 : decode cX9_next 118 = .ok (.ifCond .eq 203, 3) := by decide +kernel
theorem dX9_next_121 : decode cX9_next 121 = .ok (.aload_n 0, 1) := by decide +kernel
theorem dX9_next_122 : decode cX9_next 122 = .ok (.dup, 1) := by decide +kernel
theorem dX9_next_123 : decode cX9_next 123 = .ok (.getfield 147, 3) := by decide +kernel
theorem dX9_next_126 : decode cX9_next 126 = .ok (.iconst 1, 1) := by decide +kernel
theorem dX9_next_127 : decode cX9_next 127 = .ok (.iadd, 1) := by decide +kernel
theorem dX9_next_128 : decode cX9_next 128 = .ok (.putfield 147, 3) := by decide +kernel
theorem dX9_next_131 : decode cX9_next 131 = .ok (.goto (-31), 3) := by decide +kernel
theorem dX9_next_134 : decode cX9_next 134 = .ok (.iload_n 1, 1) := by decide +kernel
theorem dX9_next_135 : decode cX9_next 135 = .ok (.i2l, 1) := by decide +kernel
theorem dX9_next_136 : decode cX9_next 136 = .ok (.ldc2_w 163, 3) := by decide +kernel
theorem dX9_next_139 : decode cX9_next 139 = .ok (.ldc2_w 165, 3) := by decide +kernel
theorem dX9_next_142 : decode cX9_next 142 = .ok (.invokestatic 88, 3) := by decide +kernel
theorem dX9_next_145 : decode cX9_next 145 = .ok (.ifCond .eq 107, 3) := by decide +kernel
theorem dX9_next_148 : decode cX9_next 148 = .ok (.aload_n 0, 1) := by decide +kernel
theorem dX9_next_149 : decode cX9_next 149 = .ok (.iconst 2, 1) := by decide +kernel
theorem dX9_next_150 : decode cX9_next 150 = .ok (.putfield 156, 3) := by decide +kernel
theorem dX9_next_153 : decode cX9_next 153 = .ok (.aload_n 0, 1) := by decide +kernel
theorem dX9_next_154 : decode cX9_next 154 = .ok (.lconst 0, 1) := by decide +kernel
theorem dX9_next_155 : decode cX9_next 155 = .ok (.putfield 167, 3) := by decide +kernel
theorem dX9_next_158 : decode cX9_next 158 = .ok (.iconst 0, 1) := by decide +kernel
theorem dX9_next_159 : decode cX9_next 159 = .ok (.istore_n 2, 1) := by decide +kernel
theorem dX9_next_160 : decode cX9_next 160 = .ok (.aload_n 0, 1) := by decide +kernel
theorem dX9_next_161 : decode cX9_next 161 = .ok (.aload_n 0, 1) := by decide +kernel
theorem dX9_next_162 : decode cX9_next 162 = .ok (.getfield 147, 3) := by decide +kernel
theorem dX9_next_165 : decode cX9_next 165 = .ok (.invokevirtual 150, 3) := by decide +kernel
theorem dX9_next_168 : decode cX9_next 168 = .ok (.i2l, 1) := by decide +kernel
theorem dX9_next_169 : decode cX9_next 169 = .ok (.ldc2_w 163, 3) := by decide +kernel
theorem dX9_next_172 : decode cX9_next 172 = .ok (.ldc2_w 165, 3) := by decide +kernel
theorem dX9_next_175 : decode cX9_next 175 = .ok (.invokestatic 88, 3) := by decide +kernel
theorem dX9_next_178 : decode cX9_next 178 = .ok (.ifCond .eq 57, 3) := by decide +kernel
theorem dX9_next_181 : decode cX9_next 181 = .ok (.aload_n 0, 1) := by decide +kernel
theorem dX9_next_182 : decode cX9_next 182 = .ok (.iload_n 2, 1) := by decide +kernel
theorem dX9_next_183 : decode cX9_next 183 = .ok (.iconst 4, 1) := by decide +kernel
theorem dX9_next_184 : decode cX9_next 184 = .ok (.if_icmp .ge 28, 3) := by decide +kernel
theorem dX9_next_187 : decode cX9_next 187 = .ok (.ldc2_w 171, 3) := by decide +kernel
theorem dX9_next_190 : decode cX9_next 190 = .ok (.aload_n 0, 1) := by decide +kernel
theorem dX9_next_191 : decode cX9_next 191 = .ok (.getfield 167, 3) := by decide +kernel
theorem dX9_next_194 : decode cX9_next 194 = .ok (.lmul, 1) := by decide +kernel
theorem dX9_next_195 : decode cX9_next 195 = .ok (.aload_n 0, 1) := by decide +kernel
theorem dX9_next_196 : decode cX9_next 196 = .ok (.aload_n 0, 1) := by decide +kernel
theorem dX9_next_197 : decode cX9_next 197 = .ok (.getfield 147, 3) := by decide +kernel
theorem dX9_next_200 : decode cX9_next 200 = .ok (.invokevirtual 150, 3) := by decide +kernel
theorem dX9_next_203 : decode cX9_next 203 = .ok (.i2l, 1) := by decide +kernel
theorem dX9_next_204 : decode cX9_next 204 = .ok (.ladd, 1) := by decide +kernel
theorem dX9_next_205 : decode cX9_next 205 = .ok (.ldc2_w 163, 3) := by decide +kernel
theorem dX9_next_208 : decode cX9_next 208 = .ok (.lsub, 1) := by decide +kernel
theorem dX9_next_209 : decode cX9_next 209 = .ok (.goto 7, 3) := by decide +kernel
theorem dX9_next_212 : decode cX9_next 212 = .ok (.aload_n 0, 1) := by decide +kernel
theorem dX9_next_213 : decode cX9_next 213 = .ok (.getfield 167, 3) := by decide +kernel
theorem dX9_next_216 : decode cX9_next 216 = .ok (.putfield 167, 3) := by decide +kernel
theorem dX9_next_219 : decode cX9_next 219 = .ok (.iinc 2 1, 3) := by decide +kernel
theorem dX9_next_222 : decode cX9_next 222 = .ok (.aload_n 0, 1) := by decide +kernel
theorem dX9_next_223 : decode cX9_next 223 = .ok (.dup, 1) := by decide +kernel
theorem dX9_next_224 : decode cX9_next 224 = .ok (.getfield 147, 3) := by decide +kernel
theorem dX9_next_227 : decode cX9_next 227 = .ok (.iconst 1, 1) := by decide +kernel
theorem dX9_next_228 : decode cX9_next 228 = .ok (.iadd, 1) := by decide +kernel
theorem dX9_next_229 : decode cX9_next 229 = .ok (.putfield 147, 3) := by decide +kernel
theorem dX9_next_232 : decode cX9_next 232 = .ok (.goto (-72), 3) := by decide +kernel
theorem dX9_next_235 : decode cX9_next 235 = .ok (.aload_n 0, 1) := by decide +kernel
theorem dX9_next_236 : decode cX9_next 236 = .ok (.iload_n 2, 1) := by decide +kernel
theorem dX9_next_237 : decode cX9_next 237 = .ok (.iconst 4, 1) := by decide +kernel
theorem dX9_next_238 : decode cX9_next 238 = .ok (.if_icmp .le 7, 3) := by decide +kernel
theorem dX9_next_241 : decode cX9_next 241 = .ok (.iconst 4, 1) := by decide +kernel
theorem dX9_next_242 : decode cX9_next 242 = .ok (.goto 4, 3) := by decide +kernel
theorem dX9_next_245 : decode cX9_next 245 = .ok (.iconst 2, 1) := by decide +kernel
theorem dX9_next_246 : decode cX9_next 246 = .ok (.putfield 156, 3) := by decide +kernel
theorem dX9_next_249 : decode cX9_next 249 = .ok (.goto 72, 3) := by decide +kernel
theorem dX9_next_252 : decode cX9_next 252 = .ok (.iload_n 1, 1) := by decide +kernel
theorem dX9_next_253 : decode cX9_next 253 = .ok (.bipush 40, 2) := by decide +kernel
theorem dX9_next_255 : decode cX9_next 255 = .ok (.if_icmp .eq 45, 3) := by decide +kernel
theorem dX9_next_258 : decode cX9_next 258 = .ok (.iload_n 1, 1) := by decide +kernel
theorem dX9_next_259 : decode cX9_next 259 = .ok (.bipush 41, 2) := by decide +kernel
theorem dX9_next_261 : decode cX9_next 261 = .ok (.if_icmp .eq 39, 3) := by decide +kernel
theorem dX9_next_264 : decode cX9_next 264 = .ok (.iload_n 1, 1) := by decide +kernel
theorem dX9_next_265 : decode cX9_next 265 = .ok (.bipush 59, 2) := by decide +kernel
theorem dX9_next_267 : decode cX9_next 267 = .ok (.if_icmp .eq 33, 3) := by decide +kernel
theorem dX9_next_270 : decode cX9_next 270 = .ok (.iload_n 1, 1) := by decide +kernel
theorem dX9_next_271 : decode cX9_next 271 = .ok (.bipush 43, 2) := by decide +kernel
theorem dX9_next_273 : decode cX9_next 273 = .ok (.if_icmp .eq 27, 3) := by decide +kernel
theorem dX9_next_276 : decode cX9_next 276 = .ok (.iload_n 1, 1) := by decide +kernel
theorem dX9_next_277 : decode cX9_next 277 = .ok (.bipush 45, 2) := by decide +kernel
theorem dX9_next_279 : decode cX9_next 279 = .ok (.if_icmp .eq 21, 3) := by decide +kernel
theorem dX9_next_282 : decode cX9_next 282 = .ok (.iload_n 1, 1) := by decide +kernel
theorem dX9_next_283 : decode cX9_next 283 = .ok (.bipush 42, 2) := by decide +kernel
theorem dX9_next_285 : decode cX9_next 285 = .ok (.if_icmp .eq 15, 3) := by decide +kernel
theorem dX9_next_288 : decode cX9_next 288 = .ok (.iload_n 1, 1) := by decide +kernel
theorem dX9_next_289 : decode cX9_next 289 = .ok (.bipush 60, 2) := by decide +kernel
theorem dX9_next_291 : decode cX9_next 291 = .ok (.if_icmp .eq 9, 3) := by decide +kernel
theorem dX9_next_294 : decode cX9_next 294 = .ok (.iload_n 1, 1) := by decide +kernel
theorem dX9_next_295 : decode cX9_next 295 = .ok (.bipush 61, 2) := by decide +kernel
theorem dX9_next_297 : decode cX9_next 297 = .ok (.if_icmp .ne 24, 3) := by decide +kernel
theorem dX9_next_300 : decode cX9_next 300 = .ok (.aload_n 0, 1) := by decide +kernel
theorem dX9_next_301 : decode cX9_next 301 = .ok (.iconst 3, 1) := by decide +kernel
theorem dX9_next_302 : decode cX9_next 302 = .ok (.putfield 156, 3) := by decide +kernel
theorem dX9_next_305 : decode cX9_next 305 = .ok (.aload_n 0, 1) := by decide +kernel
theorem dX9_next_306 : decode cX9_next 306 = .ok (.iload_n 1, 1) := by decide +kernel
theorem dX9_next_307 : decode cX9_next 307 = .ok (.i2l, 1) := by decide +kernel
theorem dX9_next_308 : decode cX9_next 308 = .ok (.putfield 167, 3) := by decide +kernel
theorem dX9_next_311 : decode cX9_next 311 = .ok (.aload_n 0, 1) := by decide +kernel
theorem dX9_next_312 : decode cX9_next 312 = .ok (.dup, 1) := by decide +kernel
theorem dX9_next_313 : decode cX9_next 313 = .ok (.getfield 147, 3) := by decide +kernel
theorem dX9_next_316 : decode cX9_next 316 = .ok (.iconst 1, 1) := by decide +kernel
theorem dX9_next_317 : decode cX9_next 317 = .ok (.iadd, 1) := by decide +kernel
theorem dX9_next_318 : decode cX9_next 318 = .ok (.putfield 147, 3) := by decide +kernel
theorem dX9_next_321 : decode cX9_next 321 = .ok (.return_, 1) := by decide +kernel
theorem dX9_isLetter_0 : decode cX9_isLetter 0 = .ok (.aload_n 0, 1) := by decide +kernel
theorem dX9_isLetter_1 : decode cX9_isLetter 1 = .ok (.getfield 153, 3) := by decide +kernel
theorem dX9_isLetter_4 : decode cX9_isLetter 4 = .ok (.iload_n 1, 1) := by decide +kernel
theorem dX9_isLetter_5 : decode cX9_isLetter 5 = .ok (.iadd, 1) := by decide +kernel
theorem dX9_isLetter_6 : decode cX9_isLetter 6 = .ok (.aload_n 0, 1) := by decide +kernel
theorem dX9_isLetter_7 : decode cX9_isLetter 7 = .ok (.getfield 147, 3) := by decide +kernel
theorem dX9_isLetter_10 : decode cX9_isLetter 10 = .ok (.if_icmp .ge 25, 3) := by decide +kernel
theorem dX9_isLetter_13 : decode cX9_isLetter 13 = .ok (.aload_n 0, 1) := by decide +kernel
theorem dX9_isLetter_14 : decode cX9_isLetter 14 = .ok (.aload_n 0, 1) := by decide +kernel
theorem dX9_isLetter_15 : decode cX9_isLetter 15 = .ok (.getfield 153, 3) := by decide +kernel
theorem dX9_isLetter_18 : decode cX9_isLetter 18 = .ok (.iload_n 1, 1) := by decide +kernel
theorem dX9_isLetter_19 : decode cX9_isLetter 19 = .ok (.iadd, 1) := by decide +kernel
theorem dX9_isLetter_20 : decode cX9_isLetter 20 = .ok (.invokevirtual 150, 3) := by decide +kernel
theorem dX9_isLetter_23 : decode cX9_isLetter 23 = .ok (.iload_n 2, 1) := by decide +kernel
theorem dX9_isLetter_24 : decode cX9_isLetter 24 = .ok (.if_icmp .ne 7, 3) := by decide +kernel
theorem dX9_isLetter_27 : decode cX9_isLetter 27 = .ok (.iconst 1, 1) := by decide +kernel
theorem dX9_isLetter_28 : decode cX9_isLetter 28 = .ok (.goto 16, 3) := by decide +kernel
theorem dX9_isLetter_31 : decode cX9_isLetter 31 = .ok (.iconst 0, 1) := by decide +kernel
theorem dX9_isLetter_32 : decode cX9_isLetter 32 = .ok (.goto 12, 3) := by decide +kernel
theorem dX9_isLetter_35 : decode cX9_isLetter 35 = .ok (.iload_n 2, 1) := by decide +kernel
theorem dX9_isLetter_36 : decode cX9_isLetter 36 = .ok (.ifCond .ne 7, 3) := by decide +kernel
theorem dX9_isLetter_39 : decode cX9_isLetter 39 = .ok (.iconst 1, 1) := by decide +kernel
theorem dX9_isLetter_40 : decode cX9_isLetter 40 = .ok (.goto 4, 3) := by decide +kernel
theorem dX9_isLetter_43 : decode cX9_isLetter 43 = .ok (.iconst 0, 1) := by decide +kernel
theorem dX9_isLetter_44 : decode cX9_isLetter 44 = .ok (.ireturn, 1) := by decide +kernel
theorem dX9_isWord_0 : decode cX9_isWord 0 = .ok (.aload_n 0, 1) := by decide +kernel
theorem dX9_isWord_1 : decode cX9_isWord 1 = .ok (.getfield 173, 3) := by decide +kernel
theorem dX9_isWord_4 : decode cX9_isWord 4 = .ok (.ifCond .ne 108, 3) := by decide +kernel
theorem dX9_isWord_7 : decode cX9_isWord 7 = .ok (.aload_n 0, 1) := by decide +kernel
theorem dX9_isWord_8 : decode cX9_isWord 8 = .ok (.getfield 156, 3) := by decide +kernel
theorem dX9_isWord_11 : decode cX9_isWord 11 = .ok (.iconst 1, 1) := by decide +kernel
theorem dX9_isWord_12 : decode cX9_isWord 12 = .ok (.if_icmp .ne 100, 3) := by decide +kernel
theorem dX9_isWord_15 : decode cX9_isWord 15 = .ok (.aload_n 0, 1) := by decide +kernel
theorem dX9_isWord_16 : decode cX9_isWord 16 = .ok (.getfield 147, 3) := by decide +kernel
theorem dX9_isWord_19 : decode cX9_isWord 19 = .ok (.aload_n 0, 1) := by decide +kernel
theorem dX9_isWord_20 : decode cX9_isWord 20 = .ok (.getfield 153, 3) := by decide +kernel
theorem dX9_isWord_23 : decode cX9_isWord 23 = .ok (.bipush 8, 2) := by decide +kernel
theorem dX9_isWord_25 : decode cX9_isWord 25 = .ok (.iadd, 1) := by decide +kernel
theorem dX9_isWord_26 : decode cX9_isWord 26 = .ok (.if_icmp .gt 86, 3) := by decide +kernel
theorem dX9_isWord_29 : decode cX9_isWord 29 = .ok (.aload_n 0, 1) := by decide +kernel
theorem dX9_isWord_30 : decode cX9_isWord 30 = .ok (.iconst 0, 1) := by decide +kernel
theorem dX9_isWord_31 : decode cX9_isWord 31 = .ok (.iload_n 1, 1) := by decide +kernel
theorem dX9_isWord_32 : decode cX9_isWord 32 = .ok (.invokevirtual 180, 3) := by decide +kernel
theorem dX9_isWord_35 : decode cX9_isWord 35 = .ok (.ifCond .eq 77, 3) := by decide +kernel
theorem dX9_isWord_38 : decode cX9_isWord 38 = .ok (.aload_n 0, 1) := by decide +kernel
theorem dX9_isWord_39 : decode cX9_isWord 39 = .ok (.iconst 1, 1) := by decide +kernel
theorem dX9_isWord_40 : decode cX9_isWord 40 = .ok (.iload_n 2, 1) := by decide +kernel
theorem dX9_isWord_41 : decode cX9_isWord 41 = .ok (.invokevirtual 180, 3) := by decide +kernel
theorem dX9_isWord_44 : decode cX9_isWord 44 = .ok (.ifCond .eq 68, 3) := by decide +kernel
theorem dX9_isWord_47 : decode cX9_isWord 47 = .ok (.aload_n 0, 1) := by decide +kernel
theorem dX9_isWord_48 : decode cX9_isWord 48 = .ok (.iconst 2, 1) := by decide +kernel
theorem dX9_isWord_49 : decode cX9_isWord 49 = .ok (.iload_n 3, 1) := by decide +kernel
theorem dX9_isWord_50 : decode cX9_isWord 50 = .ok (.invokevirtual 180, 3) := by decide +kernel
theorem dX9_isWord_53 : decode cX9_isWord 53 = .ok (.ifCond .eq 59, 3) := by decide +kernel
theorem dX9_isWord_56 : decode cX9_isWord 56 = .ok (.aload_n 0, 1) := by decide +kernel
theorem dX9_isWord_57 : decode cX9_isWord 57 = .ok (.iconst 3, 1) := by decide +kernel
theorem dX9_isWord_58 : decode cX9_isWord 58 = .ok (.iload 4, 2) := by decide +kernel
theorem dX9_isWord_60 : decode cX9_isWord 60 = .ok (.invokevirtual 180, 3) := by decide +kernel
theorem dX9_isWord_63 : decode cX9_isWord 63 = .ok (.ifCond .eq 49, 3) := by decide +kernel
theorem dX9_isWord_66 : decode cX9_isWord 66 = .ok (.aload_n 0, 1) := by decide +kernel
theorem dX9_isWord_67 : decode cX9_isWord 67 = .ok (.iconst 4, 1) := by decide +kernel
theorem dX9_isWord_68 : decode cX9_isWord 68 = .ok (.iload 5, 2) := by decide +kernel
theorem dX9_isWord_70 : decode cX9_isWord 70 = .ok (.invokevirtual 180, 3) := by decide +kernel
theorem dX9_isWord_73 : decode cX9_isWord 73 = .ok (.ifCond .eq 39, 3) := by decide +kernel
theorem dX9_isWord_76 : decode cX9_isWord 76 = .ok (.aload_n 0, 1) := by decide +kernel
theorem dX9_isWord_77 : decode cX9_isWord 77 = .ok (.iconst 5, 1) := by decide +kernel
theorem dX9_isWord_78 : decode cX9_isWord 78 = .ok (.iload 6, 2) := by decide +kernel
theorem dX9_isWord_80 : decode cX9_isWord 80 = .ok (.invokevirtual 180, 3) := by decide +kernel
theorem dX9_isWord_83 : decode cX9_isWord 83 = .ok (.ifCond .eq 29, 3) := by decide +kernel
theorem dX9_isWord_86 : decode cX9_isWord 86 = .ok (.aload_n 0, 1) := by decide +kernel
theorem dX9_isWord_87 : decode cX9_isWord 87 = .ok (.bipush 6, 2) := by decide +kernel
theorem dX9_isWord_89 : decode cX9_isWord 89 = .ok (.iload 7, 2) := by decide +kernel
theorem dX9_isWord_91 : decode cX9_isWord 91 = .ok (.invokevirtual 180, 3) := by decide +kernel
theorem dX9_isWord_94 : decode cX9_isWord 94 = .ok (.ifCond .eq 18, 3) := by decide +kernel
theorem dX9_isWord_97 : decode cX9_isWord 97 = .ok (.aload_n 0, 1) := by decide +kernel
theorem dX9_isWord_98 : decode cX9_isWord 98 = .ok (.bipush 7, 2) := by decide +kernel
theorem dX9_isWord_100 : decode cX9_isWord 100 = .ok (.iload 8, 2) := by decide +kernel
theorem dX9_isWord_102 : decode cX9_isWord 102 = .ok (.invokevirtual 180, 3) := by decide +kernel
theorem dX9_isWord_105 : decode cX9_isWord 105 = .ok (.ifCond .eq 7, 3) := by decide +kernel
theorem dX9_isWord_108 : decode cX9_isWord 108 = .ok (.iconst 1, 1) := by decide +kernel
theorem dX9_isWord_109 : decode cX9_isWord 109 = .ok (.goto 4, 3) := by decide +kernel
theorem dX9_isWord_112 : decode cX9_isWord 112 = .ok (.iconst 0, 1) := by decide +kernel
theorem dX9_isWord_113 : decode cX9_isWord 113 = .ok (.ireturn, 1) := by decide +kernel
theorem dX9_fail_0 : decode cX9_fail 0 = .ok (.aload_n 0, 1) := by decide +kernel
theorem dX9_fail_1 : decode cX9_fail 1 = .ok (.getfield 173, 3) := by decide +kernel
theorem dX9_fail_4 : decode cX9_fail 4 = .ok (.ifCond .ne 16, 3) := by decide +kernel
theorem dX9_fail_7 : decode cX9_fail 7 = .ok (.aload_n 0, 1) := by decide +kernel
theorem dX9_fail_8 : decode cX9_fail 8 = .ok (.iconst 1, 1) := by decide +kernel
theorem dX9_fail_9 : decode cX9_fail 9 = .ok (.putfield 173, 3) := by decide +kernel
theorem dX9_fail_12 : decode cX9_fail 12 = .ok (.aload_n 0, 1) := by decide +kernel
theorem dX9_fail_13 : decode cX9_fail 13 = .ok (.aload_n 0, 1) := by decide +kernel
theorem dX9_fail_14 : decode cX9_fail 14 = .ok (.getfield 153, 3) := by decide +kernel
theorem dX9_fail_17 : decode cX9_fail 17 = .ok (.putfield 177, 3) := by decide +kernel
theorem dX9_fail_20 : decode cX9_fail 20 = .ok (.return_, 1) := by decide +kernel
theorem dX9_opens_0 : decode cX9_opens 0 = .ok (.aload_n 0, 1) := by decide +kernel
theorem dX9_opens_1 : decode cX9_opens 1 = .ok (.getfield 184, 3) := by decide +kernel
theorem dX9_opens_4 : decode cX9_opens 4 = .ok (.iconst 5, 1) := by decide +kernel
theorem dX9_opens_5 : decode cX9_opens 5 = .ok (.if_icmp .ne 9, 3) := by decide +kernel
theorem dX9_opens_8 : decode cX9_opens 8 = .ok (.aload_n 0, 1) := by decide +kernel
theorem dX9_opens_9 : decode cX9_opens 9 = .ok (.invokevirtual 187, 3) := by decide +kernel
theorem dX9_opens_12 : decode cX9_opens 12 = .ok (.iconst 0, 1) := by decide +kernel
theorem dX9_opens_13 : decode cX9_opens 13 = .ok (.ireturn, 1) := by decide +kernel
theorem dX9_opens_14 : decode cX9_opens 14 = .ok (.aload_n 0, 1) := by decide +kernel
theorem dX9_opens_15 : decode cX9_opens 15 = .ok (.dup, 1) := by decide +kernel
theorem dX9_opens_16 : decode cX9_opens 16 = .ok (.getfield 184, 3) := by decide +kernel
theorem dX9_opens_19 : decode cX9_opens 19 = .ok (.iconst 1, 1) := by decide +kernel
theorem dX9_opens_20 : decode cX9_opens 20 = .ok (.iadd, 1) := by decide +kernel
theorem dX9_opens_21 : decode cX9_opens 21 = .ok (.putfield 184, 3) := by decide +kernel
theorem dX9_opens_24 : decode cX9_opens 24 = .ok (.aload_n 0, 1) := by decide +kernel
theorem dX9_opens_25 : decode cX9_opens 25 = .ok (.invokevirtual 190, 3) := by decide +kernel
theorem dX9_opens_28 : decode cX9_opens 28 = .ok (.iconst 1, 1) := by decide +kernel
theorem dX9_opens_29 : decode cX9_opens 29 = .ok (.ireturn, 1) := by decide +kernel
theorem dX9_isSign_0 : decode cX9_isSign 0 = .ok (.aload_n 0, 1) := by decide +kernel
theorem dX9_isSign_1 : decode cX9_isSign 1 = .ok (.getfield 173, 3) := by decide +kernel
theorem dX9_isSign_4 : decode cX9_isSign 4 = .ok (.ifCond .ne 25, 3) := by decide +kernel
theorem dX9_isSign_7 : decode cX9_isSign 7 = .ok (.aload_n 0, 1) := by decide +kernel
theorem dX9_isSign_8 : decode cX9_isSign 8 = .ok (.getfield 156, 3) := by decide +kernel
theorem dX9_isSign_11 : decode cX9_isSign 11 = .ok (.iconst 3, 1) := by decide +kernel
theorem dX9_isSign_12 : decode cX9_isSign 12 = .ok (.if_icmp .ne 17, 3) := by decide +kernel
theorem dX9_isSign_15 : decode cX9_isSign 15 = .ok (.aload_n 0, 1) := by decide +kernel
theorem dX9_isSign_16 : decode cX9_isSign 16 = .ok (.getfield 167, 3) := by decide +kernel
theorem dX9_isSign_19 : decode cX9_isSign 19 = .ok (.iload_n 1, 1) := by decide +kernel
theorem dX9_isSign_20 : decode cX9_isSign 20 = .ok (.i2l, 1) := by decide +kernel
theorem dX9_isSign_21 : decode cX9_isSign 21 = .ok (.lcmp, 1) := by decide +kernel
theorem dX9_isSign_22 : decode cX9_isSign 22 = .ok (.ifCond .ne 7, 3) := by decide +kernel
theorem dX9_isSign_25 : decode cX9_isSign 25 = .ok (.iconst 1, 1) := by decide +kernel
theorem dX9_isSign_26 : decode cX9_isSign 26 = .ok (.goto 4, 3) := by decide +kernel
theorem dX9_isSign_29 : decode cX9_isSign 29 = .ok (.iconst 0, 1) := by decide +kernel
theorem dX9_isSign_30 : decode cX9_isSign 30 = .ok (.ireturn, 1) := by decide +kernel
theorem dX9_name_0 : decode cX9_name 0 = .ok (.aload_n 0, 1) := by decide +kernel
theorem dX9_name_1 : decode cX9_name 1 = .ok (.bipush 105, 2) := by decide +kernel
theorem dX9_name_3 : decode cX9_name 3 = .ok (.bipush 116, 2) := by decide +kernel
theorem dX9_name_5 : decode cX9_name 5 = .ok (.bipush 101, 2) := by decide +kernel
theorem dX9_name_7 : decode cX9_name 7 = .ok (.bipush 109, 2) := by decide +kernel
theorem dX9_name_9 : decode cX9_name 9 = .ok (.bipush 115, 2) := by decide +kernel
theorem dX9_name_11 : decode cX9_name 11 = .ok (.iconst 0, 1) := by decide +kernel
theorem dX9_name_12 : decode cX9_name 12 = .ok (.iconst 0, 1) := by decide +kernel
theorem dX9_name_13 : decode cX9_name 13 = .ok (.iconst 0, 1) := by decide +kernel
theorem dX9_name_14 : decode cX9_name 14 = .ok (.invokevirtual 193, 3) := by decide +kernel
theorem dX9_name_17 : decode cX9_name 17 = .ok (.ifCond .eq 8, 3) := by decide +kernel
theorem dX9_name_20 : decode cX9_name 20 = .ok (.aload_n 0, 1) := by decide +kernel
theorem dX9_name_21 : decode cX9_name 21 = .ok (.getfield 197, 3) := by decide +kernel
theorem dX9_name_24 : decode cX9_name 24 = .ok (.ireturn, 1) := by decide +kernel
theorem dX9_name_25 : decode cX9_name 25 = .ok (.aload_n 0, 1) := by decide +kernel
theorem dX9_name_26 : decode cX9_name 26 = .ok (.bipush 110, 2) := by decide +kernel
theorem dX9_name_28 : decode cX9_name 28 = .ok (.bipush 117, 2) := by decide +kernel
theorem dX9_name_30 : decode cX9_name 30 = .ok (.bipush 109, 2) := by decide +kernel
theorem dX9_name_32 : decode cX9_name 32 = .ok (.bipush 98, 2) := by decide +kernel
theorem dX9_name_34 : decode cX9_name 34 = .ok (.bipush 101, 2) := by decide +kernel
theorem dX9_name_36 : decode cX9_name 36 = .ok (.bipush 114, 2) := by decide +kernel
theorem dX9_name_38 : decode cX9_name 38 = .ok (.iconst 0, 1) := by decide +kernel
theorem dX9_name_39 : decode cX9_name 39 = .ok (.iconst 0, 1) := by decide +kernel
theorem dX9_name_40 : decode cX9_name 40 = .ok (.invokevirtual 193, 3) := by decide +kernel
theorem dX9_name_43 : decode cX9_name 43 = .ok (.ifCond .eq 8, 3) := by decide +kernel
theorem dX9_name_46 : decode cX9_name 46 = .ok (.aload_n 0, 1) := by decide +kernel
theorem dX9_name_47 : decode cX9_name 47 = .ok (.getfield 200, 3) := by decide +kernel
theorem dX9_name_50 : decode cX9_name 50 = .ok (.ireturn, 1) := by decide +kernel
theorem dX9_name_51 : decode cX9_name 51 = .ok (.aload_n 0, 1) := by decide +kernel
theorem dX9_name_52 : decode cX9_name 52 = .ok (.bipush 112, 2) := by decide +kernel
theorem dX9_name_54 : decode cX9_name 54 = .ok (.bipush 108, 2) := by decide +kernel
theorem dX9_name_56 : decode cX9_name 56 = .ok (.bipush 97, 2) := by decide +kernel
theorem dX9_name_58 : decode cX9_name 58 = .ok (.bipush 99, 2) := by decide +kernel
theorem dX9_name_60 : decode cX9_name 60 = .ok (.bipush 101, 2) := by decide +kernel
theorem dX9_name_62 : decode cX9_name 62 = .ok (.iconst 0, 1) := by decide +kernel
theorem dX9_name_63 : decode cX9_name 63 = .ok (.iconst 0, 1) := by decide +kernel
theorem dX9_name_64 : decode cX9_name 64 = .ok (.iconst 0, 1) := by decide +kernel
theorem dX9_name_65 : decode cX9_name 65 = .ok (.invokevirtual 193, 3) := by decide +kernel
theorem dX9_name_68 : decode cX9_name 68 = .ok (.ifCond .eq 8, 3) := by decide +kernel
theorem dX9_name_71 : decode cX9_name 71 = .ok (.aload_n 0, 1) := by decide +kernel
theorem dX9_name_72 : decode cX9_name 72 = .ok (.getfield 203, 3) := by decide +kernel
theorem dX9_name_75 : decode cX9_name 75 = .ok (.ireturn, 1) := by decide +kernel
theorem dX9_name_76 : decode cX9_name 76 = .ok (.aload_n 0, 1) := by decide +kernel
theorem dX9_name_77 : decode cX9_name 77 = .ok (.bipush 111, 2) := by decide +kernel
theorem dX9_name_79 : decode cX9_name 79 = .ok (.bipush 117, 2) := by decide +kernel
theorem dX9_name_81 : decode cX9_name 81 = .ok (.bipush 114, 2) := by decide +kernel
theorem dX9_name_83 : decode cX9_name 83 = .ok (.bipush 115, 2) := by decide +kernel
theorem dX9_name_85 : decode cX9_name 85 = .ok (.iconst 0, 1) := by decide +kernel
theorem dX9_name_86 : decode cX9_name 86 = .ok (.iconst 0, 1) := by decide +kernel
theorem dX9_name_87 : decode cX9_name 87 = .ok (.iconst 0, 1) := by decide +kernel
theorem dX9_name_88 : decode cX9_name 88 = .ok (.iconst 0, 1) := by decide +kernel
theorem dX9_name_89 : decode cX9_name 89 = .ok (.invokevirtual 193, 3) := by decide +kernel
theorem dX9_name_92 : decode cX9_name 92 = .ok (.ifCond .eq 8, 3) := by decide +kernel
theorem dX9_name_95 : decode cX9_name 95 = .ok (.aload_n 0, 1) := by decide +kernel
theorem dX9_name_96 : decode cX9_name 96 = .ok (.getfield 206, 3) := by decide +kernel
theorem dX9_name_99 : decode cX9_name 99 = .ok (.ireturn, 1) := by decide +kernel
theorem dX9_name_100 : decode cX9_name 100 = .ok (.aload_n 0, 1) := by decide +kernel
theorem dX9_name_101 : decode cX9_name 101 = .ok (.bipush 119, 2) := by decide +kernel
theorem dX9_name_103 : decode cX9_name 103 = .ok (.bipush 97, 2) := by decide +kernel
theorem dX9_name_105 : decode cX9_name 105 = .ok (.bipush 105, 2) := by decide +kernel
theorem dX9_name_107 : decode cX9_name 107 = .ok (.bipush 116, 2) := by decide +kernel
theorem dX9_name_109 : decode cX9_name 109 = .ok (.iconst 0, 1) := by decide +kernel
theorem dX9_name_110 : decode cX9_name 110 = .ok (.iconst 0, 1) := by decide +kernel
theorem dX9_name_111 : decode cX9_name 111 = .ok (.iconst 0, 1) := by decide +kernel
theorem dX9_name_112 : decode cX9_name 112 = .ok (.iconst 0, 1) := by decide +kernel
theorem dX9_name_113 : decode cX9_name 113 = .ok (.invokevirtual 193, 3) := by decide +kernel
theorem dX9_name_116 : decode cX9_name 116 = .ok (.ifCond .eq 8, 3) := by decide +kernel
theorem dX9_name_119 : decode cX9_name 119 = .ok (.aload_n 0, 1) := by decide +kernel
theorem dX9_name_120 : decode cX9_name 120 = .ok (.getfield 209, 3) := by decide +kernel
theorem dX9_name_123 : decode cX9_name 123 = .ok (.ireturn, 1) := by decide +kernel
theorem dX9_name_124 : decode cX9_name 124 = .ok (.aload_n 0, 1) := by decide +kernel
theorem dX9_name_125 : decode cX9_name 125 = .ok (.bipush 109, 2) := by decide +kernel
theorem dX9_name_127 : decode cX9_name 127 = .ok (.bipush 97, 2) := by decide +kernel
theorem dX9_name_129 : decode cX9_name 129 = .ok (.bipush 110, 2) := by decide +kernel
theorem dX9_name_131 : decode cX9_name 131 = .ok (.bipush 121, 2) := by decide +kernel
theorem dX9_name_133 : decode cX9_name 133 = .ok (.iconst 0, 1) := by decide +kernel
theorem dX9_name_134 : decode cX9_name 134 = .ok (.iconst 0, 1) := by decide +kernel
theorem dX9_name_135 : decode cX9_name 135 = .ok (.iconst 0, 1) := by decide +kernel
theorem dX9_name_136 : decode cX9_name 136 = .ok (.iconst 0, 1) := by decide +kernel
theorem dX9_name_137 : decode cX9_name 137 = .ok (.invokevirtual 193, 3) := by decide +kernel
theorem dX9_name_140 : decode cX9_name 140 = .ok (.ifCond .eq 8, 3) := by decide +kernel
theorem dX9_name_143 : decode cX9_name 143 = .ok (.aload_n 0, 1) := by decide +kernel
theorem dX9_name_144 : decode cX9_name 144 = .ok (.getfield 212, 3) := by decide +kernel
theorem dX9_name_147 : decode cX9_name 147 = .ok (.ireturn, 1) := by decide +kernel
theorem dX9_name_148 : decode cX9_name 148 = .ok (.aload_n 0, 1) := by decide +kernel
theorem dX9_name_149 : decode cX9_name 149 = .ok (.invokevirtual 187, 3) := by decide +kernel
theorem dX9_name_152 : decode cX9_name 152 = .ok (.iconst 0, 1) := by decide +kernel
theorem dX9_name_153 : decode cX9_name 153 = .ok (.ireturn, 1) := by decide +kernel
-- KeepOurPlaceModel.spell
def F9_spell (M : Mem) (a1 : Int32) (a2 : Int32) (a3 : Int32) (a4 : Int32) (a5 : Int32) (a6 : Int32) (a7 : Int32) (a8 : Int32) (a9 : Int32) : Option (Int32 × Mem) :=
    if inb a1 960 = true then
    if inb (a1 + (1 : Int32)) 960 = true then
    if inb (a1 + (2 : Int32)) 960 = true then
    if inb (a1 + (3 : Int32)) 960 = true then
    if inb (a1 + (4 : Int32)) 960 = true then
    if inb (a1 + (5 : Int32)) 960 = true then
    if inb (a1 + (6 : Int32)) 960 = true then
    if inb (a1 + (7 : Int32)) 960 = true then
    some ((0 : Int32), (up2 (up2 (up2 (up2 (up2 (up2 (up2 (up2 M 1 (Int32.toNatClampNeg a1) a2) 1 (Int32.toNatClampNeg (a1 + (1 : Int32))) a3) 1 (Int32.toNatClampNeg (a1 + (2 : Int32))) a4) 1 (Int32.toNatClampNeg (a1 + (3 : Int32))) a5) 1 (Int32.toNatClampNeg (a1 + (4 : Int32))) a6) 1 (Int32.toNatClampNeg (a1 + (5 : Int32))) a7) 1 (Int32.toNatClampNeg (a1 + (6 : Int32))) a8) 1 (Int32.toNatClampNeg (a1 + (7 : Int32))) a9))
    else none
    else none
    else none
    else none
    else none
    else none
    else none
    else none
set_option maxRecDepth 20000 in
theorem F9_spell_ok {p : Program} {l : Launch} {e : Env} {s : State} {m : MethodId} {args : Array Value} {below : List Frame} {meth : Method} {c : Code} {G : GG} {D : Nat} {r : Int32 × Mem} (F : FrP shB G p s m args c RX9 cX9_spell 10) (hr : meth.sig.returnType = none) (hlk : meth.locks = false) (hD : 1 ≤ D) {M : Mem} {a1 : Int32} {a2 : Int32} {a3 : Int32} {a4 : Int32} {a5 : Int32} {a6 : Int32} {a7 : Int32} {a8 : Int32} {a9 : Int32} (h : F9_spell M a1 a2 a3 a4 a5 a6 a7 a8 a9 = some r) : XJ shB p l e (rmX D) s m args below meth c 0 0 G 10 (MQ below (QcX shB G ((none, r.2) : Option Value × Mem).1 ((none, r.2) : Option Value × Mem).2) args s 0 0 (AW shB G.2.1)) 0 [(0, .ref 0), (1, .int a1), (2, .int a2), (3, .int a3), (4, .int a4), (5, .int a5), (6, .int a6), (7, .int a7), (8, .int a8), (9, .int a9)] [] M := by
  unfold F9_spell at h
  refine X_aload_n F dX9_spell_0 rfl ?_
  refine X_getr F ffRX9_13 dX9_spell_1 ?_
  refine X_iload_n F dX9_spell_4 rfl ?_
  refine X_iload_n F dX9_spell_5 rfl ?_
  obtain ⟨q1, h⟩ := ifS h
  refine X_iast (j := (Int32.toNatClampNeg a1)) F rfl (inbV q1) rfl dX9_spell_6 ?_
  refine X_aload_n F dX9_spell_7 rfl ?_
  refine X_getr F ffRX9_13 dX9_spell_8 ?_
  refine X_iload_n F dX9_spell_11 rfl ?_
  refine X_iconst F dX9_spell_12 (v := (1 : Int32)) rfl ?_
  refine X_iadd F dX9_spell_13 ?_
  refine X_iload_n F dX9_spell_14 rfl ?_
  obtain ⟨q2, h⟩ := ifS h
  refine X_iast (j := (Int32.toNatClampNeg (a1 + (1 : Int32)))) F rfl (inbV q2) rfl dX9_spell_15 ?_
  refine X_aload_n F dX9_spell_16 rfl ?_
  refine X_getr F ffRX9_13 dX9_spell_17 ?_
  refine X_iload_n F dX9_spell_20 rfl ?_
  refine X_iconst F dX9_spell_21 (v := (2 : Int32)) rfl ?_
  refine X_iadd F dX9_spell_22 ?_
  refine X_iload F dX9_spell_23 rfl ?_
  obtain ⟨q3, h⟩ := ifS h
  refine X_iast (j := (Int32.toNatClampNeg (a1 + (2 : Int32)))) F rfl (inbV q3) rfl dX9_spell_25 ?_
  refine X_aload_n F dX9_spell_26 rfl ?_
  refine X_getr F ffRX9_13 dX9_spell_27 ?_
  refine X_iload_n F dX9_spell_30 rfl ?_
  refine X_iconst F dX9_spell_31 (v := (3 : Int32)) rfl ?_
  refine X_iadd F dX9_spell_32 ?_
  refine X_iload F dX9_spell_33 rfl ?_
  obtain ⟨q4, h⟩ := ifS h
  refine X_iast (j := (Int32.toNatClampNeg (a1 + (3 : Int32)))) F rfl (inbV q4) rfl dX9_spell_35 ?_
  refine X_aload_n F dX9_spell_36 rfl ?_
  refine X_getr F ffRX9_13 dX9_spell_37 ?_
  refine X_iload_n F dX9_spell_40 rfl ?_
  refine X_iconst F dX9_spell_41 (v := (4 : Int32)) rfl ?_
  refine X_iadd F dX9_spell_42 ?_
  refine X_iload F dX9_spell_43 rfl ?_
  obtain ⟨q5, h⟩ := ifS h
  refine X_iast (j := (Int32.toNatClampNeg (a1 + (4 : Int32)))) F rfl (inbV q5) rfl dX9_spell_45 ?_
  refine X_aload_n F dX9_spell_46 rfl ?_
  refine X_getr F ffRX9_13 dX9_spell_47 ?_
  refine X_iload_n F dX9_spell_50 rfl ?_
  refine X_iconst F dX9_spell_51 (v := (5 : Int32)) rfl ?_
  refine X_iadd F dX9_spell_52 ?_
  refine X_iload F dX9_spell_53 rfl ?_
  obtain ⟨q6, h⟩ := ifS h
  refine X_iast (j := (Int32.toNatClampNeg (a1 + (5 : Int32)))) F rfl (inbV q6) rfl dX9_spell_55 ?_
  refine X_aload_n F dX9_spell_56 rfl ?_
  refine X_getr F ffRX9_13 dX9_spell_57 ?_
  refine X_iload_n F dX9_spell_60 rfl ?_
  refine X_bipush F dX9_spell_61 (v := (6 : Int32)) rfl ?_
  refine X_iadd F dX9_spell_63 ?_
  refine X_iload F dX9_spell_64 rfl ?_
  obtain ⟨q7, h⟩ := ifS h
  refine X_iast (j := (Int32.toNatClampNeg (a1 + (6 : Int32)))) F rfl (inbV q7) rfl dX9_spell_66 ?_
  refine X_aload_n F dX9_spell_67 rfl ?_
  refine X_getr F ffRX9_13 dX9_spell_68 ?_
  refine X_iload_n F dX9_spell_71 rfl ?_
  refine X_bipush F dX9_spell_72 (v := (7 : Int32)) rfl ?_
  refine X_iadd F dX9_spell_74 ?_
  refine X_iload F dX9_spell_75 rfl ?_
  obtain ⟨q8, h⟩ := ifS h
  refine X_iast (j := (Int32.toNatClampNeg (a1 + (7 : Int32)))) F rfl (inbV q8) rfl dX9_spell_77 ?_
  exact X_vret F hr hlk (retV h) dX9_spell_78
set_option maxRecDepth 20000 in
theorem F9_spell_met {l : Launch} {G : GG} {D : Nat} {r : Int32 × Mem} {M : Mem} {a1 : Int32} {a2 : Int32} {a3 : Int32} {a4 : Int32} {a5 : Int32} {a6 : Int32} {a7 : Int32} {a8 : Int32} {a9 : Int32} (hI : Inj shB G.2.1) (hD : 1 ≤ D) (h : F9_spell M a1 a2 a3 a4 a5 a6 a7 a8 a9 = some r) : MetX shB l G yX9_spell cX9_spell 10 none D [.ref 0, .int a1, .int a2, .int a3, .int a4, .int a5, .int a6, .int a7, .int a8, .int a9] M (none, r.2) :=
  X_met hI (by decide +kernel) (Nat.le_of_ble_eq_true rfl) (fun p e s m args below meth c F hr hlk => F9_spell_ok F hr hlk hD h)
-- KeepOurPlaceModel.in
def F9_in (M : Mem) (a0 : Int64) (a2 : Int64) (a4 : Int64) : Option (Int32 × Mem) :=
    if (lg_cmp a0 a2) < 0 then
      some ((0 : Int32), M)
    else
      if 0 < (lg_cmp a0 a4) then
        some ((0 : Int32), M)
      else
        some ((1 : Int32), M)
set_option maxRecDepth 20000 in
theorem F9_in_ok {p : Program} {l : Launch} {e : Env} {s : State} {m : MethodId} {args : Array Value} {below : List Frame} {meth : Method} {c : Code} {G : GG} {D : Nat} {r : Int32 × Mem} (F : FrP shB G p s m args c RX9 cX9_in 6) (hr : meth.sig.returnType = (some .boolean)) (hlk : meth.locks = false) (hD : 1 ≤ D) {M : Mem} {a0 : Int64} {a2 : Int64} {a4 : Int64} (h : F9_in M a0 a2 a4 = some r) : XJ shB p l e (rmX D) s m args below meth c 0 0 G 6 (MQ below (QcX shB G ((some (.int r.1), r.2) : Option Value × Mem).1 ((some (.int r.1), r.2) : Option Value × Mem).2) args s 0 0 (AW shB G.2.1)) 0 [(0, .long a0), (2, .long a2), (4, .long a4)] [] M := by
  unfold F9_in at h
  refine X_lload_n F dX9_in_0 rfl ?_
  refine X_lload_n F dX9_in_1 rfl ?_
  refine X_lcmp F dX9_in_2 ?_
  refine X_if_lt (tgt := 17) F dX9_in_3 (by decide) (fun q1 => ?_) (fun q1 => ?_)
  · rw [if_pos q1] at h
    refine X_iconst F dX9_in_17 (v := (0 : Int32)) rfl ?_
    exact X_zret F hr hlk rfl (retI h) dX9_in_18
  · rw [if_neg q1] at h
    refine X_lload_n F dX9_in_6 rfl ?_
    refine X_lload F dX9_in_7 rfl ?_
    refine X_lcmp F dX9_in_9 ?_
    refine X_if_gt (tgt := 17) F dX9_in_10 (by decide) (fun q2 => ?_) (fun q2 => ?_)
    · rw [if_pos q2] at h
      refine X_iconst F dX9_in_17 (v := (0 : Int32)) rfl ?_
      exact X_zret F hr hlk rfl (retI h) dX9_in_18
    · rw [if_neg q2] at h
      refine X_iconst F dX9_in_13 (v := (1 : Int32)) rfl ?_
      refine X_goto (tgt := 18) F dX9_in_14 (by decide) ?_
      exact X_zret F hr hlk rfl (retI h) dX9_in_18
set_option maxRecDepth 20000 in
theorem F9_in_met {l : Launch} {G : GG} {D : Nat} {r : Int32 × Mem} {M : Mem} {a0 : Int64} {a2 : Int64} {a4 : Int64} (hI : Inj shB G.2.1) (hD : 1 ≤ D) (h : F9_in M a0 a2 a4 = some r) : MetX shB l G yX9_in cX9_in 6 (some .boolean) D [.long a0, .long a2, .long a4] M (some (.int r.1), r.2) :=
  X_met hI (by decide +kernel) (Nat.le_of_ble_eq_true rfl) (fun p e s m args below meth c F hr hlk => F9_in_ok F hr hlk hD h)
-- KeepOurPlaceModel.customer
def F9_customer (M : Mem) (a1 : Int32) (a2 : Int32) : Option (Int32 × Mem) :=
    Option.bind (F9_in M (Int32.toInt64 a1) (0 : Int64) (5 : Int64)) fun r1 =>
    if r1.1 = 0 then
      some ((-2 : Int32), r1.2)
    else
      Option.bind (F9_in r1.2 (Int32.toInt64 a2) (0 : Int64) (409 : Int64)) fun r4 =>
      if ¬ r4.1 = 0 then
        if ¬ (r4.2 0 10) = (8 : Int32) then
          if inb (r4.2 0 10) 8 = true then
          some ((((r4.2 0 10) + (1 : Int32)) - (1 : Int32)), (up2 (up2 (up2 (up2 r4.2 4 (Int32.toNatClampNeg (r4.2 0 10)) a1) 5 (Int32.toNatClampNeg (r4.2 0 10)) (a2 / (10 : Int32))) 6 (Int32.toNatClampNeg (r4.2 0 10)) (jrem a2 (10 : Int32))) 0 10 ((r4.2 0 10) + (1 : Int32))))
          else none
        else
          some ((-4 : Int32), r4.2)
      else
        some ((-2 : Int32), r4.2)
set_option maxRecDepth 20000 in
theorem F9_customer_ok {p : Program} {l : Launch} {e : Env} {s : State} {m : MethodId} {args : Array Value} {below : List Frame} {meth : Method} {c : Code} {G : GG} {D : Nat} {r : Int32 × Mem} (F : FrP shB G p s m args c RX9 cX9_customer 3) (hr : meth.sig.returnType = (some .int)) (hlk : meth.locks = false) (hD : 2 ≤ D) {M : Mem} {a1 : Int32} {a2 : Int32} (h : F9_customer M a1 a2 = some r) : XJ shB p l e (rmX D) s m args below meth c 0 0 G 3 (MQ below (QcX shB G ((some (.int r.1), r.2) : Option Value × Mem).1 ((some (.int r.1), r.2) : Option Value × Mem).2) args s 0 0 (AW shB G.2.1)) 0 [(0, .ref 0), (1, .int a1), (2, .int a2)] [] M := by
  unfold F9_customer at h
  refine X_iload_n F dX9_customer_0 rfl ?_
  refine X_i2l F dX9_customer_1 ?_
  refine X_lconst F dX9_customer_2 (v := (0 : Int64)) rfl ?_
  refine X_ldc2 F fcRX9_95 dX9_customer_3 ?_
  obtain ⟨r1, h2, h⟩ := bndS h
  refine X_callS (As := [.long (Int32.toInt64 a1), .long (0 : Int64), .long (5 : Int64)]) (rest := []) F fsRX9_88 feX9_in ftX9_in (F9_in_met (D := D - 1) F.2.2.2.2.2.2.2.1 (by omega) h2) rfl rfl (Nat.le_of_ble_eq_true rfl) (rm_ok (by omega) (by decide)) dX9_customer_6 ?_
  show XJ shB p l e (rmX D) s m args below meth c 0 0 G 3 (MQ below (QcX shB G ((some (.int r.1), r.2) : Option Value × Mem).1 ((some (.int r.1), r.2) : Option Value × Mem).2) args s 0 0 (AW shB G.2.1)) 9 [(0, .ref 0), (1, .int a1), (2, .int a2)] [.int r1.1] r1.2
  refine X_if_eq (tgt := 24) F dX9_customer_9 (by decide) (fun q3 => ?_) (fun q3 => ?_)
  · rw [if_pos q3] at h
    refine X_bipush F dX9_customer_24 (v := (-2 : Int32)) rfl ?_
    exact X_iret F hr hlk (retI h) dX9_customer_26
  · rw [if_neg q3] at h
    refine X_iload_n F dX9_customer_12 rfl ?_
    refine X_i2l F dX9_customer_13 ?_
    refine X_lconst F dX9_customer_14 (v := (0 : Int64)) rfl ?_
    refine X_ldc2 F fcRX9_97 dX9_customer_15 ?_
    obtain ⟨r4, h5, h⟩ := bndS h
    refine X_callS (As := [.long (Int32.toInt64 a2), .long (0 : Int64), .long (409 : Int64)]) (rest := []) F fsRX9_88 feX9_in ftX9_in (F9_in_met (D := D - 1) F.2.2.2.2.2.2.2.1 (by omega) h5) rfl rfl (Nat.le_of_ble_eq_true rfl) (rm_ok (by omega) (by decide)) dX9_customer_18 ?_
    show XJ shB p l e (rmX D) s m args below meth c 0 0 G 3 (MQ below (QcX shB G ((some (.int r.1), r.2) : Option Value × Mem).1 ((some (.int r.1), r.2) : Option Value × Mem).2) args s 0 0 (AW shB G.2.1)) 21 [(0, .ref 0), (1, .int a1), (2, .int a2)] [.int r4.1] r4.2
    refine X_if_ne (tgt := 27) F dX9_customer_21 (by decide) (fun q6 => ?_) (fun q6 => ?_)
    · rw [if_pos q6] at h
      refine X_aload_n F dX9_customer_27 rfl ?_
      refine X_geti (v := (r4.2 0 10)) F ffRX9_85 dX9_customer_28 rfl ?_
      refine X_bipush F dX9_customer_31 (v := (8 : Int32)) rfl ?_
      refine X_icmp_ne (tgt := 39) F dX9_customer_33 (by decide) (fun q7 => ?_) (fun q7 => ?_)
      · rw [if_pos q7] at h
        refine X_aload_n F dX9_customer_39 rfl ?_
        refine X_getr F ffRX9_23 dX9_customer_40 ?_
        refine X_aload_n F dX9_customer_43 rfl ?_
        refine X_geti (v := (r4.2 0 10)) F ffRX9_85 dX9_customer_44 rfl ?_
        refine X_iload_n F dX9_customer_47 rfl ?_
        obtain ⟨q8, h⟩ := ifS h
        refine X_iast (j := (Int32.toNatClampNeg (r4.2 0 10))) F rfl (inbV q8) rfl dX9_customer_48 ?_
        refine X_aload_n F dX9_customer_49 rfl ?_
        refine X_getr F ffRX9_26 dX9_customer_50 ?_
        refine X_aload_n F dX9_customer_53 rfl ?_
        refine X_geti (v := (r4.2 0 10)) F ffRX9_85 dX9_customer_54 rfl ?_
        refine X_iload_n F dX9_customer_57 rfl ?_
        refine X_bipush F dX9_customer_58 (v := (10 : Int32)) rfl ?_
        refine X_idiv F dX9_customer_60 (by decide) ?_
        refine X_iast (j := (Int32.toNatClampNeg (r4.2 0 10))) F rfl (inbV q8) rfl dX9_customer_61 ?_
        refine X_aload_n F dX9_customer_62 rfl ?_
        refine X_getr F ffRX9_29 dX9_customer_63 ?_
        refine X_aload_n F dX9_customer_66 rfl ?_
        refine X_geti (v := (r4.2 0 10)) F ffRX9_85 dX9_customer_67 rfl ?_
        refine X_iload_n F dX9_customer_70 rfl ?_
        refine X_bipush F dX9_customer_71 (v := (10 : Int32)) rfl ?_
        refine X_irem F dX9_customer_73 (by decide) ?_
        refine X_iast (j := (Int32.toNatClampNeg (r4.2 0 10))) F rfl (inbV q8) rfl dX9_customer_74 ?_
        refine X_aload_n F dX9_customer_75 rfl ?_
        refine X_dup F dX9_customer_76 rfl ?_
        refine X_geti (v := (r4.2 0 10)) F ffRX9_85 dX9_customer_77 rfl ?_
        refine X_iconst F dX9_customer_80 (v := (1 : Int32)) rfl ?_
        refine X_iadd F dX9_customer_81 ?_
        refine X_puti F ffRX9_85 fw9_10 (by decide) dX9_customer_82 ?_
        refine X_aload_n F dX9_customer_85 rfl ?_
        refine X_geti (v := ((r4.2 0 10) + (1 : Int32))) F ffRX9_85 dX9_customer_86 rfl ?_
        refine X_iconst F dX9_customer_89 (v := (1 : Int32)) rfl ?_
        refine X_isub F dX9_customer_90 ?_
        exact X_iret F hr hlk (retI h) dX9_customer_91
      · rw [if_neg (fun z => z q7)] at h
        refine X_bipush F dX9_customer_36 (v := (-4 : Int32)) rfl ?_
        exact X_iret F hr hlk (retI h) dX9_customer_38
    · rw [if_neg (fun z => z q6)] at h
      refine X_bipush F dX9_customer_24 (v := (-2 : Int32)) rfl ?_
      exact X_iret F hr hlk (retI h) dX9_customer_26
set_option maxRecDepth 20000 in
theorem F9_customer_met {l : Launch} {G : GG} {D : Nat} {r : Int32 × Mem} {M : Mem} {a1 : Int32} {a2 : Int32} (hI : Inj shB G.2.1) (hD : 2 ≤ D) (h : F9_customer M a1 a2 = some r) : MetX shB l G yX9_customer cX9_customer 3 (some .int) D [.ref 0, .int a1, .int a2] M (some (.int r.1), r.2) :=
  X_met hI (by decide +kernel) (Nat.le_of_ble_eq_true rfl) (fun p e s m args below meth c F hr hlk => F9_customer_ok F hr hlk hD h)
-- KeepOurPlaceModel.thing
def F9_thing (M : Mem) (a1 : Int32) (a2 : Int32) : Option (Int32 × Mem) :=
    Option.bind (F9_in M (Int32.toInt64 a1) (0 : Int64) (99 : Int64)) fun r1 =>
    if r1.1 = 0 then
      some ((-2 : Int32), r1.2)
    else
      Option.bind (F9_in r1.2 (Int32.toInt64 a2) (0 : Int64) (99100 : Int64)) fun r4 =>
      if r4.1 = 0 then
        some ((-2 : Int32), r4.2)
      else
        if (jrem a2 (1000 : Int32)) ≤ (100 : Int32) then
          if ¬ (r4.2 0 16) = (6 : Int32) then
            if inb (r4.2 0 16) 6 = true then
            some ((((r4.2 0 16) + (1 : Int32)) - (1 : Int32)), (up2 (up2 (up2 (up2 r4.2 7 (Int32.toNatClampNeg (r4.2 0 16)) a1) 8 (Int32.toNatClampNeg (r4.2 0 16)) (a2 / (1000 : Int32))) 9 (Int32.toNatClampNeg (r4.2 0 16)) (jrem a2 (1000 : Int32))) 0 16 ((r4.2 0 16) + (1 : Int32))))
            else none
          else
            some ((-4 : Int32), r4.2)
        else
          some ((-2 : Int32), r4.2)
set_option maxRecDepth 20000 in
theorem F9_thing_ok {p : Program} {l : Launch} {e : Env} {s : State} {m : MethodId} {args : Array Value} {below : List Frame} {meth : Method} {c : Code} {G : GG} {D : Nat} {r : Int32 × Mem} (F : FrP shB G p s m args c RX9 cX9_thing 3) (hr : meth.sig.returnType = (some .int)) (hlk : meth.locks = false) (hD : 2 ≤ D) {M : Mem} {a1 : Int32} {a2 : Int32} (h : F9_thing M a1 a2 = some r) : XJ shB p l e (rmX D) s m args below meth c 0 0 G 3 (MQ below (QcX shB G ((some (.int r.1), r.2) : Option Value × Mem).1 ((some (.int r.1), r.2) : Option Value × Mem).2) args s 0 0 (AW shB G.2.1)) 0 [(0, .ref 0), (1, .int a1), (2, .int a2)] [] M := by
  unfold F9_thing at h
  refine X_iload_n F dX9_thing_0 rfl ?_
  refine X_i2l F dX9_thing_1 ?_
  refine X_lconst F dX9_thing_2 (v := (0 : Int64)) rfl ?_
  refine X_ldc2 F fcRX9_99 dX9_thing_3 ?_
  obtain ⟨r1, h2, h⟩ := bndS h
  refine X_callS (As := [.long (Int32.toInt64 a1), .long (0 : Int64), .long (99 : Int64)]) (rest := []) F fsRX9_88 feX9_in ftX9_in (F9_in_met (D := D - 1) F.2.2.2.2.2.2.2.1 (by omega) h2) rfl rfl (Nat.le_of_ble_eq_true rfl) (rm_ok (by omega) (by decide)) dX9_thing_6 ?_
  show XJ shB p l e (rmX D) s m args below meth c 0 0 G 3 (MQ below (QcX shB G ((some (.int r.1), r.2) : Option Value × Mem).1 ((some (.int r.1), r.2) : Option Value × Mem).2) args s 0 0 (AW shB G.2.1)) 9 [(0, .ref 0), (1, .int a1), (2, .int a2)] [.int r1.1] r1.2
  refine X_if_eq (tgt := 34) F dX9_thing_9 (by decide) (fun q3 => ?_) (fun q3 => ?_)
  · rw [if_pos q3] at h
    refine X_bipush F dX9_thing_34 (v := (-2 : Int32)) rfl ?_
    exact X_iret F hr hlk (retI h) dX9_thing_36
  · rw [if_neg q3] at h
    refine X_iload_n F dX9_thing_12 rfl ?_
    refine X_i2l F dX9_thing_13 ?_
    refine X_lconst F dX9_thing_14 (v := (0 : Int64)) rfl ?_
    refine X_ldc2 F fcRX9_101 dX9_thing_15 ?_
    obtain ⟨r4, h5, h⟩ := bndS h
    refine X_callS (As := [.long (Int32.toInt64 a2), .long (0 : Int64), .long (99100 : Int64)]) (rest := []) F fsRX9_88 feX9_in ftX9_in (F9_in_met (D := D - 1) F.2.2.2.2.2.2.2.1 (by omega) h5) rfl rfl (Nat.le_of_ble_eq_true rfl) (rm_ok (by omega) (by decide)) dX9_thing_18 ?_
    show XJ shB p l e (rmX D) s m args below meth c 0 0 G 3 (MQ below (QcX shB G ((some (.int r.1), r.2) : Option Value × Mem).1 ((some (.int r.1), r.2) : Option Value × Mem).2) args s 0 0 (AW shB G.2.1)) 21 [(0, .ref 0), (1, .int a1), (2, .int a2)] [.int r4.1] r4.2
    refine X_if_eq (tgt := 34) F dX9_thing_21 (by decide) (fun q6 => ?_) (fun q6 => ?_)
    · rw [if_pos q6] at h
      refine X_bipush F dX9_thing_34 (v := (-2 : Int32)) rfl ?_
      exact X_iret F hr hlk (retI h) dX9_thing_36
    · rw [if_neg q6] at h
      refine X_iload_n F dX9_thing_24 rfl ?_
      refine X_sipush F dX9_thing_25 (v := (1000 : Int32)) rfl ?_
      refine X_irem F dX9_thing_28 (by decide) ?_
      refine X_bipush F dX9_thing_29 (v := (100 : Int32)) rfl ?_
      refine X_icmp_le (tgt := 37) F dX9_thing_31 (by decide) (fun q7 => ?_) (fun q7 => ?_)
      · rw [if_pos q7] at h
        refine X_aload_n F dX9_thing_37 rfl ?_
        refine X_geti (v := (r4.2 0 16)) F ffRX9_92 dX9_thing_38 rfl ?_
        refine X_bipush F dX9_thing_41 (v := (6 : Int32)) rfl ?_
        refine X_icmp_ne (tgt := 49) F dX9_thing_43 (by decide) (fun q8 => ?_) (fun q8 => ?_)
        · rw [if_pos q8] at h
          refine X_aload_n F dX9_thing_49 rfl ?_
          refine X_getr F ffRX9_32 dX9_thing_50 ?_
          refine X_aload_n F dX9_thing_53 rfl ?_
          refine X_geti (v := (r4.2 0 16)) F ffRX9_92 dX9_thing_54 rfl ?_
          refine X_iload_n F dX9_thing_57 rfl ?_
          obtain ⟨q9, h⟩ := ifS h
          refine X_iast (j := (Int32.toNatClampNeg (r4.2 0 16))) F rfl (inbV q9) rfl dX9_thing_58 ?_
          refine X_aload_n F dX9_thing_59 rfl ?_
          refine X_getr F ffRX9_35 dX9_thing_60 ?_
          refine X_aload_n F dX9_thing_63 rfl ?_
          refine X_geti (v := (r4.2 0 16)) F ffRX9_92 dX9_thing_64 rfl ?_
          refine X_iload_n F dX9_thing_67 rfl ?_
          refine X_sipush F dX9_thing_68 (v := (1000 : Int32)) rfl ?_
          refine X_idiv F dX9_thing_71 (by decide) ?_
          refine X_iast (j := (Int32.toNatClampNeg (r4.2 0 16))) F rfl (inbV q9) rfl dX9_thing_72 ?_
          refine X_aload_n F dX9_thing_73 rfl ?_
          refine X_getr F ffRX9_38 dX9_thing_74 ?_
          refine X_aload_n F dX9_thing_77 rfl ?_
          refine X_geti (v := (r4.2 0 16)) F ffRX9_92 dX9_thing_78 rfl ?_
          refine X_iload_n F dX9_thing_81 rfl ?_
          refine X_sipush F dX9_thing_82 (v := (1000 : Int32)) rfl ?_
          refine X_irem F dX9_thing_85 (by decide) ?_
          refine X_iast (j := (Int32.toNatClampNeg (r4.2 0 16))) F rfl (inbV q9) rfl dX9_thing_86 ?_
          refine X_aload_n F dX9_thing_87 rfl ?_
          refine X_dup F dX9_thing_88 rfl ?_
          refine X_geti (v := (r4.2 0 16)) F ffRX9_92 dX9_thing_89 rfl ?_
          refine X_iconst F dX9_thing_92 (v := (1 : Int32)) rfl ?_
          refine X_iadd F dX9_thing_93 ?_
          refine X_puti F ffRX9_92 fw9_16 (by decide) dX9_thing_94 ?_
          refine X_aload_n F dX9_thing_97 rfl ?_
          refine X_geti (v := ((r4.2 0 16) + (1 : Int32))) F ffRX9_92 dX9_thing_98 rfl ?_
          refine X_iconst F dX9_thing_101 (v := (1 : Int32)) rfl ?_
          refine X_isub F dX9_thing_102 ?_
          exact X_iret F hr hlk (retI h) dX9_thing_103
        · rw [if_neg (fun z => z q8)] at h
          refine X_bipush F dX9_thing_46 (v := (-4 : Int32)) rfl ?_
          exact X_iret F hr hlk (retI h) dX9_thing_48
      · rw [if_neg q7] at h
        refine X_bipush F dX9_thing_34 (v := (-2 : Int32)) rfl ?_
        exact X_iret F hr hlk (retI h) dX9_thing_36
set_option maxRecDepth 20000 in
theorem F9_thing_met {l : Launch} {G : GG} {D : Nat} {r : Int32 × Mem} {M : Mem} {a1 : Int32} {a2 : Int32} (hI : Inj shB G.2.1) (hD : 2 ≤ D) (h : F9_thing M a1 a2 = some r) : MetX shB l G yX9_thing cX9_thing 3 (some .int) D [.ref 0, .int a1, .int a2] M (some (.int r.1), r.2) :=
  X_met hI (by decide +kernel) (Nat.le_of_ble_eq_true rfl) (fun p e s m args below meth c F hr hlk => F9_thing_ok F hr hlk hD h)
-- KeepOurPlaceModel.isOne
def F9_isOne (M : Mem) (a1 : Int32) : Option (Int32 × Mem) :=
    Option.bind (F9_in M (Int32.toInt64 a1) (0 : Int64) (Int32.toInt64 ((M 0 10) - (1 : Int32)))) fun r1 =>
    if z01 r1.1 = true then
    some (r1.1, r1.2)
    else none
set_option maxRecDepth 20000 in
theorem F9_isOne_ok {p : Program} {l : Launch} {e : Env} {s : State} {m : MethodId} {args : Array Value} {below : List Frame} {meth : Method} {c : Code} {G : GG} {D : Nat} {r : Int32 × Mem} (F : FrP shB G p s m args c RX9 cX9_isOne 2) (hr : meth.sig.returnType = (some .boolean)) (hlk : meth.locks = false) (hD : 2 ≤ D) {M : Mem} {a1 : Int32} (h : F9_isOne M a1 = some r) : XJ shB p l e (rmX D) s m args below meth c 0 0 G 2 (MQ below (QcX shB G ((some (.int r.1), r.2) : Option Value × Mem).1 ((some (.int r.1), r.2) : Option Value × Mem).2) args s 0 0 (AW shB G.2.1)) 0 [(0, .ref 0), (1, .int a1)] [] M := by
  unfold F9_isOne at h
  refine X_iload_n F dX9_isOne_0 rfl ?_
  refine X_i2l F dX9_isOne_1 ?_
  refine X_lconst F dX9_isOne_2 (v := (0 : Int64)) rfl ?_
  refine X_aload_n F dX9_isOne_3 rfl ?_
  refine X_geti (v := (M 0 10)) F ffRX9_85 dX9_isOne_4 rfl ?_
  refine X_iconst F dX9_isOne_7 (v := (1 : Int32)) rfl ?_
  refine X_isub F dX9_isOne_8 ?_
  refine X_i2l F dX9_isOne_9 ?_
  obtain ⟨r1, h2, h⟩ := bndS h
  refine X_callS (As := [.long (Int32.toInt64 a1), .long (0 : Int64), .long (Int32.toInt64 ((M 0 10) - (1 : Int32)))]) (rest := []) F fsRX9_88 feX9_in ftX9_in (F9_in_met (D := D - 1) F.2.2.2.2.2.2.2.1 (by omega) h2) rfl rfl (Nat.le_of_ble_eq_true rfl) (rm_ok (by omega) (by decide)) dX9_isOne_10 ?_
  show XJ shB p l e (rmX D) s m args below meth c 0 0 G 2 (MQ below (QcX shB G ((some (.int r.1), r.2) : Option Value × Mem).1 ((some (.int r.1), r.2) : Option Value × Mem).2) args s 0 0 (AW shB G.2.1)) 13 [(0, .ref 0), (1, .int a1)] [.int r1.1] r1.2
  obtain ⟨q3, h⟩ := ifS h
  exact X_zret F hr hlk (z01N q3) (retI h) dX9_isOne_13
set_option maxRecDepth 20000 in
theorem F9_isOne_met {l : Launch} {G : GG} {D : Nat} {r : Int32 × Mem} {M : Mem} {a1 : Int32} (hI : Inj shB G.2.1) (hD : 2 ≤ D) (h : F9_isOne M a1 = some r) : MetX shB l G yX9_isOne cX9_isOne 2 (some .boolean) D [.ref 0, .int a1] M (some (.int r.1), r.2) :=
  X_met hI (by decide +kernel) (Nat.le_of_ble_eq_true rfl) (fun p e s m args below meth c F hr hlk => F9_isOne_ok F hr hlk hD h)
-- KeepOurPlaceModel.isThing
def F9_isThing (M : Mem) (a1 : Int32) : Option (Int32 × Mem) :=
    Option.bind (F9_in M (Int32.toInt64 a1) (0 : Int64) (Int32.toInt64 ((M 0 16) - (1 : Int32)))) fun r1 =>
    if z01 r1.1 = true then
    some (r1.1, r1.2)
    else none
set_option maxRecDepth 20000 in
theorem F9_isThing_ok {p : Program} {l : Launch} {e : Env} {s : State} {m : MethodId} {args : Array Value} {below : List Frame} {meth : Method} {c : Code} {G : GG} {D : Nat} {r : Int32 × Mem} (F : FrP shB G p s m args c RX9 cX9_isThing 2) (hr : meth.sig.returnType = (some .boolean)) (hlk : meth.locks = false) (hD : 2 ≤ D) {M : Mem} {a1 : Int32} (h : F9_isThing M a1 = some r) : XJ shB p l e (rmX D) s m args below meth c 0 0 G 2 (MQ below (QcX shB G ((some (.int r.1), r.2) : Option Value × Mem).1 ((some (.int r.1), r.2) : Option Value × Mem).2) args s 0 0 (AW shB G.2.1)) 0 [(0, .ref 0), (1, .int a1)] [] M := by
  unfold F9_isThing at h
  refine X_iload_n F dX9_isThing_0 rfl ?_
  refine X_i2l F dX9_isThing_1 ?_
  refine X_lconst F dX9_isThing_2 (v := (0 : Int64)) rfl ?_
  refine X_aload_n F dX9_isThing_3 rfl ?_
  refine X_geti (v := (M 0 16)) F ffRX9_92 dX9_isThing_4 rfl ?_
  refine X_iconst F dX9_isThing_7 (v := (1 : Int32)) rfl ?_
  refine X_isub F dX9_isThing_8 ?_
  refine X_i2l F dX9_isThing_9 ?_
  obtain ⟨r1, h2, h⟩ := bndS h
  refine X_callS (As := [.long (Int32.toInt64 a1), .long (0 : Int64), .long (Int32.toInt64 ((M 0 16) - (1 : Int32)))]) (rest := []) F fsRX9_88 feX9_in ftX9_in (F9_in_met (D := D - 1) F.2.2.2.2.2.2.2.1 (by omega) h2) rfl rfl (Nat.le_of_ble_eq_true rfl) (rm_ok (by omega) (by decide)) dX9_isThing_10 ?_
  show XJ shB p l e (rmX D) s m args below meth c 0 0 G 2 (MQ below (QcX shB G ((some (.int r.1), r.2) : Option Value × Mem).1 ((some (.int r.1), r.2) : Option Value × Mem).2) args s 0 0 (AW shB G.2.1)) 13 [(0, .ref 0), (1, .int a1)] [.int r1.1] r1.2
  obtain ⟨q3, h⟩ := ifS h
  exact X_zret F hr hlk (z01N q3) (retI h) dX9_isThing_13
set_option maxRecDepth 20000 in
theorem F9_isThing_met {l : Launch} {G : GG} {D : Nat} {r : Int32 × Mem} {M : Mem} {a1 : Int32} (hI : Inj shB G.2.1) (hD : 2 ≤ D) (h : F9_isThing M a1 = some r) : MetX shB l G yX9_isThing cX9_isThing 2 (some .boolean) D [.ref 0, .int a1] M (some (.int r.1), r.2) :=
  X_met hI (by decide +kernel) (Nat.le_of_ble_eq_true rfl) (fun p e s m args below meth c F hr hlk => F9_isThing_ok F hr hlk hD h)
-- KeepOurPlaceModel.set
def F9_set_j181 (M : Mem) (x1 : Int32) (x2 : Int32) (x3 : Int32) (y0 : Int32) : Option (Int32 × Mem) :=
    if ¬ x1 = 0 then
      if ¬ x1 = (1 : Int32) then
        if ¬ x1 = (2 : Int32) then
          if ¬ x1 = (3 : Int32) then
            if ¬ x1 = (4 : Int32) then
              if inb x2 6 = true then
              some (y0, (up2 M 9 (Int32.toNatClampNeg x2) x3))
              else none
            else
              if inb x2 6 = true then
              some (y0, (up2 M 8 (Int32.toNatClampNeg x2) x3))
              else none
          else
            if inb x2 6 = true then
            some (y0, (up2 M 7 (Int32.toNatClampNeg x2) x3))
            else none
        else
          if inb x2 8 = true then
          some (y0, (up2 M 6 (Int32.toNatClampNeg x2) x3))
          else none
      else
        if inb x2 8 = true then
        some (y0, (up2 M 5 (Int32.toNatClampNeg x2) x3))
        else none
    else
      some (y0, (up2 M 0 11 x3))
def F9_set_j99 (M : Mem) (x1 : Int32) (x2 : Int32) (x3 : Int32) (y0 : Int64) (y1 : Int64) (y2 : Int64) : Option (Int32 × Mem) :=
    Option.bind (F9_in M y2 y1 y0) fun r18 =>
    if ¬ r18.1 = 0 then
      if ¬ x1 = 0 then
        if ¬ x1 = (1 : Int32) then
          if ¬ x1 = (2 : Int32) then
            if ¬ x1 = (3 : Int32) then
              if ¬ x1 = (4 : Int32) then
                if inb x2 6 = true then
                F9_set_j181 r18.2 x1 x2 x3 (r18.2 9 (Int32.toNatClampNeg x2))
                else none
              else
                if inb x2 6 = true then
                F9_set_j181 r18.2 x1 x2 x3 (r18.2 8 (Int32.toNatClampNeg x2))
                else none
            else
              if inb x2 6 = true then
              F9_set_j181 r18.2 x1 x2 x3 (r18.2 7 (Int32.toNatClampNeg x2))
              else none
          else
            if inb x2 8 = true then
            F9_set_j181 r18.2 x1 x2 x3 (r18.2 6 (Int32.toNatClampNeg x2))
            else none
        else
          if inb x2 8 = true then
          F9_set_j181 r18.2 x1 x2 x3 (r18.2 5 (Int32.toNatClampNeg x2))
          else none
      else
        F9_set_j181 r18.2 x1 x2 x3 (r18.2 0 11)
    else
      some ((-2 : Int32), r18.2)
def F9_set_j48 (M : Mem) (x1 : Int32) (x2 : Int32) (x3 : Int32) : Option (Int32 × Mem) :=
    if ¬ x1 = 0 then
      if ¬ x1 = (1 : Int32) then
        if ¬ x1 = (2 : Int32) then
          if ¬ x1 = (5 : Int32) then
            F9_set_j99 M x1 x2 x3 (99 : Int64) (0 : Int64) (Int32.toInt64 x3)
          else
            F9_set_j99 M x1 x2 x3 (100 : Int64) (0 : Int64) (Int32.toInt64 x3)
        else
          F9_set_j99 M x1 x2 x3 (9 : Int64) (0 : Int64) (Int32.toInt64 x3)
      else
        F9_set_j99 M x1 x2 x3 (40 : Int64) (0 : Int64) (Int32.toInt64 x3)
    else
      F9_set_j99 M x1 x2 x3 (Int32.toInt64 (M 0 10)) (0 : Int64) (Int32.toInt64 x3)
def F9_set_j32 (M : Mem) (x1 : Int32) (x2 : Int32) (x3 : Int32) : Option (Int32 × Mem) :=
    if x1 ≤ (2 : Int32) then
      F9_set_j48 M x1 x2 x3
    else
      Option.bind (F9_isThing M x2) fun r11 =>
      if ¬ r11.1 = 0 then
        F9_set_j48 r11.2 x1 x2 x3
      else
        some ((-2 : Int32), r11.2)
def F9_set (M : Mem) (a1 : Int32) (a2 : Int32) (a3 : Int32) : Option (Int32 × Mem) :=
    Option.bind (F9_in M (Int32.toInt64 a1) (0 : Int64) (5 : Int64)) fun r1 =>
    if r1.1 = 0 then
      some ((-2 : Int32), r1.2)
    else
      Option.bind (F9_in r1.2 (Int32.toInt64 a1) (1 : Int64) (2 : Int64)) fun r4 =>
      if r4.1 = 0 then
        F9_set_j32 r4.2 a1 a2 a3
      else
        Option.bind (F9_isOne r4.2 a2) fun r7 =>
        if r7.1 = 0 then
          some ((-2 : Int32), r7.2)
        else
          F9_set_j32 r7.2 a1 a2 a3
set_option maxRecDepth 20000 in
theorem F9_set_j181_ok {p : Program} {l : Launch} {e : Env} {s : State} {m : MethodId} {args : Array Value} {below : List Frame} {meth : Method} {c : Code} {G : GG} {D : Nat} {r : Int32 × Mem} (F : FrP shB G p s m args c RX9 cX9_set 5) (hr : meth.sig.returnType = (some .int)) (hlk : meth.locks = false) (hD : 3 ≤ D) {M : Mem} {x1 : Int32} {x2 : Int32} {x3 : Int32} {y0 : Int32} (h : F9_set_j181 M x1 x2 x3 y0 = some r) : XJ shB p l e (rmX D) s m args below meth c 0 0 G 5 (MQ below (QcX shB G ((some (.int r.1), r.2) : Option Value × Mem).1 ((some (.int r.1), r.2) : Option Value × Mem).2) args s 0 0 (AW shB G.2.1)) 181 [(0, .ref 0), (1, .int x1), (2, .int x2), (3, .int x3)] [.int y0] M := by
  unfold F9_set_j181 at h
  refine X_istore F dX9_set_181 (by decide) rfl ?_
  refine X_iload_n F dX9_set_183 rfl ?_
  refine X_if_ne (tgt := 195) F dX9_set_184 (by decide) (fun q31 => ?_) (fun q31 => ?_)
  · rw [if_pos q31] at h
    refine X_iload_n F dX9_set_195 rfl ?_
    refine X_iconst F dX9_set_196 (v := (1 : Int32)) rfl ?_
    refine X_icmp_ne (tgt := 210) F dX9_set_197 (by decide) (fun q32 => ?_) (fun q32 => ?_)
    · rw [if_pos q32] at h
      refine X_iload_n F dX9_set_210 rfl ?_
      refine X_iconst F dX9_set_211 (v := (2 : Int32)) rfl ?_
      refine X_icmp_ne (tgt := 225) F dX9_set_212 (by decide) (fun q33 => ?_) (fun q33 => ?_)
      · rw [if_pos q33] at h
        refine X_iload_n F dX9_set_225 rfl ?_
        refine X_iconst F dX9_set_226 (v := (3 : Int32)) rfl ?_
        refine X_icmp_ne (tgt := 240) F dX9_set_227 (by decide) (fun q34 => ?_) (fun q34 => ?_)
        · rw [if_pos q34] at h
          refine X_iload_n F dX9_set_240 rfl ?_
          refine X_iconst F dX9_set_241 (v := (4 : Int32)) rfl ?_
          refine X_icmp_ne (tgt := 255) F dX9_set_242 (by decide) (fun q35 => ?_) (fun q35 => ?_)
          · rw [if_pos q35] at h
            refine X_aload_n F dX9_set_255 rfl ?_
            refine X_getr F ffRX9_38 dX9_set_256 ?_
            refine X_iload_n F dX9_set_259 rfl ?_
            refine X_iload_n F dX9_set_260 rfl ?_
            obtain ⟨q36, h⟩ := ifS h
            refine X_iast (j := (Int32.toNatClampNeg x2)) F rfl (inbV q36) rfl dX9_set_261 ?_
            refine X_iload F dX9_set_262 rfl ?_
            exact X_iret F hr hlk (retI h) dX9_set_264
          · rw [if_neg (fun z => z q35)] at h
            refine X_aload_n F dX9_set_245 rfl ?_
            refine X_getr F ffRX9_35 dX9_set_246 ?_
            refine X_iload_n F dX9_set_249 rfl ?_
            refine X_iload_n F dX9_set_250 rfl ?_
            obtain ⟨q37, h⟩ := ifS h
            refine X_iast (j := (Int32.toNatClampNeg x2)) F rfl (inbV q37) rfl dX9_set_251 ?_
            refine X_goto (tgt := 262) F dX9_set_252 (by decide) ?_
            refine X_iload F dX9_set_262 rfl ?_
            exact X_iret F hr hlk (retI h) dX9_set_264
        · rw [if_neg (fun z => z q34)] at h
          refine X_aload_n F dX9_set_230 rfl ?_
          refine X_getr F ffRX9_32 dX9_set_231 ?_
          refine X_iload_n F dX9_set_234 rfl ?_
          refine X_iload_n F dX9_set_235 rfl ?_
          obtain ⟨q38, h⟩ := ifS h
          refine X_iast (j := (Int32.toNatClampNeg x2)) F rfl (inbV q38) rfl dX9_set_236 ?_
          refine X_goto (tgt := 262) F dX9_set_237 (by decide) ?_
          refine X_iload F dX9_set_262 rfl ?_
          exact X_iret F hr hlk (retI h) dX9_set_264
      · rw [if_neg (fun z => z q33)] at h
        refine X_aload_n F dX9_set_215 rfl ?_
        refine X_getr F ffRX9_29 dX9_set_216 ?_
        refine X_iload_n F dX9_set_219 rfl ?_
        refine X_iload_n F dX9_set_220 rfl ?_
        obtain ⟨q39, h⟩ := ifS h
        refine X_iast (j := (Int32.toNatClampNeg x2)) F rfl (inbV q39) rfl dX9_set_221 ?_
        refine X_goto (tgt := 262) F dX9_set_222 (by decide) ?_
        refine X_iload F dX9_set_262 rfl ?_
        exact X_iret F hr hlk (retI h) dX9_set_264
    · rw [if_neg (fun z => z q32)] at h
      refine X_aload_n F dX9_set_200 rfl ?_
      refine X_getr F ffRX9_26 dX9_set_201 ?_
      refine X_iload_n F dX9_set_204 rfl ?_
      refine X_iload_n F dX9_set_205 rfl ?_
      obtain ⟨q40, h⟩ := ifS h
      refine X_iast (j := (Int32.toNatClampNeg x2)) F rfl (inbV q40) rfl dX9_set_206 ?_
      refine X_goto (tgt := 262) F dX9_set_207 (by decide) ?_
      refine X_iload F dX9_set_262 rfl ?_
      exact X_iret F hr hlk (retI h) dX9_set_264
  · rw [if_neg (fun z => z q31)] at h
    refine X_aload_n F dX9_set_187 rfl ?_
    refine X_iload_n F dX9_set_188 rfl ?_
    refine X_puti F ffRX9_118 fw9_11 (by decide) dX9_set_189 ?_
    refine X_goto (tgt := 262) F dX9_set_192 (by decide) ?_
    refine X_iload F dX9_set_262 rfl ?_
    exact X_iret F hr hlk (retI h) dX9_set_264
set_option maxRecDepth 20000 in
theorem F9_set_j99_ok {p : Program} {l : Launch} {e : Env} {s : State} {m : MethodId} {args : Array Value} {below : List Frame} {meth : Method} {c : Code} {G : GG} {D : Nat} {r : Int32 × Mem} (F : FrP shB G p s m args c RX9 cX9_set 5) (hr : meth.sig.returnType = (some .int)) (hlk : meth.locks = false) (hD : 3 ≤ D) {M : Mem} {x1 : Int32} {x2 : Int32} {x3 : Int32} {y0 : Int64} {y1 : Int64} {y2 : Int64} (h : F9_set_j99 M x1 x2 x3 y0 y1 y2 = some r) : XJ shB p l e (rmX D) s m args below meth c 0 0 G 5 (MQ below (QcX shB G ((some (.int r.1), r.2) : Option Value × Mem).1 ((some (.int r.1), r.2) : Option Value × Mem).2) args s 0 0 (AW shB G.2.1)) 99 [(0, .ref 0), (1, .int x1), (2, .int x2), (3, .int x3)] [.long y0, .long y1, .long y2] M := by
  unfold F9_set_j99 at h
  obtain ⟨r18, h19, h⟩ := bndS h
  refine X_callS (As := [.long y2, .long y1, .long y0]) (rest := []) F fsRX9_88 feX9_in ftX9_in (F9_in_met (D := D - 1) F.2.2.2.2.2.2.2.1 (by omega) h19) rfl rfl (Nat.le_of_ble_eq_true rfl) (rm_ok (by omega) (by decide)) dX9_set_99 ?_
  show XJ shB p l e (rmX D) s m args below meth c 0 0 G 5 (MQ below (QcX shB G ((some (.int r.1), r.2) : Option Value × Mem).1 ((some (.int r.1), r.2) : Option Value × Mem).2) args s 0 0 (AW shB G.2.1)) 102 [(0, .ref 0), (1, .int x1), (2, .int x2), (3, .int x3)] [.int r18.1] r18.2
  refine X_if_ne (tgt := 108) F dX9_set_102 (by decide) (fun q20 => ?_) (fun q20 => ?_)
  · rw [if_pos q20] at h
    refine X_iload_n F dX9_set_108 rfl ?_
    refine X_if_ne (tgt := 119) F dX9_set_109 (by decide) (fun q21 => ?_) (fun q21 => ?_)
    · rw [if_pos q21] at h
      refine X_iload_n F dX9_set_119 rfl ?_
      refine X_iconst F dX9_set_120 (v := (1 : Int32)) rfl ?_
      refine X_icmp_ne (tgt := 133) F dX9_set_121 (by decide) (fun q22 => ?_) (fun q22 => ?_)
      · rw [if_pos q22] at h
        refine X_iload_n F dX9_set_133 rfl ?_
        refine X_iconst F dX9_set_134 (v := (2 : Int32)) rfl ?_
        refine X_icmp_ne (tgt := 147) F dX9_set_135 (by decide) (fun q23 => ?_) (fun q23 => ?_)
        · rw [if_pos q23] at h
          refine X_iload_n F dX9_set_147 rfl ?_
          refine X_iconst F dX9_set_148 (v := (3 : Int32)) rfl ?_
          refine X_icmp_ne (tgt := 161) F dX9_set_149 (by decide) (fun q24 => ?_) (fun q24 => ?_)
          · rw [if_pos q24] at h
            refine X_iload_n F dX9_set_161 rfl ?_
            refine X_iconst F dX9_set_162 (v := (4 : Int32)) rfl ?_
            refine X_icmp_ne (tgt := 175) F dX9_set_163 (by decide) (fun q25 => ?_) (fun q25 => ?_)
            · rw [if_pos q25] at h
              refine X_aload_n F dX9_set_175 rfl ?_
              refine X_getr F ffRX9_38 dX9_set_176 ?_
              refine X_iload_n F dX9_set_179 rfl ?_
              obtain ⟨q26, h⟩ := ifS h
              refine X_iald (j := (Int32.toNatClampNeg x2)) (v := (r18.2 9 (Int32.toNatClampNeg x2))) F rfl (inbV q26) rfl rfl dX9_set_180 ?_
              exact F9_set_j181_ok F hr hlk hD h
            · rw [if_neg (fun z => z q25)] at h
              refine X_aload_n F dX9_set_166 rfl ?_
              refine X_getr F ffRX9_35 dX9_set_167 ?_
              refine X_iload_n F dX9_set_170 rfl ?_
              obtain ⟨q27, h⟩ := ifS h
              refine X_iald (j := (Int32.toNatClampNeg x2)) (v := (r18.2 8 (Int32.toNatClampNeg x2))) F rfl (inbV q27) rfl rfl dX9_set_171 ?_
              refine X_goto (tgt := 181) F dX9_set_172 (by decide) ?_
              exact F9_set_j181_ok F hr hlk hD h
          · rw [if_neg (fun z => z q24)] at h
            refine X_aload_n F dX9_set_152 rfl ?_
            refine X_getr F ffRX9_32 dX9_set_153 ?_
            refine X_iload_n F dX9_set_156 rfl ?_
            obtain ⟨q28, h⟩ := ifS h
            refine X_iald (j := (Int32.toNatClampNeg x2)) (v := (r18.2 7 (Int32.toNatClampNeg x2))) F rfl (inbV q28) rfl rfl dX9_set_157 ?_
            refine X_goto (tgt := 181) F dX9_set_158 (by decide) ?_
            exact F9_set_j181_ok F hr hlk hD h
        · rw [if_neg (fun z => z q23)] at h
          refine X_aload_n F dX9_set_138 rfl ?_
          refine X_getr F ffRX9_29 dX9_set_139 ?_
          refine X_iload_n F dX9_set_142 rfl ?_
          obtain ⟨q29, h⟩ := ifS h
          refine X_iald (j := (Int32.toNatClampNeg x2)) (v := (r18.2 6 (Int32.toNatClampNeg x2))) F rfl (inbV q29) rfl rfl dX9_set_143 ?_
          refine X_goto (tgt := 181) F dX9_set_144 (by decide) ?_
          exact F9_set_j181_ok F hr hlk hD h
      · rw [if_neg (fun z => z q22)] at h
        refine X_aload_n F dX9_set_124 rfl ?_
        refine X_getr F ffRX9_26 dX9_set_125 ?_
        refine X_iload_n F dX9_set_128 rfl ?_
        obtain ⟨q30, h⟩ := ifS h
        refine X_iald (j := (Int32.toNatClampNeg x2)) (v := (r18.2 5 (Int32.toNatClampNeg x2))) F rfl (inbV q30) rfl rfl dX9_set_129 ?_
        refine X_goto (tgt := 181) F dX9_set_130 (by decide) ?_
        exact F9_set_j181_ok F hr hlk hD h
    · rw [if_neg (fun z => z q21)] at h
      refine X_aload_n F dX9_set_112 rfl ?_
      refine X_geti (v := (r18.2 0 11)) F ffRX9_118 dX9_set_113 rfl ?_
      refine X_goto (tgt := 181) F dX9_set_116 (by decide) ?_
      exact F9_set_j181_ok F hr hlk hD h
  · rw [if_neg (fun z => z q20)] at h
    refine X_bipush F dX9_set_105 (v := (-2 : Int32)) rfl ?_
    exact X_iret F hr hlk (retI h) dX9_set_107
set_option maxRecDepth 20000 in
theorem F9_set_j48_ok {p : Program} {l : Launch} {e : Env} {s : State} {m : MethodId} {args : Array Value} {below : List Frame} {meth : Method} {c : Code} {G : GG} {D : Nat} {r : Int32 × Mem} (F : FrP shB G p s m args c RX9 cX9_set 5) (hr : meth.sig.returnType = (some .int)) (hlk : meth.locks = false) (hD : 3 ≤ D) {M : Mem} {x1 : Int32} {x2 : Int32} {x3 : Int32} (h : F9_set_j48 M x1 x2 x3 = some r) : XJ shB p l e (rmX D) s m args below meth c 0 0 G 5 (MQ below (QcX shB G ((some (.int r.1), r.2) : Option Value × Mem).1 ((some (.int r.1), r.2) : Option Value × Mem).2) args s 0 0 (AW shB G.2.1)) 48 [(0, .ref 0), (1, .int x1), (2, .int x2), (3, .int x3)] [] M := by
  unfold F9_set_j48 at h
  refine X_iload_n F dX9_set_48 rfl ?_
  refine X_i2l F dX9_set_49 ?_
  refine X_lconst F dX9_set_50 (v := (0 : Int64)) rfl ?_
  refine X_iload_n F dX9_set_51 rfl ?_
  refine X_if_ne (tgt := 63) F dX9_set_52 (by decide) (fun q14 => ?_) (fun q14 => ?_)
  · rw [if_pos q14] at h
    refine X_iload_n F dX9_set_63 rfl ?_
    refine X_iconst F dX9_set_64 (v := (1 : Int32)) rfl ?_
    refine X_icmp_ne (tgt := 74) F dX9_set_65 (by decide) (fun q15 => ?_) (fun q15 => ?_)
    · rw [if_pos q15] at h
      refine X_iload_n F dX9_set_74 rfl ?_
      refine X_iconst F dX9_set_75 (v := (2 : Int32)) rfl ?_
      refine X_icmp_ne (tgt := 85) F dX9_set_76 (by decide) (fun q16 => ?_) (fun q16 => ?_)
      · rw [if_pos q16] at h
        refine X_iload_n F dX9_set_85 rfl ?_
        refine X_iconst F dX9_set_86 (v := (5 : Int32)) rfl ?_
        refine X_icmp_ne (tgt := 96) F dX9_set_87 (by decide) (fun q17 => ?_) (fun q17 => ?_)
        · rw [if_pos q17] at h
          refine X_ldc2 F fcRX9_99 dX9_set_96 ?_
          exact F9_set_j99_ok F hr hlk hD h
        · rw [if_neg (fun z => z q17)] at h
          refine X_ldc2 F fcRX9_116 dX9_set_90 ?_
          refine X_goto (tgt := 99) F dX9_set_93 (by decide) ?_
          exact F9_set_j99_ok F hr hlk hD h
      · rw [if_neg (fun z => z q16)] at h
        refine X_ldc2 F fcRX9_114 dX9_set_79 ?_
        refine X_goto (tgt := 99) F dX9_set_82 (by decide) ?_
        exact F9_set_j99_ok F hr hlk hD h
    · rw [if_neg (fun z => z q15)] at h
      refine X_ldc2 F fcRX9_112 dX9_set_68 ?_
      refine X_goto (tgt := 99) F dX9_set_71 (by decide) ?_
      exact F9_set_j99_ok F hr hlk hD h
  · rw [if_neg (fun z => z q14)] at h
    refine X_aload_n F dX9_set_55 rfl ?_
    refine X_geti (v := (M 0 10)) F ffRX9_85 dX9_set_56 rfl ?_
    refine X_i2l F dX9_set_59 ?_
    refine X_goto (tgt := 99) F dX9_set_60 (by decide) ?_
    exact F9_set_j99_ok F hr hlk hD h
set_option maxRecDepth 20000 in
theorem F9_set_j32_ok {p : Program} {l : Launch} {e : Env} {s : State} {m : MethodId} {args : Array Value} {below : List Frame} {meth : Method} {c : Code} {G : GG} {D : Nat} {r : Int32 × Mem} (F : FrP shB G p s m args c RX9 cX9_set 5) (hr : meth.sig.returnType = (some .int)) (hlk : meth.locks = false) (hD : 3 ≤ D) {M : Mem} {x1 : Int32} {x2 : Int32} {x3 : Int32} (h : F9_set_j32 M x1 x2 x3 = some r) : XJ shB p l e (rmX D) s m args below meth c 0 0 G 5 (MQ below (QcX shB G ((some (.int r.1), r.2) : Option Value × Mem).1 ((some (.int r.1), r.2) : Option Value × Mem).2) args s 0 0 (AW shB G.2.1)) 32 [(0, .ref 0), (1, .int x1), (2, .int x2), (3, .int x3)] [] M := by
  unfold F9_set_j32 at h
  refine X_iload_n F dX9_set_32 rfl ?_
  refine X_iconst F dX9_set_33 (v := (2 : Int32)) rfl ?_
  refine X_icmp_le (tgt := 48) F dX9_set_34 (by decide) (fun q10 => ?_) (fun q10 => ?_)
  · rw [if_pos q10] at h
    exact F9_set_j48_ok F hr hlk hD h
  · rw [if_neg q10] at h
    refine X_aload_n F dX9_set_37 rfl ?_
    refine X_iload_n F dX9_set_38 rfl ?_
    obtain ⟨r11, h12, h⟩ := bndS h
    refine X_callV (ci := 0) (As := [.int x2]) (rest := []) F fkRX9_109 feX9_isThing fvX9_isThing ⟨_, _, _, rfl, rfl, rfl⟩ (F9_isThing_met (D := D - 1) F.2.2.2.2.2.2.2.1 (by omega) h12) rfl rfl (Nat.le_of_ble_eq_true rfl) (rm_ok (by omega) (by decide)) dX9_set_39 ?_
    show XJ shB p l e (rmX D) s m args below meth c 0 0 G 5 (MQ below (QcX shB G ((some (.int r.1), r.2) : Option Value × Mem).1 ((some (.int r.1), r.2) : Option Value × Mem).2) args s 0 0 (AW shB G.2.1)) 42 [(0, .ref 0), (1, .int x1), (2, .int x2), (3, .int x3)] [.int r11.1] r11.2
    refine X_if_ne (tgt := 48) F dX9_set_42 (by decide) (fun q13 => ?_) (fun q13 => ?_)
    · rw [if_pos q13] at h
      exact F9_set_j48_ok F hr hlk hD h
    · rw [if_neg (fun z => z q13)] at h
      refine X_bipush F dX9_set_45 (v := (-2 : Int32)) rfl ?_
      exact X_iret F hr hlk (retI h) dX9_set_47
set_option maxRecDepth 20000 in
theorem F9_set_ok {p : Program} {l : Launch} {e : Env} {s : State} {m : MethodId} {args : Array Value} {below : List Frame} {meth : Method} {c : Code} {G : GG} {D : Nat} {r : Int32 × Mem} (F : FrP shB G p s m args c RX9 cX9_set 5) (hr : meth.sig.returnType = (some .int)) (hlk : meth.locks = false) (hD : 3 ≤ D) {M : Mem} {a1 : Int32} {a2 : Int32} {a3 : Int32} (h : F9_set M a1 a2 a3 = some r) : XJ shB p l e (rmX D) s m args below meth c 0 0 G 5 (MQ below (QcX shB G ((some (.int r.1), r.2) : Option Value × Mem).1 ((some (.int r.1), r.2) : Option Value × Mem).2) args s 0 0 (AW shB G.2.1)) 0 [(0, .ref 0), (1, .int a1), (2, .int a2), (3, .int a3)] [] M := by
  unfold F9_set at h
  refine X_iload_n F dX9_set_0 rfl ?_
  refine X_i2l F dX9_set_1 ?_
  refine X_lconst F dX9_set_2 (v := (0 : Int64)) rfl ?_
  refine X_ldc2 F fcRX9_95 dX9_set_3 ?_
  obtain ⟨r1, h2, h⟩ := bndS h
  refine X_callS (As := [.long (Int32.toInt64 a1), .long (0 : Int64), .long (5 : Int64)]) (rest := []) F fsRX9_88 feX9_in ftX9_in (F9_in_met (D := D - 1) F.2.2.2.2.2.2.2.1 (by omega) h2) rfl rfl (Nat.le_of_ble_eq_true rfl) (rm_ok (by omega) (by decide)) dX9_set_6 ?_
  show XJ shB p l e (rmX D) s m args below meth c 0 0 G 5 (MQ below (QcX shB G ((some (.int r.1), r.2) : Option Value × Mem).1 ((some (.int r.1), r.2) : Option Value × Mem).2) args s 0 0 (AW shB G.2.1)) 9 [(0, .ref 0), (1, .int a1), (2, .int a2), (3, .int a3)] [.int r1.1] r1.2
  refine X_if_eq (tgt := 45) F dX9_set_9 (by decide) (fun q3 => ?_) (fun q3 => ?_)
  · rw [if_pos q3] at h
    refine X_bipush F dX9_set_45 (v := (-2 : Int32)) rfl ?_
    exact X_iret F hr hlk (retI h) dX9_set_47
  · rw [if_neg q3] at h
    refine X_iload_n F dX9_set_12 rfl ?_
    refine X_i2l F dX9_set_13 ?_
    refine X_lconst F dX9_set_14 (v := (1 : Int64)) rfl ?_
    refine X_ldc2 F fcRX9_103 dX9_set_15 ?_
    obtain ⟨r4, h5, h⟩ := bndS h
    refine X_callS (As := [.long (Int32.toInt64 a1), .long (1 : Int64), .long (2 : Int64)]) (rest := []) F fsRX9_88 feX9_in ftX9_in (F9_in_met (D := D - 1) F.2.2.2.2.2.2.2.1 (by omega) h5) rfl rfl (Nat.le_of_ble_eq_true rfl) (rm_ok (by omega) (by decide)) dX9_set_18 ?_
    show XJ shB p l e (rmX D) s m args below meth c 0 0 G 5 (MQ below (QcX shB G ((some (.int r.1), r.2) : Option Value × Mem).1 ((some (.int r.1), r.2) : Option Value × Mem).2) args s 0 0 (AW shB G.2.1)) 21 [(0, .ref 0), (1, .int a1), (2, .int a2), (3, .int a3)] [.int r4.1] r4.2
    refine X_if_eq (tgt := 32) F dX9_set_21 (by decide) (fun q6 => ?_) (fun q6 => ?_)
    · rw [if_pos q6] at h
      exact F9_set_j32_ok F hr hlk hD h
    · rw [if_neg q6] at h
      refine X_aload_n F dX9_set_24 rfl ?_
      refine X_iload_n F dX9_set_25 rfl ?_
      obtain ⟨r7, h8, h⟩ := bndS h
      refine X_callV (ci := 0) (As := [.int a2]) (rest := []) F fkRX9_105 feX9_isOne fvX9_isOne ⟨_, _, _, rfl, rfl, rfl⟩ (F9_isOne_met (D := D - 1) F.2.2.2.2.2.2.2.1 (by omega) h8) rfl rfl (Nat.le_of_ble_eq_true rfl) (rm_ok (by omega) (by decide)) dX9_set_26 ?_
      show XJ shB p l e (rmX D) s m args below meth c 0 0 G 5 (MQ below (QcX shB G ((some (.int r.1), r.2) : Option Value × Mem).1 ((some (.int r.1), r.2) : Option Value × Mem).2) args s 0 0 (AW shB G.2.1)) 29 [(0, .ref 0), (1, .int a1), (2, .int a2), (3, .int a3)] [.int r7.1] r7.2
      refine X_if_eq (tgt := 45) F dX9_set_29 (by decide) (fun q9 => ?_) (fun q9 => ?_)
      · rw [if_pos q9] at h
        refine X_bipush F dX9_set_45 (v := (-2 : Int32)) rfl ?_
        exact X_iret F hr hlk (retI h) dX9_set_47
      · rw [if_neg q9] at h
        exact F9_set_j32_ok F hr hlk hD h
set_option maxRecDepth 20000 in
theorem F9_set_met {l : Launch} {G : GG} {D : Nat} {r : Int32 × Mem} {M : Mem} {a1 : Int32} {a2 : Int32} {a3 : Int32} (hI : Inj shB G.2.1) (hD : 3 ≤ D) (h : F9_set M a1 a2 a3 = some r) : MetX shB l G yX9_set cX9_set 5 (some .int) D [.ref 0, .int a1, .int a2, .int a3] M (some (.int r.1), r.2) :=
  X_met hI (by decide +kernel) (Nat.le_of_ble_eq_true rfl) (fun p e s m args below meth c F hr hlk => F9_set_ok F hr hlk hD h)
-- KeepOurPlaceModel.byteAt
def F9_byteAt (M : Mem) (a1 : Int32) : Option (Int32 × Mem) :=
    if (M 0 24) ≤ a1 then
      some ((-1 : Int32), M)
    else
      if inb ((M 0 23) + a1) 960 = true then
      some ((M 1 (Int32.toNatClampNeg ((M 0 23) + a1))), M)
      else none
set_option maxRecDepth 20000 in
theorem F9_byteAt_ok {p : Program} {l : Launch} {e : Env} {s : State} {m : MethodId} {args : Array Value} {below : List Frame} {meth : Method} {c : Code} {G : GG} {D : Nat} {r : Int32 × Mem} (F : FrP shB G p s m args c RX9 cX9_byteAt 2) (hr : meth.sig.returnType = (some .int)) (hlk : meth.locks = false) (hD : 1 ≤ D) {M : Mem} {a1 : Int32} (h : F9_byteAt M a1 = some r) : XJ shB p l e (rmX D) s m args below meth c 0 0 G 2 (MQ below (QcX shB G ((some (.int r.1), r.2) : Option Value × Mem).1 ((some (.int r.1), r.2) : Option Value × Mem).2) args s 0 0 (AW shB G.2.1)) 0 [(0, .ref 0), (1, .int a1)] [] M := by
  unfold F9_byteAt at h
  refine X_iload_n F dX9_byteAt_0 rfl ?_
  refine X_aload_n F dX9_byteAt_1 rfl ?_
  refine X_geti (v := (M 0 24)) F ffRX9_141 dX9_byteAt_2 rfl ?_
  refine X_icmp_ge (tgt := 22) F dX9_byteAt_5 (by decide) (fun q1 => ?_) (fun q1 => ?_)
  · rw [if_pos q1] at h
    refine X_iconst F dX9_byteAt_22 (v := (-1 : Int32)) rfl ?_
    exact X_iret F hr hlk (retI h) dX9_byteAt_23
  · rw [if_neg q1] at h
    refine X_aload_n F dX9_byteAt_8 rfl ?_
    refine X_getr F ffRX9_13 dX9_byteAt_9 ?_
    refine X_aload_n F dX9_byteAt_12 rfl ?_
    refine X_geti (v := (M 0 23)) F ffRX9_144 dX9_byteAt_13 rfl ?_
    refine X_iload_n F dX9_byteAt_16 rfl ?_
    refine X_iadd F dX9_byteAt_17 ?_
    obtain ⟨q2, h⟩ := ifS h
    refine X_iald (j := (Int32.toNatClampNeg ((M 0 23) + a1))) (v := (M 1 (Int32.toNatClampNeg ((M 0 23) + a1)))) F rfl (inbV q2) rfl rfl dX9_byteAt_18 ?_
    refine X_goto (tgt := 23) F dX9_byteAt_19 (by decide) ?_
    exact X_iret F hr hlk (retI h) dX9_byteAt_23
set_option maxRecDepth 20000 in
theorem F9_byteAt_met {l : Launch} {G : GG} {D : Nat} {r : Int32 × Mem} {M : Mem} {a1 : Int32} (hI : Inj shB G.2.1) (hD : 1 ≤ D) (h : F9_byteAt M a1 = some r) : MetX shB l G yX9_byteAt cX9_byteAt 2 (some .int) D [.ref 0, .int a1] M (some (.int r.1), r.2) :=
  X_met hI (by decide +kernel) (Nat.le_of_ble_eq_true rfl) (fun p e s m args below meth c F hr hlk => F9_byteAt_ok F hr hlk hD h)
-- KeepOurPlaceModel.next
def F9_next_j300 (M : Mem) (x1 : Int32) : Option (Int32 × Mem) :=
    some ((0 : Int32), (up2 (sL (up2 M 0 26 (3 : Int32)) 0 28 (Int32.toInt64 x1)) 0 25 ((M 0 25) + (1 : Int32))))
def F9_next_j216 (rec160 : Mem → Int32 → Option (Int32 × Mem)) (M : Mem) (x2 : Int32) (y0 : Int64) : Option (Int32 × Mem) :=
    rec160 (up2 (sL M 0 28 y0) 0 25 ((M 0 25) + (1 : Int32))) (x2 + (1 : Int32))
def F9_next_l160_b (rec160 : Mem → Int32 → Option (Int32 × Mem)) (M : Mem) (x2 : Int32) : Option (Int32 × Mem) :=
    Option.bind (F9_byteAt M (M 0 25)) fun r29 =>
    Option.bind (F9_in r29.2 (Int32.toInt64 r29.1) (48 : Int64) (57 : Int64)) fun r31 =>
    if r31.1 = 0 then
      if x2 ≤ (4 : Int32) then
        some ((0 : Int32), (up2 r31.2 0 26 (2 : Int32)))
      else
        some ((0 : Int32), (up2 r31.2 0 26 (4 : Int32)))
    else
      if (4 : Int32) ≤ x2 then
        F9_next_j216 rec160 r31.2 x2 (gL r31.2 0 28)
      else
        Option.bind (F9_byteAt r31.2 (r31.2 0 25)) fun r36 =>
        F9_next_j216 rec160 r36.2 x2 ((((10 : Int64) * (gL r31.2 0 28)) + (Int32.toInt64 r36.1)) - (48 : Int64))
def F9_next_l160 : Nat → Mem → Int32 → Option (Int32 × Mem)
  | 0, _, _ => none
  | fu + 1, M, x2 => F9_next_l160_b (F9_next_l160 fu) M x2
def F9_next_l100_b (rec100 : Mem → Option (Int32 × Mem)) (M : Mem) : Option (Int32 × Mem) :=
    Option.bind (F9_byteAt M (M 0 25)) fun r24 =>
    Option.bind (F9_in r24.2 (Int32.toInt64 r24.1) (97 : Int64) (122 : Int64)) fun r26 =>
    if r26.1 = 0 then
      some ((0 : Int32), r26.2)
    else
      rec100 (up2 r26.2 0 25 ((r26.2 0 25) + (1 : Int32)))
def F9_next_l100 : Nat → Mem → Option (Int32 × Mem)
  | 0, _ => none
  | fu + 1, M => F9_next_l100_b (F9_next_l100 fu) M
def F9_next_j26 (rec0 : Mem → Option (Int32 × Mem)) (M : Mem) : Option (Int32 × Mem) :=
    rec0 (up2 M 0 25 ((M 0 25) + (1 : Int32)))
def F9_next_l0_b (rec0 : Mem → Option (Int32 × Mem)) (M : Mem) : Option (Int32 × Mem) :=
    Option.bind (F9_byteAt M (M 0 25)) fun r1 =>
    if r1.1 = (32 : Int32) then
      F9_next_j26 rec0 r1.2
    else
      Option.bind (F9_byteAt r1.2 (r1.2 0 25)) fun r4 =>
      if ¬ r4.1 = (10 : Int32) then
        Option.bind (F9_byteAt (up2 r4.2 0 27 (r4.2 0 25)) (r4.2 0 25)) fun r7 =>
        if 0 ≤ r7.1 then
          Option.bind (F9_in (up2 r7.2 0 26 (4 : Int32)) (Int32.toInt64 r7.1) (97 : Int64) (122 : Int64)) fun r10 =>
          if r10.1 = 0 then
            Option.bind (F9_in r10.2 (Int32.toInt64 r7.1) (48 : Int64) (57 : Int64)) fun r13 =>
            if r13.1 = 0 then
              if r7.1 = (40 : Int32) then
                F9_next_j300 r13.2 r7.1
              else
                if r7.1 = (41 : Int32) then
                  F9_next_j300 r13.2 r7.1
                else
                  if r7.1 = (59 : Int32) then
                    F9_next_j300 r13.2 r7.1
                  else
                    if r7.1 = (43 : Int32) then
                      F9_next_j300 r13.2 r7.1
                    else
                      if r7.1 = (45 : Int32) then
                        F9_next_j300 r13.2 r7.1
                      else
                        if r7.1 = (42 : Int32) then
                          F9_next_j300 r13.2 r7.1
                        else
                          if r7.1 = (60 : Int32) then
                            F9_next_j300 r13.2 r7.1
                          else
                            if ¬ r7.1 = (61 : Int32) then
                              some ((0 : Int32), r13.2)
                            else
                              F9_next_j300 r13.2 r7.1
            else
              F9_next_l160 FUEL (sL (up2 r13.2 0 26 (2 : Int32)) 0 28 (0 : Int64)) (0 : Int32)
          else
            F9_next_l100 FUEL (up2 r10.2 0 26 (1 : Int32))
        else
          some ((0 : Int32), (up2 (up2 (up2 r7.2 0 26 (4 : Int32)) 0 26 (0 : Int32)) 0 27 (r7.2 0 24)))
      else
        F9_next_j26 rec0 r4.2
def F9_next_l0 : Nat → Mem → Option (Int32 × Mem)
  | 0, _ => none
  | fu + 1, M => F9_next_l0_b (F9_next_l0 fu) M
def F9_next (M : Mem) : Option (Int32 × Mem) :=
    F9_next_l0 FUEL M
set_option maxRecDepth 20000 in
theorem F9_next_j300_ok {p : Program} {l : Launch} {e : Env} {s : State} {m : MethodId} {args : Array Value} {below : List Frame} {meth : Method} {c : Code} {G : GG} {D : Nat} {r : Int32 × Mem} (F : FrP shB G p s m args c RX9 cX9_next 3) (hr : meth.sig.returnType = none) (hlk : meth.locks = false) (hD : 2 ≤ D) {M : Mem} {x1 : Int32} (h : F9_next_j300 M x1 = some r) : XJ shB p l e (rmX D) s m args below meth c 0 0 G 3 (MQ below (QcX shB G ((none, r.2) : Option Value × Mem).1 ((none, r.2) : Option Value × Mem).2) args s 0 0 (AW shB G.2.1)) 300 [(0, .ref 0), (1, .int x1)] [] M := by
  unfold F9_next_j300 at h
  refine X_aload_n F dX9_next_300 rfl ?_
  refine X_iconst F dX9_next_301 (v := (3 : Int32)) rfl ?_
  refine X_puti F ffRX9_156 fw9_26 (by decide) dX9_next_302 ?_
  refine X_aload_n F dX9_next_305 rfl ?_
  refine X_iload_n F dX9_next_306 rfl ?_
  refine X_i2l F dX9_next_307 ?_
  refine X_putl F ffRX9_167 fw9_28 (by decide) dX9_next_308 ?_
  refine X_aload_n F dX9_next_311 rfl ?_
  refine X_dup F dX9_next_312 rfl ?_
  refine X_geti (v := (M 0 25)) F ffRX9_147 dX9_next_313 rfl ?_
  refine X_iconst F dX9_next_316 (v := (1 : Int32)) rfl ?_
  refine X_iadd F dX9_next_317 ?_
  refine X_puti F ffRX9_147 fw9_25 (by decide) dX9_next_318 ?_
  exact X_vret F hr hlk (retV h) dX9_next_321
set_option maxRecDepth 20000 in
theorem F9_next_j216_ok {p : Program} {l : Launch} {e : Env} {s : State} {m : MethodId} {args : Array Value} {below : List Frame} {meth : Method} {c : Code} {G : GG} {D : Nat} {r : Int32 × Mem} {rec160 : Mem → Int32 → Option (Int32 × Mem)} (F : FrP shB G p s m args c RX9 cX9_next 3) (hr : meth.sig.returnType = none) (hlk : meth.locks = false) (hD : 2 ≤ D) (hrec160 : ∀ (M : Mem) (x2 : Int32), rec160 M x2 = some r → XJ shB p l e (rmX D) s m args below meth c 0 0 G 3 (MQ below (QcX shB G ((none, r.2) : Option Value × Mem).1 ((none, r.2) : Option Value × Mem).2) args s 0 0 (AW shB G.2.1)) 160 [(0, .ref 0), (2, .int x2)] [] M) {M : Mem} {x2 : Int32} {y0 : Int64} (h : F9_next_j216 rec160 M x2 y0 = some r) : XJ shB p l e (rmX D) s m args below meth c 0 0 G 3 (MQ below (QcX shB G ((none, r.2) : Option Value × Mem).1 ((none, r.2) : Option Value × Mem).2) args s 0 0 (AW shB G.2.1)) 216 [(0, .ref 0), (2, .int x2)] [.long y0, .ref 0] M := by
  unfold F9_next_j216 at h
  refine X_putl F ffRX9_167 fw9_28 (by decide) dX9_next_216 ?_
  refine X_iinc F dX9_next_219 rfl (v := (1 : Int32)) rfl (by decide) rfl ?_
  refine X_aload_n F dX9_next_222 rfl ?_
  refine X_dup F dX9_next_223 rfl ?_
  refine X_geti (v := (M 0 25)) F ffRX9_147 dX9_next_224 rfl ?_
  refine X_iconst F dX9_next_227 (v := (1 : Int32)) rfl ?_
  refine X_iadd F dX9_next_228 ?_
  refine X_puti F ffRX9_147 fw9_25 (by decide) dX9_next_229 ?_
  refine X_goto (tgt := 160) F dX9_next_232 (by decide) ?_
  refine X_pick [1, 0] rfl ?_
  exact hrec160 _ _ h
set_option maxRecDepth 20000 in
theorem F9_next_l160_bok {p : Program} {l : Launch} {e : Env} {s : State} {m : MethodId} {args : Array Value} {below : List Frame} {meth : Method} {c : Code} {G : GG} {D : Nat} {r : Int32 × Mem} {rec160 : Mem → Int32 → Option (Int32 × Mem)} (F : FrP shB G p s m args c RX9 cX9_next 3) (hr : meth.sig.returnType = none) (hlk : meth.locks = false) (hD : 2 ≤ D) (hrec160 : ∀ (M : Mem) (x2 : Int32), rec160 M x2 = some r → XJ shB p l e (rmX D) s m args below meth c 0 0 G 3 (MQ below (QcX shB G ((none, r.2) : Option Value × Mem).1 ((none, r.2) : Option Value × Mem).2) args s 0 0 (AW shB G.2.1)) 160 [(0, .ref 0), (2, .int x2)] [] M) {M : Mem} {x2 : Int32} (h : F9_next_l160_b rec160 M x2 = some r) : XJ shB p l e (rmX D) s m args below meth c 0 0 G 3 (MQ below (QcX shB G ((none, r.2) : Option Value × Mem).1 ((none, r.2) : Option Value × Mem).2) args s 0 0 (AW shB G.2.1)) 160 [(0, .ref 0), (2, .int x2)] [] M := by
  unfold F9_next_l160_b at h
  refine X_aload_n F dX9_next_160 rfl ?_
  refine X_aload_n F dX9_next_161 rfl ?_
  refine X_geti (v := (M 0 25)) F ffRX9_147 dX9_next_162 rfl ?_
  obtain ⟨r29, h30, h⟩ := bndS h
  refine X_callV (ci := 0) (As := [.int (M 0 25)]) (rest := []) F fkRX9_150 feX9_byteAt fvX9_byteAt ⟨_, _, _, rfl, rfl, rfl⟩ (F9_byteAt_met (D := D - 1) F.2.2.2.2.2.2.2.1 (by omega) h30) rfl rfl (Nat.le_of_ble_eq_true rfl) (rm_ok (by omega) (by decide)) dX9_next_165 ?_
  show XJ shB p l e (rmX D) s m args below meth c 0 0 G 3 (MQ below (QcX shB G ((none, r.2) : Option Value × Mem).1 ((none, r.2) : Option Value × Mem).2) args s 0 0 (AW shB G.2.1)) 168 [(0, .ref 0), (2, .int x2)] [.int r29.1] r29.2
  refine X_i2l F dX9_next_168 ?_
  refine X_ldc2 F fcRX9_163 dX9_next_169 ?_
  refine X_ldc2 F fcRX9_165 dX9_next_172 ?_
  obtain ⟨r31, h32, h⟩ := bndS h
  refine X_callS (As := [.long (Int32.toInt64 r29.1), .long (48 : Int64), .long (57 : Int64)]) (rest := []) F fsRX9_88 feX9_in ftX9_in (F9_in_met (D := D - 1) F.2.2.2.2.2.2.2.1 (by omega) h32) rfl rfl (Nat.le_of_ble_eq_true rfl) (rm_ok (by omega) (by decide)) dX9_next_175 ?_
  show XJ shB p l e (rmX D) s m args below meth c 0 0 G 3 (MQ below (QcX shB G ((none, r.2) : Option Value × Mem).1 ((none, r.2) : Option Value × Mem).2) args s 0 0 (AW shB G.2.1)) 178 [(0, .ref 0), (2, .int x2)] [.int r31.1] r31.2
  refine X_if_eq (tgt := 235) F dX9_next_178 (by decide) (fun q33 => ?_) (fun q33 => ?_)
  · rw [if_pos q33] at h
    refine X_aload_n F dX9_next_235 rfl ?_
    refine X_iload_n F dX9_next_236 rfl ?_
    refine X_iconst F dX9_next_237 (v := (4 : Int32)) rfl ?_
    refine X_icmp_le (tgt := 245) F dX9_next_238 (by decide) (fun q34 => ?_) (fun q34 => ?_)
    · rw [if_pos q34] at h
      refine X_iconst F dX9_next_245 (v := (2 : Int32)) rfl ?_
      refine X_puti F ffRX9_156 fw9_26 (by decide) dX9_next_246 ?_
      refine X_goto (tgt := 321) F dX9_next_249 (by decide) ?_
      exact X_vret F hr hlk (retV h) dX9_next_321
    · rw [if_neg q34] at h
      refine X_iconst F dX9_next_241 (v := (4 : Int32)) rfl ?_
      refine X_goto (tgt := 246) F dX9_next_242 (by decide) ?_
      refine X_puti F ffRX9_156 fw9_26 (by decide) dX9_next_246 ?_
      refine X_goto (tgt := 321) F dX9_next_249 (by decide) ?_
      exact X_vret F hr hlk (retV h) dX9_next_321
  · rw [if_neg q33] at h
    refine X_aload_n F dX9_next_181 rfl ?_
    refine X_iload_n F dX9_next_182 rfl ?_
    refine X_iconst F dX9_next_183 (v := (4 : Int32)) rfl ?_
    refine X_icmp_ge (tgt := 212) F dX9_next_184 (by decide) (fun q35 => ?_) (fun q35 => ?_)
    · rw [if_pos q35] at h
      refine X_aload_n F dX9_next_212 rfl ?_
      refine X_getl (v := (gL r31.2 0 28)) F ffRX9_167 dX9_next_213 rfl ?_
      exact F9_next_j216_ok F hr hlk hD hrec160 h
    · rw [if_neg q35] at h
      refine X_ldc2 F fcRX9_171 dX9_next_187 ?_
      refine X_aload_n F dX9_next_190 rfl ?_
      refine X_getl (v := (gL r31.2 0 28)) F ffRX9_167 dX9_next_191 rfl ?_
      refine X_lmul F dX9_next_194 ?_
      refine X_aload_n F dX9_next_195 rfl ?_
      refine X_aload_n F dX9_next_196 rfl ?_
      refine X_geti (v := (r31.2 0 25)) F ffRX9_147 dX9_next_197 rfl ?_
      obtain ⟨r36, h37, h⟩ := bndS h
      refine X_callV (ci := 0) (As := [.int (r31.2 0 25)]) (rest := [.long ((10 : Int64) * (gL r31.2 0 28)), .ref 0]) F fkRX9_150 feX9_byteAt fvX9_byteAt ⟨_, _, _, rfl, rfl, rfl⟩ (F9_byteAt_met (D := D - 1) F.2.2.2.2.2.2.2.1 (by omega) h37) rfl rfl (Nat.le_of_ble_eq_true rfl) (rm_ok (by omega) (by decide)) dX9_next_200 ?_
      show XJ shB p l e (rmX D) s m args below meth c 0 0 G 3 (MQ below (QcX shB G ((none, r.2) : Option Value × Mem).1 ((none, r.2) : Option Value × Mem).2) args s 0 0 (AW shB G.2.1)) 203 [(0, .ref 0), (2, .int x2)] [.int r36.1, .long ((10 : Int64) * (gL r31.2 0 28)), .ref 0] r36.2
      refine X_i2l F dX9_next_203 ?_
      refine X_ladd F dX9_next_204 ?_
      refine X_ldc2 F fcRX9_163 dX9_next_205 ?_
      refine X_lsub F dX9_next_208 ?_
      refine X_goto (tgt := 216) F dX9_next_209 (by decide) ?_
      exact F9_next_j216_ok F hr hlk hD hrec160 h
set_option maxRecDepth 20000 in
theorem F9_next_l160_ok {p : Program} {l : Launch} {e : Env} {s : State} {m : MethodId} {args : Array Value} {below : List Frame} {meth : Method} {c : Code} {G : GG} {D : Nat} {r : Int32 × Mem} (F : FrP shB G p s m args c RX9 cX9_next 3) (hr : meth.sig.returnType = none) (hlk : meth.locks = false) (hD : 2 ≤ D) : ∀ (fu : Nat) (M : Mem) (x2 : Int32), F9_next_l160 fu M x2 = some r → XJ shB p l e (rmX D) s m args below meth c 0 0 G 3 (MQ below (QcX shB G ((none, r.2) : Option Value × Mem).1 ((none, r.2) : Option Value × Mem).2) args s 0 0 (AW shB G.2.1)) 160 [(0, .ref 0), (2, .int x2)] [] M := by
  intro fu
  induction fu with
  | zero => intro M x2 h; cases h
  | succ fu ih => intro M x2 h; exact F9_next_l160_bok F hr hlk hD (fun M x2 => ih M x2) h
set_option maxRecDepth 20000 in
theorem F9_next_l100_bok {p : Program} {l : Launch} {e : Env} {s : State} {m : MethodId} {args : Array Value} {below : List Frame} {meth : Method} {c : Code} {G : GG} {D : Nat} {r : Int32 × Mem} {rec100 : Mem → Option (Int32 × Mem)} (F : FrP shB G p s m args c RX9 cX9_next 3) (hr : meth.sig.returnType = none) (hlk : meth.locks = false) (hD : 2 ≤ D) (hrec100 : ∀ (M : Mem), rec100 M = some r → XJ shB p l e (rmX D) s m args below meth c 0 0 G 3 (MQ below (QcX shB G ((none, r.2) : Option Value × Mem).1 ((none, r.2) : Option Value × Mem).2) args s 0 0 (AW shB G.2.1)) 100 [(0, .ref 0)] [] M) {M : Mem} (h : F9_next_l100_b rec100 M = some r) : XJ shB p l e (rmX D) s m args below meth c 0 0 G 3 (MQ below (QcX shB G ((none, r.2) : Option Value × Mem).1 ((none, r.2) : Option Value × Mem).2) args s 0 0 (AW shB G.2.1)) 100 [(0, .ref 0)] [] M := by
  unfold F9_next_l100_b at h
  refine X_aload_n F dX9_next_100 rfl ?_
  refine X_aload_n F dX9_next_101 rfl ?_
  refine X_geti (v := (M 0 25)) F ffRX9_147 dX9_next_102 rfl ?_
  obtain ⟨r24, h25, h⟩ := bndS h
  refine X_callV (ci := 0) (As := [.int (M 0 25)]) (rest := []) F fkRX9_150 feX9_byteAt fvX9_byteAt ⟨_, _, _, rfl, rfl, rfl⟩ (F9_byteAt_met (D := D - 1) F.2.2.2.2.2.2.2.1 (by omega) h25) rfl rfl (Nat.le_of_ble_eq_true rfl) (rm_ok (by omega) (by decide)) dX9_next_105 ?_
  show XJ shB p l e (rmX D) s m args below meth c 0 0 G 3 (MQ below (QcX shB G ((none, r.2) : Option Value × Mem).1 ((none, r.2) : Option Value × Mem).2) args s 0 0 (AW shB G.2.1)) 108 [(0, .ref 0)] [.int r24.1] r24.2
  refine X_i2l F dX9_next_108 ?_
  refine X_ldc2 F fcRX9_159 dX9_next_109 ?_
  refine X_ldc2 F fcRX9_161 dX9_next_112 ?_
  obtain ⟨r26, h27, h⟩ := bndS h
  refine X_callS (As := [.long (Int32.toInt64 r24.1), .long (97 : Int64), .long (122 : Int64)]) (rest := []) F fsRX9_88 feX9_in ftX9_in (F9_in_met (D := D - 1) F.2.2.2.2.2.2.2.1 (by omega) h27) rfl rfl (Nat.le_of_ble_eq_true rfl) (rm_ok (by omega) (by decide)) dX9_next_115 ?_
  show XJ shB p l e (rmX D) s m args below meth c 0 0 G 3 (MQ below (QcX shB G ((none, r.2) : Option Value × Mem).1 ((none, r.2) : Option Value × Mem).2) args s 0 0 (AW shB G.2.1)) 118 [(0, .ref 0)] [.int r26.1] r26.2
  refine X_if_eq (tgt := 321) F dX9_next_118 (by decide) (fun q28 => ?_) (fun q28 => ?_)
  · rw [if_pos q28] at h
    exact X_vret F hr hlk (retV h) dX9_next_321
  · rw [if_neg q28] at h
    refine X_aload_n F dX9_next_121 rfl ?_
    refine X_dup F dX9_next_122 rfl ?_
    refine X_geti (v := (r26.2 0 25)) F ffRX9_147 dX9_next_123 rfl ?_
    refine X_iconst F dX9_next_126 (v := (1 : Int32)) rfl ?_
    refine X_iadd F dX9_next_127 ?_
    refine X_puti F ffRX9_147 fw9_25 (by decide) dX9_next_128 ?_
    refine X_goto (tgt := 100) F dX9_next_131 (by decide) ?_
    exact hrec100 _ h
set_option maxRecDepth 20000 in
theorem F9_next_l100_ok {p : Program} {l : Launch} {e : Env} {s : State} {m : MethodId} {args : Array Value} {below : List Frame} {meth : Method} {c : Code} {G : GG} {D : Nat} {r : Int32 × Mem} (F : FrP shB G p s m args c RX9 cX9_next 3) (hr : meth.sig.returnType = none) (hlk : meth.locks = false) (hD : 2 ≤ D) : ∀ (fu : Nat) (M : Mem), F9_next_l100 fu M = some r → XJ shB p l e (rmX D) s m args below meth c 0 0 G 3 (MQ below (QcX shB G ((none, r.2) : Option Value × Mem).1 ((none, r.2) : Option Value × Mem).2) args s 0 0 (AW shB G.2.1)) 100 [(0, .ref 0)] [] M := by
  intro fu
  induction fu with
  | zero => intro M h; cases h
  | succ fu ih => intro M h; exact F9_next_l100_bok F hr hlk hD (fun M => ih M) h
set_option maxRecDepth 20000 in
theorem F9_next_j26_ok {p : Program} {l : Launch} {e : Env} {s : State} {m : MethodId} {args : Array Value} {below : List Frame} {meth : Method} {c : Code} {G : GG} {D : Nat} {r : Int32 × Mem} {rec0 : Mem → Option (Int32 × Mem)} (F : FrP shB G p s m args c RX9 cX9_next 3) (hr : meth.sig.returnType = none) (hlk : meth.locks = false) (hD : 2 ≤ D) (hrec0 : ∀ (M : Mem), rec0 M = some r → XJ shB p l e (rmX D) s m args below meth c 0 0 G 3 (MQ below (QcX shB G ((none, r.2) : Option Value × Mem).1 ((none, r.2) : Option Value × Mem).2) args s 0 0 (AW shB G.2.1)) 0 [(0, .ref 0)] [] M) {M : Mem} (h : F9_next_j26 rec0 M = some r) : XJ shB p l e (rmX D) s m args below meth c 0 0 G 3 (MQ below (QcX shB G ((none, r.2) : Option Value × Mem).1 ((none, r.2) : Option Value × Mem).2) args s 0 0 (AW shB G.2.1)) 26 [(0, .ref 0)] [] M := by
  unfold F9_next_j26 at h
  refine X_aload_n F dX9_next_26 rfl ?_
  refine X_dup F dX9_next_27 rfl ?_
  refine X_geti (v := (M 0 25)) F ffRX9_147 dX9_next_28 rfl ?_
  refine X_iconst F dX9_next_31 (v := (1 : Int32)) rfl ?_
  refine X_iadd F dX9_next_32 ?_
  refine X_puti F ffRX9_147 fw9_25 (by decide) dX9_next_33 ?_
  refine X_goto (tgt := 0) F dX9_next_36 (by decide) ?_
  exact hrec0 _ h
set_option maxRecDepth 20000 in
theorem F9_next_l0_bok {p : Program} {l : Launch} {e : Env} {s : State} {m : MethodId} {args : Array Value} {below : List Frame} {meth : Method} {c : Code} {G : GG} {D : Nat} {r : Int32 × Mem} {rec0 : Mem → Option (Int32 × Mem)} (F : FrP shB G p s m args c RX9 cX9_next 3) (hr : meth.sig.returnType = none) (hlk : meth.locks = false) (hD : 2 ≤ D) (hrec0 : ∀ (M : Mem), rec0 M = some r → XJ shB p l e (rmX D) s m args below meth c 0 0 G 3 (MQ below (QcX shB G ((none, r.2) : Option Value × Mem).1 ((none, r.2) : Option Value × Mem).2) args s 0 0 (AW shB G.2.1)) 0 [(0, .ref 0)] [] M) {M : Mem} (h : F9_next_l0_b rec0 M = some r) : XJ shB p l e (rmX D) s m args below meth c 0 0 G 3 (MQ below (QcX shB G ((none, r.2) : Option Value × Mem).1 ((none, r.2) : Option Value × Mem).2) args s 0 0 (AW shB G.2.1)) 0 [(0, .ref 0)] [] M := by
  unfold F9_next_l0_b at h
  refine X_aload_n F dX9_next_0 rfl ?_
  refine X_aload_n F dX9_next_1 rfl ?_
  refine X_geti (v := (M 0 25)) F ffRX9_147 dX9_next_2 rfl ?_
  obtain ⟨r1, h2, h⟩ := bndS h
  refine X_callV (ci := 0) (As := [.int (M 0 25)]) (rest := []) F fkRX9_150 feX9_byteAt fvX9_byteAt ⟨_, _, _, rfl, rfl, rfl⟩ (F9_byteAt_met (D := D - 1) F.2.2.2.2.2.2.2.1 (by omega) h2) rfl rfl (Nat.le_of_ble_eq_true rfl) (rm_ok (by omega) (by decide)) dX9_next_5 ?_
  show XJ shB p l e (rmX D) s m args below meth c 0 0 G 3 (MQ below (QcX shB G ((none, r.2) : Option Value × Mem).1 ((none, r.2) : Option Value × Mem).2) args s 0 0 (AW shB G.2.1)) 8 [(0, .ref 0)] [.int r1.1] r1.2
  refine X_bipush F dX9_next_8 (v := (32 : Int32)) rfl ?_
  refine X_icmp_eq (tgt := 26) F dX9_next_10 (by decide) (fun q3 => ?_) (fun q3 => ?_)
  · rw [if_pos q3] at h
    exact F9_next_j26_ok F hr hlk hD hrec0 h
  · rw [if_neg q3] at h
    refine X_aload_n F dX9_next_13 rfl ?_
    refine X_aload_n F dX9_next_14 rfl ?_
    refine X_geti (v := (r1.2 0 25)) F ffRX9_147 dX9_next_15 rfl ?_
    obtain ⟨r4, h5, h⟩ := bndS h
    refine X_callV (ci := 0) (As := [.int (r1.2 0 25)]) (rest := []) F fkRX9_150 feX9_byteAt fvX9_byteAt ⟨_, _, _, rfl, rfl, rfl⟩ (F9_byteAt_met (D := D - 1) F.2.2.2.2.2.2.2.1 (by omega) h5) rfl rfl (Nat.le_of_ble_eq_true rfl) (rm_ok (by omega) (by decide)) dX9_next_18 ?_
    show XJ shB p l e (rmX D) s m args below meth c 0 0 G 3 (MQ below (QcX shB G ((none, r.2) : Option Value × Mem).1 ((none, r.2) : Option Value × Mem).2) args s 0 0 (AW shB G.2.1)) 21 [(0, .ref 0)] [.int r4.1] r4.2
    refine X_bipush F dX9_next_21 (v := (10 : Int32)) rfl ?_
    refine X_icmp_ne (tgt := 39) F dX9_next_23 (by decide) (fun q6 => ?_) (fun q6 => ?_)
    · rw [if_pos q6] at h
      refine X_aload_n F dX9_next_39 rfl ?_
      refine X_aload_n F dX9_next_40 rfl ?_
      refine X_geti (v := (r4.2 0 25)) F ffRX9_147 dX9_next_41 rfl ?_
      refine X_puti F ffRX9_153 fw9_27 (by decide) dX9_next_44 ?_
      refine X_aload_n F dX9_next_47 rfl ?_
      refine X_aload_n F dX9_next_48 rfl ?_
      refine X_geti (v := (r4.2 0 25)) F ffRX9_147 dX9_next_49 rfl ?_
      obtain ⟨r7, h8, h⟩ := bndS h
      refine X_callV (ci := 0) (As := [.int (r4.2 0 25)]) (rest := []) F fkRX9_150 feX9_byteAt fvX9_byteAt ⟨_, _, _, rfl, rfl, rfl⟩ (F9_byteAt_met (D := D - 1) F.2.2.2.2.2.2.2.1 (by omega) h8) rfl rfl (Nat.le_of_ble_eq_true rfl) (rm_ok (by omega) (by decide)) dX9_next_52 ?_
      show XJ shB p l e (rmX D) s m args below meth c 0 0 G 3 (MQ below (QcX shB G ((none, r.2) : Option Value × Mem).1 ((none, r.2) : Option Value × Mem).2) args s 0 0 (AW shB G.2.1)) 55 [(0, .ref 0)] [.int r7.1] r7.2
      refine X_istore_n F dX9_next_55 (by decide) rfl ?_
      refine X_aload_n F dX9_next_56 rfl ?_
      refine X_iconst F dX9_next_57 (v := (4 : Int32)) rfl ?_
      refine X_puti F ffRX9_156 fw9_26 (by decide) dX9_next_58 ?_
      refine X_iload_n F dX9_next_61 rfl ?_
      refine X_if_ge (tgt := 81) F dX9_next_62 (by decide) (fun q9 => ?_) (fun q9 => ?_)
      · rw [if_pos q9] at h
        refine X_iload_n F dX9_next_81 rfl ?_
        refine X_i2l F dX9_next_82 ?_
        refine X_ldc2 F fcRX9_159 dX9_next_83 ?_
        refine X_ldc2 F fcRX9_161 dX9_next_86 ?_
        obtain ⟨r10, h11, h⟩ := bndS h
        refine X_callS (As := [.long (Int32.toInt64 r7.1), .long (97 : Int64), .long (122 : Int64)]) (rest := []) F fsRX9_88 feX9_in ftX9_in (F9_in_met (D := D - 1) F.2.2.2.2.2.2.2.1 (by omega) h11) rfl rfl (Nat.le_of_ble_eq_true rfl) (rm_ok (by omega) (by decide)) dX9_next_89 ?_
        show XJ shB p l e (rmX D) s m args below meth c 0 0 G 3 (MQ below (QcX shB G ((none, r.2) : Option Value × Mem).1 ((none, r.2) : Option Value × Mem).2) args s 0 0 (AW shB G.2.1)) 92 [(1, .int r7.1), (0, .ref 0)] [.int r10.1] r10.2
        refine X_if_eq (tgt := 134) F dX9_next_92 (by decide) (fun q12 => ?_) (fun q12 => ?_)
        · rw [if_pos q12] at h
          refine X_iload_n F dX9_next_134 rfl ?_
          refine X_i2l F dX9_next_135 ?_
          refine X_ldc2 F fcRX9_163 dX9_next_136 ?_
          refine X_ldc2 F fcRX9_165 dX9_next_139 ?_
          obtain ⟨r13, h14, h⟩ := bndS h
          refine X_callS (As := [.long (Int32.toInt64 r7.1), .long (48 : Int64), .long (57 : Int64)]) (rest := []) F fsRX9_88 feX9_in ftX9_in (F9_in_met (D := D - 1) F.2.2.2.2.2.2.2.1 (by omega) h14) rfl rfl (Nat.le_of_ble_eq_true rfl) (rm_ok (by omega) (by decide)) dX9_next_142 ?_
          show XJ shB p l e (rmX D) s m args below meth c 0 0 G 3 (MQ below (QcX shB G ((none, r.2) : Option Value × Mem).1 ((none, r.2) : Option Value × Mem).2) args s 0 0 (AW shB G.2.1)) 145 [(1, .int r7.1), (0, .ref 0)] [.int r13.1] r13.2
          refine X_if_eq (tgt := 252) F dX9_next_145 (by decide) (fun q15 => ?_) (fun q15 => ?_)
          · rw [if_pos q15] at h
            refine X_iload_n F dX9_next_252 rfl ?_
            refine X_bipush F dX9_next_253 (v := (40 : Int32)) rfl ?_
            refine X_icmp_eq (tgt := 300) F dX9_next_255 (by decide) (fun q16 => ?_) (fun q16 => ?_)
            · rw [if_pos q16] at h
              refine X_pick [1, 0] rfl ?_
              exact F9_next_j300_ok F hr hlk hD h
            · rw [if_neg q16] at h
              refine X_iload_n F dX9_next_258 rfl ?_
              refine X_bipush F dX9_next_259 (v := (41 : Int32)) rfl ?_
              refine X_icmp_eq (tgt := 300) F dX9_next_261 (by decide) (fun q17 => ?_) (fun q17 => ?_)
              · rw [if_pos q17] at h
                refine X_pick [1, 0] rfl ?_
                exact F9_next_j300_ok F hr hlk hD h
              · rw [if_neg q17] at h
                refine X_iload_n F dX9_next_264 rfl ?_
                refine X_bipush F dX9_next_265 (v := (59 : Int32)) rfl ?_
                refine X_icmp_eq (tgt := 300) F dX9_next_267 (by decide) (fun q18 => ?_) (fun q18 => ?_)
                · rw [if_pos q18] at h
                  refine X_pick [1, 0] rfl ?_
                  exact F9_next_j300_ok F hr hlk hD h
                · rw [if_neg q18] at h
                  refine X_iload_n F dX9_next_270 rfl ?_
                  refine X_bipush F dX9_next_271 (v := (43 : Int32)) rfl ?_
                  refine X_icmp_eq (tgt := 300) F dX9_next_273 (by decide) (fun q19 => ?_) (fun q19 => ?_)
                  · rw [if_pos q19] at h
                    refine X_pick [1, 0] rfl ?_
                    exact F9_next_j300_ok F hr hlk hD h
                  · rw [if_neg q19] at h
                    refine X_iload_n F dX9_next_276 rfl ?_
                    refine X_bipush F dX9_next_277 (v := (45 : Int32)) rfl ?_
                    refine X_icmp_eq (tgt := 300) F dX9_next_279 (by decide) (fun q20 => ?_) (fun q20 => ?_)
                    · rw [if_pos q20] at h
                      refine X_pick [1, 0] rfl ?_
                      exact F9_next_j300_ok F hr hlk hD h
                    · rw [if_neg q20] at h
                      refine X_iload_n F dX9_next_282 rfl ?_
                      refine X_bipush F dX9_next_283 (v := (42 : Int32)) rfl ?_
                      refine X_icmp_eq (tgt := 300) F dX9_next_285 (by decide) (fun q21 => ?_) (fun q21 => ?_)
                      · rw [if_pos q21] at h
                        refine X_pick [1, 0] rfl ?_
                        exact F9_next_j300_ok F hr hlk hD h
                      · rw [if_neg q21] at h
                        refine X_iload_n F dX9_next_288 rfl ?_
                        refine X_bipush F dX9_next_289 (v := (60 : Int32)) rfl ?_
                        refine X_icmp_eq (tgt := 300) F dX9_next_291 (by decide) (fun q22 => ?_) (fun q22 => ?_)
                        · rw [if_pos q22] at h
                          refine X_pick [1, 0] rfl ?_
                          exact F9_next_j300_ok F hr hlk hD h
                        · rw [if_neg q22] at h
                          refine X_iload_n F dX9_next_294 rfl ?_
                          refine X_bipush F dX9_next_295 (v := (61 : Int32)) rfl ?_
                          refine X_icmp_ne (tgt := 321) F dX9_next_297 (by decide) (fun q23 => ?_) (fun q23 => ?_)
                          · rw [if_pos q23] at h
                            exact X_vret F hr hlk (retV h) dX9_next_321
                          · rw [if_neg (fun z => z q23)] at h
                            refine X_pick [1, 0] rfl ?_
                            exact F9_next_j300_ok F hr hlk hD h
          · rw [if_neg q15] at h
            refine X_aload_n F dX9_next_148 rfl ?_
            refine X_iconst F dX9_next_149 (v := (2 : Int32)) rfl ?_
            refine X_puti F ffRX9_156 fw9_26 (by decide) dX9_next_150 ?_
            refine X_aload_n F dX9_next_153 rfl ?_
            refine X_lconst F dX9_next_154 (v := (0 : Int64)) rfl ?_
            refine X_putl F ffRX9_167 fw9_28 (by decide) dX9_next_155 ?_
            refine X_iconst F dX9_next_158 (v := (0 : Int32)) rfl ?_
            refine X_istore_n F dX9_next_159 (by decide) rfl ?_
            refine X_pick [2, 0] rfl ?_
            exact F9_next_l160_ok F hr hlk hD FUEL _ _ h
        · rw [if_neg q12] at h
          refine X_aload_n F dX9_next_95 rfl ?_
          refine X_iconst F dX9_next_96 (v := (1 : Int32)) rfl ?_
          refine X_puti F ffRX9_156 fw9_26 (by decide) dX9_next_97 ?_
          refine X_pick [1] rfl ?_
          exact F9_next_l100_ok F hr hlk hD FUEL _ h
      · rw [if_neg q9] at h
        refine X_aload_n F dX9_next_65 rfl ?_
        refine X_iconst F dX9_next_66 (v := (0 : Int32)) rfl ?_
        refine X_puti F ffRX9_156 fw9_26 (by decide) dX9_next_67 ?_
        refine X_aload_n F dX9_next_70 rfl ?_
        refine X_aload_n F dX9_next_71 rfl ?_
        refine X_geti (v := (r7.2 0 24)) F ffRX9_141 dX9_next_72 rfl ?_
        refine X_puti F ffRX9_153 fw9_27 (by decide) dX9_next_75 ?_
        refine X_goto (tgt := 321) F dX9_next_78 (by decide) ?_
        exact X_vret F hr hlk (retV h) dX9_next_321
    · rw [if_neg (fun z => z q6)] at h
      exact F9_next_j26_ok F hr hlk hD hrec0 h
set_option maxRecDepth 20000 in
theorem F9_next_l0_ok {p : Program} {l : Launch} {e : Env} {s : State} {m : MethodId} {args : Array Value} {below : List Frame} {meth : Method} {c : Code} {G : GG} {D : Nat} {r : Int32 × Mem} (F : FrP shB G p s m args c RX9 cX9_next 3) (hr : meth.sig.returnType = none) (hlk : meth.locks = false) (hD : 2 ≤ D) : ∀ (fu : Nat) (M : Mem), F9_next_l0 fu M = some r → XJ shB p l e (rmX D) s m args below meth c 0 0 G 3 (MQ below (QcX shB G ((none, r.2) : Option Value × Mem).1 ((none, r.2) : Option Value × Mem).2) args s 0 0 (AW shB G.2.1)) 0 [(0, .ref 0)] [] M := by
  intro fu
  induction fu with
  | zero => intro M h; cases h
  | succ fu ih => intro M h; exact F9_next_l0_bok F hr hlk hD (fun M => ih M) h
set_option maxRecDepth 20000 in
theorem F9_next_ok {p : Program} {l : Launch} {e : Env} {s : State} {m : MethodId} {args : Array Value} {below : List Frame} {meth : Method} {c : Code} {G : GG} {D : Nat} {r : Int32 × Mem} (F : FrP shB G p s m args c RX9 cX9_next 3) (hr : meth.sig.returnType = none) (hlk : meth.locks = false) (hD : 2 ≤ D) {M : Mem} (h : F9_next M = some r) : XJ shB p l e (rmX D) s m args below meth c 0 0 G 3 (MQ below (QcX shB G ((none, r.2) : Option Value × Mem).1 ((none, r.2) : Option Value × Mem).2) args s 0 0 (AW shB G.2.1)) 0 [(0, .ref 0)] [] M := by
  unfold F9_next at h
  exact F9_next_l0_ok F hr hlk hD FUEL _ h
set_option maxRecDepth 20000 in
theorem F9_next_met {l : Launch} {G : GG} {D : Nat} {r : Int32 × Mem} {M : Mem} (hI : Inj shB G.2.1) (hD : 2 ≤ D) (h : F9_next M = some r) : MetX shB l G yX9_next cX9_next 3 none D [.ref 0] M (none, r.2) :=
  X_met hI (by decide +kernel) (Nat.le_of_ble_eq_true rfl) (fun p e s m args below meth c F hr hlk => F9_next_ok F hr hlk hD h)
-- KeepOurPlaceModel.isLetter
def F9_isLetter (M : Mem) (a1 : Int32) (a2 : Int32) : Option (Int32 × Mem) :=
    if (M 0 25) ≤ ((M 0 27) + a1) then
      if ¬ a2 = 0 then
        some ((0 : Int32), M)
      else
        some ((1 : Int32), M)
    else
      Option.bind (F9_byteAt M ((M 0 27) + a1)) fun r3 =>
      if ¬ r3.1 = a2 then
        some ((0 : Int32), r3.2)
      else
        some ((1 : Int32), r3.2)
set_option maxRecDepth 20000 in
theorem F9_isLetter_ok {p : Program} {l : Launch} {e : Env} {s : State} {m : MethodId} {args : Array Value} {below : List Frame} {meth : Method} {c : Code} {G : GG} {D : Nat} {r : Int32 × Mem} (F : FrP shB G p s m args c RX9 cX9_isLetter 3) (hr : meth.sig.returnType = (some .boolean)) (hlk : meth.locks = false) (hD : 2 ≤ D) {M : Mem} {a1 : Int32} {a2 : Int32} (h : F9_isLetter M a1 a2 = some r) : XJ shB p l e (rmX D) s m args below meth c 0 0 G 3 (MQ below (QcX shB G ((some (.int r.1), r.2) : Option Value × Mem).1 ((some (.int r.1), r.2) : Option Value × Mem).2) args s 0 0 (AW shB G.2.1)) 0 [(0, .ref 0), (1, .int a1), (2, .int a2)] [] M := by
  unfold F9_isLetter at h
  refine X_aload_n F dX9_isLetter_0 rfl ?_
  refine X_geti (v := (M 0 27)) F ffRX9_153 dX9_isLetter_1 rfl ?_
  refine X_iload_n F dX9_isLetter_4 rfl ?_
  refine X_iadd F dX9_isLetter_5 ?_
  refine X_aload_n F dX9_isLetter_6 rfl ?_
  refine X_geti (v := (M 0 25)) F ffRX9_147 dX9_isLetter_7 rfl ?_
  refine X_icmp_ge (tgt := 35) F dX9_isLetter_10 (by decide) (fun q1 => ?_) (fun q1 => ?_)
  · rw [if_pos q1] at h
    refine X_iload_n F dX9_isLetter_35 rfl ?_
    refine X_if_ne (tgt := 43) F dX9_isLetter_36 (by decide) (fun q2 => ?_) (fun q2 => ?_)
    · rw [if_pos q2] at h
      refine X_iconst F dX9_isLetter_43 (v := (0 : Int32)) rfl ?_
      exact X_zret F hr hlk rfl (retI h) dX9_isLetter_44
    · rw [if_neg (fun z => z q2)] at h
      refine X_iconst F dX9_isLetter_39 (v := (1 : Int32)) rfl ?_
      refine X_goto (tgt := 44) F dX9_isLetter_40 (by decide) ?_
      exact X_zret F hr hlk rfl (retI h) dX9_isLetter_44
  · rw [if_neg q1] at h
    refine X_aload_n F dX9_isLetter_13 rfl ?_
    refine X_aload_n F dX9_isLetter_14 rfl ?_
    refine X_geti (v := (M 0 27)) F ffRX9_153 dX9_isLetter_15 rfl ?_
    refine X_iload_n F dX9_isLetter_18 rfl ?_
    refine X_iadd F dX9_isLetter_19 ?_
    obtain ⟨r3, h4, h⟩ := bndS h
    refine X_callV (ci := 0) (As := [.int ((M 0 27) + a1)]) (rest := []) F fkRX9_150 feX9_byteAt fvX9_byteAt ⟨_, _, _, rfl, rfl, rfl⟩ (F9_byteAt_met (D := D - 1) F.2.2.2.2.2.2.2.1 (by omega) h4) rfl rfl (Nat.le_of_ble_eq_true rfl) (rm_ok (by omega) (by decide)) dX9_isLetter_20 ?_
    show XJ shB p l e (rmX D) s m args below meth c 0 0 G 3 (MQ below (QcX shB G ((some (.int r.1), r.2) : Option Value × Mem).1 ((some (.int r.1), r.2) : Option Value × Mem).2) args s 0 0 (AW shB G.2.1)) 23 [(0, .ref 0), (1, .int a1), (2, .int a2)] [.int r3.1] r3.2
    refine X_iload_n F dX9_isLetter_23 rfl ?_
    refine X_icmp_ne (tgt := 31) F dX9_isLetter_24 (by decide) (fun q5 => ?_) (fun q5 => ?_)
    · rw [if_pos q5] at h
      refine X_iconst F dX9_isLetter_31 (v := (0 : Int32)) rfl ?_
      refine X_goto (tgt := 44) F dX9_isLetter_32 (by decide) ?_
      exact X_zret F hr hlk rfl (retI h) dX9_isLetter_44
    · rw [if_neg (fun z => z q5)] at h
      refine X_iconst F dX9_isLetter_27 (v := (1 : Int32)) rfl ?_
      refine X_goto (tgt := 44) F dX9_isLetter_28 (by decide) ?_
      exact X_zret F hr hlk rfl (retI h) dX9_isLetter_44
set_option maxRecDepth 20000 in
theorem F9_isLetter_met {l : Launch} {G : GG} {D : Nat} {r : Int32 × Mem} {M : Mem} {a1 : Int32} {a2 : Int32} (hI : Inj shB G.2.1) (hD : 2 ≤ D) (h : F9_isLetter M a1 a2 = some r) : MetX shB l G yX9_isLetter cX9_isLetter 3 (some .boolean) D [.ref 0, .int a1, .int a2] M (some (.int r.1), r.2) :=
  X_met hI (by decide +kernel) (Nat.le_of_ble_eq_true rfl) (fun p e s m args below meth c F hr hlk => F9_isLetter_ok F hr hlk hD h)
-- KeepOurPlaceModel.isWord
def F9_isWord (M : Mem) (a1 : Int32) (a2 : Int32) (a3 : Int32) (a4 : Int32) (a5 : Int32) (a6 : Int32) (a7 : Int32) (a8 : Int32) : Option (Int32 × Mem) :=
    if ¬ (M 0 30) = 0 then
      some ((0 : Int32), M)
    else
      if ¬ (M 0 26) = (1 : Int32) then
        some ((0 : Int32), M)
      else
        if ((M 0 27) + (8 : Int32)) < (M 0 25) then
          some ((0 : Int32), M)
        else
          Option.bind (F9_isLetter M (0 : Int32) a1) fun r4 =>
          if r4.1 = 0 then
            some ((0 : Int32), r4.2)
          else
            Option.bind (F9_isLetter r4.2 (1 : Int32) a2) fun r7 =>
            if r7.1 = 0 then
              some ((0 : Int32), r7.2)
            else
              Option.bind (F9_isLetter r7.2 (2 : Int32) a3) fun r10 =>
              if r10.1 = 0 then
                some ((0 : Int32), r10.2)
              else
                Option.bind (F9_isLetter r10.2 (3 : Int32) a4) fun r13 =>
                if r13.1 = 0 then
                  some ((0 : Int32), r13.2)
                else
                  Option.bind (F9_isLetter r13.2 (4 : Int32) a5) fun r16 =>
                  if r16.1 = 0 then
                    some ((0 : Int32), r16.2)
                  else
                    Option.bind (F9_isLetter r16.2 (5 : Int32) a6) fun r19 =>
                    if r19.1 = 0 then
                      some ((0 : Int32), r19.2)
                    else
                      Option.bind (F9_isLetter r19.2 (6 : Int32) a7) fun r22 =>
                      if r22.1 = 0 then
                        some ((0 : Int32), r22.2)
                      else
                        Option.bind (F9_isLetter r22.2 (7 : Int32) a8) fun r25 =>
                        if r25.1 = 0 then
                          some ((0 : Int32), r25.2)
                        else
                          some ((1 : Int32), r25.2)
set_option maxRecDepth 20000 in
theorem F9_isWord_ok {p : Program} {l : Launch} {e : Env} {s : State} {m : MethodId} {args : Array Value} {below : List Frame} {meth : Method} {c : Code} {G : GG} {D : Nat} {r : Int32 × Mem} (F : FrP shB G p s m args c RX9 cX9_isWord 9) (hr : meth.sig.returnType = (some .boolean)) (hlk : meth.locks = false) (hD : 3 ≤ D) {M : Mem} {a1 : Int32} {a2 : Int32} {a3 : Int32} {a4 : Int32} {a5 : Int32} {a6 : Int32} {a7 : Int32} {a8 : Int32} (h : F9_isWord M a1 a2 a3 a4 a5 a6 a7 a8 = some r) : XJ shB p l e (rmX D) s m args below meth c 0 0 G 9 (MQ below (QcX shB G ((some (.int r.1), r.2) : Option Value × Mem).1 ((some (.int r.1), r.2) : Option Value × Mem).2) args s 0 0 (AW shB G.2.1)) 0 [(0, .ref 0), (1, .int a1), (2, .int a2), (3, .int a3), (4, .int a4), (5, .int a5), (6, .int a6), (7, .int a7), (8, .int a8)] [] M := by
  unfold F9_isWord at h
  refine X_aload_n F dX9_isWord_0 rfl ?_
  refine X_geti (v := (M 0 30)) F ffRX9_173 dX9_isWord_1 rfl ?_
  refine X_if_ne (tgt := 112) F dX9_isWord_4 (by decide) (fun q1 => ?_) (fun q1 => ?_)
  · rw [if_pos q1] at h
    refine X_iconst F dX9_isWord_112 (v := (0 : Int32)) rfl ?_
    exact X_zret F hr hlk rfl (retI h) dX9_isWord_113
  · rw [if_neg (fun z => z q1)] at h
    refine X_aload_n F dX9_isWord_7 rfl ?_
    refine X_geti (v := (M 0 26)) F ffRX9_156 dX9_isWord_8 rfl ?_
    refine X_iconst F dX9_isWord_11 (v := (1 : Int32)) rfl ?_
    refine X_icmp_ne (tgt := 112) F dX9_isWord_12 (by decide) (fun q2 => ?_) (fun q2 => ?_)
    · rw [if_pos q2] at h
      refine X_iconst F dX9_isWord_112 (v := (0 : Int32)) rfl ?_
      exact X_zret F hr hlk rfl (retI h) dX9_isWord_113
    · rw [if_neg (fun z => z q2)] at h
      refine X_aload_n F dX9_isWord_15 rfl ?_
      refine X_geti (v := (M 0 25)) F ffRX9_147 dX9_isWord_16 rfl ?_
      refine X_aload_n F dX9_isWord_19 rfl ?_
      refine X_geti (v := (M 0 27)) F ffRX9_153 dX9_isWord_20 rfl ?_
      refine X_bipush F dX9_isWord_23 (v := (8 : Int32)) rfl ?_
      refine X_iadd F dX9_isWord_25 ?_
      refine X_icmp_gt (tgt := 112) F dX9_isWord_26 (by decide) (fun q3 => ?_) (fun q3 => ?_)
      · rw [if_pos q3] at h
        refine X_iconst F dX9_isWord_112 (v := (0 : Int32)) rfl ?_
        exact X_zret F hr hlk rfl (retI h) dX9_isWord_113
      · rw [if_neg q3] at h
        refine X_aload_n F dX9_isWord_29 rfl ?_
        refine X_iconst F dX9_isWord_30 (v := (0 : Int32)) rfl ?_
        refine X_iload_n F dX9_isWord_31 rfl ?_
        obtain ⟨r4, h5, h⟩ := bndS h
        refine X_callV (ci := 0) (As := [.int (0 : Int32), .int a1]) (rest := []) F fkRX9_180 feX9_isLetter fvX9_isLetter ⟨_, _, _, rfl, rfl, rfl⟩ (F9_isLetter_met (D := D - 1) F.2.2.2.2.2.2.2.1 (by omega) h5) rfl rfl (Nat.le_of_ble_eq_true rfl) (rm_ok (by omega) (by decide)) dX9_isWord_32 ?_
        show XJ shB p l e (rmX D) s m args below meth c 0 0 G 9 (MQ below (QcX shB G ((some (.int r.1), r.2) : Option Value × Mem).1 ((some (.int r.1), r.2) : Option Value × Mem).2) args s 0 0 (AW shB G.2.1)) 35 [(0, .ref 0), (1, .int a1), (2, .int a2), (3, .int a3), (4, .int a4), (5, .int a5), (6, .int a6), (7, .int a7), (8, .int a8)] [.int r4.1] r4.2
        refine X_if_eq (tgt := 112) F dX9_isWord_35 (by decide) (fun q6 => ?_) (fun q6 => ?_)
        · rw [if_pos q6] at h
          refine X_iconst F dX9_isWord_112 (v := (0 : Int32)) rfl ?_
          exact X_zret F hr hlk rfl (retI h) dX9_isWord_113
        · rw [if_neg q6] at h
          refine X_aload_n F dX9_isWord_38 rfl ?_
          refine X_iconst F dX9_isWord_39 (v := (1 : Int32)) rfl ?_
          refine X_iload_n F dX9_isWord_40 rfl ?_
          obtain ⟨r7, h8, h⟩ := bndS h
          refine X_callV (ci := 0) (As := [.int (1 : Int32), .int a2]) (rest := []) F fkRX9_180 feX9_isLetter fvX9_isLetter ⟨_, _, _, rfl, rfl, rfl⟩ (F9_isLetter_met (D := D - 1) F.2.2.2.2.2.2.2.1 (by omega) h8) rfl rfl (Nat.le_of_ble_eq_true rfl) (rm_ok (by omega) (by decide)) dX9_isWord_41 ?_
          show XJ shB p l e (rmX D) s m args below meth c 0 0 G 9 (MQ below (QcX shB G ((some (.int r.1), r.2) : Option Value × Mem).1 ((some (.int r.1), r.2) : Option Value × Mem).2) args s 0 0 (AW shB G.2.1)) 44 [(0, .ref 0), (1, .int a1), (2, .int a2), (3, .int a3), (4, .int a4), (5, .int a5), (6, .int a6), (7, .int a7), (8, .int a8)] [.int r7.1] r7.2
          refine X_if_eq (tgt := 112) F dX9_isWord_44 (by decide) (fun q9 => ?_) (fun q9 => ?_)
          · rw [if_pos q9] at h
            refine X_iconst F dX9_isWord_112 (v := (0 : Int32)) rfl ?_
            exact X_zret F hr hlk rfl (retI h) dX9_isWord_113
          · rw [if_neg q9] at h
            refine X_aload_n F dX9_isWord_47 rfl ?_
            refine X_iconst F dX9_isWord_48 (v := (2 : Int32)) rfl ?_
            refine X_iload_n F dX9_isWord_49 rfl ?_
            obtain ⟨r10, h11, h⟩ := bndS h
            refine X_callV (ci := 0) (As := [.int (2 : Int32), .int a3]) (rest := []) F fkRX9_180 feX9_isLetter fvX9_isLetter ⟨_, _, _, rfl, rfl, rfl⟩ (F9_isLetter_met (D := D - 1) F.2.2.2.2.2.2.2.1 (by omega) h11) rfl rfl (Nat.le_of_ble_eq_true rfl) (rm_ok (by omega) (by decide)) dX9_isWord_50 ?_
            show XJ shB p l e (rmX D) s m args below meth c 0 0 G 9 (MQ below (QcX shB G ((some (.int r.1), r.2) : Option Value × Mem).1 ((some (.int r.1), r.2) : Option Value × Mem).2) args s 0 0 (AW shB G.2.1)) 53 [(0, .ref 0), (1, .int a1), (2, .int a2), (3, .int a3), (4, .int a4), (5, .int a5), (6, .int a6), (7, .int a7), (8, .int a8)] [.int r10.1] r10.2
            refine X_if_eq (tgt := 112) F dX9_isWord_53 (by decide) (fun q12 => ?_) (fun q12 => ?_)
            · rw [if_pos q12] at h
              refine X_iconst F dX9_isWord_112 (v := (0 : Int32)) rfl ?_
              exact X_zret F hr hlk rfl (retI h) dX9_isWord_113
            · rw [if_neg q12] at h
              refine X_aload_n F dX9_isWord_56 rfl ?_
              refine X_iconst F dX9_isWord_57 (v := (3 : Int32)) rfl ?_
              refine X_iload F dX9_isWord_58 rfl ?_
              obtain ⟨r13, h14, h⟩ := bndS h
              refine X_callV (ci := 0) (As := [.int (3 : Int32), .int a4]) (rest := []) F fkRX9_180 feX9_isLetter fvX9_isLetter ⟨_, _, _, rfl, rfl, rfl⟩ (F9_isLetter_met (D := D - 1) F.2.2.2.2.2.2.2.1 (by omega) h14) rfl rfl (Nat.le_of_ble_eq_true rfl) (rm_ok (by omega) (by decide)) dX9_isWord_60 ?_
              show XJ shB p l e (rmX D) s m args below meth c 0 0 G 9 (MQ below (QcX shB G ((some (.int r.1), r.2) : Option Value × Mem).1 ((some (.int r.1), r.2) : Option Value × Mem).2) args s 0 0 (AW shB G.2.1)) 63 [(0, .ref 0), (1, .int a1), (2, .int a2), (3, .int a3), (4, .int a4), (5, .int a5), (6, .int a6), (7, .int a7), (8, .int a8)] [.int r13.1] r13.2
              refine X_if_eq (tgt := 112) F dX9_isWord_63 (by decide) (fun q15 => ?_) (fun q15 => ?_)
              · rw [if_pos q15] at h
                refine X_iconst F dX9_isWord_112 (v := (0 : Int32)) rfl ?_
                exact X_zret F hr hlk rfl (retI h) dX9_isWord_113
              · rw [if_neg q15] at h
                refine X_aload_n F dX9_isWord_66 rfl ?_
                refine X_iconst F dX9_isWord_67 (v := (4 : Int32)) rfl ?_
                refine X_iload F dX9_isWord_68 rfl ?_
                obtain ⟨r16, h17, h⟩ := bndS h
                refine X_callV (ci := 0) (As := [.int (4 : Int32), .int a5]) (rest := []) F fkRX9_180 feX9_isLetter fvX9_isLetter ⟨_, _, _, rfl, rfl, rfl⟩ (F9_isLetter_met (D := D - 1) F.2.2.2.2.2.2.2.1 (by omega) h17) rfl rfl (Nat.le_of_ble_eq_true rfl) (rm_ok (by omega) (by decide)) dX9_isWord_70 ?_
                show XJ shB p l e (rmX D) s m args below meth c 0 0 G 9 (MQ below (QcX shB G ((some (.int r.1), r.2) : Option Value × Mem).1 ((some (.int r.1), r.2) : Option Value × Mem).2) args s 0 0 (AW shB G.2.1)) 73 [(0, .ref 0), (1, .int a1), (2, .int a2), (3, .int a3), (4, .int a4), (5, .int a5), (6, .int a6), (7, .int a7), (8, .int a8)] [.int r16.1] r16.2
                refine X_if_eq (tgt := 112) F dX9_isWord_73 (by decide) (fun q18 => ?_) (fun q18 => ?_)
                · rw [if_pos q18] at h
                  refine X_iconst F dX9_isWord_112 (v := (0 : Int32)) rfl ?_
                  exact X_zret F hr hlk rfl (retI h) dX9_isWord_113
                · rw [if_neg q18] at h
                  refine X_aload_n F dX9_isWord_76 rfl ?_
                  refine X_iconst F dX9_isWord_77 (v := (5 : Int32)) rfl ?_
                  refine X_iload F dX9_isWord_78 rfl ?_
                  obtain ⟨r19, h20, h⟩ := bndS h
                  refine X_callV (ci := 0) (As := [.int (5 : Int32), .int a6]) (rest := []) F fkRX9_180 feX9_isLetter fvX9_isLetter ⟨_, _, _, rfl, rfl, rfl⟩ (F9_isLetter_met (D := D - 1) F.2.2.2.2.2.2.2.1 (by omega) h20) rfl rfl (Nat.le_of_ble_eq_true rfl) (rm_ok (by omega) (by decide)) dX9_isWord_80 ?_
                  show XJ shB p l e (rmX D) s m args below meth c 0 0 G 9 (MQ below (QcX shB G ((some (.int r.1), r.2) : Option Value × Mem).1 ((some (.int r.1), r.2) : Option Value × Mem).2) args s 0 0 (AW shB G.2.1)) 83 [(0, .ref 0), (1, .int a1), (2, .int a2), (3, .int a3), (4, .int a4), (5, .int a5), (6, .int a6), (7, .int a7), (8, .int a8)] [.int r19.1] r19.2
                  refine X_if_eq (tgt := 112) F dX9_isWord_83 (by decide) (fun q21 => ?_) (fun q21 => ?_)
                  · rw [if_pos q21] at h
                    refine X_iconst F dX9_isWord_112 (v := (0 : Int32)) rfl ?_
                    exact X_zret F hr hlk rfl (retI h) dX9_isWord_113
                  · rw [if_neg q21] at h
                    refine X_aload_n F dX9_isWord_86 rfl ?_
                    refine X_bipush F dX9_isWord_87 (v := (6 : Int32)) rfl ?_
                    refine X_iload F dX9_isWord_89 rfl ?_
                    obtain ⟨r22, h23, h⟩ := bndS h
                    refine X_callV (ci := 0) (As := [.int (6 : Int32), .int a7]) (rest := []) F fkRX9_180 feX9_isLetter fvX9_isLetter ⟨_, _, _, rfl, rfl, rfl⟩ (F9_isLetter_met (D := D - 1) F.2.2.2.2.2.2.2.1 (by omega) h23) rfl rfl (Nat.le_of_ble_eq_true rfl) (rm_ok (by omega) (by decide)) dX9_isWord_91 ?_
                    show XJ shB p l e (rmX D) s m args below meth c 0 0 G 9 (MQ below (QcX shB G ((some (.int r.1), r.2) : Option Value × Mem).1 ((some (.int r.1), r.2) : Option Value × Mem).2) args s 0 0 (AW shB G.2.1)) 94 [(0, .ref 0), (1, .int a1), (2, .int a2), (3, .int a3), (4, .int a4), (5, .int a5), (6, .int a6), (7, .int a7), (8, .int a8)] [.int r22.1] r22.2
                    refine X_if_eq (tgt := 112) F dX9_isWord_94 (by decide) (fun q24 => ?_) (fun q24 => ?_)
                    · rw [if_pos q24] at h
                      refine X_iconst F dX9_isWord_112 (v := (0 : Int32)) rfl ?_
                      exact X_zret F hr hlk rfl (retI h) dX9_isWord_113
                    · rw [if_neg q24] at h
                      refine X_aload_n F dX9_isWord_97 rfl ?_
                      refine X_bipush F dX9_isWord_98 (v := (7 : Int32)) rfl ?_
                      refine X_iload F dX9_isWord_100 rfl ?_
                      obtain ⟨r25, h26, h⟩ := bndS h
                      refine X_callV (ci := 0) (As := [.int (7 : Int32), .int a8]) (rest := []) F fkRX9_180 feX9_isLetter fvX9_isLetter ⟨_, _, _, rfl, rfl, rfl⟩ (F9_isLetter_met (D := D - 1) F.2.2.2.2.2.2.2.1 (by omega) h26) rfl rfl (Nat.le_of_ble_eq_true rfl) (rm_ok (by omega) (by decide)) dX9_isWord_102 ?_
                      show XJ shB p l e (rmX D) s m args below meth c 0 0 G 9 (MQ below (QcX shB G ((some (.int r.1), r.2) : Option Value × Mem).1 ((some (.int r.1), r.2) : Option Value × Mem).2) args s 0 0 (AW shB G.2.1)) 105 [(0, .ref 0), (1, .int a1), (2, .int a2), (3, .int a3), (4, .int a4), (5, .int a5), (6, .int a6), (7, .int a7), (8, .int a8)] [.int r25.1] r25.2
                      refine X_if_eq (tgt := 112) F dX9_isWord_105 (by decide) (fun q27 => ?_) (fun q27 => ?_)
                      · rw [if_pos q27] at h
                        refine X_iconst F dX9_isWord_112 (v := (0 : Int32)) rfl ?_
                        exact X_zret F hr hlk rfl (retI h) dX9_isWord_113
                      · rw [if_neg q27] at h
                        refine X_iconst F dX9_isWord_108 (v := (1 : Int32)) rfl ?_
                        refine X_goto (tgt := 113) F dX9_isWord_109 (by decide) ?_
                        exact X_zret F hr hlk rfl (retI h) dX9_isWord_113
set_option maxRecDepth 20000 in
theorem F9_isWord_met {l : Launch} {G : GG} {D : Nat} {r : Int32 × Mem} {M : Mem} {a1 : Int32} {a2 : Int32} {a3 : Int32} {a4 : Int32} {a5 : Int32} {a6 : Int32} {a7 : Int32} {a8 : Int32} (hI : Inj shB G.2.1) (hD : 3 ≤ D) (h : F9_isWord M a1 a2 a3 a4 a5 a6 a7 a8 = some r) : MetX shB l G yX9_isWord cX9_isWord 9 (some .boolean) D [.ref 0, .int a1, .int a2, .int a3, .int a4, .int a5, .int a6, .int a7, .int a8] M (some (.int r.1), r.2) :=
  X_met hI (by decide +kernel) (Nat.le_of_ble_eq_true rfl) (fun p e s m args below meth c F hr hlk => F9_isWord_ok F hr hlk hD h)
-- KeepOurPlaceModel.fail
def F9_fail (M : Mem) : Option (Int32 × Mem) :=
    if ¬ (M 0 30) = 0 then
      some ((0 : Int32), M)
    else
      some ((0 : Int32), (up2 (up2 M 0 30 (1 : Int32)) 0 31 (M 0 27)))
set_option maxRecDepth 20000 in
theorem F9_fail_ok {p : Program} {l : Launch} {e : Env} {s : State} {m : MethodId} {args : Array Value} {below : List Frame} {meth : Method} {c : Code} {G : GG} {D : Nat} {r : Int32 × Mem} (F : FrP shB G p s m args c RX9 cX9_fail 1) (hr : meth.sig.returnType = none) (hlk : meth.locks = false) (hD : 1 ≤ D) {M : Mem} (h : F9_fail M = some r) : XJ shB p l e (rmX D) s m args below meth c 0 0 G 1 (MQ below (QcX shB G ((none, r.2) : Option Value × Mem).1 ((none, r.2) : Option Value × Mem).2) args s 0 0 (AW shB G.2.1)) 0 [(0, .ref 0)] [] M := by
  unfold F9_fail at h
  refine X_aload_n F dX9_fail_0 rfl ?_
  refine X_geti (v := (M 0 30)) F ffRX9_173 dX9_fail_1 rfl ?_
  refine X_if_ne (tgt := 20) F dX9_fail_4 (by decide) (fun q1 => ?_) (fun q1 => ?_)
  · rw [if_pos q1] at h
    exact X_vret F hr hlk (retV h) dX9_fail_20
  · rw [if_neg (fun z => z q1)] at h
    refine X_aload_n F dX9_fail_7 rfl ?_
    refine X_iconst F dX9_fail_8 (v := (1 : Int32)) rfl ?_
    refine X_putz F ffRX9_173 fw9_30 (by decide) dX9_fail_9 ⟨rfl, rfl⟩ ?_
    refine X_aload_n F dX9_fail_12 rfl ?_
    refine X_aload_n F dX9_fail_13 rfl ?_
    refine X_geti (v := (M 0 27)) F ffRX9_153 dX9_fail_14 rfl ?_
    refine X_puti F ffRX9_177 fw9_31 (by decide) dX9_fail_17 ?_
    exact X_vret F hr hlk (retV h) dX9_fail_20
set_option maxRecDepth 20000 in
theorem F9_fail_met {l : Launch} {G : GG} {D : Nat} {r : Int32 × Mem} {M : Mem} (hI : Inj shB G.2.1) (hD : 1 ≤ D) (h : F9_fail M = some r) : MetX shB l G yX9_fail cX9_fail 1 none D [.ref 0] M (none, r.2) :=
  X_met hI (by decide +kernel) (Nat.le_of_ble_eq_true rfl) (fun p e s m args below meth c F hr hlk => F9_fail_ok F hr hlk hD h)
-- KeepOurPlaceModel.opens
def F9_opens (M : Mem) : Option (Int32 × Mem) :=
    if ¬ (M 0 29) = (5 : Int32) then
      Option.bind (F9_next (up2 M 0 29 ((M 0 29) + (1 : Int32)))) fun r2 =>
      some ((1 : Int32), r2.2)
    else
      Option.bind (F9_fail M) fun r4 =>
      some ((0 : Int32), r4.2)
set_option maxRecDepth 20000 in
theorem F9_opens_ok {p : Program} {l : Launch} {e : Env} {s : State} {m : MethodId} {args : Array Value} {below : List Frame} {meth : Method} {c : Code} {G : GG} {D : Nat} {r : Int32 × Mem} (F : FrP shB G p s m args c RX9 cX9_opens 1) (hr : meth.sig.returnType = (some .boolean)) (hlk : meth.locks = false) (hD : 3 ≤ D) {M : Mem} (h : F9_opens M = some r) : XJ shB p l e (rmX D) s m args below meth c 0 0 G 1 (MQ below (QcX shB G ((some (.int r.1), r.2) : Option Value × Mem).1 ((some (.int r.1), r.2) : Option Value × Mem).2) args s 0 0 (AW shB G.2.1)) 0 [(0, .ref 0)] [] M := by
  unfold F9_opens at h
  refine X_aload_n F dX9_opens_0 rfl ?_
  refine X_geti (v := (M 0 29)) F ffRX9_184 dX9_opens_1 rfl ?_
  refine X_iconst F dX9_opens_4 (v := (5 : Int32)) rfl ?_
  refine X_icmp_ne (tgt := 14) F dX9_opens_5 (by decide) (fun q1 => ?_) (fun q1 => ?_)
  · rw [if_pos q1] at h
    refine X_aload_n F dX9_opens_14 rfl ?_
    refine X_dup F dX9_opens_15 rfl ?_
    refine X_geti (v := (M 0 29)) F ffRX9_184 dX9_opens_16 rfl ?_
    refine X_iconst F dX9_opens_19 (v := (1 : Int32)) rfl ?_
    refine X_iadd F dX9_opens_20 ?_
    refine X_puti F ffRX9_184 fw9_29 (by decide) dX9_opens_21 ?_
    refine X_aload_n F dX9_opens_24 rfl ?_
    obtain ⟨r2, h3, h⟩ := bndS h
    refine X_callV (ci := 0) (As := []) (rest := []) F fkRX9_190 feX9_next fvX9_next ⟨_, _, _, rfl, rfl, rfl⟩ (F9_next_met (D := D - 1) F.2.2.2.2.2.2.2.1 (by omega) h3) rfl rfl (Nat.le_of_ble_eq_true rfl) (rm_ok (by omega) (by decide)) dX9_opens_25 ?_
    show XJ shB p l e (rmX D) s m args below meth c 0 0 G 1 (MQ below (QcX shB G ((some (.int r.1), r.2) : Option Value × Mem).1 ((some (.int r.1), r.2) : Option Value × Mem).2) args s 0 0 (AW shB G.2.1)) 28 [(0, .ref 0)] [] r2.2
    refine X_iconst F dX9_opens_28 (v := (1 : Int32)) rfl ?_
    exact X_zret F hr hlk rfl (retI h) dX9_opens_29
  · rw [if_neg (fun z => z q1)] at h
    refine X_aload_n F dX9_opens_8 rfl ?_
    obtain ⟨r4, h5, h⟩ := bndS h
    refine X_callV (ci := 0) (As := []) (rest := []) F fkRX9_187 feX9_fail fvX9_fail ⟨_, _, _, rfl, rfl, rfl⟩ (F9_fail_met (D := D - 1) F.2.2.2.2.2.2.2.1 (by omega) h5) rfl rfl (Nat.le_of_ble_eq_true rfl) (rm_ok (by omega) (by decide)) dX9_opens_9 ?_
    show XJ shB p l e (rmX D) s m args below meth c 0 0 G 1 (MQ below (QcX shB G ((some (.int r.1), r.2) : Option Value × Mem).1 ((some (.int r.1), r.2) : Option Value × Mem).2) args s 0 0 (AW shB G.2.1)) 12 [(0, .ref 0)] [] r4.2
    refine X_iconst F dX9_opens_12 (v := (0 : Int32)) rfl ?_
    exact X_zret F hr hlk rfl (retI h) dX9_opens_13
set_option maxRecDepth 20000 in
theorem F9_opens_met {l : Launch} {G : GG} {D : Nat} {r : Int32 × Mem} {M : Mem} (hI : Inj shB G.2.1) (hD : 3 ≤ D) (h : F9_opens M = some r) : MetX shB l G yX9_opens cX9_opens 1 (some .boolean) D [.ref 0] M (some (.int r.1), r.2) :=
  X_met hI (by decide +kernel) (Nat.le_of_ble_eq_true rfl) (fun p e s m args below meth c F hr hlk => F9_opens_ok F hr hlk hD h)
-- KeepOurPlaceModel.isSign
def F9_isSign (M : Mem) (a1 : Int32) : Option (Int32 × Mem) :=
    if ¬ (M 0 30) = 0 then
      some ((0 : Int32), M)
    else
      if ¬ (M 0 26) = (3 : Int32) then
        some ((0 : Int32), M)
      else
        if ¬ (lg_cmp (gL M 0 28) (Int32.toInt64 a1)) = 0 then
          some ((0 : Int32), M)
        else
          some ((1 : Int32), M)
set_option maxRecDepth 20000 in
theorem F9_isSign_ok {p : Program} {l : Launch} {e : Env} {s : State} {m : MethodId} {args : Array Value} {below : List Frame} {meth : Method} {c : Code} {G : GG} {D : Nat} {r : Int32 × Mem} (F : FrP shB G p s m args c RX9 cX9_isSign 2) (hr : meth.sig.returnType = (some .boolean)) (hlk : meth.locks = false) (hD : 1 ≤ D) {M : Mem} {a1 : Int32} (h : F9_isSign M a1 = some r) : XJ shB p l e (rmX D) s m args below meth c 0 0 G 2 (MQ below (QcX shB G ((some (.int r.1), r.2) : Option Value × Mem).1 ((some (.int r.1), r.2) : Option Value × Mem).2) args s 0 0 (AW shB G.2.1)) 0 [(0, .ref 0), (1, .int a1)] [] M := by
  unfold F9_isSign at h
  refine X_aload_n F dX9_isSign_0 rfl ?_
  refine X_geti (v := (M 0 30)) F ffRX9_173 dX9_isSign_1 rfl ?_
  refine X_if_ne (tgt := 29) F dX9_isSign_4 (by decide) (fun q1 => ?_) (fun q1 => ?_)
  · rw [if_pos q1] at h
    refine X_iconst F dX9_isSign_29 (v := (0 : Int32)) rfl ?_
    exact X_zret F hr hlk rfl (retI h) dX9_isSign_30
  · rw [if_neg (fun z => z q1)] at h
    refine X_aload_n F dX9_isSign_7 rfl ?_
    refine X_geti (v := (M 0 26)) F ffRX9_156 dX9_isSign_8 rfl ?_
    refine X_iconst F dX9_isSign_11 (v := (3 : Int32)) rfl ?_
    refine X_icmp_ne (tgt := 29) F dX9_isSign_12 (by decide) (fun q2 => ?_) (fun q2 => ?_)
    · rw [if_pos q2] at h
      refine X_iconst F dX9_isSign_29 (v := (0 : Int32)) rfl ?_
      exact X_zret F hr hlk rfl (retI h) dX9_isSign_30
    · rw [if_neg (fun z => z q2)] at h
      refine X_aload_n F dX9_isSign_15 rfl ?_
      refine X_getl (v := (gL M 0 28)) F ffRX9_167 dX9_isSign_16 rfl ?_
      refine X_iload_n F dX9_isSign_19 rfl ?_
      refine X_i2l F dX9_isSign_20 ?_
      refine X_lcmp F dX9_isSign_21 ?_
      refine X_if_ne (tgt := 29) F dX9_isSign_22 (by decide) (fun q3 => ?_) (fun q3 => ?_)
      · rw [if_pos q3] at h
        refine X_iconst F dX9_isSign_29 (v := (0 : Int32)) rfl ?_
        exact X_zret F hr hlk rfl (retI h) dX9_isSign_30
      · rw [if_neg (fun z => z q3)] at h
        refine X_iconst F dX9_isSign_25 (v := (1 : Int32)) rfl ?_
        refine X_goto (tgt := 30) F dX9_isSign_26 (by decide) ?_
        exact X_zret F hr hlk rfl (retI h) dX9_isSign_30
set_option maxRecDepth 20000 in
theorem F9_isSign_met {l : Launch} {G : GG} {D : Nat} {r : Int32 × Mem} {M : Mem} {a1 : Int32} (hI : Inj shB G.2.1) (hD : 1 ≤ D) (h : F9_isSign M a1 = some r) : MetX shB l G yX9_isSign cX9_isSign 2 (some .boolean) D [.ref 0, .int a1] M (some (.int r.1), r.2) :=
  X_met hI (by decide +kernel) (Nat.le_of_ble_eq_true rfl) (fun p e s m args below meth c F hr hlk => F9_isSign_ok F hr hlk hD h)
-- KeepOurPlaceModel.name
def F9_name (M : Mem) : Option (Int32 × Mem) :=
    Option.bind (F9_isWord M (105 : Int32) (116 : Int32) (101 : Int32) (109 : Int32) (115 : Int32) (0 : Int32) (0 : Int32) (0 : Int32)) fun r1 =>
    if r1.1 = 0 then
      Option.bind (F9_isWord r1.2 (110 : Int32) (117 : Int32) (109 : Int32) (98 : Int32) (101 : Int32) (114 : Int32) (0 : Int32) (0 : Int32)) fun r4 =>
      if r4.1 = 0 then
        Option.bind (F9_isWord r4.2 (112 : Int32) (108 : Int32) (97 : Int32) (99 : Int32) (101 : Int32) (0 : Int32) (0 : Int32) (0 : Int32)) fun r7 =>
        if r7.1 = 0 then
          Option.bind (F9_isWord r7.2 (111 : Int32) (117 : Int32) (114 : Int32) (115 : Int32) (0 : Int32) (0 : Int32) (0 : Int32) (0 : Int32)) fun r10 =>
          if r10.1 = 0 then
            Option.bind (F9_isWord r10.2 (119 : Int32) (97 : Int32) (105 : Int32) (116 : Int32) (0 : Int32) (0 : Int32) (0 : Int32) (0 : Int32)) fun r13 =>
            if r13.1 = 0 then
              Option.bind (F9_isWord r13.2 (109 : Int32) (97 : Int32) (110 : Int32) (121 : Int32) (0 : Int32) (0 : Int32) (0 : Int32) (0 : Int32)) fun r16 =>
              if r16.1 = 0 then
                Option.bind (F9_fail r16.2) fun r19 =>
                some ((0 : Int32), r19.2)
              else
                some ((r16.2 0 22), r16.2)
            else
              some ((r13.2 0 21), r13.2)
          else
            some ((r10.2 0 20), r10.2)
        else
          some ((r7.2 0 19), r7.2)
      else
        some ((r4.2 0 18), r4.2)
    else
      some ((r1.2 0 17), r1.2)
set_option maxRecDepth 20000 in
theorem F9_name_ok {p : Program} {l : Launch} {e : Env} {s : State} {m : MethodId} {args : Array Value} {below : List Frame} {meth : Method} {c : Code} {G : GG} {D : Nat} {r : Int32 × Mem} (F : FrP shB G p s m args c RX9 cX9_name 1) (hr : meth.sig.returnType = (some .int)) (hlk : meth.locks = false) (hD : 4 ≤ D) {M : Mem} (h : F9_name M = some r) : XJ shB p l e (rmX D) s m args below meth c 0 0 G 1 (MQ below (QcX shB G ((some (.int r.1), r.2) : Option Value × Mem).1 ((some (.int r.1), r.2) : Option Value × Mem).2) args s 0 0 (AW shB G.2.1)) 0 [(0, .ref 0)] [] M := by
  unfold F9_name at h
  refine X_aload_n F dX9_name_0 rfl ?_
  refine X_bipush F dX9_name_1 (v := (105 : Int32)) rfl ?_
  refine X_bipush F dX9_name_3 (v := (116 : Int32)) rfl ?_
  refine X_bipush F dX9_name_5 (v := (101 : Int32)) rfl ?_
  refine X_bipush F dX9_name_7 (v := (109 : Int32)) rfl ?_
  refine X_bipush F dX9_name_9 (v := (115 : Int32)) rfl ?_
  refine X_iconst F dX9_name_11 (v := (0 : Int32)) rfl ?_
  refine X_iconst F dX9_name_12 (v := (0 : Int32)) rfl ?_
  refine X_iconst F dX9_name_13 (v := (0 : Int32)) rfl ?_
  obtain ⟨r1, h2, h⟩ := bndS h
  refine X_callV (ci := 0) (As := [.int (105 : Int32), .int (116 : Int32), .int (101 : Int32), .int (109 : Int32), .int (115 : Int32), .int (0 : Int32), .int (0 : Int32), .int (0 : Int32)]) (rest := []) F fkRX9_193 feX9_isWord fvX9_isWord ⟨_, _, _, rfl, rfl, rfl⟩ (F9_isWord_met (D := D - 1) F.2.2.2.2.2.2.2.1 (by omega) h2) rfl rfl (Nat.le_of_ble_eq_true rfl) (rm_ok (by omega) (by decide)) dX9_name_14 ?_
  show XJ shB p l e (rmX D) s m args below meth c 0 0 G 1 (MQ below (QcX shB G ((some (.int r.1), r.2) : Option Value × Mem).1 ((some (.int r.1), r.2) : Option Value × Mem).2) args s 0 0 (AW shB G.2.1)) 17 [(0, .ref 0)] [.int r1.1] r1.2
  refine X_if_eq (tgt := 25) F dX9_name_17 (by decide) (fun q3 => ?_) (fun q3 => ?_)
  · rw [if_pos q3] at h
    refine X_aload_n F dX9_name_25 rfl ?_
    refine X_bipush F dX9_name_26 (v := (110 : Int32)) rfl ?_
    refine X_bipush F dX9_name_28 (v := (117 : Int32)) rfl ?_
    refine X_bipush F dX9_name_30 (v := (109 : Int32)) rfl ?_
    refine X_bipush F dX9_name_32 (v := (98 : Int32)) rfl ?_
    refine X_bipush F dX9_name_34 (v := (101 : Int32)) rfl ?_
    refine X_bipush F dX9_name_36 (v := (114 : Int32)) rfl ?_
    refine X_iconst F dX9_name_38 (v := (0 : Int32)) rfl ?_
    refine X_iconst F dX9_name_39 (v := (0 : Int32)) rfl ?_
    obtain ⟨r4, h5, h⟩ := bndS h
    refine X_callV (ci := 0) (As := [.int (110 : Int32), .int (117 : Int32), .int (109 : Int32), .int (98 : Int32), .int (101 : Int32), .int (114 : Int32), .int (0 : Int32), .int (0 : Int32)]) (rest := []) F fkRX9_193 feX9_isWord fvX9_isWord ⟨_, _, _, rfl, rfl, rfl⟩ (F9_isWord_met (D := D - 1) F.2.2.2.2.2.2.2.1 (by omega) h5) rfl rfl (Nat.le_of_ble_eq_true rfl) (rm_ok (by omega) (by decide)) dX9_name_40 ?_
    show XJ shB p l e (rmX D) s m args below meth c 0 0 G 1 (MQ below (QcX shB G ((some (.int r.1), r.2) : Option Value × Mem).1 ((some (.int r.1), r.2) : Option Value × Mem).2) args s 0 0 (AW shB G.2.1)) 43 [(0, .ref 0)] [.int r4.1] r4.2
    refine X_if_eq (tgt := 51) F dX9_name_43 (by decide) (fun q6 => ?_) (fun q6 => ?_)
    · rw [if_pos q6] at h
      refine X_aload_n F dX9_name_51 rfl ?_
      refine X_bipush F dX9_name_52 (v := (112 : Int32)) rfl ?_
      refine X_bipush F dX9_name_54 (v := (108 : Int32)) rfl ?_
      refine X_bipush F dX9_name_56 (v := (97 : Int32)) rfl ?_
      refine X_bipush F dX9_name_58 (v := (99 : Int32)) rfl ?_
      refine X_bipush F dX9_name_60 (v := (101 : Int32)) rfl ?_
      refine X_iconst F dX9_name_62 (v := (0 : Int32)) rfl ?_
      refine X_iconst F dX9_name_63 (v := (0 : Int32)) rfl ?_
      refine X_iconst F dX9_name_64 (v := (0 : Int32)) rfl ?_
      obtain ⟨r7, h8, h⟩ := bndS h
      refine X_callV (ci := 0) (As := [.int (112 : Int32), .int (108 : Int32), .int (97 : Int32), .int (99 : Int32), .int (101 : Int32), .int (0 : Int32), .int (0 : Int32), .int (0 : Int32)]) (rest := []) F fkRX9_193 feX9_isWord fvX9_isWord ⟨_, _, _, rfl, rfl, rfl⟩ (F9_isWord_met (D := D - 1) F.2.2.2.2.2.2.2.1 (by omega) h8) rfl rfl (Nat.le_of_ble_eq_true rfl) (rm_ok (by omega) (by decide)) dX9_name_65 ?_
      show XJ shB p l e (rmX D) s m args below meth c 0 0 G 1 (MQ below (QcX shB G ((some (.int r.1), r.2) : Option Value × Mem).1 ((some (.int r.1), r.2) : Option Value × Mem).2) args s 0 0 (AW shB G.2.1)) 68 [(0, .ref 0)] [.int r7.1] r7.2
      refine X_if_eq (tgt := 76) F dX9_name_68 (by decide) (fun q9 => ?_) (fun q9 => ?_)
      · rw [if_pos q9] at h
        refine X_aload_n F dX9_name_76 rfl ?_
        refine X_bipush F dX9_name_77 (v := (111 : Int32)) rfl ?_
        refine X_bipush F dX9_name_79 (v := (117 : Int32)) rfl ?_
        refine X_bipush F dX9_name_81 (v := (114 : Int32)) rfl ?_
        refine X_bipush F dX9_name_83 (v := (115 : Int32)) rfl ?_
        refine X_iconst F dX9_name_85 (v := (0 : Int32)) rfl ?_
        refine X_iconst F dX9_name_86 (v := (0 : Int32)) rfl ?_
        refine X_iconst F dX9_name_87 (v := (0 : Int32)) rfl ?_
        refine X_iconst F dX9_name_88 (v := (0 : Int32)) rfl ?_
        obtain ⟨r10, h11, h⟩ := bndS h
        refine X_callV (ci := 0) (As := [.int (111 : Int32), .int (117 : Int32), .int (114 : Int32), .int (115 : Int32), .int (0 : Int32), .int (0 : Int32), .int (0 : Int32), .int (0 : Int32)]) (rest := []) F fkRX9_193 feX9_isWord fvX9_isWord ⟨_, _, _, rfl, rfl, rfl⟩ (F9_isWord_met (D := D - 1) F.2.2.2.2.2.2.2.1 (by omega) h11) rfl rfl (Nat.le_of_ble_eq_true rfl) (rm_ok (by omega) (by decide)) dX9_name_89 ?_
        show XJ shB p l e (rmX D) s m args below meth c 0 0 G 1 (MQ below (QcX shB G ((some (.int r.1), r.2) : Option Value × Mem).1 ((some (.int r.1), r.2) : Option Value × Mem).2) args s 0 0 (AW shB G.2.1)) 92 [(0, .ref 0)] [.int r10.1] r10.2
        refine X_if_eq (tgt := 100) F dX9_name_92 (by decide) (fun q12 => ?_) (fun q12 => ?_)
        · rw [if_pos q12] at h
          refine X_aload_n F dX9_name_100 rfl ?_
          refine X_bipush F dX9_name_101 (v := (119 : Int32)) rfl ?_
          refine X_bipush F dX9_name_103 (v := (97 : Int32)) rfl ?_
          refine X_bipush F dX9_name_105 (v := (105 : Int32)) rfl ?_
          refine X_bipush F dX9_name_107 (v := (116 : Int32)) rfl ?_
          refine X_iconst F dX9_name_109 (v := (0 : Int32)) rfl ?_
          refine X_iconst F dX9_name_110 (v := (0 : Int32)) rfl ?_
          refine X_iconst F dX9_name_111 (v := (0 : Int32)) rfl ?_
          refine X_iconst F dX9_name_112 (v := (0 : Int32)) rfl ?_
          obtain ⟨r13, h14, h⟩ := bndS h
          refine X_callV (ci := 0) (As := [.int (119 : Int32), .int (97 : Int32), .int (105 : Int32), .int (116 : Int32), .int (0 : Int32), .int (0 : Int32), .int (0 : Int32), .int (0 : Int32)]) (rest := []) F fkRX9_193 feX9_isWord fvX9_isWord ⟨_, _, _, rfl, rfl, rfl⟩ (F9_isWord_met (D := D - 1) F.2.2.2.2.2.2.2.1 (by omega) h14) rfl rfl (Nat.le_of_ble_eq_true rfl) (rm_ok (by omega) (by decide)) dX9_name_113 ?_
          show XJ shB p l e (rmX D) s m args below meth c 0 0 G 1 (MQ below (QcX shB G ((some (.int r.1), r.2) : Option Value × Mem).1 ((some (.int r.1), r.2) : Option Value × Mem).2) args s 0 0 (AW shB G.2.1)) 116 [(0, .ref 0)] [.int r13.1] r13.2
          refine X_if_eq (tgt := 124) F dX9_name_116 (by decide) (fun q15 => ?_) (fun q15 => ?_)
          · rw [if_pos q15] at h
            refine X_aload_n F dX9_name_124 rfl ?_
            refine X_bipush F dX9_name_125 (v := (109 : Int32)) rfl ?_
            refine X_bipush F dX9_name_127 (v := (97 : Int32)) rfl ?_
            refine X_bipush F dX9_name_129 (v := (110 : Int32)) rfl ?_
            refine X_bipush F dX9_name_131 (v := (121 : Int32)) rfl ?_
            refine X_iconst F dX9_name_133 (v := (0 : Int32)) rfl ?_
            refine X_iconst F dX9_name_134 (v := (0 : Int32)) rfl ?_
            refine X_iconst F dX9_name_135 (v := (0 : Int32)) rfl ?_
            refine X_iconst F dX9_name_136 (v := (0 : Int32)) rfl ?_
            obtain ⟨r16, h17, h⟩ := bndS h
            refine X_callV (ci := 0) (As := [.int (109 : Int32), .int (97 : Int32), .int (110 : Int32), .int (121 : Int32), .int (0 : Int32), .int (0 : Int32), .int (0 : Int32), .int (0 : Int32)]) (rest := []) F fkRX9_193 feX9_isWord fvX9_isWord ⟨_, _, _, rfl, rfl, rfl⟩ (F9_isWord_met (D := D - 1) F.2.2.2.2.2.2.2.1 (by omega) h17) rfl rfl (Nat.le_of_ble_eq_true rfl) (rm_ok (by omega) (by decide)) dX9_name_137 ?_
            show XJ shB p l e (rmX D) s m args below meth c 0 0 G 1 (MQ below (QcX shB G ((some (.int r.1), r.2) : Option Value × Mem).1 ((some (.int r.1), r.2) : Option Value × Mem).2) args s 0 0 (AW shB G.2.1)) 140 [(0, .ref 0)] [.int r16.1] r16.2
            refine X_if_eq (tgt := 148) F dX9_name_140 (by decide) (fun q18 => ?_) (fun q18 => ?_)
            · rw [if_pos q18] at h
              refine X_aload_n F dX9_name_148 rfl ?_
              obtain ⟨r19, h20, h⟩ := bndS h
              refine X_callV (ci := 0) (As := []) (rest := []) F fkRX9_187 feX9_fail fvX9_fail ⟨_, _, _, rfl, rfl, rfl⟩ (F9_fail_met (D := D - 1) F.2.2.2.2.2.2.2.1 (by omega) h20) rfl rfl (Nat.le_of_ble_eq_true rfl) (rm_ok (by omega) (by decide)) dX9_name_149 ?_
              show XJ shB p l e (rmX D) s m args below meth c 0 0 G 1 (MQ below (QcX shB G ((some (.int r.1), r.2) : Option Value × Mem).1 ((some (.int r.1), r.2) : Option Value × Mem).2) args s 0 0 (AW shB G.2.1)) 152 [(0, .ref 0)] [] r19.2
              refine X_iconst F dX9_name_152 (v := (0 : Int32)) rfl ?_
              exact X_iret F hr hlk (retI h) dX9_name_153
            · rw [if_neg q18] at h
              refine X_aload_n F dX9_name_143 rfl ?_
              refine X_geti (v := (r16.2 0 22)) F ffRX9_212 dX9_name_144 rfl ?_
              exact X_iret F hr hlk (retI h) dX9_name_147
          · rw [if_neg q15] at h
            refine X_aload_n F dX9_name_119 rfl ?_
            refine X_geti (v := (r13.2 0 21)) F ffRX9_209 dX9_name_120 rfl ?_
            exact X_iret F hr hlk (retI h) dX9_name_123
        · rw [if_neg q12] at h
          refine X_aload_n F dX9_name_95 rfl ?_
          refine X_geti (v := (r10.2 0 20)) F ffRX9_206 dX9_name_96 rfl ?_
          exact X_iret F hr hlk (retI h) dX9_name_99
      · rw [if_neg q9] at h
        refine X_aload_n F dX9_name_71 rfl ?_
        refine X_geti (v := (r7.2 0 19)) F ffRX9_203 dX9_name_72 rfl ?_
        exact X_iret F hr hlk (retI h) dX9_name_75
    · rw [if_neg q6] at h
      refine X_aload_n F dX9_name_46 rfl ?_
      refine X_geti (v := (r4.2 0 18)) F ffRX9_200 dX9_name_47 rfl ?_
      exact X_iret F hr hlk (retI h) dX9_name_50
  · rw [if_neg q3] at h
    refine X_aload_n F dX9_name_20 rfl ?_
    refine X_geti (v := (r1.2 0 17)) F ffRX9_197 dX9_name_21 rfl ?_
    exact X_iret F hr hlk (retI h) dX9_name_24
set_option maxRecDepth 20000 in
theorem F9_name_met {l : Launch} {G : GG} {D : Nat} {r : Int32 × Mem} {M : Mem} (hI : Inj shB G.2.1) (hD : 4 ≤ D) (h : F9_name M = some r) : MetX shB l G yX9_name cX9_name 1 (some .int) D [.ref 0] M (some (.int r.1), r.2) :=
  X_met hI (by decide +kernel) (Nat.le_of_ble_eq_true rfl) (fun p e s m args below meth c F hr hlk => F9_name_ok F hr hlk hD h)
