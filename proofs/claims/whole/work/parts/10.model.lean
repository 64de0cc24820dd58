/-! written by wip/whole/gen: the pure functions of these methods, read off their bytecode, and the walks that prove them -/
theorem fkRX9_245 : LNK RX9 245 yX9_both := Or.inl (tmem 1183 (by decide +kernel) rfl)
theorem feX9_both : CLE yX9_both 0 cX9_both 3 (some .int) := ⟨tmem 17 (by decide +kernel) rfl, tmem 1186 (by decide +kernel) rfl, by decide +kernel, by decide +kernel⟩
theorem fvX9_both : CLV yX9_both := ⟨tmem 1185 (by decide +kernel) rfl, smem 82 (by decide +kernel) rfl⟩
theorem fkRX9_237 : LNK RX9 237 yX9_not := Or.inl (tmem 1187 (by decide +kernel) rfl)
theorem feX9_not : CLE yX9_not 0 cX9_not 4 (some .int) := ⟨tmem 17 (by decide +kernel) rfl, tmem 1190 (by decide +kernel) rfl, by decide +kernel, by decide +kernel⟩
theorem fvX9_not : CLV yX9_not := ⟨tmem 1189 (by decide +kernel) rfl, smem 83 (by decide +kernel) rfl⟩
theorem fkRX9_240 : LNK RX9 240 yX9_added := Or.inl (tmem 1195 (by decide +kernel) rfl)
theorem feX9_added : CLE yX9_added 0 cX9_added 4 (some .int) := ⟨tmem 17 (by decide +kernel) rfl, tmem 1198 (by decide +kernel) rfl, by decide +kernel, by decide +kernel⟩
theorem fvX9_added : CLV yX9_added := ⟨tmem 1197 (by decide +kernel) rfl, smem 85 (by decide +kernel) rfl⟩
theorem fkRX9_215 : LNK RX9 215 yX9_isSign := Or.inl (tmem 1207 (by decide +kernel) rfl)
theorem feX9_isSign : CLE yX9_isSign 1 cX9_isSign 2 (some .boolean) := ⟨tmem 17 (by decide +kernel) rfl, tmem 1210 (by decide +kernel) rfl, by decide +kernel, by decide +kernel⟩
theorem fvX9_isSign : CLV yX9_isSign := ⟨tmem 1209 (by decide +kernel) rfl, smem 88 (by decide +kernel) rfl⟩
theorem fkRX9_218 : LNK RX9 218 yX9_opens := Or.inl (tmem 1191 (by decide +kernel) rfl)
theorem feX9_opens : CLE yX9_opens 0 cX9_opens 1 (some .boolean) := ⟨tmem 17 (by decide +kernel) rfl, tmem 1194 (by decide +kernel) rfl, by decide +kernel, by decide +kernel⟩
theorem fvX9_opens : CLV yX9_opens := ⟨tmem 1193 (by decide +kernel) rfl, smem 84 (by decide +kernel) rfl⟩
theorem fcRX9_243 : Cond.constantLong RX9 243 (60 : Int64) ∈ TBL := tmem 1216 (by decide +kernel) rfl
theorem fkRX9_232 : LNK RX9 232 yX9_term := Or.inl (tmem 1199 (by decide +kernel) rfl)
theorem feX9_term : CLE yX9_term 0 cX9_term 2 (some .int) := ⟨tmem 17 (by decide +kernel) rfl, tmem 1202 (by decide +kernel) rfl, by decide +kernel, by decide +kernel⟩
theorem fvX9_term : CLV yX9_term := ⟨tmem 1201 (by decide +kernel) rfl, smem 86 (by decide +kernel) rfl⟩
theorem fcRX9_235 : Cond.constantLong RX9 235 (43 : Int64) ∈ TBL := tmem 1215 (by decide +kernel) rfl
theorem fkRX9_222 : LNK RX9 222 yX9_atom := Or.inl (tmem 1203 (by decide +kernel) rfl)
theorem feX9_atom : CLE yX9_atom 0 cX9_atom 2 (some .int) := ⟨tmem 17 (by decide +kernel) rfl, tmem 1206 (by decide +kernel) rfl, by decide +kernel, by decide +kernel⟩
theorem fvX9_atom : CLV yX9_atom := ⟨tmem 1205 (by decide +kernel) rfl, smem 87 (by decide +kernel) rfl⟩
theorem fkRX9_226 : LNK RX9 226 yX9_either := Or.inl (tmem 1179 (by decide +kernel) rfl)
theorem feX9_either : CLE yX9_either 0 cX9_either 3 (some .int) := ⟨tmem 17 (by decide +kernel) rfl, tmem 1182 (by decide +kernel) rfl, by decide +kernel, by decide +kernel⟩
theorem fvX9_either : CLV yX9_either := ⟨tmem 1181 (by decide +kernel) rfl, smem 81 (by decide +kernel) rfl⟩
theorem fkRX9_229 : LNK RX9 229 yX9_name := Or.inl (tmem 1211 (by decide +kernel) rfl)
theorem feX9_name : CLE yX9_name 0 cX9_name 1 (some .int) := ⟨tmem 17 (by decide +kernel) rfl, tmem 1214 (by decide +kernel) rfl, by decide +kernel, by decide +kernel⟩
theorem fvX9_name : CLV yX9_name := ⟨tmem 1213 (by decide +kernel) rfl, smem 89 (by decide +kernel) rfl⟩
theorem fw9_23 : FLW 9 23 .int := ⟨RX9, TX9, 56, tyX9, rfl, tyX9_ok, nmX9, rfl, by decide +kernel⟩
theorem ffRX9_17 : FLT shB RX9 0 9 17 2 (.ref 2) := ⟨⟨RX9, TX9, 56, rfl, by decide, wsIn9, Or.inl (tmem 933 (by decide +kernel) rfl)⟩, _, rfl, rfl⟩
theorem fw9_24 : FLW 9 24 .int := ⟨RX9, TX9, 56, tyX9, rfl, tyX9_ok, nmX9, rfl, by decide +kernel⟩
theorem fkRX9_248 : LNK RX9 248 yX9_part := Or.inl (tmem 1171 (by decide +kernel) rfl)
theorem feX9_part : CLE yX9_part 1 cX9_part 3 (some .int) := ⟨tmem 17 (by decide +kernel) rfl, tmem 1174 (by decide +kernel) rfl, by decide +kernel, by decide +kernel⟩
theorem fvX9_part : CLV yX9_part := ⟨tmem 1173 (by decide +kernel) rfl, smem 79 (by decide +kernel) rfl⟩
theorem fw9_17 : FLW 9 17 .int := ⟨RX9, TX9, 56, tyX9, rfl, tyX9_ok, nmX9, rfl, by decide +kernel⟩
theorem fw9_18 : FLW 9 18 .int := ⟨RX9, TX9, 56, tyX9, rfl, tyX9_ok, nmX9, rfl, by decide +kernel⟩
theorem fw9_19 : FLW 9 19 .int := ⟨RX9, TX9, 56, tyX9, rfl, tyX9_ok, nmX9, rfl, by decide +kernel⟩
theorem fw9_20 : FLW 9 20 .int := ⟨RX9, TX9, 56, tyX9, rfl, tyX9_ok, nmX9, rfl, by decide +kernel⟩
theorem fw9_21 : FLW 9 21 .int := ⟨RX9, TX9, 56, tyX9, rfl, tyX9_ok, nmX9, rfl, by decide +kernel⟩
theorem fw9_22 : FLW 9 22 .int := ⟨RX9, TX9, 56, tyX9, rfl, tyX9_ok, nmX9, rfl, by decide +kernel⟩
theorem ffRX9_255 : FLT shB RX9 0 9 255 4 (.int 0) := ⟨⟨RX9, TX9, 56, rfl, by decide, wsIn9, Or.inl (tmem 935 (by decide +kernel) rfl)⟩, _, rfl, rfl⟩
theorem fkRX9_252 : LNK RX9 252 yX9_read := Or.inl (tmem 1146 (by decide +kernel) rfl)
theorem feX9_read : CLE yX9_read 2 cX9_read 6 (some .int) := ⟨tmem 17 (by decide +kernel) rfl, tmem 1149 (by decide +kernel) rfl, by decide +kernel, by decide +kernel⟩
theorem fvX9_read : CLV yX9_read := ⟨tmem 1148 (by decide +kernel) rfl, smem 74 (by decide +kernel) rfl⟩
theorem fsRX9_258 : Cond.methodLink RX9 258 yX9_within ∈ TBL := tmem 1217 (by decide +kernel) rfl
theorem feX9_within : CLE yX9_within 3 cX9_within 3 (some .int) := ⟨tmem 17 (by decide +kernel) rfl, tmem 1219 (by decide +kernel) rfl, by decide +kernel, by decide +kernel⟩
theorem ftX9_within : Cond.static yX9_within ∈ TBL := tmem 1218 (by decide +kernel) rfl
theorem fkRX9_262 : LNK RX9 262 yX9_says := Or.inl (tmem 1142 (by decide +kernel) rfl)
theorem feX9_says : CLE yX9_says 5 cX9_says 6 (some .int) := ⟨tmem 17 (by decide +kernel) rfl, tmem 1145 (by decide +kernel) rfl, by decide +kernel, by decide +kernel⟩
theorem fvX9_says : CLV yX9_says := ⟨tmem 1144 (by decide +kernel) rfl, smem 73 (by decide +kernel) rfl⟩
theorem fcRX9_121 : Cond.constantLong RX9 121 (7 : Int64) ∈ TBL := tmem 1136 (by decide +kernel) rfl
theorem fcRX9_123 : Cond.constantLong RX9 123 (3 : Int64) ∈ TBL := tmem 1137 (by decide +kernel) rfl
theorem fkRX9_129 : LNK RX9 129 yX9_mindsOf := Or.inl (tmem 1220 (by decide +kernel) rfl)
theorem feX9_mindsOf : CLE yX9_mindsOf 2 cX9_mindsOf 6 (some .int) := ⟨tmem 17 (by decide +kernel) rfl, tmem 1223 (by decide +kernel) rfl, by decide +kernel, by decide +kernel⟩
theorem fvX9_mindsOf : CLV yX9_mindsOf := ⟨tmem 1222 (by decide +kernel) rfl, smem 90 (by decide +kernel) rfl⟩
theorem fkRX9_125 : LNK RX9 125 yX9_secondsOf := Or.inl (tmem 1138 (by decide +kernel) rfl)
theorem feX9_secondsOf : CLE yX9_secondsOf 1 cX9_secondsOf 5 (some .int) := ⟨tmem 17 (by decide +kernel) rfl, tmem 1141 (by decide +kernel) rfl, by decide +kernel, by decide +kernel⟩
theorem fvX9_secondsOf : CLV yX9_secondsOf := ⟨tmem 1140 (by decide +kernel) rfl, smem 72 (by decide +kernel) rfl⟩
theorem ffRX9_133 : FLT shB RX9 0 9 133 12 (.int 0) := ⟨⟨RX9, TX9, 56, rfl, by decide, wsIn9, Or.inl (tmem 943 (by decide +kernel) rfl)⟩, _, rfl, rfl⟩
theorem fw9_12 : FLW 9 12 .int := ⟨RX9, TX9, 56, tyX9, rfl, tyX9_ok, nmX9, rfl, by decide +kernel⟩
theorem dX9_either_0 : decode cX9_either 0 = .ok (.aload_n 0, 1) := by decide +kernel
theorem dX9_either_1 : decode cX9_either 1 = .ok (.invokevirtual 245, 3) := by decide +kernel
theorem dX9_either_4 : decode cX9_either 4 = .ok (.istore_n 1, 1) := by decide +kernel
theorem dX9_either_5 : decode cX9_either 5 = .ok (.aload_n 0, 1) := by decide +kernel
theorem dX9_either_6 : decode cX9_either 6 = .ok (.bipush 111, 2) := by decide +kernel
theorem dX9_either_8 : decode cX9_either 8 = .ok (.bipush 114, 2) := by decide +kernel
theorem dX9_either_10 : decode cX9_either 10 = .ok (.iconst 0, 1) := by decide +kernel
theorem dX9_either_11 : decode cX9_either 11 = .ok (.iconst 0, 1) := by decide +kernel
theorem dX9_either_12 : decode cX9_either 12 = .ok (.iconst 0, 1) := by decide +kernel
theorem dX9_either_13 : decode cX9_either 13 = .ok (.iconst 0, 1) := by decide +kernel
theorem dX9_either_14 : decode cX9_either 14 = .ok (.iconst 0, 1) := by decide +kernel
theorem dX9_either_15 : decode cX9_either 15 = .ok (.iconst 0, 1) := by decide +kernel
theorem dX9_either_16 : decode cX9_either 16 = .ok (.invokevirtual 193, 3) := by decide +kernel
theorem dX9_either_19 : decode cX9_either 19 = .ok (.ifCond .eq 29, 3) := by decide +kernel
theorem dX9_either_22 : decode cX9_either 22 = .ok (.aload_n 0, 1) := by decide +kernel
theorem dX9_either_23 : decode cX9_either 23 = .ok (.invokevirtual 190, 3) := by decide +kernel
theorem dX9_either_26 : decode cX9_either 26 = .ok (.aload_n 0, 1) := by decide +kernel
theorem dX9_either_27 : decode cX9_either 27 = .ok (.invokevirtual 245, 3) := by decide +kernel
theorem dX9_either_30 : decode cX9_either 30 = .ok (.istore_n 2, 1) := by decide +kernel
theorem dX9_either_31 : decode cX9_either 31 = .ok (.iload_n 1, 1) := by decide +kernel
theorem dX9_either_32 : decode cX9_either 32 = .ok (.ifCond .ne 7, 3) := by decide +kernel
theorem dX9_either_35 : decode cX9_either 35 = .ok (.iload_n 2, 1) := by decide +kernel
theorem dX9_either_36 : decode cX9_either 36 = .ok (.ifCond .eq 7, 3) := by decide +kernel
theorem dX9_either_39 : decode cX9_either 39 = .ok (.iconst 1, 1) := by decide +kernel
theorem dX9_either_40 : decode cX9_either 40 = .ok (.goto 4, 3) := by decide +kernel
theorem dX9_either_43 : decode cX9_either 43 = .ok (.iconst 0, 1) := by decide +kernel
theorem dX9_either_44 : decode cX9_either 44 = .ok (.istore_n 1, 1) := by decide +kernel
theorem dX9_either_45 : decode cX9_either 45 = .ok (.goto (-40), 3) := by decide +kernel
theorem dX9_either_48 : decode cX9_either 48 = .ok (.iload_n 1, 1) := by decide +kernel
theorem dX9_either_49 : decode cX9_either 49 = .ok (.ireturn, 1) := by decide +kernel
theorem dX9_both_0 : decode cX9_both 0 = .ok (.aload_n 0, 1) := by decide +kernel
theorem dX9_both_1 : decode cX9_both 1 = .ok (.invokevirtual 237, 3) := by decide +kernel
theorem dX9_both_4 : decode cX9_both 4 = .ok (.istore_n 1, 1) := by decide +kernel
theorem dX9_both_5 : decode cX9_both 5 = .ok (.aload_n 0, 1) := by decide +kernel
theorem dX9_both_6 : decode cX9_both 6 = .ok (.bipush 97, 2) := by decide +kernel
theorem dX9_both_8 : decode cX9_both 8 = .ok (.bipush 110, 2) := by decide +kernel
theorem dX9_both_10 : decode cX9_both 10 = .ok (.bipush 100, 2) := by decide +kernel
theorem dX9_both_12 : decode cX9_both 12 = .ok (.iconst 0, 1) := by decide +kernel
theorem dX9_both_13 : decode cX9_both 13 = .ok (.iconst 0, 1) := by decide +kernel
theorem dX9_both_14 : decode cX9_both 14 = .ok (.iconst 0, 1) := by decide +kernel
theorem dX9_both_15 : decode cX9_both 15 = .ok (.iconst 0, 1) := by decide +kernel
theorem dX9_both_16 : decode cX9_both 16 = .ok (.iconst 0, 1) := by decide +kernel
theorem dX9_both_17 : decode cX9_both 17 = .ok (.invokevirtual 193, 3) := by decide +kernel
theorem dX9_both_20 : decode cX9_both 20 = .ok (.ifCond .eq 29, 3) := by decide +kernel
theorem dX9_both_23 : decode cX9_both 23 = .ok (.aload_n 0, 1) := by decide +kernel
theorem dX9_both_24 : decode cX9_both 24 = .ok (.invokevirtual 190, 3) := by decide +kernel
theorem dX9_both_27 : decode cX9_both 27 = .ok (.aload_n 0, 1) := by decide +kernel
theorem dX9_both_28 : decode cX9_both 28 = .ok (.invokevirtual 237, 3) := by decide +kernel
theorem dX9_both_31 : decode cX9_both 31 = .ok (.istore_n 2, 1) := by decide +kernel
theorem dX9_both_32 : decode cX9_both 32 = .ok (.iload_n 1, 1) := by decide +kernel
theorem dX9_both_33 : decode cX9_both 33 = .ok (.ifCond .eq 11, 3) := by decide +kernel
theorem dX9_both_36 : decode cX9_both 36 = .ok (.iload_n 2, 1) := by decide +kernel
theorem dX9_both_37 : decode cX9_both 37 = .ok (.ifCond .eq 7, 3) := by decide +kernel
theorem dX9_both_40 : decode cX9_both 40 = .ok (.iconst 1, 1) := by decide +kernel
theorem dX9_both_41 : decode cX9_both 41 = .ok (.goto 4, 3) := by decide +kernel
theorem dX9_both_44 : decode cX9_both 44 = .ok (.iconst 0, 1) := by decide +kernel
theorem dX9_both_45 : decode cX9_both 45 = .ok (.istore_n 1, 1) := by decide +kernel
theorem dX9_both_46 : decode cX9_both 46 = .ok (.goto (-41), 3) := by decide +kernel
theorem dX9_both_49 : decode cX9_both 49 = .ok (.iload_n 1, 1) := by decide +kernel
theorem dX9_both_50 : decode cX9_both 50 = .ok (.ireturn, 1) := by decide +kernel
theorem dX9_not_0 : decode cX9_not 0 = .ok (.aload_n 0, 1) := by decide +kernel
theorem dX9_not_1 : decode cX9_not 1 = .ok (.bipush 110, 2) := by decide +kernel
theorem dX9_not_3 : decode cX9_not 3 = .ok (.bipush 111, 2) := by decide +kernel
theorem dX9_not_5 : decode cX9_not 5 = .ok (.bipush 116, 2) := by decide +kernel
theorem dX9_not_7 : decode cX9_not 7 = .ok (.iconst 0, 1) := by decide +kernel
theorem dX9_not_8 : decode cX9_not 8 = .ok (.iconst 0, 1) := by decide +kernel
theorem dX9_not_9 : decode cX9_not 9 = .ok (.iconst 0, 1) := by decide +kernel
theorem dX9_not_10 : decode cX9_not 10 = .ok (.iconst 0, 1) := by decide +kernel
theorem dX9_not_11 : decode cX9_not 11 = .ok (.iconst 0, 1) := by decide +kernel
theorem dX9_not_12 : decode cX9_not 12 = .ok (.invokevirtual 193, 3) := by decide +kernel
theorem dX9_not_15 : decode cX9_not 15 = .ok (.ifCond .eq 37, 3) := by decide +kernel
theorem dX9_not_18 : decode cX9_not 18 = .ok (.aload_n 0, 1) := by decide +kernel
theorem dX9_not_19 : decode cX9_not 19 = .ok (.invokevirtual 218, 3) := by decide +kernel
theorem dX9_not_22 : decode cX9_not 22 = .ok (.ifCond .ne 5, 3) := by decide +kernel
theorem dX9_not_25 : decode cX9_not 25 = .ok (.iconst 0, 1) := by decide +kernel
theorem dX9_not_26 : decode cX9_not 26 = .ok (.ireturn, 1) := by decide +kernel
theorem dX9_not_27 : decode cX9_not 27 = .ok (.aload_n 0, 1) := by decide +kernel
theorem dX9_not_28 : decode cX9_not 28 = .ok (.invokevirtual 237, 3) := by decide +kernel
theorem dX9_not_31 : decode cX9_not 31 = .ok (.istore_n 1, 1) := by decide +kernel
theorem dX9_not_32 : decode cX9_not 32 = .ok (.aload_n 0, 1) := by decide +kernel
theorem dX9_not_33 : decode cX9_not 33 = .ok (.dup, 1) := by decide +kernel
theorem dX9_not_34 : decode cX9_not 34 = .ok (.getfield 184, 3) := by decide +kernel
theorem dX9_not_37 : decode cX9_not 37 = .ok (.iconst 1, 1) := by decide +kernel
theorem dX9_not_38 : decode cX9_not 38 = .ok (.isub, 1) := by decide +kernel
theorem dX9_not_39 : decode cX9_not 39 = .ok (.putfield 184, 3) := by decide +kernel
theorem dX9_not_42 : decode cX9_not 42 = .ok (.iload_n 1, 1) := by decide +kernel
theorem dX9_not_43 : decode cX9_not 43 = .ok (.ifCond .ne 7, 3) := by decide +kernel
theorem dX9_not_46 : decode cX9_not 46 = .ok (.iconst 1, 1) := by decide +kernel
theorem dX9_not_47 : decode cX9_not 47 = .ok (.goto 4, 3) := by decide +kernel
theorem dX9_not_50 : decode cX9_not 50 = .ok (.iconst 0, 1) := by decide +kernel
theorem dX9_not_51 : decode cX9_not 51 = .ok (.ireturn, 1) := by decide +kernel
theorem dX9_not_52 : decode cX9_not 52 = .ok (.aload_n 0, 1) := by decide +kernel
theorem dX9_not_53 : decode cX9_not 53 = .ok (.invokevirtual 240, 3) := by decide +kernel
theorem dX9_not_56 : decode cX9_not 56 = .ok (.istore_n 1, 1) := by decide +kernel
theorem dX9_not_57 : decode cX9_not 57 = .ok (.aload_n 0, 1) := by decide +kernel
theorem dX9_not_58 : decode cX9_not 58 = .ok (.bipush 60, 2) := by decide +kernel
theorem dX9_not_60 : decode cX9_not 60 = .ok (.invokevirtual 215, 3) := by decide +kernel
theorem dX9_not_63 : decode cX9_not 63 = .ok (.ifCond .ne 14, 3) := by decide +kernel
theorem dX9_not_66 : decode cX9_not 66 = .ok (.aload_n 0, 1) := by decide +kernel
theorem dX9_not_67 : decode cX9_not 67 = .ok (.bipush 61, 2) := by decide +kernel
theorem dX9_not_69 : decode cX9_not 69 = .ok (.invokevirtual 215, 3) := by decide +kernel
theorem dX9_not_72 : decode cX9_not 72 = .ok (.ifCond .ne 5, 3) := by decide +kernel
theorem dX9_not_75 : decode cX9_not 75 = .ok (.iload_n 1, 1) := by decide +kernel
theorem dX9_not_76 : decode cX9_not 76 = .ok (.ireturn, 1) := by decide +kernel
theorem dX9_not_77 : decode cX9_not 77 = .ok (.aload_n 0, 1) := by decide +kernel
theorem dX9_not_78 : decode cX9_not 78 = .ok (.getfield 167, 3) := by decide +kernel
theorem dX9_not_81 : decode cX9_not 81 = .ok (.ldc2_w 243, 3) := by decide +kernel
theorem dX9_not_84 : decode cX9_not 84 = .ok (.lcmp, 1) := by decide +kernel
theorem dX9_not_85 : decode cX9_not 85 = .ok (.ifCond .ne 7, 3) := by decide +kernel
theorem dX9_not_88 : decode cX9_not 88 = .ok (.iconst 1, 1) := by decide +kernel
theorem dX9_not_89 : decode cX9_not 89 = .ok (.goto 4, 3) := by decide +kernel
theorem dX9_not_92 : decode cX9_not 92 = .ok (.iconst 0, 1) := by decide +kernel
theorem dX9_not_93 : decode cX9_not 93 = .ok (.istore_n 2, 1) := by decide +kernel
theorem dX9_not_94 : decode cX9_not 94 = .ok (.aload_n 0, 1) := by decide +kernel
theorem dX9_not_95 : decode cX9_not 95 = .ok (.invokevirtual 190, 3) := by decide +kernel
theorem dX9_not_98 : decode cX9_not 98 = .ok (.aload_n 0, 1) := by decide +kernel
theorem dX9_not_99 : decode cX9_not 99 = .ok (.invokevirtual 240, 3) := by decide +kernel
theorem dX9_not_102 : decode cX9_not 102 = .ok (.istore_n 3, 1) := by decide +kernel
theorem dX9_not_103 : decode cX9_not 103 = .ok (.iload_n 2, 1) := by decide +kernel
theorem dX9_not_104 : decode cX9_not 104 = .ok (.ifCond .eq 11, 3) := by decide +kernel
theorem dX9_not_107 : decode cX9_not 107 = .ok (.iload_n 1, 1) := by decide +kernel
theorem dX9_not_108 : decode cX9_not 108 = .ok (.iload_n 3, 1) := by decide +kernel
theorem dX9_not_109 : decode cX9_not 109 = .ok (.if_icmp .ge 15, 3) := by decide +kernel
theorem dX9_not_112 : decode cX9_not 112 = .ok (.goto 8, 3) := by decide +kernel
theorem dX9_not_115 : decode cX9_not 115 = .ok (.iload_n 1, 1) := by decide +kernel
theorem dX9_not_116 : decode cX9_not 116 = .ok (.iload_n 3, 1) := by decide +kernel
theorem dX9_not_117 : decode cX9_not 117 = .ok (.if_icmp .ne 7, 3) := by decide +kernel
theorem dX9_not_120 : decode cX9_not 120 = .ok (.iconst 1, 1) := by decide +kernel
theorem dX9_not_121 : decode cX9_not 121 = .ok (.goto 4, 3) := by decide +kernel
theorem dX9_not_124 : decode cX9_not 124 = .ok (.iconst 0, 1) := by decide +kernel
theorem dX9_not_125 : decode cX9_not 125 = .ok (.ireturn, 1) := by decide +kernel
theorem dX9_added_0 : decode cX9_added 0 = .ok (.aload_n 0, 1) := by decide +kernel
theorem dX9_added_1 : decode cX9_added 1 = .ok (.invokevirtual 232, 3) := by decide +kernel
theorem dX9_added_4 : decode cX9_added 4 = .ok (.istore_n 1, 1) := by decide +kernel
theorem dX9_added_5 : decode cX9_added 5 = .ok (.aload_n 0, 1) := by decide +kernel
theorem dX9_added_6 : decode cX9_added 6 = .ok (.bipush 43, 2) := by decide +kernel
theorem dX9_added_8 : decode cX9_added 8 = .ok (.invokevirtual 215, 3) := by decide +kernel
theorem dX9_added_11 : decode cX9_added 11 = .ok (.ifCond .ne 12, 3) := by decide +kernel
theorem dX9_added_14 : decode cX9_added 14 = .ok (.aload_n 0, 1) := by decide +kernel
theorem dX9_added_15 : decode cX9_added 15 = .ok (.bipush 45, 2) := by decide +kernel
theorem dX9_added_17 : decode cX9_added 17 = .ok (.invokevirtual 215, 3) := by decide +kernel
theorem dX9_added_20 : decode cX9_added 20 = .ok (.ifCond .eq 46, 3) := by decide +kernel
theorem dX9_added_23 : decode cX9_added 23 = .ok (.aload_n 0, 1) := by decide +kernel
theorem dX9_added_24 : decode cX9_added 24 = .ok (.getfield 167, 3) := by decide +kernel
theorem dX9_added_27 : decode cX9_added 27 = .ok (.ldc2_w 235, 3) := by decide +kernel
theorem dX9_added_30 : decode cX9_added 30 = .ok (.lcmp, 1) := by decide +kernel
theorem dX9_added_31 : decode cX9_added 31 = .ok (.ifCond .ne 7, 3) := by decide +kernel
theorem dX9_added_34 : decode cX9_added 34 = .ok (.iconst 1, 1) := by decide +kernel
theorem dX9_added_35 : decode cX9_added 35 = .ok (.goto 4, 3) := by decide +kernel
theorem dX9_added_38 : decode cX9_added 38 = .ok (.iconst 0, 1) := by decide +kernel
theorem dX9_added_39 : decode cX9_added 39 = .ok (.istore_n 2, 1) := by decide +kernel
theorem dX9_added_40 : decode cX9_added 40 = .ok (.aload_n 0, 1) := by decide +kernel
theorem dX9_added_41 : decode cX9_added 41 = .ok (.invokevirtual 190, 3) := by decide +kernel
theorem dX9_added_44 : decode cX9_added 44 = .ok (.aload_n 0, 1) := by decide +kernel
theorem dX9_added_45 : decode cX9_added 45 = .ok (.invokevirtual 232, 3) := by decide +kernel
theorem dX9_added_48 : decode cX9_added 48 = .ok (.istore_n 3, 1) := by decide +kernel
theorem dX9_added_49 : decode cX9_added 49 = .ok (.iload_n 2, 1) := by decide +kernel
theorem dX9_added_50 : decode cX9_added 50 = .ok (.ifCond .eq 9, 3) := by decide +kernel
theorem dX9_added_53 : decode cX9_added 53 = .ok (.iload_n 1, 1) := by decide +kernel
theorem dX9_added_54 : decode cX9_added 54 = .ok (.iload_n 3, 1) := by decide +kernel
theorem dX9_added_55 : decode cX9_added 55 = .ok (.iadd, 1) := by decide +kernel
theorem dX9_added_56 : decode cX9_added 56 = .ok (.goto 6, 3) := by decide +kernel
theorem dX9_added_59 : decode cX9_added 59 = .ok (.iload_n 1, 1) := by decide +kernel
theorem dX9_added_60 : decode cX9_added 60 = .ok (.iload_n 3, 1) := by decide +kernel
theorem dX9_added_61 : decode cX9_added 61 = .ok (.isub, 1) := by decide +kernel
theorem dX9_added_62 : decode cX9_added 62 = .ok (.istore_n 1, 1) := by decide +kernel
theorem dX9_added_63 : decode cX9_added 63 = .ok (.goto (-58), 3) := by decide +kernel
theorem dX9_added_66 : decode cX9_added 66 = .ok (.iload_n 1, 1) := by decide +kernel
theorem dX9_added_67 : decode cX9_added 67 = .ok (.ireturn, 1) := by decide +kernel
theorem dX9_term_0 : decode cX9_term 0 = .ok (.aload_n 0, 1) := by decide +kernel
theorem dX9_term_1 : decode cX9_term 1 = .ok (.invokevirtual 222, 3) := by decide +kernel
theorem dX9_term_4 : decode cX9_term 4 = .ok (.istore_n 1, 1) := by decide +kernel
theorem dX9_term_5 : decode cX9_term 5 = .ok (.aload_n 0, 1) := by decide +kernel
theorem dX9_term_6 : decode cX9_term 6 = .ok (.bipush 42, 2) := by decide +kernel
theorem dX9_term_8 : decode cX9_term 8 = .ok (.invokevirtual 215, 3) := by decide +kernel
theorem dX9_term_11 : decode cX9_term 11 = .ok (.ifCond .eq 17, 3) := by decide +kernel
theorem dX9_term_14 : decode cX9_term 14 = .ok (.aload_n 0, 1) := by decide +kernel
theorem dX9_term_15 : decode cX9_term 15 = .ok (.invokevirtual 190, 3) := by decide +kernel
theorem dX9_term_18 : decode cX9_term 18 = .ok (.iload_n 1, 1) := by decide +kernel
theorem dX9_term_19 : decode cX9_term 19 = .ok (.aload_n 0, 1) := by decide +kernel
theorem dX9_term_20 : decode cX9_term 20 = .ok (.invokevirtual 222, 3) := by decide +kernel
theorem dX9_term_23 : decode cX9_term 23 = .ok (.imul, 1) := by decide +kernel
theorem dX9_term_24 : decode cX9_term 24 = .ok (.istore_n 1, 1) := by decide +kernel
theorem dX9_term_25 : decode cX9_term 25 = .ok (.goto (-20), 3) := by decide +kernel
theorem dX9_term_28 : decode cX9_term 28 = .ok (.iload_n 1, 1) := by decide +kernel
theorem dX9_term_29 : decode cX9_term 29 = .ok (.ireturn, 1) := by decide +kernel
theorem dX9_atom_0 : decode cX9_atom 0 = .ok (.iconst 0, 1) := by decide +kernel
theorem dX9_atom_1 : decode cX9_atom 1 = .ok (.istore_n 1, 1) := by decide +kernel
theorem dX9_atom_2 : decode cX9_atom 2 = .ok (.aload_n 0, 1) := by decide +kernel
theorem dX9_atom_3 : decode cX9_atom 3 = .ok (.bipush 45, 2) := by decide +kernel
theorem dX9_atom_5 : decode cX9_atom 5 = .ok (.invokevirtual 215, 3) := by decide +kernel
theorem dX9_atom_8 : decode cX9_atom 8 = .ok (.ifCond .eq 29, 3) := by decide +kernel
theorem dX9_atom_11 : decode cX9_atom 11 = .ok (.aload_n 0, 1) := by decide +kernel
theorem dX9_atom_12 : decode cX9_atom 12 = .ok (.invokevirtual 218, 3) := by decide +kernel
theorem dX9_atom_15 : decode cX9_atom 15 = .ok (.ifCond .eq 146, 3) := by decide +kernel
theorem dX9_atom_18 : decode cX9_atom 18 = .ok (.aload_n 0, 1) := by decide +kernel
theorem dX9_atom_19 : decode cX9_atom 19 = .ok (.invokevirtual 222, 3) := by decide +kernel
theorem dX9_atom_22 : decode cX9_atom 22 = .ok (.ineg, 1) := by decide +kernel
theorem dX9_atom_23 : decode cX9_atom 23 = .ok (.istore_n 1, 1) := by decide +kernel
theorem dX9_atom_24 : decode cX9_atom 24 = .ok (.aload_n 0, 1) := by decide +kernel
theorem dX9_atom_25 : decode cX9_atom 25 = .ok (.dup, 1) := by decide +kernel
theorem dX9_atom_26 : decode cX9_atom 26 = .ok (.getfield 184, 3) := by decide +kernel
theorem dX9_atom_29 : decode cX9_atom 29 = .ok (.iconst 1, 1) := by decide +kernel
theorem dX9_atom_30 : decode cX9_atom 30 = .ok (.isub, 1) := by decide +kernel
theorem dX9_atom_31 : decode cX9_atom 31 = .ok (.putfield 184, 3) := by decide +kernel
theorem dX9_atom_34 : decode cX9_atom 34 = .ok (.goto 127, 3) := by decide +kernel
theorem dX9_atom_37 : decode cX9_atom 37 = .ok (.aload_n 0, 1) := by decide +kernel
theorem dX9_atom_38 : decode cX9_atom 38 = .ok (.bipush 40, 2) := by decide +kernel
theorem dX9_atom_40 : decode cX9_atom 40 = .ok (.invokevirtual 215, 3) := by decide +kernel
theorem dX9_atom_43 : decode cX9_atom 43 = .ok (.ifCond .eq 52, 3) := by decide +kernel
theorem dX9_atom_46 : decode cX9_atom 46 = .ok (.aload_n 0, 1) := by decide +kernel
theorem dX9_atom_47 : decode cX9_atom 47 = .ok (.invokevirtual 218, 3) := by decide +kernel
theorem dX9_atom_50 : decode cX9_atom 50 = .ok (.ifCond .eq 111, 3) := by decide +kernel
theorem dX9_atom_53 : decode cX9_atom 53 = .ok (.aload_n 0, 1) := by decide +kernel
theorem dX9_atom_54 : decode cX9_atom 54 = .ok (.invokevirtual 226, 3) := by decide +kernel
theorem dX9_atom_57 : decode cX9_atom 57 = .ok (.istore_n 1, 1) := by decide +kernel
theorem dX9_atom_58 : decode cX9_atom 58 = .ok (.aload_n 0, 1) := by decide +kernel
theorem dX9_atom_59 : decode cX9_atom 59 = .ok (.bipush 41, 2) := by decide +kernel
theorem dX9_atom_61 : decode cX9_atom 61 = .ok (.invokevirtual 215, 3) := by decide +kernel
theorem dX9_atom_64 : decode cX9_atom 64 = .ok (.ifCond .ne 7, 3) := by decide +kernel
theorem dX9_atom_67 : decode cX9_atom 67 = .ok (.aload_n 0, 1) := by decide +kernel
theorem dX9_atom_68 : decode cX9_atom 68 = .ok (.invokevirtual 187, 3) := by decide +kernel
theorem dX9_atom_71 : decode cX9_atom 71 = .ok (.aload_n 0, 1) := by decide +kernel
theorem dX9_atom_72 : decode cX9_atom 72 = .ok (.dup, 1) := by decide +kernel
theorem dX9_atom_73 : decode cX9_atom 73 = .ok (.getfield 184, 3) := by decide +kernel
theorem dX9_atom_76 : decode cX9_atom 76 = .ok (.iconst 1, 1) := by decide +kernel
theorem dX9_atom_77 : decode cX9_atom 77 = .ok (.isub, 1) := by decide +kernel
theorem dX9_atom_78 : decode cX9_atom 78 = .ok (.putfield 184, 3) := by decide +kernel
theorem dX9_atom_81 : decode cX9_atom 81 = .ok (.aload_n 0, 1) := by decide +kernel
theorem dX9_atom_82 : decode cX9_atom 82 = .ok (.getfield 173, 3) := by decide +kernel
theorem dX9_atom_85 : decode cX9_atom 85 = .ok (.ifCond .ne 76, 3) := by decide +kernel
theorem dX9_atom_88 : decode cX9_atom 88 = .ok (.aload_n 0, 1) := by decide +kernel
theorem dX9_atom_89 : decode cX9_atom 89 = .ok (.invokevirtual 190, 3) := by decide +kernel
theorem dX9_atom_92 : decode cX9_atom 92 = .ok (.goto 69, 3) := by decide +kernel
theorem dX9_atom_95 : decode cX9_atom 95 = .ok (.aload_n 0, 1) := by decide +kernel
theorem dX9_atom_96 : decode cX9_atom 96 = .ok (.getfield 173, 3) := by decide +kernel
theorem dX9_atom_99 : decode cX9_atom 99 = .ok (.ifCond .ne 24, 3) := by decide +kernel
theorem dX9_atom_102 : decode cX9_atom 102 = .ok (.aload_n 0, 1) := by decide +kernel
theorem dX9_atom_103 : decode cX9_atom 103 = .ok (.getfield 156, 3) := by decide +kernel
theorem dX9_atom_106 : decode cX9_atom 106 = .ok (.iconst 2, 1) := by decide +kernel
theorem dX9_atom_107 : decode cX9_atom 107 = .ok (.if_icmp .ne 16, 3) := by decide +kernel
theorem dX9_atom_110 : decode cX9_atom 110 = .ok (.aload_n 0, 1) := by decide +kernel
theorem dX9_atom_111 : decode cX9_atom 111 = .ok (.getfield 167, 3) := by decide +kernel
theorem dX9_atom_114 : decode cX9_atom 114 = .ok (.l2i, 1) := by decide +kernel
theorem dX9_atom_115 : decode cX9_atom 115 = .ok (.istore_n 1, 1) := by decide +kernel
theorem dX9_atom_116 : decode cX9_atom 116 = .ok (.aload_n 0, 1) := by decide +kernel
theorem dX9_atom_117 : decode cX9_atom 117 = .ok (.invokevirtual 190, 3) := by decide +kernel
theorem dX9_atom_120 : decode cX9_atom 120 = .ok (.goto 41, 3) := by decide +kernel
theorem dX9_atom_123 : decode cX9_atom 123 = .ok (.aload_n 0, 1) := by decide +kernel
theorem dX9_atom_124 : decode cX9_atom 124 = .ok (.getfield 173, 3) := by decide +kernel
theorem dX9_atom_127 : decode cX9_atom 127 = .ok (.ifCond .ne 30, 3) := by decide +kernel
theorem dX9_atom_130 : decode cX9_atom 130 = .ok (.aload_n 0, 1) := by decide +kernel
theorem dX9_atom_131 : decode cX9_atom 131 = .ok (.getfield 156, 3) := by decide +kernel
theorem dX9_atom_134 : decode cX9_atom 134 = .ok (.iconst 1, 1) := by decide +kernel
theorem dX9_atom_135 : decode cX9_atom 135 = .ok (.if_icmp .ne 22, 3) := by decide +kernel
theorem dX9_atom_138 : decode cX9_atom 138 = .ok (.aload_n 0, 1) := by decide +kernel
theorem dX9_atom_139 : decode cX9_atom 139 = .ok (.invokevirtual 229, 3) := by decide +kernel
theorem dX9_atom_142 : decode cX9_atom 142 = .ok (.istore_n 1, 1) := by decide +kernel
theorem dX9_atom_143 : decode cX9_atom 143 = .ok (.aload_n 0, 1) := by decide +kernel
theorem dX9_atom_144 : decode cX9_atom 144 = .ok (.getfield 173, 3) := by decide +kernel
theorem dX9_atom_147 : decode cX9_atom 147 = .ok (.ifCond .ne 14, 3) := by decide +kernel
theorem dX9_atom_150 : decode cX9_atom 150 = .ok (.aload_n 0, 1) := by decide +kernel
theorem dX9_atom_151 : decode cX9_atom 151 = .ok (.invokevirtual 190, 3) := by decide +kernel
theorem dX9_atom_154 : decode cX9_atom 154 = .ok (.goto 7, 3) := by decide +kernel
theorem dX9_atom_157 : decode cX9_atom 157 = .ok (.aload_n 0, 1) := by decide +kernel
theorem dX9_atom_158 : decode cX9_atom 158 = .ok (.invokevirtual 187, 3) := by decide +kernel
theorem dX9_atom_161 : decode cX9_atom 161 = .ok (.iload_n 1, 1) := by decide +kernel
theorem dX9_atom_162 : decode cX9_atom 162 = .ok (.ireturn, 1) := by decide +kernel
theorem dX9_part_0 : decode cX9_part 0 = .ok (.iload_n 1, 1) := by decide +kernel
theorem dX9_part_1 : decode cX9_part 1 = .ok (.ifCond .ne 7, 3) := by decide +kernel
theorem dX9_part_4 : decode cX9_part 4 = .ok (.aload_n 0, 1) := by decide +kernel
theorem dX9_part_5 : decode cX9_part 5 = .ok (.invokevirtual 187, 3) := by decide +kernel
theorem dX9_part_8 : decode cX9_part 8 = .ok (.aload_n 0, 1) := by decide +kernel
theorem dX9_part_9 : decode cX9_part 9 = .ok (.getfield 173, 3) := by decide +kernel
theorem dX9_part_12 : decode cX9_part 12 = .ok (.ifCond .ne 7, 3) := by decide +kernel
theorem dX9_part_15 : decode cX9_part 15 = .ok (.aload_n 0, 1) := by decide +kernel
theorem dX9_part_16 : decode cX9_part 16 = .ok (.invokevirtual 190, 3) := by decide +kernel
theorem dX9_part_19 : decode cX9_part 19 = .ok (.aload_n 0, 1) := by decide +kernel
theorem dX9_part_20 : decode cX9_part 20 = .ok (.getfield 173, 3) := by decide +kernel
theorem dX9_part_23 : decode cX9_part 23 = .ok (.ifCond .eq 7, 3) := by decide +kernel
theorem dX9_part_26 : decode cX9_part 26 = .ok (.iconst 0, 1) := by decide +kernel
theorem dX9_part_27 : decode cX9_part 27 = .ok (.goto 7, 3) := by decide +kernel
theorem dX9_part_30 : decode cX9_part 30 = .ok (.aload_n 0, 1) := by decide +kernel
theorem dX9_part_31 : decode cX9_part 31 = .ok (.invokevirtual 226, 3) := by decide +kernel
theorem dX9_part_34 : decode cX9_part 34 = .ok (.istore_n 2, 1) := by decide +kernel
theorem dX9_part_35 : decode cX9_part 35 = .ok (.aload_n 0, 1) := by decide +kernel
theorem dX9_part_36 : decode cX9_part 36 = .ok (.bipush 59, 2) := by decide +kernel
theorem dX9_part_38 : decode cX9_part 38 = .ok (.invokevirtual 215, 3) := by decide +kernel
theorem dX9_part_41 : decode cX9_part 41 = .ok (.ifCond .ne 7, 3) := by decide +kernel
theorem dX9_part_44 : decode cX9_part 44 = .ok (.aload_n 0, 1) := by decide +kernel
theorem dX9_part_45 : decode cX9_part 45 = .ok (.invokevirtual 187, 3) := by decide +kernel
theorem dX9_part_48 : decode cX9_part 48 = .ok (.aload_n 0, 1) := by decide +kernel
theorem dX9_part_49 : decode cX9_part 49 = .ok (.getfield 173, 3) := by decide +kernel
theorem dX9_part_52 : decode cX9_part 52 = .ok (.ifCond .ne 7, 3) := by decide +kernel
theorem dX9_part_55 : decode cX9_part 55 = .ok (.aload_n 0, 1) := by decide +kernel
theorem dX9_part_56 : decode cX9_part 56 = .ok (.invokevirtual 190, 3) := by decide +kernel
theorem dX9_part_59 : decode cX9_part 59 = .ok (.iload_n 2, 1) := by decide +kernel
theorem dX9_part_60 : decode cX9_part 60 = .ok (.ireturn, 1) := by decide +kernel
theorem dX9_read_0 : decode cX9_read 0 = .ok (.aload_n 0, 1) := by decide +kernel
theorem dX9_read_1 : decode cX9_read 1 = .ok (.sipush 160, 3) := by decide +kernel
theorem dX9_read_4 : decode cX9_read 4 = .ok (.iload_n 1, 1) := by decide +kernel
theorem dX9_read_5 : decode cX9_read 5 = .ok (.imul, 1) := by decide +kernel
theorem dX9_read_6 : decode cX9_read 6 = .ok (.putfield 144, 3) := by decide +kernel
theorem dX9_read_9 : decode cX9_read 9 = .ok (.aload_n 0, 1) := by decide +kernel
theorem dX9_read_10 : decode cX9_read 10 = .ok (.aload_n 0, 1) := by decide +kernel
theorem dX9_read_11 : decode cX9_read 11 = .ok (.getfield 17, 3) := by decide +kernel
theorem dX9_read_14 : decode cX9_read 14 = .ok (.iload_n 1, 1) := by decide +kernel
theorem dX9_read_15 : decode cX9_read 15 = .ok (.iaload, 1) := by decide +kernel
theorem dX9_read_16 : decode cX9_read 16 = .ok (.putfield 141, 3) := by decide +kernel
theorem dX9_read_19 : decode cX9_read 19 = .ok (.aload_n 0, 1) := by decide +kernel
theorem dX9_read_20 : decode cX9_read 20 = .ok (.iconst 0, 1) := by decide +kernel
theorem dX9_read_21 : decode cX9_read 21 = .ok (.putfield 147, 3) := by decide +kernel
theorem dX9_read_24 : decode cX9_read 24 = .ok (.aload_n 0, 1) := by decide +kernel
theorem dX9_read_25 : decode cX9_read 25 = .ok (.iconst 0, 1) := by decide +kernel
theorem dX9_read_26 : decode cX9_read 26 = .ok (.putfield 184, 3) := by decide +kernel
theorem dX9_read_29 : decode cX9_read 29 = .ok (.aload_n 0, 1) := by decide +kernel
theorem dX9_read_30 : decode cX9_read 30 = .ok (.iconst 0, 1) := by decide +kernel
theorem dX9_read_31 : decode cX9_read 31 = .ok (.putfield 173, 3) := by decide +kernel
theorem dX9_read_34 : decode cX9_read 34 = .ok (.aload_n 0, 1) := by decide +kernel
theorem dX9_read_35 : decode cX9_read 35 = .ok (.invokevirtual 190, 3) := by decide +kernel
theorem dX9_read_38 : decode cX9_read 38 = .ok (.aload_n 0, 1) := by decide +kernel
theorem dX9_read_39 : decode cX9_read 39 = .ok (.aload_n 0, 1) := by decide +kernel
theorem dX9_read_40 : decode cX9_read 40 = .ok (.bipush 116, 2) := by decide +kernel
theorem dX9_read_42 : decode cX9_read 42 = .ok (.bipush 97, 2) := by decide +kernel
theorem dX9_read_44 : decode cX9_read 44 = .ok (.bipush 107, 2) := by decide +kernel
theorem dX9_read_46 : decode cX9_read 46 = .ok (.bipush 101, 2) := by decide +kernel
theorem dX9_read_48 : decode cX9_read 48 = .ok (.bipush 115, 2) := by decide +kernel
theorem dX9_read_50 : decode cX9_read 50 = .ok (.iconst 0, 1) := by decide +kernel
theorem dX9_read_51 : decode cX9_read 51 = .ok (.iconst 0, 1) := by decide +kernel
theorem dX9_read_52 : decode cX9_read 52 = .ok (.iconst 0, 1) := by decide +kernel
theorem dX9_read_53 : decode cX9_read 53 = .ok (.invokevirtual 193, 3) := by decide +kernel
theorem dX9_read_56 : decode cX9_read 56 = .ok (.invokevirtual 248, 3) := by decide +kernel
theorem dX9_read_59 : decode cX9_read 59 = .ok (.istore_n 3, 1) := by decide +kernel
theorem dX9_read_60 : decode cX9_read 60 = .ok (.aload_n 0, 1) := by decide +kernel
theorem dX9_read_61 : decode cX9_read 61 = .ok (.getfield 173, 3) := by decide +kernel
theorem dX9_read_64 : decode cX9_read 64 = .ok (.ifCond .eq 7, 3) := by decide +kernel
theorem dX9_read_67 : decode cX9_read 67 = .ok (.iconst 0, 1) := by decide +kernel
theorem dX9_read_68 : decode cX9_read 68 = .ok (.goto 23, 3) := by decide +kernel
theorem dX9_read_71 : decode cX9_read 71 = .ok (.aload_n 0, 1) := by decide +kernel
theorem dX9_read_72 : decode cX9_read 72 = .ok (.aload_n 0, 1) := by decide +kernel
theorem dX9_read_73 : decode cX9_read 73 = .ok (.bipush 108, 2) := by decide +kernel
theorem dX9_read_75 : decode cX9_read 75 = .ok (.bipush 101, 2) := by decide +kernel
theorem dX9_read_77 : decode cX9_read 77 = .ok (.bipush 116, 2) := by decide +kernel
theorem dX9_read_79 : decode cX9_read 79 = .ok (.bipush 115, 2) := by decide +kernel
theorem dX9_read_81 : decode cX9_read 81 = .ok (.iconst 0, 1) := by decide +kernel
theorem dX9_read_82 : decode cX9_read 82 = .ok (.iconst 0, 1) := by decide +kernel
theorem dX9_read_83 : decode cX9_read 83 = .ok (.iconst 0, 1) := by decide +kernel
theorem dX9_read_84 : decode cX9_read 84 = .ok (.iconst 0, 1) := by decide +kernel
theorem dX9_read_85 : decode cX9_read 85 = .ok (.invokevirtual 193, 3) := by decide +kernel
theorem dX9_read_88 : decode cX9_read 88 = .ok (.invokevirtual 248, 3) := by decide +kernel
theorem dX9_read_91 : decode cX9_read 91 = .ok (.istore 4, 2) := by decide +kernel
theorem dX9_read_93 : decode cX9_read 93 = .ok (.aload_n 0, 1) := by decide +kernel
theorem dX9_read_94 : decode cX9_read 94 = .ok (.getfield 173, 3) := by decide +kernel
theorem dX9_read_97 : decode cX9_read 97 = .ok (.ifCond .eq 7, 3) := by decide +kernel
theorem dX9_read_100 : decode cX9_read 100 = .ok (.iconst 0, 1) := by decide +kernel
theorem dX9_read_101 : decode cX9_read 101 = .ok (.goto 24, 3) := by decide +kernel
theorem dX9_read_104 : decode cX9_read 104 = .ok (.aload_n 0, 1) := by decide +kernel
theorem dX9_read_105 : decode cX9_read 105 = .ok (.aload_n 0, 1) := by decide +kernel
theorem dX9_read_106 : decode cX9_read 106 = .ok (.bipush 119, 2) := by decide +kernel
theorem dX9_read_108 : decode cX9_read 108 = .ok (.bipush 97, 2) := by decide +kernel
theorem dX9_read_110 : decode cX9_read 110 = .ok (.bipush 108, 2) := by decide +kernel
theorem dX9_read_112 : decode cX9_read 112 = .ok (.bipush 107, 2) := by decide +kernel
theorem dX9_read_114 : decode cX9_read 114 = .ok (.bipush 115, 2) := by decide +kernel
theorem dX9_read_116 : decode cX9_read 116 = .ok (.iconst 0, 1) := by decide +kernel
theorem dX9_read_117 : decode cX9_read 117 = .ok (.iconst 0, 1) := by decide +kernel
theorem dX9_read_118 : decode cX9_read 118 = .ok (.iconst 0, 1) := by decide +kernel
theorem dX9_read_119 : decode cX9_read 119 = .ok (.invokevirtual 193, 3) := by decide +kernel
theorem dX9_read_122 : decode cX9_read 122 = .ok (.invokevirtual 248, 3) := by decide +kernel
theorem dX9_read_125 : decode cX9_read 125 = .ok (.istore 5, 2) := by decide +kernel
theorem dX9_read_127 : decode cX9_read 127 = .ok (.aload_n 0, 1) := by decide +kernel
theorem dX9_read_128 : decode cX9_read 128 = .ok (.getfield 173, 3) := by decide +kernel
theorem dX9_read_131 : decode cX9_read 131 = .ok (.ifCond .ne 14, 3) := by decide +kernel
theorem dX9_read_134 : decode cX9_read 134 = .ok (.aload_n 0, 1) := by decide +kernel
theorem dX9_read_135 : decode cX9_read 135 = .ok (.getfield 156, 3) := by decide +kernel
theorem dX9_read_138 : decode cX9_read 138 = .ok (.ifCond .eq 7, 3) := by decide +kernel
theorem dX9_read_141 : decode cX9_read 141 = .ok (.aload_n 0, 1) := by decide +kernel
theorem dX9_read_142 : decode cX9_read 142 = .ok (.invokevirtual 187, 3) := by decide +kernel
theorem dX9_read_145 : decode cX9_read 145 = .ok (.iload_n 2, 1) := by decide +kernel
theorem dX9_read_146 : decode cX9_read 146 = .ok (.ifCond .ne 7, 3) := by decide +kernel
theorem dX9_read_149 : decode cX9_read 149 = .ok (.iload_n 3, 1) := by decide +kernel
theorem dX9_read_150 : decode cX9_read 150 = .ok (.goto 15, 3) := by decide +kernel
theorem dX9_read_153 : decode cX9_read 153 = .ok (.iload_n 2, 1) := by decide +kernel
theorem dX9_read_154 : decode cX9_read 154 = .ok (.iconst 1, 1) := by decide +kernel
theorem dX9_read_155 : decode cX9_read 155 = .ok (.if_icmp .ne 8, 3) := by decide +kernel
theorem dX9_read_158 : decode cX9_read 158 = .ok (.iload 4, 2) := by decide +kernel
theorem dX9_read_160 : decode cX9_read 160 = .ok (.goto 5, 3) := by decide +kernel
theorem dX9_read_163 : decode cX9_read 163 = .ok (.iload 5, 2) := by decide +kernel
theorem dX9_read_165 : decode cX9_read 165 = .ok (.ireturn, 1) := by decide +kernel
theorem dX9_within_0 : decode cX9_within 0 = .ok (.iload_n 0, 1) := by decide +kernel
theorem dX9_within_1 : decode cX9_within 1 = .ok (.iload_n 1, 1) := by decide +kernel
theorem dX9_within_2 : decode cX9_within 2 = .ok (.if_icmp .ge 7, 3) := by decide +kernel
theorem dX9_within_5 : decode cX9_within 5 = .ok (.iload_n 1, 1) := by decide +kernel
theorem dX9_within_6 : decode cX9_within 6 = .ok (.goto 13, 3) := by decide +kernel
theorem dX9_within_9 : decode cX9_within 9 = .ok (.iload_n 0, 1) := by decide +kernel
theorem dX9_within_10 : decode cX9_within 10 = .ok (.iload_n 2, 1) := by decide +kernel
theorem dX9_within_11 : decode cX9_within 11 = .ok (.if_icmp .le 7, 3) := by decide +kernel
theorem dX9_within_14 : decode cX9_within 14 = .ok (.iload_n 2, 1) := by decide +kernel
theorem dX9_within_15 : decode cX9_within 15 = .ok (.goto 4, 3) := by decide +kernel
theorem dX9_within_18 : decode cX9_within 18 = .ok (.iload_n 0, 1) := by decide +kernel
theorem dX9_within_19 : decode cX9_within 19 = .ok (.ireturn, 1) := by decide +kernel
theorem dX9_says_0 : decode cX9_says 0 = .ok (.aload_n 0, 1) := by decide +kernel
theorem dX9_says_1 : decode cX9_says 1 = .ok (.iload_n 2, 1) := by decide +kernel
theorem dX9_says_2 : decode cX9_says 2 = .ok (.putfield 197, 3) := by decide +kernel
theorem dX9_says_5 : decode cX9_says 5 = .ok (.aload_n 0, 1) := by decide +kernel
theorem dX9_says_6 : decode cX9_says 6 = .ok (.iload_n 3, 1) := by decide +kernel
theorem dX9_says_7 : decode cX9_says 7 = .ok (.putfield 200, 3) := by decide +kernel
theorem dX9_says_10 : decode cX9_says 10 = .ok (.aload_n 0, 1) := by decide +kernel
theorem dX9_says_11 : decode cX9_says 11 = .ok (.iload 4, 2) := by decide +kernel
theorem dX9_says_13 : decode cX9_says 13 = .ok (.putfield 203, 3) := by decide +kernel
theorem dX9_says_16 : decode cX9_says 16 = .ok (.aload_n 0, 1) := by decide +kernel
theorem dX9_says_17 : decode cX9_says 17 = .ok (.aload_n 0, 1) := by decide +kernel
theorem dX9_says_18 : decode cX9_says 18 = .ok (.getfield 118, 3) := by decide +kernel
theorem dX9_says_21 : decode cX9_says 21 = .ok (.putfield 206, 3) := by decide +kernel
theorem dX9_says_24 : decode cX9_says 24 = .ok (.aload_n 0, 1) := by decide +kernel
theorem dX9_says_25 : decode cX9_says 25 = .ok (.iload 5, 2) := by decide +kernel
theorem dX9_says_27 : decode cX9_says 27 = .ok (.putfield 209, 3) := by decide +kernel
theorem dX9_says_30 : decode cX9_says 30 = .ok (.aload_n 0, 1) := by decide +kernel
theorem dX9_says_31 : decode cX9_says 31 = .ok (.aload_n 0, 1) := by decide +kernel
theorem dX9_says_32 : decode cX9_says 32 = .ok (.getfield 85, 3) := by decide +kernel
theorem dX9_says_35 : decode cX9_says 35 = .ok (.putfield 212, 3) := by decide +kernel
theorem dX9_says_38 : decode cX9_says 38 = .ok (.aload_n 0, 1) := by decide +kernel
theorem dX9_says_39 : decode cX9_says 39 = .ok (.aload_n 0, 1) := by decide +kernel
theorem dX9_says_40 : decode cX9_says 40 = .ok (.getfield 255, 3) := by decide +kernel
theorem dX9_says_43 : decode cX9_says 43 = .ok (.iload_n 1, 1) := by decide +kernel
theorem dX9_says_44 : decode cX9_says 44 = .ok (.invokevirtual 252, 3) := by decide +kernel
theorem dX9_says_47 : decode cX9_says 47 = .ok (.iconst 0, 1) := by decide +kernel
theorem dX9_says_48 : decode cX9_says 48 = .ok (.bipush 99, 2) := by decide +kernel
theorem dX9_says_50 : decode cX9_says 50 = .ok (.invokestatic 258, 3) := by decide +kernel
theorem dX9_says_53 : decode cX9_says 53 = .ok (.ireturn, 1) := by decide +kernel
theorem dX9_secondsOf_0 : decode cX9_secondsOf 0 = .ok (.aload_n 0, 1) := by decide +kernel
theorem dX9_secondsOf_1 : decode cX9_secondsOf 1 = .ok (.getfield 23, 3) := by decide +kernel
theorem dX9_secondsOf_4 : decode cX9_secondsOf 4 = .ok (.iload_n 1, 1) := by decide +kernel
theorem dX9_secondsOf_5 : decode cX9_secondsOf 5 = .ok (.iaload, 1) := by decide +kernel
theorem dX9_secondsOf_6 : decode cX9_secondsOf 6 = .ok (.istore_n 2, 1) := by decide +kernel
theorem dX9_secondsOf_7 : decode cX9_secondsOf 7 = .ok (.aload_n 0, 1) := by decide +kernel
theorem dX9_secondsOf_8 : decode cX9_secondsOf 8 = .ok (.getfield 26, 3) := by decide +kernel
theorem dX9_secondsOf_11 : decode cX9_secondsOf 11 = .ok (.iload_n 1, 1) := by decide +kernel
theorem dX9_secondsOf_12 : decode cX9_secondsOf 12 = .ok (.iaload, 1) := by decide +kernel
theorem dX9_secondsOf_13 : decode cX9_secondsOf 13 = .ok (.aload_n 0, 1) := by decide +kernel
theorem dX9_secondsOf_14 : decode cX9_secondsOf 14 = .ok (.iconst 0, 1) := by decide +kernel
theorem dX9_secondsOf_15 : decode cX9_secondsOf 15 = .ok (.aload_n 0, 1) := by decide +kernel
theorem dX9_secondsOf_16 : decode cX9_secondsOf 16 = .ok (.getfield 26, 3) := by decide +kernel
theorem dX9_secondsOf_19 : decode cX9_secondsOf 19 = .ok (.iload_n 1, 1) := by decide +kernel
theorem dX9_secondsOf_20 : decode cX9_secondsOf 20 = .ok (.iaload, 1) := by decide +kernel
theorem dX9_secondsOf_21 : decode cX9_secondsOf 21 = .ok (.aload_n 0, 1) := by decide +kernel
theorem dX9_secondsOf_22 : decode cX9_secondsOf 22 = .ok (.getfield 29, 3) := by decide +kernel
theorem dX9_secondsOf_25 : decode cX9_secondsOf 25 = .ok (.iload_n 1, 1) := by decide +kernel
theorem dX9_secondsOf_26 : decode cX9_secondsOf 26 = .ok (.iaload, 1) := by decide +kernel
theorem dX9_secondsOf_27 : decode cX9_secondsOf 27 = .ok (.iload_n 1, 1) := by decide +kernel
theorem dX9_secondsOf_28 : decode cX9_secondsOf 28 = .ok (.iconst 0, 1) := by decide +kernel
theorem dX9_secondsOf_29 : decode cX9_secondsOf 29 = .ok (.invokevirtual 262, 3) := by decide +kernel
theorem dX9_secondsOf_32 : decode cX9_secondsOf 32 = .ok (.imul, 1) := by decide +kernel
theorem dX9_secondsOf_33 : decode cX9_secondsOf 33 = .ok (.istore_n 3, 1) := by decide +kernel
theorem dX9_secondsOf_34 : decode cX9_secondsOf 34 = .ok (.iload_n 2, 1) := by decide +kernel
theorem dX9_secondsOf_35 : decode cX9_secondsOf 35 = .ok (.ifCond .ne 5, 3) := by decide +kernel
theorem dX9_secondsOf_38 : decode cX9_secondsOf 38 = .ok (.iload_n 3, 1) := by decide +kernel
theorem dX9_secondsOf_39 : decode cX9_secondsOf 39 = .ok (.ireturn, 1) := by decide +kernel
theorem dX9_secondsOf_40 : decode cX9_secondsOf 40 = .ok (.iload_n 2, 1) := by decide +kernel
theorem dX9_secondsOf_41 : decode cX9_secondsOf 41 = .ok (.iconst 1, 1) := by decide +kernel
theorem dX9_secondsOf_42 : decode cX9_secondsOf 42 = .ok (.if_icmp .eq 8, 3) := by decide +kernel
theorem dX9_secondsOf_45 : decode cX9_secondsOf 45 = .ok (.iload_n 2, 1) := by decide +kernel
theorem dX9_secondsOf_46 : decode cX9_secondsOf 46 = .ok (.iconst 3, 1) := by decide +kernel
theorem dX9_secondsOf_47 : decode cX9_secondsOf 47 = .ok (.if_icmp .ne 43, 3) := by decide +kernel
theorem dX9_secondsOf_50 : decode cX9_secondsOf 50 = .ok (.iload_n 3, 1) := by decide +kernel
theorem dX9_secondsOf_51 : decode cX9_secondsOf 51 = .ok (.iconst 5, 1) := by decide +kernel
theorem dX9_secondsOf_52 : decode cX9_secondsOf 52 = .ok (.aload_n 0, 1) := by decide +kernel
theorem dX9_secondsOf_53 : decode cX9_secondsOf 53 = .ok (.getfield 29, 3) := by decide +kernel
theorem dX9_secondsOf_56 : decode cX9_secondsOf 56 = .ok (.iload_n 1, 1) := by decide +kernel
theorem dX9_secondsOf_57 : decode cX9_secondsOf 57 = .ok (.iaload, 1) := by decide +kernel
theorem dX9_secondsOf_58 : decode cX9_secondsOf 58 = .ok (.imul, 1) := by decide +kernel
theorem dX9_secondsOf_59 : decode cX9_secondsOf 59 = .ok (.iadd, 1) := by decide +kernel
theorem dX9_secondsOf_60 : decode cX9_secondsOf 60 = .ok (.istore 4, 2) := by decide +kernel
theorem dX9_secondsOf_62 : decode cX9_secondsOf 62 = .ok (.iload_n 2, 1) := by decide +kernel
theorem dX9_secondsOf_63 : decode cX9_secondsOf 63 = .ok (.iconst 3, 1) := by decide +kernel
theorem dX9_secondsOf_64 : decode cX9_secondsOf 64 = .ok (.if_icmp .ne 23, 3) := by decide +kernel
theorem dX9_secondsOf_67 : decode cX9_secondsOf 67 = .ok (.aload_n 0, 1) := by decide +kernel
theorem dX9_secondsOf_68 : decode cX9_secondsOf 68 = .ok (.getfield 26, 3) := by decide +kernel
theorem dX9_secondsOf_71 : decode cX9_secondsOf 71 = .ok (.iload_n 1, 1) := by decide +kernel
theorem dX9_secondsOf_72 : decode cX9_secondsOf 72 = .ok (.iaload, 1) := by decide +kernel
theorem dX9_secondsOf_73 : decode cX9_secondsOf 73 = .ok (.iconst 2, 1) := by decide +kernel
theorem dX9_secondsOf_74 : decode cX9_secondsOf 74 = .ok (.irem, 1) := by decide +kernel
theorem dX9_secondsOf_75 : decode cX9_secondsOf 75 = .ok (.iconst 1, 1) := by decide +kernel
theorem dX9_secondsOf_76 : decode cX9_secondsOf 76 = .ok (.if_icmp .ne 11, 3) := by decide +kernel
theorem dX9_secondsOf_79 : decode cX9_secondsOf 79 = .ok (.iload 4, 2) := by decide +kernel
theorem dX9_secondsOf_81 : decode cX9_secondsOf 81 = .ok (.bipush 20, 2) := by decide +kernel
theorem dX9_secondsOf_83 : decode cX9_secondsOf 83 = .ok (.iadd, 1) := by decide +kernel
theorem dX9_secondsOf_84 : decode cX9_secondsOf 84 = .ok (.goto 5, 3) := by decide +kernel
theorem dX9_secondsOf_87 : decode cX9_secondsOf 87 = .ok (.iload 4, 2) := by decide +kernel
theorem dX9_secondsOf_89 : decode cX9_secondsOf 89 = .ok (.ireturn, 1) := by decide +kernel
theorem dX9_secondsOf_90 : decode cX9_secondsOf 90 = .ok (.iload_n 3, 1) := by decide +kernel
theorem dX9_secondsOf_91 : decode cX9_secondsOf 91 = .ok (.bipush 60, 2) := by decide +kernel
theorem dX9_secondsOf_93 : decode cX9_secondsOf 93 = .ok (.if_icmp .le 8, 3) := by decide +kernel
theorem dX9_secondsOf_96 : decode cX9_secondsOf 96 = .ok (.bipush 60, 2) := by decide +kernel
theorem dX9_secondsOf_98 : decode cX9_secondsOf 98 = .ok (.goto 4, 3) := by decide +kernel
theorem dX9_secondsOf_101 : decode cX9_secondsOf 101 = .ok (.iload_n 3, 1) := by decide +kernel
theorem dX9_secondsOf_102 : decode cX9_secondsOf 102 = .ok (.istore 4, 2) := by decide +kernel
theorem dX9_secondsOf_104 : decode cX9_secondsOf 104 = .ok (.iload_n 2, 1) := by decide +kernel
theorem dX9_secondsOf_105 : decode cX9_secondsOf 105 = .ok (.iconst 5, 1) := by decide +kernel
theorem dX9_secondsOf_106 : decode cX9_secondsOf 106 = .ok (.if_icmp .ne 9, 3) := by decide +kernel
theorem dX9_secondsOf_109 : decode cX9_secondsOf 109 = .ok (.iload_n 3, 1) := by decide +kernel
theorem dX9_secondsOf_110 : decode cX9_secondsOf 110 = .ok (.iconst 2, 1) := by decide +kernel
theorem dX9_secondsOf_111 : decode cX9_secondsOf 111 = .ok (.idiv, 1) := by decide +kernel
theorem dX9_secondsOf_112 : decode cX9_secondsOf 112 = .ok (.goto 22, 3) := by decide +kernel
theorem dX9_secondsOf_115 : decode cX9_secondsOf 115 = .ok (.iload_n 2, 1) := by decide +kernel
theorem dX9_secondsOf_116 : decode cX9_secondsOf 116 = .ok (.iconst 4, 1) := by decide +kernel
theorem dX9_secondsOf_117 : decode cX9_secondsOf 117 = .ok (.if_icmp .ne 15, 3) := by decide +kernel
theorem dX9_secondsOf_120 : decode cX9_secondsOf 120 = .ok (.iload 4, 2) := by decide +kernel
theorem dX9_secondsOf_122 : decode cX9_secondsOf 122 = .ok (.aload_n 0, 1) := by decide +kernel
theorem dX9_secondsOf_123 : decode cX9_secondsOf 123 = .ok (.getfield 29, 3) := by decide +kernel
theorem dX9_secondsOf_126 : decode cX9_secondsOf 126 = .ok (.iload_n 1, 1) := by decide +kernel
theorem dX9_secondsOf_127 : decode cX9_secondsOf 127 = .ok (.iaload, 1) := by decide +kernel
theorem dX9_secondsOf_128 : decode cX9_secondsOf 128 = .ok (.iadd, 1) := by decide +kernel
theorem dX9_secondsOf_129 : decode cX9_secondsOf 129 = .ok (.goto 5, 3) := by decide +kernel
theorem dX9_secondsOf_132 : decode cX9_secondsOf 132 = .ok (.iload 4, 2) := by decide +kernel
theorem dX9_secondsOf_134 : decode cX9_secondsOf 134 = .ok (.ireturn, 1) := by decide +kernel
theorem dX9_mindsOf_0 : decode cX9_mindsOf 0 = .ok (.aload_n 0, 1) := by decide +kernel
theorem dX9_mindsOf_1 : decode cX9_mindsOf 1 = .ok (.getfield 23, 3) := by decide +kernel
theorem dX9_mindsOf_4 : decode cX9_mindsOf 4 = .ok (.iload_n 1, 1) := by decide +kernel
theorem dX9_mindsOf_5 : decode cX9_mindsOf 5 = .ok (.iaload, 1) := by decide +kernel
theorem dX9_mindsOf_6 : decode cX9_mindsOf 6 = .ok (.istore_n 3, 1) := by decide +kernel
theorem dX9_mindsOf_7 : decode cX9_mindsOf 7 = .ok (.aload_n 0, 1) := by decide +kernel
theorem dX9_mindsOf_8 : decode cX9_mindsOf 8 = .ok (.iconst 1, 1) := by decide +kernel
theorem dX9_mindsOf_9 : decode cX9_mindsOf 9 = .ok (.aload_n 0, 1) := by decide +kernel
theorem dX9_mindsOf_10 : decode cX9_mindsOf 10 = .ok (.getfield 26, 3) := by decide +kernel
theorem dX9_mindsOf_13 : decode cX9_mindsOf 13 = .ok (.iload_n 1, 1) := by decide +kernel
theorem dX9_mindsOf_14 : decode cX9_mindsOf 14 = .ok (.iaload, 1) := by decide +kernel
theorem dX9_mindsOf_15 : decode cX9_mindsOf 15 = .ok (.aload_n 0, 1) := by decide +kernel
theorem dX9_mindsOf_16 : decode cX9_mindsOf 16 = .ok (.getfield 29, 3) := by decide +kernel
theorem dX9_mindsOf_19 : decode cX9_mindsOf 19 = .ok (.iload_n 1, 1) := by decide +kernel
theorem dX9_mindsOf_20 : decode cX9_mindsOf 20 = .ok (.iaload, 1) := by decide +kernel
theorem dX9_mindsOf_21 : decode cX9_mindsOf 21 = .ok (.iload_n 1, 1) := by decide +kernel
theorem dX9_mindsOf_22 : decode cX9_mindsOf 22 = .ok (.iload_n 2, 1) := by decide +kernel
theorem dX9_mindsOf_23 : decode cX9_mindsOf 23 = .ok (.invokevirtual 262, 3) := by decide +kernel
theorem dX9_mindsOf_26 : decode cX9_mindsOf 26 = .ok (.istore 4, 2) := by decide +kernel
theorem dX9_mindsOf_28 : decode cX9_mindsOf 28 = .ok (.iload_n 3, 1) := by decide +kernel
theorem dX9_mindsOf_29 : decode cX9_mindsOf 29 = .ok (.iconst 3, 1) := by decide +kernel
theorem dX9_mindsOf_30 : decode cX9_mindsOf 30 = .ok (.if_icmp .ne 7, 3) := by decide +kernel
theorem dX9_mindsOf_33 : decode cX9_mindsOf 33 = .ok (.iconst 0, 1) := by decide +kernel
theorem dX9_mindsOf_34 : decode cX9_mindsOf 34 = .ok (.goto 48, 3) := by decide +kernel
theorem dX9_mindsOf_37 : decode cX9_mindsOf 37 = .ok (.iload_n 3, 1) := by decide +kernel
theorem dX9_mindsOf_38 : decode cX9_mindsOf 38 = .ok (.iconst 2, 1) := by decide +kernel
theorem dX9_mindsOf_39 : decode cX9_mindsOf 39 = .ok (.if_icmp .ne 10, 3) := by decide +kernel
theorem dX9_mindsOf_42 : decode cX9_mindsOf 42 = .ok (.iconst 2, 1) := by decide +kernel
theorem dX9_mindsOf_43 : decode cX9_mindsOf 43 = .ok (.iload 4, 2) := by decide +kernel
theorem dX9_mindsOf_45 : decode cX9_mindsOf 45 = .ok (.imul, 1) := by decide +kernel
theorem dX9_mindsOf_46 : decode cX9_mindsOf 46 = .ok (.goto 36, 3) := by decide +kernel
theorem dX9_mindsOf_49 : decode cX9_mindsOf 49 = .ok (.iload_n 3, 1) := by decide +kernel
theorem dX9_mindsOf_50 : decode cX9_mindsOf 50 = .ok (.iconst 4, 1) := by decide +kernel
theorem dX9_mindsOf_51 : decode cX9_mindsOf 51 = .ok (.if_icmp .ne 17, 3) := by decide +kernel
theorem dX9_mindsOf_54 : decode cX9_mindsOf 54 = .ok (.iconst 2, 1) := by decide +kernel
theorem dX9_mindsOf_55 : decode cX9_mindsOf 55 = .ok (.iload 4, 2) := by decide +kernel
theorem dX9_mindsOf_57 : decode cX9_mindsOf 57 = .ok (.imul, 1) := by decide +kernel
theorem dX9_mindsOf_58 : decode cX9_mindsOf 58 = .ok (.aload_n 0, 1) := by decide +kernel
theorem dX9_mindsOf_59 : decode cX9_mindsOf 59 = .ok (.getfield 29, 3) := by decide +kernel
theorem dX9_mindsOf_62 : decode cX9_mindsOf 62 = .ok (.iload_n 1, 1) := by decide +kernel
theorem dX9_mindsOf_63 : decode cX9_mindsOf 63 = .ok (.iaload, 1) := by decide +kernel
theorem dX9_mindsOf_64 : decode cX9_mindsOf 64 = .ok (.isub, 1) := by decide +kernel
theorem dX9_mindsOf_65 : decode cX9_mindsOf 65 = .ok (.goto 17, 3) := by decide +kernel
theorem dX9_mindsOf_68 : decode cX9_mindsOf 68 = .ok (.iload_n 3, 1) := by decide +kernel
theorem dX9_mindsOf_69 : decode cX9_mindsOf 69 = .ok (.iconst 5, 1) := by decide +kernel
theorem dX9_mindsOf_70 : decode cX9_mindsOf 70 = .ok (.if_icmp .ne 10, 3) := by decide +kernel
theorem dX9_mindsOf_73 : decode cX9_mindsOf 73 = .ok (.iload 4, 2) := by decide +kernel
theorem dX9_mindsOf_75 : decode cX9_mindsOf 75 = .ok (.iconst 1, 1) := by decide +kernel
theorem dX9_mindsOf_76 : decode cX9_mindsOf 76 = .ok (.iadd, 1) := by decide +kernel
theorem dX9_mindsOf_77 : decode cX9_mindsOf 77 = .ok (.goto 5, 3) := by decide +kernel
theorem dX9_mindsOf_80 : decode cX9_mindsOf 80 = .ok (.iload 4, 2) := by decide +kernel
theorem dX9_mindsOf_82 : decode cX9_mindsOf 82 = .ok (.istore 5, 2) := by decide +kernel
theorem dX9_mindsOf_84 : decode cX9_mindsOf 84 = .ok (.iload 5, 2) := by decide +kernel
theorem dX9_mindsOf_86 : decode cX9_mindsOf 86 = .ok (.ifCond .ge 7, 3) := by decide +kernel
theorem dX9_mindsOf_89 : decode cX9_mindsOf 89 = .ok (.iconst 0, 1) := by decide +kernel
theorem dX9_mindsOf_90 : decode cX9_mindsOf 90 = .ok (.goto 5, 3) := by decide +kernel
theorem dX9_mindsOf_93 : decode cX9_mindsOf 93 = .ok (.iload 5, 2) := by decide +kernel
theorem dX9_mindsOf_95 : decode cX9_mindsOf 95 = .ok (.ireturn, 1) := by decide +kernel
theorem dX9_told_0 : decode cX9_told 0 = .ok (.iload_n 2, 1) := by decide +kernel
theorem dX9_told_1 : decode cX9_told 1 = .ok (.i2l, 1) := by decide +kernel
theorem dX9_told_2 : decode cX9_told 2 = .ok (.lconst 0, 1) := by decide +kernel
theorem dX9_told_3 : decode cX9_told 3 = .ok (.ldc2_w 121, 3) := by decide +kernel
theorem dX9_told_6 : decode cX9_told 6 = .ok (.invokestatic 88, 3) := by decide +kernel
theorem dX9_told_9 : decode cX9_told 9 = .ok (.ifCond .eq 36, 3) := by decide +kernel
theorem dX9_told_12 : decode cX9_told 12 = .ok (.iload_n 2, 1) := by decide +kernel
theorem dX9_told_13 : decode cX9_told 13 = .ok (.i2l, 1) := by decide +kernel
theorem dX9_told_14 : decode cX9_told 14 = .ok (.ldc2_w 123, 3) := by decide +kernel
theorem dX9_told_17 : decode cX9_told 17 = .ok (.ldc2_w 95, 3) := by decide +kernel
theorem dX9_told_20 : decode cX9_told 20 = .ok (.invokestatic 88, 3) := by decide +kernel
theorem dX9_told_23 : decode cX9_told 23 = .ok (.ifCond .eq 14, 3) := by decide +kernel
theorem dX9_told_26 : decode cX9_told 26 = .ok (.aload_n 0, 1) := by decide +kernel
theorem dX9_told_27 : decode cX9_told 27 = .ok (.iload_n 1, 1) := by decide +kernel
theorem dX9_told_28 : decode cX9_told 28 = .ok (.invokevirtual 109, 3) := by decide +kernel
theorem dX9_told_31 : decode cX9_told 31 = .ok (.ifCond .eq 14, 3) := by decide +kernel
theorem dX9_told_34 : decode cX9_told 34 = .ok (.goto 14, 3) := by decide +kernel
theorem dX9_told_37 : decode cX9_told 37 = .ok (.aload_n 0, 1) := by decide +kernel
theorem dX9_told_38 : decode cX9_told 38 = .ok (.iload_n 1, 1) := by decide +kernel
theorem dX9_told_39 : decode cX9_told 39 = .ok (.invokevirtual 105, 3) := by decide +kernel
theorem dX9_told_42 : decode cX9_told 42 = .ok (.ifCond .ne 6, 3) := by decide +kernel
theorem dX9_told_45 : decode cX9_told 45 = .ok (.bipush (-2), 2) := by decide +kernel
theorem dX9_told_47 : decode cX9_told 47 = .ok (.ireturn, 1) := by decide +kernel
theorem dX9_told_48 : decode cX9_told 48 = .ok (.iload_n 2, 1) := by decide +kernel
theorem dX9_told_49 : decode cX9_told 49 = .ok (.iconst 3, 1) := by decide +kernel
theorem dX9_told_50 : decode cX9_told 50 = .ok (.if_icmp .ge 37, 3) := by decide +kernel
theorem dX9_told_53 : decode cX9_told 53 = .ok (.iload_n 2, 1) := by decide +kernel
theorem dX9_told_54 : decode cX9_told 54 = .ok (.ifCond .ne 12, 3) := by decide +kernel
theorem dX9_told_57 : decode cX9_told 57 = .ok (.aload_n 0, 1) := by decide +kernel
theorem dX9_told_58 : decode cX9_told 58 = .ok (.getfield 23, 3) := by decide +kernel
theorem dX9_told_61 : decode cX9_told 61 = .ok (.iload_n 1, 1) := by decide +kernel
theorem dX9_told_62 : decode cX9_told 62 = .ok (.iaload, 1) := by decide +kernel
theorem dX9_told_63 : decode cX9_told 63 = .ok (.goto 23, 3) := by decide +kernel
theorem dX9_told_66 : decode cX9_told 66 = .ok (.iload_n 2, 1) := by decide +kernel
theorem dX9_told_67 : decode cX9_told 67 = .ok (.iconst 1, 1) := by decide +kernel
theorem dX9_told_68 : decode cX9_told 68 = .ok (.if_icmp .ne 12, 3) := by decide +kernel
theorem dX9_told_71 : decode cX9_told 71 = .ok (.aload_n 0, 1) := by decide +kernel
theorem dX9_told_72 : decode cX9_told 72 = .ok (.getfield 26, 3) := by decide +kernel
theorem dX9_told_75 : decode cX9_told 75 = .ok (.iload_n 1, 1) := by decide +kernel
theorem dX9_told_76 : decode cX9_told 76 = .ok (.iaload, 1) := by decide +kernel
theorem dX9_told_77 : decode cX9_told 77 = .ok (.goto 9, 3) := by decide +kernel
theorem dX9_told_80 : decode cX9_told 80 = .ok (.aload_n 0, 1) := by decide +kernel
theorem dX9_told_81 : decode cX9_told 81 = .ok (.getfield 29, 3) := by decide +kernel
theorem dX9_told_84 : decode cX9_told 84 = .ok (.iload_n 1, 1) := by decide +kernel
theorem dX9_told_85 : decode cX9_told 85 = .ok (.iaload, 1) := by decide +kernel
theorem dX9_told_86 : decode cX9_told 86 = .ok (.ireturn, 1) := by decide +kernel
theorem dX9_told_87 : decode cX9_told 87 = .ok (.iload_n 2, 1) := by decide +kernel
theorem dX9_told_88 : decode cX9_told 88 = .ok (.bipush 6, 2) := by decide +kernel
theorem dX9_told_90 : decode cX9_told 90 = .ok (.if_icmp .ge 38, 3) := by decide +kernel
theorem dX9_told_93 : decode cX9_told 93 = .ok (.iload_n 2, 1) := by decide +kernel
theorem dX9_told_94 : decode cX9_told 94 = .ok (.iconst 3, 1) := by decide +kernel
theorem dX9_told_95 : decode cX9_told 95 = .ok (.if_icmp .ne 12, 3) := by decide +kernel
theorem dX9_told_98 : decode cX9_told 98 = .ok (.aload_n 0, 1) := by decide +kernel
theorem dX9_told_99 : decode cX9_told 99 = .ok (.getfield 32, 3) := by decide +kernel
theorem dX9_told_102 : decode cX9_told 102 = .ok (.iload_n 1, 1) := by decide +kernel
theorem dX9_told_103 : decode cX9_told 103 = .ok (.iaload, 1) := by decide +kernel
theorem dX9_told_104 : decode cX9_told 104 = .ok (.goto 23, 3) := by decide +kernel
theorem dX9_told_107 : decode cX9_told 107 = .ok (.iload_n 2, 1) := by decide +kernel
theorem dX9_told_108 : decode cX9_told 108 = .ok (.iconst 4, 1) := by decide +kernel
theorem dX9_told_109 : decode cX9_told 109 = .ok (.if_icmp .ne 12, 3) := by decide +kernel
theorem dX9_told_112 : decode cX9_told 112 = .ok (.aload_n 0, 1) := by decide +kernel
theorem dX9_told_113 : decode cX9_told 113 = .ok (.getfield 35, 3) := by decide +kernel
theorem dX9_told_116 : decode cX9_told 116 = .ok (.iload_n 1, 1) := by decide +kernel
theorem dX9_told_117 : decode cX9_told 117 = .ok (.iaload, 1) := by decide +kernel
theorem dX9_told_118 : decode cX9_told 118 = .ok (.goto 9, 3) := by decide +kernel
theorem dX9_told_121 : decode cX9_told 121 = .ok (.aload_n 0, 1) := by decide +kernel
theorem dX9_told_122 : decode cX9_told 122 = .ok (.getfield 38, 3) := by decide +kernel
theorem dX9_told_125 : decode cX9_told 125 = .ok (.iload_n 1, 1) := by decide +kernel
theorem dX9_told_126 : decode cX9_told 126 = .ok (.iaload, 1) := by decide +kernel
theorem dX9_told_127 : decode cX9_told 127 = .ok (.ireturn, 1) := by decide +kernel
theorem dX9_told_128 : decode cX9_told 128 = .ok (.iload_n 2, 1) := by decide +kernel
theorem dX9_told_129 : decode cX9_told 129 = .ok (.bipush 6, 2) := by decide +kernel
theorem dX9_told_131 : decode cX9_told 131 = .ok (.if_icmp .ne 11, 3) := by decide +kernel
theorem dX9_told_134 : decode cX9_told 134 = .ok (.aload_n 0, 1) := by decide +kernel
theorem dX9_told_135 : decode cX9_told 135 = .ok (.iload_n 1, 1) := by decide +kernel
theorem dX9_told_136 : decode cX9_told 136 = .ok (.invokevirtual 125, 3) := by decide +kernel
theorem dX9_told_139 : decode cX9_told 139 = .ok (.goto 9, 3) := by decide +kernel
theorem dX9_told_142 : decode cX9_told 142 = .ok (.aload_n 0, 1) := by decide +kernel
theorem dX9_told_143 : decode cX9_told 143 = .ok (.iload_n 1, 1) := by decide +kernel
theorem dX9_told_144 : decode cX9_told 144 = .ok (.iconst 0, 1) := by decide +kernel
theorem dX9_told_145 : decode cX9_told 145 = .ok (.invokevirtual 129, 3) := by decide +kernel
theorem dX9_told_148 : decode cX9_told 148 = .ok (.ireturn, 1) := by decide +kernel
theorem dX9_serve_0 : decode cX9_serve 0 = .ok (.aload_n 0, 1) := by decide +kernel
theorem dX9_serve_1 : decode cX9_serve 1 = .ok (.getfield 85, 3) := by decide +kernel
theorem dX9_serve_4 : decode cX9_serve 4 = .ok (.ifCond .ne 6, 3) := by decide +kernel
theorem dX9_serve_7 : decode cX9_serve 7 = .ok (.bipush (-3), 2) := by decide +kernel
theorem dX9_serve_9 : decode cX9_serve 9 = .ok (.ireturn, 1) := by decide +kernel
theorem dX9_serve_10 : decode cX9_serve 10 = .ok (.aload_n 0, 1) := by decide +kernel
theorem dX9_serve_11 : decode cX9_serve 11 = .ok (.iconst 0, 1) := by decide +kernel
theorem dX9_serve_12 : decode cX9_serve 12 = .ok (.invokevirtual 125, 3) := by decide +kernel
theorem dX9_serve_15 : decode cX9_serve 15 = .ok (.istore_n 1, 1) := by decide +kernel
theorem dX9_serve_16 : decode cX9_serve 16 = .ok (.iconst 0, 1) := by decide +kernel
theorem dX9_serve_17 : decode cX9_serve 17 = .ok (.istore_n 2, 1) := by decide +kernel
theorem dX9_serve_18 : decode cX9_serve 18 = .ok (.iload_n 2, 1) := by decide +kernel
theorem dX9_serve_19 : decode cX9_serve 19 = .ok (.aload_n 0, 1) := by decide +kernel
theorem dX9_serve_20 : decode cX9_serve 20 = .ok (.getfield 85, 3) := by decide +kernel
theorem dX9_serve_23 : decode cX9_serve 23 = .ok (.iconst 1, 1) := by decide +kernel
theorem dX9_serve_24 : decode cX9_serve 24 = .ok (.isub, 1) := by decide +kernel
theorem dX9_serve_25 : decode cX9_serve 25 = .ok (.if_icmp .ge 51, 3) := by decide +kernel
theorem dX9_serve_28 : decode cX9_serve 28 = .ok (.aload_n 0, 1) := by decide +kernel
theorem dX9_serve_29 : decode cX9_serve 29 = .ok (.getfield 23, 3) := by decide +kernel
theorem dX9_serve_32 : decode cX9_serve 32 = .ok (.iload_n 2, 1) := by decide +kernel
theorem dX9_serve_33 : decode cX9_serve 33 = .ok (.aload_n 0, 1) := by decide +kernel
theorem dX9_serve_34 : decode cX9_serve 34 = .ok (.getfield 23, 3) := by decide +kernel
theorem dX9_serve_37 : decode cX9_serve 37 = .ok (.iload_n 2, 1) := by decide +kernel
theorem dX9_serve_38 : decode cX9_serve 38 = .ok (.iconst 1, 1) := by decide +kernel
theorem dX9_serve_39 : decode cX9_serve 39 = .ok (.iadd, 1) := by decide +kernel
theorem dX9_serve_40 : decode cX9_serve 40 = .ok (.iaload, 1) := by decide +kernel
theorem dX9_serve_41 : decode cX9_serve 41 = .ok (.iastore, 1) := by decide +kernel
theorem dX9_serve_42 : decode cX9_serve 42 = .ok (.aload_n 0, 1) := by decide +kernel
theorem dX9_serve_43 : decode cX9_serve 43 = .ok (.getfield 26, 3) := by decide +kernel
theorem dX9_serve_46 : decode cX9_serve 46 = .ok (.iload_n 2, 1) := by decide +kernel
theorem dX9_serve_47 : decode cX9_serve 47 = .ok (.aload_n 0, 1) := by decide +kernel
theorem dX9_serve_48 : decode cX9_serve 48 = .ok (.getfield 26, 3) := by decide +kernel
theorem dX9_serve_51 : decode cX9_serve 51 = .ok (.iload_n 2, 1) := by decide +kernel
theorem dX9_serve_52 : decode cX9_serve 52 = .ok (.iconst 1, 1) := by decide +kernel
theorem dX9_serve_53 : decode cX9_serve 53 = .ok (.iadd, 1) := by decide +kernel
theorem dX9_serve_54 : decode cX9_serve 54 = .ok (.iaload, 1) := by decide +kernel
theorem dX9_serve_55 : decode cX9_serve 55 = .ok (.iastore, 1) := by decide +kernel
theorem dX9_serve_56 : decode cX9_serve 56 = .ok (.aload_n 0, 1) := by decide +kernel
theorem dX9_serve_57 : decode cX9_serve 57 = .ok (.getfield 29, 3) := by decide +kernel
theorem dX9_serve_60 : decode cX9_serve 60 = .ok (.iload_n 2, 1) := by decide +kernel
theorem dX9_serve_61 : decode cX9_serve 61 = .ok (.aload_n 0, 1) := by decide +kernel
theorem dX9_serve_62 : decode cX9_serve 62 = .ok (.getfield 29, 3) := by decide +kernel
theorem dX9_serve_65 : decode cX9_serve 65 = .ok (.iload_n 2, 1) := by decide +kernel
theorem dX9_serve_66 : decode cX9_serve 66 = .ok (.iconst 1, 1) := by decide +kernel
theorem dX9_serve_67 : decode cX9_serve 67 = .ok (.iadd, 1) := by decide +kernel
theorem dX9_serve_68 : decode cX9_serve 68 = .ok (.iaload, 1) := by decide +kernel
theorem dX9_serve_69 : decode cX9_serve 69 = .ok (.iastore, 1) := by decide +kernel
theorem dX9_serve_70 : decode cX9_serve 70 = .ok (.iinc 2 1, 3) := by decide +kernel
theorem dX9_serve_73 : decode cX9_serve 73 = .ok (.goto (-55), 3) := by decide +kernel
theorem dX9_serve_76 : decode cX9_serve 76 = .ok (.aload_n 0, 1) := by decide +kernel
theorem dX9_serve_77 : decode cX9_serve 77 = .ok (.dup, 1) := by decide +kernel
theorem dX9_serve_78 : decode cX9_serve 78 = .ok (.getfield 85, 3) := by decide +kernel
theorem dX9_serve_81 : decode cX9_serve 81 = .ok (.iconst 1, 1) := by decide +kernel
theorem dX9_serve_82 : decode cX9_serve 82 = .ok (.isub, 1) := by decide +kernel
theorem dX9_serve_83 : decode cX9_serve 83 = .ok (.putfield 85, 3) := by decide +kernel
theorem dX9_serve_86 : decode cX9_serve 86 = .ok (.aload_n 0, 1) := by decide +kernel
theorem dX9_serve_87 : decode cX9_serve 87 = .ok (.aload_n 0, 1) := by decide +kernel
theorem dX9_serve_88 : decode cX9_serve 88 = .ok (.getfield 118, 3) := by decide +kernel
theorem dX9_serve_91 : decode cX9_serve 91 = .ok (.ifCond .le 12, 3) := by decide +kernel
theorem dX9_serve_94 : decode cX9_serve 94 = .ok (.aload_n 0, 1) := by decide +kernel
theorem dX9_serve_95 : decode cX9_serve 95 = .ok (.getfield 118, 3) := by decide +kernel
theorem dX9_serve_98 : decode cX9_serve 98 = .ok (.iconst 1, 1) := by decide +kernel
theorem dX9_serve_99 : decode cX9_serve 99 = .ok (.isub, 1) := by decide +kernel
theorem dX9_serve_100 : decode cX9_serve 100 = .ok (.goto 4, 3) := by decide +kernel
theorem dX9_serve_103 : decode cX9_serve 103 = .ok (.iconst 0, 1) := by decide +kernel
theorem dX9_serve_104 : decode cX9_serve 104 = .ok (.putfield 118, 3) := by decide +kernel
theorem dX9_serve_107 : decode cX9_serve 107 = .ok (.aload_n 0, 1) := by decide +kernel
theorem dX9_serve_108 : decode cX9_serve 108 = .ok (.dup, 1) := by decide +kernel
theorem dX9_serve_109 : decode cX9_serve 109 = .ok (.getfield 133, 3) := by decide +kernel
theorem dX9_serve_112 : decode cX9_serve 112 = .ok (.iconst 1, 1) := by decide +kernel
theorem dX9_serve_113 : decode cX9_serve 113 = .ok (.iadd, 1) := by decide +kernel
theorem dX9_serve_114 : decode cX9_serve 114 = .ok (.putfield 133, 3) := by decide +kernel
theorem dX9_serve_117 : decode cX9_serve 117 = .ok (.iload_n 1, 1) := by decide +kernel
theorem dX9_serve_118 : decode cX9_serve 118 = .ok (.ireturn, 1) := by decide +kernel
-- KeepOurPlaceModel.either
def F9_either_j44 (rc : Nat → Mem → Option (Int32 × Mem)) (rec5 : Mem → Int32 → Option (Int32 × Mem)) (M : Mem) (y0 : Int32) : Option (Int32 × Mem) :=
    rec5 M y0
def F9_either_j39 (rc : Nat → Mem → Option (Int32 × Mem)) (rec5 : Mem → Int32 → Option (Int32 × Mem)) (M : Mem) : Option (Int32 × Mem) :=
    F9_either_j44 rc rec5 M (1 : Int32)
def F9_either_l5_b (rc : Nat → Mem → Option (Int32 × Mem)) (rec5 : Mem → Int32 → Option (Int32 × Mem)) (M : Mem) (x1 : Int32) : Option (Int32 × Mem) :=
    Option.bind (F9_isWord M (111 : Int32) (114 : Int32) (0 : Int32) (0 : Int32) (0 : Int32) (0 : Int32) (0 : Int32) (0 : Int32)) fun r3 =>
    if r3.1 = 0 then
      some (x1, r3.2)
    else
      Option.bind (F9_next r3.2) fun r6 =>
      Option.bind (rc 1 r6.2) fun r8 =>
      if ¬ x1 = 0 then
        F9_either_j39 rc rec5 r8.2
      else
        if r8.1 = 0 then
          F9_either_j44 rc rec5 r8.2 (0 : Int32)
        else
          F9_either_j39 rc rec5 r8.2
def F9_either_l5 (rc : Nat → Mem → Option (Int32 × Mem)) : Nat → Mem → Int32 → Option (Int32 × Mem)
  | 0, _, _ => none
  | fu + 1, M, x1 => F9_either_l5_b rc (F9_either_l5 rc fu) M x1
def F9_either (rc : Nat → Mem → Option (Int32 × Mem)) (M : Mem) : Option (Int32 × Mem) :=
    Option.bind (rc 1 M) fun r1 =>
    F9_either_l5 rc FUEL r1.2 r1.1
-- KeepOurPlaceModel.both
def F9_both_j45 (rc : Nat → Mem → Option (Int32 × Mem)) (rec5 : Mem → Int32 → Option (Int32 × Mem)) (M : Mem) (y0 : Int32) : Option (Int32 × Mem) :=
    rec5 M y0
def F9_both_j44 (rc : Nat → Mem → Option (Int32 × Mem)) (rec5 : Mem → Int32 → Option (Int32 × Mem)) (M : Mem) : Option (Int32 × Mem) :=
    F9_both_j45 rc rec5 M (0 : Int32)
def F9_both_l5_b (rc : Nat → Mem → Option (Int32 × Mem)) (rec5 : Mem → Int32 → Option (Int32 × Mem)) (M : Mem) (x1 : Int32) : Option (Int32 × Mem) :=
    Option.bind (F9_isWord M (97 : Int32) (110 : Int32) (100 : Int32) (0 : Int32) (0 : Int32) (0 : Int32) (0 : Int32) (0 : Int32)) fun r3 =>
    if r3.1 = 0 then
      some (x1, r3.2)
    else
      Option.bind (F9_next r3.2) fun r6 =>
      Option.bind (rc 2 r6.2) fun r8 =>
      if x1 = 0 then
        F9_both_j44 rc rec5 r8.2
      else
        if r8.1 = 0 then
          F9_both_j44 rc rec5 r8.2
        else
          F9_both_j45 rc rec5 r8.2 (1 : Int32)
def F9_both_l5 (rc : Nat → Mem → Option (Int32 × Mem)) : Nat → Mem → Int32 → Option (Int32 × Mem)
  | 0, _, _ => none
  | fu + 1, M, x1 => F9_both_l5_b rc (F9_both_l5 rc fu) M x1
def F9_both (rc : Nat → Mem → Option (Int32 × Mem)) (M : Mem) : Option (Int32 × Mem) :=
    Option.bind (rc 2 M) fun r1 =>
    F9_both_l5 rc FUEL r1.2 r1.1
-- KeepOurPlaceModel.not
def F9_not_j93 (rc : Nat → Mem → Option (Int32 × Mem)) (M : Mem) (x1 : Int32) (y0 : Int32) : Option (Int32 × Mem) :=
    Option.bind (F9_next M) fun r19 =>
    Option.bind (rc 3 r19.2) fun r21 =>
    if y0 = 0 then
      if ¬ x1 = r21.1 then
        some ((0 : Int32), r21.2)
      else
        some ((1 : Int32), r21.2)
    else
      if r21.1 ≤ x1 then
        some ((0 : Int32), r21.2)
      else
        some ((1 : Int32), r21.2)
def F9_not_j77 (rc : Nat → Mem → Option (Int32 × Mem)) (M : Mem) (x1 : Int32) : Option (Int32 × Mem) :=
    if ¬ (lg_cmp (gL M 0 28) (60 : Int64)) = 0 then
      F9_not_j93 rc M x1 (0 : Int32)
    else
      F9_not_j93 rc M x1 (1 : Int32)
def F9_not (rc : Nat → Mem → Option (Int32 × Mem)) (M : Mem) : Option (Int32 × Mem) :=
    Option.bind (F9_isWord M (110 : Int32) (111 : Int32) (116 : Int32) (0 : Int32) (0 : Int32) (0 : Int32) (0 : Int32) (0 : Int32)) fun r1 =>
    if r1.1 = 0 then
      Option.bind (rc 3 r1.2) fun r4 =>
      Option.bind (F9_isSign r4.2 (60 : Int32)) fun r6 =>
      if ¬ r6.1 = 0 then
        F9_not_j77 rc r6.2 r4.1
      else
        Option.bind (F9_isSign r6.2 (61 : Int32)) fun r9 =>
        if ¬ r9.1 = 0 then
          F9_not_j77 rc r9.2 r4.1
        else
          some (r4.1, r9.2)
    else
      Option.bind (F9_opens r1.2) fun r12 =>
      if ¬ r12.1 = 0 then
        Option.bind (rc 2 r12.2) fun r15 =>
        if ¬ r15.1 = 0 then
          some ((0 : Int32), (up2 r15.2 0 29 ((r15.2 0 29) - (1 : Int32))))
        else
          some ((1 : Int32), (up2 r15.2 0 29 ((r15.2 0 29) - (1 : Int32))))
      else
        some ((0 : Int32), r12.2)
-- KeepOurPlaceModel.added
def F9_added_j62 (rc : Nat → Mem → Option (Int32 × Mem)) (rec5 : Mem → Int32 → Option (Int32 × Mem)) (M : Mem) (y0 : Int32) : Option (Int32 × Mem) :=
    rec5 M y0
def F9_added_j39 (rc : Nat → Mem → Option (Int32 × Mem)) (rec5 : Mem → Int32 → Option (Int32 × Mem)) (M : Mem) (x1 : Int32) (y0 : Int32) : Option (Int32 × Mem) :=
    Option.bind (F9_next M) fun r10 =>
    Option.bind (rc 4 r10.2) fun r12 =>
    if y0 = 0 then
      F9_added_j62 rc rec5 r12.2 (x1 - r12.1)
    else
      F9_added_j62 rc rec5 r12.2 (x1 + r12.1)
def F9_added_j23 (rc : Nat → Mem → Option (Int32 × Mem)) (rec5 : Mem → Int32 → Option (Int32 × Mem)) (M : Mem) (x1 : Int32) : Option (Int32 × Mem) :=
    if ¬ (lg_cmp (gL M 0 28) (43 : Int64)) = 0 then
      F9_added_j39 rc rec5 M x1 (0 : Int32)
    else
      F9_added_j39 rc rec5 M x1 (1 : Int32)
def F9_added_l5_b (rc : Nat → Mem → Option (Int32 × Mem)) (rec5 : Mem → Int32 → Option (Int32 × Mem)) (M : Mem) (x1 : Int32) : Option (Int32 × Mem) :=
    Option.bind (F9_isSign M (43 : Int32)) fun r3 =>
    if ¬ r3.1 = 0 then
      F9_added_j23 rc rec5 r3.2 x1
    else
      Option.bind (F9_isSign r3.2 (45 : Int32)) fun r6 =>
      if r6.1 = 0 then
        some (x1, r6.2)
      else
        F9_added_j23 rc rec5 r6.2 x1
def F9_added_l5 (rc : Nat → Mem → Option (Int32 × Mem)) : Nat → Mem → Int32 → Option (Int32 × Mem)
  | 0, _, _ => none
  | fu + 1, M, x1 => F9_added_l5_b rc (F9_added_l5 rc fu) M x1
def F9_added (rc : Nat → Mem → Option (Int32 × Mem)) (M : Mem) : Option (Int32 × Mem) :=
    Option.bind (rc 4 M) fun r1 =>
    F9_added_l5 rc FUEL r1.2 r1.1
-- KeepOurPlaceModel.term
def F9_term_l5_b (rc : Nat → Mem → Option (Int32 × Mem)) (rec5 : Mem → Int32 → Option (Int32 × Mem)) (M : Mem) (x1 : Int32) : Option (Int32 × Mem) :=
    Option.bind (F9_isSign M (42 : Int32)) fun r3 =>
    if r3.1 = 0 then
      some (x1, r3.2)
    else
      Option.bind (F9_next r3.2) fun r6 =>
      Option.bind (rc 5 r6.2) fun r8 =>
      rec5 r8.2 (x1 * r8.1)
def F9_term_l5 (rc : Nat → Mem → Option (Int32 × Mem)) : Nat → Mem → Int32 → Option (Int32 × Mem)
  | 0, _, _ => none
  | fu + 1, M, x1 => F9_term_l5_b rc (F9_term_l5 rc fu) M x1
def F9_term (rc : Nat → Mem → Option (Int32 × Mem)) (M : Mem) : Option (Int32 × Mem) :=
    Option.bind (rc 5 M) fun r1 =>
    F9_term_l5 rc FUEL r1.2 r1.1
-- KeepOurPlaceModel.atom
def F9_atom_j157 (rc : Nat → Mem → Option (Int32 × Mem)) (M : Mem) (x1 : Int32) : Option (Int32 × Mem) :=
    Option.bind (F9_fail M) fun r36 =>
    some (x1, r36.2)
def F9_atom_j123 (rc : Nat → Mem → Option (Int32 × Mem)) (M : Mem) (x1 : Int32) : Option (Int32 × Mem) :=
    if ¬ (M 0 30) = 0 then
      F9_atom_j157 rc M x1
    else
      if ¬ (M 0 26) = (1 : Int32) then
        F9_atom_j157 rc M x1
      else
        Option.bind (F9_name M) fun r31 =>
        if ¬ (r31.2 0 30) = 0 then
          some (r31.1, r31.2)
        else
          Option.bind (F9_next r31.2) fun r34 =>
          some (r31.1, r34.2)
def F9_atom_j71 (rc : Nat → Mem → Option (Int32 × Mem)) (M : Mem) (x1 : Int32) : Option (Int32 × Mem) :=
    if ¬ (M 0 30) = 0 then
      some (x1, (up2 M 0 29 ((M 0 29) - (1 : Int32))))
    else
      Option.bind (F9_next (up2 M 0 29 ((M 0 29) - (1 : Int32)))) fun r27 =>
      some (x1, r27.2)
def F9_atom (rc : Nat → Mem → Option (Int32 × Mem)) (M : Mem) : Option (Int32 × Mem) :=
    Option.bind (F9_isSign M (45 : Int32)) fun r1 =>
    if r1.1 = 0 then
      Option.bind (F9_isSign r1.2 (40 : Int32)) fun r4 =>
      if r4.1 = 0 then
        if ¬ (r4.2 0 30) = 0 then
          F9_atom_j123 rc r4.2 (0 : Int32)
        else
          if ¬ (r4.2 0 26) = (2 : Int32) then
            F9_atom_j123 rc r4.2 (0 : Int32)
          else
            Option.bind (F9_next r4.2) fun r9 =>
            some ((Int64.toInt32 (gL r4.2 0 28)), r9.2)
      else
        Option.bind (F9_opens r4.2) fun r11 =>
        if r11.1 = 0 then
          some ((0 : Int32), r11.2)
        else
          Option.bind (rc 0 r11.2) fun r14 =>
          Option.bind (F9_isSign r14.2 (41 : Int32)) fun r16 =>
          if ¬ r16.1 = 0 then
            F9_atom_j71 rc r16.2 r14.1
          else
            Option.bind (F9_fail r16.2) fun r19 =>
            F9_atom_j71 rc r19.2 r14.1
    else
      Option.bind (F9_opens r1.2) fun r21 =>
      if r21.1 = 0 then
        some ((0 : Int32), r21.2)
      else
        Option.bind (rc 5 r21.2) fun r24 =>
        some ((-r24.1), (up2 r24.2 0 29 ((r24.2 0 29) - (1 : Int32))))
set_option maxRecDepth 20000 in
theorem F9_either_j44_ok {p : Program} {l : Launch} {e : Env} {s : State} {m : MethodId} {args : Array Value} {below : List Frame} {meth : Method} {c : Code} {G : GG} {D : Nat} {r : Int32 × Mem} {rc : Nat → Mem → Option (Int32 × Mem)} {rec5 : Mem → Int32 → Option (Int32 × Mem)} (F : FrP shB G p s m args c RX9 cX9_either 3) (hr : meth.sig.returnType = (some .int)) (hlk : meth.locks = false) (hD : 5 ≤ D) (hrc : (∀ (M : Mem) (r : Int32 × Mem), rc 0 M = some r → MetX shB l G yX9_either cX9_either 3 (some .int) (D - 1) [.ref 0] M (some (.int r.1), r.2)) ∧ (∀ (M : Mem) (r : Int32 × Mem), rc 1 M = some r → MetX shB l G yX9_both cX9_both 3 (some .int) (D - 1) [.ref 0] M (some (.int r.1), r.2)) ∧ (∀ (M : Mem) (r : Int32 × Mem), rc 2 M = some r → MetX shB l G yX9_not cX9_not 4 (some .int) (D - 1) [.ref 0] M (some (.int r.1), r.2)) ∧ (∀ (M : Mem) (r : Int32 × Mem), rc 3 M = some r → MetX shB l G yX9_added cX9_added 4 (some .int) (D - 1) [.ref 0] M (some (.int r.1), r.2)) ∧ (∀ (M : Mem) (r : Int32 × Mem), rc 4 M = some r → MetX shB l G yX9_term cX9_term 2 (some .int) (D - 1) [.ref 0] M (some (.int r.1), r.2)) ∧ (∀ (M : Mem) (r : Int32 × Mem), rc 5 M = some r → MetX shB l G yX9_atom cX9_atom 2 (some .int) (D - 1) [.ref 0] M (some (.int r.1), r.2))) (hrec5 : ∀ (M : Mem) (x1 : Int32), rec5 M x1 = some r → XJ shB p l e (rmX D) s m args below meth c 0 0 G 3 (MQ below (QcX shB G ((some (.int r.1), r.2) : Option Value × Mem).1 ((some (.int r.1), r.2) : Option Value × Mem).2) args s 0 0 (AW shB G.2.1)) 5 [(0, .ref 0), (1, .int x1)] [] M) {M : Mem} {y0 : Int32} (h : F9_either_j44 rc rec5 M y0 = some r) : XJ shB p l e (rmX D) s m args below meth c 0 0 G 3 (MQ below (QcX shB G ((some (.int r.1), r.2) : Option Value × Mem).1 ((some (.int r.1), r.2) : Option Value × Mem).2) args s 0 0 (AW shB G.2.1)) 44 [(0, .ref 0)] [.int y0] M := by
  unfold F9_either_j44 at h
  refine X_istore_n F dX9_either_44 (by decide) rfl ?_
  refine X_goto (tgt := 5) F dX9_either_45 (by decide) ?_
  refine X_pick [1, 0] rfl ?_
  exact hrec5 _ _ h
set_option maxRecDepth 20000 in
theorem F9_either_j39_ok {p : Program} {l : Launch} {e : Env} {s : State} {m : MethodId} {args : Array Value} {below : List Frame} {meth : Method} {c : Code} {G : GG} {D : Nat} {r : Int32 × Mem} {rc : Nat → Mem → Option (Int32 × Mem)} {rec5 : Mem → Int32 → Option (Int32 × Mem)} (F : FrP shB G p s m args c RX9 cX9_either 3) (hr : meth.sig.returnType = (some .int)) (hlk : meth.locks = false) (hD : 5 ≤ D) (hrc : (∀ (M : Mem) (r : Int32 × Mem), rc 0 M = some r → MetX shB l G yX9_either cX9_either 3 (some .int) (D - 1) [.ref 0] M (some (.int r.1), r.2)) ∧ (∀ (M : Mem) (r : Int32 × Mem), rc 1 M = some r → MetX shB l G yX9_both cX9_both 3 (some .int) (D - 1) [.ref 0] M (some (.int r.1), r.2)) ∧ (∀ (M : Mem) (r : Int32 × Mem), rc 2 M = some r → MetX shB l G yX9_not cX9_not 4 (some .int) (D - 1) [.ref 0] M (some (.int r.1), r.2)) ∧ (∀ (M : Mem) (r : Int32 × Mem), rc 3 M = some r → MetX shB l G yX9_added cX9_added 4 (some .int) (D - 1) [.ref 0] M (some (.int r.1), r.2)) ∧ (∀ (M : Mem) (r : Int32 × Mem), rc 4 M = some r → MetX shB l G yX9_term cX9_term 2 (some .int) (D - 1) [.ref 0] M (some (.int r.1), r.2)) ∧ (∀ (M : Mem) (r : Int32 × Mem), rc 5 M = some r → MetX shB l G yX9_atom cX9_atom 2 (some .int) (D - 1) [.ref 0] M (some (.int r.1), r.2))) (hrec5 : ∀ (M : Mem) (x1 : Int32), rec5 M x1 = some r → XJ shB p l e (rmX D) s m args below meth c 0 0 G 3 (MQ below (QcX shB G ((some (.int r.1), r.2) : Option Value × Mem).1 ((some (.int r.1), r.2) : Option Value × Mem).2) args s 0 0 (AW shB G.2.1)) 5 [(0, .ref 0), (1, .int x1)] [] M) {M : Mem} (h : F9_either_j39 rc rec5 M = some r) : XJ shB p l e (rmX D) s m args below meth c 0 0 G 3 (MQ below (QcX shB G ((some (.int r.1), r.2) : Option Value × Mem).1 ((some (.int r.1), r.2) : Option Value × Mem).2) args s 0 0 (AW shB G.2.1)) 39 [(0, .ref 0)] [] M := by
  unfold F9_either_j39 at h
  refine X_iconst F dX9_either_39 (v := (1 : Int32)) rfl ?_
  refine X_goto (tgt := 44) F dX9_either_40 (by decide) ?_
  exact F9_either_j44_ok F hr hlk hD hrc hrec5 h
set_option maxRecDepth 20000 in
theorem F9_either_l5_bok {p : Program} {l : Launch} {e : Env} {s : State} {m : MethodId} {args : Array Value} {below : List Frame} {meth : Method} {c : Code} {G : GG} {D : Nat} {r : Int32 × Mem} {rc : Nat → Mem → Option (Int32 × Mem)} {rec5 : Mem → Int32 → Option (Int32 × Mem)} (F : FrP shB G p s m args c RX9 cX9_either 3) (hr : meth.sig.returnType = (some .int)) (hlk : meth.locks = false) (hD : 5 ≤ D) (hrc : (∀ (M : Mem) (r : Int32 × Mem), rc 0 M = some r → MetX shB l G yX9_either cX9_either 3 (some .int) (D - 1) [.ref 0] M (some (.int r.1), r.2)) ∧ (∀ (M : Mem) (r : Int32 × Mem), rc 1 M = some r → MetX shB l G yX9_both cX9_both 3 (some .int) (D - 1) [.ref 0] M (some (.int r.1), r.2)) ∧ (∀ (M : Mem) (r : Int32 × Mem), rc 2 M = some r → MetX shB l G yX9_not cX9_not 4 (some .int) (D - 1) [.ref 0] M (some (.int r.1), r.2)) ∧ (∀ (M : Mem) (r : Int32 × Mem), rc 3 M = some r → MetX shB l G yX9_added cX9_added 4 (some .int) (D - 1) [.ref 0] M (some (.int r.1), r.2)) ∧ (∀ (M : Mem) (r : Int32 × Mem), rc 4 M = some r → MetX shB l G yX9_term cX9_term 2 (some .int) (D - 1) [.ref 0] M (some (.int r.1), r.2)) ∧ (∀ (M : Mem) (r : Int32 × Mem), rc 5 M = some r → MetX shB l G yX9_atom cX9_atom 2 (some .int) (D - 1) [.ref 0] M (some (.int r.1), r.2))) (hrec5 : ∀ (M : Mem) (x1 : Int32), rec5 M x1 = some r → XJ shB p l e (rmX D) s m args below meth c 0 0 G 3 (MQ below (QcX shB G ((some (.int r.1), r.2) : Option Value × Mem).1 ((some (.int r.1), r.2) : Option Value × Mem).2) args s 0 0 (AW shB G.2.1)) 5 [(0, .ref 0), (1, .int x1)] [] M) {M : Mem} {x1 : Int32} (h : F9_either_l5_b rc rec5 M x1 = some r) : XJ shB p l e (rmX D) s m args below meth c 0 0 G 3 (MQ below (QcX shB G ((some (.int r.1), r.2) : Option Value × Mem).1 ((some (.int r.1), r.2) : Option Value × Mem).2) args s 0 0 (AW shB G.2.1)) 5 [(0, .ref 0), (1, .int x1)] [] M := by
  unfold F9_either_l5_b at h
  refine X_aload_n F dX9_either_5 rfl ?_
  refine X_bipush F dX9_either_6 (v := (111 : Int32)) rfl ?_
  refine X_bipush F dX9_either_8 (v := (114 : Int32)) rfl ?_
  refine X_iconst F dX9_either_10 (v := (0 : Int32)) rfl ?_
  refine X_iconst F dX9_either_11 (v := (0 : Int32)) rfl ?_
  refine X_iconst F dX9_either_12 (v := (0 : Int32)) rfl ?_
  refine X_iconst F dX9_either_13 (v := (0 : Int32)) rfl ?_
  refine X_iconst F dX9_either_14 (v := (0 : Int32)) rfl ?_
  refine X_iconst F dX9_either_15 (v := (0 : Int32)) rfl ?_
  obtain ⟨r3, h4, h⟩ := bndS h
  refine X_callV (ci := 0) (As := [.int (111 : Int32), .int (114 : Int32), .int (0 : Int32), .int (0 : Int32), .int (0 : Int32), .int (0 : Int32), .int (0 : Int32), .int (0 : Int32)]) (rest := []) F fkRX9_193 feX9_isWord fvX9_isWord ⟨_, _, _, rfl, rfl, rfl⟩ (F9_isWord_met (D := D - 1) F.2.2.2.2.2.2.2.1 (by omega) h4) rfl rfl (Nat.le_of_ble_eq_true rfl) (rm_ok (by omega) (by decide)) dX9_either_16 ?_
  show XJ shB p l e (rmX D) s m args below meth c 0 0 G 3 (MQ below (QcX shB G ((some (.int r.1), r.2) : Option Value × Mem).1 ((some (.int r.1), r.2) : Option Value × Mem).2) args s 0 0 (AW shB G.2.1)) 19 [(0, .ref 0), (1, .int x1)] [.int r3.1] r3.2
  refine X_if_eq (tgt := 48) F dX9_either_19 (by decide) (fun q5 => ?_) (fun q5 => ?_)
  · rw [if_pos q5] at h
    refine X_iload_n F dX9_either_48 rfl ?_
    exact X_iret F hr hlk (retI h) dX9_either_49
  · rw [if_neg q5] at h
    refine X_aload_n F dX9_either_22 rfl ?_
    obtain ⟨r6, h7, h⟩ := bndS h
    refine X_callV (ci := 0) (As := []) (rest := []) F fkRX9_190 feX9_next fvX9_next ⟨_, _, _, rfl, rfl, rfl⟩ (F9_next_met (D := D - 1) F.2.2.2.2.2.2.2.1 (by omega) h7) rfl rfl (Nat.le_of_ble_eq_true rfl) (rm_ok (by omega) (by decide)) dX9_either_23 ?_
    show XJ shB p l e (rmX D) s m args below meth c 0 0 G 3 (MQ below (QcX shB G ((some (.int r.1), r.2) : Option Value × Mem).1 ((some (.int r.1), r.2) : Option Value × Mem).2) args s 0 0 (AW shB G.2.1)) 26 [(0, .ref 0), (1, .int x1)] [] r6.2
    refine X_aload_n F dX9_either_26 rfl ?_
    obtain ⟨r8, h9, h⟩ := bndS h
    refine X_callV (ci := 0) (As := []) (rest := []) F fkRX9_245 feX9_both fvX9_both ⟨_, _, _, rfl, rfl, rfl⟩ (hrc.2.1 _ _ h9) rfl rfl (Nat.le_of_ble_eq_true rfl) (rm_ok (by omega) (by decide)) dX9_either_27 ?_
    show XJ shB p l e (rmX D) s m args below meth c 0 0 G 3 (MQ below (QcX shB G ((some (.int r.1), r.2) : Option Value × Mem).1 ((some (.int r.1), r.2) : Option Value × Mem).2) args s 0 0 (AW shB G.2.1)) 30 [(0, .ref 0), (1, .int x1)] [.int r8.1] r8.2
    refine X_istore_n F dX9_either_30 (by decide) rfl ?_
    refine X_iload_n F dX9_either_31 rfl ?_
    refine X_if_ne (tgt := 39) F dX9_either_32 (by decide) (fun q10 => ?_) (fun q10 => ?_)
    · rw [if_pos q10] at h
      refine X_pick [1] rfl ?_
      exact F9_either_j39_ok F hr hlk hD hrc hrec5 h
    · rw [if_neg (fun z => z q10)] at h
      refine X_iload_n F dX9_either_35 rfl ?_
      refine X_if_eq (tgt := 43) F dX9_either_36 (by decide) (fun q11 => ?_) (fun q11 => ?_)
      · rw [if_pos q11] at h
        refine X_iconst F dX9_either_43 (v := (0 : Int32)) rfl ?_
        refine X_pick [1] rfl ?_
        exact F9_either_j44_ok F hr hlk hD hrc hrec5 h
      · rw [if_neg q11] at h
        refine X_pick [1] rfl ?_
        exact F9_either_j39_ok F hr hlk hD hrc hrec5 h
set_option maxRecDepth 20000 in
theorem F9_either_l5_ok {p : Program} {l : Launch} {e : Env} {s : State} {m : MethodId} {args : Array Value} {below : List Frame} {meth : Method} {c : Code} {G : GG} {D : Nat} {r : Int32 × Mem} {rc : Nat → Mem → Option (Int32 × Mem)} (F : FrP shB G p s m args c RX9 cX9_either 3) (hr : meth.sig.returnType = (some .int)) (hlk : meth.locks = false) (hD : 5 ≤ D) (hrc : (∀ (M : Mem) (r : Int32 × Mem), rc 0 M = some r → MetX shB l G yX9_either cX9_either 3 (some .int) (D - 1) [.ref 0] M (some (.int r.1), r.2)) ∧ (∀ (M : Mem) (r : Int32 × Mem), rc 1 M = some r → MetX shB l G yX9_both cX9_both 3 (some .int) (D - 1) [.ref 0] M (some (.int r.1), r.2)) ∧ (∀ (M : Mem) (r : Int32 × Mem), rc 2 M = some r → MetX shB l G yX9_not cX9_not 4 (some .int) (D - 1) [.ref 0] M (some (.int r.1), r.2)) ∧ (∀ (M : Mem) (r : Int32 × Mem), rc 3 M = some r → MetX shB l G yX9_added cX9_added 4 (some .int) (D - 1) [.ref 0] M (some (.int r.1), r.2)) ∧ (∀ (M : Mem) (r : Int32 × Mem), rc 4 M = some r → MetX shB l G yX9_term cX9_term 2 (some .int) (D - 1) [.ref 0] M (some (.int r.1), r.2)) ∧ (∀ (M : Mem) (r : Int32 × Mem), rc 5 M = some r → MetX shB l G yX9_atom cX9_atom 2 (some .int) (D - 1) [.ref 0] M (some (.int r.1), r.2))) : ∀ (fu : Nat) (M : Mem) (x1 : Int32), F9_either_l5 rc fu M x1 = some r → XJ shB p l e (rmX D) s m args below meth c 0 0 G 3 (MQ below (QcX shB G ((some (.int r.1), r.2) : Option Value × Mem).1 ((some (.int r.1), r.2) : Option Value × Mem).2) args s 0 0 (AW shB G.2.1)) 5 [(0, .ref 0), (1, .int x1)] [] M := by
  intro fu
  induction fu with
  | zero => intro M x1 h; cases h
  | succ fu ih => intro M x1 h; exact F9_either_l5_bok F hr hlk hD hrc (fun M x1 => ih M x1) h
set_option maxRecDepth 20000 in
theorem F9_either_ok {p : Program} {l : Launch} {e : Env} {s : State} {m : MethodId} {args : Array Value} {below : List Frame} {meth : Method} {c : Code} {G : GG} {D : Nat} {r : Int32 × Mem} {rc : Nat → Mem → Option (Int32 × Mem)} (F : FrP shB G p s m args c RX9 cX9_either 3) (hr : meth.sig.returnType = (some .int)) (hlk : meth.locks = false) (hD : 5 ≤ D) (hrc : (∀ (M : Mem) (r : Int32 × Mem), rc 0 M = some r → MetX shB l G yX9_either cX9_either 3 (some .int) (D - 1) [.ref 0] M (some (.int r.1), r.2)) ∧ (∀ (M : Mem) (r : Int32 × Mem), rc 1 M = some r → MetX shB l G yX9_both cX9_both 3 (some .int) (D - 1) [.ref 0] M (some (.int r.1), r.2)) ∧ (∀ (M : Mem) (r : Int32 × Mem), rc 2 M = some r → MetX shB l G yX9_not cX9_not 4 (some .int) (D - 1) [.ref 0] M (some (.int r.1), r.2)) ∧ (∀ (M : Mem) (r : Int32 × Mem), rc 3 M = some r → MetX shB l G yX9_added cX9_added 4 (some .int) (D - 1) [.ref 0] M (some (.int r.1), r.2)) ∧ (∀ (M : Mem) (r : Int32 × Mem), rc 4 M = some r → MetX shB l G yX9_term cX9_term 2 (some .int) (D - 1) [.ref 0] M (some (.int r.1), r.2)) ∧ (∀ (M : Mem) (r : Int32 × Mem), rc 5 M = some r → MetX shB l G yX9_atom cX9_atom 2 (some .int) (D - 1) [.ref 0] M (some (.int r.1), r.2))) {M : Mem} (h : F9_either rc M = some r) : XJ shB p l e (rmX D) s m args below meth c 0 0 G 3 (MQ below (QcX shB G ((some (.int r.1), r.2) : Option Value × Mem).1 ((some (.int r.1), r.2) : Option Value × Mem).2) args s 0 0 (AW shB G.2.1)) 0 [(0, .ref 0)] [] M := by
  unfold F9_either at h
  refine X_aload_n F dX9_either_0 rfl ?_
  obtain ⟨r1, h2, h⟩ := bndS h
  refine X_callV (ci := 0) (As := []) (rest := []) F fkRX9_245 feX9_both fvX9_both ⟨_, _, _, rfl, rfl, rfl⟩ (hrc.2.1 _ _ h2) rfl rfl (Nat.le_of_ble_eq_true rfl) (rm_ok (by omega) (by decide)) dX9_either_1 ?_
  show XJ shB p l e (rmX D) s m args below meth c 0 0 G 3 (MQ below (QcX shB G ((some (.int r.1), r.2) : Option Value × Mem).1 ((some (.int r.1), r.2) : Option Value × Mem).2) args s 0 0 (AW shB G.2.1)) 4 [(0, .ref 0)] [.int r1.1] r1.2
  refine X_istore_n F dX9_either_4 (by decide) rfl ?_
  refine X_pick [1, 0] rfl ?_
  exact F9_either_l5_ok F hr hlk hD hrc FUEL _ _ h
set_option maxRecDepth 20000 in
theorem F9_both_j45_ok {p : Program} {l : Launch} {e : Env} {s : State} {m : MethodId} {args : Array Value} {below : List Frame} {meth : Method} {c : Code} {G : GG} {D : Nat} {r : Int32 × Mem} {rc : Nat → Mem → Option (Int32 × Mem)} {rec5 : Mem → Int32 → Option (Int32 × Mem)} (F : FrP shB G p s m args c RX9 cX9_both 3) (hr : meth.sig.returnType = (some .int)) (hlk : meth.locks = false) (hD : 5 ≤ D) (hrc : (∀ (M : Mem) (r : Int32 × Mem), rc 0 M = some r → MetX shB l G yX9_either cX9_either 3 (some .int) (D - 1) [.ref 0] M (some (.int r.1), r.2)) ∧ (∀ (M : Mem) (r : Int32 × Mem), rc 1 M = some r → MetX shB l G yX9_both cX9_both 3 (some .int) (D - 1) [.ref 0] M (some (.int r.1), r.2)) ∧ (∀ (M : Mem) (r : Int32 × Mem), rc 2 M = some r → MetX shB l G yX9_not cX9_not 4 (some .int) (D - 1) [.ref 0] M (some (.int r.1), r.2)) ∧ (∀ (M : Mem) (r : Int32 × Mem), rc 3 M = some r → MetX shB l G yX9_added cX9_added 4 (some .int) (D - 1) [.ref 0] M (some (.int r.1), r.2)) ∧ (∀ (M : Mem) (r : Int32 × Mem), rc 4 M = some r → MetX shB l G yX9_term cX9_term 2 (some .int) (D - 1) [.ref 0] M (some (.int r.1), r.2)) ∧ (∀ (M : Mem) (r : Int32 × Mem), rc 5 M = some r → MetX shB l G yX9_atom cX9_atom 2 (some .int) (D - 1) [.ref 0] M (some (.int r.1), r.2))) (hrec5 : ∀ (M : Mem) (x1 : Int32), rec5 M x1 = some r → XJ shB p l e (rmX D) s m args below meth c 0 0 G 3 (MQ below (QcX shB G ((some (.int r.1), r.2) : Option Value × Mem).1 ((some (.int r.1), r.2) : Option Value × Mem).2) args s 0 0 (AW shB G.2.1)) 5 [(0, .ref 0), (1, .int x1)] [] M) {M : Mem} {y0 : Int32} (h : F9_both_j45 rc rec5 M y0 = some r) : XJ shB p l e (rmX D) s m args below meth c 0 0 G 3 (MQ below (QcX shB G ((some (.int r.1), r.2) : Option Value × Mem).1 ((some (.int r.1), r.2) : Option Value × Mem).2) args s 0 0 (AW shB G.2.1)) 45 [(0, .ref 0)] [.int y0] M := by
  unfold F9_both_j45 at h
  refine X_istore_n F dX9_both_45 (by decide) rfl ?_
  refine X_goto (tgt := 5) F dX9_both_46 (by decide) ?_
  refine X_pick [1, 0] rfl ?_
  exact hrec5 _ _ h
set_option maxRecDepth 20000 in
theorem F9_both_j44_ok {p : Program} {l : Launch} {e : Env} {s : State} {m : MethodId} {args : Array Value} {below : List Frame} {meth : Method} {c : Code} {G : GG} {D : Nat} {r : Int32 × Mem} {rc : Nat → Mem → Option (Int32 × Mem)} {rec5 : Mem → Int32 → Option (Int32 × Mem)} (F : FrP shB G p s m args c RX9 cX9_both 3) (hr : meth.sig.returnType = (some .int)) (hlk : meth.locks = false) (hD : 5 ≤ D) (hrc : (∀ (M : Mem) (r : Int32 × Mem), rc 0 M = some r → MetX shB l G yX9_either cX9_either 3 (some .int) (D - 1) [.ref 0] M (some (.int r.1), r.2)) ∧ (∀ (M : Mem) (r : Int32 × Mem), rc 1 M = some r → MetX shB l G yX9_both cX9_both 3 (some .int) (D - 1) [.ref 0] M (some (.int r.1), r.2)) ∧ (∀ (M : Mem) (r : Int32 × Mem), rc 2 M = some r → MetX shB l G yX9_not cX9_not 4 (some .int) (D - 1) [.ref 0] M (some (.int r.1), r.2)) ∧ (∀ (M : Mem) (r : Int32 × Mem), rc 3 M = some r → MetX shB l G yX9_added cX9_added 4 (some .int) (D - 1) [.ref 0] M (some (.int r.1), r.2)) ∧ (∀ (M : Mem) (r : Int32 × Mem), rc 4 M = some r → MetX shB l G yX9_term cX9_term 2 (some .int) (D - 1) [.ref 0] M (some (.int r.1), r.2)) ∧ (∀ (M : Mem) (r : Int32 × Mem), rc 5 M = some r → MetX shB l G yX9_atom cX9_atom 2 (some .int) (D - 1) [.ref 0] M (some (.int r.1), r.2))) (hrec5 : ∀ (M : Mem) (x1 : Int32), rec5 M x1 = some r → XJ shB p l e (rmX D) s m args below meth c 0 0 G 3 (MQ below (QcX shB G ((some (.int r.1), r.2) : Option Value × Mem).1 ((some (.int r.1), r.2) : Option Value × Mem).2) args s 0 0 (AW shB G.2.1)) 5 [(0, .ref 0), (1, .int x1)] [] M) {M : Mem} (h : F9_both_j44 rc rec5 M = some r) : XJ shB p l e (rmX D) s m args below meth c 0 0 G 3 (MQ below (QcX shB G ((some (.int r.1), r.2) : Option Value × Mem).1 ((some (.int r.1), r.2) : Option Value × Mem).2) args s 0 0 (AW shB G.2.1)) 44 [(0, .ref 0)] [] M := by
  unfold F9_both_j44 at h
  refine X_iconst F dX9_both_44 (v := (0 : Int32)) rfl ?_
  exact F9_both_j45_ok F hr hlk hD hrc hrec5 h
set_option maxRecDepth 20000 in
theorem F9_both_l5_bok {p : Program} {l : Launch} {e : Env} {s : State} {m : MethodId} {args : Array Value} {below : List Frame} {meth : Method} {c : Code} {G : GG} {D : Nat} {r : Int32 × Mem} {rc : Nat → Mem → Option (Int32 × Mem)} {rec5 : Mem → Int32 → Option (Int32 × Mem)} (F : FrP shB G p s m args c RX9 cX9_both 3) (hr : meth.sig.returnType = (some .int)) (hlk : meth.locks = false) (hD : 5 ≤ D) (hrc : (∀ (M : Mem) (r : Int32 × Mem), rc 0 M = some r → MetX shB l G yX9_either cX9_either 3 (some .int) (D - 1) [.ref 0] M (some (.int r.1), r.2)) ∧ (∀ (M : Mem) (r : Int32 × Mem), rc 1 M = some r → MetX shB l G yX9_both cX9_both 3 (some .int) (D - 1) [.ref 0] M (some (.int r.1), r.2)) ∧ (∀ (M : Mem) (r : Int32 × Mem), rc 2 M = some r → MetX shB l G yX9_not cX9_not 4 (some .int) (D - 1) [.ref 0] M (some (.int r.1), r.2)) ∧ (∀ (M : Mem) (r : Int32 × Mem), rc 3 M = some r → MetX shB l G yX9_added cX9_added 4 (some .int) (D - 1) [.ref 0] M (some (.int r.1), r.2)) ∧ (∀ (M : Mem) (r : Int32 × Mem), rc 4 M = some r → MetX shB l G yX9_term cX9_term 2 (some .int) (D - 1) [.ref 0] M (some (.int r.1), r.2)) ∧ (∀ (M : Mem) (r : Int32 × Mem), rc 5 M = some r → MetX shB l G yX9_atom cX9_atom 2 (some .int) (D - 1) [.ref 0] M (some (.int r.1), r.2))) (hrec5 : ∀ (M : Mem) (x1 : Int32), rec5 M x1 = some r → XJ shB p l e (rmX D) s m args below meth c 0 0 G 3 (MQ below (QcX shB G ((some (.int r.1), r.2) : Option Value × Mem).1 ((some (.int r.1), r.2) : Option Value × Mem).2) args s 0 0 (AW shB G.2.1)) 5 [(0, .ref 0), (1, .int x1)] [] M) {M : Mem} {x1 : Int32} (h : F9_both_l5_b rc rec5 M x1 = some r) : XJ shB p l e (rmX D) s m args below meth c 0 0 G 3 (MQ below (QcX shB G ((some (.int r.1), r.2) : Option Value × Mem).1 ((some (.int r.1), r.2) : Option Value × Mem).2) args s 0 0 (AW shB G.2.1)) 5 [(0, .ref 0), (1, .int x1)] [] M := by
  unfold F9_both_l5_b at h
  refine X_aload_n F dX9_both_5 rfl ?_
  refine X_bipush F dX9_both_6 (v := (97 : Int32)) rfl ?_
  refine X_bipush F dX9_both_8 (v := (110 : Int32)) rfl ?_
  refine X_bipush F dX9_both_10 (v := (100 : Int32)) rfl ?_
  refine X_iconst F dX9_both_12 (v := (0 : Int32)) rfl ?_
  refine X_iconst F dX9_both_13 (v := (0 : Int32)) rfl ?_
  refine X_iconst F dX9_both_14 (v := (0 : Int32)) rfl ?_
  refine X_iconst F dX9_both_15 (v := (0 : Int32)) rfl ?_
  refine X_iconst F dX9_both_16 (v := (0 : Int32)) rfl ?_
  obtain ⟨r3, h4, h⟩ := bndS h
  refine X_callV (ci := 0) (As := [.int (97 : Int32), .int (110 : Int32), .int (100 : Int32), .int (0 : Int32), .int (0 : Int32), .int (0 : Int32), .int (0 : Int32), .int (0 : Int32)]) (rest := []) F fkRX9_193 feX9_isWord fvX9_isWord ⟨_, _, _, rfl, rfl, rfl⟩ (F9_isWord_met (D := D - 1) F.2.2.2.2.2.2.2.1 (by omega) h4) rfl rfl (Nat.le_of_ble_eq_true rfl) (rm_ok (by omega) (by decide)) dX9_both_17 ?_
  show XJ shB p l e (rmX D) s m args below meth c 0 0 G 3 (MQ below (QcX shB G ((some (.int r.1), r.2) : Option Value × Mem).1 ((some (.int r.1), r.2) : Option Value × Mem).2) args s 0 0 (AW shB G.2.1)) 20 [(0, .ref 0), (1, .int x1)] [.int r3.1] r3.2
  refine X_if_eq (tgt := 49) F dX9_both_20 (by decide) (fun q5 => ?_) (fun q5 => ?_)
  · rw [if_pos q5] at h
    refine X_iload_n F dX9_both_49 rfl ?_
    exact X_iret F hr hlk (retI h) dX9_both_50
  · rw [if_neg q5] at h
    refine X_aload_n F dX9_both_23 rfl ?_
    obtain ⟨r6, h7, h⟩ := bndS h
    refine X_callV (ci := 0) (As := []) (rest := []) F fkRX9_190 feX9_next fvX9_next ⟨_, _, _, rfl, rfl, rfl⟩ (F9_next_met (D := D - 1) F.2.2.2.2.2.2.2.1 (by omega) h7) rfl rfl (Nat.le_of_ble_eq_true rfl) (rm_ok (by omega) (by decide)) dX9_both_24 ?_
    show XJ shB p l e (rmX D) s m args below meth c 0 0 G 3 (MQ below (QcX shB G ((some (.int r.1), r.2) : Option Value × Mem).1 ((some (.int r.1), r.2) : Option Value × Mem).2) args s 0 0 (AW shB G.2.1)) 27 [(0, .ref 0), (1, .int x1)] [] r6.2
    refine X_aload_n F dX9_both_27 rfl ?_
    obtain ⟨r8, h9, h⟩ := bndS h
    refine X_callV (ci := 0) (As := []) (rest := []) F fkRX9_237 feX9_not fvX9_not ⟨_, _, _, rfl, rfl, rfl⟩ (hrc.2.2.1 _ _ h9) rfl rfl (Nat.le_of_ble_eq_true rfl) (rm_ok (by omega) (by decide)) dX9_both_28 ?_
    show XJ shB p l e (rmX D) s m args below meth c 0 0 G 3 (MQ below (QcX shB G ((some (.int r.1), r.2) : Option Value × Mem).1 ((some (.int r.1), r.2) : Option Value × Mem).2) args s 0 0 (AW shB G.2.1)) 31 [(0, .ref 0), (1, .int x1)] [.int r8.1] r8.2
    refine X_istore_n F dX9_both_31 (by decide) rfl ?_
    refine X_iload_n F dX9_both_32 rfl ?_
    refine X_if_eq (tgt := 44) F dX9_both_33 (by decide) (fun q10 => ?_) (fun q10 => ?_)
    · rw [if_pos q10] at h
      refine X_pick [1] rfl ?_
      exact F9_both_j44_ok F hr hlk hD hrc hrec5 h
    · rw [if_neg q10] at h
      refine X_iload_n F dX9_both_36 rfl ?_
      refine X_if_eq (tgt := 44) F dX9_both_37 (by decide) (fun q11 => ?_) (fun q11 => ?_)
      · rw [if_pos q11] at h
        refine X_pick [1] rfl ?_
        exact F9_both_j44_ok F hr hlk hD hrc hrec5 h
      · rw [if_neg q11] at h
        refine X_iconst F dX9_both_40 (v := (1 : Int32)) rfl ?_
        refine X_goto (tgt := 45) F dX9_both_41 (by decide) ?_
        refine X_pick [1] rfl ?_
        exact F9_both_j45_ok F hr hlk hD hrc hrec5 h
set_option maxRecDepth 20000 in
theorem F9_both_l5_ok {p : Program} {l : Launch} {e : Env} {s : State} {m : MethodId} {args : Array Value} {below : List Frame} {meth : Method} {c : Code} {G : GG} {D : Nat} {r : Int32 × Mem} {rc : Nat → Mem → Option (Int32 × Mem)} (F : FrP shB G p s m args c RX9 cX9_both 3) (hr : meth.sig.returnType = (some .int)) (hlk : meth.locks = false) (hD : 5 ≤ D) (hrc : (∀ (M : Mem) (r : Int32 × Mem), rc 0 M = some r → MetX shB l G yX9_either cX9_either 3 (some .int) (D - 1) [.ref 0] M (some (.int r.1), r.2)) ∧ (∀ (M : Mem) (r : Int32 × Mem), rc 1 M = some r → MetX shB l G yX9_both cX9_both 3 (some .int) (D - 1) [.ref 0] M (some (.int r.1), r.2)) ∧ (∀ (M : Mem) (r : Int32 × Mem), rc 2 M = some r → MetX shB l G yX9_not cX9_not 4 (some .int) (D - 1) [.ref 0] M (some (.int r.1), r.2)) ∧ (∀ (M : Mem) (r : Int32 × Mem), rc 3 M = some r → MetX shB l G yX9_added cX9_added 4 (some .int) (D - 1) [.ref 0] M (some (.int r.1), r.2)) ∧ (∀ (M : Mem) (r : Int32 × Mem), rc 4 M = some r → MetX shB l G yX9_term cX9_term 2 (some .int) (D - 1) [.ref 0] M (some (.int r.1), r.2)) ∧ (∀ (M : Mem) (r : Int32 × Mem), rc 5 M = some r → MetX shB l G yX9_atom cX9_atom 2 (some .int) (D - 1) [.ref 0] M (some (.int r.1), r.2))) : ∀ (fu : Nat) (M : Mem) (x1 : Int32), F9_both_l5 rc fu M x1 = some r → XJ shB p l e (rmX D) s m args below meth c 0 0 G 3 (MQ below (QcX shB G ((some (.int r.1), r.2) : Option Value × Mem).1 ((some (.int r.1), r.2) : Option Value × Mem).2) args s 0 0 (AW shB G.2.1)) 5 [(0, .ref 0), (1, .int x1)] [] M := by
  intro fu
  induction fu with
  | zero => intro M x1 h; cases h
  | succ fu ih => intro M x1 h; exact F9_both_l5_bok F hr hlk hD hrc (fun M x1 => ih M x1) h
set_option maxRecDepth 20000 in
theorem F9_both_ok {p : Program} {l : Launch} {e : Env} {s : State} {m : MethodId} {args : Array Value} {below : List Frame} {meth : Method} {c : Code} {G : GG} {D : Nat} {r : Int32 × Mem} {rc : Nat → Mem → Option (Int32 × Mem)} (F : FrP shB G p s m args c RX9 cX9_both 3) (hr : meth.sig.returnType = (some .int)) (hlk : meth.locks = false) (hD : 5 ≤ D) (hrc : (∀ (M : Mem) (r : Int32 × Mem), rc 0 M = some r → MetX shB l G yX9_either cX9_either 3 (some .int) (D - 1) [.ref 0] M (some (.int r.1), r.2)) ∧ (∀ (M : Mem) (r : Int32 × Mem), rc 1 M = some r → MetX shB l G yX9_both cX9_both 3 (some .int) (D - 1) [.ref 0] M (some (.int r.1), r.2)) ∧ (∀ (M : Mem) (r : Int32 × Mem), rc 2 M = some r → MetX shB l G yX9_not cX9_not 4 (some .int) (D - 1) [.ref 0] M (some (.int r.1), r.2)) ∧ (∀ (M : Mem) (r : Int32 × Mem), rc 3 M = some r → MetX shB l G yX9_added cX9_added 4 (some .int) (D - 1) [.ref 0] M (some (.int r.1), r.2)) ∧ (∀ (M : Mem) (r : Int32 × Mem), rc 4 M = some r → MetX shB l G yX9_term cX9_term 2 (some .int) (D - 1) [.ref 0] M (some (.int r.1), r.2)) ∧ (∀ (M : Mem) (r : Int32 × Mem), rc 5 M = some r → MetX shB l G yX9_atom cX9_atom 2 (some .int) (D - 1) [.ref 0] M (some (.int r.1), r.2))) {M : Mem} (h : F9_both rc M = some r) : XJ shB p l e (rmX D) s m args below meth c 0 0 G 3 (MQ below (QcX shB G ((some (.int r.1), r.2) : Option Value × Mem).1 ((some (.int r.1), r.2) : Option Value × Mem).2) args s 0 0 (AW shB G.2.1)) 0 [(0, .ref 0)] [] M := by
  unfold F9_both at h
  refine X_aload_n F dX9_both_0 rfl ?_
  obtain ⟨r1, h2, h⟩ := bndS h
  refine X_callV (ci := 0) (As := []) (rest := []) F fkRX9_237 feX9_not fvX9_not ⟨_, _, _, rfl, rfl, rfl⟩ (hrc.2.2.1 _ _ h2) rfl rfl (Nat.le_of_ble_eq_true rfl) (rm_ok (by omega) (by decide)) dX9_both_1 ?_
  show XJ shB p l e (rmX D) s m args below meth c 0 0 G 3 (MQ below (QcX shB G ((some (.int r.1), r.2) : Option Value × Mem).1 ((some (.int r.1), r.2) : Option Value × Mem).2) args s 0 0 (AW shB G.2.1)) 4 [(0, .ref 0)] [.int r1.1] r1.2
  refine X_istore_n F dX9_both_4 (by decide) rfl ?_
  refine X_pick [1, 0] rfl ?_
  exact F9_both_l5_ok F hr hlk hD hrc FUEL _ _ h
set_option maxRecDepth 20000 in
theorem F9_not_j93_ok {p : Program} {l : Launch} {e : Env} {s : State} {m : MethodId} {args : Array Value} {below : List Frame} {meth : Method} {c : Code} {G : GG} {D : Nat} {r : Int32 × Mem} {rc : Nat → Mem → Option (Int32 × Mem)} (F : FrP shB G p s m args c RX9 cX9_not 4) (hr : meth.sig.returnType = (some .int)) (hlk : meth.locks = false) (hD : 5 ≤ D) (hrc : (∀ (M : Mem) (r : Int32 × Mem), rc 0 M = some r → MetX shB l G yX9_either cX9_either 3 (some .int) (D - 1) [.ref 0] M (some (.int r.1), r.2)) ∧ (∀ (M : Mem) (r : Int32 × Mem), rc 1 M = some r → MetX shB l G yX9_both cX9_both 3 (some .int) (D - 1) [.ref 0] M (some (.int r.1), r.2)) ∧ (∀ (M : Mem) (r : Int32 × Mem), rc 2 M = some r → MetX shB l G yX9_not cX9_not 4 (some .int) (D - 1) [.ref 0] M (some (.int r.1), r.2)) ∧ (∀ (M : Mem) (r : Int32 × Mem), rc 3 M = some r → MetX shB l G yX9_added cX9_added 4 (some .int) (D - 1) [.ref 0] M (some (.int r.1), r.2)) ∧ (∀ (M : Mem) (r : Int32 × Mem), rc 4 M = some r → MetX shB l G yX9_term cX9_term 2 (some .int) (D - 1) [.ref 0] M (some (.int r.1), r.2)) ∧ (∀ (M : Mem) (r : Int32 × Mem), rc 5 M = some r → MetX shB l G yX9_atom cX9_atom 2 (some .int) (D - 1) [.ref 0] M (some (.int r.1), r.2))) {M : Mem} {x1 : Int32} {y0 : Int32} (h : F9_not_j93 rc M x1 y0 = some r) : XJ shB p l e (rmX D) s m args below meth c 0 0 G 4 (MQ below (QcX shB G ((some (.int r.1), r.2) : Option Value × Mem).1 ((some (.int r.1), r.2) : Option Value × Mem).2) args s 0 0 (AW shB G.2.1)) 93 [(0, .ref 0), (1, .int x1)] [.int y0] M := by
  unfold F9_not_j93 at h
  refine X_istore_n F dX9_not_93 (by decide) rfl ?_
  refine X_aload_n F dX9_not_94 rfl ?_
  obtain ⟨r19, h20, h⟩ := bndS h
  refine X_callV (ci := 0) (As := []) (rest := []) F fkRX9_190 feX9_next fvX9_next ⟨_, _, _, rfl, rfl, rfl⟩ (F9_next_met (D := D - 1) F.2.2.2.2.2.2.2.1 (by omega) h20) rfl rfl (Nat.le_of_ble_eq_true rfl) (rm_ok (by omega) (by decide)) dX9_not_95 ?_
  show XJ shB p l e (rmX D) s m args below meth c 0 0 G 4 (MQ below (QcX shB G ((some (.int r.1), r.2) : Option Value × Mem).1 ((some (.int r.1), r.2) : Option Value × Mem).2) args s 0 0 (AW shB G.2.1)) 98 [(2, .int y0), (0, .ref 0), (1, .int x1)] [] r19.2
  refine X_aload_n F dX9_not_98 rfl ?_
  obtain ⟨r21, h22, h⟩ := bndS h
  refine X_callV (ci := 0) (As := []) (rest := []) F fkRX9_240 feX9_added fvX9_added ⟨_, _, _, rfl, rfl, rfl⟩ (hrc.2.2.2.1 _ _ h22) rfl rfl (Nat.le_of_ble_eq_true rfl) (rm_ok (by omega) (by decide)) dX9_not_99 ?_
  show XJ shB p l e (rmX D) s m args below meth c 0 0 G 4 (MQ below (QcX shB G ((some (.int r.1), r.2) : Option Value × Mem).1 ((some (.int r.1), r.2) : Option Value × Mem).2) args s 0 0 (AW shB G.2.1)) 102 [(2, .int y0), (0, .ref 0), (1, .int x1)] [.int r21.1] r21.2
  refine X_istore_n F dX9_not_102 (by decide) rfl ?_
  refine X_iload_n F dX9_not_103 rfl ?_
  refine X_if_eq (tgt := 115) F dX9_not_104 (by decide) (fun q23 => ?_) (fun q23 => ?_)
  · rw [if_pos q23] at h
    refine X_iload_n F dX9_not_115 rfl ?_
    refine X_iload_n F dX9_not_116 rfl ?_
    refine X_icmp_ne (tgt := 124) F dX9_not_117 (by decide) (fun q24 => ?_) (fun q24 => ?_)
    · rw [if_pos q24] at h
      refine X_iconst F dX9_not_124 (v := (0 : Int32)) rfl ?_
      exact X_iret F hr hlk (retI h) dX9_not_125
    · rw [if_neg (fun z => z q24)] at h
      refine X_iconst F dX9_not_120 (v := (1 : Int32)) rfl ?_
      refine X_goto (tgt := 125) F dX9_not_121 (by decide) ?_
      exact X_iret F hr hlk (retI h) dX9_not_125
  · rw [if_neg q23] at h
    refine X_iload_n F dX9_not_107 rfl ?_
    refine X_iload_n F dX9_not_108 rfl ?_
    refine X_icmp_ge (tgt := 124) F dX9_not_109 (by decide) (fun q25 => ?_) (fun q25 => ?_)
    · rw [if_pos q25] at h
      refine X_iconst F dX9_not_124 (v := (0 : Int32)) rfl ?_
      exact X_iret F hr hlk (retI h) dX9_not_125
    · rw [if_neg q25] at h
      refine X_goto (tgt := 120) F dX9_not_112 (by decide) ?_
      refine X_iconst F dX9_not_120 (v := (1 : Int32)) rfl ?_
      refine X_goto (tgt := 125) F dX9_not_121 (by decide) ?_
      exact X_iret F hr hlk (retI h) dX9_not_125
set_option maxRecDepth 20000 in
theorem F9_not_j77_ok {p : Program} {l : Launch} {e : Env} {s : State} {m : MethodId} {args : Array Value} {below : List Frame} {meth : Method} {c : Code} {G : GG} {D : Nat} {r : Int32 × Mem} {rc : Nat → Mem → Option (Int32 × Mem)} (F : FrP shB G p s m args c RX9 cX9_not 4) (hr : meth.sig.returnType = (some .int)) (hlk : meth.locks = false) (hD : 5 ≤ D) (hrc : (∀ (M : Mem) (r : Int32 × Mem), rc 0 M = some r → MetX shB l G yX9_either cX9_either 3 (some .int) (D - 1) [.ref 0] M (some (.int r.1), r.2)) ∧ (∀ (M : Mem) (r : Int32 × Mem), rc 1 M = some r → MetX shB l G yX9_both cX9_both 3 (some .int) (D - 1) [.ref 0] M (some (.int r.1), r.2)) ∧ (∀ (M : Mem) (r : Int32 × Mem), rc 2 M = some r → MetX shB l G yX9_not cX9_not 4 (some .int) (D - 1) [.ref 0] M (some (.int r.1), r.2)) ∧ (∀ (M : Mem) (r : Int32 × Mem), rc 3 M = some r → MetX shB l G yX9_added cX9_added 4 (some .int) (D - 1) [.ref 0] M (some (.int r.1), r.2)) ∧ (∀ (M : Mem) (r : Int32 × Mem), rc 4 M = some r → MetX shB l G yX9_term cX9_term 2 (some .int) (D - 1) [.ref 0] M (some (.int r.1), r.2)) ∧ (∀ (M : Mem) (r : Int32 × Mem), rc 5 M = some r → MetX shB l G yX9_atom cX9_atom 2 (some .int) (D - 1) [.ref 0] M (some (.int r.1), r.2))) {M : Mem} {x1 : Int32} (h : F9_not_j77 rc M x1 = some r) : XJ shB p l e (rmX D) s m args below meth c 0 0 G 4 (MQ below (QcX shB G ((some (.int r.1), r.2) : Option Value × Mem).1 ((some (.int r.1), r.2) : Option Value × Mem).2) args s 0 0 (AW shB G.2.1)) 77 [(0, .ref 0), (1, .int x1)] [] M := by
  unfold F9_not_j77 at h
  refine X_aload_n F dX9_not_77 rfl ?_
  refine X_getl (v := (gL M 0 28)) F ffRX9_167 dX9_not_78 rfl ?_
  refine X_ldc2 F fcRX9_243 dX9_not_81 ?_
  refine X_lcmp F dX9_not_84 ?_
  refine X_if_ne (tgt := 92) F dX9_not_85 (by decide) (fun q18 => ?_) (fun q18 => ?_)
  · rw [if_pos q18] at h
    refine X_iconst F dX9_not_92 (v := (0 : Int32)) rfl ?_
    exact F9_not_j93_ok F hr hlk hD hrc h
  · rw [if_neg (fun z => z q18)] at h
    refine X_iconst F dX9_not_88 (v := (1 : Int32)) rfl ?_
    refine X_goto (tgt := 93) F dX9_not_89 (by decide) ?_
    exact F9_not_j93_ok F hr hlk hD hrc h
set_option maxRecDepth 20000 in
theorem F9_not_ok {p : Program} {l : Launch} {e : Env} {s : State} {m : MethodId} {args : Array Value} {below : List Frame} {meth : Method} {c : Code} {G : GG} {D : Nat} {r : Int32 × Mem} {rc : Nat → Mem → Option (Int32 × Mem)} (F : FrP shB G p s m args c RX9 cX9_not 4) (hr : meth.sig.returnType = (some .int)) (hlk : meth.locks = false) (hD : 5 ≤ D) (hrc : (∀ (M : Mem) (r : Int32 × Mem), rc 0 M = some r → MetX shB l G yX9_either cX9_either 3 (some .int) (D - 1) [.ref 0] M (some (.int r.1), r.2)) ∧ (∀ (M : Mem) (r : Int32 × Mem), rc 1 M = some r → MetX shB l G yX9_both cX9_both 3 (some .int) (D - 1) [.ref 0] M (some (.int r.1), r.2)) ∧ (∀ (M : Mem) (r : Int32 × Mem), rc 2 M = some r → MetX shB l G yX9_not cX9_not 4 (some .int) (D - 1) [.ref 0] M (some (.int r.1), r.2)) ∧ (∀ (M : Mem) (r : Int32 × Mem), rc 3 M = some r → MetX shB l G yX9_added cX9_added 4 (some .int) (D - 1) [.ref 0] M (some (.int r.1), r.2)) ∧ (∀ (M : Mem) (r : Int32 × Mem), rc 4 M = some r → MetX shB l G yX9_term cX9_term 2 (some .int) (D - 1) [.ref 0] M (some (.int r.1), r.2)) ∧ (∀ (M : Mem) (r : Int32 × Mem), rc 5 M = some r → MetX shB l G yX9_atom cX9_atom 2 (some .int) (D - 1) [.ref 0] M (some (.int r.1), r.2))) {M : Mem} (h : F9_not rc M = some r) : XJ shB p l e (rmX D) s m args below meth c 0 0 G 4 (MQ below (QcX shB G ((some (.int r.1), r.2) : Option Value × Mem).1 ((some (.int r.1), r.2) : Option Value × Mem).2) args s 0 0 (AW shB G.2.1)) 0 [(0, .ref 0)] [] M := by
  unfold F9_not at h
  refine X_aload_n F dX9_not_0 rfl ?_
  refine X_bipush F dX9_not_1 (v := (110 : Int32)) rfl ?_
  refine X_bipush F dX9_not_3 (v := (111 : Int32)) rfl ?_
  refine X_bipush F dX9_not_5 (v := (116 : Int32)) rfl ?_
  refine X_iconst F dX9_not_7 (v := (0 : Int32)) rfl ?_
  refine X_iconst F dX9_not_8 (v := (0 : Int32)) rfl ?_
  refine X_iconst F dX9_not_9 (v := (0 : Int32)) rfl ?_
  refine X_iconst F dX9_not_10 (v := (0 : Int32)) rfl ?_
  refine X_iconst F dX9_not_11 (v := (0 : Int32)) rfl ?_
  obtain ⟨r1, h2, h⟩ := bndS h
  refine X_callV (ci := 0) (As := [.int (110 : Int32), .int (111 : Int32), .int (116 : Int32), .int (0 : Int32), .int (0 : Int32), .int (0 : Int32), .int (0 : Int32), .int (0 : Int32)]) (rest := []) F fkRX9_193 feX9_isWord fvX9_isWord ⟨_, _, _, rfl, rfl, rfl⟩ (F9_isWord_met (D := D - 1) F.2.2.2.2.2.2.2.1 (by omega) h2) rfl rfl (Nat.le_of_ble_eq_true rfl) (rm_ok (by omega) (by decide)) dX9_not_12 ?_
  show XJ shB p l e (rmX D) s m args below meth c 0 0 G 4 (MQ below (QcX shB G ((some (.int r.1), r.2) : Option Value × Mem).1 ((some (.int r.1), r.2) : Option Value × Mem).2) args s 0 0 (AW shB G.2.1)) 15 [(0, .ref 0)] [.int r1.1] r1.2
  refine X_if_eq (tgt := 52) F dX9_not_15 (by decide) (fun q3 => ?_) (fun q3 => ?_)
  · rw [if_pos q3] at h
    refine X_aload_n F dX9_not_52 rfl ?_
    obtain ⟨r4, h5, h⟩ := bndS h
    refine X_callV (ci := 0) (As := []) (rest := []) F fkRX9_240 feX9_added fvX9_added ⟨_, _, _, rfl, rfl, rfl⟩ (hrc.2.2.2.1 _ _ h5) rfl rfl (Nat.le_of_ble_eq_true rfl) (rm_ok (by omega) (by decide)) dX9_not_53 ?_
    show XJ shB p l e (rmX D) s m args below meth c 0 0 G 4 (MQ below (QcX shB G ((some (.int r.1), r.2) : Option Value × Mem).1 ((some (.int r.1), r.2) : Option Value × Mem).2) args s 0 0 (AW shB G.2.1)) 56 [(0, .ref 0)] [.int r4.1] r4.2
    refine X_istore_n F dX9_not_56 (by decide) rfl ?_
    refine X_aload_n F dX9_not_57 rfl ?_
    refine X_bipush F dX9_not_58 (v := (60 : Int32)) rfl ?_
    obtain ⟨r6, h7, h⟩ := bndS h
    refine X_callV (ci := 0) (As := [.int (60 : Int32)]) (rest := []) F fkRX9_215 feX9_isSign fvX9_isSign ⟨_, _, _, rfl, rfl, rfl⟩ (F9_isSign_met (D := D - 1) F.2.2.2.2.2.2.2.1 (by omega) h7) rfl rfl (Nat.le_of_ble_eq_true rfl) (rm_ok (by omega) (by decide)) dX9_not_60 ?_
    show XJ shB p l e (rmX D) s m args below meth c 0 0 G 4 (MQ below (QcX shB G ((some (.int r.1), r.2) : Option Value × Mem).1 ((some (.int r.1), r.2) : Option Value × Mem).2) args s 0 0 (AW shB G.2.1)) 63 [(1, .int r4.1), (0, .ref 0)] [.int r6.1] r6.2
    refine X_if_ne (tgt := 77) F dX9_not_63 (by decide) (fun q8 => ?_) (fun q8 => ?_)
    · rw [if_pos q8] at h
      refine X_pick [1, 0] rfl ?_
      exact F9_not_j77_ok F hr hlk hD hrc h
    · rw [if_neg (fun z => z q8)] at h
      refine X_aload_n F dX9_not_66 rfl ?_
      refine X_bipush F dX9_not_67 (v := (61 : Int32)) rfl ?_
      obtain ⟨r9, h10, h⟩ := bndS h
      refine X_callV (ci := 0) (As := [.int (61 : Int32)]) (rest := []) F fkRX9_215 feX9_isSign fvX9_isSign ⟨_, _, _, rfl, rfl, rfl⟩ (F9_isSign_met (D := D - 1) F.2.2.2.2.2.2.2.1 (by omega) h10) rfl rfl (Nat.le_of_ble_eq_true rfl) (rm_ok (by omega) (by decide)) dX9_not_69 ?_
      show XJ shB p l e (rmX D) s m args below meth c 0 0 G 4 (MQ below (QcX shB G ((some (.int r.1), r.2) : Option Value × Mem).1 ((some (.int r.1), r.2) : Option Value × Mem).2) args s 0 0 (AW shB G.2.1)) 72 [(1, .int r4.1), (0, .ref 0)] [.int r9.1] r9.2
      refine X_if_ne (tgt := 77) F dX9_not_72 (by decide) (fun q11 => ?_) (fun q11 => ?_)
      · rw [if_pos q11] at h
        refine X_pick [1, 0] rfl ?_
        exact F9_not_j77_ok F hr hlk hD hrc h
      · rw [if_neg (fun z => z q11)] at h
        refine X_iload_n F dX9_not_75 rfl ?_
        exact X_iret F hr hlk (retI h) dX9_not_76
  · rw [if_neg q3] at h
    refine X_aload_n F dX9_not_18 rfl ?_
    obtain ⟨r12, h13, h⟩ := bndS h
    refine X_callV (ci := 0) (As := []) (rest := []) F fkRX9_218 feX9_opens fvX9_opens ⟨_, _, _, rfl, rfl, rfl⟩ (F9_opens_met (D := D - 1) F.2.2.2.2.2.2.2.1 (by omega) h13) rfl rfl (Nat.le_of_ble_eq_true rfl) (rm_ok (by omega) (by decide)) dX9_not_19 ?_
    show XJ shB p l e (rmX D) s m args below meth c 0 0 G 4 (MQ below (QcX shB G ((some (.int r.1), r.2) : Option Value × Mem).1 ((some (.int r.1), r.2) : Option Value × Mem).2) args s 0 0 (AW shB G.2.1)) 22 [(0, .ref 0)] [.int r12.1] r12.2
    refine X_if_ne (tgt := 27) F dX9_not_22 (by decide) (fun q14 => ?_) (fun q14 => ?_)
    · rw [if_pos q14] at h
      refine X_aload_n F dX9_not_27 rfl ?_
      obtain ⟨r15, h16, h⟩ := bndS h
      refine X_callV (ci := 0) (As := []) (rest := []) F fkRX9_237 feX9_not fvX9_not ⟨_, _, _, rfl, rfl, rfl⟩ (hrc.2.2.1 _ _ h16) rfl rfl (Nat.le_of_ble_eq_true rfl) (rm_ok (by omega) (by decide)) dX9_not_28 ?_
      show XJ shB p l e (rmX D) s m args below meth c 0 0 G 4 (MQ below (QcX shB G ((some (.int r.1), r.2) : Option Value × Mem).1 ((some (.int r.1), r.2) : Option Value × Mem).2) args s 0 0 (AW shB G.2.1)) 31 [(0, .ref 0)] [.int r15.1] r15.2
      refine X_istore_n F dX9_not_31 (by decide) rfl ?_
      refine X_aload_n F dX9_not_32 rfl ?_
      refine X_dup F dX9_not_33 rfl ?_
      refine X_geti (v := (r15.2 0 29)) F ffRX9_184 dX9_not_34 rfl ?_
      refine X_iconst F dX9_not_37 (v := (1 : Int32)) rfl ?_
      refine X_isub F dX9_not_38 ?_
      refine X_puti F ffRX9_184 fw9_29 (by decide) dX9_not_39 ?_
      refine X_iload_n F dX9_not_42 rfl ?_
      refine X_if_ne (tgt := 50) F dX9_not_43 (by decide) (fun q17 => ?_) (fun q17 => ?_)
      · rw [if_pos q17] at h
        refine X_iconst F dX9_not_50 (v := (0 : Int32)) rfl ?_
        exact X_iret F hr hlk (retI h) dX9_not_51
      · rw [if_neg (fun z => z q17)] at h
        refine X_iconst F dX9_not_46 (v := (1 : Int32)) rfl ?_
        refine X_goto (tgt := 51) F dX9_not_47 (by decide) ?_
        exact X_iret F hr hlk (retI h) dX9_not_51
    · rw [if_neg (fun z => z q14)] at h
      refine X_iconst F dX9_not_25 (v := (0 : Int32)) rfl ?_
      exact X_iret F hr hlk (retI h) dX9_not_26
set_option maxRecDepth 20000 in
theorem F9_added_j62_ok {p : Program} {l : Launch} {e : Env} {s : State} {m : MethodId} {args : Array Value} {below : List Frame} {meth : Method} {c : Code} {G : GG} {D : Nat} {r : Int32 × Mem} {rc : Nat → Mem → Option (Int32 × Mem)} {rec5 : Mem → Int32 → Option (Int32 × Mem)} (F : FrP shB G p s m args c RX9 cX9_added 4) (hr : meth.sig.returnType = (some .int)) (hlk : meth.locks = false) (hD : 5 ≤ D) (hrc : (∀ (M : Mem) (r : Int32 × Mem), rc 0 M = some r → MetX shB l G yX9_either cX9_either 3 (some .int) (D - 1) [.ref 0] M (some (.int r.1), r.2)) ∧ (∀ (M : Mem) (r : Int32 × Mem), rc 1 M = some r → MetX shB l G yX9_both cX9_both 3 (some .int) (D - 1) [.ref 0] M (some (.int r.1), r.2)) ∧ (∀ (M : Mem) (r : Int32 × Mem), rc 2 M = some r → MetX shB l G yX9_not cX9_not 4 (some .int) (D - 1) [.ref 0] M (some (.int r.1), r.2)) ∧ (∀ (M : Mem) (r : Int32 × Mem), rc 3 M = some r → MetX shB l G yX9_added cX9_added 4 (some .int) (D - 1) [.ref 0] M (some (.int r.1), r.2)) ∧ (∀ (M : Mem) (r : Int32 × Mem), rc 4 M = some r → MetX shB l G yX9_term cX9_term 2 (some .int) (D - 1) [.ref 0] M (some (.int r.1), r.2)) ∧ (∀ (M : Mem) (r : Int32 × Mem), rc 5 M = some r → MetX shB l G yX9_atom cX9_atom 2 (some .int) (D - 1) [.ref 0] M (some (.int r.1), r.2))) (hrec5 : ∀ (M : Mem) (x1 : Int32), rec5 M x1 = some r → XJ shB p l e (rmX D) s m args below meth c 0 0 G 4 (MQ below (QcX shB G ((some (.int r.1), r.2) : Option Value × Mem).1 ((some (.int r.1), r.2) : Option Value × Mem).2) args s 0 0 (AW shB G.2.1)) 5 [(0, .ref 0), (1, .int x1)] [] M) {M : Mem} {y0 : Int32} (h : F9_added_j62 rc rec5 M y0 = some r) : XJ shB p l e (rmX D) s m args below meth c 0 0 G 4 (MQ below (QcX shB G ((some (.int r.1), r.2) : Option Value × Mem).1 ((some (.int r.1), r.2) : Option Value × Mem).2) args s 0 0 (AW shB G.2.1)) 62 [(0, .ref 0)] [.int y0] M := by
  unfold F9_added_j62 at h
  refine X_istore_n F dX9_added_62 (by decide) rfl ?_
  refine X_goto (tgt := 5) F dX9_added_63 (by decide) ?_
  refine X_pick [1, 0] rfl ?_
  exact hrec5 _ _ h
set_option maxRecDepth 20000 in
theorem F9_added_j39_ok {p : Program} {l : Launch} {e : Env} {s : State} {m : MethodId} {args : Array Value} {below : List Frame} {meth : Method} {c : Code} {G : GG} {D : Nat} {r : Int32 × Mem} {rc : Nat → Mem → Option (Int32 × Mem)} {rec5 : Mem → Int32 → Option (Int32 × Mem)} (F : FrP shB G p s m args c RX9 cX9_added 4) (hr : meth.sig.returnType = (some .int)) (hlk : meth.locks = false) (hD : 5 ≤ D) (hrc : (∀ (M : Mem) (r : Int32 × Mem), rc 0 M = some r → MetX shB l G yX9_either cX9_either 3 (some .int) (D - 1) [.ref 0] M (some (.int r.1), r.2)) ∧ (∀ (M : Mem) (r : Int32 × Mem), rc 1 M = some r → MetX shB l G yX9_both cX9_both 3 (some .int) (D - 1) [.ref 0] M (some (.int r.1), r.2)) ∧ (∀ (M : Mem) (r : Int32 × Mem), rc 2 M = some r → MetX shB l G yX9_not cX9_not 4 (some .int) (D - 1) [.ref 0] M (some (.int r.1), r.2)) ∧ (∀ (M : Mem) (r : Int32 × Mem), rc 3 M = some r → MetX shB l G yX9_added cX9_added 4 (some .int) (D - 1) [.ref 0] M (some (.int r.1), r.2)) ∧ (∀ (M : Mem) (r : Int32 × Mem), rc 4 M = some r → MetX shB l G yX9_term cX9_term 2 (some .int) (D - 1) [.ref 0] M (some (.int r.1), r.2)) ∧ (∀ (M : Mem) (r : Int32 × Mem), rc 5 M = some r → MetX shB l G yX9_atom cX9_atom 2 (some .int) (D - 1) [.ref 0] M (some (.int r.1), r.2))) (hrec5 : ∀ (M : Mem) (x1 : Int32), rec5 M x1 = some r → XJ shB p l e (rmX D) s m args below meth c 0 0 G 4 (MQ below (QcX shB G ((some (.int r.1), r.2) : Option Value × Mem).1 ((some (.int r.1), r.2) : Option Value × Mem).2) args s 0 0 (AW shB G.2.1)) 5 [(0, .ref 0), (1, .int x1)] [] M) {M : Mem} {x1 : Int32} {y0 : Int32} (h : F9_added_j39 rc rec5 M x1 y0 = some r) : XJ shB p l e (rmX D) s m args below meth c 0 0 G 4 (MQ below (QcX shB G ((some (.int r.1), r.2) : Option Value × Mem).1 ((some (.int r.1), r.2) : Option Value × Mem).2) args s 0 0 (AW shB G.2.1)) 39 [(0, .ref 0), (1, .int x1)] [.int y0] M := by
  unfold F9_added_j39 at h
  refine X_istore_n F dX9_added_39 (by decide) rfl ?_
  refine X_aload_n F dX9_added_40 rfl ?_
  obtain ⟨r10, h11, h⟩ := bndS h
  refine X_callV (ci := 0) (As := []) (rest := []) F fkRX9_190 feX9_next fvX9_next ⟨_, _, _, rfl, rfl, rfl⟩ (F9_next_met (D := D - 1) F.2.2.2.2.2.2.2.1 (by omega) h11) rfl rfl (Nat.le_of_ble_eq_true rfl) (rm_ok (by omega) (by decide)) dX9_added_41 ?_
  show XJ shB p l e (rmX D) s m args below meth c 0 0 G 4 (MQ below (QcX shB G ((some (.int r.1), r.2) : Option Value × Mem).1 ((some (.int r.1), r.2) : Option Value × Mem).2) args s 0 0 (AW shB G.2.1)) 44 [(2, .int y0), (0, .ref 0), (1, .int x1)] [] r10.2
  refine X_aload_n F dX9_added_44 rfl ?_
  obtain ⟨r12, h13, h⟩ := bndS h
  refine X_callV (ci := 0) (As := []) (rest := []) F fkRX9_232 feX9_term fvX9_term ⟨_, _, _, rfl, rfl, rfl⟩ (hrc.2.2.2.2.1 _ _ h13) rfl rfl (Nat.le_of_ble_eq_true rfl) (rm_ok (by omega) (by decide)) dX9_added_45 ?_
  show XJ shB p l e (rmX D) s m args below meth c 0 0 G 4 (MQ below (QcX shB G ((some (.int r.1), r.2) : Option Value × Mem).1 ((some (.int r.1), r.2) : Option Value × Mem).2) args s 0 0 (AW shB G.2.1)) 48 [(2, .int y0), (0, .ref 0), (1, .int x1)] [.int r12.1] r12.2
  refine X_istore_n F dX9_added_48 (by decide) rfl ?_
  refine X_iload_n F dX9_added_49 rfl ?_
  refine X_if_eq (tgt := 59) F dX9_added_50 (by decide) (fun q14 => ?_) (fun q14 => ?_)
  · rw [if_pos q14] at h
    refine X_iload_n F dX9_added_59 rfl ?_
    refine X_iload_n F dX9_added_60 rfl ?_
    refine X_isub F dX9_added_61 ?_
    refine X_pick [2] rfl ?_
    exact F9_added_j62_ok F hr hlk hD hrc hrec5 h
  · rw [if_neg q14] at h
    refine X_iload_n F dX9_added_53 rfl ?_
    refine X_iload_n F dX9_added_54 rfl ?_
    refine X_iadd F dX9_added_55 ?_
    refine X_goto (tgt := 62) F dX9_added_56 (by decide) ?_
    refine X_pick [2] rfl ?_
    exact F9_added_j62_ok F hr hlk hD hrc hrec5 h
set_option maxRecDepth 20000 in
theorem F9_added_j23_ok {p : Program} {l : Launch} {e : Env} {s : State} {m : MethodId} {args : Array Value} {below : List Frame} {meth : Method} {c : Code} {G : GG} {D : Nat} {r : Int32 × Mem} {rc : Nat → Mem → Option (Int32 × Mem)} {rec5 : Mem → Int32 → Option (Int32 × Mem)} (F : FrP shB G p s m args c RX9 cX9_added 4) (hr : meth.sig.returnType = (some .int)) (hlk : meth.locks = false) (hD : 5 ≤ D) (hrc : (∀ (M : Mem) (r : Int32 × Mem), rc 0 M = some r → MetX shB l G yX9_either cX9_either 3 (some .int) (D - 1) [.ref 0] M (some (.int r.1), r.2)) ∧ (∀ (M : Mem) (r : Int32 × Mem), rc 1 M = some r → MetX shB l G yX9_both cX9_both 3 (some .int) (D - 1) [.ref 0] M (some (.int r.1), r.2)) ∧ (∀ (M : Mem) (r : Int32 × Mem), rc 2 M = some r → MetX shB l G yX9_not cX9_not 4 (some .int) (D - 1) [.ref 0] M (some (.int r.1), r.2)) ∧ (∀ (M : Mem) (r : Int32 × Mem), rc 3 M = some r → MetX shB l G yX9_added cX9_added 4 (some .int) (D - 1) [.ref 0] M (some (.int r.1), r.2)) ∧ (∀ (M : Mem) (r : Int32 × Mem), rc 4 M = some r → MetX shB l G yX9_term cX9_term 2 (some .int) (D - 1) [.ref 0] M (some (.int r.1), r.2)) ∧ (∀ (M : Mem) (r : Int32 × Mem), rc 5 M = some r → MetX shB l G yX9_atom cX9_atom 2 (some .int) (D - 1) [.ref 0] M (some (.int r.1), r.2))) (hrec5 : ∀ (M : Mem) (x1 : Int32), rec5 M x1 = some r → XJ shB p l e (rmX D) s m args below meth c 0 0 G 4 (MQ below (QcX shB G ((some (.int r.1), r.2) : Option Value × Mem).1 ((some (.int r.1), r.2) : Option Value × Mem).2) args s 0 0 (AW shB G.2.1)) 5 [(0, .ref 0), (1, .int x1)] [] M) {M : Mem} {x1 : Int32} (h : F9_added_j23 rc rec5 M x1 = some r) : XJ shB p l e (rmX D) s m args below meth c 0 0 G 4 (MQ below (QcX shB G ((some (.int r.1), r.2) : Option Value × Mem).1 ((some (.int r.1), r.2) : Option Value × Mem).2) args s 0 0 (AW shB G.2.1)) 23 [(0, .ref 0), (1, .int x1)] [] M := by
  unfold F9_added_j23 at h
  refine X_aload_n F dX9_added_23 rfl ?_
  refine X_getl (v := (gL M 0 28)) F ffRX9_167 dX9_added_24 rfl ?_
  refine X_ldc2 F fcRX9_235 dX9_added_27 ?_
  refine X_lcmp F dX9_added_30 ?_
  refine X_if_ne (tgt := 38) F dX9_added_31 (by decide) (fun q9 => ?_) (fun q9 => ?_)
  · rw [if_pos q9] at h
    refine X_iconst F dX9_added_38 (v := (0 : Int32)) rfl ?_
    exact F9_added_j39_ok F hr hlk hD hrc hrec5 h
  · rw [if_neg (fun z => z q9)] at h
    refine X_iconst F dX9_added_34 (v := (1 : Int32)) rfl ?_
    refine X_goto (tgt := 39) F dX9_added_35 (by decide) ?_
    exact F9_added_j39_ok F hr hlk hD hrc hrec5 h
set_option maxRecDepth 20000 in
theorem F9_added_l5_bok {p : Program} {l : Launch} {e : Env} {s : State} {m : MethodId} {args : Array Value} {below : List Frame} {meth : Method} {c : Code} {G : GG} {D : Nat} {r : Int32 × Mem} {rc : Nat → Mem → Option (Int32 × Mem)} {rec5 : Mem → Int32 → Option (Int32 × Mem)} (F : FrP shB G p s m args c RX9 cX9_added 4) (hr : meth.sig.returnType = (some .int)) (hlk : meth.locks = false) (hD : 5 ≤ D) (hrc : (∀ (M : Mem) (r : Int32 × Mem), rc 0 M = some r → MetX shB l G yX9_either cX9_either 3 (some .int) (D - 1) [.ref 0] M (some (.int r.1), r.2)) ∧ (∀ (M : Mem) (r : Int32 × Mem), rc 1 M = some r → MetX shB l G yX9_both cX9_both 3 (some .int) (D - 1) [.ref 0] M (some (.int r.1), r.2)) ∧ (∀ (M : Mem) (r : Int32 × Mem), rc 2 M = some r → MetX shB l G yX9_not cX9_not 4 (some .int) (D - 1) [.ref 0] M (some (.int r.1), r.2)) ∧ (∀ (M : Mem) (r : Int32 × Mem), rc 3 M = some r → MetX shB l G yX9_added cX9_added 4 (some .int) (D - 1) [.ref 0] M (some (.int r.1), r.2)) ∧ (∀ (M : Mem) (r : Int32 × Mem), rc 4 M = some r → MetX shB l G yX9_term cX9_term 2 (some .int) (D - 1) [.ref 0] M (some (.int r.1), r.2)) ∧ (∀ (M : Mem) (r : Int32 × Mem), rc 5 M = some r → MetX shB l G yX9_atom cX9_atom 2 (some .int) (D - 1) [.ref 0] M (some (.int r.1), r.2))) (hrec5 : ∀ (M : Mem) (x1 : Int32), rec5 M x1 = some r → XJ shB p l e (rmX D) s m args below meth c 0 0 G 4 (MQ below (QcX shB G ((some (.int r.1), r.2) : Option Value × Mem).1 ((some (.int r.1), r.2) : Option Value × Mem).2) args s 0 0 (AW shB G.2.1)) 5 [(0, .ref 0), (1, .int x1)] [] M) {M : Mem} {x1 : Int32} (h : F9_added_l5_b rc rec5 M x1 = some r) : XJ shB p l e (rmX D) s m args below meth c 0 0 G 4 (MQ below (QcX shB G ((some (.int r.1), r.2) : Option Value × Mem).1 ((some (.int r.1), r.2) : Option Value × Mem).2) args s 0 0 (AW shB G.2.1)) 5 [(0, .ref 0), (1, .int x1)] [] M := by
  unfold F9_added_l5_b at h
  refine X_aload_n F dX9_added_5 rfl ?_
  refine X_bipush F dX9_added_6 (v := (43 : Int32)) rfl ?_
  obtain ⟨r3, h4, h⟩ := bndS h
  refine X_callV (ci := 0) (As := [.int (43 : Int32)]) (rest := []) F fkRX9_215 feX9_isSign fvX9_isSign ⟨_, _, _, rfl, rfl, rfl⟩ (F9_isSign_met (D := D - 1) F.2.2.2.2.2.2.2.1 (by omega) h4) rfl rfl (Nat.le_of_ble_eq_true rfl) (rm_ok (by omega) (by decide)) dX9_added_8 ?_
  show XJ shB p l e (rmX D) s m args below meth c 0 0 G 4 (MQ below (QcX shB G ((some (.int r.1), r.2) : Option Value × Mem).1 ((some (.int r.1), r.2) : Option Value × Mem).2) args s 0 0 (AW shB G.2.1)) 11 [(0, .ref 0), (1, .int x1)] [.int r3.1] r3.2
  refine X_if_ne (tgt := 23) F dX9_added_11 (by decide) (fun q5 => ?_) (fun q5 => ?_)
  · rw [if_pos q5] at h
    exact F9_added_j23_ok F hr hlk hD hrc hrec5 h
  · rw [if_neg (fun z => z q5)] at h
    refine X_aload_n F dX9_added_14 rfl ?_
    refine X_bipush F dX9_added_15 (v := (45 : Int32)) rfl ?_
    obtain ⟨r6, h7, h⟩ := bndS h
    refine X_callV (ci := 0) (As := [.int (45 : Int32)]) (rest := []) F fkRX9_215 feX9_isSign fvX9_isSign ⟨_, _, _, rfl, rfl, rfl⟩ (F9_isSign_met (D := D - 1) F.2.2.2.2.2.2.2.1 (by omega) h7) rfl rfl (Nat.le_of_ble_eq_true rfl) (rm_ok (by omega) (by decide)) dX9_added_17 ?_
    show XJ shB p l e (rmX D) s m args below meth c 0 0 G 4 (MQ below (QcX shB G ((some (.int r.1), r.2) : Option Value × Mem).1 ((some (.int r.1), r.2) : Option Value × Mem).2) args s 0 0 (AW shB G.2.1)) 20 [(0, .ref 0), (1, .int x1)] [.int r6.1] r6.2
    refine X_if_eq (tgt := 66) F dX9_added_20 (by decide) (fun q8 => ?_) (fun q8 => ?_)
    · rw [if_pos q8] at h
      refine X_iload_n F dX9_added_66 rfl ?_
      exact X_iret F hr hlk (retI h) dX9_added_67
    · rw [if_neg q8] at h
      exact F9_added_j23_ok F hr hlk hD hrc hrec5 h
set_option maxRecDepth 20000 in
theorem F9_added_l5_ok {p : Program} {l : Launch} {e : Env} {s : State} {m : MethodId} {args : Array Value} {below : List Frame} {meth : Method} {c : Code} {G : GG} {D : Nat} {r : Int32 × Mem} {rc : Nat → Mem → Option (Int32 × Mem)} (F : FrP shB G p s m args c RX9 cX9_added 4) (hr : meth.sig.returnType = (some .int)) (hlk : meth.locks = false) (hD : 5 ≤ D) (hrc : (∀ (M : Mem) (r : Int32 × Mem), rc 0 M = some r → MetX shB l G yX9_either cX9_either 3 (some .int) (D - 1) [.ref 0] M (some (.int r.1), r.2)) ∧ (∀ (M : Mem) (r : Int32 × Mem), rc 1 M = some r → MetX shB l G yX9_both cX9_both 3 (some .int) (D - 1) [.ref 0] M (some (.int r.1), r.2)) ∧ (∀ (M : Mem) (r : Int32 × Mem), rc 2 M = some r → MetX shB l G yX9_not cX9_not 4 (some .int) (D - 1) [.ref 0] M (some (.int r.1), r.2)) ∧ (∀ (M : Mem) (r : Int32 × Mem), rc 3 M = some r → MetX shB l G yX9_added cX9_added 4 (some .int) (D - 1) [.ref 0] M (some (.int r.1), r.2)) ∧ (∀ (M : Mem) (r : Int32 × Mem), rc 4 M = some r → MetX shB l G yX9_term cX9_term 2 (some .int) (D - 1) [.ref 0] M (some (.int r.1), r.2)) ∧ (∀ (M : Mem) (r : Int32 × Mem), rc 5 M = some r → MetX shB l G yX9_atom cX9_atom 2 (some .int) (D - 1) [.ref 0] M (some (.int r.1), r.2))) : ∀ (fu : Nat) (M : Mem) (x1 : Int32), F9_added_l5 rc fu M x1 = some r → XJ shB p l e (rmX D) s m args below meth c 0 0 G 4 (MQ below (QcX shB G ((some (.int r.1), r.2) : Option Value × Mem).1 ((some (.int r.1), r.2) : Option Value × Mem).2) args s 0 0 (AW shB G.2.1)) 5 [(0, .ref 0), (1, .int x1)] [] M := by
  intro fu
  induction fu with
  | zero => intro M x1 h; cases h
  | succ fu ih => intro M x1 h; exact F9_added_l5_bok F hr hlk hD hrc (fun M x1 => ih M x1) h
set_option maxRecDepth 20000 in
theorem F9_added_ok {p : Program} {l : Launch} {e : Env} {s : State} {m : MethodId} {args : Array Value} {below : List Frame} {meth : Method} {c : Code} {G : GG} {D : Nat} {r : Int32 × Mem} {rc : Nat → Mem → Option (Int32 × Mem)} (F : FrP shB G p s m args c RX9 cX9_added 4) (hr : meth.sig.returnType = (some .int)) (hlk : meth.locks = false) (hD : 5 ≤ D) (hrc : (∀ (M : Mem) (r : Int32 × Mem), rc 0 M = some r → MetX shB l G yX9_either cX9_either 3 (some .int) (D - 1) [.ref 0] M (some (.int r.1), r.2)) ∧ (∀ (M : Mem) (r : Int32 × Mem), rc 1 M = some r → MetX shB l G yX9_both cX9_both 3 (some .int) (D - 1) [.ref 0] M (some (.int r.1), r.2)) ∧ (∀ (M : Mem) (r : Int32 × Mem), rc 2 M = some r → MetX shB l G yX9_not cX9_not 4 (some .int) (D - 1) [.ref 0] M (some (.int r.1), r.2)) ∧ (∀ (M : Mem) (r : Int32 × Mem), rc 3 M = some r → MetX shB l G yX9_added cX9_added 4 (some .int) (D - 1) [.ref 0] M (some (.int r.1), r.2)) ∧ (∀ (M : Mem) (r : Int32 × Mem), rc 4 M = some r → MetX shB l G yX9_term cX9_term 2 (some .int) (D - 1) [.ref 0] M (some (.int r.1), r.2)) ∧ (∀ (M : Mem) (r : Int32 × Mem), rc 5 M = some r → MetX shB l G yX9_atom cX9_atom 2 (some .int) (D - 1) [.ref 0] M (some (.int r.1), r.2))) {M : Mem} (h : F9_added rc M = some r) : XJ shB p l e (rmX D) s m args below meth c 0 0 G 4 (MQ below (QcX shB G ((some (.int r.1), r.2) : Option Value × Mem).1 ((some (.int r.1), r.2) : Option Value × Mem).2) args s 0 0 (AW shB G.2.1)) 0 [(0, .ref 0)] [] M := by
  unfold F9_added at h
  refine X_aload_n F dX9_added_0 rfl ?_
  obtain ⟨r1, h2, h⟩ := bndS h
  refine X_callV (ci := 0) (As := []) (rest := []) F fkRX9_232 feX9_term fvX9_term ⟨_, _, _, rfl, rfl, rfl⟩ (hrc.2.2.2.2.1 _ _ h2) rfl rfl (Nat.le_of_ble_eq_true rfl) (rm_ok (by omega) (by decide)) dX9_added_1 ?_
  show XJ shB p l e (rmX D) s m args below meth c 0 0 G 4 (MQ below (QcX shB G ((some (.int r.1), r.2) : Option Value × Mem).1 ((some (.int r.1), r.2) : Option Value × Mem).2) args s 0 0 (AW shB G.2.1)) 4 [(0, .ref 0)] [.int r1.1] r1.2
  refine X_istore_n F dX9_added_4 (by decide) rfl ?_
  refine X_pick [1, 0] rfl ?_
  exact F9_added_l5_ok F hr hlk hD hrc FUEL _ _ h
set_option maxRecDepth 20000 in
theorem F9_term_l5_bok {p : Program} {l : Launch} {e : Env} {s : State} {m : MethodId} {args : Array Value} {below : List Frame} {meth : Method} {c : Code} {G : GG} {D : Nat} {r : Int32 × Mem} {rc : Nat → Mem → Option (Int32 × Mem)} {rec5 : Mem → Int32 → Option (Int32 × Mem)} (F : FrP shB G p s m args c RX9 cX9_term 2) (hr : meth.sig.returnType = (some .int)) (hlk : meth.locks = false) (hD : 5 ≤ D) (hrc : (∀ (M : Mem) (r : Int32 × Mem), rc 0 M = some r → MetX shB l G yX9_either cX9_either 3 (some .int) (D - 1) [.ref 0] M (some (.int r.1), r.2)) ∧ (∀ (M : Mem) (r : Int32 × Mem), rc 1 M = some r → MetX shB l G yX9_both cX9_both 3 (some .int) (D - 1) [.ref 0] M (some (.int r.1), r.2)) ∧ (∀ (M : Mem) (r : Int32 × Mem), rc 2 M = some r → MetX shB l G yX9_not cX9_not 4 (some .int) (D - 1) [.ref 0] M (some (.int r.1), r.2)) ∧ (∀ (M : Mem) (r : Int32 × Mem), rc 3 M = some r → MetX shB l G yX9_added cX9_added 4 (some .int) (D - 1) [.ref 0] M (some (.int r.1), r.2)) ∧ (∀ (M : Mem) (r : Int32 × Mem), rc 4 M = some r → MetX shB l G yX9_term cX9_term 2 (some .int) (D - 1) [.ref 0] M (some (.int r.1), r.2)) ∧ (∀ (M : Mem) (r : Int32 × Mem), rc 5 M = some r → MetX shB l G yX9_atom cX9_atom 2 (some .int) (D - 1) [.ref 0] M (some (.int r.1), r.2))) (hrec5 : ∀ (M : Mem) (x1 : Int32), rec5 M x1 = some r → XJ shB p l e (rmX D) s m args below meth c 0 0 G 2 (MQ below (QcX shB G ((some (.int r.1), r.2) : Option Value × Mem).1 ((some (.int r.1), r.2) : Option Value × Mem).2) args s 0 0 (AW shB G.2.1)) 5 [(0, .ref 0), (1, .int x1)] [] M) {M : Mem} {x1 : Int32} (h : F9_term_l5_b rc rec5 M x1 = some r) : XJ shB p l e (rmX D) s m args below meth c 0 0 G 2 (MQ below (QcX shB G ((some (.int r.1), r.2) : Option Value × Mem).1 ((some (.int r.1), r.2) : Option Value × Mem).2) args s 0 0 (AW shB G.2.1)) 5 [(0, .ref 0), (1, .int x1)] [] M := by
  unfold F9_term_l5_b at h
  refine X_aload_n F dX9_term_5 rfl ?_
  refine X_bipush F dX9_term_6 (v := (42 : Int32)) rfl ?_
  obtain ⟨r3, h4, h⟩ := bndS h
  refine X_callV (ci := 0) (As := [.int (42 : Int32)]) (rest := []) F fkRX9_215 feX9_isSign fvX9_isSign ⟨_, _, _, rfl, rfl, rfl⟩ (F9_isSign_met (D := D - 1) F.2.2.2.2.2.2.2.1 (by omega) h4) rfl rfl (Nat.le_of_ble_eq_true rfl) (rm_ok (by omega) (by decide)) dX9_term_8 ?_
  show XJ shB p l e (rmX D) s m args below meth c 0 0 G 2 (MQ below (QcX shB G ((some (.int r.1), r.2) : Option Value × Mem).1 ((some (.int r.1), r.2) : Option Value × Mem).2) args s 0 0 (AW shB G.2.1)) 11 [(0, .ref 0), (1, .int x1)] [.int r3.1] r3.2
  refine X_if_eq (tgt := 28) F dX9_term_11 (by decide) (fun q5 => ?_) (fun q5 => ?_)
  · rw [if_pos q5] at h
    refine X_iload_n F dX9_term_28 rfl ?_
    exact X_iret F hr hlk (retI h) dX9_term_29
  · rw [if_neg q5] at h
    refine X_aload_n F dX9_term_14 rfl ?_
    obtain ⟨r6, h7, h⟩ := bndS h
    refine X_callV (ci := 0) (As := []) (rest := []) F fkRX9_190 feX9_next fvX9_next ⟨_, _, _, rfl, rfl, rfl⟩ (F9_next_met (D := D - 1) F.2.2.2.2.2.2.2.1 (by omega) h7) rfl rfl (Nat.le_of_ble_eq_true rfl) (rm_ok (by omega) (by decide)) dX9_term_15 ?_
    show XJ shB p l e (rmX D) s m args below meth c 0 0 G 2 (MQ below (QcX shB G ((some (.int r.1), r.2) : Option Value × Mem).1 ((some (.int r.1), r.2) : Option Value × Mem).2) args s 0 0 (AW shB G.2.1)) 18 [(0, .ref 0), (1, .int x1)] [] r6.2
    refine X_iload_n F dX9_term_18 rfl ?_
    refine X_aload_n F dX9_term_19 rfl ?_
    obtain ⟨r8, h9, h⟩ := bndS h
    refine X_callV (ci := 0) (As := []) (rest := [.int x1]) F fkRX9_222 feX9_atom fvX9_atom ⟨_, _, _, rfl, rfl, rfl⟩ (hrc.2.2.2.2.2 _ _ h9) rfl rfl (Nat.le_of_ble_eq_true rfl) (rm_ok (by omega) (by decide)) dX9_term_20 ?_
    show XJ shB p l e (rmX D) s m args below meth c 0 0 G 2 (MQ below (QcX shB G ((some (.int r.1), r.2) : Option Value × Mem).1 ((some (.int r.1), r.2) : Option Value × Mem).2) args s 0 0 (AW shB G.2.1)) 23 [(0, .ref 0), (1, .int x1)] [.int r8.1, .int x1] r8.2
    refine X_imul F dX9_term_23 ?_
    refine X_istore_n F dX9_term_24 (by decide) rfl ?_
    refine X_goto (tgt := 5) F dX9_term_25 (by decide) ?_
    refine X_pick [1, 0] rfl ?_
    exact hrec5 _ _ h
set_option maxRecDepth 20000 in
theorem F9_term_l5_ok {p : Program} {l : Launch} {e : Env} {s : State} {m : MethodId} {args : Array Value} {below : List Frame} {meth : Method} {c : Code} {G : GG} {D : Nat} {r : Int32 × Mem} {rc : Nat → Mem → Option (Int32 × Mem)} (F : FrP shB G p s m args c RX9 cX9_term 2) (hr : meth.sig.returnType = (some .int)) (hlk : meth.locks = false) (hD : 5 ≤ D) (hrc : (∀ (M : Mem) (r : Int32 × Mem), rc 0 M = some r → MetX shB l G yX9_either cX9_either 3 (some .int) (D - 1) [.ref 0] M (some (.int r.1), r.2)) ∧ (∀ (M : Mem) (r : Int32 × Mem), rc 1 M = some r → MetX shB l G yX9_both cX9_both 3 (some .int) (D - 1) [.ref 0] M (some (.int r.1), r.2)) ∧ (∀ (M : Mem) (r : Int32 × Mem), rc 2 M = some r → MetX shB l G yX9_not cX9_not 4 (some .int) (D - 1) [.ref 0] M (some (.int r.1), r.2)) ∧ (∀ (M : Mem) (r : Int32 × Mem), rc 3 M = some r → MetX shB l G yX9_added cX9_added 4 (some .int) (D - 1) [.ref 0] M (some (.int r.1), r.2)) ∧ (∀ (M : Mem) (r : Int32 × Mem), rc 4 M = some r → MetX shB l G yX9_term cX9_term 2 (some .int) (D - 1) [.ref 0] M (some (.int r.1), r.2)) ∧ (∀ (M : Mem) (r : Int32 × Mem), rc 5 M = some r → MetX shB l G yX9_atom cX9_atom 2 (some .int) (D - 1) [.ref 0] M (some (.int r.1), r.2))) : ∀ (fu : Nat) (M : Mem) (x1 : Int32), F9_term_l5 rc fu M x1 = some r → XJ shB p l e (rmX D) s m args below meth c 0 0 G 2 (MQ below (QcX shB G ((some (.int r.1), r.2) : Option Value × Mem).1 ((some (.int r.1), r.2) : Option Value × Mem).2) args s 0 0 (AW shB G.2.1)) 5 [(0, .ref 0), (1, .int x1)] [] M := by
  intro fu
  induction fu with
  | zero => intro M x1 h; cases h
  | succ fu ih => intro M x1 h; exact F9_term_l5_bok F hr hlk hD hrc (fun M x1 => ih M x1) h
set_option maxRecDepth 20000 in
theorem F9_term_ok {p : Program} {l : Launch} {e : Env} {s : State} {m : MethodId} {args : Array Value} {below : List Frame} {meth : Method} {c : Code} {G : GG} {D : Nat} {r : Int32 × Mem} {rc : Nat → Mem → Option (Int32 × Mem)} (F : FrP shB G p s m args c RX9 cX9_term 2) (hr : meth.sig.returnType = (some .int)) (hlk : meth.locks = false) (hD : 5 ≤ D) (hrc : (∀ (M : Mem) (r : Int32 × Mem), rc 0 M = some r → MetX shB l G yX9_either cX9_either 3 (some .int) (D - 1) [.ref 0] M (some (.int r.1), r.2)) ∧ (∀ (M : Mem) (r : Int32 × Mem), rc 1 M = some r → MetX shB l G yX9_both cX9_both 3 (some .int) (D - 1) [.ref 0] M (some (.int r.1), r.2)) ∧ (∀ (M : Mem) (r : Int32 × Mem), rc 2 M = some r → MetX shB l G yX9_not cX9_not 4 (some .int) (D - 1) [.ref 0] M (some (.int r.1), r.2)) ∧ (∀ (M : Mem) (r : Int32 × Mem), rc 3 M = some r → MetX shB l G yX9_added cX9_added 4 (some .int) (D - 1) [.ref 0] M (some (.int r.1), r.2)) ∧ (∀ (M : Mem) (r : Int32 × Mem), rc 4 M = some r → MetX shB l G yX9_term cX9_term 2 (some .int) (D - 1) [.ref 0] M (some (.int r.1), r.2)) ∧ (∀ (M : Mem) (r : Int32 × Mem), rc 5 M = some r → MetX shB l G yX9_atom cX9_atom 2 (some .int) (D - 1) [.ref 0] M (some (.int r.1), r.2))) {M : Mem} (h : F9_term rc M = some r) : XJ shB p l e (rmX D) s m args below meth c 0 0 G 2 (MQ below (QcX shB G ((some (.int r.1), r.2) : Option Value × Mem).1 ((some (.int r.1), r.2) : Option Value × Mem).2) args s 0 0 (AW shB G.2.1)) 0 [(0, .ref 0)] [] M := by
  unfold F9_term at h
  refine X_aload_n F dX9_term_0 rfl ?_
  obtain ⟨r1, h2, h⟩ := bndS h
  refine X_callV (ci := 0) (As := []) (rest := []) F fkRX9_222 feX9_atom fvX9_atom ⟨_, _, _, rfl, rfl, rfl⟩ (hrc.2.2.2.2.2 _ _ h2) rfl rfl (Nat.le_of_ble_eq_true rfl) (rm_ok (by omega) (by decide)) dX9_term_1 ?_
  show XJ shB p l e (rmX D) s m args below meth c 0 0 G 2 (MQ below (QcX shB G ((some (.int r.1), r.2) : Option Value × Mem).1 ((some (.int r.1), r.2) : Option Value × Mem).2) args s 0 0 (AW shB G.2.1)) 4 [(0, .ref 0)] [.int r1.1] r1.2
  refine X_istore_n F dX9_term_4 (by decide) rfl ?_
  refine X_pick [1, 0] rfl ?_
  exact F9_term_l5_ok F hr hlk hD hrc FUEL _ _ h
set_option maxRecDepth 20000 in
theorem F9_atom_j157_ok {p : Program} {l : Launch} {e : Env} {s : State} {m : MethodId} {args : Array Value} {below : List Frame} {meth : Method} {c : Code} {G : GG} {D : Nat} {r : Int32 × Mem} {rc : Nat → Mem → Option (Int32 × Mem)} (F : FrP shB G p s m args c RX9 cX9_atom 2) (hr : meth.sig.returnType = (some .int)) (hlk : meth.locks = false) (hD : 5 ≤ D) (hrc : (∀ (M : Mem) (r : Int32 × Mem), rc 0 M = some r → MetX shB l G yX9_either cX9_either 3 (some .int) (D - 1) [.ref 0] M (some (.int r.1), r.2)) ∧ (∀ (M : Mem) (r : Int32 × Mem), rc 1 M = some r → MetX shB l G yX9_both cX9_both 3 (some .int) (D - 1) [.ref 0] M (some (.int r.1), r.2)) ∧ (∀ (M : Mem) (r : Int32 × Mem), rc 2 M = some r → MetX shB l G yX9_not cX9_not 4 (some .int) (D - 1) [.ref 0] M (some (.int r.1), r.2)) ∧ (∀ (M : Mem) (r : Int32 × Mem), rc 3 M = some r → MetX shB l G yX9_added cX9_added 4 (some .int) (D - 1) [.ref 0] M (some (.int r.1), r.2)) ∧ (∀ (M : Mem) (r : Int32 × Mem), rc 4 M = some r → MetX shB l G yX9_term cX9_term 2 (some .int) (D - 1) [.ref 0] M (some (.int r.1), r.2)) ∧ (∀ (M : Mem) (r : Int32 × Mem), rc 5 M = some r → MetX shB l G yX9_atom cX9_atom 2 (some .int) (D - 1) [.ref 0] M (some (.int r.1), r.2))) {M : Mem} {x1 : Int32} (h : F9_atom_j157 rc M x1 = some r) : XJ shB p l e (rmX D) s m args below meth c 0 0 G 2 (MQ below (QcX shB G ((some (.int r.1), r.2) : Option Value × Mem).1 ((some (.int r.1), r.2) : Option Value × Mem).2) args s 0 0 (AW shB G.2.1)) 157 [(0, .ref 0), (1, .int x1)] [] M := by
  unfold F9_atom_j157 at h
  refine X_aload_n F dX9_atom_157 rfl ?_
  obtain ⟨r36, h37, h⟩ := bndS h
  refine X_callV (ci := 0) (As := []) (rest := []) F fkRX9_187 feX9_fail fvX9_fail ⟨_, _, _, rfl, rfl, rfl⟩ (F9_fail_met (D := D - 1) F.2.2.2.2.2.2.2.1 (by omega) h37) rfl rfl (Nat.le_of_ble_eq_true rfl) (rm_ok (by omega) (by decide)) dX9_atom_158 ?_
  show XJ shB p l e (rmX D) s m args below meth c 0 0 G 2 (MQ below (QcX shB G ((some (.int r.1), r.2) : Option Value × Mem).1 ((some (.int r.1), r.2) : Option Value × Mem).2) args s 0 0 (AW shB G.2.1)) 161 [(0, .ref 0), (1, .int x1)] [] r36.2
  refine X_iload_n F dX9_atom_161 rfl ?_
  exact X_iret F hr hlk (retI h) dX9_atom_162
set_option maxRecDepth 20000 in
theorem F9_atom_j123_ok {p : Program} {l : Launch} {e : Env} {s : State} {m : MethodId} {args : Array Value} {below : List Frame} {meth : Method} {c : Code} {G : GG} {D : Nat} {r : Int32 × Mem} {rc : Nat → Mem → Option (Int32 × Mem)} (F : FrP shB G p s m args c RX9 cX9_atom 2) (hr : meth.sig.returnType = (some .int)) (hlk : meth.locks = false) (hD : 5 ≤ D) (hrc : (∀ (M : Mem) (r : Int32 × Mem), rc 0 M = some r → MetX shB l G yX9_either cX9_either 3 (some .int) (D - 1) [.ref 0] M (some (.int r.1), r.2)) ∧ (∀ (M : Mem) (r : Int32 × Mem), rc 1 M = some r → MetX shB l G yX9_both cX9_both 3 (some .int) (D - 1) [.ref 0] M (some (.int r.1), r.2)) ∧ (∀ (M : Mem) (r : Int32 × Mem), rc 2 M = some r → MetX shB l G yX9_not cX9_not 4 (some .int) (D - 1) [.ref 0] M (some (.int r.1), r.2)) ∧ (∀ (M : Mem) (r : Int32 × Mem), rc 3 M = some r → MetX shB l G yX9_added cX9_added 4 (some .int) (D - 1) [.ref 0] M (some (.int r.1), r.2)) ∧ (∀ (M : Mem) (r : Int32 × Mem), rc 4 M = some r → MetX shB l G yX9_term cX9_term 2 (some .int) (D - 1) [.ref 0] M (some (.int r.1), r.2)) ∧ (∀ (M : Mem) (r : Int32 × Mem), rc 5 M = some r → MetX shB l G yX9_atom cX9_atom 2 (some .int) (D - 1) [.ref 0] M (some (.int r.1), r.2))) {M : Mem} {x1 : Int32} (h : F9_atom_j123 rc M x1 = some r) : XJ shB p l e (rmX D) s m args below meth c 0 0 G 2 (MQ below (QcX shB G ((some (.int r.1), r.2) : Option Value × Mem).1 ((some (.int r.1), r.2) : Option Value × Mem).2) args s 0 0 (AW shB G.2.1)) 123 [(0, .ref 0), (1, .int x1)] [] M := by
  unfold F9_atom_j123 at h
  refine X_aload_n F dX9_atom_123 rfl ?_
  refine X_geti (v := (M 0 30)) F ffRX9_173 dX9_atom_124 rfl ?_
  refine X_if_ne (tgt := 157) F dX9_atom_127 (by decide) (fun q29 => ?_) (fun q29 => ?_)
  · rw [if_pos q29] at h
    exact F9_atom_j157_ok F hr hlk hD hrc h
  · rw [if_neg (fun z => z q29)] at h
    refine X_aload_n F dX9_atom_130 rfl ?_
    refine X_geti (v := (M 0 26)) F ffRX9_156 dX9_atom_131 rfl ?_
    refine X_iconst F dX9_atom_134 (v := (1 : Int32)) rfl ?_
    refine X_icmp_ne (tgt := 157) F dX9_atom_135 (by decide) (fun q30 => ?_) (fun q30 => ?_)
    · rw [if_pos q30] at h
      exact F9_atom_j157_ok F hr hlk hD hrc h
    · rw [if_neg (fun z => z q30)] at h
      refine X_aload_n F dX9_atom_138 rfl ?_
      obtain ⟨r31, h32, h⟩ := bndS h
      refine X_callV (ci := 0) (As := []) (rest := []) F fkRX9_229 feX9_name fvX9_name ⟨_, _, _, rfl, rfl, rfl⟩ (F9_name_met (D := D - 1) F.2.2.2.2.2.2.2.1 (by omega) h32) rfl rfl (Nat.le_of_ble_eq_true rfl) (rm_ok (by omega) (by decide)) dX9_atom_139 ?_
      show XJ shB p l e (rmX D) s m args below meth c 0 0 G 2 (MQ below (QcX shB G ((some (.int r.1), r.2) : Option Value × Mem).1 ((some (.int r.1), r.2) : Option Value × Mem).2) args s 0 0 (AW shB G.2.1)) 142 [(0, .ref 0), (1, .int x1)] [.int r31.1] r31.2
      refine X_istore_n F dX9_atom_142 (by decide) rfl ?_
      refine X_aload_n F dX9_atom_143 rfl ?_
      refine X_geti (v := (r31.2 0 30)) F ffRX9_173 dX9_atom_144 rfl ?_
      refine X_if_ne (tgt := 161) F dX9_atom_147 (by decide) (fun q33 => ?_) (fun q33 => ?_)
      · rw [if_pos q33] at h
        refine X_iload_n F dX9_atom_161 rfl ?_
        exact X_iret F hr hlk (retI h) dX9_atom_162
      · rw [if_neg (fun z => z q33)] at h
        refine X_aload_n F dX9_atom_150 rfl ?_
        obtain ⟨r34, h35, h⟩ := bndS h
        refine X_callV (ci := 0) (As := []) (rest := []) F fkRX9_190 feX9_next fvX9_next ⟨_, _, _, rfl, rfl, rfl⟩ (F9_next_met (D := D - 1) F.2.2.2.2.2.2.2.1 (by omega) h35) rfl rfl (Nat.le_of_ble_eq_true rfl) (rm_ok (by omega) (by decide)) dX9_atom_151 ?_
        show XJ shB p l e (rmX D) s m args below meth c 0 0 G 2 (MQ below (QcX shB G ((some (.int r.1), r.2) : Option Value × Mem).1 ((some (.int r.1), r.2) : Option Value × Mem).2) args s 0 0 (AW shB G.2.1)) 154 [(1, .int r31.1), (0, .ref 0)] [] r34.2
        refine X_goto (tgt := 161) F dX9_atom_154 (by decide) ?_
        refine X_iload_n F dX9_atom_161 rfl ?_
        exact X_iret F hr hlk (retI h) dX9_atom_162
set_option maxRecDepth 20000 in
theorem F9_atom_j71_ok {p : Program} {l : Launch} {e : Env} {s : State} {m : MethodId} {args : Array Value} {below : List Frame} {meth : Method} {c : Code} {G : GG} {D : Nat} {r : Int32 × Mem} {rc : Nat → Mem → Option (Int32 × Mem)} (F : FrP shB G p s m args c RX9 cX9_atom 2) (hr : meth.sig.returnType = (some .int)) (hlk : meth.locks = false) (hD : 5 ≤ D) (hrc : (∀ (M : Mem) (r : Int32 × Mem), rc 0 M = some r → MetX shB l G yX9_either cX9_either 3 (some .int) (D - 1) [.ref 0] M (some (.int r.1), r.2)) ∧ (∀ (M : Mem) (r : Int32 × Mem), rc 1 M = some r → MetX shB l G yX9_both cX9_both 3 (some .int) (D - 1) [.ref 0] M (some (.int r.1), r.2)) ∧ (∀ (M : Mem) (r : Int32 × Mem), rc 2 M = some r → MetX shB l G yX9_not cX9_not 4 (some .int) (D - 1) [.ref 0] M (some (.int r.1), r.2)) ∧ (∀ (M : Mem) (r : Int32 × Mem), rc 3 M = some r → MetX shB l G yX9_added cX9_added 4 (some .int) (D - 1) [.ref 0] M (some (.int r.1), r.2)) ∧ (∀ (M : Mem) (r : Int32 × Mem), rc 4 M = some r → MetX shB l G yX9_term cX9_term 2 (some .int) (D - 1) [.ref 0] M (some (.int r.1), r.2)) ∧ (∀ (M : Mem) (r : Int32 × Mem), rc 5 M = some r → MetX shB l G yX9_atom cX9_atom 2 (some .int) (D - 1) [.ref 0] M (some (.int r.1), r.2))) {M : Mem} {x1 : Int32} (h : F9_atom_j71 rc M x1 = some r) : XJ shB p l e (rmX D) s m args below meth c 0 0 G 2 (MQ below (QcX shB G ((some (.int r.1), r.2) : Option Value × Mem).1 ((some (.int r.1), r.2) : Option Value × Mem).2) args s 0 0 (AW shB G.2.1)) 71 [(0, .ref 0), (1, .int x1)] [] M := by
  unfold F9_atom_j71 at h
  refine X_aload_n F dX9_atom_71 rfl ?_
  refine X_dup F dX9_atom_72 rfl ?_
  refine X_geti (v := (M 0 29)) F ffRX9_184 dX9_atom_73 rfl ?_
  refine X_iconst F dX9_atom_76 (v := (1 : Int32)) rfl ?_
  refine X_isub F dX9_atom_77 ?_
  refine X_puti F ffRX9_184 fw9_29 (by decide) dX9_atom_78 ?_
  refine X_aload_n F dX9_atom_81 rfl ?_
  refine X_geti (v := (M 0 30)) F ffRX9_173 dX9_atom_82 rfl ?_
  refine X_if_ne (tgt := 161) F dX9_atom_85 (by decide) (fun q26 => ?_) (fun q26 => ?_)
  · rw [if_pos q26] at h
    refine X_iload_n F dX9_atom_161 rfl ?_
    exact X_iret F hr hlk (retI h) dX9_atom_162
  · rw [if_neg (fun z => z q26)] at h
    refine X_aload_n F dX9_atom_88 rfl ?_
    obtain ⟨r27, h28, h⟩ := bndS h
    refine X_callV (ci := 0) (As := []) (rest := []) F fkRX9_190 feX9_next fvX9_next ⟨_, _, _, rfl, rfl, rfl⟩ (F9_next_met (D := D - 1) F.2.2.2.2.2.2.2.1 (by omega) h28) rfl rfl (Nat.le_of_ble_eq_true rfl) (rm_ok (by omega) (by decide)) dX9_atom_89 ?_
    show XJ shB p l e (rmX D) s m args below meth c 0 0 G 2 (MQ below (QcX shB G ((some (.int r.1), r.2) : Option Value × Mem).1 ((some (.int r.1), r.2) : Option Value × Mem).2) args s 0 0 (AW shB G.2.1)) 92 [(0, .ref 0), (1, .int x1)] [] r27.2
    refine X_goto (tgt := 161) F dX9_atom_92 (by decide) ?_
    refine X_iload_n F dX9_atom_161 rfl ?_
    exact X_iret F hr hlk (retI h) dX9_atom_162
set_option maxRecDepth 20000 in
theorem F9_atom_ok {p : Program} {l : Launch} {e : Env} {s : State} {m : MethodId} {args : Array Value} {below : List Frame} {meth : Method} {c : Code} {G : GG} {D : Nat} {r : Int32 × Mem} {rc : Nat → Mem → Option (Int32 × Mem)} (F : FrP shB G p s m args c RX9 cX9_atom 2) (hr : meth.sig.returnType = (some .int)) (hlk : meth.locks = false) (hD : 5 ≤ D) (hrc : (∀ (M : Mem) (r : Int32 × Mem), rc 0 M = some r → MetX shB l G yX9_either cX9_either 3 (some .int) (D - 1) [.ref 0] M (some (.int r.1), r.2)) ∧ (∀ (M : Mem) (r : Int32 × Mem), rc 1 M = some r → MetX shB l G yX9_both cX9_both 3 (some .int) (D - 1) [.ref 0] M (some (.int r.1), r.2)) ∧ (∀ (M : Mem) (r : Int32 × Mem), rc 2 M = some r → MetX shB l G yX9_not cX9_not 4 (some .int) (D - 1) [.ref 0] M (some (.int r.1), r.2)) ∧ (∀ (M : Mem) (r : Int32 × Mem), rc 3 M = some r → MetX shB l G yX9_added cX9_added 4 (some .int) (D - 1) [.ref 0] M (some (.int r.1), r.2)) ∧ (∀ (M : Mem) (r : Int32 × Mem), rc 4 M = some r → MetX shB l G yX9_term cX9_term 2 (some .int) (D - 1) [.ref 0] M (some (.int r.1), r.2)) ∧ (∀ (M : Mem) (r : Int32 × Mem), rc 5 M = some r → MetX shB l G yX9_atom cX9_atom 2 (some .int) (D - 1) [.ref 0] M (some (.int r.1), r.2))) {M : Mem} (h : F9_atom rc M = some r) : XJ shB p l e (rmX D) s m args below meth c 0 0 G 2 (MQ below (QcX shB G ((some (.int r.1), r.2) : Option Value × Mem).1 ((some (.int r.1), r.2) : Option Value × Mem).2) args s 0 0 (AW shB G.2.1)) 0 [(0, .ref 0)] [] M := by
  unfold F9_atom at h
  refine X_iconst F dX9_atom_0 (v := (0 : Int32)) rfl ?_
  refine X_istore_n F dX9_atom_1 (by decide) rfl ?_
  refine X_aload_n F dX9_atom_2 rfl ?_
  refine X_bipush F dX9_atom_3 (v := (45 : Int32)) rfl ?_
  obtain ⟨r1, h2, h⟩ := bndS h
  refine X_callV (ci := 0) (As := [.int (45 : Int32)]) (rest := []) F fkRX9_215 feX9_isSign fvX9_isSign ⟨_, _, _, rfl, rfl, rfl⟩ (F9_isSign_met (D := D - 1) F.2.2.2.2.2.2.2.1 (by omega) h2) rfl rfl (Nat.le_of_ble_eq_true rfl) (rm_ok (by omega) (by decide)) dX9_atom_5 ?_
  show XJ shB p l e (rmX D) s m args below meth c 0 0 G 2 (MQ below (QcX shB G ((some (.int r.1), r.2) : Option Value × Mem).1 ((some (.int r.1), r.2) : Option Value × Mem).2) args s 0 0 (AW shB G.2.1)) 8 [(1, .int (0 : Int32)), (0, .ref 0)] [.int r1.1] r1.2
  refine X_if_eq (tgt := 37) F dX9_atom_8 (by decide) (fun q3 => ?_) (fun q3 => ?_)
  · rw [if_pos q3] at h
    refine X_aload_n F dX9_atom_37 rfl ?_
    refine X_bipush F dX9_atom_38 (v := (40 : Int32)) rfl ?_
    obtain ⟨r4, h5, h⟩ := bndS h
    refine X_callV (ci := 0) (As := [.int (40 : Int32)]) (rest := []) F fkRX9_215 feX9_isSign fvX9_isSign ⟨_, _, _, rfl, rfl, rfl⟩ (F9_isSign_met (D := D - 1) F.2.2.2.2.2.2.2.1 (by omega) h5) rfl rfl (Nat.le_of_ble_eq_true rfl) (rm_ok (by omega) (by decide)) dX9_atom_40 ?_
    show XJ shB p l e (rmX D) s m args below meth c 0 0 G 2 (MQ below (QcX shB G ((some (.int r.1), r.2) : Option Value × Mem).1 ((some (.int r.1), r.2) : Option Value × Mem).2) args s 0 0 (AW shB G.2.1)) 43 [(1, .int (0 : Int32)), (0, .ref 0)] [.int r4.1] r4.2
    refine X_if_eq (tgt := 95) F dX9_atom_43 (by decide) (fun q6 => ?_) (fun q6 => ?_)
    · rw [if_pos q6] at h
      refine X_aload_n F dX9_atom_95 rfl ?_
      refine X_geti (v := (r4.2 0 30)) F ffRX9_173 dX9_atom_96 rfl ?_
      refine X_if_ne (tgt := 123) F dX9_atom_99 (by decide) (fun q7 => ?_) (fun q7 => ?_)
      · rw [if_pos q7] at h
        refine X_pick [1, 0] rfl ?_
        exact F9_atom_j123_ok F hr hlk hD hrc h
      · rw [if_neg (fun z => z q7)] at h
        refine X_aload_n F dX9_atom_102 rfl ?_
        refine X_geti (v := (r4.2 0 26)) F ffRX9_156 dX9_atom_103 rfl ?_
        refine X_iconst F dX9_atom_106 (v := (2 : Int32)) rfl ?_
        refine X_icmp_ne (tgt := 123) F dX9_atom_107 (by decide) (fun q8 => ?_) (fun q8 => ?_)
        · rw [if_pos q8] at h
          refine X_pick [1, 0] rfl ?_
          exact F9_atom_j123_ok F hr hlk hD hrc h
        · rw [if_neg (fun z => z q8)] at h
          refine X_aload_n F dX9_atom_110 rfl ?_
          refine X_getl (v := (gL r4.2 0 28)) F ffRX9_167 dX9_atom_111 rfl ?_
          refine X_l2i F dX9_atom_114 ?_
          refine X_istore_n F dX9_atom_115 (by decide) rfl ?_
          refine X_aload_n F dX9_atom_116 rfl ?_
          obtain ⟨r9, h10, h⟩ := bndS h
          refine X_callV (ci := 0) (As := []) (rest := []) F fkRX9_190 feX9_next fvX9_next ⟨_, _, _, rfl, rfl, rfl⟩ (F9_next_met (D := D - 1) F.2.2.2.2.2.2.2.1 (by omega) h10) rfl rfl (Nat.le_of_ble_eq_true rfl) (rm_ok (by omega) (by decide)) dX9_atom_117 ?_
          show XJ shB p l e (rmX D) s m args below meth c 0 0 G 2 (MQ below (QcX shB G ((some (.int r.1), r.2) : Option Value × Mem).1 ((some (.int r.1), r.2) : Option Value × Mem).2) args s 0 0 (AW shB G.2.1)) 120 [(1, .int (Int64.toInt32 (gL r4.2 0 28))), (0, .ref 0)] [] r9.2
          refine X_goto (tgt := 161) F dX9_atom_120 (by decide) ?_
          refine X_iload_n F dX9_atom_161 rfl ?_
          exact X_iret F hr hlk (retI h) dX9_atom_162
    · rw [if_neg q6] at h
      refine X_aload_n F dX9_atom_46 rfl ?_
      obtain ⟨r11, h12, h⟩ := bndS h
      refine X_callV (ci := 0) (As := []) (rest := []) F fkRX9_218 feX9_opens fvX9_opens ⟨_, _, _, rfl, rfl, rfl⟩ (F9_opens_met (D := D - 1) F.2.2.2.2.2.2.2.1 (by omega) h12) rfl rfl (Nat.le_of_ble_eq_true rfl) (rm_ok (by omega) (by decide)) dX9_atom_47 ?_
      show XJ shB p l e (rmX D) s m args below meth c 0 0 G 2 (MQ below (QcX shB G ((some (.int r.1), r.2) : Option Value × Mem).1 ((some (.int r.1), r.2) : Option Value × Mem).2) args s 0 0 (AW shB G.2.1)) 50 [(1, .int (0 : Int32)), (0, .ref 0)] [.int r11.1] r11.2
      refine X_if_eq (tgt := 161) F dX9_atom_50 (by decide) (fun q13 => ?_) (fun q13 => ?_)
      · rw [if_pos q13] at h
        refine X_iload_n F dX9_atom_161 rfl ?_
        exact X_iret F hr hlk (retI h) dX9_atom_162
      · rw [if_neg q13] at h
        refine X_aload_n F dX9_atom_53 rfl ?_
        obtain ⟨r14, h15, h⟩ := bndS h
        refine X_callV (ci := 0) (As := []) (rest := []) F fkRX9_226 feX9_either fvX9_either ⟨_, _, _, rfl, rfl, rfl⟩ (hrc.1 _ _ h15) rfl rfl (Nat.le_of_ble_eq_true rfl) (rm_ok (by omega) (by decide)) dX9_atom_54 ?_
        show XJ shB p l e (rmX D) s m args below meth c 0 0 G 2 (MQ below (QcX shB G ((some (.int r.1), r.2) : Option Value × Mem).1 ((some (.int r.1), r.2) : Option Value × Mem).2) args s 0 0 (AW shB G.2.1)) 57 [(1, .int (0 : Int32)), (0, .ref 0)] [.int r14.1] r14.2
        refine X_istore_n F dX9_atom_57 (by decide) rfl ?_
        refine X_aload_n F dX9_atom_58 rfl ?_
        refine X_bipush F dX9_atom_59 (v := (41 : Int32)) rfl ?_
        obtain ⟨r16, h17, h⟩ := bndS h
        refine X_callV (ci := 0) (As := [.int (41 : Int32)]) (rest := []) F fkRX9_215 feX9_isSign fvX9_isSign ⟨_, _, _, rfl, rfl, rfl⟩ (F9_isSign_met (D := D - 1) F.2.2.2.2.2.2.2.1 (by omega) h17) rfl rfl (Nat.le_of_ble_eq_true rfl) (rm_ok (by omega) (by decide)) dX9_atom_61 ?_
        show XJ shB p l e (rmX D) s m args below meth c 0 0 G 2 (MQ below (QcX shB G ((some (.int r.1), r.2) : Option Value × Mem).1 ((some (.int r.1), r.2) : Option Value × Mem).2) args s 0 0 (AW shB G.2.1)) 64 [(1, .int r14.1), (0, .ref 0)] [.int r16.1] r16.2
        refine X_if_ne (tgt := 71) F dX9_atom_64 (by decide) (fun q18 => ?_) (fun q18 => ?_)
        · rw [if_pos q18] at h
          refine X_pick [1, 0] rfl ?_
          exact F9_atom_j71_ok F hr hlk hD hrc h
        · rw [if_neg (fun z => z q18)] at h
          refine X_aload_n F dX9_atom_67 rfl ?_
          obtain ⟨r19, h20, h⟩ := bndS h
          refine X_callV (ci := 0) (As := []) (rest := []) F fkRX9_187 feX9_fail fvX9_fail ⟨_, _, _, rfl, rfl, rfl⟩ (F9_fail_met (D := D - 1) F.2.2.2.2.2.2.2.1 (by omega) h20) rfl rfl (Nat.le_of_ble_eq_true rfl) (rm_ok (by omega) (by decide)) dX9_atom_68 ?_
          show XJ shB p l e (rmX D) s m args below meth c 0 0 G 2 (MQ below (QcX shB G ((some (.int r.1), r.2) : Option Value × Mem).1 ((some (.int r.1), r.2) : Option Value × Mem).2) args s 0 0 (AW shB G.2.1)) 71 [(1, .int r14.1), (0, .ref 0)] [] r19.2
          refine X_pick [1, 0] rfl ?_
          exact F9_atom_j71_ok F hr hlk hD hrc h
  · rw [if_neg q3] at h
    refine X_aload_n F dX9_atom_11 rfl ?_
    obtain ⟨r21, h22, h⟩ := bndS h
    refine X_callV (ci := 0) (As := []) (rest := []) F fkRX9_218 feX9_opens fvX9_opens ⟨_, _, _, rfl, rfl, rfl⟩ (F9_opens_met (D := D - 1) F.2.2.2.2.2.2.2.1 (by omega) h22) rfl rfl (Nat.le_of_ble_eq_true rfl) (rm_ok (by omega) (by decide)) dX9_atom_12 ?_
    show XJ shB p l e (rmX D) s m args below meth c 0 0 G 2 (MQ below (QcX shB G ((some (.int r.1), r.2) : Option Value × Mem).1 ((some (.int r.1), r.2) : Option Value × Mem).2) args s 0 0 (AW shB G.2.1)) 15 [(1, .int (0 : Int32)), (0, .ref 0)] [.int r21.1] r21.2
    refine X_if_eq (tgt := 161) F dX9_atom_15 (by decide) (fun q23 => ?_) (fun q23 => ?_)
    · rw [if_pos q23] at h
      refine X_iload_n F dX9_atom_161 rfl ?_
      exact X_iret F hr hlk (retI h) dX9_atom_162
    · rw [if_neg q23] at h
      refine X_aload_n F dX9_atom_18 rfl ?_
      obtain ⟨r24, h25, h⟩ := bndS h
      refine X_callV (ci := 0) (As := []) (rest := []) F fkRX9_222 feX9_atom fvX9_atom ⟨_, _, _, rfl, rfl, rfl⟩ (hrc.2.2.2.2.2 _ _ h25) rfl rfl (Nat.le_of_ble_eq_true rfl) (rm_ok (by omega) (by decide)) dX9_atom_19 ?_
      show XJ shB p l e (rmX D) s m args below meth c 0 0 G 2 (MQ below (QcX shB G ((some (.int r.1), r.2) : Option Value × Mem).1 ((some (.int r.1), r.2) : Option Value × Mem).2) args s 0 0 (AW shB G.2.1)) 22 [(1, .int (0 : Int32)), (0, .ref 0)] [.int r24.1] r24.2
      refine X_ineg F dX9_atom_22 ?_
      refine X_istore_n F dX9_atom_23 (by decide) rfl ?_
      refine X_aload_n F dX9_atom_24 rfl ?_
      refine X_dup F dX9_atom_25 rfl ?_
      refine X_geti (v := (r24.2 0 29)) F ffRX9_184 dX9_atom_26 rfl ?_
      refine X_iconst F dX9_atom_29 (v := (1 : Int32)) rfl ?_
      refine X_isub F dX9_atom_30 ?_
      refine X_puti F ffRX9_184 fw9_29 (by decide) dX9_atom_31 ?_
      refine X_goto (tgt := 161) F dX9_atom_34 (by decide) ?_
      refine X_iload_n F dX9_atom_161 rfl ?_
      exact X_iret F hr hlk (retI h) dX9_atom_162
def S3 : Nat → Nat → Mem → Option (Int32 × Mem)
  | 0, _, _ => none
  | fu + 1, 0, M => F9_either (S3 fu) M
  | fu + 1, 1, M => F9_both (S3 fu) M
  | fu + 1, 2, M => F9_not (S3 fu) M
  | fu + 1, 3, M => F9_added (S3 fu) M
  | fu + 1, 4, M => F9_term (S3 fu) M
  | fu + 1, _, M => F9_atom (S3 fu) M
set_option maxRecDepth 20000 in
theorem S3_met {l : Launch} {G : GG} (hI : Inj shB G.2.1) : ∀ (fu D : Nat), 5 + fu ≤ D → ((∀ (M : Mem) (r : Int32 × Mem), S3 fu 0 M = some r → MetX shB l G yX9_either cX9_either 3 (some .int) (D) [.ref 0] M (some (.int r.1), r.2)) ∧ (∀ (M : Mem) (r : Int32 × Mem), S3 fu 1 M = some r → MetX shB l G yX9_both cX9_both 3 (some .int) (D) [.ref 0] M (some (.int r.1), r.2)) ∧ (∀ (M : Mem) (r : Int32 × Mem), S3 fu 2 M = some r → MetX shB l G yX9_not cX9_not 4 (some .int) (D) [.ref 0] M (some (.int r.1), r.2)) ∧ (∀ (M : Mem) (r : Int32 × Mem), S3 fu 3 M = some r → MetX shB l G yX9_added cX9_added 4 (some .int) (D) [.ref 0] M (some (.int r.1), r.2)) ∧ (∀ (M : Mem) (r : Int32 × Mem), S3 fu 4 M = some r → MetX shB l G yX9_term cX9_term 2 (some .int) (D) [.ref 0] M (some (.int r.1), r.2)) ∧ (∀ (M : Mem) (r : Int32 × Mem), S3 fu 5 M = some r → MetX shB l G yX9_atom cX9_atom 2 (some .int) (D) [.ref 0] M (some (.int r.1), r.2))) := by
  intro fu
  induction fu with
  | zero =>
    intro D _
    refine ⟨?_, ?_, ?_, ?_, ?_, ?_⟩
    · intro  M r h; cases h
    · intro  M r h; cases h
    · intro  M r h; cases h
    · intro  M r h; cases h
    · intro  M r h; cases h
    · intro  M r h; cases h
  | succ fu ih =>
    intro D hD
    have hrc := ih (D - 1) (by omega)
    refine ⟨?_, ?_, ?_, ?_, ?_, ?_⟩
    · intro  M r h; exact X_met hI (by decide +kernel) (Nat.le_of_ble_eq_true rfl) (fun p e s m args below meth c F hr hlk => F9_either_ok F hr hlk (by omega) hrc h)
    · intro  M r h; exact X_met hI (by decide +kernel) (Nat.le_of_ble_eq_true rfl) (fun p e s m args below meth c F hr hlk => F9_both_ok F hr hlk (by omega) hrc h)
    · intro  M r h; exact X_met hI (by decide +kernel) (Nat.le_of_ble_eq_true rfl) (fun p e s m args below meth c F hr hlk => F9_not_ok F hr hlk (by omega) hrc h)
    · intro  M r h; exact X_met hI (by decide +kernel) (Nat.le_of_ble_eq_true rfl) (fun p e s m args below meth c F hr hlk => F9_added_ok F hr hlk (by omega) hrc h)
    · intro  M r h; exact X_met hI (by decide +kernel) (Nat.le_of_ble_eq_true rfl) (fun p e s m args below meth c F hr hlk => F9_term_ok F hr hlk (by omega) hrc h)
    · intro  M r h; exact X_met hI (by decide +kernel) (Nat.le_of_ble_eq_true rfl) (fun p e s m args below meth c F hr hlk => F9_atom_ok F hr hlk (by omega) hrc h)
set_option maxRecDepth 20000 in
theorem F9_either_met {l : Launch} {G : GG} {D : Nat} {r : Int32 × Mem} {M : Mem} (hI : Inj shB G.2.1) (hD : 85 ≤ D) (h : S3 80 0 M = some r) : MetX shB l G yX9_either cX9_either 3 (some .int) D [.ref 0] M (some (.int r.1), r.2) := (S3_met hI 80 D hD).1 _ _ h
set_option maxRecDepth 20000 in
theorem F9_both_met {l : Launch} {G : GG} {D : Nat} {r : Int32 × Mem} {M : Mem} (hI : Inj shB G.2.1) (hD : 85 ≤ D) (h : S3 80 1 M = some r) : MetX shB l G yX9_both cX9_both 3 (some .int) D [.ref 0] M (some (.int r.1), r.2) := (S3_met hI 80 D hD).2.1 _ _ h
set_option maxRecDepth 20000 in
theorem F9_not_met {l : Launch} {G : GG} {D : Nat} {r : Int32 × Mem} {M : Mem} (hI : Inj shB G.2.1) (hD : 85 ≤ D) (h : S3 80 2 M = some r) : MetX shB l G yX9_not cX9_not 4 (some .int) D [.ref 0] M (some (.int r.1), r.2) := (S3_met hI 80 D hD).2.2.1 _ _ h
set_option maxRecDepth 20000 in
theorem F9_added_met {l : Launch} {G : GG} {D : Nat} {r : Int32 × Mem} {M : Mem} (hI : Inj shB G.2.1) (hD : 85 ≤ D) (h : S3 80 3 M = some r) : MetX shB l G yX9_added cX9_added 4 (some .int) D [.ref 0] M (some (.int r.1), r.2) := (S3_met hI 80 D hD).2.2.2.1 _ _ h
set_option maxRecDepth 20000 in
theorem F9_term_met {l : Launch} {G : GG} {D : Nat} {r : Int32 × Mem} {M : Mem} (hI : Inj shB G.2.1) (hD : 85 ≤ D) (h : S3 80 4 M = some r) : MetX shB l G yX9_term cX9_term 2 (some .int) D [.ref 0] M (some (.int r.1), r.2) := (S3_met hI 80 D hD).2.2.2.2.1 _ _ h
set_option maxRecDepth 20000 in
theorem F9_atom_met {l : Launch} {G : GG} {D : Nat} {r : Int32 × Mem} {M : Mem} (hI : Inj shB G.2.1) (hD : 85 ≤ D) (h : S3 80 5 M = some r) : MetX shB l G yX9_atom cX9_atom 2 (some .int) D [.ref 0] M (some (.int r.1), r.2) := (S3_met hI 80 D hD).2.2.2.2.2 _ _ h

-- KeepOurPlaceModel.part
def F9_part_j48 (M : Mem) (x2 : Int32) : Option (Int32 × Mem) :=
    if ¬ (M 0 30) = 0 then
      some (x2, M)
    else
      Option.bind (F9_next M) fun r16 =>
      some (x2, r16.2)
def F9_part_j34 (M : Mem) (y0 : Int32) : Option (Int32 × Mem) :=
    Option.bind (F9_isSign M (59 : Int32)) fun r10 =>
    if ¬ r10.1 = 0 then
      F9_part_j48 r10.2 y0
    else
      Option.bind (F9_fail r10.2) fun r13 =>
      F9_part_j48 r13.2 y0
def F9_part_j19 (M : Mem) : Option (Int32 × Mem) :=
    if (M 0 30) = 0 then
      Option.bind (S3 80 0 M) fun r8 =>
      F9_part_j34 r8.2 r8.1
    else
      F9_part_j34 M (0 : Int32)
def F9_part_j8 (M : Mem) : Option (Int32 × Mem) :=
    if ¬ (M 0 30) = 0 then
      F9_part_j19 M
    else
      Option.bind (F9_next M) fun r5 =>
      F9_part_j19 r5.2
def F9_part (M : Mem) (a1 : Int32) : Option (Int32 × Mem) :=
    if ¬ a1 = 0 then
      F9_part_j8 M
    else
      Option.bind (F9_fail M) fun r2 =>
      F9_part_j8 r2.2
set_option maxRecDepth 20000 in
theorem F9_part_j48_ok {p : Program} {l : Launch} {e : Env} {s : State} {m : MethodId} {args : Array Value} {below : List Frame} {meth : Method} {c : Code} {G : GG} {D : Nat} {r : Int32 × Mem} (F : FrP shB G p s m args c RX9 cX9_part 3) (hr : meth.sig.returnType = (some .int)) (hlk : meth.locks = false) (hD : 86 ≤ D) {M : Mem} {x2 : Int32} (h : F9_part_j48 M x2 = some r) : XJ shB p l e (rmX D) s m args below meth c 0 0 G 3 (MQ below (QcX shB G ((some (.int r.1), r.2) : Option Value × Mem).1 ((some (.int r.1), r.2) : Option Value × Mem).2) args s 0 0 (AW shB G.2.1)) 48 [(0, .ref 0), (2, .int x2)] [] M := by
  unfold F9_part_j48 at h
  refine X_aload_n F dX9_part_48 rfl ?_
  refine X_geti (v := (M 0 30)) F ffRX9_173 dX9_part_49 rfl ?_
  refine X_if_ne (tgt := 59) F dX9_part_52 (by decide) (fun q15 => ?_) (fun q15 => ?_)
  · rw [if_pos q15] at h
    refine X_iload_n F dX9_part_59 rfl ?_
    exact X_iret F hr hlk (retI h) dX9_part_60
  · rw [if_neg (fun z => z q15)] at h
    refine X_aload_n F dX9_part_55 rfl ?_
    obtain ⟨r16, h17, h⟩ := bndS h
    refine X_callV (ci := 0) (As := []) (rest := []) F fkRX9_190 feX9_next fvX9_next ⟨_, _, _, rfl, rfl, rfl⟩ (F9_next_met (D := D - 1) F.2.2.2.2.2.2.2.1 (by omega) h17) rfl rfl (Nat.le_of_ble_eq_true rfl) (rm_ok (by omega) (by decide)) dX9_part_56 ?_
    show XJ shB p l e (rmX D) s m args below meth c 0 0 G 3 (MQ below (QcX shB G ((some (.int r.1), r.2) : Option Value × Mem).1 ((some (.int r.1), r.2) : Option Value × Mem).2) args s 0 0 (AW shB G.2.1)) 59 [(0, .ref 0), (2, .int x2)] [] r16.2
    refine X_iload_n F dX9_part_59 rfl ?_
    exact X_iret F hr hlk (retI h) dX9_part_60
set_option maxRecDepth 20000 in
theorem F9_part_j34_ok {p : Program} {l : Launch} {e : Env} {s : State} {m : MethodId} {args : Array Value} {below : List Frame} {meth : Method} {c : Code} {G : GG} {D : Nat} {r : Int32 × Mem} (F : FrP shB G p s m args c RX9 cX9_part 3) (hr : meth.sig.returnType = (some .int)) (hlk : meth.locks = false) (hD : 86 ≤ D) {M : Mem} {y0 : Int32} (h : F9_part_j34 M y0 = some r) : XJ shB p l e (rmX D) s m args below meth c 0 0 G 3 (MQ below (QcX shB G ((some (.int r.1), r.2) : Option Value × Mem).1 ((some (.int r.1), r.2) : Option Value × Mem).2) args s 0 0 (AW shB G.2.1)) 34 [(0, .ref 0)] [.int y0] M := by
  unfold F9_part_j34 at h
  refine X_istore_n F dX9_part_34 (by decide) rfl ?_
  refine X_aload_n F dX9_part_35 rfl ?_
  refine X_bipush F dX9_part_36 (v := (59 : Int32)) rfl ?_
  obtain ⟨r10, h11, h⟩ := bndS h
  refine X_callV (ci := 0) (As := [.int (59 : Int32)]) (rest := []) F fkRX9_215 feX9_isSign fvX9_isSign ⟨_, _, _, rfl, rfl, rfl⟩ (F9_isSign_met (D := D - 1) F.2.2.2.2.2.2.2.1 (by omega) h11) rfl rfl (Nat.le_of_ble_eq_true rfl) (rm_ok (by omega) (by decide)) dX9_part_38 ?_
  show XJ shB p l e (rmX D) s m args below meth c 0 0 G 3 (MQ below (QcX shB G ((some (.int r.1), r.2) : Option Value × Mem).1 ((some (.int r.1), r.2) : Option Value × Mem).2) args s 0 0 (AW shB G.2.1)) 41 [(2, .int y0), (0, .ref 0)] [.int r10.1] r10.2
  refine X_if_ne (tgt := 48) F dX9_part_41 (by decide) (fun q12 => ?_) (fun q12 => ?_)
  · rw [if_pos q12] at h
    refine X_pick [1, 0] rfl ?_
    exact F9_part_j48_ok F hr hlk hD h
  · rw [if_neg (fun z => z q12)] at h
    refine X_aload_n F dX9_part_44 rfl ?_
    obtain ⟨r13, h14, h⟩ := bndS h
    refine X_callV (ci := 0) (As := []) (rest := []) F fkRX9_187 feX9_fail fvX9_fail ⟨_, _, _, rfl, rfl, rfl⟩ (F9_fail_met (D := D - 1) F.2.2.2.2.2.2.2.1 (by omega) h14) rfl rfl (Nat.le_of_ble_eq_true rfl) (rm_ok (by omega) (by decide)) dX9_part_45 ?_
    show XJ shB p l e (rmX D) s m args below meth c 0 0 G 3 (MQ below (QcX shB G ((some (.int r.1), r.2) : Option Value × Mem).1 ((some (.int r.1), r.2) : Option Value × Mem).2) args s 0 0 (AW shB G.2.1)) 48 [(2, .int y0), (0, .ref 0)] [] r13.2
    refine X_pick [1, 0] rfl ?_
    exact F9_part_j48_ok F hr hlk hD h
set_option maxRecDepth 20000 in
theorem F9_part_j19_ok {p : Program} {l : Launch} {e : Env} {s : State} {m : MethodId} {args : Array Value} {below : List Frame} {meth : Method} {c : Code} {G : GG} {D : Nat} {r : Int32 × Mem} (F : FrP shB G p s m args c RX9 cX9_part 3) (hr : meth.sig.returnType = (some .int)) (hlk : meth.locks = false) (hD : 86 ≤ D) {M : Mem} (h : F9_part_j19 M = some r) : XJ shB p l e (rmX D) s m args below meth c 0 0 G 3 (MQ below (QcX shB G ((some (.int r.1), r.2) : Option Value × Mem).1 ((some (.int r.1), r.2) : Option Value × Mem).2) args s 0 0 (AW shB G.2.1)) 19 [(0, .ref 0)] [] M := by
  unfold F9_part_j19 at h
  refine X_aload_n F dX9_part_19 rfl ?_
  refine X_geti (v := (M 0 30)) F ffRX9_173 dX9_part_20 rfl ?_
  refine X_if_eq (tgt := 30) F dX9_part_23 (by decide) (fun q7 => ?_) (fun q7 => ?_)
  · rw [if_pos q7] at h
    refine X_aload_n F dX9_part_30 rfl ?_
    obtain ⟨r8, h9, h⟩ := bndS h
    refine X_callV (ci := 0) (As := []) (rest := []) F fkRX9_226 feX9_either fvX9_either ⟨_, _, _, rfl, rfl, rfl⟩ (F9_either_met (D := D - 1) F.2.2.2.2.2.2.2.1 (by omega) h9) rfl rfl (Nat.le_of_ble_eq_true rfl) (rm_ok (by omega) (by decide)) dX9_part_31 ?_
    show XJ shB p l e (rmX D) s m args below meth c 0 0 G 3 (MQ below (QcX shB G ((some (.int r.1), r.2) : Option Value × Mem).1 ((some (.int r.1), r.2) : Option Value × Mem).2) args s 0 0 (AW shB G.2.1)) 34 [(0, .ref 0)] [.int r8.1] r8.2
    exact F9_part_j34_ok F hr hlk hD h
  · rw [if_neg q7] at h
    refine X_iconst F dX9_part_26 (v := (0 : Int32)) rfl ?_
    refine X_goto (tgt := 34) F dX9_part_27 (by decide) ?_
    exact F9_part_j34_ok F hr hlk hD h
set_option maxRecDepth 20000 in
theorem F9_part_j8_ok {p : Program} {l : Launch} {e : Env} {s : State} {m : MethodId} {args : Array Value} {below : List Frame} {meth : Method} {c : Code} {G : GG} {D : Nat} {r : Int32 × Mem} (F : FrP shB G p s m args c RX9 cX9_part 3) (hr : meth.sig.returnType = (some .int)) (hlk : meth.locks = false) (hD : 86 ≤ D) {M : Mem} (h : F9_part_j8 M = some r) : XJ shB p l e (rmX D) s m args below meth c 0 0 G 3 (MQ below (QcX shB G ((some (.int r.1), r.2) : Option Value × Mem).1 ((some (.int r.1), r.2) : Option Value × Mem).2) args s 0 0 (AW shB G.2.1)) 8 [(0, .ref 0)] [] M := by
  unfold F9_part_j8 at h
  refine X_aload_n F dX9_part_8 rfl ?_
  refine X_geti (v := (M 0 30)) F ffRX9_173 dX9_part_9 rfl ?_
  refine X_if_ne (tgt := 19) F dX9_part_12 (by decide) (fun q4 => ?_) (fun q4 => ?_)
  · rw [if_pos q4] at h
    exact F9_part_j19_ok F hr hlk hD h
  · rw [if_neg (fun z => z q4)] at h
    refine X_aload_n F dX9_part_15 rfl ?_
    obtain ⟨r5, h6, h⟩ := bndS h
    refine X_callV (ci := 0) (As := []) (rest := []) F fkRX9_190 feX9_next fvX9_next ⟨_, _, _, rfl, rfl, rfl⟩ (F9_next_met (D := D - 1) F.2.2.2.2.2.2.2.1 (by omega) h6) rfl rfl (Nat.le_of_ble_eq_true rfl) (rm_ok (by omega) (by decide)) dX9_part_16 ?_
    show XJ shB p l e (rmX D) s m args below meth c 0 0 G 3 (MQ below (QcX shB G ((some (.int r.1), r.2) : Option Value × Mem).1 ((some (.int r.1), r.2) : Option Value × Mem).2) args s 0 0 (AW shB G.2.1)) 19 [(0, .ref 0)] [] r5.2
    exact F9_part_j19_ok F hr hlk hD h
set_option maxRecDepth 20000 in
theorem F9_part_ok {p : Program} {l : Launch} {e : Env} {s : State} {m : MethodId} {args : Array Value} {below : List Frame} {meth : Method} {c : Code} {G : GG} {D : Nat} {r : Int32 × Mem} (F : FrP shB G p s m args c RX9 cX9_part 3) (hr : meth.sig.returnType = (some .int)) (hlk : meth.locks = false) (hD : 86 ≤ D) {M : Mem} {a1 : Int32} (h : F9_part M a1 = some r) : XJ shB p l e (rmX D) s m args below meth c 0 0 G 3 (MQ below (QcX shB G ((some (.int r.1), r.2) : Option Value × Mem).1 ((some (.int r.1), r.2) : Option Value × Mem).2) args s 0 0 (AW shB G.2.1)) 0 [(0, .ref 0), (1, .int a1)] [] M := by
  unfold F9_part at h
  refine X_iload_n F dX9_part_0 rfl ?_
  refine X_if_ne (tgt := 8) F dX9_part_1 (by decide) (fun q1 => ?_) (fun q1 => ?_)
  · rw [if_pos q1] at h
    refine X_pick [0] rfl ?_
    exact F9_part_j8_ok F hr hlk hD h
  · rw [if_neg (fun z => z q1)] at h
    refine X_aload_n F dX9_part_4 rfl ?_
    obtain ⟨r2, h3, h⟩ := bndS h
    refine X_callV (ci := 0) (As := []) (rest := []) F fkRX9_187 feX9_fail fvX9_fail ⟨_, _, _, rfl, rfl, rfl⟩ (F9_fail_met (D := D - 1) F.2.2.2.2.2.2.2.1 (by omega) h3) rfl rfl (Nat.le_of_ble_eq_true rfl) (rm_ok (by omega) (by decide)) dX9_part_5 ?_
    show XJ shB p l e (rmX D) s m args below meth c 0 0 G 3 (MQ below (QcX shB G ((some (.int r.1), r.2) : Option Value × Mem).1 ((some (.int r.1), r.2) : Option Value × Mem).2) args s 0 0 (AW shB G.2.1)) 8 [(0, .ref 0), (1, .int a1)] [] r2.2
    refine X_pick [0] rfl ?_
    exact F9_part_j8_ok F hr hlk hD h
set_option maxRecDepth 20000 in
theorem F9_part_met {l : Launch} {G : GG} {D : Nat} {r : Int32 × Mem} {M : Mem} {a1 : Int32} (hI : Inj shB G.2.1) (hD : 86 ≤ D) (h : F9_part M a1 = some r) : MetX shB l G yX9_part cX9_part 3 (some .int) D [.ref 0, .int a1] M (some (.int r.1), r.2) :=
  X_met hI (by decide +kernel) (Nat.le_of_ble_eq_true rfl) (fun p e s m args below meth c F hr hlk => F9_part_ok F hr hlk hD h)
-- KeepOurPlaceModel.read
def F9_read_j145 (M : Mem) (x2 : Int32) (x3 : Int32) (x4 : Int32) (x5 : Int32) : Option (Int32 × Mem) :=
    if ¬ x2 = 0 then
      if ¬ x2 = (1 : Int32) then
        some (x5, M)
      else
        some (x4, M)
    else
      some (x3, M)
def F9_read_j125 (M : Mem) (x2 : Int32) (x3 : Int32) (x4 : Int32) (y0 : Int32) : Option (Int32 × Mem) :=
    if ¬ (M 0 30) = 0 then
      F9_read_j145 M x2 x3 x4 y0
    else
      if (M 0 26) = 0 then
        F9_read_j145 M x2 x3 x4 y0
      else
        Option.bind (F9_fail M) fun r20 =>
        F9_read_j145 r20.2 x2 x3 x4 y0
def F9_read_j91 (M : Mem) (x2 : Int32) (x3 : Int32) (y0 : Int32) : Option (Int32 × Mem) :=
    if (M 0 30) = 0 then
      Option.bind (F9_isWord M (119 : Int32) (97 : Int32) (108 : Int32) (107 : Int32) (115 : Int32) (0 : Int32) (0 : Int32) (0 : Int32)) fun r14 =>
      Option.bind (F9_part r14.2 r14.1) fun r16 =>
      F9_read_j125 r16.2 x2 x3 y0 r16.1
    else
      F9_read_j125 M x2 x3 y0 (0 : Int32)
def F9_read (M : Mem) (a1 : Int32) (a2 : Int32) : Option (Int32 × Mem) :=
    if inb a1 6 = true then
    Option.bind (F9_next (up2 (up2 (up2 (up2 (up2 M 0 23 ((160 : Int32) * a1)) 0 24 (M 2 (Int32.toNatClampNeg a1))) 0 25 (0 : Int32)) 0 29 (0 : Int32)) 0 30 (0 : Int32))) fun r2 =>
    Option.bind (F9_isWord r2.2 (116 : Int32) (97 : Int32) (107 : Int32) (101 : Int32) (115 : Int32) (0 : Int32) (0 : Int32) (0 : Int32)) fun r4 =>
    Option.bind (F9_part r4.2 r4.1) fun r6 =>
    if (r6.2 0 30) = 0 then
      Option.bind (F9_isWord r6.2 (108 : Int32) (101 : Int32) (116 : Int32) (115 : Int32) (0 : Int32) (0 : Int32) (0 : Int32) (0 : Int32)) fun r9 =>
      Option.bind (F9_part r9.2 r9.1) fun r11 =>
      F9_read_j91 r11.2 a2 r6.1 r11.1
    else
      F9_read_j91 r6.2 a2 r6.1 (0 : Int32)
    else none
set_option maxRecDepth 20000 in
theorem F9_read_j145_ok {p : Program} {l : Launch} {e : Env} {s : State} {m : MethodId} {args : Array Value} {below : List Frame} {meth : Method} {c : Code} {G : GG} {D : Nat} {r : Int32 × Mem} (F : FrP shB G p s m args c RX9 cX9_read 6) (hr : meth.sig.returnType = (some .int)) (hlk : meth.locks = false) (hD : 87 ≤ D) {M : Mem} {x2 : Int32} {x3 : Int32} {x4 : Int32} {x5 : Int32} (h : F9_read_j145 M x2 x3 x4 x5 = some r) : XJ shB p l e (rmX D) s m args below meth c 0 0 G 6 (MQ below (QcX shB G ((some (.int r.1), r.2) : Option Value × Mem).1 ((some (.int r.1), r.2) : Option Value × Mem).2) args s 0 0 (AW shB G.2.1)) 145 [(2, .int x2), (3, .int x3), (4, .int x4), (5, .int x5)] [] M := by
  unfold F9_read_j145 at h
  refine X_iload_n F dX9_read_145 rfl ?_
  refine X_if_ne (tgt := 153) F dX9_read_146 (by decide) (fun q22 => ?_) (fun q22 => ?_)
  · rw [if_pos q22] at h
    refine X_iload_n F dX9_read_153 rfl ?_
    refine X_iconst F dX9_read_154 (v := (1 : Int32)) rfl ?_
    refine X_icmp_ne (tgt := 163) F dX9_read_155 (by decide) (fun q23 => ?_) (fun q23 => ?_)
    · rw [if_pos q23] at h
      refine X_iload F dX9_read_163 rfl ?_
      exact X_iret F hr hlk (retI h) dX9_read_165
    · rw [if_neg (fun z => z q23)] at h
      refine X_iload F dX9_read_158 rfl ?_
      refine X_goto (tgt := 165) F dX9_read_160 (by decide) ?_
      exact X_iret F hr hlk (retI h) dX9_read_165
  · rw [if_neg (fun z => z q22)] at h
    refine X_iload_n F dX9_read_149 rfl ?_
    refine X_goto (tgt := 165) F dX9_read_150 (by decide) ?_
    exact X_iret F hr hlk (retI h) dX9_read_165
set_option maxRecDepth 20000 in
theorem F9_read_j125_ok {p : Program} {l : Launch} {e : Env} {s : State} {m : MethodId} {args : Array Value} {below : List Frame} {meth : Method} {c : Code} {G : GG} {D : Nat} {r : Int32 × Mem} (F : FrP shB G p s m args c RX9 cX9_read 6) (hr : meth.sig.returnType = (some .int)) (hlk : meth.locks = false) (hD : 87 ≤ D) {M : Mem} {x2 : Int32} {x3 : Int32} {x4 : Int32} {y0 : Int32} (h : F9_read_j125 M x2 x3 x4 y0 = some r) : XJ shB p l e (rmX D) s m args below meth c 0 0 G 6 (MQ below (QcX shB G ((some (.int r.1), r.2) : Option Value × Mem).1 ((some (.int r.1), r.2) : Option Value × Mem).2) args s 0 0 (AW shB G.2.1)) 125 [(0, .ref 0), (2, .int x2), (3, .int x3), (4, .int x4)] [.int y0] M := by
  unfold F9_read_j125 at h
  refine X_istore F dX9_read_125 (by decide) rfl ?_
  refine X_aload_n F dX9_read_127 rfl ?_
  refine X_geti (v := (M 0 30)) F ffRX9_173 dX9_read_128 rfl ?_
  refine X_if_ne (tgt := 145) F dX9_read_131 (by decide) (fun q18 => ?_) (fun q18 => ?_)
  · rw [if_pos q18] at h
    refine X_pick [2, 3, 4, 0] rfl ?_
    exact F9_read_j145_ok F hr hlk hD h
  · rw [if_neg (fun z => z q18)] at h
    refine X_aload_n F dX9_read_134 rfl ?_
    refine X_geti (v := (M 0 26)) F ffRX9_156 dX9_read_135 rfl ?_
    refine X_if_eq (tgt := 145) F dX9_read_138 (by decide) (fun q19 => ?_) (fun q19 => ?_)
    · rw [if_pos q19] at h
      refine X_pick [2, 3, 4, 0] rfl ?_
      exact F9_read_j145_ok F hr hlk hD h
    · rw [if_neg q19] at h
      refine X_aload_n F dX9_read_141 rfl ?_
      obtain ⟨r20, h21, h⟩ := bndS h
      refine X_callV (ci := 0) (As := []) (rest := []) F fkRX9_187 feX9_fail fvX9_fail ⟨_, _, _, rfl, rfl, rfl⟩ (F9_fail_met (D := D - 1) F.2.2.2.2.2.2.2.1 (by omega) h21) rfl rfl (Nat.le_of_ble_eq_true rfl) (rm_ok (by omega) (by decide)) dX9_read_142 ?_
      show XJ shB p l e (rmX D) s m args below meth c 0 0 G 6 (MQ below (QcX shB G ((some (.int r.1), r.2) : Option Value × Mem).1 ((some (.int r.1), r.2) : Option Value × Mem).2) args s 0 0 (AW shB G.2.1)) 145 [(5, .int y0), (0, .ref 0), (2, .int x2), (3, .int x3), (4, .int x4)] [] r20.2
      refine X_pick [2, 3, 4, 0] rfl ?_
      exact F9_read_j145_ok F hr hlk hD h
set_option maxRecDepth 20000 in
theorem F9_read_j91_ok {p : Program} {l : Launch} {e : Env} {s : State} {m : MethodId} {args : Array Value} {below : List Frame} {meth : Method} {c : Code} {G : GG} {D : Nat} {r : Int32 × Mem} (F : FrP shB G p s m args c RX9 cX9_read 6) (hr : meth.sig.returnType = (some .int)) (hlk : meth.locks = false) (hD : 87 ≤ D) {M : Mem} {x2 : Int32} {x3 : Int32} {y0 : Int32} (h : F9_read_j91 M x2 x3 y0 = some r) : XJ shB p l e (rmX D) s m args below meth c 0 0 G 6 (MQ below (QcX shB G ((some (.int r.1), r.2) : Option Value × Mem).1 ((some (.int r.1), r.2) : Option Value × Mem).2) args s 0 0 (AW shB G.2.1)) 91 [(0, .ref 0), (2, .int x2), (3, .int x3)] [.int y0] M := by
  unfold F9_read_j91 at h
  refine X_istore F dX9_read_91 (by decide) rfl ?_
  refine X_aload_n F dX9_read_93 rfl ?_
  refine X_geti (v := (M 0 30)) F ffRX9_173 dX9_read_94 rfl ?_
  refine X_if_eq (tgt := 104) F dX9_read_97 (by decide) (fun q13 => ?_) (fun q13 => ?_)
  · rw [if_pos q13] at h
    refine X_aload_n F dX9_read_104 rfl ?_
    refine X_aload_n F dX9_read_105 rfl ?_
    refine X_bipush F dX9_read_106 (v := (119 : Int32)) rfl ?_
    refine X_bipush F dX9_read_108 (v := (97 : Int32)) rfl ?_
    refine X_bipush F dX9_read_110 (v := (108 : Int32)) rfl ?_
    refine X_bipush F dX9_read_112 (v := (107 : Int32)) rfl ?_
    refine X_bipush F dX9_read_114 (v := (115 : Int32)) rfl ?_
    refine X_iconst F dX9_read_116 (v := (0 : Int32)) rfl ?_
    refine X_iconst F dX9_read_117 (v := (0 : Int32)) rfl ?_
    refine X_iconst F dX9_read_118 (v := (0 : Int32)) rfl ?_
    obtain ⟨r14, h15, h⟩ := bndS h
    refine X_callV (ci := 0) (As := [.int (119 : Int32), .int (97 : Int32), .int (108 : Int32), .int (107 : Int32), .int (115 : Int32), .int (0 : Int32), .int (0 : Int32), .int (0 : Int32)]) (rest := [.ref 0]) F fkRX9_193 feX9_isWord fvX9_isWord ⟨_, _, _, rfl, rfl, rfl⟩ (F9_isWord_met (D := D - 1) F.2.2.2.2.2.2.2.1 (by omega) h15) rfl rfl (Nat.le_of_ble_eq_true rfl) (rm_ok (by omega) (by decide)) dX9_read_119 ?_
    show XJ shB p l e (rmX D) s m args below meth c 0 0 G 6 (MQ below (QcX shB G ((some (.int r.1), r.2) : Option Value × Mem).1 ((some (.int r.1), r.2) : Option Value × Mem).2) args s 0 0 (AW shB G.2.1)) 122 [(4, .int y0), (0, .ref 0), (2, .int x2), (3, .int x3)] [.int r14.1, .ref 0] r14.2
    obtain ⟨r16, h17, h⟩ := bndS h
    refine X_callV (ci := 0) (As := [.int r14.1]) (rest := []) F fkRX9_248 feX9_part fvX9_part ⟨_, _, _, rfl, rfl, rfl⟩ (F9_part_met (D := D - 1) F.2.2.2.2.2.2.2.1 (by omega) h17) rfl rfl (Nat.le_of_ble_eq_true rfl) (rm_ok (by omega) (by decide)) dX9_read_122 ?_
    show XJ shB p l e (rmX D) s m args below meth c 0 0 G 6 (MQ below (QcX shB G ((some (.int r.1), r.2) : Option Value × Mem).1 ((some (.int r.1), r.2) : Option Value × Mem).2) args s 0 0 (AW shB G.2.1)) 125 [(4, .int y0), (0, .ref 0), (2, .int x2), (3, .int x3)] [.int r16.1] r16.2
    refine X_pick [1, 2, 3, 0] rfl ?_
    exact F9_read_j125_ok F hr hlk hD h
  · rw [if_neg q13] at h
    refine X_iconst F dX9_read_100 (v := (0 : Int32)) rfl ?_
    refine X_goto (tgt := 125) F dX9_read_101 (by decide) ?_
    refine X_pick [1, 2, 3, 0] rfl ?_
    exact F9_read_j125_ok F hr hlk hD h
set_option maxRecDepth 20000 in
theorem F9_read_ok {p : Program} {l : Launch} {e : Env} {s : State} {m : MethodId} {args : Array Value} {below : List Frame} {meth : Method} {c : Code} {G : GG} {D : Nat} {r : Int32 × Mem} (F : FrP shB G p s m args c RX9 cX9_read 6) (hr : meth.sig.returnType = (some .int)) (hlk : meth.locks = false) (hD : 87 ≤ D) {M : Mem} {a1 : Int32} {a2 : Int32} (h : F9_read M a1 a2 = some r) : XJ shB p l e (rmX D) s m args below meth c 0 0 G 6 (MQ below (QcX shB G ((some (.int r.1), r.2) : Option Value × Mem).1 ((some (.int r.1), r.2) : Option Value × Mem).2) args s 0 0 (AW shB G.2.1)) 0 [(0, .ref 0), (1, .int a1), (2, .int a2)] [] M := by
  unfold F9_read at h
  refine X_aload_n F dX9_read_0 rfl ?_
  refine X_sipush F dX9_read_1 (v := (160 : Int32)) rfl ?_
  refine X_iload_n F dX9_read_4 rfl ?_
  refine X_imul F dX9_read_5 ?_
  refine X_puti F ffRX9_144 fw9_23 (by decide) dX9_read_6 ?_
  refine X_aload_n F dX9_read_9 rfl ?_
  refine X_aload_n F dX9_read_10 rfl ?_
  refine X_getr F ffRX9_17 dX9_read_11 ?_
  refine X_iload_n F dX9_read_14 rfl ?_
  obtain ⟨q1, h⟩ := ifS h
  refine X_iald (j := (Int32.toNatClampNeg a1)) (v := (M 2 (Int32.toNatClampNeg a1))) F rfl (inbV q1) rfl rfl dX9_read_15 ?_
  refine X_puti F ffRX9_141 fw9_24 (by decide) dX9_read_16 ?_
  refine X_aload_n F dX9_read_19 rfl ?_
  refine X_iconst F dX9_read_20 (v := (0 : Int32)) rfl ?_
  refine X_puti F ffRX9_147 fw9_25 (by decide) dX9_read_21 ?_
  refine X_aload_n F dX9_read_24 rfl ?_
  refine X_iconst F dX9_read_25 (v := (0 : Int32)) rfl ?_
  refine X_puti F ffRX9_184 fw9_29 (by decide) dX9_read_26 ?_
  refine X_aload_n F dX9_read_29 rfl ?_
  refine X_iconst F dX9_read_30 (v := (0 : Int32)) rfl ?_
  refine X_putz F ffRX9_173 fw9_30 (by decide) dX9_read_31 ⟨rfl, rfl⟩ ?_
  refine X_aload_n F dX9_read_34 rfl ?_
  obtain ⟨r2, h3, h⟩ := bndS h
  refine X_callV (ci := 0) (As := []) (rest := []) F fkRX9_190 feX9_next fvX9_next ⟨_, _, _, rfl, rfl, rfl⟩ (F9_next_met (D := D - 1) F.2.2.2.2.2.2.2.1 (by omega) h3) rfl rfl (Nat.le_of_ble_eq_true rfl) (rm_ok (by omega) (by decide)) dX9_read_35 ?_
  show XJ shB p l e (rmX D) s m args below meth c 0 0 G 6 (MQ below (QcX shB G ((some (.int r.1), r.2) : Option Value × Mem).1 ((some (.int r.1), r.2) : Option Value × Mem).2) args s 0 0 (AW shB G.2.1)) 38 [(0, .ref 0), (1, .int a1), (2, .int a2)] [] r2.2
  refine X_aload_n F dX9_read_38 rfl ?_
  refine X_aload_n F dX9_read_39 rfl ?_
  refine X_bipush F dX9_read_40 (v := (116 : Int32)) rfl ?_
  refine X_bipush F dX9_read_42 (v := (97 : Int32)) rfl ?_
  refine X_bipush F dX9_read_44 (v := (107 : Int32)) rfl ?_
  refine X_bipush F dX9_read_46 (v := (101 : Int32)) rfl ?_
  refine X_bipush F dX9_read_48 (v := (115 : Int32)) rfl ?_
  refine X_iconst F dX9_read_50 (v := (0 : Int32)) rfl ?_
  refine X_iconst F dX9_read_51 (v := (0 : Int32)) rfl ?_
  refine X_iconst F dX9_read_52 (v := (0 : Int32)) rfl ?_
  obtain ⟨r4, h5, h⟩ := bndS h
  refine X_callV (ci := 0) (As := [.int (116 : Int32), .int (97 : Int32), .int (107 : Int32), .int (101 : Int32), .int (115 : Int32), .int (0 : Int32), .int (0 : Int32), .int (0 : Int32)]) (rest := [.ref 0]) F fkRX9_193 feX9_isWord fvX9_isWord ⟨_, _, _, rfl, rfl, rfl⟩ (F9_isWord_met (D := D - 1) F.2.2.2.2.2.2.2.1 (by omega) h5) rfl rfl (Nat.le_of_ble_eq_true rfl) (rm_ok (by omega) (by decide)) dX9_read_53 ?_
  show XJ shB p l e (rmX D) s m args below meth c 0 0 G 6 (MQ below (QcX shB G ((some (.int r.1), r.2) : Option Value × Mem).1 ((some (.int r.1), r.2) : Option Value × Mem).2) args s 0 0 (AW shB G.2.1)) 56 [(0, .ref 0), (1, .int a1), (2, .int a2)] [.int r4.1, .ref 0] r4.2
  obtain ⟨r6, h7, h⟩ := bndS h
  refine X_callV (ci := 0) (As := [.int r4.1]) (rest := []) F fkRX9_248 feX9_part fvX9_part ⟨_, _, _, rfl, rfl, rfl⟩ (F9_part_met (D := D - 1) F.2.2.2.2.2.2.2.1 (by omega) h7) rfl rfl (Nat.le_of_ble_eq_true rfl) (rm_ok (by omega) (by decide)) dX9_read_56 ?_
  show XJ shB p l e (rmX D) s m args below meth c 0 0 G 6 (MQ below (QcX shB G ((some (.int r.1), r.2) : Option Value × Mem).1 ((some (.int r.1), r.2) : Option Value × Mem).2) args s 0 0 (AW shB G.2.1)) 59 [(0, .ref 0), (1, .int a1), (2, .int a2)] [.int r6.1] r6.2
  refine X_istore_n F dX9_read_59 (by decide) rfl ?_
  refine X_aload_n F dX9_read_60 rfl ?_
  refine X_geti (v := (r6.2 0 30)) F ffRX9_173 dX9_read_61 rfl ?_
  refine X_if_eq (tgt := 71) F dX9_read_64 (by decide) (fun q8 => ?_) (fun q8 => ?_)
  · rw [if_pos q8] at h
    refine X_aload_n F dX9_read_71 rfl ?_
    refine X_aload_n F dX9_read_72 rfl ?_
    refine X_bipush F dX9_read_73 (v := (108 : Int32)) rfl ?_
    refine X_bipush F dX9_read_75 (v := (101 : Int32)) rfl ?_
    refine X_bipush F dX9_read_77 (v := (116 : Int32)) rfl ?_
    refine X_bipush F dX9_read_79 (v := (115 : Int32)) rfl ?_
    refine X_iconst F dX9_read_81 (v := (0 : Int32)) rfl ?_
    refine X_iconst F dX9_read_82 (v := (0 : Int32)) rfl ?_
    refine X_iconst F dX9_read_83 (v := (0 : Int32)) rfl ?_
    refine X_iconst F dX9_read_84 (v := (0 : Int32)) rfl ?_
    obtain ⟨r9, h10, h⟩ := bndS h
    refine X_callV (ci := 0) (As := [.int (108 : Int32), .int (101 : Int32), .int (116 : Int32), .int (115 : Int32), .int (0 : Int32), .int (0 : Int32), .int (0 : Int32), .int (0 : Int32)]) (rest := [.ref 0]) F fkRX9_193 feX9_isWord fvX9_isWord ⟨_, _, _, rfl, rfl, rfl⟩ (F9_isWord_met (D := D - 1) F.2.2.2.2.2.2.2.1 (by omega) h10) rfl rfl (Nat.le_of_ble_eq_true rfl) (rm_ok (by omega) (by decide)) dX9_read_85 ?_
    show XJ shB p l e (rmX D) s m args below meth c 0 0 G 6 (MQ below (QcX shB G ((some (.int r.1), r.2) : Option Value × Mem).1 ((some (.int r.1), r.2) : Option Value × Mem).2) args s 0 0 (AW shB G.2.1)) 88 [(3, .int r6.1), (0, .ref 0), (1, .int a1), (2, .int a2)] [.int r9.1, .ref 0] r9.2
    obtain ⟨r11, h12, h⟩ := bndS h
    refine X_callV (ci := 0) (As := [.int r9.1]) (rest := []) F fkRX9_248 feX9_part fvX9_part ⟨_, _, _, rfl, rfl, rfl⟩ (F9_part_met (D := D - 1) F.2.2.2.2.2.2.2.1 (by omega) h12) rfl rfl (Nat.le_of_ble_eq_true rfl) (rm_ok (by omega) (by decide)) dX9_read_88 ?_
    show XJ shB p l e (rmX D) s m args below meth c 0 0 G 6 (MQ below (QcX shB G ((some (.int r.1), r.2) : Option Value × Mem).1 ((some (.int r.1), r.2) : Option Value × Mem).2) args s 0 0 (AW shB G.2.1)) 91 [(3, .int r6.1), (0, .ref 0), (1, .int a1), (2, .int a2)] [.int r11.1] r11.2
    refine X_pick [1, 3, 0] rfl ?_
    exact F9_read_j91_ok F hr hlk hD h
  · rw [if_neg q8] at h
    refine X_iconst F dX9_read_67 (v := (0 : Int32)) rfl ?_
    refine X_goto (tgt := 91) F dX9_read_68 (by decide) ?_
    refine X_pick [1, 3, 0] rfl ?_
    exact F9_read_j91_ok F hr hlk hD h
set_option maxRecDepth 20000 in
theorem F9_read_met {l : Launch} {G : GG} {D : Nat} {r : Int32 × Mem} {M : Mem} {a1 : Int32} {a2 : Int32} (hI : Inj shB G.2.1) (hD : 87 ≤ D) (h : F9_read M a1 a2 = some r) : MetX shB l G yX9_read cX9_read 6 (some .int) D [.ref 0, .int a1, .int a2] M (some (.int r.1), r.2) :=
  X_met hI (by decide +kernel) (Nat.le_of_ble_eq_true rfl) (fun p e s m args below meth c F hr hlk => F9_read_ok F hr hlk hD h)
-- KeepOurPlaceModel.within
def F9_within (M : Mem) (a0 : Int32) (a1 : Int32) (a2 : Int32) : Option (Int32 × Mem) :=
    if a1 ≤ a0 then
      if a0 ≤ a2 then
        some (a0, M)
      else
        some (a2, M)
    else
      some (a1, M)
set_option maxRecDepth 20000 in
theorem F9_within_ok {p : Program} {l : Launch} {e : Env} {s : State} {m : MethodId} {args : Array Value} {below : List Frame} {meth : Method} {c : Code} {G : GG} {D : Nat} {r : Int32 × Mem} (F : FrP shB G p s m args c RX9 cX9_within 3) (hr : meth.sig.returnType = (some .int)) (hlk : meth.locks = false) (hD : 1 ≤ D) {M : Mem} {a0 : Int32} {a1 : Int32} {a2 : Int32} (h : F9_within M a0 a1 a2 = some r) : XJ shB p l e (rmX D) s m args below meth c 0 0 G 3 (MQ below (QcX shB G ((some (.int r.1), r.2) : Option Value × Mem).1 ((some (.int r.1), r.2) : Option Value × Mem).2) args s 0 0 (AW shB G.2.1)) 0 [(0, .int a0), (1, .int a1), (2, .int a2)] [] M := by
  unfold F9_within at h
  refine X_iload_n F dX9_within_0 rfl ?_
  refine X_iload_n F dX9_within_1 rfl ?_
  refine X_icmp_ge (tgt := 9) F dX9_within_2 (by decide) (fun q1 => ?_) (fun q1 => ?_)
  · rw [if_pos q1] at h
    refine X_iload_n F dX9_within_9 rfl ?_
    refine X_iload_n F dX9_within_10 rfl ?_
    refine X_icmp_le (tgt := 18) F dX9_within_11 (by decide) (fun q2 => ?_) (fun q2 => ?_)
    · rw [if_pos q2] at h
      refine X_iload_n F dX9_within_18 rfl ?_
      exact X_iret F hr hlk (retI h) dX9_within_19
    · rw [if_neg q2] at h
      refine X_iload_n F dX9_within_14 rfl ?_
      refine X_goto (tgt := 19) F dX9_within_15 (by decide) ?_
      exact X_iret F hr hlk (retI h) dX9_within_19
  · rw [if_neg q1] at h
    refine X_iload_n F dX9_within_5 rfl ?_
    refine X_goto (tgt := 19) F dX9_within_6 (by decide) ?_
    exact X_iret F hr hlk (retI h) dX9_within_19
set_option maxRecDepth 20000 in
theorem F9_within_met {l : Launch} {G : GG} {D : Nat} {r : Int32 × Mem} {M : Mem} {a0 : Int32} {a1 : Int32} {a2 : Int32} (hI : Inj shB G.2.1) (hD : 1 ≤ D) (h : F9_within M a0 a1 a2 = some r) : MetX shB l G yX9_within cX9_within 3 (some .int) D [.int a0, .int a1, .int a2] M (some (.int r.1), r.2) :=
  X_met hI (by decide +kernel) (Nat.le_of_ble_eq_true rfl) (fun p e s m args below meth c F hr hlk => F9_within_ok F hr hlk hD h)
-- KeepOurPlaceModel.says
def F9_says (M : Mem) (a1 : Int32) (a2 : Int32) (a3 : Int32) (a4 : Int32) (a5 : Int32) : Option (Int32 × Mem) :=
    Option.bind (F9_read (up2 (up2 (up2 (up2 (up2 (up2 M 0 17 a2) 0 18 a3) 0 19 a4) 0 20 (M 0 11)) 0 21 a5) 0 22 (M 0 10)) (M 0 4) a1) fun r1 =>
    Option.bind (F9_within r1.2 r1.1 (0 : Int32) (99 : Int32)) fun r3 =>
    some (r3.1, r3.2)
set_option maxRecDepth 20000 in
theorem F9_says_ok {p : Program} {l : Launch} {e : Env} {s : State} {m : MethodId} {args : Array Value} {below : List Frame} {meth : Method} {c : Code} {G : GG} {D : Nat} {r : Int32 × Mem} (F : FrP shB G p s m args c RX9 cX9_says 6) (hr : meth.sig.returnType = (some .int)) (hlk : meth.locks = false) (hD : 88 ≤ D) {M : Mem} {a1 : Int32} {a2 : Int32} {a3 : Int32} {a4 : Int32} {a5 : Int32} (h : F9_says M a1 a2 a3 a4 a5 = some r) : XJ shB p l e (rmX D) s m args below meth c 0 0 G 6 (MQ below (QcX shB G ((some (.int r.1), r.2) : Option Value × Mem).1 ((some (.int r.1), r.2) : Option Value × Mem).2) args s 0 0 (AW shB G.2.1)) 0 [(0, .ref 0), (1, .int a1), (2, .int a2), (3, .int a3), (4, .int a4), (5, .int a5)] [] M := by
  unfold F9_says at h
  refine X_aload_n F dX9_says_0 rfl ?_
  refine X_iload_n F dX9_says_1 rfl ?_
  refine X_puti F ffRX9_197 fw9_17 (by decide) dX9_says_2 ?_
  refine X_aload_n F dX9_says_5 rfl ?_
  refine X_iload_n F dX9_says_6 rfl ?_
  refine X_puti F ffRX9_200 fw9_18 (by decide) dX9_says_7 ?_
  refine X_aload_n F dX9_says_10 rfl ?_
  refine X_iload F dX9_says_11 rfl ?_
  refine X_puti F ffRX9_203 fw9_19 (by decide) dX9_says_13 ?_
  refine X_aload_n F dX9_says_16 rfl ?_
  refine X_aload_n F dX9_says_17 rfl ?_
  refine X_geti (v := (M 0 11)) F ffRX9_118 dX9_says_18 rfl ?_
  refine X_puti F ffRX9_206 fw9_20 (by decide) dX9_says_21 ?_
  refine X_aload_n F dX9_says_24 rfl ?_
  refine X_iload F dX9_says_25 rfl ?_
  refine X_puti F ffRX9_209 fw9_21 (by decide) dX9_says_27 ?_
  refine X_aload_n F dX9_says_30 rfl ?_
  refine X_aload_n F dX9_says_31 rfl ?_
  refine X_geti (v := (M 0 10)) F ffRX9_85 dX9_says_32 rfl ?_
  refine X_puti F ffRX9_212 fw9_22 (by decide) dX9_says_35 ?_
  refine X_aload_n F dX9_says_38 rfl ?_
  refine X_aload_n F dX9_says_39 rfl ?_
  refine X_geti (v := (M 0 4)) F ffRX9_255 dX9_says_40 rfl ?_
  refine X_iload_n F dX9_says_43 rfl ?_
  obtain ⟨r1, h2, h⟩ := bndS h
  refine X_callV (ci := 0) (As := [.int (M 0 4), .int a1]) (rest := []) F fkRX9_252 feX9_read fvX9_read ⟨_, _, _, rfl, rfl, rfl⟩ (F9_read_met (D := D - 1) F.2.2.2.2.2.2.2.1 (by omega) h2) rfl rfl (Nat.le_of_ble_eq_true rfl) (rm_ok (by omega) (by decide)) dX9_says_44 ?_
  show XJ shB p l e (rmX D) s m args below meth c 0 0 G 6 (MQ below (QcX shB G ((some (.int r.1), r.2) : Option Value × Mem).1 ((some (.int r.1), r.2) : Option Value × Mem).2) args s 0 0 (AW shB G.2.1)) 47 [(0, .ref 0), (1, .int a1), (2, .int a2), (3, .int a3), (4, .int a4), (5, .int a5)] [.int r1.1] r1.2
  refine X_iconst F dX9_says_47 (v := (0 : Int32)) rfl ?_
  refine X_bipush F dX9_says_48 (v := (99 : Int32)) rfl ?_
  obtain ⟨r3, h4, h⟩ := bndS h
  refine X_callS (As := [.int r1.1, .int (0 : Int32), .int (99 : Int32)]) (rest := []) F fsRX9_258 feX9_within ftX9_within (F9_within_met (D := D - 1) F.2.2.2.2.2.2.2.1 (by omega) h4) rfl rfl (Nat.le_of_ble_eq_true rfl) (rm_ok (by omega) (by decide)) dX9_says_50 ?_
  show XJ shB p l e (rmX D) s m args below meth c 0 0 G 6 (MQ below (QcX shB G ((some (.int r.1), r.2) : Option Value × Mem).1 ((some (.int r.1), r.2) : Option Value × Mem).2) args s 0 0 (AW shB G.2.1)) 53 [(0, .ref 0), (1, .int a1), (2, .int a2), (3, .int a3), (4, .int a4), (5, .int a5)] [.int r3.1] r3.2
  exact X_iret F hr hlk (retI h) dX9_says_53
set_option maxRecDepth 20000 in
theorem F9_says_met {l : Launch} {G : GG} {D : Nat} {r : Int32 × Mem} {M : Mem} {a1 : Int32} {a2 : Int32} {a3 : Int32} {a4 : Int32} {a5 : Int32} (hI : Inj shB G.2.1) (hD : 88 ≤ D) (h : F9_says M a1 a2 a3 a4 a5 = some r) : MetX shB l G yX9_says cX9_says 6 (some .int) D [.ref 0, .int a1, .int a2, .int a3, .int a4, .int a5] M (some (.int r.1), r.2) :=
  X_met hI (by decide +kernel) (Nat.le_of_ble_eq_true rfl) (fun p e s m args below meth c F hr hlk => F9_says_ok F hr hlk hD h)
-- KeepOurPlaceModel.secondsOf
def F9_secondsOf_j102 (M : Mem) (x1 : Int32) (x2 : Int32) (x3 : Int32) (y0 : Int32) : Option (Int32 × Mem) :=
    if ¬ x2 = (5 : Int32) then
      if ¬ x2 = (4 : Int32) then
        some (y0, M)
      else
        if inb x1 8 = true then
        some ((y0 + (M 6 (Int32.toNatClampNeg x1))), M)
        else none
    else
      some ((x3 / (2 : Int32)), M)
def F9_secondsOf_j50 (M : Mem) (x1 : Int32) (x2 : Int32) (x3 : Int32) : Option (Int32 × Mem) :=
    if inb x1 8 = true then
    if ¬ x2 = (3 : Int32) then
      some ((x3 + ((5 : Int32) * (M 6 (Int32.toNatClampNeg x1)))), M)
    else
      if ¬ (jrem (M 5 (Int32.toNatClampNeg x1)) (2 : Int32)) = (1 : Int32) then
        some ((x3 + ((5 : Int32) * (M 6 (Int32.toNatClampNeg x1)))), M)
      else
        some (((x3 + ((5 : Int32) * (M 6 (Int32.toNatClampNeg x1)))) + (20 : Int32)), M)
    else none
def F9_secondsOf (M : Mem) (a1 : Int32) : Option (Int32 × Mem) :=
    if inb a1 8 = true then
    Option.bind (F9_says M (0 : Int32) (M 5 (Int32.toNatClampNeg a1)) (M 6 (Int32.toNatClampNeg a1)) a1 (0 : Int32)) fun r2 =>
    if ¬ (M 4 (Int32.toNatClampNeg a1)) = 0 then
      if (M 4 (Int32.toNatClampNeg a1)) = (1 : Int32) then
        F9_secondsOf_j50 r2.2 a1 (M 4 (Int32.toNatClampNeg a1)) ((M 5 (Int32.toNatClampNeg a1)) * r2.1)
      else
        if ¬ (M 4 (Int32.toNatClampNeg a1)) = (3 : Int32) then
          if ((M 5 (Int32.toNatClampNeg a1)) * r2.1) ≤ (60 : Int32) then
            F9_secondsOf_j102 r2.2 a1 (M 4 (Int32.toNatClampNeg a1)) ((M 5 (Int32.toNatClampNeg a1)) * r2.1) ((M 5 (Int32.toNatClampNeg a1)) * r2.1)
          else
            F9_secondsOf_j102 r2.2 a1 (M 4 (Int32.toNatClampNeg a1)) ((M 5 (Int32.toNatClampNeg a1)) * r2.1) (60 : Int32)
        else
          F9_secondsOf_j50 r2.2 a1 (M 4 (Int32.toNatClampNeg a1)) ((M 5 (Int32.toNatClampNeg a1)) * r2.1)
    else
      some (((M 5 (Int32.toNatClampNeg a1)) * r2.1), r2.2)
    else none
set_option maxRecDepth 20000 in
theorem F9_secondsOf_j102_ok {p : Program} {l : Launch} {e : Env} {s : State} {m : MethodId} {args : Array Value} {below : List Frame} {meth : Method} {c : Code} {G : GG} {D : Nat} {r : Int32 × Mem} (F : FrP shB G p s m args c RX9 cX9_secondsOf 5) (hr : meth.sig.returnType = (some .int)) (hlk : meth.locks = false) (hD : 89 ≤ D) {M : Mem} {x1 : Int32} {x2 : Int32} {x3 : Int32} {y0 : Int32} (h : F9_secondsOf_j102 M x1 x2 x3 y0 = some r) : XJ shB p l e (rmX D) s m args below meth c 0 0 G 5 (MQ below (QcX shB G ((some (.int r.1), r.2) : Option Value × Mem).1 ((some (.int r.1), r.2) : Option Value × Mem).2) args s 0 0 (AW shB G.2.1)) 102 [(0, .ref 0), (1, .int x1), (2, .int x2), (3, .int x3)] [.int y0] M := by
  unfold F9_secondsOf_j102 at h
  refine X_istore F dX9_secondsOf_102 (by decide) rfl ?_
  refine X_iload_n F dX9_secondsOf_104 rfl ?_
  refine X_iconst F dX9_secondsOf_105 (v := (5 : Int32)) rfl ?_
  refine X_icmp_ne (tgt := 115) F dX9_secondsOf_106 (by decide) (fun q8 => ?_) (fun q8 => ?_)
  · rw [if_pos q8] at h
    refine X_iload_n F dX9_secondsOf_115 rfl ?_
    refine X_iconst F dX9_secondsOf_116 (v := (4 : Int32)) rfl ?_
    refine X_icmp_ne (tgt := 132) F dX9_secondsOf_117 (by decide) (fun q9 => ?_) (fun q9 => ?_)
    · rw [if_pos q9] at h
      refine X_iload F dX9_secondsOf_132 rfl ?_
      exact X_iret F hr hlk (retI h) dX9_secondsOf_134
    · rw [if_neg (fun z => z q9)] at h
      refine X_iload F dX9_secondsOf_120 rfl ?_
      refine X_aload_n F dX9_secondsOf_122 rfl ?_
      refine X_getr F ffRX9_29 dX9_secondsOf_123 ?_
      refine X_iload_n F dX9_secondsOf_126 rfl ?_
      obtain ⟨q10, h⟩ := ifS h
      refine X_iald (j := (Int32.toNatClampNeg x1)) (v := (M 6 (Int32.toNatClampNeg x1))) F rfl (inbV q10) rfl rfl dX9_secondsOf_127 ?_
      refine X_iadd F dX9_secondsOf_128 ?_
      refine X_goto (tgt := 134) F dX9_secondsOf_129 (by decide) ?_
      exact X_iret F hr hlk (retI h) dX9_secondsOf_134
  · rw [if_neg (fun z => z q8)] at h
    refine X_iload_n F dX9_secondsOf_109 rfl ?_
    refine X_iconst F dX9_secondsOf_110 (v := (2 : Int32)) rfl ?_
    refine X_idiv F dX9_secondsOf_111 (by decide) ?_
    refine X_goto (tgt := 134) F dX9_secondsOf_112 (by decide) ?_
    exact X_iret F hr hlk (retI h) dX9_secondsOf_134
set_option maxRecDepth 20000 in
theorem F9_secondsOf_j50_ok {p : Program} {l : Launch} {e : Env} {s : State} {m : MethodId} {args : Array Value} {below : List Frame} {meth : Method} {c : Code} {G : GG} {D : Nat} {r : Int32 × Mem} (F : FrP shB G p s m args c RX9 cX9_secondsOf 5) (hr : meth.sig.returnType = (some .int)) (hlk : meth.locks = false) (hD : 89 ≤ D) {M : Mem} {x1 : Int32} {x2 : Int32} {x3 : Int32} (h : F9_secondsOf_j50 M x1 x2 x3 = some r) : XJ shB p l e (rmX D) s m args below meth c 0 0 G 5 (MQ below (QcX shB G ((some (.int r.1), r.2) : Option Value × Mem).1 ((some (.int r.1), r.2) : Option Value × Mem).2) args s 0 0 (AW shB G.2.1)) 50 [(0, .ref 0), (1, .int x1), (2, .int x2), (3, .int x3)] [] M := by
  unfold F9_secondsOf_j50 at h
  refine X_iload_n F dX9_secondsOf_50 rfl ?_
  refine X_iconst F dX9_secondsOf_51 (v := (5 : Int32)) rfl ?_
  refine X_aload_n F dX9_secondsOf_52 rfl ?_
  refine X_getr F ffRX9_29 dX9_secondsOf_53 ?_
  refine X_iload_n F dX9_secondsOf_56 rfl ?_
  obtain ⟨q11, h⟩ := ifS h
  refine X_iald (j := (Int32.toNatClampNeg x1)) (v := (M 6 (Int32.toNatClampNeg x1))) F rfl (inbV q11) rfl rfl dX9_secondsOf_57 ?_
  refine X_imul F dX9_secondsOf_58 ?_
  refine X_iadd F dX9_secondsOf_59 ?_
  refine X_istore F dX9_secondsOf_60 (by decide) rfl ?_
  refine X_iload_n F dX9_secondsOf_62 rfl ?_
  refine X_iconst F dX9_secondsOf_63 (v := (3 : Int32)) rfl ?_
  refine X_icmp_ne (tgt := 87) F dX9_secondsOf_64 (by decide) (fun q12 => ?_) (fun q12 => ?_)
  · rw [if_pos q12] at h
    refine X_iload F dX9_secondsOf_87 rfl ?_
    exact X_iret F hr hlk (retI h) dX9_secondsOf_89
  · rw [if_neg (fun z => z q12)] at h
    refine X_aload_n F dX9_secondsOf_67 rfl ?_
    refine X_getr F ffRX9_26 dX9_secondsOf_68 ?_
    refine X_iload_n F dX9_secondsOf_71 rfl ?_
    refine X_iald (j := (Int32.toNatClampNeg x1)) (v := (M 5 (Int32.toNatClampNeg x1))) F rfl (inbV q11) rfl rfl dX9_secondsOf_72 ?_
    refine X_iconst F dX9_secondsOf_73 (v := (2 : Int32)) rfl ?_
    refine X_irem F dX9_secondsOf_74 (by decide) ?_
    refine X_iconst F dX9_secondsOf_75 (v := (1 : Int32)) rfl ?_
    refine X_icmp_ne (tgt := 87) F dX9_secondsOf_76 (by decide) (fun q13 => ?_) (fun q13 => ?_)
    · rw [if_pos q13] at h
      refine X_iload F dX9_secondsOf_87 rfl ?_
      exact X_iret F hr hlk (retI h) dX9_secondsOf_89
    · rw [if_neg (fun z => z q13)] at h
      refine X_iload F dX9_secondsOf_79 rfl ?_
      refine X_bipush F dX9_secondsOf_81 (v := (20 : Int32)) rfl ?_
      refine X_iadd F dX9_secondsOf_83 ?_
      refine X_goto (tgt := 89) F dX9_secondsOf_84 (by decide) ?_
      exact X_iret F hr hlk (retI h) dX9_secondsOf_89
set_option maxRecDepth 20000 in
theorem F9_secondsOf_ok {p : Program} {l : Launch} {e : Env} {s : State} {m : MethodId} {args : Array Value} {below : List Frame} {meth : Method} {c : Code} {G : GG} {D : Nat} {r : Int32 × Mem} (F : FrP shB G p s m args c RX9 cX9_secondsOf 5) (hr : meth.sig.returnType = (some .int)) (hlk : meth.locks = false) (hD : 89 ≤ D) {M : Mem} {a1 : Int32} (h : F9_secondsOf M a1 = some r) : XJ shB p l e (rmX D) s m args below meth c 0 0 G 5 (MQ below (QcX shB G ((some (.int r.1), r.2) : Option Value × Mem).1 ((some (.int r.1), r.2) : Option Value × Mem).2) args s 0 0 (AW shB G.2.1)) 0 [(0, .ref 0), (1, .int a1)] [] M := by
  unfold F9_secondsOf at h
  refine X_aload_n F dX9_secondsOf_0 rfl ?_
  refine X_getr F ffRX9_23 dX9_secondsOf_1 ?_
  refine X_iload_n F dX9_secondsOf_4 rfl ?_
  obtain ⟨q1, h⟩ := ifS h
  refine X_iald (j := (Int32.toNatClampNeg a1)) (v := (M 4 (Int32.toNatClampNeg a1))) F rfl (inbV q1) rfl rfl dX9_secondsOf_5 ?_
  refine X_istore_n F dX9_secondsOf_6 (by decide) rfl ?_
  refine X_aload_n F dX9_secondsOf_7 rfl ?_
  refine X_getr F ffRX9_26 dX9_secondsOf_8 ?_
  refine X_iload_n F dX9_secondsOf_11 rfl ?_
  refine X_iald (j := (Int32.toNatClampNeg a1)) (v := (M 5 (Int32.toNatClampNeg a1))) F rfl (inbV q1) rfl rfl dX9_secondsOf_12 ?_
  refine X_aload_n F dX9_secondsOf_13 rfl ?_
  refine X_iconst F dX9_secondsOf_14 (v := (0 : Int32)) rfl ?_
  refine X_aload_n F dX9_secondsOf_15 rfl ?_
  refine X_getr F ffRX9_26 dX9_secondsOf_16 ?_
  refine X_iload_n F dX9_secondsOf_19 rfl ?_
  refine X_iald (j := (Int32.toNatClampNeg a1)) (v := (M 5 (Int32.toNatClampNeg a1))) F rfl (inbV q1) rfl rfl dX9_secondsOf_20 ?_
  refine X_aload_n F dX9_secondsOf_21 rfl ?_
  refine X_getr F ffRX9_29 dX9_secondsOf_22 ?_
  refine X_iload_n F dX9_secondsOf_25 rfl ?_
  refine X_iald (j := (Int32.toNatClampNeg a1)) (v := (M 6 (Int32.toNatClampNeg a1))) F rfl (inbV q1) rfl rfl dX9_secondsOf_26 ?_
  refine X_iload_n F dX9_secondsOf_27 rfl ?_
  refine X_iconst F dX9_secondsOf_28 (v := (0 : Int32)) rfl ?_
  obtain ⟨r2, h3, h⟩ := bndS h
  refine X_callV (ci := 0) (As := [.int (0 : Int32), .int (M 5 (Int32.toNatClampNeg a1)), .int (M 6 (Int32.toNatClampNeg a1)), .int a1, .int (0 : Int32)]) (rest := [.int (M 5 (Int32.toNatClampNeg a1))]) F fkRX9_262 feX9_says fvX9_says ⟨_, _, _, rfl, rfl, rfl⟩ (F9_says_met (D := D - 1) F.2.2.2.2.2.2.2.1 (by omega) h3) rfl rfl (Nat.le_of_ble_eq_true rfl) (rm_ok (by omega) (by decide)) dX9_secondsOf_29 ?_
  show XJ shB p l e (rmX D) s m args below meth c 0 0 G 5 (MQ below (QcX shB G ((some (.int r.1), r.2) : Option Value × Mem).1 ((some (.int r.1), r.2) : Option Value × Mem).2) args s 0 0 (AW shB G.2.1)) 32 [(2, .int (M 4 (Int32.toNatClampNeg a1))), (0, .ref 0), (1, .int a1)] [.int r2.1, .int (M 5 (Int32.toNatClampNeg a1))] r2.2
  refine X_imul F dX9_secondsOf_32 ?_
  refine X_istore_n F dX9_secondsOf_33 (by decide) rfl ?_
  refine X_iload_n F dX9_secondsOf_34 rfl ?_
  refine X_if_ne (tgt := 40) F dX9_secondsOf_35 (by decide) (fun q4 => ?_) (fun q4 => ?_)
  · rw [if_pos q4] at h
    refine X_iload_n F dX9_secondsOf_40 rfl ?_
    refine X_iconst F dX9_secondsOf_41 (v := (1 : Int32)) rfl ?_
    refine X_icmp_eq (tgt := 50) F dX9_secondsOf_42 (by decide) (fun q5 => ?_) (fun q5 => ?_)
    · rw [if_pos q5] at h
      refine X_pick [2, 3, 1, 0] rfl ?_
      exact F9_secondsOf_j50_ok F hr hlk hD h
    · rw [if_neg q5] at h
      refine X_iload_n F dX9_secondsOf_45 rfl ?_
      refine X_iconst F dX9_secondsOf_46 (v := (3 : Int32)) rfl ?_
      refine X_icmp_ne (tgt := 90) F dX9_secondsOf_47 (by decide) (fun q6 => ?_) (fun q6 => ?_)
      · rw [if_pos q6] at h
        refine X_iload_n F dX9_secondsOf_90 rfl ?_
        refine X_bipush F dX9_secondsOf_91 (v := (60 : Int32)) rfl ?_
        refine X_icmp_le (tgt := 101) F dX9_secondsOf_93 (by decide) (fun q7 => ?_) (fun q7 => ?_)
        · rw [if_pos q7] at h
          refine X_iload_n F dX9_secondsOf_101 rfl ?_
          refine X_pick [2, 3, 1, 0] rfl ?_
          exact F9_secondsOf_j102_ok F hr hlk hD h
        · rw [if_neg q7] at h
          refine X_bipush F dX9_secondsOf_96 (v := (60 : Int32)) rfl ?_
          refine X_goto (tgt := 102) F dX9_secondsOf_98 (by decide) ?_
          refine X_pick [2, 3, 1, 0] rfl ?_
          exact F9_secondsOf_j102_ok F hr hlk hD h
      · rw [if_neg (fun z => z q6)] at h
        refine X_pick [2, 3, 1, 0] rfl ?_
        exact F9_secondsOf_j50_ok F hr hlk hD h
  · rw [if_neg (fun z => z q4)] at h
    refine X_iload_n F dX9_secondsOf_38 rfl ?_
    exact X_iret F hr hlk (retI h) dX9_secondsOf_39
set_option maxRecDepth 20000 in
theorem F9_secondsOf_met {l : Launch} {G : GG} {D : Nat} {r : Int32 × Mem} {M : Mem} {a1 : Int32} (hI : Inj shB G.2.1) (hD : 89 ≤ D) (h : F9_secondsOf M a1 = some r) : MetX shB l G yX9_secondsOf cX9_secondsOf 5 (some .int) D [.ref 0, .int a1] M (some (.int r.1), r.2) :=
  X_met hI (by decide +kernel) (Nat.le_of_ble_eq_true rfl) (fun p e s m args below meth c F hr hlk => F9_secondsOf_ok F hr hlk hD h)
-- KeepOurPlaceModel.mindsOf
def F9_mindsOf_j82 (M : Mem) (y0 : Int32) : Option (Int32 × Mem) :=
    if 0 ≤ y0 then
      some (y0, M)
    else
      some ((0 : Int32), M)
def F9_mindsOf (M : Mem) (a1 : Int32) (a2 : Int32) : Option (Int32 × Mem) :=
    if inb a1 8 = true then
    Option.bind (F9_says M (1 : Int32) (M 5 (Int32.toNatClampNeg a1)) (M 6 (Int32.toNatClampNeg a1)) a1 a2) fun r2 =>
    if ¬ (M 4 (Int32.toNatClampNeg a1)) = (3 : Int32) then
      if ¬ (M 4 (Int32.toNatClampNeg a1)) = (2 : Int32) then
        if ¬ (M 4 (Int32.toNatClampNeg a1)) = (4 : Int32) then
          if ¬ (M 4 (Int32.toNatClampNeg a1)) = (5 : Int32) then
            F9_mindsOf_j82 r2.2 r2.1
          else
            F9_mindsOf_j82 r2.2 (r2.1 + (1 : Int32))
        else
          F9_mindsOf_j82 r2.2 (((2 : Int32) * r2.1) - (r2.2 6 (Int32.toNatClampNeg a1)))
      else
        F9_mindsOf_j82 r2.2 ((2 : Int32) * r2.1)
    else
      F9_mindsOf_j82 r2.2 (0 : Int32)
    else none
set_option maxRecDepth 20000 in
theorem F9_mindsOf_j82_ok {p : Program} {l : Launch} {e : Env} {s : State} {m : MethodId} {args : Array Value} {below : List Frame} {meth : Method} {c : Code} {G : GG} {D : Nat} {r : Int32 × Mem} (F : FrP shB G p s m args c RX9 cX9_mindsOf 6) (hr : meth.sig.returnType = (some .int)) (hlk : meth.locks = false) (hD : 89 ≤ D) {M : Mem} {y0 : Int32} (h : F9_mindsOf_j82 M y0 = some r) : XJ shB p l e (rmX D) s m args below meth c 0 0 G 6 (MQ below (QcX shB G ((some (.int r.1), r.2) : Option Value × Mem).1 ((some (.int r.1), r.2) : Option Value × Mem).2) args s 0 0 (AW shB G.2.1)) 82 [] [.int y0] M := by
  unfold F9_mindsOf_j82 at h
  refine X_istore F dX9_mindsOf_82 (by decide) rfl ?_
  refine X_iload F dX9_mindsOf_84 rfl ?_
  refine X_if_ge (tgt := 93) F dX9_mindsOf_86 (by decide) (fun q8 => ?_) (fun q8 => ?_)
  · rw [if_pos q8] at h
    refine X_iload F dX9_mindsOf_93 rfl ?_
    exact X_iret F hr hlk (retI h) dX9_mindsOf_95
  · rw [if_neg q8] at h
    refine X_iconst F dX9_mindsOf_89 (v := (0 : Int32)) rfl ?_
    refine X_goto (tgt := 95) F dX9_mindsOf_90 (by decide) ?_
    exact X_iret F hr hlk (retI h) dX9_mindsOf_95
set_option maxRecDepth 20000 in
theorem F9_mindsOf_ok {p : Program} {l : Launch} {e : Env} {s : State} {m : MethodId} {args : Array Value} {below : List Frame} {meth : Method} {c : Code} {G : GG} {D : Nat} {r : Int32 × Mem} (F : FrP shB G p s m args c RX9 cX9_mindsOf 6) (hr : meth.sig.returnType = (some .int)) (hlk : meth.locks = false) (hD : 89 ≤ D) {M : Mem} {a1 : Int32} {a2 : Int32} (h : F9_mindsOf M a1 a2 = some r) : XJ shB p l e (rmX D) s m args below meth c 0 0 G 6 (MQ below (QcX shB G ((some (.int r.1), r.2) : Option Value × Mem).1 ((some (.int r.1), r.2) : Option Value × Mem).2) args s 0 0 (AW shB G.2.1)) 0 [(0, .ref 0), (1, .int a1), (2, .int a2)] [] M := by
  unfold F9_mindsOf at h
  refine X_aload_n F dX9_mindsOf_0 rfl ?_
  refine X_getr F ffRX9_23 dX9_mindsOf_1 ?_
  refine X_iload_n F dX9_mindsOf_4 rfl ?_
  obtain ⟨q1, h⟩ := ifS h
  refine X_iald (j := (Int32.toNatClampNeg a1)) (v := (M 4 (Int32.toNatClampNeg a1))) F rfl (inbV q1) rfl rfl dX9_mindsOf_5 ?_
  refine X_istore_n F dX9_mindsOf_6 (by decide) rfl ?_
  refine X_aload_n F dX9_mindsOf_7 rfl ?_
  refine X_iconst F dX9_mindsOf_8 (v := (1 : Int32)) rfl ?_
  refine X_aload_n F dX9_mindsOf_9 rfl ?_
  refine X_getr F ffRX9_26 dX9_mindsOf_10 ?_
  refine X_iload_n F dX9_mindsOf_13 rfl ?_
  refine X_iald (j := (Int32.toNatClampNeg a1)) (v := (M 5 (Int32.toNatClampNeg a1))) F rfl (inbV q1) rfl rfl dX9_mindsOf_14 ?_
  refine X_aload_n F dX9_mindsOf_15 rfl ?_
  refine X_getr F ffRX9_29 dX9_mindsOf_16 ?_
  refine X_iload_n F dX9_mindsOf_19 rfl ?_
  refine X_iald (j := (Int32.toNatClampNeg a1)) (v := (M 6 (Int32.toNatClampNeg a1))) F rfl (inbV q1) rfl rfl dX9_mindsOf_20 ?_
  refine X_iload_n F dX9_mindsOf_21 rfl ?_
  refine X_iload_n F dX9_mindsOf_22 rfl ?_
  obtain ⟨r2, h3, h⟩ := bndS h
  refine X_callV (ci := 0) (As := [.int (1 : Int32), .int (M 5 (Int32.toNatClampNeg a1)), .int (M 6 (Int32.toNatClampNeg a1)), .int a1, .int a2]) (rest := []) F fkRX9_262 feX9_says fvX9_says ⟨_, _, _, rfl, rfl, rfl⟩ (F9_says_met (D := D - 1) F.2.2.2.2.2.2.2.1 (by omega) h3) rfl rfl (Nat.le_of_ble_eq_true rfl) (rm_ok (by omega) (by decide)) dX9_mindsOf_23 ?_
  show XJ shB p l e (rmX D) s m args below meth c 0 0 G 6 (MQ below (QcX shB G ((some (.int r.1), r.2) : Option Value × Mem).1 ((some (.int r.1), r.2) : Option Value × Mem).2) args s 0 0 (AW shB G.2.1)) 26 [(3, .int (M 4 (Int32.toNatClampNeg a1))), (0, .ref 0), (1, .int a1), (2, .int a2)] [.int r2.1] r2.2
  refine X_istore F dX9_mindsOf_26 (by decide) rfl ?_
  refine X_iload_n F dX9_mindsOf_28 rfl ?_
  refine X_iconst F dX9_mindsOf_29 (v := (3 : Int32)) rfl ?_
  refine X_icmp_ne (tgt := 37) F dX9_mindsOf_30 (by decide) (fun q4 => ?_) (fun q4 => ?_)
  · rw [if_pos q4] at h
    refine X_iload_n F dX9_mindsOf_37 rfl ?_
    refine X_iconst F dX9_mindsOf_38 (v := (2 : Int32)) rfl ?_
    refine X_icmp_ne (tgt := 49) F dX9_mindsOf_39 (by decide) (fun q5 => ?_) (fun q5 => ?_)
    · rw [if_pos q5] at h
      refine X_iload_n F dX9_mindsOf_49 rfl ?_
      refine X_iconst F dX9_mindsOf_50 (v := (4 : Int32)) rfl ?_
      refine X_icmp_ne (tgt := 68) F dX9_mindsOf_51 (by decide) (fun q6 => ?_) (fun q6 => ?_)
      · rw [if_pos q6] at h
        refine X_iload_n F dX9_mindsOf_68 rfl ?_
        refine X_iconst F dX9_mindsOf_69 (v := (5 : Int32)) rfl ?_
        refine X_icmp_ne (tgt := 80) F dX9_mindsOf_70 (by decide) (fun q7 => ?_) (fun q7 => ?_)
        · rw [if_pos q7] at h
          refine X_iload F dX9_mindsOf_80 rfl ?_
          refine X_pick [] rfl ?_
          exact F9_mindsOf_j82_ok F hr hlk hD h
        · rw [if_neg (fun z => z q7)] at h
          refine X_iload F dX9_mindsOf_73 rfl ?_
          refine X_iconst F dX9_mindsOf_75 (v := (1 : Int32)) rfl ?_
          refine X_iadd F dX9_mindsOf_76 ?_
          refine X_goto (tgt := 82) F dX9_mindsOf_77 (by decide) ?_
          refine X_pick [] rfl ?_
          exact F9_mindsOf_j82_ok F hr hlk hD h
      · rw [if_neg (fun z => z q6)] at h
        refine X_iconst F dX9_mindsOf_54 (v := (2 : Int32)) rfl ?_
        refine X_iload F dX9_mindsOf_55 rfl ?_
        refine X_imul F dX9_mindsOf_57 ?_
        refine X_aload_n F dX9_mindsOf_58 rfl ?_
        refine X_getr F ffRX9_29 dX9_mindsOf_59 ?_
        refine X_iload_n F dX9_mindsOf_62 rfl ?_
        refine X_iald (j := (Int32.toNatClampNeg a1)) (v := (r2.2 6 (Int32.toNatClampNeg a1))) F rfl (inbV q1) rfl rfl dX9_mindsOf_63 ?_
        refine X_isub F dX9_mindsOf_64 ?_
        refine X_goto (tgt := 82) F dX9_mindsOf_65 (by decide) ?_
        refine X_pick [] rfl ?_
        exact F9_mindsOf_j82_ok F hr hlk hD h
    · rw [if_neg (fun z => z q5)] at h
      refine X_iconst F dX9_mindsOf_42 (v := (2 : Int32)) rfl ?_
      refine X_iload F dX9_mindsOf_43 rfl ?_
      refine X_imul F dX9_mindsOf_45 ?_
      refine X_goto (tgt := 82) F dX9_mindsOf_46 (by decide) ?_
      refine X_pick [] rfl ?_
      exact F9_mindsOf_j82_ok F hr hlk hD h
  · rw [if_neg (fun z => z q4)] at h
    refine X_iconst F dX9_mindsOf_33 (v := (0 : Int32)) rfl ?_
    refine X_goto (tgt := 82) F dX9_mindsOf_34 (by decide) ?_
    refine X_pick [] rfl ?_
    exact F9_mindsOf_j82_ok F hr hlk hD h
set_option maxRecDepth 20000 in
theorem F9_mindsOf_met {l : Launch} {G : GG} {D : Nat} {r : Int32 × Mem} {M : Mem} {a1 : Int32} {a2 : Int32} (hI : Inj shB G.2.1) (hD : 89 ≤ D) (h : F9_mindsOf M a1 a2 = some r) : MetX shB l G yX9_mindsOf cX9_mindsOf 6 (some .int) D [.ref 0, .int a1, .int a2] M (some (.int r.1), r.2) :=
  X_met hI (by decide +kernel) (Nat.le_of_ble_eq_true rfl) (fun p e s m args below meth c F hr hlk => F9_mindsOf_ok F hr hlk hD h)
-- KeepOurPlaceModel.told
def F9_told_j48 (M : Mem) (x1 : Int32) (x2 : Int32) : Option (Int32 × Mem) :=
    if (3 : Int32) ≤ x2 then
      if (6 : Int32) ≤ x2 then
        if ¬ x2 = (6 : Int32) then
          Option.bind (F9_mindsOf M x1 (0 : Int32)) fun r16 =>
          some (r16.1, r16.2)
        else
          Option.bind (F9_secondsOf M x1) fun r18 =>
          some (r18.1, r18.2)
      else
        if ¬ x2 = (3 : Int32) then
          if ¬ x2 = (4 : Int32) then
            if inb x1 6 = true then
            some ((M 9 (Int32.toNatClampNeg x1)), M)
            else none
          else
            if inb x1 6 = true then
            some ((M 8 (Int32.toNatClampNeg x1)), M)
            else none
        else
          if inb x1 6 = true then
          some ((M 7 (Int32.toNatClampNeg x1)), M)
          else none
    else
      if ¬ x2 = 0 then
        if ¬ x2 = (1 : Int32) then
          if inb x1 8 = true then
          some ((M 6 (Int32.toNatClampNeg x1)), M)
          else none
        else
          if inb x1 8 = true then
          some ((M 5 (Int32.toNatClampNeg x1)), M)
          else none
      else
        if inb x1 8 = true then
        some ((M 4 (Int32.toNatClampNeg x1)), M)
        else none
def F9_told (M : Mem) (a1 : Int32) (a2 : Int32) : Option (Int32 × Mem) :=
    Option.bind (F9_in M (Int32.toInt64 a2) (0 : Int64) (7 : Int64)) fun r1 =>
    if r1.1 = 0 then
      some ((-2 : Int32), r1.2)
    else
      Option.bind (F9_in r1.2 (Int32.toInt64 a2) (3 : Int64) (5 : Int64)) fun r4 =>
      if r4.1 = 0 then
        Option.bind (F9_isOne r4.2 a1) fun r7 =>
        if ¬ r7.1 = 0 then
          F9_told_j48 r7.2 a1 a2
        else
          some ((-2 : Int32), r7.2)
      else
        Option.bind (F9_isThing r4.2 a1) fun r10 =>
        if r10.1 = 0 then
          some ((-2 : Int32), r10.2)
        else
          F9_told_j48 r10.2 a1 a2
set_option maxRecDepth 20000 in
theorem F9_told_j48_ok {p : Program} {l : Launch} {e : Env} {s : State} {m : MethodId} {args : Array Value} {below : List Frame} {meth : Method} {c : Code} {G : GG} {D : Nat} {r : Int32 × Mem} (F : FrP shB G p s m args c RX9 cX9_told 3) (hr : meth.sig.returnType = (some .int)) (hlk : meth.locks = false) (hD : 90 ≤ D) {M : Mem} {x1 : Int32} {x2 : Int32} (h : F9_told_j48 M x1 x2 = some r) : XJ shB p l e (rmX D) s m args below meth c 0 0 G 3 (MQ below (QcX shB G ((some (.int r.1), r.2) : Option Value × Mem).1 ((some (.int r.1), r.2) : Option Value × Mem).2) args s 0 0 (AW shB G.2.1)) 48 [(0, .ref 0), (1, .int x1), (2, .int x2)] [] M := by
  unfold F9_told_j48 at h
  refine X_iload_n F dX9_told_48 rfl ?_
  refine X_iconst F dX9_told_49 (v := (3 : Int32)) rfl ?_
  refine X_icmp_ge (tgt := 87) F dX9_told_50 (by decide) (fun q13 => ?_) (fun q13 => ?_)
  · rw [if_pos q13] at h
    refine X_iload_n F dX9_told_87 rfl ?_
    refine X_bipush F dX9_told_88 (v := (6 : Int32)) rfl ?_
    refine X_icmp_ge (tgt := 128) F dX9_told_90 (by decide) (fun q14 => ?_) (fun q14 => ?_)
    · rw [if_pos q14] at h
      refine X_iload_n F dX9_told_128 rfl ?_
      refine X_bipush F dX9_told_129 (v := (6 : Int32)) rfl ?_
      refine X_icmp_ne (tgt := 142) F dX9_told_131 (by decide) (fun q15 => ?_) (fun q15 => ?_)
      · rw [if_pos q15] at h
        refine X_aload_n F dX9_told_142 rfl ?_
        refine X_iload_n F dX9_told_143 rfl ?_
        refine X_iconst F dX9_told_144 (v := (0 : Int32)) rfl ?_
        obtain ⟨r16, h17, h⟩ := bndS h
        refine X_callV (ci := 0) (As := [.int x1, .int (0 : Int32)]) (rest := []) F fkRX9_129 feX9_mindsOf fvX9_mindsOf ⟨_, _, _, rfl, rfl, rfl⟩ (F9_mindsOf_met (D := D - 1) F.2.2.2.2.2.2.2.1 (by omega) h17) rfl rfl (Nat.le_of_ble_eq_true rfl) (rm_ok (by omega) (by decide)) dX9_told_145 ?_
        show XJ shB p l e (rmX D) s m args below meth c 0 0 G 3 (MQ below (QcX shB G ((some (.int r.1), r.2) : Option Value × Mem).1 ((some (.int r.1), r.2) : Option Value × Mem).2) args s 0 0 (AW shB G.2.1)) 148 [(0, .ref 0), (1, .int x1), (2, .int x2)] [.int r16.1] r16.2
        exact X_iret F hr hlk (retI h) dX9_told_148
      · rw [if_neg (fun z => z q15)] at h
        refine X_aload_n F dX9_told_134 rfl ?_
        refine X_iload_n F dX9_told_135 rfl ?_
        obtain ⟨r18, h19, h⟩ := bndS h
        refine X_callV (ci := 0) (As := [.int x1]) (rest := []) F fkRX9_125 feX9_secondsOf fvX9_secondsOf ⟨_, _, _, rfl, rfl, rfl⟩ (F9_secondsOf_met (D := D - 1) F.2.2.2.2.2.2.2.1 (by omega) h19) rfl rfl (Nat.le_of_ble_eq_true rfl) (rm_ok (by omega) (by decide)) dX9_told_136 ?_
        show XJ shB p l e (rmX D) s m args below meth c 0 0 G 3 (MQ below (QcX shB G ((some (.int r.1), r.2) : Option Value × Mem).1 ((some (.int r.1), r.2) : Option Value × Mem).2) args s 0 0 (AW shB G.2.1)) 139 [(0, .ref 0), (1, .int x1), (2, .int x2)] [.int r18.1] r18.2
        refine X_goto (tgt := 148) F dX9_told_139 (by decide) ?_
        exact X_iret F hr hlk (retI h) dX9_told_148
    · rw [if_neg q14] at h
      refine X_iload_n F dX9_told_93 rfl ?_
      refine X_iconst F dX9_told_94 (v := (3 : Int32)) rfl ?_
      refine X_icmp_ne (tgt := 107) F dX9_told_95 (by decide) (fun q20 => ?_) (fun q20 => ?_)
      · rw [if_pos q20] at h
        refine X_iload_n F dX9_told_107 rfl ?_
        refine X_iconst F dX9_told_108 (v := (4 : Int32)) rfl ?_
        refine X_icmp_ne (tgt := 121) F dX9_told_109 (by decide) (fun q21 => ?_) (fun q21 => ?_)
        · rw [if_pos q21] at h
          refine X_aload_n F dX9_told_121 rfl ?_
          refine X_getr F ffRX9_38 dX9_told_122 ?_
          refine X_iload_n F dX9_told_125 rfl ?_
          obtain ⟨q22, h⟩ := ifS h
          refine X_iald (j := (Int32.toNatClampNeg x1)) (v := (M 9 (Int32.toNatClampNeg x1))) F rfl (inbV q22) rfl rfl dX9_told_126 ?_
          exact X_iret F hr hlk (retI h) dX9_told_127
        · rw [if_neg (fun z => z q21)] at h
          refine X_aload_n F dX9_told_112 rfl ?_
          refine X_getr F ffRX9_35 dX9_told_113 ?_
          refine X_iload_n F dX9_told_116 rfl ?_
          obtain ⟨q23, h⟩ := ifS h
          refine X_iald (j := (Int32.toNatClampNeg x1)) (v := (M 8 (Int32.toNatClampNeg x1))) F rfl (inbV q23) rfl rfl dX9_told_117 ?_
          refine X_goto (tgt := 127) F dX9_told_118 (by decide) ?_
          exact X_iret F hr hlk (retI h) dX9_told_127
      · rw [if_neg (fun z => z q20)] at h
        refine X_aload_n F dX9_told_98 rfl ?_
        refine X_getr F ffRX9_32 dX9_told_99 ?_
        refine X_iload_n F dX9_told_102 rfl ?_
        obtain ⟨q24, h⟩ := ifS h
        refine X_iald (j := (Int32.toNatClampNeg x1)) (v := (M 7 (Int32.toNatClampNeg x1))) F rfl (inbV q24) rfl rfl dX9_told_103 ?_
        refine X_goto (tgt := 127) F dX9_told_104 (by decide) ?_
        exact X_iret F hr hlk (retI h) dX9_told_127
  · rw [if_neg q13] at h
    refine X_iload_n F dX9_told_53 rfl ?_
    refine X_if_ne (tgt := 66) F dX9_told_54 (by decide) (fun q25 => ?_) (fun q25 => ?_)
    · rw [if_pos q25] at h
      refine X_iload_n F dX9_told_66 rfl ?_
      refine X_iconst F dX9_told_67 (v := (1 : Int32)) rfl ?_
      refine X_icmp_ne (tgt := 80) F dX9_told_68 (by decide) (fun q26 => ?_) (fun q26 => ?_)
      · rw [if_pos q26] at h
        refine X_aload_n F dX9_told_80 rfl ?_
        refine X_getr F ffRX9_29 dX9_told_81 ?_
        refine X_iload_n F dX9_told_84 rfl ?_
        obtain ⟨q27, h⟩ := ifS h
        refine X_iald (j := (Int32.toNatClampNeg x1)) (v := (M 6 (Int32.toNatClampNeg x1))) F rfl (inbV q27) rfl rfl dX9_told_85 ?_
        exact X_iret F hr hlk (retI h) dX9_told_86
      · rw [if_neg (fun z => z q26)] at h
        refine X_aload_n F dX9_told_71 rfl ?_
        refine X_getr F ffRX9_26 dX9_told_72 ?_
        refine X_iload_n F dX9_told_75 rfl ?_
        obtain ⟨q28, h⟩ := ifS h
        refine X_iald (j := (Int32.toNatClampNeg x1)) (v := (M 5 (Int32.toNatClampNeg x1))) F rfl (inbV q28) rfl rfl dX9_told_76 ?_
        refine X_goto (tgt := 86) F dX9_told_77 (by decide) ?_
        exact X_iret F hr hlk (retI h) dX9_told_86
    · rw [if_neg (fun z => z q25)] at h
      refine X_aload_n F dX9_told_57 rfl ?_
      refine X_getr F ffRX9_23 dX9_told_58 ?_
      refine X_iload_n F dX9_told_61 rfl ?_
      obtain ⟨q29, h⟩ := ifS h
      refine X_iald (j := (Int32.toNatClampNeg x1)) (v := (M 4 (Int32.toNatClampNeg x1))) F rfl (inbV q29) rfl rfl dX9_told_62 ?_
      refine X_goto (tgt := 86) F dX9_told_63 (by decide) ?_
      exact X_iret F hr hlk (retI h) dX9_told_86
set_option maxRecDepth 20000 in
theorem F9_told_ok {p : Program} {l : Launch} {e : Env} {s : State} {m : MethodId} {args : Array Value} {below : List Frame} {meth : Method} {c : Code} {G : GG} {D : Nat} {r : Int32 × Mem} (F : FrP shB G p s m args c RX9 cX9_told 3) (hr : meth.sig.returnType = (some .int)) (hlk : meth.locks = false) (hD : 90 ≤ D) {M : Mem} {a1 : Int32} {a2 : Int32} (h : F9_told M a1 a2 = some r) : XJ shB p l e (rmX D) s m args below meth c 0 0 G 3 (MQ below (QcX shB G ((some (.int r.1), r.2) : Option Value × Mem).1 ((some (.int r.1), r.2) : Option Value × Mem).2) args s 0 0 (AW shB G.2.1)) 0 [(0, .ref 0), (1, .int a1), (2, .int a2)] [] M := by
  unfold F9_told at h
  refine X_iload_n F dX9_told_0 rfl ?_
  refine X_i2l F dX9_told_1 ?_
  refine X_lconst F dX9_told_2 (v := (0 : Int64)) rfl ?_
  refine X_ldc2 F fcRX9_121 dX9_told_3 ?_
  obtain ⟨r1, h2, h⟩ := bndS h
  refine X_callS (As := [.long (Int32.toInt64 a2), .long (0 : Int64), .long (7 : Int64)]) (rest := []) F fsRX9_88 feX9_in ftX9_in (F9_in_met (D := D - 1) F.2.2.2.2.2.2.2.1 (by omega) h2) rfl rfl (Nat.le_of_ble_eq_true rfl) (rm_ok (by omega) (by decide)) dX9_told_6 ?_
  show XJ shB p l e (rmX D) s m args below meth c 0 0 G 3 (MQ below (QcX shB G ((some (.int r.1), r.2) : Option Value × Mem).1 ((some (.int r.1), r.2) : Option Value × Mem).2) args s 0 0 (AW shB G.2.1)) 9 [(0, .ref 0), (1, .int a1), (2, .int a2)] [.int r1.1] r1.2
  refine X_if_eq (tgt := 45) F dX9_told_9 (by decide) (fun q3 => ?_) (fun q3 => ?_)
  · rw [if_pos q3] at h
    refine X_bipush F dX9_told_45 (v := (-2 : Int32)) rfl ?_
    exact X_iret F hr hlk (retI h) dX9_told_47
  · rw [if_neg q3] at h
    refine X_iload_n F dX9_told_12 rfl ?_
    refine X_i2l F dX9_told_13 ?_
    refine X_ldc2 F fcRX9_123 dX9_told_14 ?_
    refine X_ldc2 F fcRX9_95 dX9_told_17 ?_
    obtain ⟨r4, h5, h⟩ := bndS h
    refine X_callS (As := [.long (Int32.toInt64 a2), .long (3 : Int64), .long (5 : Int64)]) (rest := []) F fsRX9_88 feX9_in ftX9_in (F9_in_met (D := D - 1) F.2.2.2.2.2.2.2.1 (by omega) h5) rfl rfl (Nat.le_of_ble_eq_true rfl) (rm_ok (by omega) (by decide)) dX9_told_20 ?_
    show XJ shB p l e (rmX D) s m args below meth c 0 0 G 3 (MQ below (QcX shB G ((some (.int r.1), r.2) : Option Value × Mem).1 ((some (.int r.1), r.2) : Option Value × Mem).2) args s 0 0 (AW shB G.2.1)) 23 [(0, .ref 0), (1, .int a1), (2, .int a2)] [.int r4.1] r4.2
    refine X_if_eq (tgt := 37) F dX9_told_23 (by decide) (fun q6 => ?_) (fun q6 => ?_)
    · rw [if_pos q6] at h
      refine X_aload_n F dX9_told_37 rfl ?_
      refine X_iload_n F dX9_told_38 rfl ?_
      obtain ⟨r7, h8, h⟩ := bndS h
      refine X_callV (ci := 0) (As := [.int a1]) (rest := []) F fkRX9_105 feX9_isOne fvX9_isOne ⟨_, _, _, rfl, rfl, rfl⟩ (F9_isOne_met (D := D - 1) F.2.2.2.2.2.2.2.1 (by omega) h8) rfl rfl (Nat.le_of_ble_eq_true rfl) (rm_ok (by omega) (by decide)) dX9_told_39 ?_
      show XJ shB p l e (rmX D) s m args below meth c 0 0 G 3 (MQ below (QcX shB G ((some (.int r.1), r.2) : Option Value × Mem).1 ((some (.int r.1), r.2) : Option Value × Mem).2) args s 0 0 (AW shB G.2.1)) 42 [(0, .ref 0), (1, .int a1), (2, .int a2)] [.int r7.1] r7.2
      refine X_if_ne (tgt := 48) F dX9_told_42 (by decide) (fun q9 => ?_) (fun q9 => ?_)
      · rw [if_pos q9] at h
        exact F9_told_j48_ok F hr hlk hD h
      · rw [if_neg (fun z => z q9)] at h
        refine X_bipush F dX9_told_45 (v := (-2 : Int32)) rfl ?_
        exact X_iret F hr hlk (retI h) dX9_told_47
    · rw [if_neg q6] at h
      refine X_aload_n F dX9_told_26 rfl ?_
      refine X_iload_n F dX9_told_27 rfl ?_
      obtain ⟨r10, h11, h⟩ := bndS h
      refine X_callV (ci := 0) (As := [.int a1]) (rest := []) F fkRX9_109 feX9_isThing fvX9_isThing ⟨_, _, _, rfl, rfl, rfl⟩ (F9_isThing_met (D := D - 1) F.2.2.2.2.2.2.2.1 (by omega) h11) rfl rfl (Nat.le_of_ble_eq_true rfl) (rm_ok (by omega) (by decide)) dX9_told_28 ?_
      show XJ shB p l e (rmX D) s m args below meth c 0 0 G 3 (MQ below (QcX shB G ((some (.int r.1), r.2) : Option Value × Mem).1 ((some (.int r.1), r.2) : Option Value × Mem).2) args s 0 0 (AW shB G.2.1)) 31 [(0, .ref 0), (1, .int a1), (2, .int a2)] [.int r10.1] r10.2
      refine X_if_eq (tgt := 45) F dX9_told_31 (by decide) (fun q12 => ?_) (fun q12 => ?_)
      · rw [if_pos q12] at h
        refine X_bipush F dX9_told_45 (v := (-2 : Int32)) rfl ?_
        exact X_iret F hr hlk (retI h) dX9_told_47
      · rw [if_neg q12] at h
        refine X_goto (tgt := 48) F dX9_told_34 (by decide) ?_
        exact F9_told_j48_ok F hr hlk hD h
set_option maxRecDepth 20000 in
theorem F9_told_met {l : Launch} {G : GG} {D : Nat} {r : Int32 × Mem} {M : Mem} {a1 : Int32} {a2 : Int32} (hI : Inj shB G.2.1) (hD : 90 ≤ D) (h : F9_told M a1 a2 = some r) : MetX shB l G yX9_told cX9_told 3 (some .int) D [.ref 0, .int a1, .int a2] M (some (.int r.1), r.2) :=
  X_met hI (by decide +kernel) (Nat.le_of_ble_eq_true rfl) (fun p e s m args below meth c F hr hlk => F9_told_ok F hr hlk hD h)
-- KeepOurPlaceModel.serve
def F9_serve_j104 (M : Mem) (x1 : Int32) (y0 : Int32) : Option (Int32 × Mem) :=
    some (x1, (up2 (up2 M 0 11 y0) 0 12 ((M 0 12) + (1 : Int32))))
def F9_serve_l18_b (rec18 : Mem → Int32 → Int32 → Option (Int32 × Mem)) (M : Mem) (x1 : Int32) (x2 : Int32) : Option (Int32 × Mem) :=
    if ((M 0 10) - (1 : Int32)) ≤ x2 then
      if (M 0 11) ≤ 0 then
        F9_serve_j104 (up2 M 0 10 ((M 0 10) - (1 : Int32))) x1 (0 : Int32)
      else
        F9_serve_j104 (up2 M 0 10 ((M 0 10) - (1 : Int32))) x1 ((M 0 11) - (1 : Int32))
    else
      if inb (x2 + (1 : Int32)) 8 = true then
      if inb x2 8 = true then
      rec18 (up2 (up2 (up2 M 4 (Int32.toNatClampNeg x2) (M 4 (Int32.toNatClampNeg (x2 + (1 : Int32))))) 5 (Int32.toNatClampNeg x2) (M 5 (Int32.toNatClampNeg (x2 + (1 : Int32))))) 6 (Int32.toNatClampNeg x2) (M 6 (Int32.toNatClampNeg (x2 + (1 : Int32))))) x1 (x2 + (1 : Int32))
      else none
      else none
def F9_serve_l18 : Nat → Mem → Int32 → Int32 → Option (Int32 × Mem)
  | 0, _, _, _ => none
  | fu + 1, M, x1, x2 => F9_serve_l18_b (F9_serve_l18 fu) M x1 x2
def F9_serve (M : Mem) : Option (Int32 × Mem) :=
    if ¬ (M 0 10) = 0 then
      Option.bind (F9_secondsOf M (0 : Int32)) fun r2 =>
      F9_serve_l18 FUEL r2.2 r2.1 (0 : Int32)
    else
      some ((-3 : Int32), M)
set_option maxRecDepth 20000 in
theorem F9_serve_j104_ok {p : Program} {l : Launch} {e : Env} {s : State} {m : MethodId} {args : Array Value} {below : List Frame} {meth : Method} {c : Code} {G : GG} {D : Nat} {r : Int32 × Mem} (F : FrP shB G p s m args c RX9 cX9_serve 3) (hr : meth.sig.returnType = (some .int)) (hlk : meth.locks = false) (hD : 90 ≤ D) {M : Mem} {x1 : Int32} {y0 : Int32} (h : F9_serve_j104 M x1 y0 = some r) : XJ shB p l e (rmX D) s m args below meth c 0 0 G 3 (MQ below (QcX shB G ((some (.int r.1), r.2) : Option Value × Mem).1 ((some (.int r.1), r.2) : Option Value × Mem).2) args s 0 0 (AW shB G.2.1)) 104 [(0, .ref 0), (1, .int x1)] [.int y0, .ref 0] M := by
  unfold F9_serve_j104 at h
  refine X_puti F ffRX9_118 fw9_11 (by decide) dX9_serve_104 ?_
  refine X_aload_n F dX9_serve_107 rfl ?_
  refine X_dup F dX9_serve_108 rfl ?_
  refine X_geti (v := (M 0 12)) F ffRX9_133 dX9_serve_109 rfl ?_
  refine X_iconst F dX9_serve_112 (v := (1 : Int32)) rfl ?_
  refine X_iadd F dX9_serve_113 ?_
  refine X_puti F ffRX9_133 fw9_12 (by decide) dX9_serve_114 ?_
  refine X_iload_n F dX9_serve_117 rfl ?_
  exact X_iret F hr hlk (retI h) dX9_serve_118
set_option maxRecDepth 20000 in
theorem F9_serve_l18_bok {p : Program} {l : Launch} {e : Env} {s : State} {m : MethodId} {args : Array Value} {below : List Frame} {meth : Method} {c : Code} {G : GG} {D : Nat} {r : Int32 × Mem} {rec18 : Mem → Int32 → Int32 → Option (Int32 × Mem)} (F : FrP shB G p s m args c RX9 cX9_serve 3) (hr : meth.sig.returnType = (some .int)) (hlk : meth.locks = false) (hD : 90 ≤ D) (hrec18 : ∀ (M : Mem) (x1 : Int32) (x2 : Int32), rec18 M x1 x2 = some r → XJ shB p l e (rmX D) s m args below meth c 0 0 G 3 (MQ below (QcX shB G ((some (.int r.1), r.2) : Option Value × Mem).1 ((some (.int r.1), r.2) : Option Value × Mem).2) args s 0 0 (AW shB G.2.1)) 18 [(0, .ref 0), (1, .int x1), (2, .int x2)] [] M) {M : Mem} {x1 : Int32} {x2 : Int32} (h : F9_serve_l18_b rec18 M x1 x2 = some r) : XJ shB p l e (rmX D) s m args below meth c 0 0 G 3 (MQ below (QcX shB G ((some (.int r.1), r.2) : Option Value × Mem).1 ((some (.int r.1), r.2) : Option Value × Mem).2) args s 0 0 (AW shB G.2.1)) 18 [(0, .ref 0), (1, .int x1), (2, .int x2)] [] M := by
  unfold F9_serve_l18_b at h
  refine X_iload_n F dX9_serve_18 rfl ?_
  refine X_aload_n F dX9_serve_19 rfl ?_
  refine X_geti (v := (M 0 10)) F ffRX9_85 dX9_serve_20 rfl ?_
  refine X_iconst F dX9_serve_23 (v := (1 : Int32)) rfl ?_
  refine X_isub F dX9_serve_24 ?_
  refine X_icmp_ge (tgt := 76) F dX9_serve_25 (by decide) (fun q4 => ?_) (fun q4 => ?_)
  · rw [if_pos q4] at h
    refine X_aload_n F dX9_serve_76 rfl ?_
    refine X_dup F dX9_serve_77 rfl ?_
    refine X_geti (v := (M 0 10)) F ffRX9_85 dX9_serve_78 rfl ?_
    refine X_iconst F dX9_serve_81 (v := (1 : Int32)) rfl ?_
    refine X_isub F dX9_serve_82 ?_
    refine X_puti F ffRX9_85 fw9_10 (by decide) dX9_serve_83 ?_
    refine X_aload_n F dX9_serve_86 rfl ?_
    refine X_aload_n F dX9_serve_87 rfl ?_
    refine X_geti (v := (M 0 11)) F ffRX9_118 dX9_serve_88 rfl ?_
    refine X_if_le (tgt := 103) F dX9_serve_91 (by decide) (fun q5 => ?_) (fun q5 => ?_)
    · rw [if_pos q5] at h
      refine X_iconst F dX9_serve_103 (v := (0 : Int32)) rfl ?_
      refine X_pick [0, 1] rfl ?_
      exact F9_serve_j104_ok F hr hlk hD h
    · rw [if_neg q5] at h
      refine X_aload_n F dX9_serve_94 rfl ?_
      refine X_geti (v := (M 0 11)) F ffRX9_118 dX9_serve_95 rfl ?_
      refine X_iconst F dX9_serve_98 (v := (1 : Int32)) rfl ?_
      refine X_isub F dX9_serve_99 ?_
      refine X_goto (tgt := 104) F dX9_serve_100 (by decide) ?_
      refine X_pick [0, 1] rfl ?_
      exact F9_serve_j104_ok F hr hlk hD h
  · rw [if_neg q4] at h
    refine X_aload_n F dX9_serve_28 rfl ?_
    refine X_getr F ffRX9_23 dX9_serve_29 ?_
    refine X_iload_n F dX9_serve_32 rfl ?_
    refine X_aload_n F dX9_serve_33 rfl ?_
    refine X_getr F ffRX9_23 dX9_serve_34 ?_
    refine X_iload_n F dX9_serve_37 rfl ?_
    refine X_iconst F dX9_serve_38 (v := (1 : Int32)) rfl ?_
    refine X_iadd F dX9_serve_39 ?_
    obtain ⟨q6, h⟩ := ifS h
    refine X_iald (j := (Int32.toNatClampNeg (x2 + (1 : Int32)))) (v := (M 4 (Int32.toNatClampNeg (x2 + (1 : Int32))))) F rfl (inbV q6) rfl rfl dX9_serve_40 ?_
    obtain ⟨q7, h⟩ := ifS h
    refine X_iast (j := (Int32.toNatClampNeg x2)) F rfl (inbV q7) rfl dX9_serve_41 ?_
    refine X_aload_n F dX9_serve_42 rfl ?_
    refine X_getr F ffRX9_26 dX9_serve_43 ?_
    refine X_iload_n F dX9_serve_46 rfl ?_
    refine X_aload_n F dX9_serve_47 rfl ?_
    refine X_getr F ffRX9_26 dX9_serve_48 ?_
    refine X_iload_n F dX9_serve_51 rfl ?_
    refine X_iconst F dX9_serve_52 (v := (1 : Int32)) rfl ?_
    refine X_iadd F dX9_serve_53 ?_
    refine X_iald (j := (Int32.toNatClampNeg (x2 + (1 : Int32)))) (v := (M 5 (Int32.toNatClampNeg (x2 + (1 : Int32))))) F rfl (inbV q6) rfl rfl dX9_serve_54 ?_
    refine X_iast (j := (Int32.toNatClampNeg x2)) F rfl (inbV q7) rfl dX9_serve_55 ?_
    refine X_aload_n F dX9_serve_56 rfl ?_
    refine X_getr F ffRX9_29 dX9_serve_57 ?_
    refine X_iload_n F dX9_serve_60 rfl ?_
    refine X_aload_n F dX9_serve_61 rfl ?_
    refine X_getr F ffRX9_29 dX9_serve_62 ?_
    refine X_iload_n F dX9_serve_65 rfl ?_
    refine X_iconst F dX9_serve_66 (v := (1 : Int32)) rfl ?_
    refine X_iadd F dX9_serve_67 ?_
    refine X_iald (j := (Int32.toNatClampNeg (x2 + (1 : Int32)))) (v := (M 6 (Int32.toNatClampNeg (x2 + (1 : Int32))))) F rfl (inbV q6) rfl rfl dX9_serve_68 ?_
    refine X_iast (j := (Int32.toNatClampNeg x2)) F rfl (inbV q7) rfl dX9_serve_69 ?_
    refine X_iinc F dX9_serve_70 rfl (v := (1 : Int32)) rfl (by decide) rfl ?_
    refine X_goto (tgt := 18) F dX9_serve_73 (by decide) ?_
    refine X_pick [1, 2, 0] rfl ?_
    exact hrec18 _ _ _ h
set_option maxRecDepth 20000 in
theorem F9_serve_l18_ok {p : Program} {l : Launch} {e : Env} {s : State} {m : MethodId} {args : Array Value} {below : List Frame} {meth : Method} {c : Code} {G : GG} {D : Nat} {r : Int32 × Mem} (F : FrP shB G p s m args c RX9 cX9_serve 3) (hr : meth.sig.returnType = (some .int)) (hlk : meth.locks = false) (hD : 90 ≤ D) : ∀ (fu : Nat) (M : Mem) (x1 : Int32) (x2 : Int32), F9_serve_l18 fu M x1 x2 = some r → XJ shB p l e (rmX D) s m args below meth c 0 0 G 3 (MQ below (QcX shB G ((some (.int r.1), r.2) : Option Value × Mem).1 ((some (.int r.1), r.2) : Option Value × Mem).2) args s 0 0 (AW shB G.2.1)) 18 [(0, .ref 0), (1, .int x1), (2, .int x2)] [] M := by
  intro fu
  induction fu with
  | zero => intro M x1 x2 h; cases h
  | succ fu ih => intro M x1 x2 h; exact F9_serve_l18_bok F hr hlk hD (fun M x1 x2 => ih M x1 x2) h
set_option maxRecDepth 20000 in
theorem F9_serve_ok {p : Program} {l : Launch} {e : Env} {s : State} {m : MethodId} {args : Array Value} {below : List Frame} {meth : Method} {c : Code} {G : GG} {D : Nat} {r : Int32 × Mem} (F : FrP shB G p s m args c RX9 cX9_serve 3) (hr : meth.sig.returnType = (some .int)) (hlk : meth.locks = false) (hD : 90 ≤ D) {M : Mem} (h : F9_serve M = some r) : XJ shB p l e (rmX D) s m args below meth c 0 0 G 3 (MQ below (QcX shB G ((some (.int r.1), r.2) : Option Value × Mem).1 ((some (.int r.1), r.2) : Option Value × Mem).2) args s 0 0 (AW shB G.2.1)) 0 [(0, .ref 0)] [] M := by
  unfold F9_serve at h
  refine X_aload_n F dX9_serve_0 rfl ?_
  refine X_geti (v := (M 0 10)) F ffRX9_85 dX9_serve_1 rfl ?_
  refine X_if_ne (tgt := 10) F dX9_serve_4 (by decide) (fun q1 => ?_) (fun q1 => ?_)
  · rw [if_pos q1] at h
    refine X_aload_n F dX9_serve_10 rfl ?_
    refine X_iconst F dX9_serve_11 (v := (0 : Int32)) rfl ?_
    obtain ⟨r2, h3, h⟩ := bndS h
    refine X_callV (ci := 0) (As := [.int (0 : Int32)]) (rest := []) F fkRX9_125 feX9_secondsOf fvX9_secondsOf ⟨_, _, _, rfl, rfl, rfl⟩ (F9_secondsOf_met (D := D - 1) F.2.2.2.2.2.2.2.1 (by omega) h3) rfl rfl (Nat.le_of_ble_eq_true rfl) (rm_ok (by omega) (by decide)) dX9_serve_12 ?_
    show XJ shB p l e (rmX D) s m args below meth c 0 0 G 3 (MQ below (QcX shB G ((some (.int r.1), r.2) : Option Value × Mem).1 ((some (.int r.1), r.2) : Option Value × Mem).2) args s 0 0 (AW shB G.2.1)) 15 [(0, .ref 0)] [.int r2.1] r2.2
    refine X_istore_n F dX9_serve_15 (by decide) rfl ?_
    refine X_iconst F dX9_serve_16 (v := (0 : Int32)) rfl ?_
    refine X_istore_n F dX9_serve_17 (by decide) rfl ?_
    refine X_pick [2, 1, 0] rfl ?_
    exact F9_serve_l18_ok F hr hlk hD FUEL _ _ _ h
  · rw [if_neg (fun z => z q1)] at h
    refine X_bipush F dX9_serve_7 (v := (-3 : Int32)) rfl ?_
    exact X_iret F hr hlk (retI h) dX9_serve_9
set_option maxRecDepth 20000 in
theorem F9_serve_met {l : Launch} {G : GG} {D : Nat} {r : Int32 × Mem} {M : Mem} (hI : Inj shB G.2.1) (hD : 90 ≤ D) (h : F9_serve M = some r) : MetX shB l G yX9_serve cX9_serve 3 (some .int) D [.ref 0] M (some (.int r.1), r.2) :=
  X_met hI (by decide +kernel) (Nat.le_of_ble_eq_true rfl) (fun p e s m args below meth c F hr hlk => F9_serve_ok F hr hlk hD h)
