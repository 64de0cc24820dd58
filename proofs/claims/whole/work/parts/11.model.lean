/-! written by wip/whole/gen: the pure functions of these methods, read off their bytecode, and the walks that prove them -/
theorem fcRX9_136 : Cond.constantLong RX9 136 (255 : Int64) ∈ TBL := tmem 1232 (by decide +kernel) rfl
theorem ffRX9_138 : FLT shB RX9 0 9 138 6 (.int 0) := ⟨⟨RX9, TX9, 56, rfl, by decide, wsIn9, Or.inl (tmem 937 (by decide +kernel) rfl)⟩, _, rfl, rfl⟩
theorem ffRX9_20 : FLT shB RX9 0 9 20 5 (.ref 3) := ⟨⟨RX9, TX9, 56, rfl, by decide, wsIn9, Or.inl (tmem 936 (by decide +kernel) rfl)⟩, _, rfl, rfl⟩
theorem fw9_6 : FLW 9 6 .int := ⟨RX9, TX9, 56, tyX9, rfl, tyX9_ok, nmX9, rfl, by decide +kernel⟩
theorem ffRX9_82 : FLT shB RX9 0 9 82 3 (.int 0) := ⟨⟨RX9, TX9, 56, rfl, by decide, wsIn9, Or.inl (tmem 934 (by decide +kernel) rfl)⟩, _, rfl, rfl⟩
theorem fw9_3 : FLW 9 3 .int := ⟨RX9, TX9, 56, tyX9, rfl, tyX9_ok, nmX9, rfl, by decide +kernel⟩
theorem fw9_4 : FLW 9 4 .int := ⟨RX9, TX9, 56, tyX9, rfl, tyX9_ok, nmX9, rfl, by decide +kernel⟩
theorem ffRX9_266 : FLT shB RX9 0 9 266 35 (.int 0) := ⟨⟨RX9, TX9, 56, rfl, by decide, wsIn9, Or.inl (tmem 966 (by decide +kernel) rfl)⟩, _, rfl, rfl⟩
theorem fw9_35 : FLW 9 35 .int := ⟨RX9, TX9, 56, tyX9, rfl, tyX9_ok, nmX9, rfl, by decide +kernel⟩
theorem ffRX9_41 : FLT shB RX9 0 9 41 32 (.ref 10) := ⟨⟨RX9, TX9, 56, rfl, by decide, wsIn9, Or.inl (tmem 963 (by decide +kernel) rfl)⟩, _, rfl, rfl⟩
theorem ffRX9_44 : FLT shB RX9 0 9 44 33 (.ref 11) := ⟨⟨RX9, TX9, 56, rfl, by decide, wsIn9, Or.inl (tmem 964 (by decide +kernel) rfl)⟩, _, rfl, rfl⟩
theorem ffRX9_47 : FLT shB RX9 0 9 47 34 (.ref 12) := ⟨⟨RX9, TX9, 56, rfl, by decide, wsIn9, Or.inl (tmem 965 (by decide +kernel) rfl)⟩, _, rfl, rfl⟩
theorem fkRX9_272 : LNK RX9 272 yX9_gathers := Or.inl (tmem 1245 (by decide +kernel) rfl)
theorem feX9_gathers : CLE yX9_gathers 0 cX9_gathers 2 none := ⟨tmem 17 (by decide +kernel) rfl, tmem 1248 (by decide +kernel) rfl, by decide +kernel, by decide +kernel⟩
theorem fvX9_gathers : CLV yX9_gathers := ⟨tmem 1247 (by decide +kernel) rfl, smem 91 (by decide +kernel) rfl⟩
theorem ffRX9_275 : FLT shB RX9 0 9 275 38 (.int 0) := ⟨⟨RX9, TX9, 56, rfl, by decide, wsIn9, Or.inl (tmem 969 (by decide +kernel) rfl)⟩, _, rfl, rfl⟩
theorem fw9_38 : FLW 9 38 .int := ⟨RX9, TX9, 56, tyX9, rfl, tyX9_ok, nmX9, rfl, by decide +kernel⟩
theorem ffRX9_75 : FLT shB RX9 0 9 75 55 (.ref 20) := ⟨⟨RX9, TX9, 56, rfl, by decide, wsIn9, Or.inl (tmem 986 (by decide +kernel) rfl)⟩, _, rfl, rfl⟩
theorem ffRX9_50 : FLT shB RX9 0 9 50 37 (.ref 13) := ⟨⟨RX9, TX9, 56, rfl, by decide, wsIn9, Or.inl (tmem 968 (by decide +kernel) rfl)⟩, _, rfl, rfl⟩
theorem fsRX9_278 : Cond.methodLink RX9 278 yX9_steps ∈ TBL := tmem 1265 (by decide +kernel) rfl
theorem feX9_steps : CLE yX9_steps 2 cX9_steps 4 (some .int) := ⟨tmem 17 (by decide +kernel) rfl, tmem 1267 (by decide +kernel) rfl, by decide +kernel, by decide +kernel⟩
theorem ftX9_steps : Cond.static yX9_steps ∈ TBL := tmem 1266 (by decide +kernel) rfl
theorem ffRX9_269 : FLT shB RX9 0 9 269 36 (.int 0) := ⟨⟨RX9, TX9, 56, rfl, by decide, wsIn9, Or.inl (tmem 967 (by decide +kernel) rfl)⟩, _, rfl, rfl⟩
theorem fw9_36 : FLW 9 36 .int := ⟨RX9, TX9, 56, tyX9, rfl, tyX9_ok, nmX9, rfl, by decide +kernel⟩
theorem fsRX9_281 : Cond.methodLink RX9 281 yX9_isSheet ∈ TBL := tmem 1253 (by decide +kernel) rfl
theorem feX9_isSheet : CLE yX9_isSheet 1 cX9_isSheet 1 (some .boolean) := ⟨tmem 17 (by decide +kernel) rfl, tmem 1255 (by decide +kernel) rfl, by decide +kernel, by decide +kernel⟩
theorem ftX9_isSheet : Cond.static yX9_isSheet ∈ TBL := tmem 1254 (by decide +kernel) rfl
theorem fcRX9_287 : Cond.constant RX9 287 (-100000 : Int32) ∈ TBL := tmem 1260 (by decide +kernel) rfl
theorem ffRX9_65 : FLT shB RX9 0 9 65 52 (.ref 17) := ⟨⟨RX9, TX9, 56, rfl, by decide, wsIn9, Or.inl (tmem 983 (by decide +kernel) rfl)⟩, _, rfl, rfl⟩
theorem ffRX9_72 : FLT shB RX9 0 9 72 54 (.ref 19) := ⟨⟨RX9, TX9, 56, rfl, by decide, wsIn9, Or.inl (tmem 985 (by decide +kernel) rfl)⟩, _, rfl, rfl⟩
theorem fkRX9_284 : LNK RX9 284 yX9_lays := Or.inl (tmem 1256 (by decide +kernel) rfl)
theorem feX9_lays : CLE yX9_lays 2 cX9_lays 6 (some .boolean) := ⟨tmem 17 (by decide +kernel) rfl, tmem 1259 (by decide +kernel) rfl, by decide +kernel, by decide +kernel⟩
theorem fvX9_lays : CLV yX9_lays := ⟨tmem 1258 (by decide +kernel) rfl, smem 92 (by decide +kernel) rfl⟩
theorem fkRX9_288 : LNK RX9 288 yX9_backOf := Or.inl (tmem 1261 (by decide +kernel) rfl)
theorem feX9_backOf : CLE yX9_backOf 0 cX9_backOf 4 (some .int) := ⟨tmem 17 (by decide +kernel) rfl, tmem 1264 (by decide +kernel) rfl, by decide +kernel, by decide +kernel⟩
theorem fvX9_backOf : CLV yX9_backOf := ⟨tmem 1263 (by decide +kernel) rfl, smem 93 (by decide +kernel) rfl⟩
theorem fkRX9_291 : LNK RX9 291 yX9_worthOf := Or.inl (tmem 1268 (by decide +kernel) rfl)
theorem feX9_worthOf : CLE yX9_worthOf 0 cX9_worthOf 3 (some .int) := ⟨tmem 17 (by decide +kernel) rfl, tmem 1271 (by decide +kernel) rfl, by decide +kernel, by decide +kernel⟩
theorem fvX9_worthOf : CLV yX9_worthOf := ⟨tmem 1270 (by decide +kernel) rfl, smem 94 (by decide +kernel) rfl⟩
theorem fkRX9_294 : LNK RX9 294 yX9_gainOf := Or.inl (tmem 1272 (by decide +kernel) rfl)
theorem feX9_gainOf : CLE yX9_gainOf 2 cX9_gainOf 5 (some .int) := ⟨tmem 17 (by decide +kernel) rfl, tmem 1275 (by decide +kernel) rfl, by decide +kernel, by decide +kernel⟩
theorem fvX9_gainOf : CLV yX9_gainOf := ⟨tmem 1274 (by decide +kernel) rfl, smem 95 (by decide +kernel) rfl⟩
theorem fkRX9_297 : LNK RX9 297 yX9_digitsOf := Or.inl (tmem 1280 (by decide +kernel) rfl)
theorem feX9_digitsOf : CLE yX9_digitsOf 0 cX9_digitsOf 3 (some .int) := ⟨tmem 17 (by decide +kernel) rfl, tmem 1283 (by decide +kernel) rfl, by decide +kernel, by decide +kernel⟩
theorem fvX9_digitsOf : CLV yX9_digitsOf := ⟨tmem 1282 (by decide +kernel) rfl, smem 96 (by decide +kernel) rfl⟩
theorem ffRX9_300 : FLT shB RX9 0 9 300 42 (.int 0) := ⟨⟨RX9, TX9, 56, rfl, by decide, wsIn9, Or.inl (tmem 973 (by decide +kernel) rfl)⟩, _, rfl, rfl⟩
theorem ffRX9_303 : FLT shB RX9 0 9 303 41 (.int 0) := ⟨⟨RX9, TX9, 56, rfl, by decide, wsIn9, Or.inl (tmem 972 (by decide +kernel) rfl)⟩, _, rfl, rfl⟩
theorem ffRX9_306 : FLT shB RX9 0 9 306 40 (.int 0) := ⟨⟨RX9, TX9, 56, rfl, by decide, wsIn9, Or.inl (tmem 971 (by decide +kernel) rfl)⟩, _, rfl, rfl⟩
theorem fkRX9_309 : LNK RX9 309 yX9_goesOn := Or.inl (tmem 1296 (by decide +kernel) rfl)
theorem feX9_goesOn : CLE yX9_goesOn 5 cX9_goesOn 9 none := ⟨tmem 17 (by decide +kernel) rfl, tmem 1299 (by decide +kernel) rfl, by decide +kernel, by decide +kernel⟩
theorem fvX9_goesOn : CLV yX9_goesOn := ⟨tmem 1298 (by decide +kernel) rfl, smem 99 (by decide +kernel) rfl⟩
theorem fw9_42 : FLW 9 42 .boolean := ⟨RX9, TX9, 56, tyX9, rfl, tyX9_ok, nmX9, rfl, by decide +kernel⟩
theorem fw9_41 : FLW 9 41 .int := ⟨RX9, TX9, 56, tyX9, rfl, tyX9_ok, nmX9, rfl, by decide +kernel⟩
theorem fw9_40 : FLW 9 40 .int := ⟨RX9, TX9, 56, tyX9, rfl, tyX9_ok, nmX9, rfl, by decide +kernel⟩
theorem ffRX9_53 : FLT shB RX9 0 9 53 39 (.ref 14) := ⟨⟨RX9, TX9, 56, rfl, by decide, wsIn9, Or.inl (tmem 970 (by decide +kernel) rfl)⟩, _, rfl, rfl⟩
theorem dX9_feed_0 : decode cX9_feed 0 = .ok (.iload_n 1, 1) := by decide +kernel
theorem dX9_feed_1 : decode cX9_feed 1 = .ok (.i2l, 1) := by decide +kernel
theorem dX9_feed_2 : decode cX9_feed 2 = .ok (.lconst 0, 1) := by decide +kernel
theorem dX9_feed_3 : decode cX9_feed 3 = .ok (.ldc2_w 136, 3) := by decide +kernel
theorem dX9_feed_6 : decode cX9_feed 6 = .ok (.invokestatic 88, 3) := by decide +kernel
theorem dX9_feed_9 : decode cX9_feed 9 = .ok (.ifCond .ne 6, 3) := by decide +kernel
theorem dX9_feed_12 : decode cX9_feed 12 = .ok (.bipush (-2), 2) := by decide +kernel
theorem dX9_feed_14 : decode cX9_feed 14 = .ok (.ireturn, 1) := by decide +kernel
theorem dX9_feed_15 : decode cX9_feed 15 = .ok (.aload_n 0, 1) := by decide +kernel
theorem dX9_feed_16 : decode cX9_feed 16 = .ok (.getfield 138, 3) := by decide +kernel
theorem dX9_feed_19 : decode cX9_feed 19 = .ok (.sipush 160, 3) := by decide +kernel
theorem dX9_feed_22 : decode cX9_feed 22 = .ok (.if_icmp .ne 6, 3) := by decide +kernel
theorem dX9_feed_25 : decode cX9_feed 25 = .ok (.bipush (-4), 2) := by decide +kernel
theorem dX9_feed_27 : decode cX9_feed 27 = .ok (.ireturn, 1) := by decide +kernel
theorem dX9_feed_28 : decode cX9_feed 28 = .ok (.aload_n 0, 1) := by decide +kernel
theorem dX9_feed_29 : decode cX9_feed 29 = .ok (.getfield 20, 3) := by decide +kernel
theorem dX9_feed_32 : decode cX9_feed 32 = .ok (.aload_n 0, 1) := by decide +kernel
theorem dX9_feed_33 : decode cX9_feed 33 = .ok (.getfield 138, 3) := by decide +kernel
theorem dX9_feed_36 : decode cX9_feed 36 = .ok (.iload_n 1, 1) := by decide +kernel
theorem dX9_feed_37 : decode cX9_feed 37 = .ok (.iastore, 1) := by decide +kernel
theorem dX9_feed_38 : decode cX9_feed 38 = .ok (.aload_n 0, 1) := by decide +kernel
theorem dX9_feed_39 : decode cX9_feed 39 = .ok (.dup, 1) := by decide +kernel
theorem dX9_feed_40 : decode cX9_feed 40 = .ok (.getfield 138, 3) := by decide +kernel
theorem dX9_feed_43 : decode cX9_feed 43 = .ok (.iconst 1, 1) := by decide +kernel
theorem dX9_feed_44 : decode cX9_feed 44 = .ok (.iadd, 1) := by decide +kernel
theorem dX9_feed_45 : decode cX9_feed 45 = .ok (.putfield 138, 3) := by decide +kernel
theorem dX9_feed_48 : decode cX9_feed 48 = .ok (.aload_n 0, 1) := by decide +kernel
theorem dX9_feed_49 : decode cX9_feed 49 = .ok (.getfield 138, 3) := by decide +kernel
theorem dX9_feed_52 : decode cX9_feed 52 = .ok (.ireturn, 1) := by decide +kernel
theorem dX9_text_0 : decode cX9_text 0 = .ok (.aload_n 0, 1) := by decide +kernel
theorem dX9_text_1 : decode cX9_text 1 = .ok (.getfield 82, 3) := by decide +kernel
theorem dX9_text_4 : decode cX9_text 4 = .ok (.bipush 6, 2) := by decide +kernel
theorem dX9_text_6 : decode cX9_text 6 = .ok (.if_icmp .ne 6, 3) := by decide +kernel
theorem dX9_text_9 : decode cX9_text 9 = .ok (.bipush (-4), 2) := by decide +kernel
theorem dX9_text_11 : decode cX9_text 11 = .ok (.ireturn, 1) := by decide +kernel
theorem dX9_text_12 : decode cX9_text 12 = .ok (.iconst 0, 1) := by decide +kernel
theorem dX9_text_13 : decode cX9_text 13 = .ok (.istore_n 1, 1) := by decide +kernel
theorem dX9_text_14 : decode cX9_text 14 = .ok (.iload_n 1, 1) := by decide +kernel
theorem dX9_text_15 : decode cX9_text 15 = .ok (.aload_n 0, 1) := by decide +kernel
theorem dX9_text_16 : decode cX9_text 16 = .ok (.getfield 138, 3) := by decide +kernel
theorem dX9_text_19 : decode cX9_text 19 = .ok (.if_icmp .ge 30, 3) := by decide +kernel
theorem dX9_text_22 : decode cX9_text 22 = .ok (.aload_n 0, 1) := by decide +kernel
theorem dX9_text_23 : decode cX9_text 23 = .ok (.getfield 13, 3) := by decide +kernel
theorem dX9_text_26 : decode cX9_text 26 = .ok (.sipush 160, 3) := by decide +kernel
theorem dX9_text_29 : decode cX9_text 29 = .ok (.aload_n 0, 1) := by decide +kernel
theorem dX9_text_30 : decode cX9_text 30 = .ok (.getfield 82, 3) := by decide +kernel
theorem dX9_text_33 : decode cX9_text 33 = .ok (.imul, 1) := by decide +kernel
theorem dX9_text_34 : decode cX9_text 34 = .ok (.iload_n 1, 1) := by decide +kernel
theorem dX9_text_35 : decode cX9_text 35 = .ok (.iadd, 1) := by decide +kernel
theorem dX9_text_36 : decode cX9_text 36 = .ok (.aload_n 0, 1) := by decide +kernel
theorem dX9_text_37 : decode cX9_text 37 = .ok (.getfield 20, 3) := by decide +kernel
theorem dX9_text_40 : decode cX9_text 40 = .ok (.iload_n 1, 1) := by decide +kernel
theorem dX9_text_41 : decode cX9_text 41 = .ok (.iaload, 1) := by decide +kernel
theorem dX9_text_42 : decode cX9_text 42 = .ok (.iastore, 1) := by decide +kernel
theorem dX9_text_43 : decode cX9_text 43 = .ok (.iinc 1 1, 3) := by decide +kernel
theorem dX9_text_46 : decode cX9_text 46 = .ok (.goto (-32), 3) := by decide +kernel
theorem dX9_text_49 : decode cX9_text 49 = .ok (.aload_n 0, 1) := by decide +kernel
theorem dX9_text_50 : decode cX9_text 50 = .ok (.getfield 17, 3) := by decide +kernel
theorem dX9_text_53 : decode cX9_text 53 = .ok (.aload_n 0, 1) := by decide +kernel
theorem dX9_text_54 : decode cX9_text 54 = .ok (.getfield 82, 3) := by decide +kernel
theorem dX9_text_57 : decode cX9_text 57 = .ok (.aload_n 0, 1) := by decide +kernel
theorem dX9_text_58 : decode cX9_text 58 = .ok (.getfield 138, 3) := by decide +kernel
theorem dX9_text_61 : decode cX9_text 61 = .ok (.iastore, 1) := by decide +kernel
theorem dX9_text_62 : decode cX9_text 62 = .ok (.aload_n 0, 1) := by decide +kernel
theorem dX9_text_63 : decode cX9_text 63 = .ok (.iconst 0, 1) := by decide +kernel
theorem dX9_text_64 : decode cX9_text 64 = .ok (.putfield 138, 3) := by decide +kernel
theorem dX9_text_67 : decode cX9_text 67 = .ok (.aload_n 0, 1) := by decide +kernel
theorem dX9_text_68 : decode cX9_text 68 = .ok (.aload_n 0, 1) := by decide +kernel
theorem dX9_text_69 : decode cX9_text 69 = .ok (.getfield 82, 3) := by decide +kernel
theorem dX9_text_72 : decode cX9_text 72 = .ok (.iconst 0, 1) := by decide +kernel
theorem dX9_text_73 : decode cX9_text 73 = .ok (.invokevirtual 252, 3) := by decide +kernel
theorem dX9_text_76 : decode cX9_text 76 = .ok (.istore_n 1, 1) := by decide +kernel
theorem dX9_text_77 : decode cX9_text 77 = .ok (.aload_n 0, 1) := by decide +kernel
theorem dX9_text_78 : decode cX9_text 78 = .ok (.getfield 173, 3) := by decide +kernel
theorem dX9_text_81 : decode cX9_text 81 = .ok (.ifCond .eq 11, 3) := by decide +kernel
theorem dX9_text_84 : decode cX9_text 84 = .ok (.bipush (-100), 2) := by decide +kernel
theorem dX9_text_86 : decode cX9_text 86 = .ok (.aload_n 0, 1) := by decide +kernel
theorem dX9_text_87 : decode cX9_text 87 = .ok (.getfield 177, 3) := by decide +kernel
theorem dX9_text_90 : decode cX9_text 90 = .ok (.isub, 1) := by decide +kernel
theorem dX9_text_91 : decode cX9_text 91 = .ok (.ireturn, 1) := by decide +kernel
theorem dX9_text_92 : decode cX9_text 92 = .ok (.aload_n 0, 1) := by decide +kernel
theorem dX9_text_93 : decode cX9_text 93 = .ok (.dup, 1) := by decide +kernel
theorem dX9_text_94 : decode cX9_text 94 = .ok (.getfield 82, 3) := by decide +kernel
theorem dX9_text_97 : decode cX9_text 97 = .ok (.iconst 1, 1) := by decide +kernel
theorem dX9_text_98 : decode cX9_text 98 = .ok (.iadd, 1) := by decide +kernel
theorem dX9_text_99 : decode cX9_text 99 = .ok (.putfield 82, 3) := by decide +kernel
theorem dX9_text_102 : decode cX9_text 102 = .ok (.aload_n 0, 1) := by decide +kernel
theorem dX9_text_103 : decode cX9_text 103 = .ok (.getfield 82, 3) := by decide +kernel
theorem dX9_text_106 : decode cX9_text 106 = .ok (.iconst 1, 1) := by decide +kernel
theorem dX9_text_107 : decode cX9_text 107 = .ok (.isub, 1) := by decide +kernel
theorem dX9_text_108 : decode cX9_text 108 = .ok (.ireturn, 1) := by decide +kernel
theorem dX9_force_0 : decode cX9_force 0 = .ok (.iload_n 1, 1) := by decide +kernel
theorem dX9_force_1 : decode cX9_force 1 = .ok (.i2l, 1) := by decide +kernel
theorem dX9_force_2 : decode cX9_force 2 = .ok (.lconst 0, 1) := by decide +kernel
theorem dX9_force_3 : decode cX9_force 3 = .ok (.aload_n 0, 1) := by decide +kernel
theorem dX9_force_4 : decode cX9_force 4 = .ok (.getfield 82, 3) := by decide +kernel
theorem dX9_force_7 : decode cX9_force 7 = .ok (.iconst 1, 1) := by decide +kernel
theorem dX9_force_8 : decode cX9_force 8 = .ok (.isub, 1) := by decide +kernel
theorem dX9_force_9 : decode cX9_force 9 = .ok (.i2l, 1) := by decide +kernel
theorem dX9_force_10 : decode cX9_force 10 = .ok (.invokestatic 88, 3) := by decide +kernel
theorem dX9_force_13 : decode cX9_force 13 = .ok (.ifCond .ne 6, 3) := by decide +kernel
theorem dX9_force_16 : decode cX9_force 16 = .ok (.bipush (-2), 2) := by decide +kernel
theorem dX9_force_18 : decode cX9_force 18 = .ok (.ireturn, 1) := by decide +kernel
theorem dX9_force_19 : decode cX9_force 19 = .ok (.aload_n 0, 1) := by decide +kernel
theorem dX9_force_20 : decode cX9_force 20 = .ok (.getfield 255, 3) := by decide +kernel
theorem dX9_force_23 : decode cX9_force 23 = .ok (.istore_n 2, 1) := by decide +kernel
theorem dX9_force_24 : decode cX9_force 24 = .ok (.aload_n 0, 1) := by decide +kernel
theorem dX9_force_25 : decode cX9_force 25 = .ok (.iload_n 1, 1) := by decide +kernel
theorem dX9_force_26 : decode cX9_force 26 = .ok (.putfield 255, 3) := by decide +kernel
theorem dX9_force_29 : decode cX9_force 29 = .ok (.iload_n 2, 1) := by decide +kernel
theorem dX9_force_30 : decode cX9_force 30 = .ok (.ireturn, 1) := by decide +kernel
theorem dX9_gathers_0 : decode cX9_gathers 0 = .ok (.aload_n 0, 1) := by decide +kernel
theorem dX9_gathers_1 : decode cX9_gathers 1 = .ok (.iconst 0, 1) := by decide +kernel
theorem dX9_gathers_2 : decode cX9_gathers 2 = .ok (.putfield 266, 3) := by decide +kernel
theorem dX9_gathers_5 : decode cX9_gathers 5 = .ok (.iconst 0, 1) := by decide +kernel
theorem dX9_gathers_6 : decode cX9_gathers 6 = .ok (.istore_n 1, 1) := by decide +kernel
theorem dX9_gathers_7 : decode cX9_gathers 7 = .ok (.iload_n 1, 1) := by decide +kernel
theorem dX9_gathers_8 : decode cX9_gathers 8 = .ok (.aload_n 0, 1) := by decide +kernel
theorem dX9_gathers_9 : decode cX9_gathers 9 = .ok (.getfield 85, 3) := by decide +kernel
theorem dX9_gathers_12 : decode cX9_gathers 12 = .ok (.if_icmp .ge 76, 3) := by decide +kernel
theorem dX9_gathers_15 : decode cX9_gathers 15 = .ok (.aload_n 0, 1) := by decide +kernel
theorem dX9_gathers_16 : decode cX9_gathers 16 = .ok (.getfield 41, 3) := by decide +kernel
theorem dX9_gathers_19 : decode cX9_gathers 19 = .ok (.iload_n 1, 1) := by decide +kernel
theorem dX9_gathers_20 : decode cX9_gathers 20 = .ok (.aload_n 0, 1) := by decide +kernel
theorem dX9_gathers_21 : decode cX9_gathers 21 = .ok (.iload_n 1, 1) := by decide +kernel
theorem dX9_gathers_22 : decode cX9_gathers 22 = .ok (.invokevirtual 125, 3) := by decide +kernel
theorem dX9_gathers_25 : decode cX9_gathers 25 = .ok (.iastore, 1) := by decide +kernel
theorem dX9_gathers_26 : decode cX9_gathers 26 = .ok (.aload_n 0, 1) := by decide +kernel
theorem dX9_gathers_27 : decode cX9_gathers 27 = .ok (.getfield 44, 3) := by decide +kernel
theorem dX9_gathers_30 : decode cX9_gathers 30 = .ok (.iload_n 1, 1) := by decide +kernel
theorem dX9_gathers_31 : decode cX9_gathers 31 = .ok (.iload_n 1, 1) := by decide +kernel
theorem dX9_gathers_32 : decode cX9_gathers 32 = .ok (.aload_n 0, 1) := by decide +kernel
theorem dX9_gathers_33 : decode cX9_gathers 33 = .ok (.getfield 118, 3) := by decide +kernel
theorem dX9_gathers_36 : decode cX9_gathers 36 = .ok (.if_icmp .ge 7, 3) := by decide +kernel
theorem dX9_gathers_39 : decode cX9_gathers 39 = .ok (.iconst 0, 1) := by decide +kernel
theorem dX9_gathers_40 : decode cX9_gathers 40 = .ok (.goto 14, 3) := by decide +kernel
theorem dX9_gathers_43 : decode cX9_gathers 43 = .ok (.aload_n 0, 1) := by decide +kernel
theorem dX9_gathers_44 : decode cX9_gathers 44 = .ok (.iload_n 1, 1) := by decide +kernel
theorem dX9_gathers_45 : decode cX9_gathers 45 = .ok (.iload_n 1, 1) := by decide +kernel
theorem dX9_gathers_46 : decode cX9_gathers 46 = .ok (.aload_n 0, 1) := by decide +kernel
theorem dX9_gathers_47 : decode cX9_gathers 47 = .ok (.getfield 118, 3) := by decide +kernel
theorem dX9_gathers_50 : decode cX9_gathers 50 = .ok (.isub, 1) := by decide +kernel
theorem dX9_gathers_51 : decode cX9_gathers 51 = .ok (.invokevirtual 129, 3) := by decide +kernel
theorem dX9_gathers_54 : decode cX9_gathers 54 = .ok (.iastore, 1) := by decide +kernel
theorem dX9_gathers_55 : decode cX9_gathers 55 = .ok (.aload_n 0, 1) := by decide +kernel
theorem dX9_gathers_56 : decode cX9_gathers 56 = .ok (.dup, 1) := by decide +kernel
theorem dX9_gathers_57 : decode cX9_gathers 57 = .ok (.getfield 266, 3) := by decide +kernel
theorem dX9_gathers_60 : decode cX9_gathers 60 = .ok (.iload_n 1, 1) := by decide +kernel
theorem dX9_gathers_61 : decode cX9_gathers 61 = .ok (.aload_n 0, 1) := by decide +kernel
theorem dX9_gathers_62 : decode cX9_gathers 62 = .ok (.getfield 118, 3) := by decide +kernel
theorem dX9_gathers_65 : decode cX9_gathers 65 = .ok (.if_icmp .ge 12, 3) := by decide +kernel
theorem dX9_gathers_68 : decode cX9_gathers 68 = .ok (.aload_n 0, 1) := by decide +kernel
theorem dX9_gathers_69 : decode cX9_gathers 69 = .ok (.getfield 41, 3) := by decide +kernel
theorem dX9_gathers_72 : decode cX9_gathers 72 = .ok (.iload_n 1, 1) := by decide +kernel
theorem dX9_gathers_73 : decode cX9_gathers 73 = .ok (.iaload, 1) := by decide +kernel
theorem dX9_gathers_74 : decode cX9_gathers 74 = .ok (.goto 4, 3) := by decide +kernel
theorem dX9_gathers_77 : decode cX9_gathers 77 = .ok (.iconst 0, 1) := by decide +kernel
theorem dX9_gathers_78 : decode cX9_gathers 78 = .ok (.iadd, 1) := by decide +kernel
theorem dX9_gathers_79 : decode cX9_gathers 79 = .ok (.putfield 266, 3) := by decide +kernel
theorem dX9_gathers_82 : decode cX9_gathers 82 = .ok (.iinc 1 1, 3) := by decide +kernel
theorem dX9_gathers_85 : decode cX9_gathers 85 = .ok (.goto (-78), 3) := by decide +kernel
theorem dX9_gathers_88 : decode cX9_gathers 88 = .ok (.iconst 0, 1) := by decide +kernel
theorem dX9_gathers_89 : decode cX9_gathers 89 = .ok (.istore_n 1, 1) := by decide +kernel
theorem dX9_gathers_90 : decode cX9_gathers 90 = .ok (.iload_n 1, 1) := by decide +kernel
theorem dX9_gathers_91 : decode cX9_gathers 91 = .ok (.bipush 7, 2) := by decide +kernel
theorem dX9_gathers_93 : decode cX9_gathers 93 = .ok (.if_icmp .ge 24, 3) := by decide +kernel
theorem dX9_gathers_96 : decode cX9_gathers 96 = .ok (.aload_n 0, 1) := by decide +kernel
theorem dX9_gathers_97 : decode cX9_gathers 97 = .ok (.getfield 47, 3) := by decide +kernel
theorem dX9_gathers_100 : decode cX9_gathers 100 = .ok (.iload_n 1, 1) := by decide +kernel
theorem dX9_gathers_101 : decode cX9_gathers 101 = .ok (.aload_n 0, 1) := by decide +kernel
theorem dX9_gathers_102 : decode cX9_gathers 102 = .ok (.iconst 2, 1) := by decide +kernel
theorem dX9_gathers_103 : decode cX9_gathers 103 = .ok (.iload_n 1, 1) := by decide +kernel
theorem dX9_gathers_104 : decode cX9_gathers 104 = .ok (.iconst 0, 1) := by decide +kernel
theorem dX9_gathers_105 : decode cX9_gathers 105 = .ok (.iconst 0, 1) := by decide +kernel
theorem dX9_gathers_106 : decode cX9_gathers 106 = .ok (.iconst 0, 1) := by decide +kernel
theorem dX9_gathers_107 : decode cX9_gathers 107 = .ok (.invokevirtual 262, 3) := by decide +kernel
theorem dX9_gathers_110 : decode cX9_gathers 110 = .ok (.iastore, 1) := by decide +kernel
theorem dX9_gathers_111 : decode cX9_gathers 111 = .ok (.iinc 1 1, 3) := by decide +kernel
theorem dX9_gathers_114 : decode cX9_gathers 114 = .ok (.goto (-24), 3) := by decide +kernel
theorem dX9_gathers_117 : decode cX9_gathers 117 = .ok (.return_, 1) := by decide +kernel
theorem dX9_turn_0 : decode cX9_turn 0 = .ok (.aload_n 0, 1) := by decide +kernel
theorem dX9_turn_1 : decode cX9_turn 1 = .ok (.invokevirtual 272, 3) := by decide +kernel
theorem dX9_turn_4 : decode cX9_turn 4 = .ok (.aload_n 0, 1) := by decide +kernel
theorem dX9_turn_5 : decode cX9_turn 5 = .ok (.getfield 266, 3) := by decide +kernel
theorem dX9_turn_8 : decode cX9_turn 8 = .ok (.ireturn, 1) := by decide +kernel
theorem dX9_isSheet_0 : decode cX9_isSheet 0 = .ok (.iload_n 0, 1) := by decide +kernel
theorem dX9_isSheet_1 : decode cX9_isSheet 1 = .ok (.i2l, 1) := by decide +kernel
theorem dX9_isSheet_2 : decode cX9_isSheet 2 = .ok (.lconst 0, 1) := by decide +kernel
theorem dX9_isSheet_3 : decode cX9_isSheet 3 = .ok (.ldc2_w 123, 3) := by decide +kernel
theorem dX9_isSheet_6 : decode cX9_isSheet 6 = .ok (.invokestatic 88, 3) := by decide +kernel
theorem dX9_isSheet_9 : decode cX9_isSheet 9 = .ok (.ireturn, 1) := by decide +kernel
theorem dX9_lays_0 : decode cX9_lays 0 = .ok (.iconst 0, 1) := by decide +kernel
theorem dX9_lays_1 : decode cX9_lays 1 = .ok (.istore_n 3, 1) := by decide +kernel
theorem dX9_lays_2 : decode cX9_lays 2 = .ok (.iload_n 2, 1) := by decide +kernel
theorem dX9_lays_3 : decode cX9_lays 3 = .ok (.bipush 6, 2) := by decide +kernel
theorem dX9_lays_5 : decode cX9_lays 5 = .ok (.if_icmp .le 5, 3) := by decide +kernel
theorem dX9_lays_8 : decode cX9_lays 8 = .ok (.iconst 0, 1) := by decide +kernel
theorem dX9_lays_9 : decode cX9_lays 9 = .ok (.ireturn, 1) := by decide +kernel
theorem dX9_lays_10 : decode cX9_lays 10 = .ok (.iconst 0, 1) := by decide +kernel
theorem dX9_lays_11 : decode cX9_lays 11 = .ok (.istore 4, 2) := by decide +kernel
theorem dX9_lays_13 : decode cX9_lays 13 = .ok (.iload 4, 2) := by decide +kernel
theorem dX9_lays_15 : decode cX9_lays 15 = .ok (.iload_n 2, 1) := by decide +kernel
theorem dX9_lays_16 : decode cX9_lays 16 = .ok (.if_icmp .ge 60, 3) := by decide +kernel
theorem dX9_lays_19 : decode cX9_lays 19 = .ok (.aload_n 0, 1) := by decide +kernel
theorem dX9_lays_20 : decode cX9_lays 20 = .ok (.getfield 75, 3) := by decide +kernel
theorem dX9_lays_23 : decode cX9_lays 23 = .ok (.bipush 40, 2) := by decide +kernel
theorem dX9_lays_25 : decode cX9_lays 25 = .ok (.iload_n 1, 1) := by decide +kernel
theorem dX9_lays_26 : decode cX9_lays 26 = .ok (.imul, 1) := by decide +kernel
theorem dX9_lays_27 : decode cX9_lays 27 = .ok (.iload 4, 2) := by decide +kernel
theorem dX9_lays_29 : decode cX9_lays 29 = .ok (.iadd, 1) := by decide +kernel
theorem dX9_lays_30 : decode cX9_lays 30 = .ok (.iaload, 1) := by decide +kernel
theorem dX9_lays_31 : decode cX9_lays 31 = .ok (.istore 5, 2) := by decide +kernel
theorem dX9_lays_33 : decode cX9_lays 33 = .ok (.aload_n 0, 1) := by decide +kernel
theorem dX9_lays_34 : decode cX9_lays 34 = .ok (.iload 5, 2) := by decide +kernel
theorem dX9_lays_36 : decode cX9_lays 36 = .ok (.invokevirtual 109, 3) := by decide +kernel
theorem dX9_lays_39 : decode cX9_lays 39 = .ok (.ifCond .eq 13, 3) := by decide +kernel
theorem dX9_lays_42 : decode cX9_lays 42 = .ok (.iload_n 3, 1) := by decide +kernel
theorem dX9_lays_43 : decode cX9_lays 43 = .ok (.iload 5, 2) := by decide +kernel
theorem dX9_lays_45 : decode cX9_lays 45 = .ok (.ishr, 1) := by decide +kernel
theorem dX9_lays_46 : decode cX9_lays 46 = .ok (.iconst 1, 1) := by decide +kernel
theorem dX9_lays_47 : decode cX9_lays 47 = .ok (.iand, 1) := by decide +kernel
theorem dX9_lays_48 : decode cX9_lays 48 = .ok (.iconst 1, 1) := by decide +kernel
theorem dX9_lays_49 : decode cX9_lays 49 = .ok (.if_icmp .ne 5, 3) := by decide +kernel
theorem dX9_lays_52 : decode cX9_lays 52 = .ok (.iconst 0, 1) := by decide +kernel
theorem dX9_lays_53 : decode cX9_lays 53 = .ok (.ireturn, 1) := by decide +kernel
theorem dX9_lays_54 : decode cX9_lays 54 = .ok (.iload_n 3, 1) := by decide +kernel
theorem dX9_lays_55 : decode cX9_lays 55 = .ok (.iconst 1, 1) := by decide +kernel
theorem dX9_lays_56 : decode cX9_lays 56 = .ok (.iload 5, 2) := by decide +kernel
theorem dX9_lays_58 : decode cX9_lays 58 = .ok (.ishl, 1) := by decide +kernel
theorem dX9_lays_59 : decode cX9_lays 59 = .ok (.ior, 1) := by decide +kernel
theorem dX9_lays_60 : decode cX9_lays 60 = .ok (.istore_n 3, 1) := by decide +kernel
theorem dX9_lays_61 : decode cX9_lays 61 = .ok (.aload_n 0, 1) := by decide +kernel
theorem dX9_lays_62 : decode cX9_lays 62 = .ok (.getfield 50, 3) := by decide +kernel
theorem dX9_lays_65 : decode cX9_lays 65 = .ok (.iload 4, 2) := by decide +kernel
theorem dX9_lays_67 : decode cX9_lays 67 = .ok (.iload 5, 2) := by decide +kernel
theorem dX9_lays_69 : decode cX9_lays 69 = .ok (.iastore, 1) := by decide +kernel
theorem dX9_lays_70 : decode cX9_lays 70 = .ok (.iinc 4 1, 3) := by decide +kernel
theorem dX9_lays_73 : decode cX9_lays 73 = .ok (.goto (-60), 3) := by decide +kernel
theorem dX9_lays_76 : decode cX9_lays 76 = .ok (.aload_n 0, 1) := by decide +kernel
theorem dX9_lays_77 : decode cX9_lays 77 = .ok (.iload_n 2, 1) := by decide +kernel
theorem dX9_lays_78 : decode cX9_lays 78 = .ok (.putfield 275, 3) := by decide +kernel
theorem dX9_lays_81 : decode cX9_lays 81 = .ok (.iconst 1, 1) := by decide +kernel
theorem dX9_lays_82 : decode cX9_lays 82 = .ok (.ireturn, 1) := by decide +kernel
theorem dX9_steps_0 : decode cX9_steps 0 = .ok (.iload_n 0, 1) := by decide +kernel
theorem dX9_steps_1 : decode cX9_steps 1 = .ok (.bipush 10, 2) := by decide +kernel
theorem dX9_steps_3 : decode cX9_steps 3 = .ok (.irem, 1) := by decide +kernel
theorem dX9_steps_4 : decode cX9_steps 4 = .ok (.iload_n 1, 1) := by decide +kernel
theorem dX9_steps_5 : decode cX9_steps 5 = .ok (.bipush 10, 2) := by decide +kernel
theorem dX9_steps_7 : decode cX9_steps 7 = .ok (.irem, 1) := by decide +kernel
theorem dX9_steps_8 : decode cX9_steps 8 = .ok (.isub, 1) := by decide +kernel
theorem dX9_steps_9 : decode cX9_steps 9 = .ok (.istore_n 2, 1) := by decide +kernel
theorem dX9_steps_10 : decode cX9_steps 10 = .ok (.iload_n 0, 1) := by decide +kernel
theorem dX9_steps_11 : decode cX9_steps 11 = .ok (.bipush 10, 2) := by decide +kernel
theorem dX9_steps_13 : decode cX9_steps 13 = .ok (.idiv, 1) := by decide +kernel
theorem dX9_steps_14 : decode cX9_steps 14 = .ok (.iload_n 1, 1) := by decide +kernel
theorem dX9_steps_15 : decode cX9_steps 15 = .ok (.bipush 10, 2) := by decide +kernel
theorem dX9_steps_17 : decode cX9_steps 17 = .ok (.idiv, 1) := by decide +kernel
theorem dX9_steps_18 : decode cX9_steps 18 = .ok (.isub, 1) := by decide +kernel
theorem dX9_steps_19 : decode cX9_steps 19 = .ok (.istore_n 3, 1) := by decide +kernel
theorem dX9_steps_20 : decode cX9_steps 20 = .ok (.iload_n 2, 1) := by decide +kernel
theorem dX9_steps_21 : decode cX9_steps 21 = .ok (.ifCond .ge 8, 3) := by decide +kernel
theorem dX9_steps_24 : decode cX9_steps 24 = .ok (.iload_n 2, 1) := by decide +kernel
theorem dX9_steps_25 : decode cX9_steps 25 = .ok (.ineg, 1) := by decide +kernel
theorem dX9_steps_26 : decode cX9_steps 26 = .ok (.goto 4, 3) := by decide +kernel
theorem dX9_steps_29 : decode cX9_steps 29 = .ok (.iload_n 2, 1) := by decide +kernel
theorem dX9_steps_30 : decode cX9_steps 30 = .ok (.iload_n 3, 1) := by decide +kernel
theorem dX9_steps_31 : decode cX9_steps 31 = .ok (.ifCond .ge 8, 3) := by decide +kernel
theorem dX9_steps_34 : decode cX9_steps 34 = .ok (.iload_n 3, 1) := by decide +kernel
theorem dX9_steps_35 : decode cX9_steps 35 = .ok (.ineg, 1) := by decide +kernel
theorem dX9_steps_36 : decode cX9_steps 36 = .ok (.goto 4, 3) := by decide +kernel
theorem dX9_steps_39 : decode cX9_steps 39 = .ok (.iload_n 3, 1) := by decide +kernel
theorem dX9_steps_40 : decode cX9_steps 40 = .ok (.iadd, 1) := by decide +kernel
theorem dX9_steps_41 : decode cX9_steps 41 = .ok (.ireturn, 1) := by decide +kernel
theorem dX9_backOf_0 : decode cX9_backOf 0 = .ok (.iconst 0, 1) := by decide +kernel
theorem dX9_backOf_1 : decode cX9_backOf 1 = .ok (.istore_n 1, 1) := by decide +kernel
theorem dX9_backOf_2 : decode cX9_backOf 2 = .ok (.iconst 0, 1) := by decide +kernel
theorem dX9_backOf_3 : decode cX9_backOf 3 = .ok (.istore_n 2, 1) := by decide +kernel
theorem dX9_backOf_4 : decode cX9_backOf 4 = .ok (.iconst 0, 1) := by decide +kernel
theorem dX9_backOf_5 : decode cX9_backOf 5 = .ok (.istore_n 3, 1) := by decide +kernel
theorem dX9_backOf_6 : decode cX9_backOf 6 = .ok (.iload_n 3, 1) := by decide +kernel
theorem dX9_backOf_7 : decode cX9_backOf 7 = .ok (.aload_n 0, 1) := by decide +kernel
theorem dX9_backOf_8 : decode cX9_backOf 8 = .ok (.getfield 275, 3) := by decide +kernel
theorem dX9_backOf_11 : decode cX9_backOf 11 = .ok (.if_icmp .ge 46, 3) := by decide +kernel
theorem dX9_backOf_14 : decode cX9_backOf 14 = .ok (.iload_n 2, 1) := by decide +kernel
theorem dX9_backOf_15 : decode cX9_backOf 15 = .ok (.iload_n 1, 1) := by decide +kernel
theorem dX9_backOf_16 : decode cX9_backOf 16 = .ok (.aload_n 0, 1) := by decide +kernel
theorem dX9_backOf_17 : decode cX9_backOf 17 = .ok (.getfield 32, 3) := by decide +kernel
theorem dX9_backOf_20 : decode cX9_backOf 20 = .ok (.aload_n 0, 1) := by decide +kernel
theorem dX9_backOf_21 : decode cX9_backOf 21 = .ok (.getfield 50, 3) := by decide +kernel
theorem dX9_backOf_24 : decode cX9_backOf 24 = .ok (.iload_n 3, 1) := by decide +kernel
theorem dX9_backOf_25 : decode cX9_backOf 25 = .ok (.iaload, 1) := by decide +kernel
theorem dX9_backOf_26 : decode cX9_backOf 26 = .ok (.iaload, 1) := by decide +kernel
theorem dX9_backOf_27 : decode cX9_backOf 27 = .ok (.invokestatic 278, 3) := by decide +kernel
theorem dX9_backOf_30 : decode cX9_backOf 30 = .ok (.aload_n 0, 1) := by decide +kernel
theorem dX9_backOf_31 : decode cX9_backOf 31 = .ok (.getfield 47, 3) := by decide +kernel
theorem dX9_backOf_34 : decode cX9_backOf 34 = .ok (.iload_n 3, 1) := by decide +kernel
theorem dX9_backOf_35 : decode cX9_backOf 35 = .ok (.iaload, 1) := by decide +kernel
theorem dX9_backOf_36 : decode cX9_backOf 36 = .ok (.imul, 1) := by decide +kernel
theorem dX9_backOf_37 : decode cX9_backOf 37 = .ok (.iadd, 1) := by decide +kernel
theorem dX9_backOf_38 : decode cX9_backOf 38 = .ok (.istore_n 2, 1) := by decide +kernel
theorem dX9_backOf_39 : decode cX9_backOf 39 = .ok (.aload_n 0, 1) := by decide +kernel
theorem dX9_backOf_40 : decode cX9_backOf 40 = .ok (.getfield 32, 3) := by decide +kernel
theorem dX9_backOf_43 : decode cX9_backOf 43 = .ok (.aload_n 0, 1) := by decide +kernel
theorem dX9_backOf_44 : decode cX9_backOf 44 = .ok (.getfield 50, 3) := by decide +kernel
theorem dX9_backOf_47 : decode cX9_backOf 47 = .ok (.iload_n 3, 1) := by decide +kernel
theorem dX9_backOf_48 : decode cX9_backOf 48 = .ok (.iaload, 1) := by decide +kernel
theorem dX9_backOf_49 : decode cX9_backOf 49 = .ok (.iaload, 1) := by decide +kernel
theorem dX9_backOf_50 : decode cX9_backOf 50 = .ok (.istore_n 1, 1) := by decide +kernel
theorem dX9_backOf_51 : decode cX9_backOf 51 = .ok (.iinc 3 1, 3) := by decide +kernel
theorem dX9_backOf_54 : decode cX9_backOf 54 = .ok (.goto (-48), 3) := by decide +kernel
theorem dX9_backOf_57 : decode cX9_backOf 57 = .ok (.iload_n 2, 1) := by decide +kernel
theorem dX9_backOf_58 : decode cX9_backOf 58 = .ok (.iload_n 1, 1) := by decide +kernel
theorem dX9_backOf_59 : decode cX9_backOf 59 = .ok (.iconst 0, 1) := by decide +kernel
theorem dX9_backOf_60 : decode cX9_backOf 60 = .ok (.invokestatic 278, 3) := by decide +kernel
theorem dX9_backOf_63 : decode cX9_backOf 63 = .ok (.aload_n 0, 1) := by decide +kernel
theorem dX9_backOf_64 : decode cX9_backOf 64 = .ok (.getfield 47, 3) := by decide +kernel
theorem dX9_backOf_67 : decode cX9_backOf 67 = .ok (.aload_n 0, 1) := by decide +kernel
theorem dX9_backOf_68 : decode cX9_backOf 68 = .ok (.getfield 275, 3) := by decide +kernel
theorem dX9_backOf_71 : decode cX9_backOf 71 = .ok (.iaload, 1) := by decide +kernel
theorem dX9_backOf_72 : decode cX9_backOf 72 = .ok (.imul, 1) := by decide +kernel
theorem dX9_backOf_73 : decode cX9_backOf 73 = .ok (.iadd, 1) := by decide +kernel
theorem dX9_backOf_74 : decode cX9_backOf 74 = .ok (.ireturn, 1) := by decide +kernel
theorem dX9_worthOf_0 : decode cX9_worthOf 0 = .ok (.iconst 0, 1) := by decide +kernel
theorem dX9_worthOf_1 : decode cX9_worthOf 1 = .ok (.istore_n 1, 1) := by decide +kernel
theorem dX9_worthOf_2 : decode cX9_worthOf 2 = .ok (.iconst 0, 1) := by decide +kernel
theorem dX9_worthOf_3 : decode cX9_worthOf 3 = .ok (.istore_n 2, 1) := by decide +kernel
theorem dX9_worthOf_4 : decode cX9_worthOf 4 = .ok (.iload_n 2, 1) := by decide +kernel
theorem dX9_worthOf_5 : decode cX9_worthOf 5 = .ok (.aload_n 0, 1) := by decide +kernel
theorem dX9_worthOf_6 : decode cX9_worthOf 6 = .ok (.getfield 275, 3) := by decide +kernel
theorem dX9_worthOf_9 : decode cX9_worthOf 9 = .ok (.if_icmp .ge 23, 3) := by decide +kernel
theorem dX9_worthOf_12 : decode cX9_worthOf 12 = .ok (.iload_n 1, 1) := by decide +kernel
theorem dX9_worthOf_13 : decode cX9_worthOf 13 = .ok (.aload_n 0, 1) := by decide +kernel
theorem dX9_worthOf_14 : decode cX9_worthOf 14 = .ok (.getfield 35, 3) := by decide +kernel
theorem dX9_worthOf_17 : decode cX9_worthOf 17 = .ok (.aload_n 0, 1) := by decide +kernel
theorem dX9_worthOf_18 : decode cX9_worthOf 18 = .ok (.getfield 50, 3) := by decide +kernel
theorem dX9_worthOf_21 : decode cX9_worthOf 21 = .ok (.iload_n 2, 1) := by decide +kernel
theorem dX9_worthOf_22 : decode cX9_worthOf 22 = .ok (.iaload, 1) := by decide +kernel
theorem dX9_worthOf_23 : decode cX9_worthOf 23 = .ok (.iaload, 1) := by decide +kernel
theorem dX9_worthOf_24 : decode cX9_worthOf 24 = .ok (.iadd, 1) := by decide +kernel
theorem dX9_worthOf_25 : decode cX9_worthOf 25 = .ok (.istore_n 1, 1) := by decide +kernel
theorem dX9_worthOf_26 : decode cX9_worthOf 26 = .ok (.iinc 2 1, 3) := by decide +kernel
theorem dX9_worthOf_29 : decode cX9_worthOf 29 = .ok (.goto (-25), 3) := by decide +kernel
theorem dX9_worthOf_32 : decode cX9_worthOf 32 = .ok (.iload_n 1, 1) := by decide +kernel
theorem dX9_worthOf_33 : decode cX9_worthOf 33 = .ok (.ireturn, 1) := by decide +kernel
theorem dX9_gainOf_0 : decode cX9_gainOf 0 = .ok (.aload_n 0, 1) := by decide +kernel
theorem dX9_gainOf_1 : decode cX9_gainOf 1 = .ok (.getfield 266, 3) := by decide +kernel
theorem dX9_gainOf_4 : decode cX9_gainOf 4 = .ok (.istore_n 3, 1) := by decide +kernel
theorem dX9_gainOf_5 : decode cX9_gainOf 5 = .ok (.iload_n 2, 1) := by decide +kernel
theorem dX9_gainOf_6 : decode cX9_gainOf 6 = .ok (.istore 4, 2) := by decide +kernel
theorem dX9_gainOf_8 : decode cX9_gainOf 8 = .ok (.aload_n 0, 1) := by decide +kernel
theorem dX9_gainOf_9 : decode cX9_gainOf 9 = .ok (.iconst 0, 1) := by decide +kernel
theorem dX9_gainOf_10 : decode cX9_gainOf 10 = .ok (.putfield 269, 3) := by decide +kernel
theorem dX9_gainOf_13 : decode cX9_gainOf 13 = .ok (.iload_n 1, 1) := by decide +kernel
theorem dX9_gainOf_14 : decode cX9_gainOf 14 = .ok (.iload_n 3, 1) := by decide +kernel
theorem dX9_gainOf_15 : decode cX9_gainOf 15 = .ok (.if_icmp .le 68, 3) := by decide +kernel
theorem dX9_gainOf_18 : decode cX9_gainOf 18 = .ok (.aload_n 0, 1) := by decide +kernel
theorem dX9_gainOf_19 : decode cX9_gainOf 19 = .ok (.getfield 118, 3) := by decide +kernel
theorem dX9_gainOf_22 : decode cX9_gainOf 22 = .ok (.aload_n 0, 1) := by decide +kernel
theorem dX9_gainOf_23 : decode cX9_gainOf 23 = .ok (.getfield 269, 3) := by decide +kernel
theorem dX9_gainOf_26 : decode cX9_gainOf 26 = .ok (.iadd, 1) := by decide +kernel
theorem dX9_gainOf_27 : decode cX9_gainOf 27 = .ok (.aload_n 0, 1) := by decide +kernel
theorem dX9_gainOf_28 : decode cX9_gainOf 28 = .ok (.getfield 85, 3) := by decide +kernel
theorem dX9_gainOf_31 : decode cX9_gainOf 31 = .ok (.if_icmp .ge 52, 3) := by decide +kernel
theorem dX9_gainOf_34 : decode cX9_gainOf 34 = .ok (.iload_n 3, 1) := by decide +kernel
theorem dX9_gainOf_35 : decode cX9_gainOf 35 = .ok (.aload_n 0, 1) := by decide +kernel
theorem dX9_gainOf_36 : decode cX9_gainOf 36 = .ok (.getfield 41, 3) := by decide +kernel
theorem dX9_gainOf_39 : decode cX9_gainOf 39 = .ok (.aload_n 0, 1) := by decide +kernel
theorem dX9_gainOf_40 : decode cX9_gainOf 40 = .ok (.getfield 118, 3) := by decide +kernel
theorem dX9_gainOf_43 : decode cX9_gainOf 43 = .ok (.aload_n 0, 1) := by decide +kernel
theorem dX9_gainOf_44 : decode cX9_gainOf 44 = .ok (.getfield 269, 3) := by decide +kernel
theorem dX9_gainOf_47 : decode cX9_gainOf 47 = .ok (.iadd, 1) := by decide +kernel
theorem dX9_gainOf_48 : decode cX9_gainOf 48 = .ok (.iaload, 1) := by decide +kernel
theorem dX9_gainOf_49 : decode cX9_gainOf 49 = .ok (.iadd, 1) := by decide +kernel
theorem dX9_gainOf_50 : decode cX9_gainOf 50 = .ok (.istore_n 3, 1) := by decide +kernel
theorem dX9_gainOf_51 : decode cX9_gainOf 51 = .ok (.iload 4, 2) := by decide +kernel
theorem dX9_gainOf_53 : decode cX9_gainOf 53 = .ok (.aload_n 0, 1) := by decide +kernel
theorem dX9_gainOf_54 : decode cX9_gainOf 54 = .ok (.getfield 44, 3) := by decide +kernel
theorem dX9_gainOf_57 : decode cX9_gainOf 57 = .ok (.aload_n 0, 1) := by decide +kernel
theorem dX9_gainOf_58 : decode cX9_gainOf 58 = .ok (.getfield 118, 3) := by decide +kernel
theorem dX9_gainOf_61 : decode cX9_gainOf 61 = .ok (.aload_n 0, 1) := by decide +kernel
theorem dX9_gainOf_62 : decode cX9_gainOf 62 = .ok (.getfield 269, 3) := by decide +kernel
theorem dX9_gainOf_65 : decode cX9_gainOf 65 = .ok (.iadd, 1) := by decide +kernel
theorem dX9_gainOf_66 : decode cX9_gainOf 66 = .ok (.iaload, 1) := by decide +kernel
theorem dX9_gainOf_67 : decode cX9_gainOf 67 = .ok (.isub, 1) := by decide +kernel
theorem dX9_gainOf_68 : decode cX9_gainOf 68 = .ok (.istore 4, 2) := by decide +kernel
theorem dX9_gainOf_70 : decode cX9_gainOf 70 = .ok (.aload_n 0, 1) := by decide +kernel
theorem dX9_gainOf_71 : decode cX9_gainOf 71 = .ok (.dup, 1) := by decide +kernel
theorem dX9_gainOf_72 : decode cX9_gainOf 72 = .ok (.getfield 269, 3) := by decide +kernel
theorem dX9_gainOf_75 : decode cX9_gainOf 75 = .ok (.iconst 1, 1) := by decide +kernel
theorem dX9_gainOf_76 : decode cX9_gainOf 76 = .ok (.iadd, 1) := by decide +kernel
theorem dX9_gainOf_77 : decode cX9_gainOf 77 = .ok (.putfield 269, 3) := by decide +kernel
theorem dX9_gainOf_80 : decode cX9_gainOf 80 = .ok (.goto (-67), 3) := by decide +kernel
theorem dX9_gainOf_83 : decode cX9_gainOf 83 = .ok (.iload_n 1, 1) := by decide +kernel
theorem dX9_gainOf_84 : decode cX9_gainOf 84 = .ok (.iload_n 3, 1) := by decide +kernel
theorem dX9_gainOf_85 : decode cX9_gainOf 85 = .ok (.if_icmp .le 12, 3) := by decide +kernel
theorem dX9_gainOf_88 : decode cX9_gainOf 88 = .ok (.iload 4, 2) := by decide +kernel
theorem dX9_gainOf_90 : decode cX9_gainOf 90 = .ok (.iload_n 1, 1) := by decide +kernel
theorem dX9_gainOf_91 : decode cX9_gainOf 91 = .ok (.iload_n 3, 1) := by decide +kernel
theorem dX9_gainOf_92 : decode cX9_gainOf 92 = .ok (.isub, 1) := by decide +kernel
theorem dX9_gainOf_93 : decode cX9_gainOf 93 = .ok (.isub, 1) := by decide +kernel
theorem dX9_gainOf_94 : decode cX9_gainOf 94 = .ok (.goto 5, 3) := by decide +kernel
theorem dX9_gainOf_97 : decode cX9_gainOf 97 = .ok (.iload 4, 2) := by decide +kernel
theorem dX9_gainOf_99 : decode cX9_gainOf 99 = .ok (.ireturn, 1) := by decide +kernel
theorem dX9_errand_0 : decode cX9_errand 0 = .ok (.iload_n 1, 1) := by decide +kernel
theorem dX9_errand_1 : decode cX9_errand 1 = .ok (.invokestatic 281, 3) := by decide +kernel
theorem dX9_errand_4 : decode cX9_errand 4 = .ok (.ifCond .eq 38, 3) := by decide +kernel
theorem dX9_errand_7 : decode cX9_errand 7 = .ok (.iload_n 2, 1) := by decide +kernel
theorem dX9_errand_8 : decode cX9_errand 8 = .ok (.i2l, 1) := by decide +kernel
theorem dX9_errand_9 : decode cX9_errand 9 = .ok (.lconst 0, 1) := by decide +kernel
theorem dX9_errand_10 : decode cX9_errand 10 = .ok (.ldc2_w 123, 3) := by decide +kernel
theorem dX9_errand_13 : decode cX9_errand 13 = .ok (.invokestatic 88, 3) := by decide +kernel
theorem dX9_errand_16 : decode cX9_errand 16 = .ok (.ifCond .eq 26, 3) := by decide +kernel
theorem dX9_errand_19 : decode cX9_errand 19 = .ok (.aload_n 0, 1) := by decide +kernel
theorem dX9_errand_20 : decode cX9_errand 20 = .ok (.getfield 65, 3) := by decide +kernel
theorem dX9_errand_23 : decode cX9_errand 23 = .ok (.iload_n 1, 1) := by decide +kernel
theorem dX9_errand_24 : decode cX9_errand 24 = .ok (.baload, 1) := by decide +kernel
theorem dX9_errand_25 : decode cX9_errand 25 = .ok (.ifCond .eq 17, 3) := by decide +kernel
theorem dX9_errand_28 : decode cX9_errand 28 = .ok (.aload_n 0, 1) := by decide +kernel
theorem dX9_errand_29 : decode cX9_errand 29 = .ok (.iload_n 1, 1) := by decide +kernel
theorem dX9_errand_30 : decode cX9_errand 30 = .ok (.aload_n 0, 1) := by decide +kernel
theorem dX9_errand_31 : decode cX9_errand 31 = .ok (.getfield 72, 3) := by decide +kernel
theorem dX9_errand_34 : decode cX9_errand 34 = .ok (.iload_n 1, 1) := by decide +kernel
theorem dX9_errand_35 : decode cX9_errand 35 = .ok (.iaload, 1) := by decide +kernel
theorem dX9_errand_36 : decode cX9_errand 36 = .ok (.invokevirtual 284, 3) := by decide +kernel
theorem dX9_errand_39 : decode cX9_errand 39 = .ok (.ifCond .ne 7, 3) := by decide +kernel
theorem dX9_errand_42 : decode cX9_errand 42 = .ok (.ldc_w 287, 3) := by decide +kernel
theorem dX9_errand_45 : decode cX9_errand 45 = .ok (.ireturn, 1) := by decide +kernel
theorem dX9_errand_46 : decode cX9_errand 46 = .ok (.aload_n 0, 1) := by decide +kernel
theorem dX9_errand_47 : decode cX9_errand 47 = .ok (.invokevirtual 272, 3) := by decide +kernel
theorem dX9_errand_50 : decode cX9_errand 50 = .ok (.aload_n 0, 1) := by decide +kernel
theorem dX9_errand_51 : decode cX9_errand 51 = .ok (.invokevirtual 288, 3) := by decide +kernel
theorem dX9_errand_54 : decode cX9_errand 54 = .ok (.istore_n 3, 1) := by decide +kernel
theorem dX9_errand_55 : decode cX9_errand 55 = .ok (.aload_n 0, 1) := by decide +kernel
theorem dX9_errand_56 : decode cX9_errand 56 = .ok (.iload_n 3, 1) := by decide +kernel
theorem dX9_errand_57 : decode cX9_errand 57 = .ok (.aload_n 0, 1) := by decide +kernel
theorem dX9_errand_58 : decode cX9_errand 58 = .ok (.invokevirtual 291, 3) := by decide +kernel
theorem dX9_errand_61 : decode cX9_errand 61 = .ok (.invokevirtual 294, 3) := by decide +kernel
theorem dX9_errand_64 : decode cX9_errand 64 = .ok (.istore 4, 2) := by decide +kernel
theorem dX9_errand_66 : decode cX9_errand 66 = .ok (.iload_n 2, 1) := by decide +kernel
theorem dX9_errand_67 : decode cX9_errand 67 = .ok (.ifCond .ne 7, 3) := by decide +kernel
theorem dX9_errand_70 : decode cX9_errand 70 = .ok (.iload_n 3, 1) := by decide +kernel
theorem dX9_errand_71 : decode cX9_errand 71 = .ok (.goto 29, 3) := by decide +kernel
theorem dX9_errand_74 : decode cX9_errand 74 = .ok (.iload_n 2, 1) := by decide +kernel
theorem dX9_errand_75 : decode cX9_errand 75 = .ok (.iconst 1, 1) := by decide +kernel
theorem dX9_errand_76 : decode cX9_errand 76 = .ok (.if_icmp .ne 10, 3) := by decide +kernel
theorem dX9_errand_79 : decode cX9_errand 79 = .ok (.aload_n 0, 1) := by decide +kernel
theorem dX9_errand_80 : decode cX9_errand 80 = .ok (.getfield 269, 3) := by decide +kernel
theorem dX9_errand_83 : decode cX9_errand 83 = .ok (.goto 17, 3) := by decide +kernel
theorem dX9_errand_86 : decode cX9_errand 86 = .ok (.iload_n 2, 1) := by decide +kernel
theorem dX9_errand_87 : decode cX9_errand 87 = .ok (.iconst 2, 1) := by decide +kernel
theorem dX9_errand_88 : decode cX9_errand 88 = .ok (.if_icmp .ne 8, 3) := by decide +kernel
theorem dX9_errand_91 : decode cX9_errand 91 = .ok (.iload 4, 2) := by decide +kernel
theorem dX9_errand_93 : decode cX9_errand 93 = .ok (.goto 7, 3) := by decide +kernel
theorem dX9_errand_96 : decode cX9_errand 96 = .ok (.aload_n 0, 1) := by decide +kernel
theorem dX9_errand_97 : decode cX9_errand 97 = .ok (.invokevirtual 291, 3) := by decide +kernel
theorem dX9_errand_100 : decode cX9_errand 100 = .ok (.ireturn, 1) := by decide +kernel
theorem dX9_digitsOf_0 : decode cX9_digitsOf 0 = .ok (.iconst 0, 1) := by decide +kernel
theorem dX9_digitsOf_1 : decode cX9_digitsOf 1 = .ok (.istore_n 1, 1) := by decide +kernel
theorem dX9_digitsOf_2 : decode cX9_digitsOf 2 = .ok (.iconst 0, 1) := by decide +kernel
theorem dX9_digitsOf_3 : decode cX9_digitsOf 3 = .ok (.istore_n 2, 1) := by decide +kernel
theorem dX9_digitsOf_4 : decode cX9_digitsOf 4 = .ok (.iload_n 2, 1) := by decide +kernel
theorem dX9_digitsOf_5 : decode cX9_digitsOf 5 = .ok (.aload_n 0, 1) := by decide +kernel
theorem dX9_digitsOf_6 : decode cX9_digitsOf 6 = .ok (.getfield 275, 3) := by decide +kernel
theorem dX9_digitsOf_9 : decode cX9_digitsOf 9 = .ok (.if_icmp .ge 23, 3) := by decide +kernel
theorem dX9_digitsOf_12 : decode cX9_digitsOf 12 = .ok (.bipush 10, 2) := by decide +kernel
theorem dX9_digitsOf_14 : decode cX9_digitsOf 14 = .ok (.iload_n 1, 1) := by decide +kernel
theorem dX9_digitsOf_15 : decode cX9_digitsOf 15 = .ok (.imul, 1) := by decide +kernel
theorem dX9_digitsOf_16 : decode cX9_digitsOf 16 = .ok (.aload_n 0, 1) := by decide +kernel
theorem dX9_digitsOf_17 : decode cX9_digitsOf 17 = .ok (.getfield 50, 3) := by decide +kernel
theorem dX9_digitsOf_20 : decode cX9_digitsOf 20 = .ok (.iload_n 2, 1) := by decide +kernel
theorem dX9_digitsOf_21 : decode cX9_digitsOf 21 = .ok (.iaload, 1) := by decide +kernel
theorem dX9_digitsOf_22 : decode cX9_digitsOf 22 = .ok (.iadd, 1) := by decide +kernel
theorem dX9_digitsOf_23 : decode cX9_digitsOf 23 = .ok (.iconst 1, 1) := by decide +kernel
theorem dX9_digitsOf_24 : decode cX9_digitsOf 24 = .ok (.iadd, 1) := by decide +kernel
theorem dX9_digitsOf_25 : decode cX9_digitsOf 25 = .ok (.istore_n 1, 1) := by decide +kernel
theorem dX9_digitsOf_26 : decode cX9_digitsOf 26 = .ok (.iinc 2 1, 3) := by decide +kernel
theorem dX9_digitsOf_29 : decode cX9_digitsOf 29 = .ok (.goto (-25), 3) := by decide +kernel
theorem dX9_digitsOf_32 : decode cX9_digitsOf 32 = .ok (.iload_n 1, 1) := by decide +kernel
theorem dX9_digitsOf_33 : decode cX9_digitsOf 33 = .ok (.ireturn, 1) := by decide +kernel
theorem dX9_nearest_0 : decode cX9_nearest 0 = .ok (.iload_n 1, 1) := by decide +kernel
theorem dX9_nearest_1 : decode cX9_nearest 1 = .ok (.i2l, 1) := by decide +kernel
theorem dX9_nearest_2 : decode cX9_nearest 2 = .ok (.lconst 0, 1) := by decide +kernel
theorem dX9_nearest_3 : decode cX9_nearest 3 = .ok (.ldc2_w 103, 3) := by decide +kernel
theorem dX9_nearest_6 : decode cX9_nearest 6 = .ok (.invokestatic 88, 3) := by decide +kernel
theorem dX9_nearest_9 : decode cX9_nearest 9 = .ok (.ifCond .ne 7, 3) := by decide +kernel
theorem dX9_nearest_12 : decode cX9_nearest 12 = .ok (.ldc_w 287, 3) := by decide +kernel
theorem dX9_nearest_15 : decode cX9_nearest 15 = .ok (.ireturn, 1) := by decide +kernel
theorem dX9_nearest_16 : decode cX9_nearest 16 = .ok (.aload_n 0, 1) := by decide +kernel
theorem dX9_nearest_17 : decode cX9_nearest 17 = .ok (.invokevirtual 272, 3) := by decide +kernel
theorem dX9_nearest_20 : decode cX9_nearest 20 = .ok (.aload_n 0, 1) := by decide +kernel
theorem dX9_nearest_21 : decode cX9_nearest 21 = .ok (.iconst 0, 1) := by decide +kernel
theorem dX9_nearest_22 : decode cX9_nearest 22 = .ok (.putfield 275, 3) := by decide +kernel
theorem dX9_nearest_25 : decode cX9_nearest 25 = .ok (.iconst 0, 1) := by decide +kernel
theorem dX9_nearest_26 : decode cX9_nearest 26 = .ok (.istore_n 2, 1) := by decide +kernel
theorem dX9_nearest_27 : decode cX9_nearest 27 = .ok (.iconst 0, 1) := by decide +kernel
theorem dX9_nearest_28 : decode cX9_nearest 28 = .ok (.istore_n 3, 1) := by decide +kernel
theorem dX9_nearest_29 : decode cX9_nearest 29 = .ok (.iconst 1, 1) := by decide +kernel
theorem dX9_nearest_30 : decode cX9_nearest 30 = .ok (.istore 4, 2) := by decide +kernel
theorem dX9_nearest_32 : decode cX9_nearest 32 = .ok (.iload 4, 2) := by decide +kernel
theorem dX9_nearest_34 : decode cX9_nearest 34 = .ok (.ifCond .eq 152, 3) := by decide +kernel
theorem dX9_nearest_37 : decode cX9_nearest 37 = .ok (.iconst (-1), 1) := by decide +kernel
theorem dX9_nearest_38 : decode cX9_nearest 38 = .ok (.istore 5, 2) := by decide +kernel
theorem dX9_nearest_40 : decode cX9_nearest 40 = .ok (.iconst 0, 1) := by decide +kernel
theorem dX9_nearest_41 : decode cX9_nearest 41 = .ok (.istore 6, 2) := by decide +kernel
theorem dX9_nearest_43 : decode cX9_nearest 43 = .ok (.iload 6, 2) := by decide +kernel
theorem dX9_nearest_45 : decode cX9_nearest 45 = .ok (.aload_n 0, 1) := by decide +kernel
theorem dX9_nearest_46 : decode cX9_nearest 46 = .ok (.getfield 92, 3) := by decide +kernel
theorem dX9_nearest_49 : decode cX9_nearest 49 = .ok (.if_icmp .ge 53, 3) := by decide +kernel
theorem dX9_nearest_52 : decode cX9_nearest 52 = .ok (.iload_n 3, 1) := by decide +kernel
theorem dX9_nearest_53 : decode cX9_nearest 53 = .ok (.iload 6, 2) := by decide +kernel
theorem dX9_nearest_55 : decode cX9_nearest 55 = .ok (.ishr, 1) := by decide +kernel
theorem dX9_nearest_56 : decode cX9_nearest 56 = .ok (.iconst 1, 1) := by decide +kernel
theorem dX9_nearest_57 : decode cX9_nearest 57 = .ok (.iand, 1) := by decide +kernel
theorem dX9_nearest_58 : decode cX9_nearest 58 = .ok (.ifCond .ne 38, 3) := by decide +kernel
theorem dX9_nearest_61 : decode cX9_nearest 61 = .ok (.iload 5, 2) := by decide +kernel
theorem dX9_nearest_63 : decode cX9_nearest 63 = .ok (.iconst (-1), 1) := by decide +kernel
theorem dX9_nearest_64 : decode cX9_nearest 64 = .ok (.if_icmp .eq 28, 3) := by decide +kernel
theorem dX9_nearest_67 : decode cX9_nearest 67 = .ok (.iload_n 2, 1) := by decide +kernel
theorem dX9_nearest_68 : decode cX9_nearest 68 = .ok (.aload_n 0, 1) := by decide +kernel
theorem dX9_nearest_69 : decode cX9_nearest 69 = .ok (.getfield 32, 3) := by decide +kernel
theorem dX9_nearest_72 : decode cX9_nearest 72 = .ok (.iload 6, 2) := by decide +kernel
theorem dX9_nearest_74 : decode cX9_nearest 74 = .ok (.iaload, 1) := by decide +kernel
theorem dX9_nearest_75 : decode cX9_nearest 75 = .ok (.invokestatic 278, 3) := by decide +kernel
theorem dX9_nearest_78 : decode cX9_nearest 78 = .ok (.iload_n 2, 1) := by decide +kernel
theorem dX9_nearest_79 : decode cX9_nearest 79 = .ok (.aload_n 0, 1) := by decide +kernel
theorem dX9_nearest_80 : decode cX9_nearest 80 = .ok (.getfield 32, 3) := by decide +kernel
theorem dX9_nearest_83 : decode cX9_nearest 83 = .ok (.iload 5, 2) := by decide +kernel
theorem dX9_nearest_85 : decode cX9_nearest 85 = .ok (.iaload, 1) := by decide +kernel
theorem dX9_nearest_86 : decode cX9_nearest 86 = .ok (.invokestatic 278, 3) := by decide +kernel
theorem dX9_nearest_89 : decode cX9_nearest 89 = .ok (.if_icmp .ge 7, 3) := by decide +kernel
theorem dX9_nearest_92 : decode cX9_nearest 92 = .ok (.iload 6, 2) := by decide +kernel
theorem dX9_nearest_94 : decode cX9_nearest 94 = .ok (.istore 5, 2) := by decide +kernel
theorem dX9_nearest_96 : decode cX9_nearest 96 = .ok (.iinc 6 1, 3) := by decide +kernel
theorem dX9_nearest_99 : decode cX9_nearest 99 = .ok (.goto (-56), 3) := by decide +kernel
theorem dX9_nearest_102 : decode cX9_nearest 102 = .ok (.iload 5, 2) := by decide +kernel
theorem dX9_nearest_104 : decode cX9_nearest 104 = .ok (.iconst (-1), 1) := by decide +kernel
theorem dX9_nearest_105 : decode cX9_nearest 105 = .ok (.if_icmp .eq 7, 3) := by decide +kernel
theorem dX9_nearest_108 : decode cX9_nearest 108 = .ok (.iconst 1, 1) := by decide +kernel
theorem dX9_nearest_109 : decode cX9_nearest 109 = .ok (.goto 4, 3) := by decide +kernel
theorem dX9_nearest_112 : decode cX9_nearest 112 = .ok (.iconst 0, 1) := by decide +kernel
theorem dX9_nearest_113 : decode cX9_nearest 113 = .ok (.istore 4, 2) := by decide +kernel
theorem dX9_nearest_115 : decode cX9_nearest 115 = .ok (.iload 4, 2) := by decide +kernel
theorem dX9_nearest_117 : decode cX9_nearest 117 = .ok (.ifCond .eq 66, 3) := by decide +kernel
theorem dX9_nearest_120 : decode cX9_nearest 120 = .ok (.aload_n 0, 1) := by decide +kernel
theorem dX9_nearest_121 : decode cX9_nearest 121 = .ok (.getfield 50, 3) := by decide +kernel
theorem dX9_nearest_124 : decode cX9_nearest 124 = .ok (.aload_n 0, 1) := by decide +kernel
theorem dX9_nearest_125 : decode cX9_nearest 125 = .ok (.getfield 275, 3) := by decide +kernel
theorem dX9_nearest_128 : decode cX9_nearest 128 = .ok (.iload 5, 2) := by decide +kernel
theorem dX9_nearest_130 : decode cX9_nearest 130 = .ok (.iastore, 1) := by decide +kernel
theorem dX9_nearest_131 : decode cX9_nearest 131 = .ok (.aload_n 0, 1) := by decide +kernel
theorem dX9_nearest_132 : decode cX9_nearest 132 = .ok (.dup, 1) := by decide +kernel
theorem dX9_nearest_133 : decode cX9_nearest 133 = .ok (.getfield 275, 3) := by decide +kernel
theorem dX9_nearest_136 : decode cX9_nearest 136 = .ok (.iconst 1, 1) := by decide +kernel
theorem dX9_nearest_137 : decode cX9_nearest 137 = .ok (.iadd, 1) := by decide +kernel
theorem dX9_nearest_138 : decode cX9_nearest 138 = .ok (.putfield 275, 3) := by decide +kernel
theorem dX9_nearest_141 : decode cX9_nearest 141 = .ok (.aload_n 0, 1) := by decide +kernel
theorem dX9_nearest_142 : decode cX9_nearest 142 = .ok (.invokevirtual 288, 3) := by decide +kernel
theorem dX9_nearest_145 : decode cX9_nearest 145 = .ok (.aload_n 0, 1) := by decide +kernel
theorem dX9_nearest_146 : decode cX9_nearest 146 = .ok (.getfield 266, 3) := by decide +kernel
theorem dX9_nearest_149 : decode cX9_nearest 149 = .ok (.if_icmp .gt 21, 3) := by decide +kernel
theorem dX9_nearest_152 : decode cX9_nearest 152 = .ok (.iload_n 3, 1) := by decide +kernel
theorem dX9_nearest_153 : decode cX9_nearest 153 = .ok (.iconst 1, 1) := by decide +kernel
theorem dX9_nearest_154 : decode cX9_nearest 154 = .ok (.iload 5, 2) := by decide +kernel
theorem dX9_nearest_156 : decode cX9_nearest 156 = .ok (.ishl, 1) := by decide +kernel
theorem dX9_nearest_157 : decode cX9_nearest 157 = .ok (.ior, 1) := by decide +kernel
theorem dX9_nearest_158 : decode cX9_nearest 158 = .ok (.istore_n 3, 1) := by decide +kernel
theorem dX9_nearest_159 : decode cX9_nearest 159 = .ok (.aload_n 0, 1) := by decide +kernel
theorem dX9_nearest_160 : decode cX9_nearest 160 = .ok (.getfield 32, 3) := by decide +kernel
theorem dX9_nearest_163 : decode cX9_nearest 163 = .ok (.iload 5, 2) := by decide +kernel
theorem dX9_nearest_165 : decode cX9_nearest 165 = .ok (.iaload, 1) := by decide +kernel
theorem dX9_nearest_166 : decode cX9_nearest 166 = .ok (.istore_n 2, 1) := by decide +kernel
theorem dX9_nearest_167 : decode cX9_nearest 167 = .ok (.goto 16, 3) := by decide +kernel
theorem dX9_nearest_170 : decode cX9_nearest 170 = .ok (.aload_n 0, 1) := by decide +kernel
theorem dX9_nearest_171 : decode cX9_nearest 171 = .ok (.dup, 1) := by decide +kernel
theorem dX9_nearest_172 : decode cX9_nearest 172 = .ok (.getfield 275, 3) := by decide +kernel
theorem dX9_nearest_175 : decode cX9_nearest 175 = .ok (.iconst 1, 1) := by decide +kernel
theorem dX9_nearest_176 : decode cX9_nearest 176 = .ok (.isub, 1) := by decide +kernel
theorem dX9_nearest_177 : decode cX9_nearest 177 = .ok (.putfield 275, 3) := by decide +kernel
theorem dX9_nearest_180 : decode cX9_nearest 180 = .ok (.iconst 0, 1) := by decide +kernel
theorem dX9_nearest_181 : decode cX9_nearest 181 = .ok (.istore 4, 2) := by decide +kernel
theorem dX9_nearest_183 : decode cX9_nearest 183 = .ok (.goto (-151), 3) := by decide +kernel
theorem dX9_nearest_186 : decode cX9_nearest 186 = .ok (.iload_n 1, 1) := by decide +kernel
theorem dX9_nearest_187 : decode cX9_nearest 187 = .ok (.ifCond .ne 10, 3) := by decide +kernel
theorem dX9_nearest_190 : decode cX9_nearest 190 = .ok (.aload_n 0, 1) := by decide +kernel
theorem dX9_nearest_191 : decode cX9_nearest 191 = .ok (.invokevirtual 297, 3) := by decide +kernel
theorem dX9_nearest_194 : decode cX9_nearest 194 = .ok (.goto 27, 3) := by decide +kernel
theorem dX9_nearest_197 : decode cX9_nearest 197 = .ok (.iload_n 1, 1) := by decide +kernel
theorem dX9_nearest_198 : decode cX9_nearest 198 = .ok (.iconst 1, 1) := by decide +kernel
theorem dX9_nearest_199 : decode cX9_nearest 199 = .ok (.if_icmp .ne 10, 3) := by decide +kernel
theorem dX9_nearest_202 : decode cX9_nearest 202 = .ok (.aload_n 0, 1) := by decide +kernel
theorem dX9_nearest_203 : decode cX9_nearest 203 = .ok (.invokevirtual 288, 3) := by decide +kernel
theorem dX9_nearest_206 : decode cX9_nearest 206 = .ok (.goto 15, 3) := by decide +kernel
theorem dX9_nearest_209 : decode cX9_nearest 209 = .ok (.aload_n 0, 1) := by decide +kernel
theorem dX9_nearest_210 : decode cX9_nearest 210 = .ok (.aload_n 0, 1) := by decide +kernel
theorem dX9_nearest_211 : decode cX9_nearest 211 = .ok (.invokevirtual 288, 3) := by decide +kernel
theorem dX9_nearest_214 : decode cX9_nearest 214 = .ok (.aload_n 0, 1) := by decide +kernel
theorem dX9_nearest_215 : decode cX9_nearest 215 = .ok (.invokevirtual 291, 3) := by decide +kernel
theorem dX9_nearest_218 : decode cX9_nearest 218 = .ok (.invokevirtual 294, 3) := by decide +kernel
theorem dX9_nearest_221 : decode cX9_nearest 221 = .ok (.ireturn, 1) := by decide +kernel
theorem dX9_allThings_0 : decode cX9_allThings 0 = .ok (.iconst 1, 1) := by decide +kernel
theorem dX9_allThings_1 : decode cX9_allThings 1 = .ok (.aload_n 0, 1) := by decide +kernel
theorem dX9_allThings_2 : decode cX9_allThings 2 = .ok (.getfield 92, 3) := by decide +kernel
theorem dX9_allThings_5 : decode cX9_allThings 5 = .ok (.ishl, 1) := by decide +kernel
theorem dX9_allThings_6 : decode cX9_allThings 6 = .ok (.iconst 1, 1) := by decide +kernel
theorem dX9_allThings_7 : decode cX9_allThings 7 = .ok (.isub, 1) := by decide +kernel
theorem dX9_allThings_8 : decode cX9_allThings 8 = .ok (.ireturn, 1) := by decide +kernel
theorem dX9_goesOn_0 : decode cX9_goesOn 0 = .ok (.aload_n 0, 1) := by decide +kernel
theorem dX9_goesOn_1 : decode cX9_goesOn 1 = .ok (.iload_n 3, 1) := by decide +kernel
theorem dX9_goesOn_2 : decode cX9_goesOn 2 = .ok (.iload_n 1, 1) := by decide +kernel
theorem dX9_goesOn_3 : decode cX9_goesOn 3 = .ok (.iconst 0, 1) := by decide +kernel
theorem dX9_goesOn_4 : decode cX9_goesOn 4 = .ok (.invokestatic 278, 3) := by decide +kernel
theorem dX9_goesOn_7 : decode cX9_goesOn 7 = .ok (.aload_n 0, 1) := by decide +kernel
theorem dX9_goesOn_8 : decode cX9_goesOn 8 = .ok (.getfield 47, 3) := by decide +kernel
theorem dX9_goesOn_11 : decode cX9_goesOn 11 = .ok (.aload_n 0, 1) := by decide +kernel
theorem dX9_goesOn_12 : decode cX9_goesOn 12 = .ok (.getfield 275, 3) := by decide +kernel
theorem dX9_goesOn_15 : decode cX9_goesOn 15 = .ok (.iaload, 1) := by decide +kernel
theorem dX9_goesOn_16 : decode cX9_goesOn 16 = .ok (.imul, 1) := by decide +kernel
theorem dX9_goesOn_17 : decode cX9_goesOn 17 = .ok (.iadd, 1) := by decide +kernel
theorem dX9_goesOn_18 : decode cX9_goesOn 18 = .ok (.iload 4, 2) := by decide +kernel
theorem dX9_goesOn_20 : decode cX9_goesOn 20 = .ok (.invokevirtual 294, 3) := by decide +kernel
theorem dX9_goesOn_23 : decode cX9_goesOn 23 = .ok (.istore 6, 2) := by decide +kernel
theorem dX9_goesOn_25 : decode cX9_goesOn 25 = .ok (.aload_n 0, 1) := by decide +kernel
theorem dX9_goesOn_26 : decode cX9_goesOn 26 = .ok (.getfield 300, 3) := by decide +kernel
theorem dX9_goesOn_29 : decode cX9_goesOn 29 = .ok (.ifCond .eq 32, 3) := by decide +kernel
theorem dX9_goesOn_32 : decode cX9_goesOn 32 = .ok (.iload 6, 2) := by decide +kernel
theorem dX9_goesOn_34 : decode cX9_goesOn 34 = .ok (.aload_n 0, 1) := by decide +kernel
theorem dX9_goesOn_35 : decode cX9_goesOn 35 = .ok (.getfield 303, 3) := by decide +kernel
theorem dX9_goesOn_38 : decode cX9_goesOn 38 = .ok (.if_icmp .gt 23, 3) := by decide +kernel
theorem dX9_goesOn_41 : decode cX9_goesOn 41 = .ok (.iload 6, 2) := by decide +kernel
theorem dX9_goesOn_43 : decode cX9_goesOn 43 = .ok (.aload_n 0, 1) := by decide +kernel
theorem dX9_goesOn_44 : decode cX9_goesOn 44 = .ok (.getfield 303, 3) := by decide +kernel
theorem dX9_goesOn_47 : decode cX9_goesOn 47 = .ok (.if_icmp .ne 65, 3) := by decide +kernel
theorem dX9_goesOn_50 : decode cX9_goesOn 50 = .ok (.aload_n 0, 1) := by decide +kernel
theorem dX9_goesOn_51 : decode cX9_goesOn 51 = .ok (.getfield 275, 3) := by decide +kernel
theorem dX9_goesOn_54 : decode cX9_goesOn 54 = .ok (.aload_n 0, 1) := by decide +kernel
theorem dX9_goesOn_55 : decode cX9_goesOn 55 = .ok (.getfield 306, 3) := by decide +kernel
theorem dX9_goesOn_58 : decode cX9_goesOn 58 = .ok (.if_icmp .ge 54, 3) := by decide +kernel
theorem dX9_goesOn_61 : decode cX9_goesOn 61 = .ok (.aload_n 0, 1) := by decide +kernel
theorem dX9_goesOn_62 : decode cX9_goesOn 62 = .ok (.iconst 1, 1) := by decide +kernel
theorem dX9_goesOn_63 : decode cX9_goesOn 63 = .ok (.putfield 300, 3) := by decide +kernel
theorem dX9_goesOn_66 : decode cX9_goesOn 66 = .ok (.aload_n 0, 1) := by decide +kernel
theorem dX9_goesOn_67 : decode cX9_goesOn 67 = .ok (.iload 6, 2) := by decide +kernel
theorem dX9_goesOn_69 : decode cX9_goesOn 69 = .ok (.putfield 303, 3) := by decide +kernel
theorem dX9_goesOn_72 : decode cX9_goesOn 72 = .ok (.aload_n 0, 1) := by decide +kernel
theorem dX9_goesOn_73 : decode cX9_goesOn 73 = .ok (.aload_n 0, 1) := by decide +kernel
theorem dX9_goesOn_74 : decode cX9_goesOn 74 = .ok (.getfield 275, 3) := by decide +kernel
theorem dX9_goesOn_77 : decode cX9_goesOn 77 = .ok (.putfield 306, 3) := by decide +kernel
theorem dX9_goesOn_80 : decode cX9_goesOn 80 = .ok (.iconst 0, 1) := by decide +kernel
theorem dX9_goesOn_81 : decode cX9_goesOn 81 = .ok (.istore 7, 2) := by decide +kernel
theorem dX9_goesOn_83 : decode cX9_goesOn 83 = .ok (.iload 7, 2) := by decide +kernel
theorem dX9_goesOn_85 : decode cX9_goesOn 85 = .ok (.aload_n 0, 1) := by decide +kernel
theorem dX9_goesOn_86 : decode cX9_goesOn 86 = .ok (.getfield 275, 3) := by decide +kernel
theorem dX9_goesOn_89 : decode cX9_goesOn 89 = .ok (.if_icmp .ge 23, 3) := by decide +kernel
theorem dX9_goesOn_92 : decode cX9_goesOn 92 = .ok (.aload_n 0, 1) := by decide +kernel
theorem dX9_goesOn_93 : decode cX9_goesOn 93 = .ok (.getfield 53, 3) := by decide +kernel
theorem dX9_goesOn_96 : decode cX9_goesOn 96 = .ok (.iload 7, 2) := by decide +kernel
theorem dX9_goesOn_98 : decode cX9_goesOn 98 = .ok (.aload_n 0, 1) := by decide +kernel
theorem dX9_goesOn_99 : decode cX9_goesOn 99 = .ok (.getfield 50, 3) := by decide +kernel
theorem dX9_goesOn_102 : decode cX9_goesOn 102 = .ok (.iload 7, 2) := by decide +kernel
theorem dX9_goesOn_104 : decode cX9_goesOn 104 = .ok (.iaload, 1) := by decide +kernel
theorem dX9_goesOn_105 : decode cX9_goesOn 105 = .ok (.iastore, 1) := by decide +kernel
theorem dX9_goesOn_106 : decode cX9_goesOn 106 = .ok (.iinc 7 1, 3) := by decide +kernel
theorem dX9_goesOn_109 : decode cX9_goesOn 109 = .ok (.goto (-26), 3) := by decide +kernel
theorem dX9_goesOn_112 : decode cX9_goesOn 112 = .ok (.iconst 0, 1) := by decide +kernel
theorem dX9_goesOn_113 : decode cX9_goesOn 113 = .ok (.istore 7, 2) := by decide +kernel
theorem dX9_goesOn_115 : decode cX9_goesOn 115 = .ok (.iload 7, 2) := by decide +kernel
theorem dX9_goesOn_117 : decode cX9_goesOn 117 = .ok (.aload_n 0, 1) := by decide +kernel
theorem dX9_goesOn_118 : decode cX9_goesOn 118 = .ok (.getfield 92, 3) := by decide +kernel
theorem dX9_goesOn_121 : decode cX9_goesOn 121 = .ok (.if_icmp .ge 116, 3) := by decide +kernel
theorem dX9_goesOn_124 : decode cX9_goesOn 124 = .ok (.iload_n 2, 1) := by decide +kernel
theorem dX9_goesOn_125 : decode cX9_goesOn 125 = .ok (.iload 7, 2) := by decide +kernel
theorem dX9_goesOn_127 : decode cX9_goesOn 127 = .ok (.ishr, 1) := by decide +kernel
theorem dX9_goesOn_128 : decode cX9_goesOn 128 = .ok (.iconst 1, 1) := by decide +kernel
theorem dX9_goesOn_129 : decode cX9_goesOn 129 = .ok (.iand, 1) := by decide +kernel
theorem dX9_goesOn_130 : decode cX9_goesOn 130 = .ok (.ifCond .ne 101, 3) := by decide +kernel
theorem dX9_goesOn_133 : decode cX9_goesOn 133 = .ok (.iload 5, 2) := by decide +kernel
theorem dX9_goesOn_135 : decode cX9_goesOn 135 = .ok (.iload 7, 2) := by decide +kernel
theorem dX9_goesOn_137 : decode cX9_goesOn 137 = .ok (.ishr, 1) := by decide +kernel
theorem dX9_goesOn_138 : decode cX9_goesOn 138 = .ok (.iconst 1, 1) := by decide +kernel
theorem dX9_goesOn_139 : decode cX9_goesOn 139 = .ok (.iand, 1) := by decide +kernel
theorem dX9_goesOn_140 : decode cX9_goesOn 140 = .ok (.iconst 1, 1) := by decide +kernel
theorem dX9_goesOn_141 : decode cX9_goesOn 141 = .ok (.if_icmp .ne 90, 3) := by decide +kernel
theorem dX9_goesOn_144 : decode cX9_goesOn 144 = .ok (.iload_n 3, 1) := by decide +kernel
theorem dX9_goesOn_145 : decode cX9_goesOn 145 = .ok (.iload_n 1, 1) := by decide +kernel
theorem dX9_goesOn_146 : decode cX9_goesOn 146 = .ok (.aload_n 0, 1) := by decide +kernel
theorem dX9_goesOn_147 : decode cX9_goesOn 147 = .ok (.getfield 32, 3) := by decide +kernel
theorem dX9_goesOn_150 : decode cX9_goesOn 150 = .ok (.iload 7, 2) := by decide +kernel
theorem dX9_goesOn_152 : decode cX9_goesOn 152 = .ok (.iaload, 1) := by decide +kernel
theorem dX9_goesOn_153 : decode cX9_goesOn 153 = .ok (.invokestatic 278, 3) := by decide +kernel
theorem dX9_goesOn_156 : decode cX9_goesOn 156 = .ok (.aload_n 0, 1) := by decide +kernel
theorem dX9_goesOn_157 : decode cX9_goesOn 157 = .ok (.getfield 47, 3) := by decide +kernel
theorem dX9_goesOn_160 : decode cX9_goesOn 160 = .ok (.aload_n 0, 1) := by decide +kernel
theorem dX9_goesOn_161 : decode cX9_goesOn 161 = .ok (.getfield 275, 3) := by decide +kernel
theorem dX9_goesOn_164 : decode cX9_goesOn 164 = .ok (.iaload, 1) := by decide +kernel
theorem dX9_goesOn_165 : decode cX9_goesOn 165 = .ok (.imul, 1) := by decide +kernel
theorem dX9_goesOn_166 : decode cX9_goesOn 166 = .ok (.iadd, 1) := by decide +kernel
theorem dX9_goesOn_167 : decode cX9_goesOn 167 = .ok (.istore 8, 2) := by decide +kernel
theorem dX9_goesOn_169 : decode cX9_goesOn 169 = .ok (.aload_n 0, 1) := by decide +kernel
theorem dX9_goesOn_170 : decode cX9_goesOn 170 = .ok (.getfield 50, 3) := by decide +kernel
theorem dX9_goesOn_173 : decode cX9_goesOn 173 = .ok (.aload_n 0, 1) := by decide +kernel
theorem dX9_goesOn_174 : decode cX9_goesOn 174 = .ok (.getfield 275, 3) := by decide +kernel
theorem dX9_goesOn_177 : decode cX9_goesOn 177 = .ok (.iload 7, 2) := by decide +kernel
theorem dX9_goesOn_179 : decode cX9_goesOn 179 = .ok (.iastore, 1) := by decide +kernel
theorem dX9_goesOn_180 : decode cX9_goesOn 180 = .ok (.aload_n 0, 1) := by decide +kernel
theorem dX9_goesOn_181 : decode cX9_goesOn 181 = .ok (.dup, 1) := by decide +kernel
theorem dX9_goesOn_182 : decode cX9_goesOn 182 = .ok (.getfield 275, 3) := by decide +kernel
theorem dX9_goesOn_185 : decode cX9_goesOn 185 = .ok (.iconst 1, 1) := by decide +kernel
theorem dX9_goesOn_186 : decode cX9_goesOn 186 = .ok (.iadd, 1) := by decide +kernel
theorem dX9_goesOn_187 : decode cX9_goesOn 187 = .ok (.putfield 275, 3) := by decide +kernel
theorem dX9_goesOn_190 : decode cX9_goesOn 190 = .ok (.aload_n 0, 1) := by decide +kernel
theorem dX9_goesOn_191 : decode cX9_goesOn 191 = .ok (.aload_n 0, 1) := by decide +kernel
theorem dX9_goesOn_192 : decode cX9_goesOn 192 = .ok (.getfield 32, 3) := by decide +kernel
theorem dX9_goesOn_195 : decode cX9_goesOn 195 = .ok (.iload 7, 2) := by decide +kernel
theorem dX9_goesOn_197 : decode cX9_goesOn 197 = .ok (.iaload, 1) := by decide +kernel
theorem dX9_goesOn_198 : decode cX9_goesOn 198 = .ok (.iload_n 2, 1) := by decide +kernel
theorem dX9_goesOn_199 : decode cX9_goesOn 199 = .ok (.iconst 1, 1) := by decide +kernel
theorem dX9_goesOn_200 : decode cX9_goesOn 200 = .ok (.iload 7, 2) := by decide +kernel
theorem dX9_goesOn_202 : decode cX9_goesOn 202 = .ok (.ishl, 1) := by decide +kernel
theorem dX9_goesOn_203 : decode cX9_goesOn 203 = .ok (.ior, 1) := by decide +kernel
theorem dX9_goesOn_204 : decode cX9_goesOn 204 = .ok (.iload 8, 2) := by decide +kernel
theorem dX9_goesOn_206 : decode cX9_goesOn 206 = .ok (.iload 4, 2) := by decide +kernel
theorem dX9_goesOn_208 : decode cX9_goesOn 208 = .ok (.aload_n 0, 1) := by decide +kernel
theorem dX9_goesOn_209 : decode cX9_goesOn 209 = .ok (.getfield 35, 3) := by decide +kernel
theorem dX9_goesOn_212 : decode cX9_goesOn 212 = .ok (.iload 7, 2) := by decide +kernel
theorem dX9_goesOn_214 : decode cX9_goesOn 214 = .ok (.iaload, 1) := by decide +kernel
theorem dX9_goesOn_215 : decode cX9_goesOn 215 = .ok (.iadd, 1) := by decide +kernel
theorem dX9_goesOn_216 : decode cX9_goesOn 216 = .ok (.iload 5, 2) := by decide +kernel
theorem dX9_goesOn_218 : decode cX9_goesOn 218 = .ok (.invokevirtual 309, 3) := by decide +kernel
theorem dX9_goesOn_221 : decode cX9_goesOn 221 = .ok (.aload_n 0, 1) := by decide +kernel
theorem dX9_goesOn_222 : decode cX9_goesOn 222 = .ok (.dup, 1) := by decide +kernel
theorem dX9_goesOn_223 : decode cX9_goesOn 223 = .ok (.getfield 275, 3) := by decide +kernel
theorem dX9_goesOn_226 : decode cX9_goesOn 226 = .ok (.iconst 1, 1) := by decide +kernel
theorem dX9_goesOn_227 : decode cX9_goesOn 227 = .ok (.isub, 1) := by decide +kernel
theorem dX9_goesOn_228 : decode cX9_goesOn 228 = .ok (.putfield 275, 3) := by decide +kernel
theorem dX9_goesOn_231 : decode cX9_goesOn 231 = .ok (.iinc 7 1, 3) := by decide +kernel
theorem dX9_goesOn_234 : decode cX9_goesOn 234 = .ok (.goto (-119), 3) := by decide +kernel
theorem dX9_goesOn_237 : decode cX9_goesOn 237 = .ok (.return_, 1) := by decide +kernel
-- KeepOurPlaceModel.feed
def F9_feed (M : Mem) (a1 : Int32) : Option (Int32 × Mem) :=
    Option.bind (F9_in M (Int32.toInt64 a1) (0 : Int64) (255 : Int64)) fun r1 =>
    if ¬ r1.1 = 0 then
      if ¬ (r1.2 0 6) = (160 : Int32) then
        if inb (r1.2 0 6) 160 = true then
        some (((r1.2 0 6) + (1 : Int32)), (up2 (up2 r1.2 3 (Int32.toNatClampNeg (r1.2 0 6)) a1) 0 6 ((r1.2 0 6) + (1 : Int32))))
        else none
      else
        some ((-4 : Int32), r1.2)
    else
      some ((-2 : Int32), r1.2)
set_option maxRecDepth 20000 in
theorem F9_feed_ok {p : Program} {l : Launch} {e : Env} {s : State} {m : MethodId} {args : Array Value} {below : List Frame} {meth : Method} {c : Code} {G : GG} {D : Nat} {r : Int32 × Mem} (F : FrP shB G p s m args c RX9 cX9_feed 2) (hr : meth.sig.returnType = (some .int)) (hlk : meth.locks = false) (hD : 2 ≤ D) {M : Mem} {a1 : Int32} (h : F9_feed M a1 = some r) : XJ shB p l e (rmX D) s m args below meth c 0 0 G 2 (MQ below (QcX shB G ((some (.int r.1), r.2) : Option Value × Mem).1 ((some (.int r.1), r.2) : Option Value × Mem).2) args s 0 0 (AW shB G.2.1)) 0 [(0, .ref 0), (1, .int a1)] [] M := by
  unfold F9_feed at h
  refine X_iload_n F dX9_feed_0 rfl ?_
  refine X_i2l F dX9_feed_1 ?_
  refine X_lconst F dX9_feed_2 (v := (0 : Int64)) rfl ?_
  refine X_ldc2 F fcRX9_136 dX9_feed_3 ?_
  obtain ⟨r1, h2, h⟩ := bndS h
  refine X_callS (As := [.long (Int32.toInt64 a1), .long (0 : Int64), .long (255 : Int64)]) (rest := []) F fsRX9_88 feX9_in ftX9_in (F9_in_met (D := D - 1) F.2.2.2.2.2.2.2.1 (by omega) h2) rfl rfl (Nat.le_of_ble_eq_true rfl) (rm_ok (by omega) (by decide)) dX9_feed_6 ?_
  show XJ shB p l e (rmX D) s m args below meth c 0 0 G 2 (MQ below (QcX shB G ((some (.int r.1), r.2) : Option Value × Mem).1 ((some (.int r.1), r.2) : Option Value × Mem).2) args s 0 0 (AW shB G.2.1)) 9 [(0, .ref 0), (1, .int a1)] [.int r1.1] r1.2
  refine X_if_ne (tgt := 15) F dX9_feed_9 (by decide) (fun q3 => ?_) (fun q3 => ?_)
  · rw [if_pos q3] at h
    refine X_aload_n F dX9_feed_15 rfl ?_
    refine X_geti (v := (r1.2 0 6)) F ffRX9_138 dX9_feed_16 rfl ?_
    refine X_sipush F dX9_feed_19 (v := (160 : Int32)) rfl ?_
    refine X_icmp_ne (tgt := 28) F dX9_feed_22 (by decide) (fun q4 => ?_) (fun q4 => ?_)
    · rw [if_pos q4] at h
      refine X_aload_n F dX9_feed_28 rfl ?_
      refine X_getr F ffRX9_20 dX9_feed_29 ?_
      refine X_aload_n F dX9_feed_32 rfl ?_
      refine X_geti (v := (r1.2 0 6)) F ffRX9_138 dX9_feed_33 rfl ?_
      refine X_iload_n F dX9_feed_36 rfl ?_
      obtain ⟨q5, h⟩ := ifS h
      refine X_iast (j := (Int32.toNatClampNeg (r1.2 0 6))) F rfl (inbV q5) rfl dX9_feed_37 ?_
      refine X_aload_n F dX9_feed_38 rfl ?_
      refine X_dup F dX9_feed_39 rfl ?_
      refine X_geti (v := (r1.2 0 6)) F ffRX9_138 dX9_feed_40 rfl ?_
      refine X_iconst F dX9_feed_43 (v := (1 : Int32)) rfl ?_
      refine X_iadd F dX9_feed_44 ?_
      refine X_puti F ffRX9_138 fw9_6 (by decide) dX9_feed_45 ?_
      refine X_aload_n F dX9_feed_48 rfl ?_
      refine X_geti (v := ((r1.2 0 6) + (1 : Int32))) F ffRX9_138 dX9_feed_49 rfl ?_
      exact X_iret F hr hlk (retI h) dX9_feed_52
    · rw [if_neg (fun z => z q4)] at h
      refine X_bipush F dX9_feed_25 (v := (-4 : Int32)) rfl ?_
      exact X_iret F hr hlk (retI h) dX9_feed_27
  · rw [if_neg (fun z => z q3)] at h
    refine X_bipush F dX9_feed_12 (v := (-2 : Int32)) rfl ?_
    exact X_iret F hr hlk (retI h) dX9_feed_14
set_option maxRecDepth 20000 in
theorem F9_feed_met {l : Launch} {G : GG} {D : Nat} {r : Int32 × Mem} {M : Mem} {a1 : Int32} (hI : Inj shB G.2.1) (hD : 2 ≤ D) (h : F9_feed M a1 = some r) : MetX shB l G yX9_feed cX9_feed 2 (some .int) D [.ref 0, .int a1] M (some (.int r.1), r.2) :=
  X_met hI (by decide +kernel) (Nat.le_of_ble_eq_true rfl) (fun p e s m args below meth c F hr hlk => F9_feed_ok F hr hlk hD h)
-- KeepOurPlaceModel.text
def F9_text_l14_b (rec14 : Mem → Int32 → Option (Int32 × Mem)) (M : Mem) (x1 : Int32) : Option (Int32 × Mem) :=
    if (M 0 6) ≤ x1 then
      if inb (M 0 3) 6 = true then
      Option.bind (F9_read (up2 (up2 M 2 (Int32.toNatClampNeg (M 0 3)) (M 0 6)) 0 6 (0 : Int32)) (M 0 3) (0 : Int32)) fun r4 =>
      if (r4.2 0 30) = 0 then
        some ((((r4.2 0 3) + (1 : Int32)) - (1 : Int32)), (up2 r4.2 0 3 ((r4.2 0 3) + (1 : Int32))))
      else
        some (((-100 : Int32) - (r4.2 0 31)), r4.2)
      else none
    else
      if inb x1 160 = true then
      if inb (((160 : Int32) * (M 0 3)) + x1) 960 = true then
      rec14 (up2 M 1 (Int32.toNatClampNeg (((160 : Int32) * (M 0 3)) + x1)) (M 3 (Int32.toNatClampNeg x1))) (x1 + (1 : Int32))
      else none
      else none
def F9_text_l14 : Nat → Mem → Int32 → Option (Int32 × Mem)
  | 0, _, _ => none
  | fu + 1, M, x1 => F9_text_l14_b (F9_text_l14 fu) M x1
def F9_text (M : Mem) : Option (Int32 × Mem) :=
    if ¬ (M 0 3) = (6 : Int32) then
      F9_text_l14 FUEL M (0 : Int32)
    else
      some ((-4 : Int32), M)
set_option maxRecDepth 20000 in
theorem F9_text_l14_bok {p : Program} {l : Launch} {e : Env} {s : State} {m : MethodId} {args : Array Value} {below : List Frame} {meth : Method} {c : Code} {G : GG} {D : Nat} {r : Int32 × Mem} {rec14 : Mem → Int32 → Option (Int32 × Mem)} (F : FrP shB G p s m args c RX9 cX9_text 2) (hr : meth.sig.returnType = (some .int)) (hlk : meth.locks = false) (hD : 88 ≤ D) (hrec14 : ∀ (M : Mem) (x1 : Int32), rec14 M x1 = some r → XJ shB p l e (rmX D) s m args below meth c 0 0 G 2 (MQ below (QcX shB G ((some (.int r.1), r.2) : Option Value × Mem).1 ((some (.int r.1), r.2) : Option Value × Mem).2) args s 0 0 (AW shB G.2.1)) 14 [(0, .ref 0), (1, .int x1)] [] M) {M : Mem} {x1 : Int32} (h : F9_text_l14_b rec14 M x1 = some r) : XJ shB p l e (rmX D) s m args below meth c 0 0 G 2 (MQ below (QcX shB G ((some (.int r.1), r.2) : Option Value × Mem).1 ((some (.int r.1), r.2) : Option Value × Mem).2) args s 0 0 (AW shB G.2.1)) 14 [(0, .ref 0), (1, .int x1)] [] M := by
  unfold F9_text_l14_b at h
  refine X_iload_n F dX9_text_14 rfl ?_
  refine X_aload_n F dX9_text_15 rfl ?_
  refine X_geti (v := (M 0 6)) F ffRX9_138 dX9_text_16 rfl ?_
  refine X_icmp_ge (tgt := 49) F dX9_text_19 (by decide) (fun q2 => ?_) (fun q2 => ?_)
  · rw [if_pos q2] at h
    refine X_aload_n F dX9_text_49 rfl ?_
    refine X_getr F ffRX9_17 dX9_text_50 ?_
    refine X_aload_n F dX9_text_53 rfl ?_
    refine X_geti (v := (M 0 3)) F ffRX9_82 dX9_text_54 rfl ?_
    refine X_aload_n F dX9_text_57 rfl ?_
    refine X_geti (v := (M 0 6)) F ffRX9_138 dX9_text_58 rfl ?_
    obtain ⟨q3, h⟩ := ifS h
    refine X_iast (j := (Int32.toNatClampNeg (M 0 3))) F rfl (inbV q3) rfl dX9_text_61 ?_
    refine X_aload_n F dX9_text_62 rfl ?_
    refine X_iconst F dX9_text_63 (v := (0 : Int32)) rfl ?_
    refine X_puti F ffRX9_138 fw9_6 (by decide) dX9_text_64 ?_
    refine X_aload_n F dX9_text_67 rfl ?_
    refine X_aload_n F dX9_text_68 rfl ?_
    refine X_geti (v := (M 0 3)) F ffRX9_82 dX9_text_69 rfl ?_
    refine X_iconst F dX9_text_72 (v := (0 : Int32)) rfl ?_
    obtain ⟨r4, h5, h⟩ := bndS h
    refine X_callV (ci := 0) (As := [.int (M 0 3), .int (0 : Int32)]) (rest := []) F fkRX9_252 feX9_read fvX9_read ⟨_, _, _, rfl, rfl, rfl⟩ (F9_read_met (D := D - 1) F.2.2.2.2.2.2.2.1 (by omega) h5) rfl rfl (Nat.le_of_ble_eq_true rfl) (rm_ok (by omega) (by decide)) dX9_text_73 ?_
    show XJ shB p l e (rmX D) s m args below meth c 0 0 G 2 (MQ below (QcX shB G ((some (.int r.1), r.2) : Option Value × Mem).1 ((some (.int r.1), r.2) : Option Value × Mem).2) args s 0 0 (AW shB G.2.1)) 76 [(0, .ref 0), (1, .int x1)] [.int r4.1] r4.2
    refine X_istore_n F dX9_text_76 (by decide) rfl ?_
    refine X_aload_n F dX9_text_77 rfl ?_
    refine X_geti (v := (r4.2 0 30)) F ffRX9_173 dX9_text_78 rfl ?_
    refine X_if_eq (tgt := 92) F dX9_text_81 (by decide) (fun q6 => ?_) (fun q6 => ?_)
    · rw [if_pos q6] at h
      refine X_aload_n F dX9_text_92 rfl ?_
      refine X_dup F dX9_text_93 rfl ?_
      refine X_geti (v := (r4.2 0 3)) F ffRX9_82 dX9_text_94 rfl ?_
      refine X_iconst F dX9_text_97 (v := (1 : Int32)) rfl ?_
      refine X_iadd F dX9_text_98 ?_
      refine X_puti F ffRX9_82 fw9_3 (by decide) dX9_text_99 ?_
      refine X_aload_n F dX9_text_102 rfl ?_
      refine X_geti (v := ((r4.2 0 3) + (1 : Int32))) F ffRX9_82 dX9_text_103 rfl ?_
      refine X_iconst F dX9_text_106 (v := (1 : Int32)) rfl ?_
      refine X_isub F dX9_text_107 ?_
      exact X_iret F hr hlk (retI h) dX9_text_108
    · rw [if_neg q6] at h
      refine X_bipush F dX9_text_84 (v := (-100 : Int32)) rfl ?_
      refine X_aload_n F dX9_text_86 rfl ?_
      refine X_geti (v := (r4.2 0 31)) F ffRX9_177 dX9_text_87 rfl ?_
      refine X_isub F dX9_text_90 ?_
      exact X_iret F hr hlk (retI h) dX9_text_91
  · rw [if_neg q2] at h
    refine X_aload_n F dX9_text_22 rfl ?_
    refine X_getr F ffRX9_13 dX9_text_23 ?_
    refine X_sipush F dX9_text_26 (v := (160 : Int32)) rfl ?_
    refine X_aload_n F dX9_text_29 rfl ?_
    refine X_geti (v := (M 0 3)) F ffRX9_82 dX9_text_30 rfl ?_
    refine X_imul F dX9_text_33 ?_
    refine X_iload_n F dX9_text_34 rfl ?_
    refine X_iadd F dX9_text_35 ?_
    refine X_aload_n F dX9_text_36 rfl ?_
    refine X_getr F ffRX9_20 dX9_text_37 ?_
    refine X_iload_n F dX9_text_40 rfl ?_
    obtain ⟨q7, h⟩ := ifS h
    refine X_iald (j := (Int32.toNatClampNeg x1)) (v := (M 3 (Int32.toNatClampNeg x1))) F rfl (inbV q7) rfl rfl dX9_text_41 ?_
    obtain ⟨q8, h⟩ := ifS h
    refine X_iast (j := (Int32.toNatClampNeg (((160 : Int32) * (M 0 3)) + x1))) F rfl (inbV q8) rfl dX9_text_42 ?_
    refine X_iinc F dX9_text_43 rfl (v := (1 : Int32)) rfl (by decide) rfl ?_
    refine X_goto (tgt := 14) F dX9_text_46 (by decide) ?_
    refine X_pick [1, 0] rfl ?_
    exact hrec14 _ _ h
set_option maxRecDepth 20000 in
theorem F9_text_l14_ok {p : Program} {l : Launch} {e : Env} {s : State} {m : MethodId} {args : Array Value} {below : List Frame} {meth : Method} {c : Code} {G : GG} {D : Nat} {r : Int32 × Mem} (F : FrP shB G p s m args c RX9 cX9_text 2) (hr : meth.sig.returnType = (some .int)) (hlk : meth.locks = false) (hD : 88 ≤ D) : ∀ (fu : Nat) (M : Mem) (x1 : Int32), F9_text_l14 fu M x1 = some r → XJ shB p l e (rmX D) s m args below meth c 0 0 G 2 (MQ below (QcX shB G ((some (.int r.1), r.2) : Option Value × Mem).1 ((some (.int r.1), r.2) : Option Value × Mem).2) args s 0 0 (AW shB G.2.1)) 14 [(0, .ref 0), (1, .int x1)] [] M := by
  intro fu
  induction fu with
  | zero => intro M x1 h; cases h
  | succ fu ih => intro M x1 h; exact F9_text_l14_bok F hr hlk hD (fun M x1 => ih M x1) h
set_option maxRecDepth 20000 in
theorem F9_text_ok {p : Program} {l : Launch} {e : Env} {s : State} {m : MethodId} {args : Array Value} {below : List Frame} {meth : Method} {c : Code} {G : GG} {D : Nat} {r : Int32 × Mem} (F : FrP shB G p s m args c RX9 cX9_text 2) (hr : meth.sig.returnType = (some .int)) (hlk : meth.locks = false) (hD : 88 ≤ D) {M : Mem} (h : F9_text M = some r) : XJ shB p l e (rmX D) s m args below meth c 0 0 G 2 (MQ below (QcX shB G ((some (.int r.1), r.2) : Option Value × Mem).1 ((some (.int r.1), r.2) : Option Value × Mem).2) args s 0 0 (AW shB G.2.1)) 0 [(0, .ref 0)] [] M := by
  unfold F9_text at h
  refine X_aload_n F dX9_text_0 rfl ?_
  refine X_geti (v := (M 0 3)) F ffRX9_82 dX9_text_1 rfl ?_
  refine X_bipush F dX9_text_4 (v := (6 : Int32)) rfl ?_
  refine X_icmp_ne (tgt := 12) F dX9_text_6 (by decide) (fun q1 => ?_) (fun q1 => ?_)
  · rw [if_pos q1] at h
    refine X_iconst F dX9_text_12 (v := (0 : Int32)) rfl ?_
    refine X_istore_n F dX9_text_13 (by decide) rfl ?_
    refine X_pick [1, 0] rfl ?_
    exact F9_text_l14_ok F hr hlk hD FUEL _ _ h
  · rw [if_neg (fun z => z q1)] at h
    refine X_bipush F dX9_text_9 (v := (-4 : Int32)) rfl ?_
    exact X_iret F hr hlk (retI h) dX9_text_11
set_option maxRecDepth 20000 in
theorem F9_text_met {l : Launch} {G : GG} {D : Nat} {r : Int32 × Mem} {M : Mem} (hI : Inj shB G.2.1) (hD : 88 ≤ D) (h : F9_text M = some r) : MetX shB l G yX9_text cX9_text 2 (some .int) D [.ref 0] M (some (.int r.1), r.2) :=
  X_met hI (by decide +kernel) (Nat.le_of_ble_eq_true rfl) (fun p e s m args below meth c F hr hlk => F9_text_ok F hr hlk hD h)
-- KeepOurPlaceModel.force
def F9_force (M : Mem) (a1 : Int32) : Option (Int32 × Mem) :=
    Option.bind (F9_in M (Int32.toInt64 a1) (0 : Int64) (Int32.toInt64 ((M 0 3) - (1 : Int32)))) fun r1 =>
    if ¬ r1.1 = 0 then
      some ((r1.2 0 4), (up2 r1.2 0 4 a1))
    else
      some ((-2 : Int32), r1.2)
set_option maxRecDepth 20000 in
theorem F9_force_ok {p : Program} {l : Launch} {e : Env} {s : State} {m : MethodId} {args : Array Value} {below : List Frame} {meth : Method} {c : Code} {G : GG} {D : Nat} {r : Int32 × Mem} (F : FrP shB G p s m args c RX9 cX9_force 3) (hr : meth.sig.returnType = (some .int)) (hlk : meth.locks = false) (hD : 2 ≤ D) {M : Mem} {a1 : Int32} (h : F9_force M a1 = some r) : XJ shB p l e (rmX D) s m args below meth c 0 0 G 3 (MQ below (QcX shB G ((some (.int r.1), r.2) : Option Value × Mem).1 ((some (.int r.1), r.2) : Option Value × Mem).2) args s 0 0 (AW shB G.2.1)) 0 [(0, .ref 0), (1, .int a1)] [] M := by
  unfold F9_force at h
  refine X_iload_n F dX9_force_0 rfl ?_
  refine X_i2l F dX9_force_1 ?_
  refine X_lconst F dX9_force_2 (v := (0 : Int64)) rfl ?_
  refine X_aload_n F dX9_force_3 rfl ?_
  refine X_geti (v := (M 0 3)) F ffRX9_82 dX9_force_4 rfl ?_
  refine X_iconst F dX9_force_7 (v := (1 : Int32)) rfl ?_
  refine X_isub F dX9_force_8 ?_
  refine X_i2l F dX9_force_9 ?_
  obtain ⟨r1, h2, h⟩ := bndS h
  refine X_callS (As := [.long (Int32.toInt64 a1), .long (0 : Int64), .long (Int32.toInt64 ((M 0 3) - (1 : Int32)))]) (rest := []) F fsRX9_88 feX9_in ftX9_in (F9_in_met (D := D - 1) F.2.2.2.2.2.2.2.1 (by omega) h2) rfl rfl (Nat.le_of_ble_eq_true rfl) (rm_ok (by omega) (by decide)) dX9_force_10 ?_
  show XJ shB p l e (rmX D) s m args below meth c 0 0 G 3 (MQ below (QcX shB G ((some (.int r.1), r.2) : Option Value × Mem).1 ((some (.int r.1), r.2) : Option Value × Mem).2) args s 0 0 (AW shB G.2.1)) 13 [(0, .ref 0), (1, .int a1)] [.int r1.1] r1.2
  refine X_if_ne (tgt := 19) F dX9_force_13 (by decide) (fun q3 => ?_) (fun q3 => ?_)
  · rw [if_pos q3] at h
    refine X_aload_n F dX9_force_19 rfl ?_
    refine X_geti (v := (r1.2 0 4)) F ffRX9_255 dX9_force_20 rfl ?_
    refine X_istore_n F dX9_force_23 (by decide) rfl ?_
    refine X_aload_n F dX9_force_24 rfl ?_
    refine X_iload_n F dX9_force_25 rfl ?_
    refine X_puti F ffRX9_255 fw9_4 (by decide) dX9_force_26 ?_
    refine X_iload_n F dX9_force_29 rfl ?_
    exact X_iret F hr hlk (retI h) dX9_force_30
  · rw [if_neg (fun z => z q3)] at h
    refine X_bipush F dX9_force_16 (v := (-2 : Int32)) rfl ?_
    exact X_iret F hr hlk (retI h) dX9_force_18
set_option maxRecDepth 20000 in
theorem F9_force_met {l : Launch} {G : GG} {D : Nat} {r : Int32 × Mem} {M : Mem} {a1 : Int32} (hI : Inj shB G.2.1) (hD : 2 ≤ D) (h : F9_force M a1 = some r) : MetX shB l G yX9_force cX9_force 3 (some .int) D [.ref 0, .int a1] M (some (.int r.1), r.2) :=
  X_met hI (by decide +kernel) (Nat.le_of_ble_eq_true rfl) (fun p e s m args below meth c F hr hlk => F9_force_ok F hr hlk hD h)
-- KeepOurPlaceModel.gathers
def F9_gathers_l90_b (rec90 : Mem → Int32 → Option (Int32 × Mem)) (M : Mem) (x1 : Int32) : Option (Int32 × Mem) :=
    if (7 : Int32) ≤ x1 then
      some ((0 : Int32), M)
    else
      Option.bind (F9_says M (2 : Int32) x1 (0 : Int32) (0 : Int32) (0 : Int32)) fun r12 =>
      if inb x1 7 = true then
      rec90 (up2 r12.2 12 (Int32.toNatClampNeg x1) r12.1) (x1 + (1 : Int32))
      else none
def F9_gathers_l90 : Nat → Mem → Int32 → Option (Int32 × Mem)
  | 0, _, _ => none
  | fu + 1, M, x1 => F9_gathers_l90_b (F9_gathers_l90 fu) M x1
def F9_gathers_j78 (rec7 : Mem → Int32 → Option (Int32 × Mem)) (M : Mem) (x1 : Int32) (y0 : Int32) (y1 : Int32) : Option (Int32 × Mem) :=
    rec7 (up2 M 0 35 (y1 + y0)) (x1 + (1 : Int32))
def F9_gathers_j54 (rec7 : Mem → Int32 → Option (Int32 × Mem)) (M : Mem) (x1 : Int32) (y0 : Int32) (y1 : Int32) : Option (Int32 × Mem) :=
    if inb y1 8 = true then
    if (M 0 11) ≤ x1 then
      F9_gathers_j78 rec7 (up2 M 11 (Int32.toNatClampNeg y1) y0) x1 (0 : Int32) (M 0 35)
    else
      if inb x1 8 = true then
      F9_gathers_j78 rec7 (up2 M 11 (Int32.toNatClampNeg y1) y0) x1 (M 10 (Int32.toNatClampNeg x1)) (M 0 35)
      else none
    else none
def F9_gathers_l7_b (rec7 : Mem → Int32 → Option (Int32 × Mem)) (M : Mem) (x1 : Int32) : Option (Int32 × Mem) :=
    if (M 0 10) ≤ x1 then
      F9_gathers_l90 FUEL M (0 : Int32)
    else
      Option.bind (F9_secondsOf M x1) fun r2 =>
      if inb x1 8 = true then
      if (r2.2 0 11) ≤ x1 then
        Option.bind (F9_mindsOf (up2 r2.2 10 (Int32.toNatClampNeg x1) r2.1) x1 (x1 - (r2.2 0 11))) fun r6 =>
        F9_gathers_j54 rec7 r6.2 x1 r6.1 x1
      else
        F9_gathers_j54 rec7 (up2 r2.2 10 (Int32.toNatClampNeg x1) r2.1) x1 (0 : Int32) x1
      else none
def F9_gathers_l7 : Nat → Mem → Int32 → Option (Int32 × Mem)
  | 0, _, _ => none
  | fu + 1, M, x1 => F9_gathers_l7_b (F9_gathers_l7 fu) M x1
def F9_gathers (M : Mem) : Option (Int32 × Mem) :=
    F9_gathers_l7 FUEL (up2 M 0 35 (0 : Int32)) (0 : Int32)
set_option maxRecDepth 20000 in
theorem F9_gathers_l90_bok {p : Program} {l : Launch} {e : Env} {s : State} {m : MethodId} {args : Array Value} {below : List Frame} {meth : Method} {c : Code} {G : GG} {D : Nat} {r : Int32 × Mem} {rec90 : Mem → Int32 → Option (Int32 × Mem)} (F : FrP shB G p s m args c RX9 cX9_gathers 2) (hr : meth.sig.returnType = none) (hlk : meth.locks = false) (hD : 90 ≤ D) (hrec90 : ∀ (M : Mem) (x1 : Int32), rec90 M x1 = some r → XJ shB p l e (rmX D) s m args below meth c 0 0 G 2 (MQ below (QcX shB G ((none, r.2) : Option Value × Mem).1 ((none, r.2) : Option Value × Mem).2) args s 0 0 (AW shB G.2.1)) 90 [(0, .ref 0), (1, .int x1)] [] M) {M : Mem} {x1 : Int32} (h : F9_gathers_l90_b rec90 M x1 = some r) : XJ shB p l e (rmX D) s m args below meth c 0 0 G 2 (MQ below (QcX shB G ((none, r.2) : Option Value × Mem).1 ((none, r.2) : Option Value × Mem).2) args s 0 0 (AW shB G.2.1)) 90 [(0, .ref 0), (1, .int x1)] [] M := by
  unfold F9_gathers_l90_b at h
  refine X_iload_n F dX9_gathers_90 rfl ?_
  refine X_bipush F dX9_gathers_91 (v := (7 : Int32)) rfl ?_
  refine X_icmp_ge (tgt := 117) F dX9_gathers_93 (by decide) (fun q11 => ?_) (fun q11 => ?_)
  · rw [if_pos q11] at h
    exact X_vret F hr hlk (retV h) dX9_gathers_117
  · rw [if_neg q11] at h
    refine X_aload_n F dX9_gathers_96 rfl ?_
    refine X_getr F ffRX9_47 dX9_gathers_97 ?_
    refine X_iload_n F dX9_gathers_100 rfl ?_
    refine X_aload_n F dX9_gathers_101 rfl ?_
    refine X_iconst F dX9_gathers_102 (v := (2 : Int32)) rfl ?_
    refine X_iload_n F dX9_gathers_103 rfl ?_
    refine X_iconst F dX9_gathers_104 (v := (0 : Int32)) rfl ?_
    refine X_iconst F dX9_gathers_105 (v := (0 : Int32)) rfl ?_
    refine X_iconst F dX9_gathers_106 (v := (0 : Int32)) rfl ?_
    obtain ⟨r12, h13, h⟩ := bndS h
    refine X_callV (ci := 0) (As := [.int (2 : Int32), .int x1, .int (0 : Int32), .int (0 : Int32), .int (0 : Int32)]) (rest := [.int x1, .ref 12]) F fkRX9_262 feX9_says fvX9_says ⟨_, _, _, rfl, rfl, rfl⟩ (F9_says_met (D := D - 1) F.2.2.2.2.2.2.2.1 (by omega) h13) rfl rfl (Nat.le_of_ble_eq_true rfl) (rm_ok (by omega) (by decide)) dX9_gathers_107 ?_
    show XJ shB p l e (rmX D) s m args below meth c 0 0 G 2 (MQ below (QcX shB G ((none, r.2) : Option Value × Mem).1 ((none, r.2) : Option Value × Mem).2) args s 0 0 (AW shB G.2.1)) 110 [(0, .ref 0), (1, .int x1)] [.int r12.1, .int x1, .ref 12] r12.2
    obtain ⟨q14, h⟩ := ifS h
    refine X_iast (j := (Int32.toNatClampNeg x1)) F rfl (inbV q14) rfl dX9_gathers_110 ?_
    refine X_iinc F dX9_gathers_111 rfl (v := (1 : Int32)) rfl (by decide) rfl ?_
    refine X_goto (tgt := 90) F dX9_gathers_114 (by decide) ?_
    refine X_pick [1, 0] rfl ?_
    exact hrec90 _ _ h
set_option maxRecDepth 20000 in
theorem F9_gathers_l90_ok {p : Program} {l : Launch} {e : Env} {s : State} {m : MethodId} {args : Array Value} {below : List Frame} {meth : Method} {c : Code} {G : GG} {D : Nat} {r : Int32 × Mem} (F : FrP shB G p s m args c RX9 cX9_gathers 2) (hr : meth.sig.returnType = none) (hlk : meth.locks = false) (hD : 90 ≤ D) : ∀ (fu : Nat) (M : Mem) (x1 : Int32), F9_gathers_l90 fu M x1 = some r → XJ shB p l e (rmX D) s m args below meth c 0 0 G 2 (MQ below (QcX shB G ((none, r.2) : Option Value × Mem).1 ((none, r.2) : Option Value × Mem).2) args s 0 0 (AW shB G.2.1)) 90 [(0, .ref 0), (1, .int x1)] [] M := by
  intro fu
  induction fu with
  | zero => intro M x1 h; cases h
  | succ fu ih => intro M x1 h; exact F9_gathers_l90_bok F hr hlk hD (fun M x1 => ih M x1) h
set_option maxRecDepth 20000 in
theorem F9_gathers_j78_ok {p : Program} {l : Launch} {e : Env} {s : State} {m : MethodId} {args : Array Value} {below : List Frame} {meth : Method} {c : Code} {G : GG} {D : Nat} {r : Int32 × Mem} {rec7 : Mem → Int32 → Option (Int32 × Mem)} (F : FrP shB G p s m args c RX9 cX9_gathers 2) (hr : meth.sig.returnType = none) (hlk : meth.locks = false) (hD : 90 ≤ D) (hrec7 : ∀ (M : Mem) (x1 : Int32), rec7 M x1 = some r → XJ shB p l e (rmX D) s m args below meth c 0 0 G 2 (MQ below (QcX shB G ((none, r.2) : Option Value × Mem).1 ((none, r.2) : Option Value × Mem).2) args s 0 0 (AW shB G.2.1)) 7 [(0, .ref 0), (1, .int x1)] [] M) {M : Mem} {x1 : Int32} {y0 : Int32} {y1 : Int32} (h : F9_gathers_j78 rec7 M x1 y0 y1 = some r) : XJ shB p l e (rmX D) s m args below meth c 0 0 G 2 (MQ below (QcX shB G ((none, r.2) : Option Value × Mem).1 ((none, r.2) : Option Value × Mem).2) args s 0 0 (AW shB G.2.1)) 78 [(0, .ref 0), (1, .int x1)] [.int y0, .int y1, .ref 0] M := by
  unfold F9_gathers_j78 at h
  refine X_iadd F dX9_gathers_78 ?_
  refine X_puti F ffRX9_266 fw9_35 (by decide) dX9_gathers_79 ?_
  refine X_iinc F dX9_gathers_82 rfl (v := (1 : Int32)) rfl (by decide) rfl ?_
  refine X_goto (tgt := 7) F dX9_gathers_85 (by decide) ?_
  refine X_pick [1, 0] rfl ?_
  exact hrec7 _ _ h
set_option maxRecDepth 20000 in
theorem F9_gathers_j54_ok {p : Program} {l : Launch} {e : Env} {s : State} {m : MethodId} {args : Array Value} {below : List Frame} {meth : Method} {c : Code} {G : GG} {D : Nat} {r : Int32 × Mem} {rec7 : Mem → Int32 → Option (Int32 × Mem)} (F : FrP shB G p s m args c RX9 cX9_gathers 2) (hr : meth.sig.returnType = none) (hlk : meth.locks = false) (hD : 90 ≤ D) (hrec7 : ∀ (M : Mem) (x1 : Int32), rec7 M x1 = some r → XJ shB p l e (rmX D) s m args below meth c 0 0 G 2 (MQ below (QcX shB G ((none, r.2) : Option Value × Mem).1 ((none, r.2) : Option Value × Mem).2) args s 0 0 (AW shB G.2.1)) 7 [(0, .ref 0), (1, .int x1)] [] M) {M : Mem} {x1 : Int32} {y0 : Int32} {y1 : Int32} (h : F9_gathers_j54 rec7 M x1 y0 y1 = some r) : XJ shB p l e (rmX D) s m args below meth c 0 0 G 2 (MQ below (QcX shB G ((none, r.2) : Option Value × Mem).1 ((none, r.2) : Option Value × Mem).2) args s 0 0 (AW shB G.2.1)) 54 [(0, .ref 0), (1, .int x1)] [.int y0, .int y1, .ref 11] M := by
  unfold F9_gathers_j54 at h
  obtain ⟨q8, h⟩ := ifS h
  refine X_iast (j := (Int32.toNatClampNeg y1)) F rfl (inbV q8) rfl dX9_gathers_54 ?_
  refine X_aload_n F dX9_gathers_55 rfl ?_
  refine X_dup F dX9_gathers_56 rfl ?_
  refine X_geti (v := (M 0 35)) F ffRX9_266 dX9_gathers_57 rfl ?_
  refine X_iload_n F dX9_gathers_60 rfl ?_
  refine X_aload_n F dX9_gathers_61 rfl ?_
  refine X_geti (v := (M 0 11)) F ffRX9_118 dX9_gathers_62 rfl ?_
  refine X_icmp_ge (tgt := 77) F dX9_gathers_65 (by decide) (fun q9 => ?_) (fun q9 => ?_)
  · rw [if_pos q9] at h
    refine X_iconst F dX9_gathers_77 (v := (0 : Int32)) rfl ?_
    exact F9_gathers_j78_ok F hr hlk hD hrec7 h
  · rw [if_neg q9] at h
    refine X_aload_n F dX9_gathers_68 rfl ?_
    refine X_getr F ffRX9_41 dX9_gathers_69 ?_
    refine X_iload_n F dX9_gathers_72 rfl ?_
    obtain ⟨q10, h⟩ := ifS h
    refine X_iald (j := (Int32.toNatClampNeg x1)) (v := (M 10 (Int32.toNatClampNeg x1))) F rfl (inbV q10) rfl rfl dX9_gathers_73 ?_
    refine X_goto (tgt := 78) F dX9_gathers_74 (by decide) ?_
    exact F9_gathers_j78_ok F hr hlk hD hrec7 h
set_option maxRecDepth 20000 in
theorem F9_gathers_l7_bok {p : Program} {l : Launch} {e : Env} {s : State} {m : MethodId} {args : Array Value} {below : List Frame} {meth : Method} {c : Code} {G : GG} {D : Nat} {r : Int32 × Mem} {rec7 : Mem → Int32 → Option (Int32 × Mem)} (F : FrP shB G p s m args c RX9 cX9_gathers 2) (hr : meth.sig.returnType = none) (hlk : meth.locks = false) (hD : 90 ≤ D) (hrec7 : ∀ (M : Mem) (x1 : Int32), rec7 M x1 = some r → XJ shB p l e (rmX D) s m args below meth c 0 0 G 2 (MQ below (QcX shB G ((none, r.2) : Option Value × Mem).1 ((none, r.2) : Option Value × Mem).2) args s 0 0 (AW shB G.2.1)) 7 [(0, .ref 0), (1, .int x1)] [] M) {M : Mem} {x1 : Int32} (h : F9_gathers_l7_b rec7 M x1 = some r) : XJ shB p l e (rmX D) s m args below meth c 0 0 G 2 (MQ below (QcX shB G ((none, r.2) : Option Value × Mem).1 ((none, r.2) : Option Value × Mem).2) args s 0 0 (AW shB G.2.1)) 7 [(0, .ref 0), (1, .int x1)] [] M := by
  unfold F9_gathers_l7_b at h
  refine X_iload_n F dX9_gathers_7 rfl ?_
  refine X_aload_n F dX9_gathers_8 rfl ?_
  refine X_geti (v := (M 0 10)) F ffRX9_85 dX9_gathers_9 rfl ?_
  refine X_icmp_ge (tgt := 88) F dX9_gathers_12 (by decide) (fun q1 => ?_) (fun q1 => ?_)
  · rw [if_pos q1] at h
    refine X_iconst F dX9_gathers_88 (v := (0 : Int32)) rfl ?_
    refine X_istore_n F dX9_gathers_89 (by decide) rfl ?_
    refine X_pick [1, 0] rfl ?_
    exact F9_gathers_l90_ok F hr hlk hD FUEL _ _ h
  · rw [if_neg q1] at h
    refine X_aload_n F dX9_gathers_15 rfl ?_
    refine X_getr F ffRX9_41 dX9_gathers_16 ?_
    refine X_iload_n F dX9_gathers_19 rfl ?_
    refine X_aload_n F dX9_gathers_20 rfl ?_
    refine X_iload_n F dX9_gathers_21 rfl ?_
    obtain ⟨r2, h3, h⟩ := bndS h
    refine X_callV (ci := 0) (As := [.int x1]) (rest := [.int x1, .ref 10]) F fkRX9_125 feX9_secondsOf fvX9_secondsOf ⟨_, _, _, rfl, rfl, rfl⟩ (F9_secondsOf_met (D := D - 1) F.2.2.2.2.2.2.2.1 (by omega) h3) rfl rfl (Nat.le_of_ble_eq_true rfl) (rm_ok (by omega) (by decide)) dX9_gathers_22 ?_
    show XJ shB p l e (rmX D) s m args below meth c 0 0 G 2 (MQ below (QcX shB G ((none, r.2) : Option Value × Mem).1 ((none, r.2) : Option Value × Mem).2) args s 0 0 (AW shB G.2.1)) 25 [(0, .ref 0), (1, .int x1)] [.int r2.1, .int x1, .ref 10] r2.2
    obtain ⟨q4, h⟩ := ifS h
    refine X_iast (j := (Int32.toNatClampNeg x1)) F rfl (inbV q4) rfl dX9_gathers_25 ?_
    refine X_aload_n F dX9_gathers_26 rfl ?_
    refine X_getr F ffRX9_44 dX9_gathers_27 ?_
    refine X_iload_n F dX9_gathers_30 rfl ?_
    refine X_iload_n F dX9_gathers_31 rfl ?_
    refine X_aload_n F dX9_gathers_32 rfl ?_
    refine X_geti (v := (r2.2 0 11)) F ffRX9_118 dX9_gathers_33 rfl ?_
    refine X_icmp_ge (tgt := 43) F dX9_gathers_36 (by decide) (fun q5 => ?_) (fun q5 => ?_)
    · rw [if_pos q5] at h
      refine X_aload_n F dX9_gathers_43 rfl ?_
      refine X_iload_n F dX9_gathers_44 rfl ?_
      refine X_iload_n F dX9_gathers_45 rfl ?_
      refine X_aload_n F dX9_gathers_46 rfl ?_
      refine X_geti (v := (r2.2 0 11)) F ffRX9_118 dX9_gathers_47 rfl ?_
      refine X_isub F dX9_gathers_50 ?_
      obtain ⟨r6, h7, h⟩ := bndS h
      refine X_callV (ci := 0) (As := [.int x1, .int (x1 - (r2.2 0 11))]) (rest := [.int x1, .ref 11]) F fkRX9_129 feX9_mindsOf fvX9_mindsOf ⟨_, _, _, rfl, rfl, rfl⟩ (F9_mindsOf_met (D := D - 1) F.2.2.2.2.2.2.2.1 (by omega) h7) rfl rfl (Nat.le_of_ble_eq_true rfl) (rm_ok (by omega) (by decide)) dX9_gathers_51 ?_
      show XJ shB p l e (rmX D) s m args below meth c 0 0 G 2 (MQ below (QcX shB G ((none, r.2) : Option Value × Mem).1 ((none, r.2) : Option Value × Mem).2) args s 0 0 (AW shB G.2.1)) 54 [(0, .ref 0), (1, .int x1)] [.int r6.1, .int x1, .ref 11] r6.2
      exact F9_gathers_j54_ok F hr hlk hD hrec7 h
    · rw [if_neg q5] at h
      refine X_iconst F dX9_gathers_39 (v := (0 : Int32)) rfl ?_
      refine X_goto (tgt := 54) F dX9_gathers_40 (by decide) ?_
      exact F9_gathers_j54_ok F hr hlk hD hrec7 h
set_option maxRecDepth 20000 in
theorem F9_gathers_l7_ok {p : Program} {l : Launch} {e : Env} {s : State} {m : MethodId} {args : Array Value} {below : List Frame} {meth : Method} {c : Code} {G : GG} {D : Nat} {r : Int32 × Mem} (F : FrP shB G p s m args c RX9 cX9_gathers 2) (hr : meth.sig.returnType = none) (hlk : meth.locks = false) (hD : 90 ≤ D) : ∀ (fu : Nat) (M : Mem) (x1 : Int32), F9_gathers_l7 fu M x1 = some r → XJ shB p l e (rmX D) s m args below meth c 0 0 G 2 (MQ below (QcX shB G ((none, r.2) : Option Value × Mem).1 ((none, r.2) : Option Value × Mem).2) args s 0 0 (AW shB G.2.1)) 7 [(0, .ref 0), (1, .int x1)] [] M := by
  intro fu
  induction fu with
  | zero => intro M x1 h; cases h
  | succ fu ih => intro M x1 h; exact F9_gathers_l7_bok F hr hlk hD (fun M x1 => ih M x1) h
set_option maxRecDepth 20000 in
theorem F9_gathers_ok {p : Program} {l : Launch} {e : Env} {s : State} {m : MethodId} {args : Array Value} {below : List Frame} {meth : Method} {c : Code} {G : GG} {D : Nat} {r : Int32 × Mem} (F : FrP shB G p s m args c RX9 cX9_gathers 2) (hr : meth.sig.returnType = none) (hlk : meth.locks = false) (hD : 90 ≤ D) {M : Mem} (h : F9_gathers M = some r) : XJ shB p l e (rmX D) s m args below meth c 0 0 G 2 (MQ below (QcX shB G ((none, r.2) : Option Value × Mem).1 ((none, r.2) : Option Value × Mem).2) args s 0 0 (AW shB G.2.1)) 0 [(0, .ref 0)] [] M := by
  unfold F9_gathers at h
  refine X_aload_n F dX9_gathers_0 rfl ?_
  refine X_iconst F dX9_gathers_1 (v := (0 : Int32)) rfl ?_
  refine X_puti F ffRX9_266 fw9_35 (by decide) dX9_gathers_2 ?_
  refine X_iconst F dX9_gathers_5 (v := (0 : Int32)) rfl ?_
  refine X_istore_n F dX9_gathers_6 (by decide) rfl ?_
  refine X_pick [1, 0] rfl ?_
  exact F9_gathers_l7_ok F hr hlk hD FUEL _ _ h
set_option maxRecDepth 20000 in
theorem F9_gathers_met {l : Launch} {G : GG} {D : Nat} {r : Int32 × Mem} {M : Mem} (hI : Inj shB G.2.1) (hD : 90 ≤ D) (h : F9_gathers M = some r) : MetX shB l G yX9_gathers cX9_gathers 2 none D [.ref 0] M (none, r.2) :=
  X_met hI (by decide +kernel) (Nat.le_of_ble_eq_true rfl) (fun p e s m args below meth c F hr hlk => F9_gathers_ok F hr hlk hD h)
-- KeepOurPlaceModel.turn
def F9_turn (M : Mem) : Option (Int32 × Mem) :=
    Option.bind (F9_gathers M) fun r1 =>
    some ((r1.2 0 35), r1.2)
set_option maxRecDepth 20000 in
theorem F9_turn_ok {p : Program} {l : Launch} {e : Env} {s : State} {m : MethodId} {args : Array Value} {below : List Frame} {meth : Method} {c : Code} {G : GG} {D : Nat} {r : Int32 × Mem} (F : FrP shB G p s m args c RX9 cX9_turn 1) (hr : meth.sig.returnType = (some .int)) (hlk : meth.locks = false) (hD : 91 ≤ D) {M : Mem} (h : F9_turn M = some r) : XJ shB p l e (rmX D) s m args below meth c 0 0 G 1 (MQ below (QcX shB G ((some (.int r.1), r.2) : Option Value × Mem).1 ((some (.int r.1), r.2) : Option Value × Mem).2) args s 0 0 (AW shB G.2.1)) 0 [(0, .ref 0)] [] M := by
  unfold F9_turn at h
  refine X_aload_n F dX9_turn_0 rfl ?_
  obtain ⟨r1, h2, h⟩ := bndS h
  refine X_callV (ci := 0) (As := []) (rest := []) F fkRX9_272 feX9_gathers fvX9_gathers ⟨_, _, _, rfl, rfl, rfl⟩ (F9_gathers_met (D := D - 1) F.2.2.2.2.2.2.2.1 (by omega) h2) rfl rfl (Nat.le_of_ble_eq_true rfl) (rm_ok (by omega) (by decide)) dX9_turn_1 ?_
  show XJ shB p l e (rmX D) s m args below meth c 0 0 G 1 (MQ below (QcX shB G ((some (.int r.1), r.2) : Option Value × Mem).1 ((some (.int r.1), r.2) : Option Value × Mem).2) args s 0 0 (AW shB G.2.1)) 4 [(0, .ref 0)] [] r1.2
  refine X_aload_n F dX9_turn_4 rfl ?_
  refine X_geti (v := (r1.2 0 35)) F ffRX9_266 dX9_turn_5 rfl ?_
  exact X_iret F hr hlk (retI h) dX9_turn_8
set_option maxRecDepth 20000 in
theorem F9_turn_met {l : Launch} {G : GG} {D : Nat} {r : Int32 × Mem} {M : Mem} (hI : Inj shB G.2.1) (hD : 91 ≤ D) (h : F9_turn M = some r) : MetX shB l G yX9_turn cX9_turn 1 (some .int) D [.ref 0] M (some (.int r.1), r.2) :=
  X_met hI (by decide +kernel) (Nat.le_of_ble_eq_true rfl) (fun p e s m args below meth c F hr hlk => F9_turn_ok F hr hlk hD h)
-- KeepOurPlaceModel.isSheet
def F9_isSheet (M : Mem) (a0 : Int32) : Option (Int32 × Mem) :=
    Option.bind (F9_in M (Int32.toInt64 a0) (0 : Int64) (3 : Int64)) fun r1 =>
    if z01 r1.1 = true then
    some (r1.1, r1.2)
    else none
set_option maxRecDepth 20000 in
theorem F9_isSheet_ok {p : Program} {l : Launch} {e : Env} {s : State} {m : MethodId} {args : Array Value} {below : List Frame} {meth : Method} {c : Code} {G : GG} {D : Nat} {r : Int32 × Mem} (F : FrP shB G p s m args c RX9 cX9_isSheet 1) (hr : meth.sig.returnType = (some .boolean)) (hlk : meth.locks = false) (hD : 2 ≤ D) {M : Mem} {a0 : Int32} (h : F9_isSheet M a0 = some r) : XJ shB p l e (rmX D) s m args below meth c 0 0 G 1 (MQ below (QcX shB G ((some (.int r.1), r.2) : Option Value × Mem).1 ((some (.int r.1), r.2) : Option Value × Mem).2) args s 0 0 (AW shB G.2.1)) 0 [(0, .int a0)] [] M := by
  unfold F9_isSheet at h
  refine X_iload_n F dX9_isSheet_0 rfl ?_
  refine X_i2l F dX9_isSheet_1 ?_
  refine X_lconst F dX9_isSheet_2 (v := (0 : Int64)) rfl ?_
  refine X_ldc2 F fcRX9_123 dX9_isSheet_3 ?_
  obtain ⟨r1, h2, h⟩ := bndS h
  refine X_callS (As := [.long (Int32.toInt64 a0), .long (0 : Int64), .long (3 : Int64)]) (rest := []) F fsRX9_88 feX9_in ftX9_in (F9_in_met (D := D - 1) F.2.2.2.2.2.2.2.1 (by omega) h2) rfl rfl (Nat.le_of_ble_eq_true rfl) (rm_ok (by omega) (by decide)) dX9_isSheet_6 ?_
  show XJ shB p l e (rmX D) s m args below meth c 0 0 G 1 (MQ below (QcX shB G ((some (.int r.1), r.2) : Option Value × Mem).1 ((some (.int r.1), r.2) : Option Value × Mem).2) args s 0 0 (AW shB G.2.1)) 9 [(0, .int a0)] [.int r1.1] r1.2
  obtain ⟨q3, h⟩ := ifS h
  exact X_zret F hr hlk (z01N q3) (retI h) dX9_isSheet_9
set_option maxRecDepth 20000 in
theorem F9_isSheet_met {l : Launch} {G : GG} {D : Nat} {r : Int32 × Mem} {M : Mem} {a0 : Int32} (hI : Inj shB G.2.1) (hD : 2 ≤ D) (h : F9_isSheet M a0 = some r) : MetX shB l G yX9_isSheet cX9_isSheet 1 (some .boolean) D [.int a0] M (some (.int r.1), r.2) :=
  X_met hI (by decide +kernel) (Nat.le_of_ble_eq_true rfl) (fun p e s m args below meth c F hr hlk => F9_isSheet_ok F hr hlk hD h)
-- KeepOurPlaceModel.lays
def F9_lays_l13_b (rec13 : Mem → Int32 → Int32 → Int32 → Int32 → Option (Int32 × Mem)) (M : Mem) (x1 : Int32) (x2 : Int32) (x3 : Int32) (x4 : Int32) : Option (Int32 × Mem) :=
    if x2 ≤ x4 then
      some ((1 : Int32), (up2 M 0 38 x2))
    else
      if inb (((40 : Int32) * x1) + x4) 160 = true then
      Option.bind (F9_isThing M (M 20 (Int32.toNatClampNeg (((40 : Int32) * x1) + x4)))) fun r4 =>
      if r4.1 = 0 then
        some ((0 : Int32), r4.2)
      else
        if ¬ ((x3 >>> ((M 20 (Int32.toNatClampNeg (((40 : Int32) * x1) + x4))) &&& 31)) &&& (1 : Int32)) = (1 : Int32) then
          if inb x4 6 = true then
          rec13 (up2 r4.2 13 (Int32.toNatClampNeg x4) (M 20 (Int32.toNatClampNeg (((40 : Int32) * x1) + x4)))) x1 x2 (x3 ||| ((1 : Int32) <<< ((M 20 (Int32.toNatClampNeg (((40 : Int32) * x1) + x4))) &&& 31))) (x4 + (1 : Int32))
          else none
        else
          some ((0 : Int32), r4.2)
      else none
def F9_lays_l13 : Nat → Mem → Int32 → Int32 → Int32 → Int32 → Option (Int32 × Mem)
  | 0, _, _, _, _, _ => none
  | fu + 1, M, x1, x2, x3, x4 => F9_lays_l13_b (F9_lays_l13 fu) M x1 x2 x3 x4
def F9_lays (M : Mem) (a1 : Int32) (a2 : Int32) : Option (Int32 × Mem) :=
    if a2 ≤ (6 : Int32) then
      F9_lays_l13 FUEL M a1 a2 (0 : Int32) (0 : Int32)
    else
      some ((0 : Int32), M)
set_option maxRecDepth 20000 in
theorem F9_lays_l13_bok {p : Program} {l : Launch} {e : Env} {s : State} {m : MethodId} {args : Array Value} {below : List Frame} {meth : Method} {c : Code} {G : GG} {D : Nat} {r : Int32 × Mem} {rec13 : Mem → Int32 → Int32 → Int32 → Int32 → Option (Int32 × Mem)} (F : FrP shB G p s m args c RX9 cX9_lays 6) (hr : meth.sig.returnType = (some .boolean)) (hlk : meth.locks = false) (hD : 3 ≤ D) (hrec13 : ∀ (M : Mem) (x1 : Int32) (x2 : Int32) (x3 : Int32) (x4 : Int32), rec13 M x1 x2 x3 x4 = some r → XJ shB p l e (rmX D) s m args below meth c 0 0 G 6 (MQ below (QcX shB G ((some (.int r.1), r.2) : Option Value × Mem).1 ((some (.int r.1), r.2) : Option Value × Mem).2) args s 0 0 (AW shB G.2.1)) 13 [(0, .ref 0), (1, .int x1), (2, .int x2), (3, .int x3), (4, .int x4)] [] M) {M : Mem} {x1 : Int32} {x2 : Int32} {x3 : Int32} {x4 : Int32} (h : F9_lays_l13_b rec13 M x1 x2 x3 x4 = some r) : XJ shB p l e (rmX D) s m args below meth c 0 0 G 6 (MQ below (QcX shB G ((some (.int r.1), r.2) : Option Value × Mem).1 ((some (.int r.1), r.2) : Option Value × Mem).2) args s 0 0 (AW shB G.2.1)) 13 [(0, .ref 0), (1, .int x1), (2, .int x2), (3, .int x3), (4, .int x4)] [] M := by
  unfold F9_lays_l13_b at h
  refine X_iload F dX9_lays_13 rfl ?_
  refine X_iload_n F dX9_lays_15 rfl ?_
  refine X_icmp_ge (tgt := 76) F dX9_lays_16 (by decide) (fun q2 => ?_) (fun q2 => ?_)
  · rw [if_pos q2] at h
    refine X_aload_n F dX9_lays_76 rfl ?_
    refine X_iload_n F dX9_lays_77 rfl ?_
    refine X_puti F ffRX9_275 fw9_38 (by decide) dX9_lays_78 ?_
    refine X_iconst F dX9_lays_81 (v := (1 : Int32)) rfl ?_
    exact X_zret F hr hlk rfl (retI h) dX9_lays_82
  · rw [if_neg q2] at h
    refine X_aload_n F dX9_lays_19 rfl ?_
    refine X_getr F ffRX9_75 dX9_lays_20 ?_
    refine X_bipush F dX9_lays_23 (v := (40 : Int32)) rfl ?_
    refine X_iload_n F dX9_lays_25 rfl ?_
    refine X_imul F dX9_lays_26 ?_
    refine X_iload F dX9_lays_27 rfl ?_
    refine X_iadd F dX9_lays_29 ?_
    obtain ⟨q3, h⟩ := ifS h
    refine X_iald (j := (Int32.toNatClampNeg (((40 : Int32) * x1) + x4))) (v := (M 20 (Int32.toNatClampNeg (((40 : Int32) * x1) + x4)))) F rfl (inbV q3) rfl rfl dX9_lays_30 ?_
    refine X_istore F dX9_lays_31 (by decide) rfl ?_
    refine X_aload_n F dX9_lays_33 rfl ?_
    refine X_iload F dX9_lays_34 rfl ?_
    obtain ⟨r4, h5, h⟩ := bndS h
    refine X_callV (ci := 0) (As := [.int (M 20 (Int32.toNatClampNeg (((40 : Int32) * x1) + x4)))]) (rest := []) F fkRX9_109 feX9_isThing fvX9_isThing ⟨_, _, _, rfl, rfl, rfl⟩ (F9_isThing_met (D := D - 1) F.2.2.2.2.2.2.2.1 (by omega) h5) rfl rfl (Nat.le_of_ble_eq_true rfl) (rm_ok (by omega) (by decide)) dX9_lays_36 ?_
    show XJ shB p l e (rmX D) s m args below meth c 0 0 G 6 (MQ below (QcX shB G ((some (.int r.1), r.2) : Option Value × Mem).1 ((some (.int r.1), r.2) : Option Value × Mem).2) args s 0 0 (AW shB G.2.1)) 39 [(5, .int (M 20 (Int32.toNatClampNeg (((40 : Int32) * x1) + x4)))), (0, .ref 0), (1, .int x1), (2, .int x2), (3, .int x3), (4, .int x4)] [.int r4.1] r4.2
    refine X_if_eq (tgt := 52) F dX9_lays_39 (by decide) (fun q6 => ?_) (fun q6 => ?_)
    · rw [if_pos q6] at h
      refine X_iconst F dX9_lays_52 (v := (0 : Int32)) rfl ?_
      exact X_zret F hr hlk rfl (retI h) dX9_lays_53
    · rw [if_neg q6] at h
      refine X_iload_n F dX9_lays_42 rfl ?_
      refine X_iload F dX9_lays_43 rfl ?_
      refine X_ishr F dX9_lays_45 ?_
      refine X_iconst F dX9_lays_46 (v := (1 : Int32)) rfl ?_
      refine X_iand F dX9_lays_47 ?_
      refine X_iconst F dX9_lays_48 (v := (1 : Int32)) rfl ?_
      refine X_icmp_ne (tgt := 54) F dX9_lays_49 (by decide) (fun q7 => ?_) (fun q7 => ?_)
      · rw [if_pos q7] at h
        refine X_iload_n F dX9_lays_54 rfl ?_
        refine X_iconst F dX9_lays_55 (v := (1 : Int32)) rfl ?_
        refine X_iload F dX9_lays_56 rfl ?_
        refine X_ishl F dX9_lays_58 ?_
        refine X_ior F dX9_lays_59 ?_
        refine X_istore_n F dX9_lays_60 (by decide) rfl ?_
        refine X_aload_n F dX9_lays_61 rfl ?_
        refine X_getr F ffRX9_50 dX9_lays_62 ?_
        refine X_iload F dX9_lays_65 rfl ?_
        refine X_iload F dX9_lays_67 rfl ?_
        obtain ⟨q8, h⟩ := ifS h
        refine X_iast (j := (Int32.toNatClampNeg x4)) F rfl (inbV q8) rfl dX9_lays_69 ?_
        refine X_iinc F dX9_lays_70 rfl (v := (1 : Int32)) rfl (by decide) rfl ?_
        refine X_goto (tgt := 13) F dX9_lays_73 (by decide) ?_
        refine X_pick [3, 4, 5, 1, 0] rfl ?_
        exact hrec13 _ _ _ _ _ h
      · rw [if_neg (fun z => z q7)] at h
        refine X_iconst F dX9_lays_52 (v := (0 : Int32)) rfl ?_
        exact X_zret F hr hlk rfl (retI h) dX9_lays_53
set_option maxRecDepth 20000 in
theorem F9_lays_l13_ok {p : Program} {l : Launch} {e : Env} {s : State} {m : MethodId} {args : Array Value} {below : List Frame} {meth : Method} {c : Code} {G : GG} {D : Nat} {r : Int32 × Mem} (F : FrP shB G p s m args c RX9 cX9_lays 6) (hr : meth.sig.returnType = (some .boolean)) (hlk : meth.locks = false) (hD : 3 ≤ D) : ∀ (fu : Nat) (M : Mem) (x1 : Int32) (x2 : Int32) (x3 : Int32) (x4 : Int32), F9_lays_l13 fu M x1 x2 x3 x4 = some r → XJ shB p l e (rmX D) s m args below meth c 0 0 G 6 (MQ below (QcX shB G ((some (.int r.1), r.2) : Option Value × Mem).1 ((some (.int r.1), r.2) : Option Value × Mem).2) args s 0 0 (AW shB G.2.1)) 13 [(0, .ref 0), (1, .int x1), (2, .int x2), (3, .int x3), (4, .int x4)] [] M := by
  intro fu
  induction fu with
  | zero => intro M x1 x2 x3 x4 h; cases h
  | succ fu ih => intro M x1 x2 x3 x4 h; exact F9_lays_l13_bok F hr hlk hD (fun M x1 x2 x3 x4 => ih M x1 x2 x3 x4) h
set_option maxRecDepth 20000 in
theorem F9_lays_ok {p : Program} {l : Launch} {e : Env} {s : State} {m : MethodId} {args : Array Value} {below : List Frame} {meth : Method} {c : Code} {G : GG} {D : Nat} {r : Int32 × Mem} (F : FrP shB G p s m args c RX9 cX9_lays 6) (hr : meth.sig.returnType = (some .boolean)) (hlk : meth.locks = false) (hD : 3 ≤ D) {M : Mem} {a1 : Int32} {a2 : Int32} (h : F9_lays M a1 a2 = some r) : XJ shB p l e (rmX D) s m args below meth c 0 0 G 6 (MQ below (QcX shB G ((some (.int r.1), r.2) : Option Value × Mem).1 ((some (.int r.1), r.2) : Option Value × Mem).2) args s 0 0 (AW shB G.2.1)) 0 [(0, .ref 0), (1, .int a1), (2, .int a2)] [] M := by
  unfold F9_lays at h
  refine X_iconst F dX9_lays_0 (v := (0 : Int32)) rfl ?_
  refine X_istore_n F dX9_lays_1 (by decide) rfl ?_
  refine X_iload_n F dX9_lays_2 rfl ?_
  refine X_bipush F dX9_lays_3 (v := (6 : Int32)) rfl ?_
  refine X_icmp_le (tgt := 10) F dX9_lays_5 (by decide) (fun q1 => ?_) (fun q1 => ?_)
  · rw [if_pos q1] at h
    refine X_iconst F dX9_lays_10 (v := (0 : Int32)) rfl ?_
    refine X_istore F dX9_lays_11 (by decide) rfl ?_
    refine X_pick [2, 3, 4, 1, 0] rfl ?_
    exact F9_lays_l13_ok F hr hlk hD FUEL _ _ _ _ _ h
  · rw [if_neg q1] at h
    refine X_iconst F dX9_lays_8 (v := (0 : Int32)) rfl ?_
    exact X_zret F hr hlk rfl (retI h) dX9_lays_9
set_option maxRecDepth 20000 in
theorem F9_lays_met {l : Launch} {G : GG} {D : Nat} {r : Int32 × Mem} {M : Mem} {a1 : Int32} {a2 : Int32} (hI : Inj shB G.2.1) (hD : 3 ≤ D) (h : F9_lays M a1 a2 = some r) : MetX shB l G yX9_lays cX9_lays 6 (some .boolean) D [.ref 0, .int a1, .int a2] M (some (.int r.1), r.2) :=
  X_met hI (by decide +kernel) (Nat.le_of_ble_eq_true rfl) (fun p e s m args below meth c F hr hlk => F9_lays_ok F hr hlk hD h)
-- KeepOurPlaceModel.steps
def F9_steps_j30 (M : Mem) (x3 : Int32) (y0 : Int32) : Option (Int32 × Mem) :=
    if 0 ≤ x3 then
      some ((y0 + x3), M)
    else
      some ((y0 + (-x3)), M)
def F9_steps (M : Mem) (a0 : Int32) (a1 : Int32) : Option (Int32 × Mem) :=
    if 0 ≤ ((jrem a0 (10 : Int32)) - (jrem a1 (10 : Int32))) then
      F9_steps_j30 M ((a0 / (10 : Int32)) - (a1 / (10 : Int32))) ((jrem a0 (10 : Int32)) - (jrem a1 (10 : Int32)))
    else
      F9_steps_j30 M ((a0 / (10 : Int32)) - (a1 / (10 : Int32))) (-((jrem a0 (10 : Int32)) - (jrem a1 (10 : Int32))))
set_option maxRecDepth 20000 in
theorem F9_steps_j30_ok {p : Program} {l : Launch} {e : Env} {s : State} {m : MethodId} {args : Array Value} {below : List Frame} {meth : Method} {c : Code} {G : GG} {D : Nat} {r : Int32 × Mem} (F : FrP shB G p s m args c RX9 cX9_steps 4) (hr : meth.sig.returnType = (some .int)) (hlk : meth.locks = false) (hD : 1 ≤ D) {M : Mem} {x3 : Int32} {y0 : Int32} (h : F9_steps_j30 M x3 y0 = some r) : XJ shB p l e (rmX D) s m args below meth c 0 0 G 4 (MQ below (QcX shB G ((some (.int r.1), r.2) : Option Value × Mem).1 ((some (.int r.1), r.2) : Option Value × Mem).2) args s 0 0 (AW shB G.2.1)) 30 [(3, .int x3)] [.int y0] M := by
  unfold F9_steps_j30 at h
  refine X_iload_n F dX9_steps_30 rfl ?_
  refine X_if_ge (tgt := 39) F dX9_steps_31 (by decide) (fun q2 => ?_) (fun q2 => ?_)
  · rw [if_pos q2] at h
    refine X_iload_n F dX9_steps_39 rfl ?_
    refine X_iadd F dX9_steps_40 ?_
    exact X_iret F hr hlk (retI h) dX9_steps_41
  · rw [if_neg q2] at h
    refine X_iload_n F dX9_steps_34 rfl ?_
    refine X_ineg F dX9_steps_35 ?_
    refine X_goto (tgt := 40) F dX9_steps_36 (by decide) ?_
    refine X_iadd F dX9_steps_40 ?_
    exact X_iret F hr hlk (retI h) dX9_steps_41
set_option maxRecDepth 20000 in
theorem F9_steps_ok {p : Program} {l : Launch} {e : Env} {s : State} {m : MethodId} {args : Array Value} {below : List Frame} {meth : Method} {c : Code} {G : GG} {D : Nat} {r : Int32 × Mem} (F : FrP shB G p s m args c RX9 cX9_steps 4) (hr : meth.sig.returnType = (some .int)) (hlk : meth.locks = false) (hD : 1 ≤ D) {M : Mem} {a0 : Int32} {a1 : Int32} (h : F9_steps M a0 a1 = some r) : XJ shB p l e (rmX D) s m args below meth c 0 0 G 4 (MQ below (QcX shB G ((some (.int r.1), r.2) : Option Value × Mem).1 ((some (.int r.1), r.2) : Option Value × Mem).2) args s 0 0 (AW shB G.2.1)) 0 [(0, .int a0), (1, .int a1)] [] M := by
  unfold F9_steps at h
  refine X_iload_n F dX9_steps_0 rfl ?_
  refine X_bipush F dX9_steps_1 (v := (10 : Int32)) rfl ?_
  refine X_irem F dX9_steps_3 (by decide) ?_
  refine X_iload_n F dX9_steps_4 rfl ?_
  refine X_bipush F dX9_steps_5 (v := (10 : Int32)) rfl ?_
  refine X_irem F dX9_steps_7 (by decide) ?_
  refine X_isub F dX9_steps_8 ?_
  refine X_istore_n F dX9_steps_9 (by decide) rfl ?_
  refine X_iload_n F dX9_steps_10 rfl ?_
  refine X_bipush F dX9_steps_11 (v := (10 : Int32)) rfl ?_
  refine X_idiv F dX9_steps_13 (by decide) ?_
  refine X_iload_n F dX9_steps_14 rfl ?_
  refine X_bipush F dX9_steps_15 (v := (10 : Int32)) rfl ?_
  refine X_idiv F dX9_steps_17 (by decide) ?_
  refine X_isub F dX9_steps_18 ?_
  refine X_istore_n F dX9_steps_19 (by decide) rfl ?_
  refine X_iload_n F dX9_steps_20 rfl ?_
  refine X_if_ge (tgt := 29) F dX9_steps_21 (by decide) (fun q1 => ?_) (fun q1 => ?_)
  · rw [if_pos q1] at h
    refine X_iload_n F dX9_steps_29 rfl ?_
    refine X_pick [0] rfl ?_
    exact F9_steps_j30_ok F hr hlk hD h
  · rw [if_neg q1] at h
    refine X_iload_n F dX9_steps_24 rfl ?_
    refine X_ineg F dX9_steps_25 ?_
    refine X_goto (tgt := 30) F dX9_steps_26 (by decide) ?_
    refine X_pick [0] rfl ?_
    exact F9_steps_j30_ok F hr hlk hD h
set_option maxRecDepth 20000 in
theorem F9_steps_met {l : Launch} {G : GG} {D : Nat} {r : Int32 × Mem} {M : Mem} {a0 : Int32} {a1 : Int32} (hI : Inj shB G.2.1) (hD : 1 ≤ D) (h : F9_steps M a0 a1 = some r) : MetX shB l G yX9_steps cX9_steps 4 (some .int) D [.int a0, .int a1] M (some (.int r.1), r.2) :=
  X_met hI (by decide +kernel) (Nat.le_of_ble_eq_true rfl) (fun p e s m args below meth c F hr hlk => F9_steps_ok F hr hlk hD h)
-- KeepOurPlaceModel.backOf
def F9_backOf_l6_b (rec6 : Mem → Int32 → Int32 → Int32 → Option (Int32 × Mem)) (M : Mem) (x1 : Int32) (x2 : Int32) (x3 : Int32) : Option (Int32 × Mem) :=
    if (M 0 38) ≤ x3 then
      Option.bind (F9_steps M x1 (0 : Int32)) fun r2 =>
      if inb (r2.2 0 38) 7 = true then
      some ((x2 + (r2.1 * (r2.2 12 (Int32.toNatClampNeg (r2.2 0 38))))), r2.2)
      else none
    else
      if inb x3 6 = true then
      if inb (M 13 (Int32.toNatClampNeg x3)) 6 = true then
      Option.bind (F9_steps M x1 (M 7 (Int32.toNatClampNeg (M 13 (Int32.toNatClampNeg x3))))) fun r7 =>
      if inb x3 7 = true then
      if inb (r7.2 13 (Int32.toNatClampNeg x3)) 6 = true then
      rec6 r7.2 (r7.2 7 (Int32.toNatClampNeg (r7.2 13 (Int32.toNatClampNeg x3)))) (x2 + (r7.1 * (r7.2 12 (Int32.toNatClampNeg x3)))) (x3 + (1 : Int32))
      else none
      else none
      else none
      else none
def F9_backOf_l6 : Nat → Mem → Int32 → Int32 → Int32 → Option (Int32 × Mem)
  | 0, _, _, _, _ => none
  | fu + 1, M, x1, x2, x3 => F9_backOf_l6_b (F9_backOf_l6 fu) M x1 x2 x3
def F9_backOf (M : Mem) : Option (Int32 × Mem) :=
    F9_backOf_l6 FUEL M (0 : Int32) (0 : Int32) (0 : Int32)
set_option maxRecDepth 20000 in
theorem F9_backOf_l6_bok {p : Program} {l : Launch} {e : Env} {s : State} {m : MethodId} {args : Array Value} {below : List Frame} {meth : Method} {c : Code} {G : GG} {D : Nat} {r : Int32 × Mem} {rec6 : Mem → Int32 → Int32 → Int32 → Option (Int32 × Mem)} (F : FrP shB G p s m args c RX9 cX9_backOf 4) (hr : meth.sig.returnType = (some .int)) (hlk : meth.locks = false) (hD : 2 ≤ D) (hrec6 : ∀ (M : Mem) (x1 : Int32) (x2 : Int32) (x3 : Int32), rec6 M x1 x2 x3 = some r → XJ shB p l e (rmX D) s m args below meth c 0 0 G 4 (MQ below (QcX shB G ((some (.int r.1), r.2) : Option Value × Mem).1 ((some (.int r.1), r.2) : Option Value × Mem).2) args s 0 0 (AW shB G.2.1)) 6 [(0, .ref 0), (1, .int x1), (2, .int x2), (3, .int x3)] [] M) {M : Mem} {x1 : Int32} {x2 : Int32} {x3 : Int32} (h : F9_backOf_l6_b rec6 M x1 x2 x3 = some r) : XJ shB p l e (rmX D) s m args below meth c 0 0 G 4 (MQ below (QcX shB G ((some (.int r.1), r.2) : Option Value × Mem).1 ((some (.int r.1), r.2) : Option Value × Mem).2) args s 0 0 (AW shB G.2.1)) 6 [(0, .ref 0), (1, .int x1), (2, .int x2), (3, .int x3)] [] M := by
  unfold F9_backOf_l6_b at h
  refine X_iload_n F dX9_backOf_6 rfl ?_
  refine X_aload_n F dX9_backOf_7 rfl ?_
  refine X_geti (v := (M 0 38)) F ffRX9_275 dX9_backOf_8 rfl ?_
  refine X_icmp_ge (tgt := 57) F dX9_backOf_11 (by decide) (fun q1 => ?_) (fun q1 => ?_)
  · rw [if_pos q1] at h
    refine X_iload_n F dX9_backOf_57 rfl ?_
    refine X_iload_n F dX9_backOf_58 rfl ?_
    refine X_iconst F dX9_backOf_59 (v := (0 : Int32)) rfl ?_
    obtain ⟨r2, h3, h⟩ := bndS h
    refine X_callS (As := [.int x1, .int (0 : Int32)]) (rest := [.int x2]) F fsRX9_278 feX9_steps ftX9_steps (F9_steps_met (D := D - 1) F.2.2.2.2.2.2.2.1 (by omega) h3) rfl rfl (Nat.le_of_ble_eq_true rfl) (rm_ok (by omega) (by decide)) dX9_backOf_60 ?_
    show XJ shB p l e (rmX D) s m args below meth c 0 0 G 4 (MQ below (QcX shB G ((some (.int r.1), r.2) : Option Value × Mem).1 ((some (.int r.1), r.2) : Option Value × Mem).2) args s 0 0 (AW shB G.2.1)) 63 [(0, .ref 0), (1, .int x1), (2, .int x2), (3, .int x3)] [.int r2.1, .int x2] r2.2
    refine X_aload_n F dX9_backOf_63 rfl ?_
    refine X_getr F ffRX9_47 dX9_backOf_64 ?_
    refine X_aload_n F dX9_backOf_67 rfl ?_
    refine X_geti (v := (r2.2 0 38)) F ffRX9_275 dX9_backOf_68 rfl ?_
    obtain ⟨q4, h⟩ := ifS h
    refine X_iald (j := (Int32.toNatClampNeg (r2.2 0 38))) (v := (r2.2 12 (Int32.toNatClampNeg (r2.2 0 38)))) F rfl (inbV q4) rfl rfl dX9_backOf_71 ?_
    refine X_imul F dX9_backOf_72 ?_
    refine X_iadd F dX9_backOf_73 ?_
    exact X_iret F hr hlk (retI h) dX9_backOf_74
  · rw [if_neg q1] at h
    refine X_iload_n F dX9_backOf_14 rfl ?_
    refine X_iload_n F dX9_backOf_15 rfl ?_
    refine X_aload_n F dX9_backOf_16 rfl ?_
    refine X_getr F ffRX9_32 dX9_backOf_17 ?_
    refine X_aload_n F dX9_backOf_20 rfl ?_
    refine X_getr F ffRX9_50 dX9_backOf_21 ?_
    refine X_iload_n F dX9_backOf_24 rfl ?_
    obtain ⟨q5, h⟩ := ifS h
    refine X_iald (j := (Int32.toNatClampNeg x3)) (v := (M 13 (Int32.toNatClampNeg x3))) F rfl (inbV q5) rfl rfl dX9_backOf_25 ?_
    obtain ⟨q6, h⟩ := ifS h
    refine X_iald (j := (Int32.toNatClampNeg (M 13 (Int32.toNatClampNeg x3)))) (v := (M 7 (Int32.toNatClampNeg (M 13 (Int32.toNatClampNeg x3))))) F rfl (inbV q6) rfl rfl dX9_backOf_26 ?_
    obtain ⟨r7, h8, h⟩ := bndS h
    refine X_callS (As := [.int x1, .int (M 7 (Int32.toNatClampNeg (M 13 (Int32.toNatClampNeg x3))))]) (rest := [.int x2]) F fsRX9_278 feX9_steps ftX9_steps (F9_steps_met (D := D - 1) F.2.2.2.2.2.2.2.1 (by omega) h8) rfl rfl (Nat.le_of_ble_eq_true rfl) (rm_ok (by omega) (by decide)) dX9_backOf_27 ?_
    show XJ shB p l e (rmX D) s m args below meth c 0 0 G 4 (MQ below (QcX shB G ((some (.int r.1), r.2) : Option Value × Mem).1 ((some (.int r.1), r.2) : Option Value × Mem).2) args s 0 0 (AW shB G.2.1)) 30 [(0, .ref 0), (1, .int x1), (2, .int x2), (3, .int x3)] [.int r7.1, .int x2] r7.2
    refine X_aload_n F dX9_backOf_30 rfl ?_
    refine X_getr F ffRX9_47 dX9_backOf_31 ?_
    refine X_iload_n F dX9_backOf_34 rfl ?_
    obtain ⟨q9, h⟩ := ifS h
    refine X_iald (j := (Int32.toNatClampNeg x3)) (v := (r7.2 12 (Int32.toNatClampNeg x3))) F rfl (inbV q9) rfl rfl dX9_backOf_35 ?_
    refine X_imul F dX9_backOf_36 ?_
    refine X_iadd F dX9_backOf_37 ?_
    refine X_istore_n F dX9_backOf_38 (by decide) rfl ?_
    refine X_aload_n F dX9_backOf_39 rfl ?_
    refine X_getr F ffRX9_32 dX9_backOf_40 ?_
    refine X_aload_n F dX9_backOf_43 rfl ?_
    refine X_getr F ffRX9_50 dX9_backOf_44 ?_
    refine X_iload_n F dX9_backOf_47 rfl ?_
    refine X_iald (j := (Int32.toNatClampNeg x3)) (v := (r7.2 13 (Int32.toNatClampNeg x3))) F rfl (inbV q5) rfl rfl dX9_backOf_48 ?_
    obtain ⟨q10, h⟩ := ifS h
    refine X_iald (j := (Int32.toNatClampNeg (r7.2 13 (Int32.toNatClampNeg x3)))) (v := (r7.2 7 (Int32.toNatClampNeg (r7.2 13 (Int32.toNatClampNeg x3))))) F rfl (inbV q10) rfl rfl dX9_backOf_49 ?_
    refine X_istore_n F dX9_backOf_50 (by decide) rfl ?_
    refine X_iinc F dX9_backOf_51 rfl (v := (1 : Int32)) rfl (by decide) rfl ?_
    refine X_goto (tgt := 6) F dX9_backOf_54 (by decide) ?_
    refine X_pick [3, 1, 2, 0] rfl ?_
    exact hrec6 _ _ _ _ h
set_option maxRecDepth 20000 in
theorem F9_backOf_l6_ok {p : Program} {l : Launch} {e : Env} {s : State} {m : MethodId} {args : Array Value} {below : List Frame} {meth : Method} {c : Code} {G : GG} {D : Nat} {r : Int32 × Mem} (F : FrP shB G p s m args c RX9 cX9_backOf 4) (hr : meth.sig.returnType = (some .int)) (hlk : meth.locks = false) (hD : 2 ≤ D) : ∀ (fu : Nat) (M : Mem) (x1 : Int32) (x2 : Int32) (x3 : Int32), F9_backOf_l6 fu M x1 x2 x3 = some r → XJ shB p l e (rmX D) s m args below meth c 0 0 G 4 (MQ below (QcX shB G ((some (.int r.1), r.2) : Option Value × Mem).1 ((some (.int r.1), r.2) : Option Value × Mem).2) args s 0 0 (AW shB G.2.1)) 6 [(0, .ref 0), (1, .int x1), (2, .int x2), (3, .int x3)] [] M := by
  intro fu
  induction fu with
  | zero => intro M x1 x2 x3 h; cases h
  | succ fu ih => intro M x1 x2 x3 h; exact F9_backOf_l6_bok F hr hlk hD (fun M x1 x2 x3 => ih M x1 x2 x3) h
set_option maxRecDepth 20000 in
theorem F9_backOf_ok {p : Program} {l : Launch} {e : Env} {s : State} {m : MethodId} {args : Array Value} {below : List Frame} {meth : Method} {c : Code} {G : GG} {D : Nat} {r : Int32 × Mem} (F : FrP shB G p s m args c RX9 cX9_backOf 4) (hr : meth.sig.returnType = (some .int)) (hlk : meth.locks = false) (hD : 2 ≤ D) {M : Mem} (h : F9_backOf M = some r) : XJ shB p l e (rmX D) s m args below meth c 0 0 G 4 (MQ below (QcX shB G ((some (.int r.1), r.2) : Option Value × Mem).1 ((some (.int r.1), r.2) : Option Value × Mem).2) args s 0 0 (AW shB G.2.1)) 0 [(0, .ref 0)] [] M := by
  unfold F9_backOf at h
  refine X_iconst F dX9_backOf_0 (v := (0 : Int32)) rfl ?_
  refine X_istore_n F dX9_backOf_1 (by decide) rfl ?_
  refine X_iconst F dX9_backOf_2 (v := (0 : Int32)) rfl ?_
  refine X_istore_n F dX9_backOf_3 (by decide) rfl ?_
  refine X_iconst F dX9_backOf_4 (v := (0 : Int32)) rfl ?_
  refine X_istore_n F dX9_backOf_5 (by decide) rfl ?_
  refine X_pick [3, 2, 1, 0] rfl ?_
  exact F9_backOf_l6_ok F hr hlk hD FUEL _ _ _ _ h
set_option maxRecDepth 20000 in
theorem F9_backOf_met {l : Launch} {G : GG} {D : Nat} {r : Int32 × Mem} {M : Mem} (hI : Inj shB G.2.1) (hD : 2 ≤ D) (h : F9_backOf M = some r) : MetX shB l G yX9_backOf cX9_backOf 4 (some .int) D [.ref 0] M (some (.int r.1), r.2) :=
  X_met hI (by decide +kernel) (Nat.le_of_ble_eq_true rfl) (fun p e s m args below meth c F hr hlk => F9_backOf_ok F hr hlk hD h)
-- KeepOurPlaceModel.worthOf
def F9_worthOf_l4_b (rec4 : Mem → Int32 → Int32 → Option (Int32 × Mem)) (M : Mem) (x1 : Int32) (x2 : Int32) : Option (Int32 × Mem) :=
    if (M 0 38) ≤ x2 then
      some (x1, M)
    else
      if inb x2 6 = true then
      if inb (M 13 (Int32.toNatClampNeg x2)) 6 = true then
      rec4 M (x1 + (M 8 (Int32.toNatClampNeg (M 13 (Int32.toNatClampNeg x2))))) (x2 + (1 : Int32))
      else none
      else none
def F9_worthOf_l4 : Nat → Mem → Int32 → Int32 → Option (Int32 × Mem)
  | 0, _, _, _ => none
  | fu + 1, M, x1, x2 => F9_worthOf_l4_b (F9_worthOf_l4 fu) M x1 x2
def F9_worthOf (M : Mem) : Option (Int32 × Mem) :=
    F9_worthOf_l4 FUEL M (0 : Int32) (0 : Int32)
set_option maxRecDepth 20000 in
theorem F9_worthOf_l4_bok {p : Program} {l : Launch} {e : Env} {s : State} {m : MethodId} {args : Array Value} {below : List Frame} {meth : Method} {c : Code} {G : GG} {D : Nat} {r : Int32 × Mem} {rec4 : Mem → Int32 → Int32 → Option (Int32 × Mem)} (F : FrP shB G p s m args c RX9 cX9_worthOf 3) (hr : meth.sig.returnType = (some .int)) (hlk : meth.locks = false) (hD : 1 ≤ D) (hrec4 : ∀ (M : Mem) (x1 : Int32) (x2 : Int32), rec4 M x1 x2 = some r → XJ shB p l e (rmX D) s m args below meth c 0 0 G 3 (MQ below (QcX shB G ((some (.int r.1), r.2) : Option Value × Mem).1 ((some (.int r.1), r.2) : Option Value × Mem).2) args s 0 0 (AW shB G.2.1)) 4 [(0, .ref 0), (1, .int x1), (2, .int x2)] [] M) {M : Mem} {x1 : Int32} {x2 : Int32} (h : F9_worthOf_l4_b rec4 M x1 x2 = some r) : XJ shB p l e (rmX D) s m args below meth c 0 0 G 3 (MQ below (QcX shB G ((some (.int r.1), r.2) : Option Value × Mem).1 ((some (.int r.1), r.2) : Option Value × Mem).2) args s 0 0 (AW shB G.2.1)) 4 [(0, .ref 0), (1, .int x1), (2, .int x2)] [] M := by
  unfold F9_worthOf_l4_b at h
  refine X_iload_n F dX9_worthOf_4 rfl ?_
  refine X_aload_n F dX9_worthOf_5 rfl ?_
  refine X_geti (v := (M 0 38)) F ffRX9_275 dX9_worthOf_6 rfl ?_
  refine X_icmp_ge (tgt := 32) F dX9_worthOf_9 (by decide) (fun q1 => ?_) (fun q1 => ?_)
  · rw [if_pos q1] at h
    refine X_iload_n F dX9_worthOf_32 rfl ?_
    exact X_iret F hr hlk (retI h) dX9_worthOf_33
  · rw [if_neg q1] at h
    refine X_iload_n F dX9_worthOf_12 rfl ?_
    refine X_aload_n F dX9_worthOf_13 rfl ?_
    refine X_getr F ffRX9_35 dX9_worthOf_14 ?_
    refine X_aload_n F dX9_worthOf_17 rfl ?_
    refine X_getr F ffRX9_50 dX9_worthOf_18 ?_
    refine X_iload_n F dX9_worthOf_21 rfl ?_
    obtain ⟨q2, h⟩ := ifS h
    refine X_iald (j := (Int32.toNatClampNeg x2)) (v := (M 13 (Int32.toNatClampNeg x2))) F rfl (inbV q2) rfl rfl dX9_worthOf_22 ?_
    obtain ⟨q3, h⟩ := ifS h
    refine X_iald (j := (Int32.toNatClampNeg (M 13 (Int32.toNatClampNeg x2)))) (v := (M 8 (Int32.toNatClampNeg (M 13 (Int32.toNatClampNeg x2))))) F rfl (inbV q3) rfl rfl dX9_worthOf_23 ?_
    refine X_iadd F dX9_worthOf_24 ?_
    refine X_istore_n F dX9_worthOf_25 (by decide) rfl ?_
    refine X_iinc F dX9_worthOf_26 rfl (v := (1 : Int32)) rfl (by decide) rfl ?_
    refine X_goto (tgt := 4) F dX9_worthOf_29 (by decide) ?_
    refine X_pick [2, 1, 0] rfl ?_
    exact hrec4 _ _ _ h
set_option maxRecDepth 20000 in
theorem F9_worthOf_l4_ok {p : Program} {l : Launch} {e : Env} {s : State} {m : MethodId} {args : Array Value} {below : List Frame} {meth : Method} {c : Code} {G : GG} {D : Nat} {r : Int32 × Mem} (F : FrP shB G p s m args c RX9 cX9_worthOf 3) (hr : meth.sig.returnType = (some .int)) (hlk : meth.locks = false) (hD : 1 ≤ D) : ∀ (fu : Nat) (M : Mem) (x1 : Int32) (x2 : Int32), F9_worthOf_l4 fu M x1 x2 = some r → XJ shB p l e (rmX D) s m args below meth c 0 0 G 3 (MQ below (QcX shB G ((some (.int r.1), r.2) : Option Value × Mem).1 ((some (.int r.1), r.2) : Option Value × Mem).2) args s 0 0 (AW shB G.2.1)) 4 [(0, .ref 0), (1, .int x1), (2, .int x2)] [] M := by
  intro fu
  induction fu with
  | zero => intro M x1 x2 h; cases h
  | succ fu ih => intro M x1 x2 h; exact F9_worthOf_l4_bok F hr hlk hD (fun M x1 x2 => ih M x1 x2) h
set_option maxRecDepth 20000 in
theorem F9_worthOf_ok {p : Program} {l : Launch} {e : Env} {s : State} {m : MethodId} {args : Array Value} {below : List Frame} {meth : Method} {c : Code} {G : GG} {D : Nat} {r : Int32 × Mem} (F : FrP shB G p s m args c RX9 cX9_worthOf 3) (hr : meth.sig.returnType = (some .int)) (hlk : meth.locks = false) (hD : 1 ≤ D) {M : Mem} (h : F9_worthOf M = some r) : XJ shB p l e (rmX D) s m args below meth c 0 0 G 3 (MQ below (QcX shB G ((some (.int r.1), r.2) : Option Value × Mem).1 ((some (.int r.1), r.2) : Option Value × Mem).2) args s 0 0 (AW shB G.2.1)) 0 [(0, .ref 0)] [] M := by
  unfold F9_worthOf at h
  refine X_iconst F dX9_worthOf_0 (v := (0 : Int32)) rfl ?_
  refine X_istore_n F dX9_worthOf_1 (by decide) rfl ?_
  refine X_iconst F dX9_worthOf_2 (v := (0 : Int32)) rfl ?_
  refine X_istore_n F dX9_worthOf_3 (by decide) rfl ?_
  refine X_pick [2, 1, 0] rfl ?_
  exact F9_worthOf_l4_ok F hr hlk hD FUEL _ _ _ h
set_option maxRecDepth 20000 in
theorem F9_worthOf_met {l : Launch} {G : GG} {D : Nat} {r : Int32 × Mem} {M : Mem} (hI : Inj shB G.2.1) (hD : 1 ≤ D) (h : F9_worthOf M = some r) : MetX shB l G yX9_worthOf cX9_worthOf 3 (some .int) D [.ref 0] M (some (.int r.1), r.2) :=
  X_met hI (by decide +kernel) (Nat.le_of_ble_eq_true rfl) (fun p e s m args below meth c F hr hlk => F9_worthOf_ok F hr hlk hD h)
-- KeepOurPlaceModel.gainOf
def F9_gainOf_j83 (M : Mem) (x1 : Int32) (x3 : Int32) (x4 : Int32) : Option (Int32 × Mem) :=
    if x1 ≤ x3 then
      some (x4, M)
    else
      some ((x4 - (x1 - x3)), M)
def F9_gainOf_l13_b (rec13 : Mem → Int32 → Int32 → Int32 → Option (Int32 × Mem)) (M : Mem) (x1 : Int32) (x3 : Int32) (x4 : Int32) : Option (Int32 × Mem) :=
    if x1 ≤ x3 then
      F9_gainOf_j83 M x1 x3 x4
    else
      if (M 0 10) ≤ ((M 0 11) + (M 0 36)) then
        F9_gainOf_j83 M x1 x3 x4
      else
        if inb ((M 0 11) + (M 0 36)) 8 = true then
        rec13 (up2 M 0 36 ((M 0 36) + (1 : Int32))) x1 (x3 + (M 10 (Int32.toNatClampNeg ((M 0 11) + (M 0 36))))) (x4 - (M 11 (Int32.toNatClampNeg ((M 0 11) + (M 0 36)))))
        else none
def F9_gainOf_l13 : Nat → Mem → Int32 → Int32 → Int32 → Option (Int32 × Mem)
  | 0, _, _, _, _ => none
  | fu + 1, M, x1, x3, x4 => F9_gainOf_l13_b (F9_gainOf_l13 fu) M x1 x3 x4
def F9_gainOf (M : Mem) (a1 : Int32) (a2 : Int32) : Option (Int32 × Mem) :=
    F9_gainOf_l13 FUEL (up2 M 0 36 (0 : Int32)) a1 (M 0 35) a2
set_option maxRecDepth 20000 in
theorem F9_gainOf_j83_ok {p : Program} {l : Launch} {e : Env} {s : State} {m : MethodId} {args : Array Value} {below : List Frame} {meth : Method} {c : Code} {G : GG} {D : Nat} {r : Int32 × Mem} (F : FrP shB G p s m args c RX9 cX9_gainOf 5) (hr : meth.sig.returnType = (some .int)) (hlk : meth.locks = false) (hD : 1 ≤ D) {M : Mem} {x1 : Int32} {x3 : Int32} {x4 : Int32} (h : F9_gainOf_j83 M x1 x3 x4 = some r) : XJ shB p l e (rmX D) s m args below meth c 0 0 G 5 (MQ below (QcX shB G ((some (.int r.1), r.2) : Option Value × Mem).1 ((some (.int r.1), r.2) : Option Value × Mem).2) args s 0 0 (AW shB G.2.1)) 83 [(1, .int x1), (3, .int x3), (4, .int x4)] [] M := by
  unfold F9_gainOf_j83 at h
  refine X_iload_n F dX9_gainOf_83 rfl ?_
  refine X_iload_n F dX9_gainOf_84 rfl ?_
  refine X_icmp_le (tgt := 97) F dX9_gainOf_85 (by decide) (fun q4 => ?_) (fun q4 => ?_)
  · rw [if_pos q4] at h
    refine X_iload F dX9_gainOf_97 rfl ?_
    exact X_iret F hr hlk (retI h) dX9_gainOf_99
  · rw [if_neg q4] at h
    refine X_iload F dX9_gainOf_88 rfl ?_
    refine X_iload_n F dX9_gainOf_90 rfl ?_
    refine X_iload_n F dX9_gainOf_91 rfl ?_
    refine X_isub F dX9_gainOf_92 ?_
    refine X_isub F dX9_gainOf_93 ?_
    refine X_goto (tgt := 99) F dX9_gainOf_94 (by decide) ?_
    exact X_iret F hr hlk (retI h) dX9_gainOf_99
set_option maxRecDepth 20000 in
theorem F9_gainOf_l13_bok {p : Program} {l : Launch} {e : Env} {s : State} {m : MethodId} {args : Array Value} {below : List Frame} {meth : Method} {c : Code} {G : GG} {D : Nat} {r : Int32 × Mem} {rec13 : Mem → Int32 → Int32 → Int32 → Option (Int32 × Mem)} (F : FrP shB G p s m args c RX9 cX9_gainOf 5) (hr : meth.sig.returnType = (some .int)) (hlk : meth.locks = false) (hD : 1 ≤ D) (hrec13 : ∀ (M : Mem) (x1 : Int32) (x3 : Int32) (x4 : Int32), rec13 M x1 x3 x4 = some r → XJ shB p l e (rmX D) s m args below meth c 0 0 G 5 (MQ below (QcX shB G ((some (.int r.1), r.2) : Option Value × Mem).1 ((some (.int r.1), r.2) : Option Value × Mem).2) args s 0 0 (AW shB G.2.1)) 13 [(0, .ref 0), (1, .int x1), (3, .int x3), (4, .int x4)] [] M) {M : Mem} {x1 : Int32} {x3 : Int32} {x4 : Int32} (h : F9_gainOf_l13_b rec13 M x1 x3 x4 = some r) : XJ shB p l e (rmX D) s m args below meth c 0 0 G 5 (MQ below (QcX shB G ((some (.int r.1), r.2) : Option Value × Mem).1 ((some (.int r.1), r.2) : Option Value × Mem).2) args s 0 0 (AW shB G.2.1)) 13 [(0, .ref 0), (1, .int x1), (3, .int x3), (4, .int x4)] [] M := by
  unfold F9_gainOf_l13_b at h
  refine X_iload_n F dX9_gainOf_13 rfl ?_
  refine X_iload_n F dX9_gainOf_14 rfl ?_
  refine X_icmp_le (tgt := 83) F dX9_gainOf_15 (by decide) (fun q1 => ?_) (fun q1 => ?_)
  · rw [if_pos q1] at h
    refine X_pick [1, 2, 3] rfl ?_
    exact F9_gainOf_j83_ok F hr hlk hD h
  · rw [if_neg q1] at h
    refine X_aload_n F dX9_gainOf_18 rfl ?_
    refine X_geti (v := (M 0 11)) F ffRX9_118 dX9_gainOf_19 rfl ?_
    refine X_aload_n F dX9_gainOf_22 rfl ?_
    refine X_geti (v := (M 0 36)) F ffRX9_269 dX9_gainOf_23 rfl ?_
    refine X_iadd F dX9_gainOf_26 ?_
    refine X_aload_n F dX9_gainOf_27 rfl ?_
    refine X_geti (v := (M 0 10)) F ffRX9_85 dX9_gainOf_28 rfl ?_
    refine X_icmp_ge (tgt := 83) F dX9_gainOf_31 (by decide) (fun q2 => ?_) (fun q2 => ?_)
    · rw [if_pos q2] at h
      refine X_pick [1, 2, 3] rfl ?_
      exact F9_gainOf_j83_ok F hr hlk hD h
    · rw [if_neg q2] at h
      refine X_iload_n F dX9_gainOf_34 rfl ?_
      refine X_aload_n F dX9_gainOf_35 rfl ?_
      refine X_getr F ffRX9_41 dX9_gainOf_36 ?_
      refine X_aload_n F dX9_gainOf_39 rfl ?_
      refine X_geti (v := (M 0 11)) F ffRX9_118 dX9_gainOf_40 rfl ?_
      refine X_aload_n F dX9_gainOf_43 rfl ?_
      refine X_geti (v := (M 0 36)) F ffRX9_269 dX9_gainOf_44 rfl ?_
      refine X_iadd F dX9_gainOf_47 ?_
      obtain ⟨q3, h⟩ := ifS h
      refine X_iald (j := (Int32.toNatClampNeg ((M 0 11) + (M 0 36)))) (v := (M 10 (Int32.toNatClampNeg ((M 0 11) + (M 0 36))))) F rfl (inbV q3) rfl rfl dX9_gainOf_48 ?_
      refine X_iadd F dX9_gainOf_49 ?_
      refine X_istore_n F dX9_gainOf_50 (by decide) rfl ?_
      refine X_iload F dX9_gainOf_51 rfl ?_
      refine X_aload_n F dX9_gainOf_53 rfl ?_
      refine X_getr F ffRX9_44 dX9_gainOf_54 ?_
      refine X_aload_n F dX9_gainOf_57 rfl ?_
      refine X_geti (v := (M 0 11)) F ffRX9_118 dX9_gainOf_58 rfl ?_
      refine X_aload_n F dX9_gainOf_61 rfl ?_
      refine X_geti (v := (M 0 36)) F ffRX9_269 dX9_gainOf_62 rfl ?_
      refine X_iadd F dX9_gainOf_65 ?_
      refine X_iald (j := (Int32.toNatClampNeg ((M 0 11) + (M 0 36)))) (v := (M 11 (Int32.toNatClampNeg ((M 0 11) + (M 0 36))))) F rfl (inbV q3) rfl rfl dX9_gainOf_66 ?_
      refine X_isub F dX9_gainOf_67 ?_
      refine X_istore F dX9_gainOf_68 (by decide) rfl ?_
      refine X_aload_n F dX9_gainOf_70 rfl ?_
      refine X_dup F dX9_gainOf_71 rfl ?_
      refine X_geti (v := (M 0 36)) F ffRX9_269 dX9_gainOf_72 rfl ?_
      refine X_iconst F dX9_gainOf_75 (v := (1 : Int32)) rfl ?_
      refine X_iadd F dX9_gainOf_76 ?_
      refine X_puti F ffRX9_269 fw9_36 (by decide) dX9_gainOf_77 ?_
      refine X_goto (tgt := 13) F dX9_gainOf_80 (by decide) ?_
      refine X_pick [2, 3, 1, 0] rfl ?_
      exact hrec13 _ _ _ _ h
set_option maxRecDepth 20000 in
theorem F9_gainOf_l13_ok {p : Program} {l : Launch} {e : Env} {s : State} {m : MethodId} {args : Array Value} {below : List Frame} {meth : Method} {c : Code} {G : GG} {D : Nat} {r : Int32 × Mem} (F : FrP shB G p s m args c RX9 cX9_gainOf 5) (hr : meth.sig.returnType = (some .int)) (hlk : meth.locks = false) (hD : 1 ≤ D) : ∀ (fu : Nat) (M : Mem) (x1 : Int32) (x3 : Int32) (x4 : Int32), F9_gainOf_l13 fu M x1 x3 x4 = some r → XJ shB p l e (rmX D) s m args below meth c 0 0 G 5 (MQ below (QcX shB G ((some (.int r.1), r.2) : Option Value × Mem).1 ((some (.int r.1), r.2) : Option Value × Mem).2) args s 0 0 (AW shB G.2.1)) 13 [(0, .ref 0), (1, .int x1), (3, .int x3), (4, .int x4)] [] M := by
  intro fu
  induction fu with
  | zero => intro M x1 x3 x4 h; cases h
  | succ fu ih => intro M x1 x3 x4 h; exact F9_gainOf_l13_bok F hr hlk hD (fun M x1 x3 x4 => ih M x1 x3 x4) h
set_option maxRecDepth 20000 in
theorem F9_gainOf_ok {p : Program} {l : Launch} {e : Env} {s : State} {m : MethodId} {args : Array Value} {below : List Frame} {meth : Method} {c : Code} {G : GG} {D : Nat} {r : Int32 × Mem} (F : FrP shB G p s m args c RX9 cX9_gainOf 5) (hr : meth.sig.returnType = (some .int)) (hlk : meth.locks = false) (hD : 1 ≤ D) {M : Mem} {a1 : Int32} {a2 : Int32} (h : F9_gainOf M a1 a2 = some r) : XJ shB p l e (rmX D) s m args below meth c 0 0 G 5 (MQ below (QcX shB G ((some (.int r.1), r.2) : Option Value × Mem).1 ((some (.int r.1), r.2) : Option Value × Mem).2) args s 0 0 (AW shB G.2.1)) 0 [(0, .ref 0), (1, .int a1), (2, .int a2)] [] M := by
  unfold F9_gainOf at h
  refine X_aload_n F dX9_gainOf_0 rfl ?_
  refine X_geti (v := (M 0 35)) F ffRX9_266 dX9_gainOf_1 rfl ?_
  refine X_istore_n F dX9_gainOf_4 (by decide) rfl ?_
  refine X_iload_n F dX9_gainOf_5 rfl ?_
  refine X_istore F dX9_gainOf_6 (by decide) rfl ?_
  refine X_aload_n F dX9_gainOf_8 rfl ?_
  refine X_iconst F dX9_gainOf_9 (v := (0 : Int32)) rfl ?_
  refine X_puti F ffRX9_269 fw9_36 (by decide) dX9_gainOf_10 ?_
  refine X_pick [2, 3, 1, 0] rfl ?_
  exact F9_gainOf_l13_ok F hr hlk hD FUEL _ _ _ _ h
set_option maxRecDepth 20000 in
theorem F9_gainOf_met {l : Launch} {G : GG} {D : Nat} {r : Int32 × Mem} {M : Mem} {a1 : Int32} {a2 : Int32} (hI : Inj shB G.2.1) (hD : 1 ≤ D) (h : F9_gainOf M a1 a2 = some r) : MetX shB l G yX9_gainOf cX9_gainOf 5 (some .int) D [.ref 0, .int a1, .int a2] M (some (.int r.1), r.2) :=
  X_met hI (by decide +kernel) (Nat.le_of_ble_eq_true rfl) (fun p e s m args below meth c F hr hlk => F9_gainOf_ok F hr hlk hD h)
-- KeepOurPlaceModel.errand
def F9_errand (M : Mem) (a1 : Int32) (a2 : Int32) : Option (Int32 × Mem) :=
    Option.bind (F9_isSheet M a1) fun r1 =>
    if r1.1 = 0 then
      some ((-100000 : Int32), r1.2)
    else
      Option.bind (F9_in r1.2 (Int32.toInt64 a2) (0 : Int64) (3 : Int64)) fun r4 =>
      if r4.1 = 0 then
        some ((-100000 : Int32), r4.2)
      else
        if inb a1 4 = true then
        if (r4.2 17 (Int32.toNatClampNeg a1)) = 0 then
          some ((-100000 : Int32), r4.2)
        else
          Option.bind (F9_lays r4.2 a1 (r4.2 19 (Int32.toNatClampNeg a1))) fun r9 =>
          if ¬ r9.1 = 0 then
            Option.bind (F9_gathers r9.2) fun r12 =>
            Option.bind (F9_backOf r12.2) fun r14 =>
            Option.bind (F9_worthOf r14.2) fun r16 =>
            Option.bind (F9_gainOf r16.2 r14.1 r16.1) fun r18 =>
            if ¬ a2 = 0 then
              if ¬ a2 = (1 : Int32) then
                if ¬ a2 = (2 : Int32) then
                  Option.bind (F9_worthOf r18.2) fun r23 =>
                  some (r23.1, r23.2)
                else
                  some (r18.1, r18.2)
              else
                some ((r18.2 0 36), r18.2)
            else
              some (r14.1, r18.2)
          else
            some ((-100000 : Int32), r9.2)
        else none
set_option maxRecDepth 20000 in
theorem F9_errand_ok {p : Program} {l : Launch} {e : Env} {s : State} {m : MethodId} {args : Array Value} {below : List Frame} {meth : Method} {c : Code} {G : GG} {D : Nat} {r : Int32 × Mem} (F : FrP shB G p s m args c RX9 cX9_errand 5) (hr : meth.sig.returnType = (some .int)) (hlk : meth.locks = false) (hD : 91 ≤ D) {M : Mem} {a1 : Int32} {a2 : Int32} (h : F9_errand M a1 a2 = some r) : XJ shB p l e (rmX D) s m args below meth c 0 0 G 5 (MQ below (QcX shB G ((some (.int r.1), r.2) : Option Value × Mem).1 ((some (.int r.1), r.2) : Option Value × Mem).2) args s 0 0 (AW shB G.2.1)) 0 [(0, .ref 0), (1, .int a1), (2, .int a2)] [] M := by
  unfold F9_errand at h
  refine X_iload_n F dX9_errand_0 rfl ?_
  obtain ⟨r1, h2, h⟩ := bndS h
  refine X_callS (As := [.int a1]) (rest := []) F fsRX9_281 feX9_isSheet ftX9_isSheet (F9_isSheet_met (D := D - 1) F.2.2.2.2.2.2.2.1 (by omega) h2) rfl rfl (Nat.le_of_ble_eq_true rfl) (rm_ok (by omega) (by decide)) dX9_errand_1 ?_
  show XJ shB p l e (rmX D) s m args below meth c 0 0 G 5 (MQ below (QcX shB G ((some (.int r.1), r.2) : Option Value × Mem).1 ((some (.int r.1), r.2) : Option Value × Mem).2) args s 0 0 (AW shB G.2.1)) 4 [(0, .ref 0), (1, .int a1), (2, .int a2)] [.int r1.1] r1.2
  refine X_if_eq (tgt := 42) F dX9_errand_4 (by decide) (fun q3 => ?_) (fun q3 => ?_)
  · rw [if_pos q3] at h
    refine X_ldcw F fcRX9_287 dX9_errand_42 ?_
    exact X_iret F hr hlk (retI h) dX9_errand_45
  · rw [if_neg q3] at h
    refine X_iload_n F dX9_errand_7 rfl ?_
    refine X_i2l F dX9_errand_8 ?_
    refine X_lconst F dX9_errand_9 (v := (0 : Int64)) rfl ?_
    refine X_ldc2 F fcRX9_123 dX9_errand_10 ?_
    obtain ⟨r4, h5, h⟩ := bndS h
    refine X_callS (As := [.long (Int32.toInt64 a2), .long (0 : Int64), .long (3 : Int64)]) (rest := []) F fsRX9_88 feX9_in ftX9_in (F9_in_met (D := D - 1) F.2.2.2.2.2.2.2.1 (by omega) h5) rfl rfl (Nat.le_of_ble_eq_true rfl) (rm_ok (by omega) (by decide)) dX9_errand_13 ?_
    show XJ shB p l e (rmX D) s m args below meth c 0 0 G 5 (MQ below (QcX shB G ((some (.int r.1), r.2) : Option Value × Mem).1 ((some (.int r.1), r.2) : Option Value × Mem).2) args s 0 0 (AW shB G.2.1)) 16 [(0, .ref 0), (1, .int a1), (2, .int a2)] [.int r4.1] r4.2
    refine X_if_eq (tgt := 42) F dX9_errand_16 (by decide) (fun q6 => ?_) (fun q6 => ?_)
    · rw [if_pos q6] at h
      refine X_ldcw F fcRX9_287 dX9_errand_42 ?_
      exact X_iret F hr hlk (retI h) dX9_errand_45
    · rw [if_neg q6] at h
      refine X_aload_n F dX9_errand_19 rfl ?_
      refine X_getr F ffRX9_65 dX9_errand_20 ?_
      refine X_iload_n F dX9_errand_23 rfl ?_
      obtain ⟨q7, h⟩ := ifS h
      refine X_zald (j := (Int32.toNatClampNeg a1)) (v := (r4.2 17 (Int32.toNatClampNeg a1))) F rfl (inbV q7) rfl rfl dX9_errand_24 ?_
      refine X_if_eq (tgt := 42) F dX9_errand_25 (by decide) (fun q8 => ?_) (fun q8 => ?_)
      · rw [if_pos q8] at h
        refine X_ldcw F fcRX9_287 dX9_errand_42 ?_
        exact X_iret F hr hlk (retI h) dX9_errand_45
      · rw [if_neg q8] at h
        refine X_aload_n F dX9_errand_28 rfl ?_
        refine X_iload_n F dX9_errand_29 rfl ?_
        refine X_aload_n F dX9_errand_30 rfl ?_
        refine X_getr F ffRX9_72 dX9_errand_31 ?_
        refine X_iload_n F dX9_errand_34 rfl ?_
        refine X_iald (j := (Int32.toNatClampNeg a1)) (v := (r4.2 19 (Int32.toNatClampNeg a1))) F rfl (inbV q7) rfl rfl dX9_errand_35 ?_
        obtain ⟨r9, h10, h⟩ := bndS h
        refine X_callV (ci := 0) (As := [.int a1, .int (r4.2 19 (Int32.toNatClampNeg a1))]) (rest := []) F fkRX9_284 feX9_lays fvX9_lays ⟨_, _, _, rfl, rfl, rfl⟩ (F9_lays_met (D := D - 1) F.2.2.2.2.2.2.2.1 (by omega) h10) rfl rfl (Nat.le_of_ble_eq_true rfl) (rm_ok (by omega) (by decide)) dX9_errand_36 ?_
        show XJ shB p l e (rmX D) s m args below meth c 0 0 G 5 (MQ below (QcX shB G ((some (.int r.1), r.2) : Option Value × Mem).1 ((some (.int r.1), r.2) : Option Value × Mem).2) args s 0 0 (AW shB G.2.1)) 39 [(0, .ref 0), (1, .int a1), (2, .int a2)] [.int r9.1] r9.2
        refine X_if_ne (tgt := 46) F dX9_errand_39 (by decide) (fun q11 => ?_) (fun q11 => ?_)
        · rw [if_pos q11] at h
          refine X_aload_n F dX9_errand_46 rfl ?_
          obtain ⟨r12, h13, h⟩ := bndS h
          refine X_callV (ci := 0) (As := []) (rest := []) F fkRX9_272 feX9_gathers fvX9_gathers ⟨_, _, _, rfl, rfl, rfl⟩ (F9_gathers_met (D := D - 1) F.2.2.2.2.2.2.2.1 (by omega) h13) rfl rfl (Nat.le_of_ble_eq_true rfl) (rm_ok (by omega) (by decide)) dX9_errand_47 ?_
          show XJ shB p l e (rmX D) s m args below meth c 0 0 G 5 (MQ below (QcX shB G ((some (.int r.1), r.2) : Option Value × Mem).1 ((some (.int r.1), r.2) : Option Value × Mem).2) args s 0 0 (AW shB G.2.1)) 50 [(0, .ref 0), (1, .int a1), (2, .int a2)] [] r12.2
          refine X_aload_n F dX9_errand_50 rfl ?_
          obtain ⟨r14, h15, h⟩ := bndS h
          refine X_callV (ci := 0) (As := []) (rest := []) F fkRX9_288 feX9_backOf fvX9_backOf ⟨_, _, _, rfl, rfl, rfl⟩ (F9_backOf_met (D := D - 1) F.2.2.2.2.2.2.2.1 (by omega) h15) rfl rfl (Nat.le_of_ble_eq_true rfl) (rm_ok (by omega) (by decide)) dX9_errand_51 ?_
          show XJ shB p l e (rmX D) s m args below meth c 0 0 G 5 (MQ below (QcX shB G ((some (.int r.1), r.2) : Option Value × Mem).1 ((some (.int r.1), r.2) : Option Value × Mem).2) args s 0 0 (AW shB G.2.1)) 54 [(0, .ref 0), (1, .int a1), (2, .int a2)] [.int r14.1] r14.2
          refine X_istore_n F dX9_errand_54 (by decide) rfl ?_
          refine X_aload_n F dX9_errand_55 rfl ?_
          refine X_iload_n F dX9_errand_56 rfl ?_
          refine X_aload_n F dX9_errand_57 rfl ?_
          obtain ⟨r16, h17, h⟩ := bndS h
          refine X_callV (ci := 0) (As := []) (rest := [.int r14.1, .ref 0]) F fkRX9_291 feX9_worthOf fvX9_worthOf ⟨_, _, _, rfl, rfl, rfl⟩ (F9_worthOf_met (D := D - 1) F.2.2.2.2.2.2.2.1 (by omega) h17) rfl rfl (Nat.le_of_ble_eq_true rfl) (rm_ok (by omega) (by decide)) dX9_errand_58 ?_
          show XJ shB p l e (rmX D) s m args below meth c 0 0 G 5 (MQ below (QcX shB G ((some (.int r.1), r.2) : Option Value × Mem).1 ((some (.int r.1), r.2) : Option Value × Mem).2) args s 0 0 (AW shB G.2.1)) 61 [(3, .int r14.1), (0, .ref 0), (1, .int a1), (2, .int a2)] [.int r16.1, .int r14.1, .ref 0] r16.2
          obtain ⟨r18, h19, h⟩ := bndS h
          refine X_callV (ci := 0) (As := [.int r14.1, .int r16.1]) (rest := []) F fkRX9_294 feX9_gainOf fvX9_gainOf ⟨_, _, _, rfl, rfl, rfl⟩ (F9_gainOf_met (D := D - 1) F.2.2.2.2.2.2.2.1 (by omega) h19) rfl rfl (Nat.le_of_ble_eq_true rfl) (rm_ok (by omega) (by decide)) dX9_errand_61 ?_
          show XJ shB p l e (rmX D) s m args below meth c 0 0 G 5 (MQ below (QcX shB G ((some (.int r.1), r.2) : Option Value × Mem).1 ((some (.int r.1), r.2) : Option Value × Mem).2) args s 0 0 (AW shB G.2.1)) 64 [(3, .int r14.1), (0, .ref 0), (1, .int a1), (2, .int a2)] [.int r18.1] r18.2
          refine X_istore F dX9_errand_64 (by decide) rfl ?_
          refine X_iload_n F dX9_errand_66 rfl ?_
          refine X_if_ne (tgt := 74) F dX9_errand_67 (by decide) (fun q20 => ?_) (fun q20 => ?_)
          · rw [if_pos q20] at h
            refine X_iload_n F dX9_errand_74 rfl ?_
            refine X_iconst F dX9_errand_75 (v := (1 : Int32)) rfl ?_
            refine X_icmp_ne (tgt := 86) F dX9_errand_76 (by decide) (fun q21 => ?_) (fun q21 => ?_)
            · rw [if_pos q21] at h
              refine X_iload_n F dX9_errand_86 rfl ?_
              refine X_iconst F dX9_errand_87 (v := (2 : Int32)) rfl ?_
              refine X_icmp_ne (tgt := 96) F dX9_errand_88 (by decide) (fun q22 => ?_) (fun q22 => ?_)
              · rw [if_pos q22] at h
                refine X_aload_n F dX9_errand_96 rfl ?_
                obtain ⟨r23, h24, h⟩ := bndS h
                refine X_callV (ci := 0) (As := []) (rest := []) F fkRX9_291 feX9_worthOf fvX9_worthOf ⟨_, _, _, rfl, rfl, rfl⟩ (F9_worthOf_met (D := D - 1) F.2.2.2.2.2.2.2.1 (by omega) h24) rfl rfl (Nat.le_of_ble_eq_true rfl) (rm_ok (by omega) (by decide)) dX9_errand_97 ?_
                show XJ shB p l e (rmX D) s m args below meth c 0 0 G 5 (MQ below (QcX shB G ((some (.int r.1), r.2) : Option Value × Mem).1 ((some (.int r.1), r.2) : Option Value × Mem).2) args s 0 0 (AW shB G.2.1)) 100 [(4, .int r18.1), (3, .int r14.1), (0, .ref 0), (1, .int a1), (2, .int a2)] [.int r23.1] r23.2
                exact X_iret F hr hlk (retI h) dX9_errand_100
              · rw [if_neg (fun z => z q22)] at h
                refine X_iload F dX9_errand_91 rfl ?_
                refine X_goto (tgt := 100) F dX9_errand_93 (by decide) ?_
                exact X_iret F hr hlk (retI h) dX9_errand_100
            · rw [if_neg (fun z => z q21)] at h
              refine X_aload_n F dX9_errand_79 rfl ?_
              refine X_geti (v := (r18.2 0 36)) F ffRX9_269 dX9_errand_80 rfl ?_
              refine X_goto (tgt := 100) F dX9_errand_83 (by decide) ?_
              exact X_iret F hr hlk (retI h) dX9_errand_100
          · rw [if_neg (fun z => z q20)] at h
            refine X_iload_n F dX9_errand_70 rfl ?_
            refine X_goto (tgt := 100) F dX9_errand_71 (by decide) ?_
            exact X_iret F hr hlk (retI h) dX9_errand_100
        · rw [if_neg (fun z => z q11)] at h
          refine X_ldcw F fcRX9_287 dX9_errand_42 ?_
          exact X_iret F hr hlk (retI h) dX9_errand_45
set_option maxRecDepth 20000 in
theorem F9_errand_met {l : Launch} {G : GG} {D : Nat} {r : Int32 × Mem} {M : Mem} {a1 : Int32} {a2 : Int32} (hI : Inj shB G.2.1) (hD : 91 ≤ D) (h : F9_errand M a1 a2 = some r) : MetX shB l G yX9_errand cX9_errand 5 (some .int) D [.ref 0, .int a1, .int a2] M (some (.int r.1), r.2) :=
  X_met hI (by decide +kernel) (Nat.le_of_ble_eq_true rfl) (fun p e s m args below meth c F hr hlk => F9_errand_ok F hr hlk hD h)
-- KeepOurPlaceModel.digitsOf
def F9_digitsOf_l4_b (rec4 : Mem → Int32 → Int32 → Option (Int32 × Mem)) (M : Mem) (x1 : Int32) (x2 : Int32) : Option (Int32 × Mem) :=
    if (M 0 38) ≤ x2 then
      some (x1, M)
    else
      if inb x2 6 = true then
      rec4 M ((((10 : Int32) * x1) + (M 13 (Int32.toNatClampNeg x2))) + (1 : Int32)) (x2 + (1 : Int32))
      else none
def F9_digitsOf_l4 : Nat → Mem → Int32 → Int32 → Option (Int32 × Mem)
  | 0, _, _, _ => none
  | fu + 1, M, x1, x2 => F9_digitsOf_l4_b (F9_digitsOf_l4 fu) M x1 x2
def F9_digitsOf (M : Mem) : Option (Int32 × Mem) :=
    F9_digitsOf_l4 FUEL M (0 : Int32) (0 : Int32)
set_option maxRecDepth 20000 in
theorem F9_digitsOf_l4_bok {p : Program} {l : Launch} {e : Env} {s : State} {m : MethodId} {args : Array Value} {below : List Frame} {meth : Method} {c : Code} {G : GG} {D : Nat} {r : Int32 × Mem} {rec4 : Mem → Int32 → Int32 → Option (Int32 × Mem)} (F : FrP shB G p s m args c RX9 cX9_digitsOf 3) (hr : meth.sig.returnType = (some .int)) (hlk : meth.locks = false) (hD : 1 ≤ D) (hrec4 : ∀ (M : Mem) (x1 : Int32) (x2 : Int32), rec4 M x1 x2 = some r → XJ shB p l e (rmX D) s m args below meth c 0 0 G 3 (MQ below (QcX shB G ((some (.int r.1), r.2) : Option Value × Mem).1 ((some (.int r.1), r.2) : Option Value × Mem).2) args s 0 0 (AW shB G.2.1)) 4 [(0, .ref 0), (1, .int x1), (2, .int x2)] [] M) {M : Mem} {x1 : Int32} {x2 : Int32} (h : F9_digitsOf_l4_b rec4 M x1 x2 = some r) : XJ shB p l e (rmX D) s m args below meth c 0 0 G 3 (MQ below (QcX shB G ((some (.int r.1), r.2) : Option Value × Mem).1 ((some (.int r.1), r.2) : Option Value × Mem).2) args s 0 0 (AW shB G.2.1)) 4 [(0, .ref 0), (1, .int x1), (2, .int x2)] [] M := by
  unfold F9_digitsOf_l4_b at h
  refine X_iload_n F dX9_digitsOf_4 rfl ?_
  refine X_aload_n F dX9_digitsOf_5 rfl ?_
  refine X_geti (v := (M 0 38)) F ffRX9_275 dX9_digitsOf_6 rfl ?_
  refine X_icmp_ge (tgt := 32) F dX9_digitsOf_9 (by decide) (fun q1 => ?_) (fun q1 => ?_)
  · rw [if_pos q1] at h
    refine X_iload_n F dX9_digitsOf_32 rfl ?_
    exact X_iret F hr hlk (retI h) dX9_digitsOf_33
  · rw [if_neg q1] at h
    refine X_bipush F dX9_digitsOf_12 (v := (10 : Int32)) rfl ?_
    refine X_iload_n F dX9_digitsOf_14 rfl ?_
    refine X_imul F dX9_digitsOf_15 ?_
    refine X_aload_n F dX9_digitsOf_16 rfl ?_
    refine X_getr F ffRX9_50 dX9_digitsOf_17 ?_
    refine X_iload_n F dX9_digitsOf_20 rfl ?_
    obtain ⟨q2, h⟩ := ifS h
    refine X_iald (j := (Int32.toNatClampNeg x2)) (v := (M 13 (Int32.toNatClampNeg x2))) F rfl (inbV q2) rfl rfl dX9_digitsOf_21 ?_
    refine X_iadd F dX9_digitsOf_22 ?_
    refine X_iconst F dX9_digitsOf_23 (v := (1 : Int32)) rfl ?_
    refine X_iadd F dX9_digitsOf_24 ?_
    refine X_istore_n F dX9_digitsOf_25 (by decide) rfl ?_
    refine X_iinc F dX9_digitsOf_26 rfl (v := (1 : Int32)) rfl (by decide) rfl ?_
    refine X_goto (tgt := 4) F dX9_digitsOf_29 (by decide) ?_
    refine X_pick [2, 1, 0] rfl ?_
    exact hrec4 _ _ _ h
set_option maxRecDepth 20000 in
theorem F9_digitsOf_l4_ok {p : Program} {l : Launch} {e : Env} {s : State} {m : MethodId} {args : Array Value} {below : List Frame} {meth : Method} {c : Code} {G : GG} {D : Nat} {r : Int32 × Mem} (F : FrP shB G p s m args c RX9 cX9_digitsOf 3) (hr : meth.sig.returnType = (some .int)) (hlk : meth.locks = false) (hD : 1 ≤ D) : ∀ (fu : Nat) (M : Mem) (x1 : Int32) (x2 : Int32), F9_digitsOf_l4 fu M x1 x2 = some r → XJ shB p l e (rmX D) s m args below meth c 0 0 G 3 (MQ below (QcX shB G ((some (.int r.1), r.2) : Option Value × Mem).1 ((some (.int r.1), r.2) : Option Value × Mem).2) args s 0 0 (AW shB G.2.1)) 4 [(0, .ref 0), (1, .int x1), (2, .int x2)] [] M := by
  intro fu
  induction fu with
  | zero => intro M x1 x2 h; cases h
  | succ fu ih => intro M x1 x2 h; exact F9_digitsOf_l4_bok F hr hlk hD (fun M x1 x2 => ih M x1 x2) h
set_option maxRecDepth 20000 in
theorem F9_digitsOf_ok {p : Program} {l : Launch} {e : Env} {s : State} {m : MethodId} {args : Array Value} {below : List Frame} {meth : Method} {c : Code} {G : GG} {D : Nat} {r : Int32 × Mem} (F : FrP shB G p s m args c RX9 cX9_digitsOf 3) (hr : meth.sig.returnType = (some .int)) (hlk : meth.locks = false) (hD : 1 ≤ D) {M : Mem} (h : F9_digitsOf M = some r) : XJ shB p l e (rmX D) s m args below meth c 0 0 G 3 (MQ below (QcX shB G ((some (.int r.1), r.2) : Option Value × Mem).1 ((some (.int r.1), r.2) : Option Value × Mem).2) args s 0 0 (AW shB G.2.1)) 0 [(0, .ref 0)] [] M := by
  unfold F9_digitsOf at h
  refine X_iconst F dX9_digitsOf_0 (v := (0 : Int32)) rfl ?_
  refine X_istore_n F dX9_digitsOf_1 (by decide) rfl ?_
  refine X_iconst F dX9_digitsOf_2 (v := (0 : Int32)) rfl ?_
  refine X_istore_n F dX9_digitsOf_3 (by decide) rfl ?_
  refine X_pick [2, 1, 0] rfl ?_
  exact F9_digitsOf_l4_ok F hr hlk hD FUEL _ _ _ h
set_option maxRecDepth 20000 in
theorem F9_digitsOf_met {l : Launch} {G : GG} {D : Nat} {r : Int32 × Mem} {M : Mem} (hI : Inj shB G.2.1) (hD : 1 ≤ D) (h : F9_digitsOf M = some r) : MetX shB l G yX9_digitsOf cX9_digitsOf 3 (some .int) D [.ref 0] M (some (.int r.1), r.2) :=
  X_met hI (by decide +kernel) (Nat.le_of_ble_eq_true rfl) (fun p e s m args below meth c F hr hlk => F9_digitsOf_ok F hr hlk hD h)
-- KeepOurPlaceModel.nearest
def F9_nearest_j183 (rec32 : Mem → Int32 → Int32 → Int32 → Int32 → Option (Int32 × Mem)) (M : Mem) (x1 : Int32) (x2 : Int32) (x3 : Int32) (x4 : Int32) : Option (Int32 × Mem) :=
    rec32 M x1 x2 x3 x4
def F9_nearest_j113 (rec32 : Mem → Int32 → Int32 → Int32 → Int32 → Option (Int32 × Mem)) (M : Mem) (x1 : Int32) (x2 : Int32) (x3 : Int32) (x5 : Int32) (y0 : Int32) : Option (Int32 × Mem) :=
    if y0 = 0 then
      F9_nearest_j183 rec32 M x1 x2 x3 y0
    else
      if inb (M 0 38) 6 = true then
      Option.bind (F9_backOf (up2 (up2 M 13 (Int32.toNatClampNeg (M 0 38)) x5) 0 38 ((M 0 38) + (1 : Int32)))) fun r32 =>
      if (r32.2 0 35) < r32.1 then
        F9_nearest_j183 rec32 (up2 r32.2 0 38 ((r32.2 0 38) - (1 : Int32))) x1 x2 x3 (0 : Int32)
      else
        if inb x5 6 = true then
        F9_nearest_j183 rec32 r32.2 x1 (r32.2 7 (Int32.toNatClampNeg x5)) (x3 ||| ((1 : Int32) <<< (x5 &&& 31))) y0
        else none
      else none
def F9_nearest_j96 (rec32 : Mem → Int32 → Int32 → Int32 → Int32 → Option (Int32 × Mem)) (rec43 : Mem → Int32 → Int32 → Int32 → Int32 → Int32 → Option (Int32 × Mem)) (M : Mem) (x1 : Int32) (x2 : Int32) (x3 : Int32) (x5 : Int32) (x6 : Int32) : Option (Int32 × Mem) :=
    rec43 M x1 x2 x3 x5 (x6 + (1 : Int32))
def F9_nearest_j92 (rec32 : Mem → Int32 → Int32 → Int32 → Int32 → Option (Int32 × Mem)) (rec43 : Mem → Int32 → Int32 → Int32 → Int32 → Int32 → Option (Int32 × Mem)) (M : Mem) (x1 : Int32) (x2 : Int32) (x3 : Int32) (x6 : Int32) : Option (Int32 × Mem) :=
    F9_nearest_j96 rec32 rec43 M x1 x2 x3 x6 x6
def F9_nearest_l43_b (rec32 : Mem → Int32 → Int32 → Int32 → Int32 → Option (Int32 × Mem)) (rec43 : Mem → Int32 → Int32 → Int32 → Int32 → Int32 → Option (Int32 × Mem)) (M : Mem) (x1 : Int32) (x2 : Int32) (x3 : Int32) (x5 : Int32) (x6 : Int32) : Option (Int32 × Mem) :=
    if (M 0 16) ≤ x6 then
      if x5 = (-1 : Int32) then
        F9_nearest_j113 rec32 M x1 x2 x3 x5 (0 : Int32)
      else
        F9_nearest_j113 rec32 M x1 x2 x3 x5 (1 : Int32)
    else
      if ¬ ((x3 >>> (x6 &&& 31)) &&& (1 : Int32)) = 0 then
        F9_nearest_j96 rec32 rec43 M x1 x2 x3 x5 x6
      else
        if x5 = (-1 : Int32) then
          F9_nearest_j92 rec32 rec43 M x1 x2 x3 x6
        else
          if inb x6 6 = true then
          Option.bind (F9_steps M x2 (M 7 (Int32.toNatClampNeg x6))) fun r24 =>
          if inb x5 6 = true then
          Option.bind (F9_steps r24.2 x2 (r24.2 7 (Int32.toNatClampNeg x5))) fun r27 =>
          if r27.1 ≤ r24.1 then
            F9_nearest_j96 rec32 rec43 r27.2 x1 x2 x3 x5 x6
          else
            F9_nearest_j92 rec32 rec43 r27.2 x1 x2 x3 x6
          else none
          else none
def F9_nearest_l43 (rec32 : Mem → Int32 → Int32 → Int32 → Int32 → Option (Int32 × Mem)) : Nat → Mem → Int32 → Int32 → Int32 → Int32 → Int32 → Option (Int32 × Mem)
  | 0, _, _, _, _, _, _ => none
  | fu + 1, M, x1, x2, x3, x5, x6 => F9_nearest_l43_b rec32 (F9_nearest_l43 rec32 fu) M x1 x2 x3 x5 x6
def F9_nearest_l32_b (rec32 : Mem → Int32 → Int32 → Int32 → Int32 → Option (Int32 × Mem)) (M : Mem) (x1 : Int32) (x2 : Int32) (x3 : Int32) (x4 : Int32) : Option (Int32 × Mem) :=
    if x4 = 0 then
      if ¬ x1 = 0 then
        if ¬ x1 = (1 : Int32) then
          Option.bind (F9_backOf M) fun r9 =>
          Option.bind (F9_worthOf r9.2) fun r11 =>
          Option.bind (F9_gainOf r11.2 r9.1 r11.1) fun r13 =>
          some (r13.1, r13.2)
        else
          Option.bind (F9_backOf M) fun r15 =>
          some (r15.1, r15.2)
      else
        Option.bind (F9_digitsOf M) fun r17 =>
        some (r17.1, r17.2)
    else
      F9_nearest_l43 rec32 FUEL M x1 x2 x3 (-1 : Int32) (0 : Int32)
def F9_nearest_l32 : Nat → Mem → Int32 → Int32 → Int32 → Int32 → Option (Int32 × Mem)
  | 0, _, _, _, _, _ => none
  | fu + 1, M, x1, x2, x3, x4 => F9_nearest_l32_b (F9_nearest_l32 fu) M x1 x2 x3 x4
def F9_nearest (M : Mem) (a1 : Int32) : Option (Int32 × Mem) :=
    Option.bind (F9_in M (Int32.toInt64 a1) (0 : Int64) (2 : Int64)) fun r1 =>
    if ¬ r1.1 = 0 then
      Option.bind (F9_gathers r1.2) fun r4 =>
      F9_nearest_l32 FUEL (up2 r4.2 0 38 (0 : Int32)) a1 (0 : Int32) (0 : Int32) (1 : Int32)
    else
      some ((-100000 : Int32), r1.2)
set_option maxRecDepth 20000 in
theorem F9_nearest_j183_ok {p : Program} {l : Launch} {e : Env} {s : State} {m : MethodId} {args : Array Value} {below : List Frame} {meth : Method} {c : Code} {G : GG} {D : Nat} {r : Int32 × Mem} {rec32 : Mem → Int32 → Int32 → Int32 → Int32 → Option (Int32 × Mem)} (F : FrP shB G p s m args c RX9 cX9_nearest 7) (hr : meth.sig.returnType = (some .int)) (hlk : meth.locks = false) (hD : 91 ≤ D) (hrec32 : ∀ (M : Mem) (x1 : Int32) (x2 : Int32) (x3 : Int32) (x4 : Int32), rec32 M x1 x2 x3 x4 = some r → XJ shB p l e (rmX D) s m args below meth c 0 0 G 7 (MQ below (QcX shB G ((some (.int r.1), r.2) : Option Value × Mem).1 ((some (.int r.1), r.2) : Option Value × Mem).2) args s 0 0 (AW shB G.2.1)) 32 [(0, .ref 0), (1, .int x1), (2, .int x2), (3, .int x3), (4, .int x4)] [] M) {M : Mem} {x1 : Int32} {x2 : Int32} {x3 : Int32} {x4 : Int32} (h : F9_nearest_j183 rec32 M x1 x2 x3 x4 = some r) : XJ shB p l e (rmX D) s m args below meth c 0 0 G 7 (MQ below (QcX shB G ((some (.int r.1), r.2) : Option Value × Mem).1 ((some (.int r.1), r.2) : Option Value × Mem).2) args s 0 0 (AW shB G.2.1)) 183 [(0, .ref 0), (1, .int x1), (2, .int x2), (3, .int x3), (4, .int x4)] [] M := by
  unfold F9_nearest_j183 at h
  refine X_goto (tgt := 32) F dX9_nearest_183 (by decide) ?_
  exact hrec32 _ _ _ _ _ h
set_option maxRecDepth 20000 in
theorem F9_nearest_j113_ok {p : Program} {l : Launch} {e : Env} {s : State} {m : MethodId} {args : Array Value} {below : List Frame} {meth : Method} {c : Code} {G : GG} {D : Nat} {r : Int32 × Mem} {rec32 : Mem → Int32 → Int32 → Int32 → Int32 → Option (Int32 × Mem)} (F : FrP shB G p s m args c RX9 cX9_nearest 7) (hr : meth.sig.returnType = (some .int)) (hlk : meth.locks = false) (hD : 91 ≤ D) (hrec32 : ∀ (M : Mem) (x1 : Int32) (x2 : Int32) (x3 : Int32) (x4 : Int32), rec32 M x1 x2 x3 x4 = some r → XJ shB p l e (rmX D) s m args below meth c 0 0 G 7 (MQ below (QcX shB G ((some (.int r.1), r.2) : Option Value × Mem).1 ((some (.int r.1), r.2) : Option Value × Mem).2) args s 0 0 (AW shB G.2.1)) 32 [(0, .ref 0), (1, .int x1), (2, .int x2), (3, .int x3), (4, .int x4)] [] M) {M : Mem} {x1 : Int32} {x2 : Int32} {x3 : Int32} {x5 : Int32} {y0 : Int32} (h : F9_nearest_j113 rec32 M x1 x2 x3 x5 y0 = some r) : XJ shB p l e (rmX D) s m args below meth c 0 0 G 7 (MQ below (QcX shB G ((some (.int r.1), r.2) : Option Value × Mem).1 ((some (.int r.1), r.2) : Option Value × Mem).2) args s 0 0 (AW shB G.2.1)) 113 [(0, .ref 0), (1, .int x1), (2, .int x2), (3, .int x3), (5, .int x5)] [.int y0] M := by
  unfold F9_nearest_j113 at h
  refine X_istore F dX9_nearest_113 (by decide) rfl ?_
  refine X_iload F dX9_nearest_115 rfl ?_
  refine X_if_eq (tgt := 183) F dX9_nearest_117 (by decide) (fun q30 => ?_) (fun q30 => ?_)
  · rw [if_pos q30] at h
    refine X_pick [1, 2, 3, 4, 0] rfl ?_
    exact F9_nearest_j183_ok F hr hlk hD hrec32 h
  · rw [if_neg q30] at h
    refine X_aload_n F dX9_nearest_120 rfl ?_
    refine X_getr F ffRX9_50 dX9_nearest_121 ?_
    refine X_aload_n F dX9_nearest_124 rfl ?_
    refine X_geti (v := (M 0 38)) F ffRX9_275 dX9_nearest_125 rfl ?_
    refine X_iload F dX9_nearest_128 rfl ?_
    obtain ⟨q31, h⟩ := ifS h
    refine X_iast (j := (Int32.toNatClampNeg (M 0 38))) F rfl (inbV q31) rfl dX9_nearest_130 ?_
    refine X_aload_n F dX9_nearest_131 rfl ?_
    refine X_dup F dX9_nearest_132 rfl ?_
    refine X_geti (v := (M 0 38)) F ffRX9_275 dX9_nearest_133 rfl ?_
    refine X_iconst F dX9_nearest_136 (v := (1 : Int32)) rfl ?_
    refine X_iadd F dX9_nearest_137 ?_
    refine X_puti F ffRX9_275 fw9_38 (by decide) dX9_nearest_138 ?_
    refine X_aload_n F dX9_nearest_141 rfl ?_
    obtain ⟨r32, h33, h⟩ := bndS h
    refine X_callV (ci := 0) (As := []) (rest := []) F fkRX9_288 feX9_backOf fvX9_backOf ⟨_, _, _, rfl, rfl, rfl⟩ (F9_backOf_met (D := D - 1) F.2.2.2.2.2.2.2.1 (by omega) h33) rfl rfl (Nat.le_of_ble_eq_true rfl) (rm_ok (by omega) (by decide)) dX9_nearest_142 ?_
    show XJ shB p l e (rmX D) s m args below meth c 0 0 G 7 (MQ below (QcX shB G ((some (.int r.1), r.2) : Option Value × Mem).1 ((some (.int r.1), r.2) : Option Value × Mem).2) args s 0 0 (AW shB G.2.1)) 145 [(4, .int y0), (0, .ref 0), (1, .int x1), (2, .int x2), (3, .int x3), (5, .int x5)] [.int r32.1] r32.2
    refine X_aload_n F dX9_nearest_145 rfl ?_
    refine X_geti (v := (r32.2 0 35)) F ffRX9_266 dX9_nearest_146 rfl ?_
    refine X_icmp_gt (tgt := 170) F dX9_nearest_149 (by decide) (fun q34 => ?_) (fun q34 => ?_)
    · rw [if_pos q34] at h
      refine X_aload_n F dX9_nearest_170 rfl ?_
      refine X_dup F dX9_nearest_171 rfl ?_
      refine X_geti (v := (r32.2 0 38)) F ffRX9_275 dX9_nearest_172 rfl ?_
      refine X_iconst F dX9_nearest_175 (v := (1 : Int32)) rfl ?_
      refine X_isub F dX9_nearest_176 ?_
      refine X_puti F ffRX9_275 fw9_38 (by decide) dX9_nearest_177 ?_
      refine X_iconst F dX9_nearest_180 (v := (0 : Int32)) rfl ?_
      refine X_istore F dX9_nearest_181 (by decide) rfl ?_
      refine X_pick [1, 2, 3, 4, 0] rfl ?_
      exact F9_nearest_j183_ok F hr hlk hD hrec32 h
    · rw [if_neg q34] at h
      refine X_iload_n F dX9_nearest_152 rfl ?_
      refine X_iconst F dX9_nearest_153 (v := (1 : Int32)) rfl ?_
      refine X_iload F dX9_nearest_154 rfl ?_
      refine X_ishl F dX9_nearest_156 ?_
      refine X_ior F dX9_nearest_157 ?_
      refine X_istore_n F dX9_nearest_158 (by decide) rfl ?_
      refine X_aload_n F dX9_nearest_159 rfl ?_
      refine X_getr F ffRX9_32 dX9_nearest_160 ?_
      refine X_iload F dX9_nearest_163 rfl ?_
      obtain ⟨q35, h⟩ := ifS h
      refine X_iald (j := (Int32.toNatClampNeg x5)) (v := (r32.2 7 (Int32.toNatClampNeg x5))) F rfl (inbV q35) rfl rfl dX9_nearest_165 ?_
      refine X_istore_n F dX9_nearest_166 (by decide) rfl ?_
      refine X_goto (tgt := 183) F dX9_nearest_167 (by decide) ?_
      refine X_pick [3, 4, 0, 1, 2] rfl ?_
      exact F9_nearest_j183_ok F hr hlk hD hrec32 h
set_option maxRecDepth 20000 in
theorem F9_nearest_j96_ok {p : Program} {l : Launch} {e : Env} {s : State} {m : MethodId} {args : Array Value} {below : List Frame} {meth : Method} {c : Code} {G : GG} {D : Nat} {r : Int32 × Mem} {rec32 : Mem → Int32 → Int32 → Int32 → Int32 → Option (Int32 × Mem)} {rec43 : Mem → Int32 → Int32 → Int32 → Int32 → Int32 → Option (Int32 × Mem)} (F : FrP shB G p s m args c RX9 cX9_nearest 7) (hr : meth.sig.returnType = (some .int)) (hlk : meth.locks = false) (hD : 91 ≤ D) (hrec32 : ∀ (M : Mem) (x1 : Int32) (x2 : Int32) (x3 : Int32) (x4 : Int32), rec32 M x1 x2 x3 x4 = some r → XJ shB p l e (rmX D) s m args below meth c 0 0 G 7 (MQ below (QcX shB G ((some (.int r.1), r.2) : Option Value × Mem).1 ((some (.int r.1), r.2) : Option Value × Mem).2) args s 0 0 (AW shB G.2.1)) 32 [(0, .ref 0), (1, .int x1), (2, .int x2), (3, .int x3), (4, .int x4)] [] M) (hrec43 : ∀ (M : Mem) (x1 : Int32) (x2 : Int32) (x3 : Int32) (x5 : Int32) (x6 : Int32), rec43 M x1 x2 x3 x5 x6 = some r → XJ shB p l e (rmX D) s m args below meth c 0 0 G 7 (MQ below (QcX shB G ((some (.int r.1), r.2) : Option Value × Mem).1 ((some (.int r.1), r.2) : Option Value × Mem).2) args s 0 0 (AW shB G.2.1)) 43 [(0, .ref 0), (1, .int x1), (2, .int x2), (3, .int x3), (5, .int x5), (6, .int x6)] [] M) {M : Mem} {x1 : Int32} {x2 : Int32} {x3 : Int32} {x5 : Int32} {x6 : Int32} (h : F9_nearest_j96 rec32 rec43 M x1 x2 x3 x5 x6 = some r) : XJ shB p l e (rmX D) s m args below meth c 0 0 G 7 (MQ below (QcX shB G ((some (.int r.1), r.2) : Option Value × Mem).1 ((some (.int r.1), r.2) : Option Value × Mem).2) args s 0 0 (AW shB G.2.1)) 96 [(0, .ref 0), (1, .int x1), (2, .int x2), (3, .int x3), (5, .int x5), (6, .int x6)] [] M := by
  unfold F9_nearest_j96 at h
  refine X_iinc F dX9_nearest_96 rfl (v := (1 : Int32)) rfl (by decide) rfl ?_
  refine X_goto (tgt := 43) F dX9_nearest_99 (by decide) ?_
  refine X_pick [1, 2, 3, 4, 5, 0] rfl ?_
  exact hrec43 _ _ _ _ _ _ h
set_option maxRecDepth 20000 in
theorem F9_nearest_j92_ok {p : Program} {l : Launch} {e : Env} {s : State} {m : MethodId} {args : Array Value} {below : List Frame} {meth : Method} {c : Code} {G : GG} {D : Nat} {r : Int32 × Mem} {rec32 : Mem → Int32 → Int32 → Int32 → Int32 → Option (Int32 × Mem)} {rec43 : Mem → Int32 → Int32 → Int32 → Int32 → Int32 → Option (Int32 × Mem)} (F : FrP shB G p s m args c RX9 cX9_nearest 7) (hr : meth.sig.returnType = (some .int)) (hlk : meth.locks = false) (hD : 91 ≤ D) (hrec32 : ∀ (M : Mem) (x1 : Int32) (x2 : Int32) (x3 : Int32) (x4 : Int32), rec32 M x1 x2 x3 x4 = some r → XJ shB p l e (rmX D) s m args below meth c 0 0 G 7 (MQ below (QcX shB G ((some (.int r.1), r.2) : Option Value × Mem).1 ((some (.int r.1), r.2) : Option Value × Mem).2) args s 0 0 (AW shB G.2.1)) 32 [(0, .ref 0), (1, .int x1), (2, .int x2), (3, .int x3), (4, .int x4)] [] M) (hrec43 : ∀ (M : Mem) (x1 : Int32) (x2 : Int32) (x3 : Int32) (x5 : Int32) (x6 : Int32), rec43 M x1 x2 x3 x5 x6 = some r → XJ shB p l e (rmX D) s m args below meth c 0 0 G 7 (MQ below (QcX shB G ((some (.int r.1), r.2) : Option Value × Mem).1 ((some (.int r.1), r.2) : Option Value × Mem).2) args s 0 0 (AW shB G.2.1)) 43 [(0, .ref 0), (1, .int x1), (2, .int x2), (3, .int x3), (5, .int x5), (6, .int x6)] [] M) {M : Mem} {x1 : Int32} {x2 : Int32} {x3 : Int32} {x6 : Int32} (h : F9_nearest_j92 rec32 rec43 M x1 x2 x3 x6 = some r) : XJ shB p l e (rmX D) s m args below meth c 0 0 G 7 (MQ below (QcX shB G ((some (.int r.1), r.2) : Option Value × Mem).1 ((some (.int r.1), r.2) : Option Value × Mem).2) args s 0 0 (AW shB G.2.1)) 92 [(0, .ref 0), (1, .int x1), (2, .int x2), (3, .int x3), (6, .int x6)] [] M := by
  unfold F9_nearest_j92 at h
  refine X_iload F dX9_nearest_92 rfl ?_
  refine X_istore F dX9_nearest_94 (by decide) rfl ?_
  refine X_pick [1, 2, 3, 4, 0, 5] rfl ?_
  exact F9_nearest_j96_ok F hr hlk hD hrec32 hrec43 h
set_option maxRecDepth 20000 in
theorem F9_nearest_l43_bok {p : Program} {l : Launch} {e : Env} {s : State} {m : MethodId} {args : Array Value} {below : List Frame} {meth : Method} {c : Code} {G : GG} {D : Nat} {r : Int32 × Mem} {rec32 : Mem → Int32 → Int32 → Int32 → Int32 → Option (Int32 × Mem)} {rec43 : Mem → Int32 → Int32 → Int32 → Int32 → Int32 → Option (Int32 × Mem)} (F : FrP shB G p s m args c RX9 cX9_nearest 7) (hr : meth.sig.returnType = (some .int)) (hlk : meth.locks = false) (hD : 91 ≤ D) (hrec32 : ∀ (M : Mem) (x1 : Int32) (x2 : Int32) (x3 : Int32) (x4 : Int32), rec32 M x1 x2 x3 x4 = some r → XJ shB p l e (rmX D) s m args below meth c 0 0 G 7 (MQ below (QcX shB G ((some (.int r.1), r.2) : Option Value × Mem).1 ((some (.int r.1), r.2) : Option Value × Mem).2) args s 0 0 (AW shB G.2.1)) 32 [(0, .ref 0), (1, .int x1), (2, .int x2), (3, .int x3), (4, .int x4)] [] M) (hrec43 : ∀ (M : Mem) (x1 : Int32) (x2 : Int32) (x3 : Int32) (x5 : Int32) (x6 : Int32), rec43 M x1 x2 x3 x5 x6 = some r → XJ shB p l e (rmX D) s m args below meth c 0 0 G 7 (MQ below (QcX shB G ((some (.int r.1), r.2) : Option Value × Mem).1 ((some (.int r.1), r.2) : Option Value × Mem).2) args s 0 0 (AW shB G.2.1)) 43 [(0, .ref 0), (1, .int x1), (2, .int x2), (3, .int x3), (5, .int x5), (6, .int x6)] [] M) {M : Mem} {x1 : Int32} {x2 : Int32} {x3 : Int32} {x5 : Int32} {x6 : Int32} (h : F9_nearest_l43_b rec32 rec43 M x1 x2 x3 x5 x6 = some r) : XJ shB p l e (rmX D) s m args below meth c 0 0 G 7 (MQ below (QcX shB G ((some (.int r.1), r.2) : Option Value × Mem).1 ((some (.int r.1), r.2) : Option Value × Mem).2) args s 0 0 (AW shB G.2.1)) 43 [(0, .ref 0), (1, .int x1), (2, .int x2), (3, .int x3), (5, .int x5), (6, .int x6)] [] M := by
  unfold F9_nearest_l43_b at h
  refine X_iload F dX9_nearest_43 rfl ?_
  refine X_aload_n F dX9_nearest_45 rfl ?_
  refine X_geti (v := (M 0 16)) F ffRX9_92 dX9_nearest_46 rfl ?_
  refine X_icmp_ge (tgt := 102) F dX9_nearest_49 (by decide) (fun q19 => ?_) (fun q19 => ?_)
  · rw [if_pos q19] at h
    refine X_iload F dX9_nearest_102 rfl ?_
    refine X_iconst F dX9_nearest_104 (v := (-1 : Int32)) rfl ?_
    refine X_icmp_eq (tgt := 112) F dX9_nearest_105 (by decide) (fun q20 => ?_) (fun q20 => ?_)
    · rw [if_pos q20] at h
      refine X_iconst F dX9_nearest_112 (v := (0 : Int32)) rfl ?_
      refine X_pick [0, 1, 2, 3, 4] rfl ?_
      exact F9_nearest_j113_ok F hr hlk hD hrec32 h
    · rw [if_neg q20] at h
      refine X_iconst F dX9_nearest_108 (v := (1 : Int32)) rfl ?_
      refine X_goto (tgt := 113) F dX9_nearest_109 (by decide) ?_
      refine X_pick [0, 1, 2, 3, 4] rfl ?_
      exact F9_nearest_j113_ok F hr hlk hD hrec32 h
  · rw [if_neg q19] at h
    refine X_iload_n F dX9_nearest_52 rfl ?_
    refine X_iload F dX9_nearest_53 rfl ?_
    refine X_ishr F dX9_nearest_55 ?_
    refine X_iconst F dX9_nearest_56 (v := (1 : Int32)) rfl ?_
    refine X_iand F dX9_nearest_57 ?_
    refine X_if_ne (tgt := 96) F dX9_nearest_58 (by decide) (fun q21 => ?_) (fun q21 => ?_)
    · rw [if_pos q21] at h
      exact F9_nearest_j96_ok F hr hlk hD hrec32 hrec43 h
    · rw [if_neg (fun z => z q21)] at h
      refine X_iload F dX9_nearest_61 rfl ?_
      refine X_iconst F dX9_nearest_63 (v := (-1 : Int32)) rfl ?_
      refine X_icmp_eq (tgt := 92) F dX9_nearest_64 (by decide) (fun q22 => ?_) (fun q22 => ?_)
      · rw [if_pos q22] at h
        refine X_pick [0, 1, 2, 3, 5] rfl ?_
        exact F9_nearest_j92_ok F hr hlk hD hrec32 hrec43 h
      · rw [if_neg q22] at h
        refine X_iload_n F dX9_nearest_67 rfl ?_
        refine X_aload_n F dX9_nearest_68 rfl ?_
        refine X_getr F ffRX9_32 dX9_nearest_69 ?_
        refine X_iload F dX9_nearest_72 rfl ?_
        obtain ⟨q23, h⟩ := ifS h
        refine X_iald (j := (Int32.toNatClampNeg x6)) (v := (M 7 (Int32.toNatClampNeg x6))) F rfl (inbV q23) rfl rfl dX9_nearest_74 ?_
        obtain ⟨r24, h25, h⟩ := bndS h
        refine X_callS (As := [.int x2, .int (M 7 (Int32.toNatClampNeg x6))]) (rest := []) F fsRX9_278 feX9_steps ftX9_steps (F9_steps_met (D := D - 1) F.2.2.2.2.2.2.2.1 (by omega) h25) rfl rfl (Nat.le_of_ble_eq_true rfl) (rm_ok (by omega) (by decide)) dX9_nearest_75 ?_
        show XJ shB p l e (rmX D) s m args below meth c 0 0 G 7 (MQ below (QcX shB G ((some (.int r.1), r.2) : Option Value × Mem).1 ((some (.int r.1), r.2) : Option Value × Mem).2) args s 0 0 (AW shB G.2.1)) 78 [(0, .ref 0), (1, .int x1), (2, .int x2), (3, .int x3), (5, .int x5), (6, .int x6)] [.int r24.1] r24.2
        refine X_iload_n F dX9_nearest_78 rfl ?_
        refine X_aload_n F dX9_nearest_79 rfl ?_
        refine X_getr F ffRX9_32 dX9_nearest_80 ?_
        refine X_iload F dX9_nearest_83 rfl ?_
        obtain ⟨q26, h⟩ := ifS h
        refine X_iald (j := (Int32.toNatClampNeg x5)) (v := (r24.2 7 (Int32.toNatClampNeg x5))) F rfl (inbV q26) rfl rfl dX9_nearest_85 ?_
        obtain ⟨r27, h28, h⟩ := bndS h
        refine X_callS (As := [.int x2, .int (r24.2 7 (Int32.toNatClampNeg x5))]) (rest := [.int r24.1]) F fsRX9_278 feX9_steps ftX9_steps (F9_steps_met (D := D - 1) F.2.2.2.2.2.2.2.1 (by omega) h28) rfl rfl (Nat.le_of_ble_eq_true rfl) (rm_ok (by omega) (by decide)) dX9_nearest_86 ?_
        show XJ shB p l e (rmX D) s m args below meth c 0 0 G 7 (MQ below (QcX shB G ((some (.int r.1), r.2) : Option Value × Mem).1 ((some (.int r.1), r.2) : Option Value × Mem).2) args s 0 0 (AW shB G.2.1)) 89 [(0, .ref 0), (1, .int x1), (2, .int x2), (3, .int x3), (5, .int x5), (6, .int x6)] [.int r27.1, .int r24.1] r27.2
        refine X_icmp_ge (tgt := 96) F dX9_nearest_89 (by decide) (fun q29 => ?_) (fun q29 => ?_)
        · rw [if_pos q29] at h
          exact F9_nearest_j96_ok F hr hlk hD hrec32 hrec43 h
        · rw [if_neg q29] at h
          refine X_pick [0, 1, 2, 3, 5] rfl ?_
          exact F9_nearest_j92_ok F hr hlk hD hrec32 hrec43 h
set_option maxRecDepth 20000 in
theorem F9_nearest_l43_ok {p : Program} {l : Launch} {e : Env} {s : State} {m : MethodId} {args : Array Value} {below : List Frame} {meth : Method} {c : Code} {G : GG} {D : Nat} {r : Int32 × Mem} {rec32 : Mem → Int32 → Int32 → Int32 → Int32 → Option (Int32 × Mem)} (F : FrP shB G p s m args c RX9 cX9_nearest 7) (hr : meth.sig.returnType = (some .int)) (hlk : meth.locks = false) (hD : 91 ≤ D) (hrec32 : ∀ (M : Mem) (x1 : Int32) (x2 : Int32) (x3 : Int32) (x4 : Int32), rec32 M x1 x2 x3 x4 = some r → XJ shB p l e (rmX D) s m args below meth c 0 0 G 7 (MQ below (QcX shB G ((some (.int r.1), r.2) : Option Value × Mem).1 ((some (.int r.1), r.2) : Option Value × Mem).2) args s 0 0 (AW shB G.2.1)) 32 [(0, .ref 0), (1, .int x1), (2, .int x2), (3, .int x3), (4, .int x4)] [] M) : ∀ (fu : Nat) (M : Mem) (x1 : Int32) (x2 : Int32) (x3 : Int32) (x5 : Int32) (x6 : Int32), F9_nearest_l43 rec32 fu M x1 x2 x3 x5 x6 = some r → XJ shB p l e (rmX D) s m args below meth c 0 0 G 7 (MQ below (QcX shB G ((some (.int r.1), r.2) : Option Value × Mem).1 ((some (.int r.1), r.2) : Option Value × Mem).2) args s 0 0 (AW shB G.2.1)) 43 [(0, .ref 0), (1, .int x1), (2, .int x2), (3, .int x3), (5, .int x5), (6, .int x6)] [] M := by
  intro fu
  induction fu with
  | zero => intro M x1 x2 x3 x5 x6 h; cases h
  | succ fu ih => intro M x1 x2 x3 x5 x6 h; exact F9_nearest_l43_bok F hr hlk hD hrec32 (fun M x1 x2 x3 x5 x6 => ih M x1 x2 x3 x5 x6) h
set_option maxRecDepth 20000 in
theorem F9_nearest_l32_bok {p : Program} {l : Launch} {e : Env} {s : State} {m : MethodId} {args : Array Value} {below : List Frame} {meth : Method} {c : Code} {G : GG} {D : Nat} {r : Int32 × Mem} {rec32 : Mem → Int32 → Int32 → Int32 → Int32 → Option (Int32 × Mem)} (F : FrP shB G p s m args c RX9 cX9_nearest 7) (hr : meth.sig.returnType = (some .int)) (hlk : meth.locks = false) (hD : 91 ≤ D) (hrec32 : ∀ (M : Mem) (x1 : Int32) (x2 : Int32) (x3 : Int32) (x4 : Int32), rec32 M x1 x2 x3 x4 = some r → XJ shB p l e (rmX D) s m args below meth c 0 0 G 7 (MQ below (QcX shB G ((some (.int r.1), r.2) : Option Value × Mem).1 ((some (.int r.1), r.2) : Option Value × Mem).2) args s 0 0 (AW shB G.2.1)) 32 [(0, .ref 0), (1, .int x1), (2, .int x2), (3, .int x3), (4, .int x4)] [] M) {M : Mem} {x1 : Int32} {x2 : Int32} {x3 : Int32} {x4 : Int32} (h : F9_nearest_l32_b rec32 M x1 x2 x3 x4 = some r) : XJ shB p l e (rmX D) s m args below meth c 0 0 G 7 (MQ below (QcX shB G ((some (.int r.1), r.2) : Option Value × Mem).1 ((some (.int r.1), r.2) : Option Value × Mem).2) args s 0 0 (AW shB G.2.1)) 32 [(0, .ref 0), (1, .int x1), (2, .int x2), (3, .int x3), (4, .int x4)] [] M := by
  unfold F9_nearest_l32_b at h
  refine X_iload F dX9_nearest_32 rfl ?_
  refine X_if_eq (tgt := 186) F dX9_nearest_34 (by decide) (fun q6 => ?_) (fun q6 => ?_)
  · rw [if_pos q6] at h
    refine X_iload_n F dX9_nearest_186 rfl ?_
    refine X_if_ne (tgt := 197) F dX9_nearest_187 (by decide) (fun q7 => ?_) (fun q7 => ?_)
    · rw [if_pos q7] at h
      refine X_iload_n F dX9_nearest_197 rfl ?_
      refine X_iconst F dX9_nearest_198 (v := (1 : Int32)) rfl ?_
      refine X_icmp_ne (tgt := 209) F dX9_nearest_199 (by decide) (fun q8 => ?_) (fun q8 => ?_)
      · rw [if_pos q8] at h
        refine X_aload_n F dX9_nearest_209 rfl ?_
        refine X_aload_n F dX9_nearest_210 rfl ?_
        obtain ⟨r9, h10, h⟩ := bndS h
        refine X_callV (ci := 0) (As := []) (rest := [.ref 0]) F fkRX9_288 feX9_backOf fvX9_backOf ⟨_, _, _, rfl, rfl, rfl⟩ (F9_backOf_met (D := D - 1) F.2.2.2.2.2.2.2.1 (by omega) h10) rfl rfl (Nat.le_of_ble_eq_true rfl) (rm_ok (by omega) (by decide)) dX9_nearest_211 ?_
        show XJ shB p l e (rmX D) s m args below meth c 0 0 G 7 (MQ below (QcX shB G ((some (.int r.1), r.2) : Option Value × Mem).1 ((some (.int r.1), r.2) : Option Value × Mem).2) args s 0 0 (AW shB G.2.1)) 214 [(0, .ref 0), (1, .int x1), (2, .int x2), (3, .int x3), (4, .int x4)] [.int r9.1, .ref 0] r9.2
        refine X_aload_n F dX9_nearest_214 rfl ?_
        obtain ⟨r11, h12, h⟩ := bndS h
        refine X_callV (ci := 0) (As := []) (rest := [.int r9.1, .ref 0]) F fkRX9_291 feX9_worthOf fvX9_worthOf ⟨_, _, _, rfl, rfl, rfl⟩ (F9_worthOf_met (D := D - 1) F.2.2.2.2.2.2.2.1 (by omega) h12) rfl rfl (Nat.le_of_ble_eq_true rfl) (rm_ok (by omega) (by decide)) dX9_nearest_215 ?_
        show XJ shB p l e (rmX D) s m args below meth c 0 0 G 7 (MQ below (QcX shB G ((some (.int r.1), r.2) : Option Value × Mem).1 ((some (.int r.1), r.2) : Option Value × Mem).2) args s 0 0 (AW shB G.2.1)) 218 [(0, .ref 0), (1, .int x1), (2, .int x2), (3, .int x3), (4, .int x4)] [.int r11.1, .int r9.1, .ref 0] r11.2
        obtain ⟨r13, h14, h⟩ := bndS h
        refine X_callV (ci := 0) (As := [.int r9.1, .int r11.1]) (rest := []) F fkRX9_294 feX9_gainOf fvX9_gainOf ⟨_, _, _, rfl, rfl, rfl⟩ (F9_gainOf_met (D := D - 1) F.2.2.2.2.2.2.2.1 (by omega) h14) rfl rfl (Nat.le_of_ble_eq_true rfl) (rm_ok (by omega) (by decide)) dX9_nearest_218 ?_
        show XJ shB p l e (rmX D) s m args below meth c 0 0 G 7 (MQ below (QcX shB G ((some (.int r.1), r.2) : Option Value × Mem).1 ((some (.int r.1), r.2) : Option Value × Mem).2) args s 0 0 (AW shB G.2.1)) 221 [(0, .ref 0), (1, .int x1), (2, .int x2), (3, .int x3), (4, .int x4)] [.int r13.1] r13.2
        exact X_iret F hr hlk (retI h) dX9_nearest_221
      · rw [if_neg (fun z => z q8)] at h
        refine X_aload_n F dX9_nearest_202 rfl ?_
        obtain ⟨r15, h16, h⟩ := bndS h
        refine X_callV (ci := 0) (As := []) (rest := []) F fkRX9_288 feX9_backOf fvX9_backOf ⟨_, _, _, rfl, rfl, rfl⟩ (F9_backOf_met (D := D - 1) F.2.2.2.2.2.2.2.1 (by omega) h16) rfl rfl (Nat.le_of_ble_eq_true rfl) (rm_ok (by omega) (by decide)) dX9_nearest_203 ?_
        show XJ shB p l e (rmX D) s m args below meth c 0 0 G 7 (MQ below (QcX shB G ((some (.int r.1), r.2) : Option Value × Mem).1 ((some (.int r.1), r.2) : Option Value × Mem).2) args s 0 0 (AW shB G.2.1)) 206 [(0, .ref 0), (1, .int x1), (2, .int x2), (3, .int x3), (4, .int x4)] [.int r15.1] r15.2
        refine X_goto (tgt := 221) F dX9_nearest_206 (by decide) ?_
        exact X_iret F hr hlk (retI h) dX9_nearest_221
    · rw [if_neg (fun z => z q7)] at h
      refine X_aload_n F dX9_nearest_190 rfl ?_
      obtain ⟨r17, h18, h⟩ := bndS h
      refine X_callV (ci := 0) (As := []) (rest := []) F fkRX9_297 feX9_digitsOf fvX9_digitsOf ⟨_, _, _, rfl, rfl, rfl⟩ (F9_digitsOf_met (D := D - 1) F.2.2.2.2.2.2.2.1 (by omega) h18) rfl rfl (Nat.le_of_ble_eq_true rfl) (rm_ok (by omega) (by decide)) dX9_nearest_191 ?_
      show XJ shB p l e (rmX D) s m args below meth c 0 0 G 7 (MQ below (QcX shB G ((some (.int r.1), r.2) : Option Value × Mem).1 ((some (.int r.1), r.2) : Option Value × Mem).2) args s 0 0 (AW shB G.2.1)) 194 [(0, .ref 0), (1, .int x1), (2, .int x2), (3, .int x3), (4, .int x4)] [.int r17.1] r17.2
      refine X_goto (tgt := 221) F dX9_nearest_194 (by decide) ?_
      exact X_iret F hr hlk (retI h) dX9_nearest_221
  · rw [if_neg q6] at h
    refine X_iconst F dX9_nearest_37 (v := (-1 : Int32)) rfl ?_
    refine X_istore F dX9_nearest_38 (by decide) rfl ?_
    refine X_iconst F dX9_nearest_40 (v := (0 : Int32)) rfl ?_
    refine X_istore F dX9_nearest_41 (by decide) rfl ?_
    refine X_pick [2, 3, 4, 5, 1, 0] rfl ?_
    exact F9_nearest_l43_ok F hr hlk hD hrec32 FUEL _ _ _ _ _ _ h
set_option maxRecDepth 20000 in
theorem F9_nearest_l32_ok {p : Program} {l : Launch} {e : Env} {s : State} {m : MethodId} {args : Array Value} {below : List Frame} {meth : Method} {c : Code} {G : GG} {D : Nat} {r : Int32 × Mem} (F : FrP shB G p s m args c RX9 cX9_nearest 7) (hr : meth.sig.returnType = (some .int)) (hlk : meth.locks = false) (hD : 91 ≤ D) : ∀ (fu : Nat) (M : Mem) (x1 : Int32) (x2 : Int32) (x3 : Int32) (x4 : Int32), F9_nearest_l32 fu M x1 x2 x3 x4 = some r → XJ shB p l e (rmX D) s m args below meth c 0 0 G 7 (MQ below (QcX shB G ((some (.int r.1), r.2) : Option Value × Mem).1 ((some (.int r.1), r.2) : Option Value × Mem).2) args s 0 0 (AW shB G.2.1)) 32 [(0, .ref 0), (1, .int x1), (2, .int x2), (3, .int x3), (4, .int x4)] [] M := by
  intro fu
  induction fu with
  | zero => intro M x1 x2 x3 x4 h; cases h
  | succ fu ih => intro M x1 x2 x3 x4 h; exact F9_nearest_l32_bok F hr hlk hD (fun M x1 x2 x3 x4 => ih M x1 x2 x3 x4) h
set_option maxRecDepth 20000 in
theorem F9_nearest_ok {p : Program} {l : Launch} {e : Env} {s : State} {m : MethodId} {args : Array Value} {below : List Frame} {meth : Method} {c : Code} {G : GG} {D : Nat} {r : Int32 × Mem} (F : FrP shB G p s m args c RX9 cX9_nearest 7) (hr : meth.sig.returnType = (some .int)) (hlk : meth.locks = false) (hD : 91 ≤ D) {M : Mem} {a1 : Int32} (h : F9_nearest M a1 = some r) : XJ shB p l e (rmX D) s m args below meth c 0 0 G 7 (MQ below (QcX shB G ((some (.int r.1), r.2) : Option Value × Mem).1 ((some (.int r.1), r.2) : Option Value × Mem).2) args s 0 0 (AW shB G.2.1)) 0 [(0, .ref 0), (1, .int a1)] [] M := by
  unfold F9_nearest at h
  refine X_iload_n F dX9_nearest_0 rfl ?_
  refine X_i2l F dX9_nearest_1 ?_
  refine X_lconst F dX9_nearest_2 (v := (0 : Int64)) rfl ?_
  refine X_ldc2 F fcRX9_103 dX9_nearest_3 ?_
  obtain ⟨r1, h2, h⟩ := bndS h
  refine X_callS (As := [.long (Int32.toInt64 a1), .long (0 : Int64), .long (2 : Int64)]) (rest := []) F fsRX9_88 feX9_in ftX9_in (F9_in_met (D := D - 1) F.2.2.2.2.2.2.2.1 (by omega) h2) rfl rfl (Nat.le_of_ble_eq_true rfl) (rm_ok (by omega) (by decide)) dX9_nearest_6 ?_
  show XJ shB p l e (rmX D) s m args below meth c 0 0 G 7 (MQ below (QcX shB G ((some (.int r.1), r.2) : Option Value × Mem).1 ((some (.int r.1), r.2) : Option Value × Mem).2) args s 0 0 (AW shB G.2.1)) 9 [(0, .ref 0), (1, .int a1)] [.int r1.1] r1.2
  refine X_if_ne (tgt := 16) F dX9_nearest_9 (by decide) (fun q3 => ?_) (fun q3 => ?_)
  · rw [if_pos q3] at h
    refine X_aload_n F dX9_nearest_16 rfl ?_
    obtain ⟨r4, h5, h⟩ := bndS h
    refine X_callV (ci := 0) (As := []) (rest := []) F fkRX9_272 feX9_gathers fvX9_gathers ⟨_, _, _, rfl, rfl, rfl⟩ (F9_gathers_met (D := D - 1) F.2.2.2.2.2.2.2.1 (by omega) h5) rfl rfl (Nat.le_of_ble_eq_true rfl) (rm_ok (by omega) (by decide)) dX9_nearest_17 ?_
    show XJ shB p l e (rmX D) s m args below meth c 0 0 G 7 (MQ below (QcX shB G ((some (.int r.1), r.2) : Option Value × Mem).1 ((some (.int r.1), r.2) : Option Value × Mem).2) args s 0 0 (AW shB G.2.1)) 20 [(0, .ref 0), (1, .int a1)] [] r4.2
    refine X_aload_n F dX9_nearest_20 rfl ?_
    refine X_iconst F dX9_nearest_21 (v := (0 : Int32)) rfl ?_
    refine X_puti F ffRX9_275 fw9_38 (by decide) dX9_nearest_22 ?_
    refine X_iconst F dX9_nearest_25 (v := (0 : Int32)) rfl ?_
    refine X_istore_n F dX9_nearest_26 (by decide) rfl ?_
    refine X_iconst F dX9_nearest_27 (v := (0 : Int32)) rfl ?_
    refine X_istore_n F dX9_nearest_28 (by decide) rfl ?_
    refine X_iconst F dX9_nearest_29 (v := (1 : Int32)) rfl ?_
    refine X_istore F dX9_nearest_30 (by decide) rfl ?_
    refine X_pick [3, 4, 2, 1, 0] rfl ?_
    exact F9_nearest_l32_ok F hr hlk hD FUEL _ _ _ _ _ h
  · rw [if_neg (fun z => z q3)] at h
    refine X_ldcw F fcRX9_287 dX9_nearest_12 ?_
    exact X_iret F hr hlk (retI h) dX9_nearest_15
set_option maxRecDepth 20000 in
theorem F9_nearest_met {l : Launch} {G : GG} {D : Nat} {r : Int32 × Mem} {M : Mem} {a1 : Int32} (hI : Inj shB G.2.1) (hD : 91 ≤ D) (h : F9_nearest M a1 = some r) : MetX shB l G yX9_nearest cX9_nearest 7 (some .int) D [.ref 0, .int a1] M (some (.int r.1), r.2) :=
  X_met hI (by decide +kernel) (Nat.le_of_ble_eq_true rfl) (fun p e s m args below meth c F hr hlk => F9_nearest_ok F hr hlk hD h)
-- KeepOurPlaceModel.allThings
def F9_allThings (M : Mem) : Option (Int32 × Mem) :=
    some ((((1 : Int32) <<< ((M 0 16) &&& 31)) - (1 : Int32)), M)
set_option maxRecDepth 20000 in
theorem F9_allThings_ok {p : Program} {l : Launch} {e : Env} {s : State} {m : MethodId} {args : Array Value} {below : List Frame} {meth : Method} {c : Code} {G : GG} {D : Nat} {r : Int32 × Mem} (F : FrP shB G p s m args c RX9 cX9_allThings 1) (hr : meth.sig.returnType = (some .int)) (hlk : meth.locks = false) (hD : 1 ≤ D) {M : Mem} (h : F9_allThings M = some r) : XJ shB p l e (rmX D) s m args below meth c 0 0 G 1 (MQ below (QcX shB G ((some (.int r.1), r.2) : Option Value × Mem).1 ((some (.int r.1), r.2) : Option Value × Mem).2) args s 0 0 (AW shB G.2.1)) 0 [(0, .ref 0)] [] M := by
  unfold F9_allThings at h
  refine X_iconst F dX9_allThings_0 (v := (1 : Int32)) rfl ?_
  refine X_aload_n F dX9_allThings_1 rfl ?_
  refine X_geti (v := (M 0 16)) F ffRX9_92 dX9_allThings_2 rfl ?_
  refine X_ishl F dX9_allThings_5 ?_
  refine X_iconst F dX9_allThings_6 (v := (1 : Int32)) rfl ?_
  refine X_isub F dX9_allThings_7 ?_
  exact X_iret F hr hlk (retI h) dX9_allThings_8
set_option maxRecDepth 20000 in
theorem F9_allThings_met {l : Launch} {G : GG} {D : Nat} {r : Int32 × Mem} {M : Mem} (hI : Inj shB G.2.1) (hD : 1 ≤ D) (h : F9_allThings M = some r) : MetX shB l G yX9_allThings cX9_allThings 1 (some .int) D [.ref 0] M (some (.int r.1), r.2) :=
  X_met hI (by decide +kernel) (Nat.le_of_ble_eq_true rfl) (fun p e s m args below meth c F hr hlk => F9_allThings_ok F hr hlk hD h)
-- KeepOurPlaceModel.goesOn
def F9_goesOn_j231 (rc : Nat → Int32 → Int32 → Int32 → Int32 → Int32 → Mem → Option (Int32 × Mem)) (rec115 : Mem → Int32 → Int32 → Int32 → Int32 → Int32 → Int32 → Option (Int32 × Mem)) (M : Mem) (x1 : Int32) (x2 : Int32) (x3 : Int32) (x4 : Int32) (x5 : Int32) (x7 : Int32) : Option (Int32 × Mem) :=
    rec115 M x1 x2 x3 x4 x5 (x7 + (1 : Int32))
def F9_goesOn_l115_b (rc : Nat → Int32 → Int32 → Int32 → Int32 → Int32 → Mem → Option (Int32 × Mem)) (rec115 : Mem → Int32 → Int32 → Int32 → Int32 → Int32 → Int32 → Option (Int32 × Mem)) (M : Mem) (x1 : Int32) (x2 : Int32) (x3 : Int32) (x4 : Int32) (x5 : Int32) (x7 : Int32) : Option (Int32 × Mem) :=
    if (M 0 16) ≤ x7 then
      some ((0 : Int32), M)
    else
      if ¬ ((x2 >>> (x7 &&& 31)) &&& (1 : Int32)) = 0 then
        F9_goesOn_j231 rc rec115 M x1 x2 x3 x4 x5 x7
      else
        if ¬ ((x5 >>> (x7 &&& 31)) &&& (1 : Int32)) = (1 : Int32) then
          F9_goesOn_j231 rc rec115 M x1 x2 x3 x4 x5 x7
        else
          if inb x7 6 = true then
          Option.bind (F9_steps M x1 (M 7 (Int32.toNatClampNeg x7))) fun r14 =>
          if inb (r14.2 0 38) 7 = true then
          if inb (r14.2 0 38) 6 = true then
          Option.bind (rc 0 (r14.2 7 (Int32.toNatClampNeg x7)) (x2 ||| ((1 : Int32) <<< (x7 &&& 31))) (x3 + (r14.1 * (r14.2 12 (Int32.toNatClampNeg (r14.2 0 38))))) (x4 + (r14.2 8 (Int32.toNatClampNeg x7))) x5 (up2 (up2 r14.2 13 (Int32.toNatClampNeg (r14.2 0 38)) x7) 0 38 ((r14.2 0 38) + (1 : Int32)))) fun r18 =>
          F9_goesOn_j231 rc rec115 (up2 r18.2 0 38 ((r18.2 0 38) - (1 : Int32))) x1 x2 x3 x4 x5 x7
          else none
          else none
          else none
def F9_goesOn_l115 (rc : Nat → Int32 → Int32 → Int32 → Int32 → Int32 → Mem → Option (Int32 × Mem)) : Nat → Mem → Int32 → Int32 → Int32 → Int32 → Int32 → Int32 → Option (Int32 × Mem)
  | 0, _, _, _, _, _, _, _ => none
  | fu + 1, M, x1, x2, x3, x4, x5, x7 => F9_goesOn_l115_b rc (F9_goesOn_l115 rc fu) M x1 x2 x3 x4 x5 x7
def F9_goesOn_j112 (rc : Nat → Int32 → Int32 → Int32 → Int32 → Int32 → Mem → Option (Int32 × Mem)) (M : Mem) (x1 : Int32) (x2 : Int32) (x3 : Int32) (x4 : Int32) (x5 : Int32) : Option (Int32 × Mem) :=
    F9_goesOn_l115 rc FUEL M x1 x2 x3 x4 x5 (0 : Int32)
def F9_goesOn_l83_b (rc : Nat → Int32 → Int32 → Int32 → Int32 → Int32 → Mem → Option (Int32 × Mem)) (rec83 : Mem → Int32 → Int32 → Int32 → Int32 → Int32 → Int32 → Option (Int32 × Mem)) (M : Mem) (x1 : Int32) (x2 : Int32) (x3 : Int32) (x4 : Int32) (x5 : Int32) (x7 : Int32) : Option (Int32 × Mem) :=
    if (M 0 38) ≤ x7 then
      F9_goesOn_j112 rc M x1 x2 x3 x4 x5
    else
      if inb x7 6 = true then
      rec83 (up2 M 14 (Int32.toNatClampNeg x7) (M 13 (Int32.toNatClampNeg x7))) x1 x2 x3 x4 x5 (x7 + (1 : Int32))
      else none
def F9_goesOn_l83 (rc : Nat → Int32 → Int32 → Int32 → Int32 → Int32 → Mem → Option (Int32 × Mem)) : Nat → Mem → Int32 → Int32 → Int32 → Int32 → Int32 → Int32 → Option (Int32 × Mem)
  | 0, _, _, _, _, _, _, _ => none
  | fu + 1, M, x1, x2, x3, x4, x5, x7 => F9_goesOn_l83_b rc (F9_goesOn_l83 rc fu) M x1 x2 x3 x4 x5 x7
def F9_goesOn_j61 (rc : Nat → Int32 → Int32 → Int32 → Int32 → Int32 → Mem → Option (Int32 × Mem)) (M : Mem) (x1 : Int32) (x2 : Int32) (x3 : Int32) (x4 : Int32) (x5 : Int32) (x6 : Int32) : Option (Int32 × Mem) :=
    F9_goesOn_l83 rc FUEL (up2 (up2 (up2 M 0 42 (1 : Int32)) 0 41 x6) 0 40 (M 0 38)) x1 x2 x3 x4 x5 (0 : Int32)
def F9_goesOn (rc : Nat → Int32 → Int32 → Int32 → Int32 → Int32 → Mem → Option (Int32 × Mem)) (M : Mem) (a1 : Int32) (a2 : Int32) (a3 : Int32) (a4 : Int32) (a5 : Int32) : Option (Int32 × Mem) :=
    Option.bind (F9_steps M a1 (0 : Int32)) fun r1 =>
    if inb (r1.2 0 38) 7 = true then
    Option.bind (F9_gainOf r1.2 (a3 + (r1.1 * (r1.2 12 (Int32.toNatClampNeg (r1.2 0 38))))) a4) fun r4 =>
    if (r4.2 0 42) = 0 then
      F9_goesOn_j61 rc r4.2 a1 a2 a3 a4 a5 r4.1
    else
      if (r4.2 0 41) < r4.1 then
        F9_goesOn_j61 rc r4.2 a1 a2 a3 a4 a5 r4.1
      else
        if ¬ r4.1 = (r4.2 0 41) then
          F9_goesOn_j112 rc r4.2 a1 a2 a3 a4 a5
        else
          if (r4.2 0 40) ≤ (r4.2 0 38) then
            F9_goesOn_j112 rc r4.2 a1 a2 a3 a4 a5
          else
            F9_goesOn_j61 rc r4.2 a1 a2 a3 a4 a5 r4.1
    else none
set_option maxRecDepth 20000 in
theorem F9_goesOn_j231_ok {p : Program} {l : Launch} {e : Env} {s : State} {m : MethodId} {args : Array Value} {below : List Frame} {meth : Method} {c : Code} {G : GG} {D : Nat} {r : Int32 × Mem} {rc : Nat → Int32 → Int32 → Int32 → Int32 → Int32 → Mem → Option (Int32 × Mem)} {rec115 : Mem → Int32 → Int32 → Int32 → Int32 → Int32 → Int32 → Option (Int32 × Mem)} (F : FrP shB G p s m args c RX9 cX9_goesOn 9) (hr : meth.sig.returnType = none) (hlk : meth.locks = false) (hD : 2 ≤ D) (hrc : (∀ (b0 : Int32) (b1 : Int32) (b2 : Int32) (b3 : Int32) (b4 : Int32) (M : Mem) (r : Int32 × Mem), rc 0 b0 b1 b2 b3 b4 M = some r → MetX shB l G yX9_goesOn cX9_goesOn 9 none (D - 1) [.ref 0, .int b0, .int b1, .int b2, .int b3, .int b4] M (none, r.2))) (hrec115 : ∀ (M : Mem) (x1 : Int32) (x2 : Int32) (x3 : Int32) (x4 : Int32) (x5 : Int32) (x7 : Int32), rec115 M x1 x2 x3 x4 x5 x7 = some r → XJ shB p l e (rmX D) s m args below meth c 0 0 G 9 (MQ below (QcX shB G ((none, r.2) : Option Value × Mem).1 ((none, r.2) : Option Value × Mem).2) args s 0 0 (AW shB G.2.1)) 115 [(0, .ref 0), (1, .int x1), (2, .int x2), (3, .int x3), (4, .int x4), (5, .int x5), (7, .int x7)] [] M) {M : Mem} {x1 : Int32} {x2 : Int32} {x3 : Int32} {x4 : Int32} {x5 : Int32} {x7 : Int32} (h : F9_goesOn_j231 rc rec115 M x1 x2 x3 x4 x5 x7 = some r) : XJ shB p l e (rmX D) s m args below meth c 0 0 G 9 (MQ below (QcX shB G ((none, r.2) : Option Value × Mem).1 ((none, r.2) : Option Value × Mem).2) args s 0 0 (AW shB G.2.1)) 231 [(0, .ref 0), (1, .int x1), (2, .int x2), (3, .int x3), (4, .int x4), (5, .int x5), (7, .int x7)] [] M := by
  unfold F9_goesOn_j231 at h
  refine X_iinc F dX9_goesOn_231 rfl (v := (1 : Int32)) rfl (by decide) rfl ?_
  refine X_goto (tgt := 115) F dX9_goesOn_234 (by decide) ?_
  refine X_pick [1, 2, 3, 4, 5, 6, 0] rfl ?_
  exact hrec115 _ _ _ _ _ _ _ h
set_option maxRecDepth 20000 in
theorem F9_goesOn_l115_bok {p : Program} {l : Launch} {e : Env} {s : State} {m : MethodId} {args : Array Value} {below : List Frame} {meth : Method} {c : Code} {G : GG} {D : Nat} {r : Int32 × Mem} {rc : Nat → Int32 → Int32 → Int32 → Int32 → Int32 → Mem → Option (Int32 × Mem)} {rec115 : Mem → Int32 → Int32 → Int32 → Int32 → Int32 → Int32 → Option (Int32 × Mem)} (F : FrP shB G p s m args c RX9 cX9_goesOn 9) (hr : meth.sig.returnType = none) (hlk : meth.locks = false) (hD : 2 ≤ D) (hrc : (∀ (b0 : Int32) (b1 : Int32) (b2 : Int32) (b3 : Int32) (b4 : Int32) (M : Mem) (r : Int32 × Mem), rc 0 b0 b1 b2 b3 b4 M = some r → MetX shB l G yX9_goesOn cX9_goesOn 9 none (D - 1) [.ref 0, .int b0, .int b1, .int b2, .int b3, .int b4] M (none, r.2))) (hrec115 : ∀ (M : Mem) (x1 : Int32) (x2 : Int32) (x3 : Int32) (x4 : Int32) (x5 : Int32) (x7 : Int32), rec115 M x1 x2 x3 x4 x5 x7 = some r → XJ shB p l e (rmX D) s m args below meth c 0 0 G 9 (MQ below (QcX shB G ((none, r.2) : Option Value × Mem).1 ((none, r.2) : Option Value × Mem).2) args s 0 0 (AW shB G.2.1)) 115 [(0, .ref 0), (1, .int x1), (2, .int x2), (3, .int x3), (4, .int x4), (5, .int x5), (7, .int x7)] [] M) {M : Mem} {x1 : Int32} {x2 : Int32} {x3 : Int32} {x4 : Int32} {x5 : Int32} {x7 : Int32} (h : F9_goesOn_l115_b rc rec115 M x1 x2 x3 x4 x5 x7 = some r) : XJ shB p l e (rmX D) s m args below meth c 0 0 G 9 (MQ below (QcX shB G ((none, r.2) : Option Value × Mem).1 ((none, r.2) : Option Value × Mem).2) args s 0 0 (AW shB G.2.1)) 115 [(0, .ref 0), (1, .int x1), (2, .int x2), (3, .int x3), (4, .int x4), (5, .int x5), (7, .int x7)] [] M := by
  unfold F9_goesOn_l115_b at h
  refine X_iload F dX9_goesOn_115 rfl ?_
  refine X_aload_n F dX9_goesOn_117 rfl ?_
  refine X_geti (v := (M 0 16)) F ffRX9_92 dX9_goesOn_118 rfl ?_
  refine X_icmp_ge (tgt := 237) F dX9_goesOn_121 (by decide) (fun q10 => ?_) (fun q10 => ?_)
  · rw [if_pos q10] at h
    exact X_vret F hr hlk (retV h) dX9_goesOn_237
  · rw [if_neg q10] at h
    refine X_iload_n F dX9_goesOn_124 rfl ?_
    refine X_iload F dX9_goesOn_125 rfl ?_
    refine X_ishr F dX9_goesOn_127 ?_
    refine X_iconst F dX9_goesOn_128 (v := (1 : Int32)) rfl ?_
    refine X_iand F dX9_goesOn_129 ?_
    refine X_if_ne (tgt := 231) F dX9_goesOn_130 (by decide) (fun q11 => ?_) (fun q11 => ?_)
    · rw [if_pos q11] at h
      exact F9_goesOn_j231_ok F hr hlk hD hrc hrec115 h
    · rw [if_neg (fun z => z q11)] at h
      refine X_iload F dX9_goesOn_133 rfl ?_
      refine X_iload F dX9_goesOn_135 rfl ?_
      refine X_ishr F dX9_goesOn_137 ?_
      refine X_iconst F dX9_goesOn_138 (v := (1 : Int32)) rfl ?_
      refine X_iand F dX9_goesOn_139 ?_
      refine X_iconst F dX9_goesOn_140 (v := (1 : Int32)) rfl ?_
      refine X_icmp_ne (tgt := 231) F dX9_goesOn_141 (by decide) (fun q12 => ?_) (fun q12 => ?_)
      · rw [if_pos q12] at h
        exact F9_goesOn_j231_ok F hr hlk hD hrc hrec115 h
      · rw [if_neg (fun z => z q12)] at h
        refine X_iload_n F dX9_goesOn_144 rfl ?_
        refine X_iload_n F dX9_goesOn_145 rfl ?_
        refine X_aload_n F dX9_goesOn_146 rfl ?_
        refine X_getr F ffRX9_32 dX9_goesOn_147 ?_
        refine X_iload F dX9_goesOn_150 rfl ?_
        obtain ⟨q13, h⟩ := ifS h
        refine X_iald (j := (Int32.toNatClampNeg x7)) (v := (M 7 (Int32.toNatClampNeg x7))) F rfl (inbV q13) rfl rfl dX9_goesOn_152 ?_
        obtain ⟨r14, h15, h⟩ := bndS h
        refine X_callS (As := [.int x1, .int (M 7 (Int32.toNatClampNeg x7))]) (rest := [.int x3]) F fsRX9_278 feX9_steps ftX9_steps (F9_steps_met (D := D - 1) F.2.2.2.2.2.2.2.1 (by omega) h15) rfl rfl (Nat.le_of_ble_eq_true rfl) (rm_ok (by omega) (by decide)) dX9_goesOn_153 ?_
        show XJ shB p l e (rmX D) s m args below meth c 0 0 G 9 (MQ below (QcX shB G ((none, r.2) : Option Value × Mem).1 ((none, r.2) : Option Value × Mem).2) args s 0 0 (AW shB G.2.1)) 156 [(0, .ref 0), (1, .int x1), (2, .int x2), (3, .int x3), (4, .int x4), (5, .int x5), (7, .int x7)] [.int r14.1, .int x3] r14.2
        refine X_aload_n F dX9_goesOn_156 rfl ?_
        refine X_getr F ffRX9_47 dX9_goesOn_157 ?_
        refine X_aload_n F dX9_goesOn_160 rfl ?_
        refine X_geti (v := (r14.2 0 38)) F ffRX9_275 dX9_goesOn_161 rfl ?_
        obtain ⟨q16, h⟩ := ifS h
        refine X_iald (j := (Int32.toNatClampNeg (r14.2 0 38))) (v := (r14.2 12 (Int32.toNatClampNeg (r14.2 0 38)))) F rfl (inbV q16) rfl rfl dX9_goesOn_164 ?_
        refine X_imul F dX9_goesOn_165 ?_
        refine X_iadd F dX9_goesOn_166 ?_
        refine X_istore F dX9_goesOn_167 (by decide) rfl ?_
        refine X_aload_n F dX9_goesOn_169 rfl ?_
        refine X_getr F ffRX9_50 dX9_goesOn_170 ?_
        refine X_aload_n F dX9_goesOn_173 rfl ?_
        refine X_geti (v := (r14.2 0 38)) F ffRX9_275 dX9_goesOn_174 rfl ?_
        refine X_iload F dX9_goesOn_177 rfl ?_
        obtain ⟨q17, h⟩ := ifS h
        refine X_iast (j := (Int32.toNatClampNeg (r14.2 0 38))) F rfl (inbV q17) rfl dX9_goesOn_179 ?_
        refine X_aload_n F dX9_goesOn_180 rfl ?_
        refine X_dup F dX9_goesOn_181 rfl ?_
        refine X_geti (v := (r14.2 0 38)) F ffRX9_275 dX9_goesOn_182 rfl ?_
        refine X_iconst F dX9_goesOn_185 (v := (1 : Int32)) rfl ?_
        refine X_iadd F dX9_goesOn_186 ?_
        refine X_puti F ffRX9_275 fw9_38 (by decide) dX9_goesOn_187 ?_
        refine X_aload_n F dX9_goesOn_190 rfl ?_
        refine X_aload_n F dX9_goesOn_191 rfl ?_
        refine X_getr F ffRX9_32 dX9_goesOn_192 ?_
        refine X_iload F dX9_goesOn_195 rfl ?_
        refine X_iald (j := (Int32.toNatClampNeg x7)) (v := (r14.2 7 (Int32.toNatClampNeg x7))) F rfl (inbV q13) rfl rfl dX9_goesOn_197 ?_
        refine X_iload_n F dX9_goesOn_198 rfl ?_
        refine X_iconst F dX9_goesOn_199 (v := (1 : Int32)) rfl ?_
        refine X_iload F dX9_goesOn_200 rfl ?_
        refine X_ishl F dX9_goesOn_202 ?_
        refine X_ior F dX9_goesOn_203 ?_
        refine X_iload F dX9_goesOn_204 rfl ?_
        refine X_iload F dX9_goesOn_206 rfl ?_
        refine X_aload_n F dX9_goesOn_208 rfl ?_
        refine X_getr F ffRX9_35 dX9_goesOn_209 ?_
        refine X_iload F dX9_goesOn_212 rfl ?_
        refine X_iald (j := (Int32.toNatClampNeg x7)) (v := (r14.2 8 (Int32.toNatClampNeg x7))) F rfl (inbV q13) rfl rfl dX9_goesOn_214 ?_
        refine X_iadd F dX9_goesOn_215 ?_
        refine X_iload F dX9_goesOn_216 rfl ?_
        obtain ⟨r18, h19, h⟩ := bndS h
        refine X_callV (ci := 0) (As := [.int (r14.2 7 (Int32.toNatClampNeg x7)), .int (x2 ||| ((1 : Int32) <<< (x7 &&& 31))), .int (x3 + (r14.1 * (r14.2 12 (Int32.toNatClampNeg (r14.2 0 38))))), .int (x4 + (r14.2 8 (Int32.toNatClampNeg x7))), .int x5]) (rest := []) F fkRX9_309 feX9_goesOn fvX9_goesOn ⟨_, _, _, rfl, rfl, rfl⟩ (hrc _ _ _ _ _ _ _ h19) rfl rfl (Nat.le_of_ble_eq_true rfl) (rm_ok (by omega) (by decide)) dX9_goesOn_218 ?_
        show XJ shB p l e (rmX D) s m args below meth c 0 0 G 9 (MQ below (QcX shB G ((none, r.2) : Option Value × Mem).1 ((none, r.2) : Option Value × Mem).2) args s 0 0 (AW shB G.2.1)) 221 [(8, .int (x3 + (r14.1 * (r14.2 12 (Int32.toNatClampNeg (r14.2 0 38)))))), (0, .ref 0), (1, .int x1), (2, .int x2), (3, .int x3), (4, .int x4), (5, .int x5), (7, .int x7)] [] r18.2
        refine X_aload_n F dX9_goesOn_221 rfl ?_
        refine X_dup F dX9_goesOn_222 rfl ?_
        refine X_geti (v := (r18.2 0 38)) F ffRX9_275 dX9_goesOn_223 rfl ?_
        refine X_iconst F dX9_goesOn_226 (v := (1 : Int32)) rfl ?_
        refine X_isub F dX9_goesOn_227 ?_
        refine X_puti F ffRX9_275 fw9_38 (by decide) dX9_goesOn_228 ?_
        refine X_pick [1, 2, 3, 4, 5, 6, 7] rfl ?_
        exact F9_goesOn_j231_ok F hr hlk hD hrc hrec115 h
set_option maxRecDepth 20000 in
theorem F9_goesOn_l115_ok {p : Program} {l : Launch} {e : Env} {s : State} {m : MethodId} {args : Array Value} {below : List Frame} {meth : Method} {c : Code} {G : GG} {D : Nat} {r : Int32 × Mem} {rc : Nat → Int32 → Int32 → Int32 → Int32 → Int32 → Mem → Option (Int32 × Mem)} (F : FrP shB G p s m args c RX9 cX9_goesOn 9) (hr : meth.sig.returnType = none) (hlk : meth.locks = false) (hD : 2 ≤ D) (hrc : (∀ (b0 : Int32) (b1 : Int32) (b2 : Int32) (b3 : Int32) (b4 : Int32) (M : Mem) (r : Int32 × Mem), rc 0 b0 b1 b2 b3 b4 M = some r → MetX shB l G yX9_goesOn cX9_goesOn 9 none (D - 1) [.ref 0, .int b0, .int b1, .int b2, .int b3, .int b4] M (none, r.2))) : ∀ (fu : Nat) (M : Mem) (x1 : Int32) (x2 : Int32) (x3 : Int32) (x4 : Int32) (x5 : Int32) (x7 : Int32), F9_goesOn_l115 rc fu M x1 x2 x3 x4 x5 x7 = some r → XJ shB p l e (rmX D) s m args below meth c 0 0 G 9 (MQ below (QcX shB G ((none, r.2) : Option Value × Mem).1 ((none, r.2) : Option Value × Mem).2) args s 0 0 (AW shB G.2.1)) 115 [(0, .ref 0), (1, .int x1), (2, .int x2), (3, .int x3), (4, .int x4), (5, .int x5), (7, .int x7)] [] M := by
  intro fu
  induction fu with
  | zero => intro M x1 x2 x3 x4 x5 x7 h; cases h
  | succ fu ih => intro M x1 x2 x3 x4 x5 x7 h; exact F9_goesOn_l115_bok F hr hlk hD hrc (fun M x1 x2 x3 x4 x5 x7 => ih M x1 x2 x3 x4 x5 x7) h
set_option maxRecDepth 20000 in
theorem F9_goesOn_j112_ok {p : Program} {l : Launch} {e : Env} {s : State} {m : MethodId} {args : Array Value} {below : List Frame} {meth : Method} {c : Code} {G : GG} {D : Nat} {r : Int32 × Mem} {rc : Nat → Int32 → Int32 → Int32 → Int32 → Int32 → Mem → Option (Int32 × Mem)} (F : FrP shB G p s m args c RX9 cX9_goesOn 9) (hr : meth.sig.returnType = none) (hlk : meth.locks = false) (hD : 2 ≤ D) (hrc : (∀ (b0 : Int32) (b1 : Int32) (b2 : Int32) (b3 : Int32) (b4 : Int32) (M : Mem) (r : Int32 × Mem), rc 0 b0 b1 b2 b3 b4 M = some r → MetX shB l G yX9_goesOn cX9_goesOn 9 none (D - 1) [.ref 0, .int b0, .int b1, .int b2, .int b3, .int b4] M (none, r.2))) {M : Mem} {x1 : Int32} {x2 : Int32} {x3 : Int32} {x4 : Int32} {x5 : Int32} (h : F9_goesOn_j112 rc M x1 x2 x3 x4 x5 = some r) : XJ shB p l e (rmX D) s m args below meth c 0 0 G 9 (MQ below (QcX shB G ((none, r.2) : Option Value × Mem).1 ((none, r.2) : Option Value × Mem).2) args s 0 0 (AW shB G.2.1)) 112 [(0, .ref 0), (1, .int x1), (2, .int x2), (3, .int x3), (4, .int x4), (5, .int x5)] [] M := by
  unfold F9_goesOn_j112 at h
  refine X_iconst F dX9_goesOn_112 (v := (0 : Int32)) rfl ?_
  refine X_istore F dX9_goesOn_113 (by decide) rfl ?_
  refine X_pick [1, 2, 3, 4, 5, 6, 0] rfl ?_
  exact F9_goesOn_l115_ok F hr hlk hD hrc FUEL _ _ _ _ _ _ _ h
set_option maxRecDepth 20000 in
theorem F9_goesOn_l83_bok {p : Program} {l : Launch} {e : Env} {s : State} {m : MethodId} {args : Array Value} {below : List Frame} {meth : Method} {c : Code} {G : GG} {D : Nat} {r : Int32 × Mem} {rc : Nat → Int32 → Int32 → Int32 → Int32 → Int32 → Mem → Option (Int32 × Mem)} {rec83 : Mem → Int32 → Int32 → Int32 → Int32 → Int32 → Int32 → Option (Int32 × Mem)} (F : FrP shB G p s m args c RX9 cX9_goesOn 9) (hr : meth.sig.returnType = none) (hlk : meth.locks = false) (hD : 2 ≤ D) (hrc : (∀ (b0 : Int32) (b1 : Int32) (b2 : Int32) (b3 : Int32) (b4 : Int32) (M : Mem) (r : Int32 × Mem), rc 0 b0 b1 b2 b3 b4 M = some r → MetX shB l G yX9_goesOn cX9_goesOn 9 none (D - 1) [.ref 0, .int b0, .int b1, .int b2, .int b3, .int b4] M (none, r.2))) (hrec83 : ∀ (M : Mem) (x1 : Int32) (x2 : Int32) (x3 : Int32) (x4 : Int32) (x5 : Int32) (x7 : Int32), rec83 M x1 x2 x3 x4 x5 x7 = some r → XJ shB p l e (rmX D) s m args below meth c 0 0 G 9 (MQ below (QcX shB G ((none, r.2) : Option Value × Mem).1 ((none, r.2) : Option Value × Mem).2) args s 0 0 (AW shB G.2.1)) 83 [(0, .ref 0), (1, .int x1), (2, .int x2), (3, .int x3), (4, .int x4), (5, .int x5), (7, .int x7)] [] M) {M : Mem} {x1 : Int32} {x2 : Int32} {x3 : Int32} {x4 : Int32} {x5 : Int32} {x7 : Int32} (h : F9_goesOn_l83_b rc rec83 M x1 x2 x3 x4 x5 x7 = some r) : XJ shB p l e (rmX D) s m args below meth c 0 0 G 9 (MQ below (QcX shB G ((none, r.2) : Option Value × Mem).1 ((none, r.2) : Option Value × Mem).2) args s 0 0 (AW shB G.2.1)) 83 [(0, .ref 0), (1, .int x1), (2, .int x2), (3, .int x3), (4, .int x4), (5, .int x5), (7, .int x7)] [] M := by
  unfold F9_goesOn_l83_b at h
  refine X_iload F dX9_goesOn_83 rfl ?_
  refine X_aload_n F dX9_goesOn_85 rfl ?_
  refine X_geti (v := (M 0 38)) F ffRX9_275 dX9_goesOn_86 rfl ?_
  refine X_icmp_ge (tgt := 112) F dX9_goesOn_89 (by decide) (fun q20 => ?_) (fun q20 => ?_)
  · rw [if_pos q20] at h
    refine X_pick [0, 1, 2, 3, 4, 5] rfl ?_
    exact F9_goesOn_j112_ok F hr hlk hD hrc h
  · rw [if_neg q20] at h
    refine X_aload_n F dX9_goesOn_92 rfl ?_
    refine X_getr F ffRX9_53 dX9_goesOn_93 ?_
    refine X_iload F dX9_goesOn_96 rfl ?_
    refine X_aload_n F dX9_goesOn_98 rfl ?_
    refine X_getr F ffRX9_50 dX9_goesOn_99 ?_
    refine X_iload F dX9_goesOn_102 rfl ?_
    obtain ⟨q21, h⟩ := ifS h
    refine X_iald (j := (Int32.toNatClampNeg x7)) (v := (M 13 (Int32.toNatClampNeg x7))) F rfl (inbV q21) rfl rfl dX9_goesOn_104 ?_
    refine X_iast (j := (Int32.toNatClampNeg x7)) F rfl (inbV q21) rfl dX9_goesOn_105 ?_
    refine X_iinc F dX9_goesOn_106 rfl (v := (1 : Int32)) rfl (by decide) rfl ?_
    refine X_goto (tgt := 83) F dX9_goesOn_109 (by decide) ?_
    refine X_pick [1, 2, 3, 4, 5, 6, 0] rfl ?_
    exact hrec83 _ _ _ _ _ _ _ h
set_option maxRecDepth 20000 in
theorem F9_goesOn_l83_ok {p : Program} {l : Launch} {e : Env} {s : State} {m : MethodId} {args : Array Value} {below : List Frame} {meth : Method} {c : Code} {G : GG} {D : Nat} {r : Int32 × Mem} {rc : Nat → Int32 → Int32 → Int32 → Int32 → Int32 → Mem → Option (Int32 × Mem)} (F : FrP shB G p s m args c RX9 cX9_goesOn 9) (hr : meth.sig.returnType = none) (hlk : meth.locks = false) (hD : 2 ≤ D) (hrc : (∀ (b0 : Int32) (b1 : Int32) (b2 : Int32) (b3 : Int32) (b4 : Int32) (M : Mem) (r : Int32 × Mem), rc 0 b0 b1 b2 b3 b4 M = some r → MetX shB l G yX9_goesOn cX9_goesOn 9 none (D - 1) [.ref 0, .int b0, .int b1, .int b2, .int b3, .int b4] M (none, r.2))) : ∀ (fu : Nat) (M : Mem) (x1 : Int32) (x2 : Int32) (x3 : Int32) (x4 : Int32) (x5 : Int32) (x7 : Int32), F9_goesOn_l83 rc fu M x1 x2 x3 x4 x5 x7 = some r → XJ shB p l e (rmX D) s m args below meth c 0 0 G 9 (MQ below (QcX shB G ((none, r.2) : Option Value × Mem).1 ((none, r.2) : Option Value × Mem).2) args s 0 0 (AW shB G.2.1)) 83 [(0, .ref 0), (1, .int x1), (2, .int x2), (3, .int x3), (4, .int x4), (5, .int x5), (7, .int x7)] [] M := by
  intro fu
  induction fu with
  | zero => intro M x1 x2 x3 x4 x5 x7 h; cases h
  | succ fu ih => intro M x1 x2 x3 x4 x5 x7 h; exact F9_goesOn_l83_bok F hr hlk hD hrc (fun M x1 x2 x3 x4 x5 x7 => ih M x1 x2 x3 x4 x5 x7) h
set_option maxRecDepth 20000 in
theorem F9_goesOn_j61_ok {p : Program} {l : Launch} {e : Env} {s : State} {m : MethodId} {args : Array Value} {below : List Frame} {meth : Method} {c : Code} {G : GG} {D : Nat} {r : Int32 × Mem} {rc : Nat → Int32 → Int32 → Int32 → Int32 → Int32 → Mem → Option (Int32 × Mem)} (F : FrP shB G p s m args c RX9 cX9_goesOn 9) (hr : meth.sig.returnType = none) (hlk : meth.locks = false) (hD : 2 ≤ D) (hrc : (∀ (b0 : Int32) (b1 : Int32) (b2 : Int32) (b3 : Int32) (b4 : Int32) (M : Mem) (r : Int32 × Mem), rc 0 b0 b1 b2 b3 b4 M = some r → MetX shB l G yX9_goesOn cX9_goesOn 9 none (D - 1) [.ref 0, .int b0, .int b1, .int b2, .int b3, .int b4] M (none, r.2))) {M : Mem} {x1 : Int32} {x2 : Int32} {x3 : Int32} {x4 : Int32} {x5 : Int32} {x6 : Int32} (h : F9_goesOn_j61 rc M x1 x2 x3 x4 x5 x6 = some r) : XJ shB p l e (rmX D) s m args below meth c 0 0 G 9 (MQ below (QcX shB G ((none, r.2) : Option Value × Mem).1 ((none, r.2) : Option Value × Mem).2) args s 0 0 (AW shB G.2.1)) 61 [(0, .ref 0), (1, .int x1), (2, .int x2), (3, .int x3), (4, .int x4), (5, .int x5), (6, .int x6)] [] M := by
  unfold F9_goesOn_j61 at h
  refine X_aload_n F dX9_goesOn_61 rfl ?_
  refine X_iconst F dX9_goesOn_62 (v := (1 : Int32)) rfl ?_
  refine X_putz F ffRX9_300 fw9_42 (by decide) dX9_goesOn_63 ⟨rfl, rfl⟩ ?_
  refine X_aload_n F dX9_goesOn_66 rfl ?_
  refine X_iload F dX9_goesOn_67 rfl ?_
  refine X_puti F ffRX9_303 fw9_41 (by decide) dX9_goesOn_69 ?_
  refine X_aload_n F dX9_goesOn_72 rfl ?_
  refine X_aload_n F dX9_goesOn_73 rfl ?_
  refine X_geti (v := (M 0 38)) F ffRX9_275 dX9_goesOn_74 rfl ?_
  refine X_puti F ffRX9_306 fw9_40 (by decide) dX9_goesOn_77 ?_
  refine X_iconst F dX9_goesOn_80 (v := (0 : Int32)) rfl ?_
  refine X_istore F dX9_goesOn_81 (by decide) rfl ?_
  refine X_pick [1, 2, 3, 4, 5, 6, 0] rfl ?_
  exact F9_goesOn_l83_ok F hr hlk hD hrc FUEL _ _ _ _ _ _ _ h
set_option maxRecDepth 20000 in
theorem F9_goesOn_ok {p : Program} {l : Launch} {e : Env} {s : State} {m : MethodId} {args : Array Value} {below : List Frame} {meth : Method} {c : Code} {G : GG} {D : Nat} {r : Int32 × Mem} {rc : Nat → Int32 → Int32 → Int32 → Int32 → Int32 → Mem → Option (Int32 × Mem)} (F : FrP shB G p s m args c RX9 cX9_goesOn 9) (hr : meth.sig.returnType = none) (hlk : meth.locks = false) (hD : 2 ≤ D) (hrc : (∀ (b0 : Int32) (b1 : Int32) (b2 : Int32) (b3 : Int32) (b4 : Int32) (M : Mem) (r : Int32 × Mem), rc 0 b0 b1 b2 b3 b4 M = some r → MetX shB l G yX9_goesOn cX9_goesOn 9 none (D - 1) [.ref 0, .int b0, .int b1, .int b2, .int b3, .int b4] M (none, r.2))) {M : Mem} {a1 : Int32} {a2 : Int32} {a3 : Int32} {a4 : Int32} {a5 : Int32} (h : F9_goesOn rc M a1 a2 a3 a4 a5 = some r) : XJ shB p l e (rmX D) s m args below meth c 0 0 G 9 (MQ below (QcX shB G ((none, r.2) : Option Value × Mem).1 ((none, r.2) : Option Value × Mem).2) args s 0 0 (AW shB G.2.1)) 0 [(0, .ref 0), (1, .int a1), (2, .int a2), (3, .int a3), (4, .int a4), (5, .int a5)] [] M := by
  unfold F9_goesOn at h
  refine X_aload_n F dX9_goesOn_0 rfl ?_
  refine X_iload_n F dX9_goesOn_1 rfl ?_
  refine X_iload_n F dX9_goesOn_2 rfl ?_
  refine X_iconst F dX9_goesOn_3 (v := (0 : Int32)) rfl ?_
  obtain ⟨r1, h2, h⟩ := bndS h
  refine X_callS (As := [.int a1, .int (0 : Int32)]) (rest := [.int a3, .ref 0]) F fsRX9_278 feX9_steps ftX9_steps (F9_steps_met (D := D - 1) F.2.2.2.2.2.2.2.1 (by omega) h2) rfl rfl (Nat.le_of_ble_eq_true rfl) (rm_ok (by omega) (by decide)) dX9_goesOn_4 ?_
  show XJ shB p l e (rmX D) s m args below meth c 0 0 G 9 (MQ below (QcX shB G ((none, r.2) : Option Value × Mem).1 ((none, r.2) : Option Value × Mem).2) args s 0 0 (AW shB G.2.1)) 7 [(0, .ref 0), (1, .int a1), (2, .int a2), (3, .int a3), (4, .int a4), (5, .int a5)] [.int r1.1, .int a3, .ref 0] r1.2
  refine X_aload_n F dX9_goesOn_7 rfl ?_
  refine X_getr F ffRX9_47 dX9_goesOn_8 ?_
  refine X_aload_n F dX9_goesOn_11 rfl ?_
  refine X_geti (v := (r1.2 0 38)) F ffRX9_275 dX9_goesOn_12 rfl ?_
  obtain ⟨q3, h⟩ := ifS h
  refine X_iald (j := (Int32.toNatClampNeg (r1.2 0 38))) (v := (r1.2 12 (Int32.toNatClampNeg (r1.2 0 38)))) F rfl (inbV q3) rfl rfl dX9_goesOn_15 ?_
  refine X_imul F dX9_goesOn_16 ?_
  refine X_iadd F dX9_goesOn_17 ?_
  refine X_iload F dX9_goesOn_18 rfl ?_
  obtain ⟨r4, h5, h⟩ := bndS h
  refine X_callV (ci := 0) (As := [.int (a3 + (r1.1 * (r1.2 12 (Int32.toNatClampNeg (r1.2 0 38))))), .int a4]) (rest := []) F fkRX9_294 feX9_gainOf fvX9_gainOf ⟨_, _, _, rfl, rfl, rfl⟩ (F9_gainOf_met (D := D - 1) F.2.2.2.2.2.2.2.1 (by omega) h5) rfl rfl (Nat.le_of_ble_eq_true rfl) (rm_ok (by omega) (by decide)) dX9_goesOn_20 ?_
  show XJ shB p l e (rmX D) s m args below meth c 0 0 G 9 (MQ below (QcX shB G ((none, r.2) : Option Value × Mem).1 ((none, r.2) : Option Value × Mem).2) args s 0 0 (AW shB G.2.1)) 23 [(0, .ref 0), (1, .int a1), (2, .int a2), (3, .int a3), (4, .int a4), (5, .int a5)] [.int r4.1] r4.2
  refine X_istore F dX9_goesOn_23 (by decide) rfl ?_
  refine X_aload_n F dX9_goesOn_25 rfl ?_
  refine X_geti (v := (r4.2 0 42)) F ffRX9_300 dX9_goesOn_26 rfl ?_
  refine X_if_eq (tgt := 61) F dX9_goesOn_29 (by decide) (fun q6 => ?_) (fun q6 => ?_)
  · rw [if_pos q6] at h
    refine X_pick [1, 2, 3, 4, 5, 6, 0] rfl ?_
    exact F9_goesOn_j61_ok F hr hlk hD hrc h
  · rw [if_neg q6] at h
    refine X_iload F dX9_goesOn_32 rfl ?_
    refine X_aload_n F dX9_goesOn_34 rfl ?_
    refine X_geti (v := (r4.2 0 41)) F ffRX9_303 dX9_goesOn_35 rfl ?_
    refine X_icmp_gt (tgt := 61) F dX9_goesOn_38 (by decide) (fun q7 => ?_) (fun q7 => ?_)
    · rw [if_pos q7] at h
      refine X_pick [1, 2, 3, 4, 5, 6, 0] rfl ?_
      exact F9_goesOn_j61_ok F hr hlk hD hrc h
    · rw [if_neg q7] at h
      refine X_iload F dX9_goesOn_41 rfl ?_
      refine X_aload_n F dX9_goesOn_43 rfl ?_
      refine X_geti (v := (r4.2 0 41)) F ffRX9_303 dX9_goesOn_44 rfl ?_
      refine X_icmp_ne (tgt := 112) F dX9_goesOn_47 (by decide) (fun q8 => ?_) (fun q8 => ?_)
      · rw [if_pos q8] at h
        refine X_pick [1, 2, 3, 4, 5, 6] rfl ?_
        exact F9_goesOn_j112_ok F hr hlk hD hrc h
      · rw [if_neg (fun z => z q8)] at h
        refine X_aload_n F dX9_goesOn_50 rfl ?_
        refine X_geti (v := (r4.2 0 38)) F ffRX9_275 dX9_goesOn_51 rfl ?_
        refine X_aload_n F dX9_goesOn_54 rfl ?_
        refine X_geti (v := (r4.2 0 40)) F ffRX9_306 dX9_goesOn_55 rfl ?_
        refine X_icmp_ge (tgt := 112) F dX9_goesOn_58 (by decide) (fun q9 => ?_) (fun q9 => ?_)
        · rw [if_pos q9] at h
          refine X_pick [1, 2, 3, 4, 5, 6] rfl ?_
          exact F9_goesOn_j112_ok F hr hlk hD hrc h
        · rw [if_neg q9] at h
          refine X_pick [1, 2, 3, 4, 5, 6, 0] rfl ?_
          exact F9_goesOn_j61_ok F hr hlk hD hrc h
def S4 : Nat → Nat → Int32 → Int32 → Int32 → Int32 → Int32 → Mem → Option (Int32 × Mem)
  | 0, _, _, _, _, _, _, _ => none
  | fu + 1, _, b0, b1, b2, b3, b4, M => F9_goesOn (S4 fu) M b0 b1 b2 b3 b4
set_option maxRecDepth 20000 in
theorem S4_met {l : Launch} {G : GG} (hI : Inj shB G.2.1) : ∀ (fu D : Nat), 2 + fu ≤ D → ((∀ (b0 : Int32) (b1 : Int32) (b2 : Int32) (b3 : Int32) (b4 : Int32) (M : Mem) (r : Int32 × Mem), S4 fu 0 b0 b1 b2 b3 b4 M = some r → MetX shB l G yX9_goesOn cX9_goesOn 9 none (D) [.ref 0, .int b0, .int b1, .int b2, .int b3, .int b4] M (none, r.2))) := by
  intro fu
  induction fu with
  | zero =>
    intro D _
    intro b0 b1 b2 b3 b4 M r h; cases h
  | succ fu ih =>
    intro D hD
    have hrc := ih (D - 1) (by omega)
    intro b0 b1 b2 b3 b4 M r h; exact X_met hI (by decide +kernel) (Nat.le_of_ble_eq_true rfl) (fun p e s m args below meth c F hr hlk => F9_goesOn_ok F hr hlk (by omega) hrc h)
set_option maxRecDepth 20000 in
theorem F9_goesOn_met {l : Launch} {G : GG} {D : Nat} {r : Int32 × Mem} {M : Mem} {b0 : Int32} {b1 : Int32} {b2 : Int32} {b3 : Int32} {b4 : Int32} (hI : Inj shB G.2.1) (hD : 11 ≤ D) (h : S4 9 0 b0 b1 b2 b3 b4 M = some r) : MetX shB l G yX9_goesOn cX9_goesOn 9 none D [.ref 0, .int b0, .int b1, .int b2, .int b3, .int b4] M (none, r.2) := (S4_met hI 9 D hD) _ _ _ _ _ _ _ h

