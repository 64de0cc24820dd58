/-! written by wip/whole/gen: the pure functions of these methods, read off their bytecode, and the walks that prove them -/
theorem wsIn0 : ∀ w ∈ u_ws RX0 TX0 16, w ∈ TBL := by
  show ∀ w ∈ [u_lay RX0 TX0 0, u_lay RX0 TX0 1, u_lay RX0 TX0 2, u_lay RX0 TX0 3, u_lay RX0 TX0 4, u_lay RX0 TX0 5, u_lay RX0 TX0 6, u_lay RX0 TX0 7, u_lay RX0 TX0 8, u_lay RX0 TX0 9, u_lay RX0 TX0 10, u_lay RX0 TX0 11, u_lay RX0 TX0 12, u_lay RX0 TX0 13, u_lay RX0 TX0 14, u_lay RX0 TX0 15], w ∈ TBL
  exact List.forall_mem_cons.mpr ⟨tmem 224 (by decide +kernel) rfl, List.forall_mem_cons.mpr ⟨tmem 226 (by decide +kernel) rfl, List.forall_mem_cons.mpr ⟨tmem 228 (by decide +kernel) rfl, List.forall_mem_cons.mpr ⟨tmem 230 (by decide +kernel) rfl, List.forall_mem_cons.mpr ⟨tmem 232 (by decide +kernel) rfl, List.forall_mem_cons.mpr ⟨tmem 234 (by decide +kernel) rfl, List.forall_mem_cons.mpr ⟨tmem 236 (by decide +kernel) rfl, List.forall_mem_cons.mpr ⟨tmem 238 (by decide +kernel) rfl, List.forall_mem_cons.mpr ⟨tmem 240 (by decide +kernel) rfl, List.forall_mem_cons.mpr ⟨tmem 242 (by decide +kernel) rfl, List.forall_mem_cons.mpr ⟨tmem 244 (by decide +kernel) rfl, List.forall_mem_cons.mpr ⟨tmem 246 (by decide +kernel) rfl, List.forall_mem_cons.mpr ⟨tmem 248 (by decide +kernel) rfl, List.forall_mem_cons.mpr ⟨tmem 250 (by decide +kernel) rfl, List.forall_mem_cons.mpr ⟨tmem 252 (by decide +kernel) rfl, List.forall_mem_cons.mpr ⟨tmem 254 (by decide +kernel) rfl, fun _ h => absurd h List.not_mem_nil⟩⟩⟩⟩⟩⟩⟩⟩⟩⟩⟩⟩⟩⟩⟩⟩
theorem wsIn1 : ∀ w ∈ u_ws RX1 TX1 11, w ∈ TBL := by
  show ∀ w ∈ [u_lay RX1 TX1 0, u_lay RX1 TX1 1, u_lay RX1 TX1 2, u_lay RX1 TX1 3, u_lay RX1 TX1 4, u_lay RX1 TX1 5, u_lay RX1 TX1 6, u_lay RX1 TX1 7, u_lay RX1 TX1 8, u_lay RX1 TX1 9, u_lay RX1 TX1 10], w ∈ TBL
  exact List.forall_mem_cons.mpr ⟨tmem 296 (by decide +kernel) rfl, List.forall_mem_cons.mpr ⟨tmem 298 (by decide +kernel) rfl, List.forall_mem_cons.mpr ⟨tmem 300 (by decide +kernel) rfl, List.forall_mem_cons.mpr ⟨tmem 302 (by decide +kernel) rfl, List.forall_mem_cons.mpr ⟨tmem 304 (by decide +kernel) rfl, List.forall_mem_cons.mpr ⟨tmem 306 (by decide +kernel) rfl, List.forall_mem_cons.mpr ⟨tmem 308 (by decide +kernel) rfl, List.forall_mem_cons.mpr ⟨tmem 310 (by decide +kernel) rfl, List.forall_mem_cons.mpr ⟨tmem 312 (by decide +kernel) rfl, List.forall_mem_cons.mpr ⟨tmem 314 (by decide +kernel) rfl, List.forall_mem_cons.mpr ⟨tmem 316 (by decide +kernel) rfl, fun _ h => absurd h List.not_mem_nil⟩⟩⟩⟩⟩⟩⟩⟩⟩⟩⟩
theorem wsIn2 : ∀ w ∈ u_ws RX2 TX2 6, w ∈ TBL := by
  show ∀ w ∈ [u_lay RX2 TX2 0, u_lay RX2 TX2 1, u_lay RX2 TX2 2, u_lay RX2 TX2 3, u_lay RX2 TX2 4, u_lay RX2 TX2 5], w ∈ TBL
  exact List.forall_mem_cons.mpr ⟨tmem 59 (by decide +kernel) rfl, List.forall_mem_cons.mpr ⟨tmem 61 (by decide +kernel) rfl, List.forall_mem_cons.mpr ⟨tmem 63 (by decide +kernel) rfl, List.forall_mem_cons.mpr ⟨tmem 65 (by decide +kernel) rfl, List.forall_mem_cons.mpr ⟨tmem 67 (by decide +kernel) rfl, List.forall_mem_cons.mpr ⟨tmem 69 (by decide +kernel) rfl, fun _ h => absurd h List.not_mem_nil⟩⟩⟩⟩⟩⟩
theorem wsIn3 : ∀ w ∈ u_ws RX3 TX3 12, w ∈ TBL := by
  show ∀ w ∈ [u_lay RX3 TX3 0, u_lay RX3 TX3 1, u_lay RX3 TX3 2, u_lay RX3 TX3 3, u_lay RX3 TX3 4, u_lay RX3 TX3 5, u_lay RX3 TX3 6, u_lay RX3 TX3 7, u_lay RX3 TX3 8, u_lay RX3 TX3 9, u_lay RX3 TX3 10, u_lay RX3 TX3 11], w ∈ TBL
  exact List.forall_mem_cons.mpr ⟨tmem 124 (by decide +kernel) rfl, List.forall_mem_cons.mpr ⟨tmem 126 (by decide +kernel) rfl, List.forall_mem_cons.mpr ⟨tmem 128 (by decide +kernel) rfl, List.forall_mem_cons.mpr ⟨tmem 130 (by decide +kernel) rfl, List.forall_mem_cons.mpr ⟨tmem 132 (by decide +kernel) rfl, List.forall_mem_cons.mpr ⟨tmem 134 (by decide +kernel) rfl, List.forall_mem_cons.mpr ⟨tmem 136 (by decide +kernel) rfl, List.forall_mem_cons.mpr ⟨tmem 138 (by decide +kernel) rfl, List.forall_mem_cons.mpr ⟨tmem 140 (by decide +kernel) rfl, List.forall_mem_cons.mpr ⟨tmem 142 (by decide +kernel) rfl, List.forall_mem_cons.mpr ⟨tmem 144 (by decide +kernel) rfl, List.forall_mem_cons.mpr ⟨tmem 146 (by decide +kernel) rfl, fun _ h => absurd h List.not_mem_nil⟩⟩⟩⟩⟩⟩⟩⟩⟩⟩⟩⟩
theorem wsIn4 : ∀ w ∈ u_ws RX4 TX4 7, w ∈ TBL := by
  show ∀ w ∈ [u_lay RX4 TX4 0, u_lay RX4 TX4 1, u_lay RX4 TX4 2, u_lay RX4 TX4 3, u_lay RX4 TX4 4, u_lay RX4 TX4 5, u_lay RX4 TX4 6], w ∈ TBL
  exact List.forall_mem_cons.mpr ⟨tmem 167 (by decide +kernel) rfl, List.forall_mem_cons.mpr ⟨tmem 169 (by decide +kernel) rfl, List.forall_mem_cons.mpr ⟨tmem 171 (by decide +kernel) rfl, List.forall_mem_cons.mpr ⟨tmem 173 (by decide +kernel) rfl, List.forall_mem_cons.mpr ⟨tmem 175 (by decide +kernel) rfl, List.forall_mem_cons.mpr ⟨tmem 177 (by decide +kernel) rfl, List.forall_mem_cons.mpr ⟨tmem 179 (by decide +kernel) rfl, fun _ h => absurd h List.not_mem_nil⟩⟩⟩⟩⟩⟩⟩
theorem wsIn5 : ∀ w ∈ u_ws RX5 TX5 3, w ∈ TBL := by
  show ∀ w ∈ [u_lay RX5 TX5 0, u_lay RX5 TX5 1, u_lay RX5 TX5 2], w ∈ TBL
  exact List.forall_mem_cons.mpr ⟨tmem 270 (by decide +kernel) rfl, List.forall_mem_cons.mpr ⟨tmem 272 (by decide +kernel) rfl, List.forall_mem_cons.mpr ⟨tmem 274 (by decide +kernel) rfl, fun _ h => absurd h List.not_mem_nil⟩⟩⟩
theorem wsIn6 : ∀ w ∈ u_ws RX6 TX6 4, w ∈ TBL := by
  show ∀ w ∈ [u_lay RX6 TX6 0, u_lay RX6 TX6 1, u_lay RX6 TX6 2, u_lay RX6 TX6 3], w ∈ TBL
  exact List.forall_mem_cons.mpr ⟨tmem 93 (by decide +kernel) rfl, List.forall_mem_cons.mpr ⟨tmem 95 (by decide +kernel) rfl, List.forall_mem_cons.mpr ⟨tmem 97 (by decide +kernel) rfl, List.forall_mem_cons.mpr ⟨tmem 99 (by decide +kernel) rfl, fun _ h => absurd h List.not_mem_nil⟩⟩⟩⟩
theorem wsIn7 : ∀ w ∈ u_ws RX7 TX7 2, w ∈ TBL := by
  show ∀ w ∈ [u_lay RX7 TX7 0, u_lay RX7 TX7 1], w ∈ TBL
  exact List.forall_mem_cons.mpr ⟨tmem 190 (by decide +kernel) rfl, List.forall_mem_cons.mpr ⟨tmem 192 (by decide +kernel) rfl, fun _ h => absurd h List.not_mem_nil⟩⟩
theorem wsIn8 : ∀ w ∈ u_ws RX8 TX8 8, w ∈ TBL := by
  show ∀ w ∈ [u_lay RX8 TX8 0, u_lay RX8 TX8 1, u_lay RX8 TX8 2, u_lay RX8 TX8 3, u_lay RX8 TX8 4, u_lay RX8 TX8 5, u_lay RX8 TX8 6, u_lay RX8 TX8 7], w ∈ TBL
  exact List.forall_mem_cons.mpr ⟨tmem 540 (by decide +kernel) rfl, List.forall_mem_cons.mpr ⟨tmem 542 (by decide +kernel) rfl, List.forall_mem_cons.mpr ⟨tmem 544 (by decide +kernel) rfl, List.forall_mem_cons.mpr ⟨tmem 546 (by decide +kernel) rfl, List.forall_mem_cons.mpr ⟨tmem 548 (by decide +kernel) rfl, List.forall_mem_cons.mpr ⟨tmem 550 (by decide +kernel) rfl, List.forall_mem_cons.mpr ⟨tmem 552 (by decide +kernel) rfl, List.forall_mem_cons.mpr ⟨tmem 554 (by decide +kernel) rfl, fun _ h => absurd h List.not_mem_nil⟩⟩⟩⟩⟩⟩⟩⟩
theorem wsIn9 : ∀ w ∈ u_ws RX9 TX9 56, w ∈ TBL := by
  show ∀ w ∈ [u_lay RX9 TX9 0, u_lay RX9 TX9 1, u_lay RX9 TX9 2, u_lay RX9 TX9 3, u_lay RX9 TX9 4, u_lay RX9 TX9 5, u_lay RX9 TX9 6, u_lay RX9 TX9 7, u_lay RX9 TX9 8, u_lay RX9 TX9 9, u_lay RX9 TX9 10, u_lay RX9 TX9 11, u_lay RX9 TX9 12, u_lay RX9 TX9 13, u_lay RX9 TX9 14, u_lay RX9 TX9 15, u_lay RX9 TX9 16, u_lay RX9 TX9 17, u_lay RX9 TX9 18, u_lay RX9 TX9 19, u_lay RX9 TX9 20, u_lay RX9 TX9 21, u_lay RX9 TX9 22, u_lay RX9 TX9 23, u_lay RX9 TX9 24, u_lay RX9 TX9 25, u_lay RX9 TX9 26, u_lay RX9 TX9 27, u_lay RX9 TX9 28, u_lay RX9 TX9 29, u_lay RX9 TX9 30, u_lay RX9 TX9 31, u_lay RX9 TX9 32, u_lay RX9 TX9 33, u_lay RX9 TX9 34, u_lay RX9 TX9 35, u_lay RX9 TX9 36, u_lay RX9 TX9 37, u_lay RX9 TX9 38, u_lay RX9 TX9 39, u_lay RX9 TX9 40, u_lay RX9 TX9 41, u_lay RX9 TX9 42, u_lay RX9 TX9 43, u_lay RX9 TX9 44, u_lay RX9 TX9 45, u_lay RX9 TX9 46, u_lay RX9 TX9 47, u_lay RX9 TX9 48, u_lay RX9 TX9 49, u_lay RX9 TX9 50, u_lay RX9 TX9 51, u_lay RX9 TX9 52, u_lay RX9 TX9 53, u_lay RX9 TX9 54, u_lay RX9 TX9 55], w ∈ TBL
  exact List.forall_mem_cons.mpr ⟨tmem 987 (by decide +kernel) rfl, List.forall_mem_cons.mpr ⟨tmem 989 (by decide +kernel) rfl, List.forall_mem_cons.mpr ⟨tmem 991 (by decide +kernel) rfl, List.forall_mem_cons.mpr ⟨tmem 993 (by decide +kernel) rfl, List.forall_mem_cons.mpr ⟨tmem 995 (by decide +kernel) rfl, List.forall_mem_cons.mpr ⟨tmem 997 (by decide +kernel) rfl, List.forall_mem_cons.mpr ⟨tmem 999 (by decide +kernel) rfl, List.forall_mem_cons.mpr ⟨tmem 1001 (by decide +kernel) rfl, List.forall_mem_cons.mpr ⟨tmem 1003 (by decide +kernel) rfl, List.forall_mem_cons.mpr ⟨tmem 1005 (by decide +kernel) rfl, List.forall_mem_cons.mpr ⟨tmem 1007 (by decide +kernel) rfl, List.forall_mem_cons.mpr ⟨tmem 1009 (by decide +kernel) rfl, List.forall_mem_cons.mpr ⟨tmem 1011 (by decide +kernel) rfl, List.forall_mem_cons.mpr ⟨tmem 1013 (by decide +kernel) rfl, List.forall_mem_cons.mpr ⟨tmem 1015 (by decide +kernel) rfl, List.forall_mem_cons.mpr ⟨tmem 1017 (by decide +kernel) rfl, List.forall_mem_cons.mpr ⟨tmem 1019 (by decide +kernel) rfl, List.forall_mem_cons.mpr ⟨tmem 1021 (by decide +kernel) rfl, List.forall_mem_cons.mpr ⟨tmem 1023 (by decide +kernel) rfl, List.forall_mem_cons.mpr ⟨tmem 1025 (by decide +kernel) rfl, List.forall_mem_cons.mpr ⟨tmem 1027 (by decide +kernel) rfl, List.forall_mem_cons.mpr ⟨tmem 1029 (by decide +kernel) rfl, List.forall_mem_cons.mpr ⟨tmem 1031 (by decide +kernel) rfl, List.forall_mem_cons.mpr ⟨tmem 1033 (by decide +kernel) rfl, List.forall_mem_cons.mpr ⟨tmem 1035 (by decide +kernel) rfl, List.forall_mem_cons.mpr ⟨tmem 1037 (by decide +kernel) rfl, List.forall_mem_cons.mpr ⟨tmem 1039 (by decide +kernel) rfl, List.forall_mem_cons.mpr ⟨tmem 1041 (by decide +kernel) rfl, List.forall_mem_cons.mpr ⟨tmem 1043 (by decide +kernel) rfl, List.forall_mem_cons.mpr ⟨tmem 1045 (by decide +kernel) rfl, List.forall_mem_cons.mpr ⟨tmem 1047 (by decide +kernel) rfl, List.forall_mem_cons.mpr ⟨tmem 1049 (by decide +kernel) rfl, List.forall_mem_cons.mpr ⟨tmem 1051 (by decide +kernel) rfl, List.forall_mem_cons.mpr ⟨tmem 1053 (by decide +kernel) rfl, List.forall_mem_cons.mpr ⟨tmem 1055 (by decide +kernel) rfl, List.forall_mem_cons.mpr ⟨tmem 1057 (by decide +kernel) rfl, List.forall_mem_cons.mpr ⟨tmem 1059 (by decide +kernel) rfl, List.forall_mem_cons.mpr ⟨tmem 1061 (by decide +kernel) rfl, List.forall_mem_cons.mpr ⟨tmem 1063 (by decide +kernel) rfl, List.forall_mem_cons.mpr ⟨tmem 1065 (by decide +kernel) rfl, List.forall_mem_cons.mpr ⟨tmem 1067 (by decide +kernel) rfl, List.forall_mem_cons.mpr ⟨tmem 1069 (by decide +kernel) rfl, List.forall_mem_cons.mpr ⟨tmem 1071 (by decide +kernel) rfl, List.forall_mem_cons.mpr ⟨tmem 1073 (by decide +kernel) rfl, List.forall_mem_cons.mpr ⟨tmem 1075 (by decide +kernel) rfl, List.forall_mem_cons.mpr ⟨tmem 1077 (by decide +kernel) rfl, List.forall_mem_cons.mpr ⟨tmem 1079 (by decide +kernel) rfl, List.forall_mem_cons.mpr ⟨tmem 1081 (by decide +kernel) rfl, List.forall_mem_cons.mpr ⟨tmem 1083 (by decide +kernel) rfl, List.forall_mem_cons.mpr ⟨tmem 1085 (by decide +kernel) rfl, List.forall_mem_cons.mpr ⟨tmem 1087 (by decide +kernel) rfl, List.forall_mem_cons.mpr ⟨tmem 1089 (by decide +kernel) rfl, List.forall_mem_cons.mpr ⟨tmem 1091 (by decide +kernel) rfl, List.forall_mem_cons.mpr ⟨tmem 1093 (by decide +kernel) rfl, List.forall_mem_cons.mpr ⟨tmem 1095 (by decide +kernel) rfl, List.forall_mem_cons.mpr ⟨tmem 1097 (by decide +kernel) rfl, fun _ h => absurd h List.not_mem_nil⟩⟩⟩⟩⟩⟩⟩⟩⟩⟩⟩⟩⟩⟩⟩⟩⟩⟩⟩⟩⟩⟩⟩⟩⟩⟩⟩⟩⟩⟩⟩⟩⟩⟩⟩⟩⟩⟩⟩⟩⟩⟩⟩⟩⟩⟩⟩⟩⟩⟩⟩⟩⟩⟩⟩⟩
theorem math_smax : Cond.static Lib.Math.max.name ∈ TBL := tmem 430 (by decide +kernel) rfl
theorem math_cmax : Cond.code Lib.Math.max.name Lib.Math.max.code 2 (some .int) ∈ TBL := tmem 431 (by decide +kernel) rfl
theorem math_smin : Cond.static Lib.Math.min.name ∈ TBL := tmem 433 (by decide +kernel) rfl
theorem math_cmin : Cond.code Lib.Math.min.name Lib.Math.min.code 2 (some .int) ∈ TBL := tmem 434 (by decide +kernel) rfl
theorem math_sabs : Cond.static Lib.Math.abs.name ∈ TBL := tmem 703 (by decide +kernel) rfl
theorem math_cabs : Cond.code Lib.Math.abs.name Lib.Math.abs.code 1 (some .int) ∈ TBL := tmem 704 (by decide +kernel) rfl
theorem math_i : Cond.initialized "java/lang/Math" ∈ TBL := tmem 14 (by decide +kernel) rfl
theorem sys_s : Cond.static arraycopyName ∈ TBL := tmem 526 (by decide +kernel) rfl
theorem sys_i : Cond.initialized "java/lang/System" ∈ TBL := tmem 16 (by decide +kernel) rfl
theorem sys_n : Cond.native arraycopyName ∈ TBL := tmem 527 (by decide +kernel) rfl
theorem shR18 {i : Int32} (h : vp_in i 6) : shA[18 + Int32.toNatClampNeg i]? = some (.inl (0, 160)) := by
  have hlt : Int32.toNatClampNeg i < 6 := Nat.not_le.mp fun q => h (Or.inr q)
  generalize Int32.toNatClampNeg i = k at hlt
  have key : ∀ k, k < 6 → shA[18 + k]? = some (.inl (0, 160)) := by decide +kernel
  exact key k hlt
theorem shR25 {i : Int32} (h : vp_in i 6) : shA[25 + Int32.toNatClampNeg i]? = some (.inl (0, 4)) := by
  have hlt : Int32.toNatClampNeg i < 6 := Nat.not_le.mp fun q => h (Or.inr q)
  generalize Int32.toNatClampNeg i = k at hlt
  have key : ∀ k, k < 6 → shA[25 + k]? = some (.inl (0, 4)) := by decide +kernel
  exact key k hlt
theorem shR46 {i : Int32} (h : vp_in i 4) : shA[46 + Int32.toNatClampNeg i]? = some (.inl (0, 40)) := by
  have hlt : Int32.toNatClampNeg i < 4 := Nat.not_le.mp fun q => h (Or.inr q)
  generalize Int32.toNatClampNeg i = k at hlt
  have key : ∀ k, k < 4 → shA[46 + k]? = some (.inl (0, 40)) := by decide +kernel
  exact key k hlt
theorem fzRJ0_38 : Cond.fieldLink RJ0 38 "java/lang/String" "COMPACT_STRINGS" "Z" ∈ TBL := tmem 328 (by decide +kernel) rfl
theorem fzRJ0_15 : Cond.fieldLink RJ0 15 "java/lang/String" "coder" "B" ∈ TBL := tmem 1413 (by decide +kernel) rfl
theorem fzRJ0_9 : Cond.fieldLink RJ0 9 "java/lang/String" "value" "[B" ∈ TBL := tmem 1412 (by decide +kernel) rfl
theorem fkRJ0_335 : LNK RJ0 335 yJ0_coder_7d493 := Or.inl (tmem 324 (by decide +kernel) rfl)
theorem feJ0_coder_7d493 : CLE yJ0_coder_7d493 0 cJ0_coder_7d493 1 (some .byte) := ⟨tmem 10 (by decide +kernel) rfl, tmem 327 (by decide +kernel) rfl, by decide +kernel, by decide +kernel⟩
theorem fvJ0_coder_7d493 : CLV yJ0_coder_7d493 := ⟨tmem 325 (by decide +kernel) rfl, tmem 326 (by decide +kernel) rfl⟩
theorem fzRJ0_1053 : Cond.fieldLink RJ0 1053 "jdk/internal/util/Preconditions" "SIOOBE_FORMATTER" "Ljava/util/function/BiFunction;" ∈ TBL := tmem 344 (by decide +kernel) rfl
theorem fsRJ0_1059 : Cond.methodLink RJ0 1059 yJ3_checkIndex_8e157 ∈ TBL := tmem 346 (by decide +kernel) rfl
theorem feJ3_checkIndex_8e157 : CLE yJ3_checkIndex_8e157 3 cJ3_checkIndex_8e157 3 (some .int) := ⟨tmem 12 (by decide +kernel) rfl, tmem 348 (by decide +kernel) rfl, by decide +kernel, by decide +kernel⟩
theorem ftJ3_checkIndex_8e157 : Cond.static yJ3_checkIndex_8e157 ∈ TBL := tmem 347 (by decide +kernel) rfl
theorem fsRJ1_9 : Cond.methodLink RJ1 9 yJ0_checkIndex_df160 ∈ TBL := tmem 341 (by decide +kernel) rfl
theorem feJ0_checkIndex_df160 : CLE yJ0_checkIndex_df160 2 cJ0_checkIndex_df160 2 none := ⟨tmem 10 (by decide +kernel) rfl, tmem 343 (by decide +kernel) rfl, by decide +kernel, by decide +kernel⟩
theorem ftJ0_checkIndex_df160 : Cond.static yJ0_checkIndex_df160 ∈ TBL := tmem 342 (by decide +kernel) rfl
theorem fkRJ0_492 : LNK RJ0 492 yJ0_isLatin1_aae02 := Or.inl (tmem 334 (by decide +kernel) rfl)
theorem feJ0_isLatin1_aae02 : CLE yJ0_isLatin1_aae02 0 cJ0_isLatin1_aae02 1 (some .boolean) := ⟨tmem 10 (by decide +kernel) rfl, tmem 337 (by decide +kernel) rfl, by decide +kernel, by decide +kernel⟩
theorem fvJ0_isLatin1_aae02 : CLV yJ0_isLatin1_aae02 := ⟨tmem 335 (by decide +kernel) rfl, tmem 336 (by decide +kernel) rfl⟩
theorem fsRJ0_495 : Cond.methodLink RJ0 495 yJ1_charAt_3b067 ∈ TBL := tmem 338 (by decide +kernel) rfl
theorem feJ1_charAt_3b067 : CLE yJ1_charAt_3b067 2 cJ1_charAt_3b067 2 (some .char) := ⟨tmem 11 (by decide +kernel) rfl, tmem 340 (by decide +kernel) rfl, by decide +kernel, by decide +kernel⟩
theorem ftJ1_charAt_3b067 : Cond.static yJ1_charAt_3b067 ∈ TBL := tmem 339 (by decide +kernel) rfl
theorem fsRJ1_88 : Cond.methodLink RJ1 88 yJ1_canEncode_9a6ad ∈ TBL := tmem 426 (by decide +kernel) rfl
theorem feJ1_canEncode_9a6ad : CLE yJ1_canEncode_9a6ad 1 cJ1_canEncode_9a6ad 1 (some .boolean) := ⟨tmem 11 (by decide +kernel) rfl, tmem 428 (by decide +kernel) rfl, by decide +kernel, by decide +kernel⟩
theorem ftJ1_canEncode_9a6ad : Cond.static yJ1_canEncode_9a6ad ∈ TBL := tmem 427 (by decide +kernel) rfl
theorem fmRJ1_92 : Cond.methodLink RJ1 92 Lib.Math.max.name ∈ TBL := tmem 429 (by decide +kernel) rfl
theorem fmRJ1_38 : Cond.methodLink RJ1 38 Lib.Math.min.name ∈ TBL := tmem 432 (by decide +kernel) rfl
theorem fsRJ1_95 : Cond.methodLink RJ1 95 yJ1_indexOfChar_4cfef ∈ TBL := tmem 435 (by decide +kernel) rfl
theorem feJ1_indexOfChar_4cfef : CLE yJ1_indexOfChar_4cfef 4 cJ1_indexOfChar_4cfef 6 (some .int) := ⟨tmem 11 (by decide +kernel) rfl, tmem 437 (by decide +kernel) rfl, by decide +kernel, by decide +kernel⟩
theorem ftJ1_indexOfChar_4cfef : Cond.static yJ1_indexOfChar_4cfef ∈ TBL := tmem 436 (by decide +kernel) rfl
theorem fkRJ0_505 : LNK RJ0 505 yJ0_length_8abf5 := Or.inl (tmem 422 (by decide +kernel) rfl)
theorem feJ0_length_8abf5 : CLE yJ0_length_8abf5 0 cJ0_length_8abf5 1 (some .int) := ⟨tmem 10 (by decide +kernel) rfl, tmem 323 (by decide +kernel) rfl, by decide +kernel, by decide +kernel⟩
theorem fvJ0_length_8abf5 : CLV yJ0_length_8abf5 := ⟨tmem 321 (by decide +kernel) rfl, tmem 322 (by decide +kernel) rfl⟩
theorem fsRJ0_637 : Cond.methodLink RJ0 637 yJ1_indexOf_4cfef ∈ TBL := tmem 423 (by decide +kernel) rfl
theorem feJ1_indexOf_4cfef : CLE yJ1_indexOf_4cfef 4 cJ1_indexOf_4cfef 4 (some .int) := ⟨tmem 11 (by decide +kernel) rfl, tmem 425 (by decide +kernel) rfl, by decide +kernel, by decide +kernel⟩
theorem ftJ1_indexOf_4cfef : Cond.static yJ1_indexOf_4cfef ∈ TBL := tmem 424 (by decide +kernel) rfl
theorem fkRJ0_633 : LNK RJ0 633 yJ0_indexOf_7cf53 := Or.inl (tmem 418 (by decide +kernel) rfl)
theorem feJ0_indexOf_7cf53 : CLE yJ0_indexOf_7cf53 2 cJ0_indexOf_7cf53 3 (some .int) := ⟨tmem 10 (by decide +kernel) rfl, tmem 421 (by decide +kernel) rfl, by decide +kernel, by decide +kernel⟩
theorem fvJ0_indexOf_7cf53 : CLV yJ0_indexOf_7cf53 := ⟨tmem 419 (by decide +kernel) rfl, tmem 420 (by decide +kernel) rfl⟩
theorem dJ0_coder_7d493_0 : decode cJ0_coder_7d493 0 = .ok (.getstatic 38, 3) := by decide +kernel
theorem dJ0_coder_7d493_3 : decode cJ0_coder_7d493 3 = .ok (.ifCond .eq 10, 3) := by decide +kernel
theorem dJ0_coder_7d493_6 : decode cJ0_coder_7d493 6 = .ok (.aload_n 0, 1) := by decide +kernel
theorem dJ0_coder_7d493_7 : decode cJ0_coder_7d493 7 = .ok (.getfield 15, 3) := by decide +kernel
theorem dJ0_coder_7d493_10 : decode cJ0_coder_7d493 10 = .ok (.goto 4, 3) := by decide +kernel
theorem dJ0_coder_7d493_13 : decode cJ0_coder_7d493 13 = .ok (.iconst 1, 1) := by decide +kernel
theorem dJ0_coder_7d493_14 : decode cJ0_coder_7d493 14 = .ok (.ireturn, 1) := by decide +kernel
theorem dJ0_length_8abf5_0 : decode cJ0_length_8abf5 0 = .ok (.aload_n 0, 1) := by decide +kernel
theorem dJ0_length_8abf5_1 : decode cJ0_length_8abf5 1 = .ok (.getfield 9, 3) := by decide +kernel
theorem dJ0_length_8abf5_4 : decode cJ0_length_8abf5 4 = .ok (.arraylength, 1) := by decide +kernel
theorem dJ0_length_8abf5_5 : decode cJ0_length_8abf5 5 = .ok (.aload_n 0, 1) := by decide +kernel
theorem dJ0_length_8abf5_6 : decode cJ0_length_8abf5 6 = .ok (.invokevirtual 335, 3) := by decide +kernel
theorem dJ0_length_8abf5_9 : decode cJ0_length_8abf5 9 = .ok (.ishr, 1) := by decide +kernel
theorem dJ0_length_8abf5_10 : decode cJ0_length_8abf5 10 = .ok (.ireturn, 1) := by decide +kernel
theorem dJ0_isLatin1_aae02_0 : decode cJ0_isLatin1_aae02 0 = .ok (.getstatic 38, 3) := by decide +kernel
theorem dJ0_isLatin1_aae02_3 : decode cJ0_isLatin1_aae02 3 = .ok (.ifCond .eq 14, 3) := by decide +kernel
theorem dJ0_isLatin1_aae02_6 : decode cJ0_isLatin1_aae02 6 = .ok (.aload_n 0, 1) := by decide +kernel
theorem dJ0_isLatin1_aae02_7 : decode cJ0_isLatin1_aae02 7 = .ok (.getfield 15, 3) := by decide +kernel
theorem dJ0_isLatin1_aae02_10 : decode cJ0_isLatin1_aae02 10 = .ok (.ifCond .ne 7, 3) := by decide +kernel
theorem dJ0_isLatin1_aae02_13 : decode cJ0_isLatin1_aae02 13 = .ok (.iconst 1, 1) := by decide +kernel
theorem dJ0_isLatin1_aae02_14 : decode cJ0_isLatin1_aae02 14 = .ok (.goto 4, 3) := by decide +kernel
theorem dJ0_isLatin1_aae02_17 : decode cJ0_isLatin1_aae02 17 = .ok (.iconst 0, 1) := by decide +kernel
theorem dJ0_isLatin1_aae02_18 : decode cJ0_isLatin1_aae02 18 = .ok (.ireturn, 1) := by decide +kernel
theorem dJ3_checkIndex_8e157_0 : decode cJ3_checkIndex_8e157 0 = .ok (.iload_n 0, 1) := by decide +kernel
theorem dJ3_checkIndex_8e157_1 : decode cJ3_checkIndex_8e157 1 = .ok (.ifCond .lt 8, 3) := by decide +kernel
theorem dJ3_checkIndex_8e157_4 : decode cJ3_checkIndex_8e157 4 = .ok (.iload_n 0, 1) := by decide +kernel
theorem dJ3_checkIndex_8e157_5 : decode cJ3_checkIndex_8e157 5 = .ok (.iload_n 1, 1) := by decide +kernel
theorem dJ3_checkIndex_8e157_6 : decode cJ3_checkIndex_8e157 6 = .ok (.if_icmp .lt 10, 3) := by decide +kernel
theorem dJ3_checkIndex_8e157_16 : decode cJ3_checkIndex_8e157 16 = .ok (.iload_n 0, 1) := by decide +kernel
theorem dJ3_checkIndex_8e157_17 : decode cJ3_checkIndex_8e157 17 = .ok (.ireturn, 1) := by decide +kernel
theorem dJ0_checkIndex_df160_0 : decode cJ0_checkIndex_df160 0 = .ok (.iload_n 0, 1) := by decide +kernel
theorem dJ0_checkIndex_df160_1 : decode cJ0_checkIndex_df160 1 = .ok (.iload_n 1, 1) := by decide +kernel
theorem dJ0_checkIndex_df160_2 : decode cJ0_checkIndex_df160 2 = .ok (.getstatic 1053, 3) := by decide +kernel
theorem dJ0_checkIndex_df160_5 : decode cJ0_checkIndex_df160 5 = .ok (.invokestatic 1059, 3) := by decide +kernel
theorem dJ0_checkIndex_df160_8 : decode cJ0_checkIndex_df160 8 = .ok (.pop, 1) := by decide +kernel
theorem dJ0_checkIndex_df160_9 : decode cJ0_checkIndex_df160 9 = .ok (.return_, 1) := by decide +kernel
theorem dJ1_charAt_3b067_0 : decode cJ1_charAt_3b067 0 = .ok (.iload_n 1, 1) := by decide +kernel
theorem dJ1_charAt_3b067_1 : decode cJ1_charAt_3b067 1 = .ok (.aload_n 0, 1) := by decide +kernel
theorem dJ1_charAt_3b067_2 : decode cJ1_charAt_3b067 2 = .ok (.arraylength, 1) := by decide +kernel
theorem dJ1_charAt_3b067_3 : decode cJ1_charAt_3b067 3 = .ok (.invokestatic 9, 3) := by decide +kernel
theorem dJ1_charAt_3b067_6 : decode cJ1_charAt_3b067 6 = .ok (.aload_n 0, 1) := by decide +kernel
theorem dJ1_charAt_3b067_7 : decode cJ1_charAt_3b067 7 = .ok (.iload_n 1, 1) := by decide +kernel
theorem dJ1_charAt_3b067_8 : decode cJ1_charAt_3b067 8 = .ok (.baload, 1) := by decide +kernel
theorem dJ1_charAt_3b067_9 : decode cJ1_charAt_3b067 9 = .ok (.sipush 255, 3) := by decide +kernel
theorem dJ1_charAt_3b067_12 : decode cJ1_charAt_3b067 12 = .ok (.iand, 1) := by decide +kernel
theorem dJ1_charAt_3b067_13 : decode cJ1_charAt_3b067 13 = .ok (.i2c, 1) := by decide +kernel
theorem dJ1_charAt_3b067_14 : decode cJ1_charAt_3b067 14 = .ok (.ireturn, 1) := by decide +kernel
theorem dJ0_charAt_5068e_0 : decode cJ0_charAt_5068e 0 = .ok (.aload_n 0, 1) := by decide +kernel
theorem dJ0_charAt_5068e_1 : decode cJ0_charAt_5068e 1 = .ok (.invokevirtual 492, 3) := by decide +kernel
theorem dJ0_charAt_5068e_4 : decode cJ0_charAt_5068e 4 = .ok (.ifCond .eq 12, 3) := by decide +kernel
theorem dJ0_charAt_5068e_7 : decode cJ0_charAt_5068e 7 = .ok (.aload_n 0, 1) := by decide +kernel
theorem dJ0_charAt_5068e_8 : decode cJ0_charAt_5068e 8 = .ok (.getfield 9, 3) := by decide +kernel
theorem dJ0_charAt_5068e_11 : decode cJ0_charAt_5068e 11 = .ok (.iload_n 1, 1) := by decide +kernel
theorem dJ0_charAt_5068e_12 : decode cJ0_charAt_5068e 12 = .ok (.invokestatic 495, 3) := by decide +kernel
theorem dJ0_charAt_5068e_15 : decode cJ0_charAt_5068e 15 = .ok (.ireturn, 1) := by decide +kernel
theorem dJ1_canEncode_9a6ad_0 : decode cJ1_canEncode_9a6ad 0 = .ok (.iload_n 0, 1) := by decide +kernel
theorem dJ1_canEncode_9a6ad_1 : decode cJ1_canEncode_9a6ad 1 = .ok (.ifCond .lt 14, 3) := by decide +kernel
theorem dJ1_canEncode_9a6ad_4 : decode cJ1_canEncode_9a6ad 4 = .ok (.iload_n 0, 1) := by decide +kernel
theorem dJ1_canEncode_9a6ad_5 : decode cJ1_canEncode_9a6ad 5 = .ok (.sipush 255, 3) := by decide +kernel
theorem dJ1_canEncode_9a6ad_8 : decode cJ1_canEncode_9a6ad 8 = .ok (.if_icmp .gt 7, 3) := by decide +kernel
theorem dJ1_canEncode_9a6ad_11 : decode cJ1_canEncode_9a6ad 11 = .ok (.iconst 1, 1) := by decide +kernel
theorem dJ1_canEncode_9a6ad_12 : decode cJ1_canEncode_9a6ad 12 = .ok (.goto 4, 3) := by decide +kernel
theorem dJ1_canEncode_9a6ad_15 : decode cJ1_canEncode_9a6ad 15 = .ok (.iconst 0, 1) := by decide +kernel
theorem dJ1_canEncode_9a6ad_16 : decode cJ1_canEncode_9a6ad 16 = .ok (.ireturn, 1) := by decide +kernel
theorem dJ1_indexOfChar_4cfef_0 : decode cJ1_indexOfChar_4cfef 0 = .ok (.iload_n 1, 1) := by decide +kernel
theorem dJ1_indexOfChar_4cfef_1 : decode cJ1_indexOfChar_4cfef 1 = .ok (.i2b, 1) := by decide +kernel
theorem dJ1_indexOfChar_4cfef_2 : decode cJ1_indexOfChar_4cfef 2 = .ok (.istore 4, 2) := by decide +kernel
theorem dJ1_indexOfChar_4cfef_4 : decode cJ1_indexOfChar_4cfef 4 = .ok (.iload_n 2, 1) := by decide +kernel
theorem dJ1_indexOfChar_4cfef_5 : decode cJ1_indexOfChar_4cfef 5 = .ok (.istore 5, 2) := by decide +kernel
theorem dJ1_indexOfChar_4cfef_7 : decode cJ1_indexOfChar_4cfef 7 = .ok (.iload 5, 2) := by decide +kernel
theorem dJ1_indexOfChar_4cfef_9 : decode cJ1_indexOfChar_4cfef 9 = .ok (.iload_n 3, 1) := by decide +kernel
theorem dJ1_indexOfChar_4cfef_10 : decode cJ1_indexOfChar_4cfef 10 = .ok (.if_icmp .ge 21, 3) := by decide +kernel
theorem dJ1_indexOfChar_4cfef_13 : decode cJ1_indexOfChar_4cfef 13 = .ok (.aload_n 0, 1) := by decide +kernel
theorem dJ1_indexOfChar_4cfef_14 : decode cJ1_indexOfChar_4cfef 14 = .ok (.iload 5, 2) := by decide +kernel
theorem dJ1_indexOfChar_4cfef_16 : decode cJ1_indexOfChar_4cfef 16 = .ok (.baload, 1) := by decide +kernel
theorem dJ1_indexOfChar_4cfef_17 : decode cJ1_indexOfChar_4cfef 17 = .ok (.iload 4, 2) := by decide +kernel
theorem dJ1_indexOfChar_4cfef_19 : decode cJ1_indexOfChar_4cfef 19 = .ok (.if_icmp .ne 6, 3) := by decide +kernel
theorem dJ1_indexOfChar_4cfef_22 : decode cJ1_indexOfChar_4cfef 22 = .ok (.iload 5, 2) := by decide +kernel
theorem dJ1_indexOfChar_4cfef_24 : decode cJ1_indexOfChar_4cfef 24 = .ok (.ireturn, 1) := by decide +kernel
theorem dJ1_indexOfChar_4cfef_25 : decode cJ1_indexOfChar_4cfef 25 = .ok (.iinc 5 1, 3) := by decide +kernel
theorem dJ1_indexOfChar_4cfef_28 : decode cJ1_indexOfChar_4cfef 28 = .ok (.goto (-21), 3) := by decide +kernel
theorem dJ1_indexOfChar_4cfef_31 : decode cJ1_indexOfChar_4cfef 31 = .ok (.iconst (-1), 1) := by decide +kernel
theorem dJ1_indexOfChar_4cfef_32 : decode cJ1_indexOfChar_4cfef 32 = .ok (.ireturn, 1) := by decide +kernel
theorem dJ1_indexOf_4cfef_0 : decode cJ1_indexOf_4cfef 0 = .ok (.iload_n 1, 1) := by decide +kernel
theorem dJ1_indexOf_4cfef_1 : decode cJ1_indexOf_4cfef 1 = .ok (.invokestatic 88, 3) := by decide +kernel
theorem dJ1_indexOf_4cfef_4 : decode cJ1_indexOf_4cfef 4 = .ok (.ifCond .ne 5, 3) := by decide +kernel
theorem dJ1_indexOf_4cfef_7 : decode cJ1_indexOf_4cfef 7 = .ok (.iconst (-1), 1) := by decide +kernel
theorem dJ1_indexOf_4cfef_8 : decode cJ1_indexOf_4cfef 8 = .ok (.ireturn, 1) := by decide +kernel
theorem dJ1_indexOf_4cfef_9 : decode cJ1_indexOf_4cfef 9 = .ok (.iload_n 2, 1) := by decide +kernel
theorem dJ1_indexOf_4cfef_10 : decode cJ1_indexOf_4cfef 10 = .ok (.iconst 0, 1) := by decide +kernel
theorem dJ1_indexOf_4cfef_11 : decode cJ1_indexOf_4cfef 11 = .ok (.invokestatic 92, 3) := by decide +kernel
theorem dJ1_indexOf_4cfef_14 : decode cJ1_indexOf_4cfef 14 = .ok (.istore_n 2, 1) := by decide +kernel
theorem dJ1_indexOf_4cfef_15 : decode cJ1_indexOf_4cfef 15 = .ok (.iload_n 3, 1) := by decide +kernel
theorem dJ1_indexOf_4cfef_16 : decode cJ1_indexOf_4cfef 16 = .ok (.aload_n 0, 1) := by decide +kernel
theorem dJ1_indexOf_4cfef_17 : decode cJ1_indexOf_4cfef 17 = .ok (.arraylength, 1) := by decide +kernel
theorem dJ1_indexOf_4cfef_18 : decode cJ1_indexOf_4cfef 18 = .ok (.invokestatic 38, 3) := by decide +kernel
theorem dJ1_indexOf_4cfef_21 : decode cJ1_indexOf_4cfef 21 = .ok (.istore_n 3, 1) := by decide +kernel
theorem dJ1_indexOf_4cfef_22 : decode cJ1_indexOf_4cfef 22 = .ok (.iload_n 2, 1) := by decide +kernel
theorem dJ1_indexOf_4cfef_23 : decode cJ1_indexOf_4cfef 23 = .ok (.iload_n 3, 1) := by decide +kernel
theorem dJ1_indexOf_4cfef_24 : decode cJ1_indexOf_4cfef 24 = .ok (.if_icmp .lt 5, 3) := by decide +kernel
theorem dJ1_indexOf_4cfef_27 : decode cJ1_indexOf_4cfef 27 = .ok (.iconst (-1), 1) := by decide +kernel
theorem dJ1_indexOf_4cfef_28 : decode cJ1_indexOf_4cfef 28 = .ok (.ireturn, 1) := by decide +kernel
theorem dJ1_indexOf_4cfef_29 : decode cJ1_indexOf_4cfef 29 = .ok (.aload_n 0, 1) := by decide +kernel
theorem dJ1_indexOf_4cfef_30 : decode cJ1_indexOf_4cfef 30 = .ok (.iload_n 1, 1) := by decide +kernel
theorem dJ1_indexOf_4cfef_31 : decode cJ1_indexOf_4cfef 31 = .ok (.iload_n 2, 1) := by decide +kernel
theorem dJ1_indexOf_4cfef_32 : decode cJ1_indexOf_4cfef 32 = .ok (.iload_n 3, 1) := by decide +kernel
theorem dJ1_indexOf_4cfef_33 : decode cJ1_indexOf_4cfef 33 = .ok (.invokestatic 95, 3) := by decide +kernel
theorem dJ1_indexOf_4cfef_36 : decode cJ1_indexOf_4cfef 36 = .ok (.ireturn, 1) := by decide +kernel
theorem dJ0_indexOf_7cf53_0 : decode cJ0_indexOf_7cf53 0 = .ok (.aload_n 0, 1) := by decide +kernel
theorem dJ0_indexOf_7cf53_1 : decode cJ0_indexOf_7cf53 1 = .ok (.invokevirtual 492, 3) := by decide +kernel
theorem dJ0_indexOf_7cf53_4 : decode cJ0_indexOf_7cf53 4 = .ok (.ifCond .eq 19, 3) := by decide +kernel
theorem dJ0_indexOf_7cf53_7 : decode cJ0_indexOf_7cf53 7 = .ok (.aload_n 0, 1) := by decide +kernel
theorem dJ0_indexOf_7cf53_8 : decode cJ0_indexOf_7cf53 8 = .ok (.getfield 9, 3) := by decide +kernel
theorem dJ0_indexOf_7cf53_11 : decode cJ0_indexOf_7cf53 11 = .ok (.iload_n 1, 1) := by decide +kernel
theorem dJ0_indexOf_7cf53_12 : decode cJ0_indexOf_7cf53 12 = .ok (.iload_n 2, 1) := by decide +kernel
theorem dJ0_indexOf_7cf53_13 : decode cJ0_indexOf_7cf53 13 = .ok (.aload_n 0, 1) := by decide +kernel
theorem dJ0_indexOf_7cf53_14 : decode cJ0_indexOf_7cf53 14 = .ok (.invokevirtual 505, 3) := by decide +kernel
theorem dJ0_indexOf_7cf53_17 : decode cJ0_indexOf_7cf53 17 = .ok (.invokestatic 637, 3) := by decide +kernel
theorem dJ0_indexOf_7cf53_20 : decode cJ0_indexOf_7cf53 20 = .ok (.goto 16, 3) := by decide +kernel
theorem dJ0_indexOf_7cf53_36 : decode cJ0_indexOf_7cf53 36 = .ok (.ireturn, 1) := by decide +kernel
theorem dJ0_indexOf_0f7a4_0 : decode cJ0_indexOf_0f7a4 0 = .ok (.aload_n 0, 1) := by decide +kernel
theorem dJ0_indexOf_0f7a4_1 : decode cJ0_indexOf_0f7a4 1 = .ok (.iload_n 1, 1) := by decide +kernel
theorem dJ0_indexOf_0f7a4_2 : decode cJ0_indexOf_0f7a4 2 = .ok (.iconst 0, 1) := by decide +kernel
theorem dJ0_indexOf_0f7a4_3 : decode cJ0_indexOf_0f7a4 3 = .ok (.invokevirtual 633, 3) := by decide +kernel
theorem dJ0_indexOf_0f7a4_6 : decode cJ0_indexOf_0f7a4 6 = .ok (.ireturn, 1) := by decide +kernel
-- java/lang/String.coder
def FJ0_coder_7d493 (M : Mem) (si : Nat) : Option (Int32 × Mem) :=
    if (1 : Int32) = 0 then
      some ((1 : Int32), M)
    else
      some ((0 : Int32), M)
set_option maxRecDepth 20000 in
theorem FJ0_coder_7d493_ok {p : Program} {l : Launch} {e : Env} {s : State} {m : MethodId} {args : Array Value} {below : List Frame} {meth : Method} {c : Code} {G : GG} {D : Nat} {r : Int32 × Mem} (F : FrP shA G p s m args c RJ0 cJ0_coder_7d493 1) (hr : meth.sig.returnType = (some .byte)) (hlk : meth.locks = false) (hD : 1 ≤ D) {M : Mem} {si : Nat} (hsi : si < 3) (h : FJ0_coder_7d493 M si = some r) : XJ shA p l e (rmX D) s m args below meth c 0 0 G 1 (MQ below (QcX shA G ((some (.int r.1), r.2) : Option Value × Mem).1 ((some (.int r.1), r.2) : Option Value × Mem).2) args s 0 0 (AW shA G.2.1)) 0 [(0, .ref (201 + si))] [] M := by
  unfold FJ0_coder_7d493 at h
  refine X_scmp F fzRJ0_38 dJ0_coder_7d493_0 ?_
  refine X_if_eq (tgt := 13) F dJ0_coder_7d493_3 (by decide) (fun q1 => ?_) (fun q1 => ?_)
  · rw [if_pos q1] at h
    refine X_iconst F dJ0_coder_7d493_13 (v := (1 : Int32)) rfl ?_
    exact X_zret F hr hlk rfl (retI h) dJ0_coder_7d493_14
  · rw [if_neg q1] at h
    refine X_aload_n F dJ0_coder_7d493_6 rfl ?_
    refine X_scod F hsi fzRJ0_15 dJ0_coder_7d493_7 ?_
    refine X_goto (tgt := 14) F dJ0_coder_7d493_10 (by decide) ?_
    exact X_zret F hr hlk rfl (retI h) dJ0_coder_7d493_14
set_option maxRecDepth 20000 in
theorem FJ0_coder_7d493_met {l : Launch} {G : GG} {D : Nat} {r : Int32 × Mem} {M : Mem} {si : Nat} (hI : Inj shA G.2.1) (hD : 1 ≤ D) (hsi : si < 3) (h : FJ0_coder_7d493 M si = some r) : MetX shA l G yJ0_coder_7d493 cJ0_coder_7d493 1 (some .byte) D [.ref (201 + si)] M (some (.int r.1), r.2) :=
  X_met hI (by decide +kernel) (Nat.le_of_ble_eq_true rfl) (fun p e s m args below meth c F hr hlk => FJ0_coder_7d493_ok F hr hlk hD hsi h)
-- java/lang/String.length
def FJ0_length_8abf5 (M : Mem) (si : Nat) : Option (Int32 × Mem) :=
    Option.bind (FJ0_coder_7d493 M si) fun r1 =>
    some (((Int32.ofNat (sN si)) >>> (r1.1 &&& 31)), r1.2)
set_option maxRecDepth 20000 in
theorem FJ0_length_8abf5_ok {p : Program} {l : Launch} {e : Env} {s : State} {m : MethodId} {args : Array Value} {below : List Frame} {meth : Method} {c : Code} {G : GG} {D : Nat} {r : Int32 × Mem} (F : FrP shA G p s m args c RJ0 cJ0_length_8abf5 1) (hr : meth.sig.returnType = (some .int)) (hlk : meth.locks = false) (hD : 2 ≤ D) {M : Mem} {si : Nat} (hsi : si < 3) (h : FJ0_length_8abf5 M si = some r) : XJ shA p l e (rmX D) s m args below meth c 0 0 G 1 (MQ below (QcX shA G ((some (.int r.1), r.2) : Option Value × Mem).1 ((some (.int r.1), r.2) : Option Value × Mem).2) args s 0 0 (AW shA G.2.1)) 0 [(0, .ref (201 + si))] [] M := by
  unfold FJ0_length_8abf5 at h
  refine X_aload_n F dJ0_length_8abf5_0 rfl ?_
  refine X_sval F hsi fzRJ0_9 dJ0_length_8abf5_1 ?_
  refine X_sblen F hsi dJ0_length_8abf5_4 ?_
  refine X_aload_n F dJ0_length_8abf5_5 rfl ?_
  obtain ⟨r1, h2, h⟩ := bndS h
  refine X_callT (si := si) (As := []) (rest := [.int (Int32.ofNat (sN si))]) F fkRJ0_335 feJ0_coder_7d493 fvJ0_coder_7d493 hsi rfl (FJ0_coder_7d493_met (D := D - 1) F.2.2.2.2.2.2.2.1 (by omega) hsi h2) rfl rfl (Nat.le_of_ble_eq_true rfl) (rm_ok (by omega) (by decide)) dJ0_length_8abf5_6 ?_
  show XJ shA p l e (rmX D) s m args below meth c 0 0 G 1 (MQ below (QcX shA G ((some (.int r.1), r.2) : Option Value × Mem).1 ((some (.int r.1), r.2) : Option Value × Mem).2) args s 0 0 (AW shA G.2.1)) 9 [(0, .ref (201 + si))] [.int r1.1, .int (Int32.ofNat (sN si))] r1.2
  refine X_ishr F dJ0_length_8abf5_9 ?_
  exact X_iret F hr hlk (retI h) dJ0_length_8abf5_10
set_option maxRecDepth 20000 in
theorem FJ0_length_8abf5_met {l : Launch} {G : GG} {D : Nat} {r : Int32 × Mem} {M : Mem} {si : Nat} (hI : Inj shA G.2.1) (hD : 2 ≤ D) (hsi : si < 3) (h : FJ0_length_8abf5 M si = some r) : MetX shA l G yJ0_length_8abf5 cJ0_length_8abf5 1 (some .int) D [.ref (201 + si)] M (some (.int r.1), r.2) :=
  X_met hI (by decide +kernel) (Nat.le_of_ble_eq_true rfl) (fun p e s m args below meth c F hr hlk => FJ0_length_8abf5_ok F hr hlk hD hsi h)
-- java/lang/String.isLatin1
def FJ0_isLatin1_aae02 (M : Mem) (si : Nat) : Option (Int32 × Mem) :=
    if (1 : Int32) = 0 then
      some ((0 : Int32), M)
    else
      if ¬ (0 : Int32) = 0 then
        some ((0 : Int32), M)
      else
        some ((1 : Int32), M)
set_option maxRecDepth 20000 in
theorem FJ0_isLatin1_aae02_ok {p : Program} {l : Launch} {e : Env} {s : State} {m : MethodId} {args : Array Value} {below : List Frame} {meth : Method} {c : Code} {G : GG} {D : Nat} {r : Int32 × Mem} (F : FrP shA G p s m args c RJ0 cJ0_isLatin1_aae02 1) (hr : meth.sig.returnType = (some .boolean)) (hlk : meth.locks = false) (hD : 1 ≤ D) {M : Mem} {si : Nat} (hsi : si < 3) (h : FJ0_isLatin1_aae02 M si = some r) : XJ shA p l e (rmX D) s m args below meth c 0 0 G 1 (MQ below (QcX shA G ((some (.int r.1), r.2) : Option Value × Mem).1 ((some (.int r.1), r.2) : Option Value × Mem).2) args s 0 0 (AW shA G.2.1)) 0 [(0, .ref (201 + si))] [] M := by
  unfold FJ0_isLatin1_aae02 at h
  refine X_scmp F fzRJ0_38 dJ0_isLatin1_aae02_0 ?_
  refine X_if_eq (tgt := 17) F dJ0_isLatin1_aae02_3 (by decide) (fun q1 => ?_) (fun q1 => ?_)
  · rw [if_pos q1] at h
    refine X_iconst F dJ0_isLatin1_aae02_17 (v := (0 : Int32)) rfl ?_
    exact X_zret F hr hlk rfl (retI h) dJ0_isLatin1_aae02_18
  · rw [if_neg q1] at h
    refine X_aload_n F dJ0_isLatin1_aae02_6 rfl ?_
    refine X_scod F hsi fzRJ0_15 dJ0_isLatin1_aae02_7 ?_
    refine X_if_ne (tgt := 17) F dJ0_isLatin1_aae02_10 (by decide) (fun q2 => ?_) (fun q2 => ?_)
    · rw [if_pos q2] at h
      refine X_iconst F dJ0_isLatin1_aae02_17 (v := (0 : Int32)) rfl ?_
      exact X_zret F hr hlk rfl (retI h) dJ0_isLatin1_aae02_18
    · rw [if_neg (fun z => z q2)] at h
      refine X_iconst F dJ0_isLatin1_aae02_13 (v := (1 : Int32)) rfl ?_
      refine X_goto (tgt := 18) F dJ0_isLatin1_aae02_14 (by decide) ?_
      exact X_zret F hr hlk rfl (retI h) dJ0_isLatin1_aae02_18
set_option maxRecDepth 20000 in
theorem FJ0_isLatin1_aae02_met {l : Launch} {G : GG} {D : Nat} {r : Int32 × Mem} {M : Mem} {si : Nat} (hI : Inj shA G.2.1) (hD : 1 ≤ D) (hsi : si < 3) (h : FJ0_isLatin1_aae02 M si = some r) : MetX shA l G yJ0_isLatin1_aae02 cJ0_isLatin1_aae02 1 (some .boolean) D [.ref (201 + si)] M (some (.int r.1), r.2) :=
  X_met hI (by decide +kernel) (Nat.le_of_ble_eq_true rfl) (fun p e s m args below meth c F hr hlk => FJ0_isLatin1_aae02_ok F hr hlk hD hsi h)
-- jdk/internal/util/Preconditions.checkIndex
def FJ3_checkIndex_8e157_j9 (M : Mem) (x0 : Int32) (x1 : Int32) : Option (Int32 × Mem) :=
    none
def FJ3_checkIndex_8e157 (M : Mem) (a0 : Int32) (a1 : Int32) : Option (Int32 × Mem) :=
    if a0 < 0 then
      FJ3_checkIndex_8e157_j9 M a0 a1
    else
      if a0 < a1 then
        some (a0, M)
      else
        FJ3_checkIndex_8e157_j9 M a0 a1
set_option maxRecDepth 20000 in
theorem FJ3_checkIndex_8e157_j9_ok {w : Value} {p : Program} {l : Launch} {e : Env} {s : State} {m : MethodId} {args : Array Value} {below : List Frame} {meth : Method} {c : Code} {G : GG} {D : Nat} {r : Int32 × Mem} (F : FrP shA G p s m args c RJ3 cJ3_checkIndex_8e157 3) (hr : meth.sig.returnType = (some .int)) (hlk : meth.locks = false) (hD : 1 ≤ D) {M : Mem} {x0 : Int32} {x1 : Int32} (h : FJ3_checkIndex_8e157_j9 M x0 x1 = some r) : XJ shA p l e (rmX D) s m args below meth c 0 0 G 3 (MQ below (QcX shA G ((some (.int r.1), r.2) : Option Value × Mem).1 ((some (.int r.1), r.2) : Option Value × Mem).2) args s 0 0 (AW shA G.2.1)) 9 [(0, .int x0), (1, .int x1), (2, w)] [] M := by
  unfold FJ3_checkIndex_8e157_j9 at h
  cases h
set_option maxRecDepth 20000 in
theorem FJ3_checkIndex_8e157_ok {w : Value} {p : Program} {l : Launch} {e : Env} {s : State} {m : MethodId} {args : Array Value} {below : List Frame} {meth : Method} {c : Code} {G : GG} {D : Nat} {r : Int32 × Mem} (F : FrP shA G p s m args c RJ3 cJ3_checkIndex_8e157 3) (hr : meth.sig.returnType = (some .int)) (hlk : meth.locks = false) (hD : 1 ≤ D) {M : Mem} {a0 : Int32} {a1 : Int32} (h : FJ3_checkIndex_8e157 M a0 a1 = some r) : XJ shA p l e (rmX D) s m args below meth c 0 0 G 3 (MQ below (QcX shA G ((some (.int r.1), r.2) : Option Value × Mem).1 ((some (.int r.1), r.2) : Option Value × Mem).2) args s 0 0 (AW shA G.2.1)) 0 [(0, .int a0), (1, .int a1), (2, w)] [] M := by
  unfold FJ3_checkIndex_8e157 at h
  refine X_iload_n F dJ3_checkIndex_8e157_0 rfl ?_
  refine X_if_lt (tgt := 9) F dJ3_checkIndex_8e157_1 (by decide) (fun q1 => ?_) (fun q1 => ?_)
  · rw [if_pos q1] at h
    exact FJ3_checkIndex_8e157_j9_ok F hr hlk hD h
  · rw [if_neg q1] at h
    refine X_iload_n F dJ3_checkIndex_8e157_4 rfl ?_
    refine X_iload_n F dJ3_checkIndex_8e157_5 rfl ?_
    refine X_icmp_lt (tgt := 16) F dJ3_checkIndex_8e157_6 (by decide) (fun q2 => ?_) (fun q2 => ?_)
    · rw [if_pos q2] at h
      refine X_iload_n F dJ3_checkIndex_8e157_16 rfl ?_
      exact X_iret F hr hlk (retI h) dJ3_checkIndex_8e157_17
    · rw [if_neg q2] at h
      exact FJ3_checkIndex_8e157_j9_ok F hr hlk hD h
set_option maxRecDepth 20000 in
theorem FJ3_checkIndex_8e157_met {w : Value} {l : Launch} {G : GG} {D : Nat} {r : Int32 × Mem} {M : Mem} {a0 : Int32} {a1 : Int32} (hI : Inj shA G.2.1) (hD : 1 ≤ D) (hw : w = .ref 204 ∨ w = .null) (h : FJ3_checkIndex_8e157 M a0 a1 = some r) : MetX shA l G yJ3_checkIndex_8e157 cJ3_checkIndex_8e157 3 (some .int) D [.int a0, .int a1, w] M (some (.int r.1), r.2) := by
  rcases hw with rfl | rfl
  · exact X_met hI (by decide +kernel) (Nat.le_of_ble_eq_true rfl) (fun p e s m args below meth c F hr hlk => FJ3_checkIndex_8e157_ok F hr hlk hD h)
  · exact X_met hI (by decide +kernel) (Nat.le_of_ble_eq_true rfl) (fun p e s m args below meth c F hr hlk => FJ3_checkIndex_8e157_ok F hr hlk hD h)
-- java/lang/String.checkIndex
def FJ0_checkIndex_df160 (M : Mem) (a0 : Int32) (a1 : Int32) : Option (Int32 × Mem) :=
    Option.bind (FJ3_checkIndex_8e157 M a0 a1) fun r1 =>
    some ((0 : Int32), r1.2)
set_option maxRecDepth 20000 in
theorem FJ0_checkIndex_df160_ok {p : Program} {l : Launch} {e : Env} {s : State} {m : MethodId} {args : Array Value} {below : List Frame} {meth : Method} {c : Code} {G : GG} {D : Nat} {r : Int32 × Mem} (F : FrP shA G p s m args c RJ0 cJ0_checkIndex_df160 2) (hr : meth.sig.returnType = none) (hlk : meth.locks = false) (hD : 2 ≤ D) {M : Mem} {a0 : Int32} {a1 : Int32} (h : FJ0_checkIndex_df160 M a0 a1 = some r) : XJ shA p l e (rmX D) s m args below meth c 0 0 G 2 (MQ below (QcX shA G ((none, r.2) : Option Value × Mem).1 ((none, r.2) : Option Value × Mem).2) args s 0 0 (AW shA G.2.1)) 0 [(0, .int a0), (1, .int a1)] [] M := by
  unfold FJ0_checkIndex_df160 at h
  refine X_iload_n F dJ0_checkIndex_df160_0 rfl ?_
  refine X_iload_n F dJ0_checkIndex_df160_1 rfl ?_
  obtain ⟨r1, h2, h⟩ := bndS h
  refine X_ssio F fzRJ0_1053 dJ0_checkIndex_df160_2 ?_ ?_
  · refine X_callS (As := [.int a0, .int a1, .ref 204]) (rest := []) F fsRJ0_1059 feJ3_checkIndex_8e157 ftJ3_checkIndex_8e157 (FJ3_checkIndex_8e157_met (D := D - 1) F.2.2.2.2.2.2.2.1 (by omega) (.inl rfl) h2) rfl rfl (Nat.le_of_ble_eq_true rfl) (rm_ok (by omega) (by decide)) dJ0_checkIndex_df160_5 ?_
    show XJ shA p l e (rmX D) s m args below meth c 0 0 G 2 (MQ below (QcX shA G ((none, r.2) : Option Value × Mem).1 ((none, r.2) : Option Value × Mem).2) args s 0 0 (AW shA G.2.1)) 8 [(0, .int a0), (1, .int a1)] [.int r1.1] r1.2
    refine X_pop F dJ0_checkIndex_df160_8 rfl ?_
    exact X_vret F hr hlk (retV h) dJ0_checkIndex_df160_9
  · refine X_callS (As := [.int a0, .int a1, .null]) (rest := []) F fsRJ0_1059 feJ3_checkIndex_8e157 ftJ3_checkIndex_8e157 (FJ3_checkIndex_8e157_met (D := D - 1) F.2.2.2.2.2.2.2.1 (by omega) (.inr rfl) h2) rfl rfl (Nat.le_of_ble_eq_true rfl) (rm_ok (by omega) (by decide)) dJ0_checkIndex_df160_5 ?_
    show XJ shA p l e (rmX D) s m args below meth c 0 0 G 2 (MQ below (QcX shA G ((none, r.2) : Option Value × Mem).1 ((none, r.2) : Option Value × Mem).2) args s 0 0 (AW shA G.2.1)) 8 [(0, .int a0), (1, .int a1)] [.int r1.1] r1.2
    refine X_pop F dJ0_checkIndex_df160_8 rfl ?_
    exact X_vret F hr hlk (retV h) dJ0_checkIndex_df160_9
set_option maxRecDepth 20000 in
theorem FJ0_checkIndex_df160_met {l : Launch} {G : GG} {D : Nat} {r : Int32 × Mem} {M : Mem} {a0 : Int32} {a1 : Int32} (hI : Inj shA G.2.1) (hD : 2 ≤ D) (h : FJ0_checkIndex_df160 M a0 a1 = some r) : MetX shA l G yJ0_checkIndex_df160 cJ0_checkIndex_df160 2 none D [.int a0, .int a1] M (none, r.2) :=
  X_met hI (by decide +kernel) (Nat.le_of_ble_eq_true rfl) (fun p e s m args below meth c F hr hlk => FJ0_checkIndex_df160_ok F hr hlk hD h)
-- java/lang/StringLatin1.charAt
def FJ1_charAt_3b067 (M : Mem) (si : Nat) (a1 : Int32) : Option (Int32 × Mem) :=
    Option.bind (FJ0_checkIndex_df160 M a1 (Int32.ofNat (sN si))) fun r1 =>
    if inb a1 (sN si) = true then
    some ((jchar ((sB si (Int32.toNatClampNeg a1)) &&& (255 : Int32))), r1.2)
    else none
set_option maxRecDepth 20000 in
theorem FJ1_charAt_3b067_ok {p : Program} {l : Launch} {e : Env} {s : State} {m : MethodId} {args : Array Value} {below : List Frame} {meth : Method} {c : Code} {G : GG} {D : Nat} {r : Int32 × Mem} (F : FrP shA G p s m args c RJ1 cJ1_charAt_3b067 2) (hr : meth.sig.returnType = (some .char)) (hlk : meth.locks = false) (hD : 3 ≤ D) {M : Mem} {si : Nat} {a1 : Int32} (hsi : si < 3) (h : FJ1_charAt_3b067 M si a1 = some r) : XJ shA p l e (rmX D) s m args below meth c 0 0 G 2 (MQ below (QcX shA G ((some (.int r.1), r.2) : Option Value × Mem).1 ((some (.int r.1), r.2) : Option Value × Mem).2) args s 0 0 (AW shA G.2.1)) 0 [(0, .ref (211 + si)), (1, .int a1)] [] M := by
  unfold FJ1_charAt_3b067 at h
  refine X_iload_n F dJ1_charAt_3b067_0 rfl ?_
  refine X_aload_n F dJ1_charAt_3b067_1 rfl ?_
  refine X_sblen F hsi dJ1_charAt_3b067_2 ?_
  obtain ⟨r1, h2, h⟩ := bndS h
  refine X_callS (As := [.int a1, .int (Int32.ofNat (sN si))]) (rest := []) F fsRJ1_9 feJ0_checkIndex_df160 ftJ0_checkIndex_df160 (FJ0_checkIndex_df160_met (D := D - 1) F.2.2.2.2.2.2.2.1 (by omega) h2) rfl rfl (Nat.le_of_ble_eq_true rfl) (rm_ok (by omega) (by decide)) dJ1_charAt_3b067_3 ?_
  show XJ shA p l e (rmX D) s m args below meth c 0 0 G 2 (MQ below (QcX shA G ((some (.int r.1), r.2) : Option Value × Mem).1 ((some (.int r.1), r.2) : Option Value × Mem).2) args s 0 0 (AW shA G.2.1)) 6 [(0, .ref (211 + si)), (1, .int a1)] [] r1.2
  refine X_aload_n F dJ1_charAt_3b067_6 rfl ?_
  refine X_iload_n F dJ1_charAt_3b067_7 rfl ?_
  obtain ⟨q3, h⟩ := ifS h
  refine X_sbald (j := (Int32.toNatClampNeg a1)) F hsi (inbV q3) rfl dJ1_charAt_3b067_8 ?_
  refine X_sipush F dJ1_charAt_3b067_9 (v := (255 : Int32)) rfl ?_
  refine X_iand F dJ1_charAt_3b067_12 ?_
  refine X_i2c F dJ1_charAt_3b067_13 ?_
  exact X_zret F hr hlk (cchJ _) (retI h) dJ1_charAt_3b067_14
set_option maxRecDepth 20000 in
theorem FJ1_charAt_3b067_met {l : Launch} {G : GG} {D : Nat} {r : Int32 × Mem} {M : Mem} {si : Nat} {a1 : Int32} (hI : Inj shA G.2.1) (hD : 3 ≤ D) (hsi : si < 3) (h : FJ1_charAt_3b067 M si a1 = some r) : MetX shA l G yJ1_charAt_3b067 cJ1_charAt_3b067 2 (some .char) D [.ref (211 + si), .int a1] M (some (.int r.1), r.2) :=
  X_met hI (by decide +kernel) (Nat.le_of_ble_eq_true rfl) (fun p e s m args below meth c F hr hlk => FJ1_charAt_3b067_ok F hr hlk hD hsi h)
-- java/lang/String.charAt
def FJ0_charAt_5068e (M : Mem) (si : Nat) (a1 : Int32) : Option (Int32 × Mem) :=
    Option.bind (FJ0_isLatin1_aae02 M si) fun r1 =>
    if r1.1 = 0 then
      none
    else
      Option.bind (FJ1_charAt_3b067 r1.2 si a1) fun r4 =>
      if cch r4.1 = true then
      some (r4.1, r4.2)
      else none
set_option maxRecDepth 20000 in
theorem FJ0_charAt_5068e_ok {p : Program} {l : Launch} {e : Env} {s : State} {m : MethodId} {args : Array Value} {below : List Frame} {meth : Method} {c : Code} {G : GG} {D : Nat} {r : Int32 × Mem} (F : FrP shA G p s m args c RJ0 cJ0_charAt_5068e 2) (hr : meth.sig.returnType = (some .char)) (hlk : meth.locks = false) (hD : 4 ≤ D) {M : Mem} {si : Nat} {a1 : Int32} (hsi : si < 3) (h : FJ0_charAt_5068e M si a1 = some r) : XJ shA p l e (rmX D) s m args below meth c 0 0 G 2 (MQ below (QcX shA G ((some (.int r.1), r.2) : Option Value × Mem).1 ((some (.int r.1), r.2) : Option Value × Mem).2) args s 0 0 (AW shA G.2.1)) 0 [(0, .ref (201 + si)), (1, .int a1)] [] M := by
  unfold FJ0_charAt_5068e at h
  refine X_aload_n F dJ0_charAt_5068e_0 rfl ?_
  obtain ⟨r1, h2, h⟩ := bndS h
  refine X_callT (si := si) (As := []) (rest := []) F fkRJ0_492 feJ0_isLatin1_aae02 fvJ0_isLatin1_aae02 hsi rfl (FJ0_isLatin1_aae02_met (D := D - 1) F.2.2.2.2.2.2.2.1 (by omega) hsi h2) rfl rfl (Nat.le_of_ble_eq_true rfl) (rm_ok (by omega) (by decide)) dJ0_charAt_5068e_1 ?_
  show XJ shA p l e (rmX D) s m args below meth c 0 0 G 2 (MQ below (QcX shA G ((some (.int r.1), r.2) : Option Value × Mem).1 ((some (.int r.1), r.2) : Option Value × Mem).2) args s 0 0 (AW shA G.2.1)) 4 [(0, .ref (201 + si)), (1, .int a1)] [.int r1.1] r1.2
  refine X_if_eq (tgt := 16) F dJ0_charAt_5068e_4 (by decide) (fun q3 => ?_) (fun q3 => ?_)
  · rw [if_pos q3] at h
    cases h
  · rw [if_neg q3] at h
    refine X_aload_n F dJ0_charAt_5068e_7 rfl ?_
    refine X_sval F hsi fzRJ0_9 dJ0_charAt_5068e_8 ?_
    refine X_iload_n F dJ0_charAt_5068e_11 rfl ?_
    obtain ⟨r4, h5, h⟩ := bndS h
    refine X_callS (As := [.ref (211 + si), .int a1]) (rest := []) F fsRJ0_495 feJ1_charAt_3b067 ftJ1_charAt_3b067 (FJ1_charAt_3b067_met (D := D - 1) F.2.2.2.2.2.2.2.1 (by omega) hsi h5) rfl rfl (Nat.le_of_ble_eq_true rfl) (rm_ok (by omega) (by decide)) dJ0_charAt_5068e_12 ?_
    show XJ shA p l e (rmX D) s m args below meth c 0 0 G 2 (MQ below (QcX shA G ((some (.int r.1), r.2) : Option Value × Mem).1 ((some (.int r.1), r.2) : Option Value × Mem).2) args s 0 0 (AW shA G.2.1)) 15 [(0, .ref (201 + si)), (1, .int a1)] [.int r4.1] r4.2
    obtain ⟨q6, h⟩ := ifS h
    exact X_zret F hr hlk (cchN q6) (retI h) dJ0_charAt_5068e_15
set_option maxRecDepth 20000 in
theorem FJ0_charAt_5068e_met {l : Launch} {G : GG} {D : Nat} {r : Int32 × Mem} {M : Mem} {si : Nat} {a1 : Int32} (hI : Inj shA G.2.1) (hD : 4 ≤ D) (hsi : si < 3) (h : FJ0_charAt_5068e M si a1 = some r) : MetX shA l G yJ0_charAt_5068e cJ0_charAt_5068e 2 (some .char) D [.ref (201 + si), .int a1] M (some (.int r.1), r.2) :=
  X_met hI (by decide +kernel) (Nat.le_of_ble_eq_true rfl) (fun p e s m args below meth c F hr hlk => FJ0_charAt_5068e_ok F hr hlk hD hsi h)
-- java/lang/StringLatin1.canEncode
def FJ1_canEncode_9a6ad (M : Mem) (a0 : Int32) : Option (Int32 × Mem) :=
    if a0 < 0 then
      some ((0 : Int32), M)
    else
      if (255 : Int32) < a0 then
        some ((0 : Int32), M)
      else
        some ((1 : Int32), M)
set_option maxRecDepth 20000 in
theorem FJ1_canEncode_9a6ad_ok {p : Program} {l : Launch} {e : Env} {s : State} {m : MethodId} {args : Array Value} {below : List Frame} {meth : Method} {c : Code} {G : GG} {D : Nat} {r : Int32 × Mem} (F : FrP shA G p s m args c RJ1 cJ1_canEncode_9a6ad 1) (hr : meth.sig.returnType = (some .boolean)) (hlk : meth.locks = false) (hD : 1 ≤ D) {M : Mem} {a0 : Int32} (h : FJ1_canEncode_9a6ad M a0 = some r) : XJ shA p l e (rmX D) s m args below meth c 0 0 G 1 (MQ below (QcX shA G ((some (.int r.1), r.2) : Option Value × Mem).1 ((some (.int r.1), r.2) : Option Value × Mem).2) args s 0 0 (AW shA G.2.1)) 0 [(0, .int a0)] [] M := by
  unfold FJ1_canEncode_9a6ad at h
  refine X_iload_n F dJ1_canEncode_9a6ad_0 rfl ?_
  refine X_if_lt (tgt := 15) F dJ1_canEncode_9a6ad_1 (by decide) (fun q1 => ?_) (fun q1 => ?_)
  · rw [if_pos q1] at h
    refine X_iconst F dJ1_canEncode_9a6ad_15 (v := (0 : Int32)) rfl ?_
    exact X_zret F hr hlk rfl (retI h) dJ1_canEncode_9a6ad_16
  · rw [if_neg q1] at h
    refine X_iload_n F dJ1_canEncode_9a6ad_4 rfl ?_
    refine X_sipush F dJ1_canEncode_9a6ad_5 (v := (255 : Int32)) rfl ?_
    refine X_icmp_gt (tgt := 15) F dJ1_canEncode_9a6ad_8 (by decide) (fun q2 => ?_) (fun q2 => ?_)
    · rw [if_pos q2] at h
      refine X_iconst F dJ1_canEncode_9a6ad_15 (v := (0 : Int32)) rfl ?_
      exact X_zret F hr hlk rfl (retI h) dJ1_canEncode_9a6ad_16
    · rw [if_neg q2] at h
      refine X_iconst F dJ1_canEncode_9a6ad_11 (v := (1 : Int32)) rfl ?_
      refine X_goto (tgt := 16) F dJ1_canEncode_9a6ad_12 (by decide) ?_
      exact X_zret F hr hlk rfl (retI h) dJ1_canEncode_9a6ad_16
set_option maxRecDepth 20000 in
theorem FJ1_canEncode_9a6ad_met {l : Launch} {G : GG} {D : Nat} {r : Int32 × Mem} {M : Mem} {a0 : Int32} (hI : Inj shA G.2.1) (hD : 1 ≤ D) (h : FJ1_canEncode_9a6ad M a0 = some r) : MetX shA l G yJ1_canEncode_9a6ad cJ1_canEncode_9a6ad 1 (some .boolean) D [.int a0] M (some (.int r.1), r.2) :=
  X_met hI (by decide +kernel) (Nat.le_of_ble_eq_true rfl) (fun p e s m args below meth c F hr hlk => FJ1_canEncode_9a6ad_ok F hr hlk hD h)
-- java/lang/StringLatin1.indexOfChar
def FJ1_indexOfChar_4cfef_l7_b (si : Nat) (rec7 : Mem → Int32 → Int32 → Int32 → Option (Int32 × Mem)) (M : Mem) (x3 : Int32) (x4 : Int32) (x5 : Int32) : Option (Int32 × Mem) :=
    if x3 ≤ x5 then
      some ((-1 : Int32), M)
    else
      if inb x5 (sN si) = true then
      if ¬ (sB si (Int32.toNatClampNeg x5)) = x4 then
        rec7 M x3 x4 (x5 + (1 : Int32))
      else
        some (x5, M)
      else none
def FJ1_indexOfChar_4cfef_l7 (si : Nat) : Nat → Mem → Int32 → Int32 → Int32 → Option (Int32 × Mem)
  | 0, _, _, _, _ => none
  | fu + 1, M, x3, x4, x5 => FJ1_indexOfChar_4cfef_l7_b si (FJ1_indexOfChar_4cfef_l7 si fu) M x3 x4 x5
def FJ1_indexOfChar_4cfef (M : Mem) (si : Nat) (a1 : Int32) (a2 : Int32) (a3 : Int32) : Option (Int32 × Mem) :=
    FJ1_indexOfChar_4cfef_l7 si FUEL M a3 (Int8.toInt32 (Int32.toInt8 a1)) a2
set_option maxRecDepth 20000 in
theorem FJ1_indexOfChar_4cfef_l7_bok {p : Program} {l : Launch} {e : Env} {s : State} {m : MethodId} {args : Array Value} {below : List Frame} {meth : Method} {c : Code} {G : GG} {D : Nat} {r : Int32 × Mem} {si : Nat} {rec7 : Mem → Int32 → Int32 → Int32 → Option (Int32 × Mem)} (F : FrP shA G p s m args c RJ1 cJ1_indexOfChar_4cfef 6) (hr : meth.sig.returnType = (some .int)) (hlk : meth.locks = false) (hD : 1 ≤ D) (hrec7 : ∀ (M : Mem) (x3 : Int32) (x4 : Int32) (x5 : Int32), rec7 M x3 x4 x5 = some r → XJ shA p l e (rmX D) s m args below meth c 0 0 G 6 (MQ below (QcX shA G ((some (.int r.1), r.2) : Option Value × Mem).1 ((some (.int r.1), r.2) : Option Value × Mem).2) args s 0 0 (AW shA G.2.1)) 7 [(0, .ref (211 + si)), (3, .int x3), (4, .int x4), (5, .int x5)] [] M) {M : Mem} {x3 : Int32} {x4 : Int32} {x5 : Int32} (hsi : si < 3) (h : FJ1_indexOfChar_4cfef_l7_b si rec7 M x3 x4 x5 = some r) : XJ shA p l e (rmX D) s m args below meth c 0 0 G 6 (MQ below (QcX shA G ((some (.int r.1), r.2) : Option Value × Mem).1 ((some (.int r.1), r.2) : Option Value × Mem).2) args s 0 0 (AW shA G.2.1)) 7 [(0, .ref (211 + si)), (3, .int x3), (4, .int x4), (5, .int x5)] [] M := by
  unfold FJ1_indexOfChar_4cfef_l7_b at h
  refine X_iload F dJ1_indexOfChar_4cfef_7 rfl ?_
  refine X_iload_n F dJ1_indexOfChar_4cfef_9 rfl ?_
  refine X_icmp_ge (tgt := 31) F dJ1_indexOfChar_4cfef_10 (by decide) (fun q1 => ?_) (fun q1 => ?_)
  · rw [if_pos q1] at h
    refine X_iconst F dJ1_indexOfChar_4cfef_31 (v := (-1 : Int32)) rfl ?_
    exact X_iret F hr hlk (retI h) dJ1_indexOfChar_4cfef_32
  · rw [if_neg q1] at h
    refine X_aload_n F dJ1_indexOfChar_4cfef_13 rfl ?_
    refine X_iload F dJ1_indexOfChar_4cfef_14 rfl ?_
    obtain ⟨q2, h⟩ := ifS h
    refine X_sbald (j := (Int32.toNatClampNeg x5)) F hsi (inbV q2) rfl dJ1_indexOfChar_4cfef_16 ?_
    refine X_iload F dJ1_indexOfChar_4cfef_17 rfl ?_
    refine X_icmp_ne (tgt := 25) F dJ1_indexOfChar_4cfef_19 (by decide) (fun q3 => ?_) (fun q3 => ?_)
    · rw [if_pos q3] at h
      refine X_iinc F dJ1_indexOfChar_4cfef_25 rfl (v := (1 : Int32)) rfl (by decide) rfl ?_
      refine X_goto (tgt := 7) F dJ1_indexOfChar_4cfef_28 (by decide) ?_
      refine X_pick [1, 2, 3, 0] rfl ?_
      exact hrec7 _ _ _ _ h
    · rw [if_neg (fun z => z q3)] at h
      refine X_iload F dJ1_indexOfChar_4cfef_22 rfl ?_
      exact X_iret F hr hlk (retI h) dJ1_indexOfChar_4cfef_24
set_option maxRecDepth 20000 in
theorem FJ1_indexOfChar_4cfef_l7_ok {p : Program} {l : Launch} {e : Env} {s : State} {m : MethodId} {args : Array Value} {below : List Frame} {meth : Method} {c : Code} {G : GG} {D : Nat} {r : Int32 × Mem} {si : Nat} (F : FrP shA G p s m args c RJ1 cJ1_indexOfChar_4cfef 6) (hr : meth.sig.returnType = (some .int)) (hlk : meth.locks = false) (hD : 1 ≤ D) : ∀ (fu : Nat) (M : Mem) (x3 : Int32) (x4 : Int32) (x5 : Int32) (hsi : si < 3), FJ1_indexOfChar_4cfef_l7 si fu M x3 x4 x5 = some r → XJ shA p l e (rmX D) s m args below meth c 0 0 G 6 (MQ below (QcX shA G ((some (.int r.1), r.2) : Option Value × Mem).1 ((some (.int r.1), r.2) : Option Value × Mem).2) args s 0 0 (AW shA G.2.1)) 7 [(0, .ref (211 + si)), (3, .int x3), (4, .int x4), (5, .int x5)] [] M := by
  intro fu
  induction fu with
  | zero => intro M x3 x4 x5 hsi h; cases h
  | succ fu ih => intro M x3 x4 x5 hsi h; exact FJ1_indexOfChar_4cfef_l7_bok F hr hlk hD (fun M x3 x4 x5 => ih M x3 x4 x5 hsi) hsi h
set_option maxRecDepth 20000 in
theorem FJ1_indexOfChar_4cfef_ok {p : Program} {l : Launch} {e : Env} {s : State} {m : MethodId} {args : Array Value} {below : List Frame} {meth : Method} {c : Code} {G : GG} {D : Nat} {r : Int32 × Mem} (F : FrP shA G p s m args c RJ1 cJ1_indexOfChar_4cfef 6) (hr : meth.sig.returnType = (some .int)) (hlk : meth.locks = false) (hD : 1 ≤ D) {M : Mem} {si : Nat} {a1 : Int32} {a2 : Int32} {a3 : Int32} (hsi : si < 3) (h : FJ1_indexOfChar_4cfef M si a1 a2 a3 = some r) : XJ shA p l e (rmX D) s m args below meth c 0 0 G 6 (MQ below (QcX shA G ((some (.int r.1), r.2) : Option Value × Mem).1 ((some (.int r.1), r.2) : Option Value × Mem).2) args s 0 0 (AW shA G.2.1)) 0 [(0, .ref (211 + si)), (1, .int a1), (2, .int a2), (3, .int a3)] [] M := by
  unfold FJ1_indexOfChar_4cfef at h
  refine X_iload_n F dJ1_indexOfChar_4cfef_0 rfl ?_
  refine X_i2b F dJ1_indexOfChar_4cfef_1 ?_
  refine X_istore F dJ1_indexOfChar_4cfef_2 (by decide) rfl ?_
  refine X_iload_n F dJ1_indexOfChar_4cfef_4 rfl ?_
  refine X_istore F dJ1_indexOfChar_4cfef_5 (by decide) rfl ?_
  refine X_pick [2, 5, 1, 0] rfl ?_
  exact FJ1_indexOfChar_4cfef_l7_ok F hr hlk hD FUEL _ _ _ _ hsi h
set_option maxRecDepth 20000 in
theorem FJ1_indexOfChar_4cfef_met {l : Launch} {G : GG} {D : Nat} {r : Int32 × Mem} {M : Mem} {si : Nat} {a1 : Int32} {a2 : Int32} {a3 : Int32} (hI : Inj shA G.2.1) (hD : 1 ≤ D) (hsi : si < 3) (h : FJ1_indexOfChar_4cfef M si a1 a2 a3 = some r) : MetX shA l G yJ1_indexOfChar_4cfef cJ1_indexOfChar_4cfef 6 (some .int) D [.ref (211 + si), .int a1, .int a2, .int a3] M (some (.int r.1), r.2) :=
  X_met hI (by decide +kernel) (Nat.le_of_ble_eq_true rfl) (fun p e s m args below meth c F hr hlk => FJ1_indexOfChar_4cfef_ok F hr hlk hD hsi h)
-- java/lang/StringLatin1.indexOf
def FJ1_indexOf_4cfef (M : Mem) (si : Nat) (a1 : Int32) (a2 : Int32) (a3 : Int32) : Option (Int32 × Mem) :=
    Option.bind (FJ1_canEncode_9a6ad M a1) fun r1 =>
    if ¬ r1.1 = 0 then
      if (jmax a2 (0 : Int32)) < (jmin a3 (Int32.ofNat (sN si))) then
        Option.bind (FJ1_indexOfChar_4cfef r1.2 si a1 (jmax a2 (0 : Int32)) (jmin a3 (Int32.ofNat (sN si)))) fun r5 =>
        some (r5.1, r5.2)
      else
        some ((-1 : Int32), r1.2)
    else
      some ((-1 : Int32), r1.2)
set_option maxRecDepth 20000 in
theorem FJ1_indexOf_4cfef_ok {p : Program} {l : Launch} {e : Env} {s : State} {m : MethodId} {args : Array Value} {below : List Frame} {meth : Method} {c : Code} {G : GG} {D : Nat} {r : Int32 × Mem} (F : FrP shA G p s m args c RJ1 cJ1_indexOf_4cfef 4) (hr : meth.sig.returnType = (some .int)) (hlk : meth.locks = false) (hD : 2 ≤ D) {M : Mem} {si : Nat} {a1 : Int32} {a2 : Int32} {a3 : Int32} (hsi : si < 3) (h : FJ1_indexOf_4cfef M si a1 a2 a3 = some r) : XJ shA p l e (rmX D) s m args below meth c 0 0 G 4 (MQ below (QcX shA G ((some (.int r.1), r.2) : Option Value × Mem).1 ((some (.int r.1), r.2) : Option Value × Mem).2) args s 0 0 (AW shA G.2.1)) 0 [(0, .ref (211 + si)), (1, .int a1), (2, .int a2), (3, .int a3)] [] M := by
  unfold FJ1_indexOf_4cfef at h
  refine X_iload_n F dJ1_indexOf_4cfef_0 rfl ?_
  obtain ⟨r1, h2, h⟩ := bndS h
  refine X_callS (As := [.int a1]) (rest := []) F fsRJ1_88 feJ1_canEncode_9a6ad ftJ1_canEncode_9a6ad (FJ1_canEncode_9a6ad_met (D := D - 1) F.2.2.2.2.2.2.2.1 (by omega) h2) rfl rfl (Nat.le_of_ble_eq_true rfl) (rm_ok (by omega) (by decide)) dJ1_indexOf_4cfef_1 ?_
  show XJ shA p l e (rmX D) s m args below meth c 0 0 G 4 (MQ below (QcX shA G ((some (.int r.1), r.2) : Option Value × Mem).1 ((some (.int r.1), r.2) : Option Value × Mem).2) args s 0 0 (AW shA G.2.1)) 4 [(0, .ref (211 + si)), (1, .int a1), (2, .int a2), (3, .int a3)] [.int r1.1] r1.2
  refine X_if_ne (tgt := 9) F dJ1_indexOf_4cfef_4 (by decide) (fun q3 => ?_) (fun q3 => ?_)
  · rw [if_pos q3] at h
    refine X_iload_n F dJ1_indexOf_4cfef_9 rfl ?_
    refine X_iconst F dJ1_indexOf_4cfef_10 (v := (0 : Int32)) rfl ?_
    refine X_mmax F fmRJ1_92 math_smax math_i math_cmax (rm_1 (by omega)) (rm_w (n := 13) (by omega) (Nat.le_of_ble_eq_true rfl) (by decide)) dJ1_indexOf_4cfef_11 ?_
    refine X_istore_n F dJ1_indexOf_4cfef_14 (by decide) rfl ?_
    refine X_iload_n F dJ1_indexOf_4cfef_15 rfl ?_
    refine X_aload_n F dJ1_indexOf_4cfef_16 rfl ?_
    refine X_sblen F hsi dJ1_indexOf_4cfef_17 ?_
    refine X_mmin F fmRJ1_38 math_smin math_i math_cmin (rm_1 (by omega)) (rm_w (n := 13) (by omega) (Nat.le_of_ble_eq_true rfl) (by decide)) dJ1_indexOf_4cfef_18 ?_
    refine X_istore_n F dJ1_indexOf_4cfef_21 (by decide) rfl ?_
    refine X_iload_n F dJ1_indexOf_4cfef_22 rfl ?_
    refine X_iload_n F dJ1_indexOf_4cfef_23 rfl ?_
    refine X_icmp_lt (tgt := 29) F dJ1_indexOf_4cfef_24 (by decide) (fun q4 => ?_) (fun q4 => ?_)
    · rw [if_pos q4] at h
      refine X_aload_n F dJ1_indexOf_4cfef_29 rfl ?_
      refine X_iload_n F dJ1_indexOf_4cfef_30 rfl ?_
      refine X_iload_n F dJ1_indexOf_4cfef_31 rfl ?_
      refine X_iload_n F dJ1_indexOf_4cfef_32 rfl ?_
      obtain ⟨r5, h6, h⟩ := bndS h
      refine X_callS (As := [.ref (211 + si), .int a1, .int (jmax a2 (0 : Int32)), .int (jmin a3 (Int32.ofNat (sN si)))]) (rest := []) F fsRJ1_95 feJ1_indexOfChar_4cfef ftJ1_indexOfChar_4cfef (FJ1_indexOfChar_4cfef_met (D := D - 1) F.2.2.2.2.2.2.2.1 (by omega) hsi h6) rfl rfl (Nat.le_of_ble_eq_true rfl) (rm_ok (by omega) (by decide)) dJ1_indexOf_4cfef_33 ?_
      show XJ shA p l e (rmX D) s m args below meth c 0 0 G 4 (MQ below (QcX shA G ((some (.int r.1), r.2) : Option Value × Mem).1 ((some (.int r.1), r.2) : Option Value × Mem).2) args s 0 0 (AW shA G.2.1)) 36 [(3, .int (jmin a3 (Int32.ofNat (sN si)))), (2, .int (jmax a2 (0 : Int32))), (0, .ref (211 + si)), (1, .int a1)] [.int r5.1] r5.2
      exact X_iret F hr hlk (retI h) dJ1_indexOf_4cfef_36
    · rw [if_neg q4] at h
      refine X_iconst F dJ1_indexOf_4cfef_27 (v := (-1 : Int32)) rfl ?_
      exact X_iret F hr hlk (retI h) dJ1_indexOf_4cfef_28
  · rw [if_neg (fun z => z q3)] at h
    refine X_iconst F dJ1_indexOf_4cfef_7 (v := (-1 : Int32)) rfl ?_
    exact X_iret F hr hlk (retI h) dJ1_indexOf_4cfef_8
set_option maxRecDepth 20000 in
theorem FJ1_indexOf_4cfef_met {l : Launch} {G : GG} {D : Nat} {r : Int32 × Mem} {M : Mem} {si : Nat} {a1 : Int32} {a2 : Int32} {a3 : Int32} (hI : Inj shA G.2.1) (hD : 2 ≤ D) (hsi : si < 3) (h : FJ1_indexOf_4cfef M si a1 a2 a3 = some r) : MetX shA l G yJ1_indexOf_4cfef cJ1_indexOf_4cfef 4 (some .int) D [.ref (211 + si), .int a1, .int a2, .int a3] M (some (.int r.1), r.2) :=
  X_met hI (by decide +kernel) (Nat.le_of_ble_eq_true rfl) (fun p e s m args below meth c F hr hlk => FJ1_indexOf_4cfef_ok F hr hlk hD hsi h)
-- java/lang/String.indexOf
def FJ0_indexOf_7cf53 (M : Mem) (si : Nat) (a1 : Int32) (a2 : Int32) : Option (Int32 × Mem) :=
    Option.bind (FJ0_isLatin1_aae02 M si) fun r1 =>
    if r1.1 = 0 then
      none
    else
      Option.bind (FJ0_length_8abf5 r1.2 si) fun r4 =>
      Option.bind (FJ1_indexOf_4cfef r4.2 si a1 a2 r4.1) fun r6 =>
      some (r6.1, r6.2)
set_option maxRecDepth 20000 in
theorem FJ0_indexOf_7cf53_ok {p : Program} {l : Launch} {e : Env} {s : State} {m : MethodId} {args : Array Value} {below : List Frame} {meth : Method} {c : Code} {G : GG} {D : Nat} {r : Int32 × Mem} (F : FrP shA G p s m args c RJ0 cJ0_indexOf_7cf53 3) (hr : meth.sig.returnType = (some .int)) (hlk : meth.locks = false) (hD : 3 ≤ D) {M : Mem} {si : Nat} {a1 : Int32} {a2 : Int32} (hsi : si < 3) (h : FJ0_indexOf_7cf53 M si a1 a2 = some r) : XJ shA p l e (rmX D) s m args below meth c 0 0 G 3 (MQ below (QcX shA G ((some (.int r.1), r.2) : Option Value × Mem).1 ((some (.int r.1), r.2) : Option Value × Mem).2) args s 0 0 (AW shA G.2.1)) 0 [(0, .ref (201 + si)), (1, .int a1), (2, .int a2)] [] M := by
  unfold FJ0_indexOf_7cf53 at h
  refine X_aload_n F dJ0_indexOf_7cf53_0 rfl ?_
  obtain ⟨r1, h2, h⟩ := bndS h
  refine X_callT (si := si) (As := []) (rest := []) F fkRJ0_492 feJ0_isLatin1_aae02 fvJ0_isLatin1_aae02 hsi rfl (FJ0_isLatin1_aae02_met (D := D - 1) F.2.2.2.2.2.2.2.1 (by omega) hsi h2) rfl rfl (Nat.le_of_ble_eq_true rfl) (rm_ok (by omega) (by decide)) dJ0_indexOf_7cf53_1 ?_
  show XJ shA p l e (rmX D) s m args below meth c 0 0 G 3 (MQ below (QcX shA G ((some (.int r.1), r.2) : Option Value × Mem).1 ((some (.int r.1), r.2) : Option Value × Mem).2) args s 0 0 (AW shA G.2.1)) 4 [(0, .ref (201 + si)), (1, .int a1), (2, .int a2)] [.int r1.1] r1.2
  refine X_if_eq (tgt := 23) F dJ0_indexOf_7cf53_4 (by decide) (fun q3 => ?_) (fun q3 => ?_)
  · rw [if_pos q3] at h
    cases h
  · rw [if_neg q3] at h
    refine X_aload_n F dJ0_indexOf_7cf53_7 rfl ?_
    refine X_sval F hsi fzRJ0_9 dJ0_indexOf_7cf53_8 ?_
    refine X_iload_n F dJ0_indexOf_7cf53_11 rfl ?_
    refine X_iload_n F dJ0_indexOf_7cf53_12 rfl ?_
    refine X_aload_n F dJ0_indexOf_7cf53_13 rfl ?_
    obtain ⟨r4, h5, h⟩ := bndS h
    refine X_callT (si := si) (As := []) (rest := [.int a2, .int a1, .ref (211 + si)]) F fkRJ0_505 feJ0_length_8abf5 fvJ0_length_8abf5 hsi rfl (FJ0_length_8abf5_met (D := D - 1) F.2.2.2.2.2.2.2.1 (by omega) hsi h5) rfl rfl (Nat.le_of_ble_eq_true rfl) (rm_ok (by omega) (by decide)) dJ0_indexOf_7cf53_14 ?_
    show XJ shA p l e (rmX D) s m args below meth c 0 0 G 3 (MQ below (QcX shA G ((some (.int r.1), r.2) : Option Value × Mem).1 ((some (.int r.1), r.2) : Option Value × Mem).2) args s 0 0 (AW shA G.2.1)) 17 [(0, .ref (201 + si)), (1, .int a1), (2, .int a2)] [.int r4.1, .int a2, .int a1, .ref (211 + si)] r4.2
    obtain ⟨r6, h7, h⟩ := bndS h
    refine X_callS (As := [.ref (211 + si), .int a1, .int a2, .int r4.1]) (rest := []) F fsRJ0_637 feJ1_indexOf_4cfef ftJ1_indexOf_4cfef (FJ1_indexOf_4cfef_met (D := D - 1) F.2.2.2.2.2.2.2.1 (by omega) hsi h7) rfl rfl (Nat.le_of_ble_eq_true rfl) (rm_ok (by omega) (by decide)) dJ0_indexOf_7cf53_17 ?_
    show XJ shA p l e (rmX D) s m args below meth c 0 0 G 3 (MQ below (QcX shA G ((some (.int r.1), r.2) : Option Value × Mem).1 ((some (.int r.1), r.2) : Option Value × Mem).2) args s 0 0 (AW shA G.2.1)) 20 [(0, .ref (201 + si)), (1, .int a1), (2, .int a2)] [.int r6.1] r6.2
    refine X_goto (tgt := 36) F dJ0_indexOf_7cf53_20 (by decide) ?_
    exact X_iret F hr hlk (retI h) dJ0_indexOf_7cf53_36
set_option maxRecDepth 20000 in
theorem FJ0_indexOf_7cf53_met {l : Launch} {G : GG} {D : Nat} {r : Int32 × Mem} {M : Mem} {si : Nat} {a1 : Int32} {a2 : Int32} (hI : Inj shA G.2.1) (hD : 3 ≤ D) (hsi : si < 3) (h : FJ0_indexOf_7cf53 M si a1 a2 = some r) : MetX shA l G yJ0_indexOf_7cf53 cJ0_indexOf_7cf53 3 (some .int) D [.ref (201 + si), .int a1, .int a2] M (some (.int r.1), r.2) :=
  X_met hI (by decide +kernel) (Nat.le_of_ble_eq_true rfl) (fun p e s m args below meth c F hr hlk => FJ0_indexOf_7cf53_ok F hr hlk hD hsi h)
-- java/lang/String.indexOf
def FJ0_indexOf_0f7a4 (M : Mem) (si : Nat) (a1 : Int32) : Option (Int32 × Mem) :=
    Option.bind (FJ0_indexOf_7cf53 M si a1 (0 : Int32)) fun r1 =>
    some (r1.1, r1.2)
set_option maxRecDepth 20000 in
theorem FJ0_indexOf_0f7a4_ok {p : Program} {l : Launch} {e : Env} {s : State} {m : MethodId} {args : Array Value} {below : List Frame} {meth : Method} {c : Code} {G : GG} {D : Nat} {r : Int32 × Mem} (F : FrP shA G p s m args c RJ0 cJ0_indexOf_0f7a4 2) (hr : meth.sig.returnType = (some .int)) (hlk : meth.locks = false) (hD : 4 ≤ D) {M : Mem} {si : Nat} {a1 : Int32} (hsi : si < 3) (h : FJ0_indexOf_0f7a4 M si a1 = some r) : XJ shA p l e (rmX D) s m args below meth c 0 0 G 2 (MQ below (QcX shA G ((some (.int r.1), r.2) : Option Value × Mem).1 ((some (.int r.1), r.2) : Option Value × Mem).2) args s 0 0 (AW shA G.2.1)) 0 [(0, .ref (201 + si)), (1, .int a1)] [] M := by
  unfold FJ0_indexOf_0f7a4 at h
  refine X_aload_n F dJ0_indexOf_0f7a4_0 rfl ?_
  refine X_iload_n F dJ0_indexOf_0f7a4_1 rfl ?_
  refine X_iconst F dJ0_indexOf_0f7a4_2 (v := (0 : Int32)) rfl ?_
  obtain ⟨r1, h2, h⟩ := bndS h
  refine X_callT (si := si) (As := [.int a1, .int (0 : Int32)]) (rest := []) F fkRJ0_633 feJ0_indexOf_7cf53 fvJ0_indexOf_7cf53 hsi rfl (FJ0_indexOf_7cf53_met (D := D - 1) F.2.2.2.2.2.2.2.1 (by omega) hsi h2) rfl rfl (Nat.le_of_ble_eq_true rfl) (rm_ok (by omega) (by decide)) dJ0_indexOf_0f7a4_3 ?_
  show XJ shA p l e (rmX D) s m args below meth c 0 0 G 2 (MQ below (QcX shA G ((some (.int r.1), r.2) : Option Value × Mem).1 ((some (.int r.1), r.2) : Option Value × Mem).2) args s 0 0 (AW shA G.2.1)) 6 [(0, .ref (201 + si)), (1, .int a1)] [.int r1.1] r1.2
  exact X_iret F hr hlk (retI h) dJ0_indexOf_0f7a4_6
set_option maxRecDepth 20000 in
theorem FJ0_indexOf_0f7a4_met {l : Launch} {G : GG} {D : Nat} {r : Int32 × Mem} {M : Mem} {si : Nat} {a1 : Int32} (hI : Inj shA G.2.1) (hD : 4 ≤ D) (hsi : si < 3) (h : FJ0_indexOf_0f7a4 M si a1 = some r) : MetX shA l G yJ0_indexOf_0f7a4 cJ0_indexOf_0f7a4 2 (some .int) D [.ref (201 + si), .int a1] M (some (.int r.1), r.2) :=
  X_met hI (by decide +kernel) (Nat.le_of_ble_eq_true rfl) (fun p e s m args below meth c F hr hlk => FJ0_indexOf_0f7a4_ok F hr hlk hD hsi h)
