/-! written by wip/whole/gen: the pure functions of these methods, read off their bytecode, and the walks that prove them -/
theorem wsIn0 : ∀ w ∈ u_ws RX0 TX0 16, w ∈ TBL := by
  show ∀ w ∈ [u_lay RX0 TX0 0, u_lay RX0 TX0 1, u_lay RX0 TX0 2, u_lay RX0 TX0 3, u_lay RX0 TX0 4, u_lay RX0 TX0 5, u_lay RX0 TX0 6, u_lay RX0 TX0 7, u_lay RX0 TX0 8, u_lay RX0 TX0 9, u_lay RX0 TX0 10, u_lay RX0 TX0 11, u_lay RX0 TX0 12, u_lay RX0 TX0 13, u_lay RX0 TX0 14, u_lay RX0 TX0 15], w ∈ TBL
  exact List.forall_mem_cons.mpr ⟨tmem 224 (by decide +kernel) rfl, List.forall_mem_cons.mpr ⟨tmem 226 (by decide +kernel) rfl, List.forall_mem_cons.mpr ⟨tmem 228 (by decide +kernel) rfl, List.forall_mem_cons.mpr ⟨tmem 230 (by decide +kernel) rfl, List.forall_mem_cons.mpr ⟨tmem 232 (by decide +kernel) rfl, List.forall_mem_cons.mpr ⟨tmem 234 (by decide +kernel) rfl, List.forall_mem_cons.mpr ⟨tmem 236 (by decide +kernel) rfl, List.forall_mem_cons.mpr ⟨tmem 238 (by decide +kernel) rfl, List.forall_mem_cons.mpr ⟨tmem 240 (by decide +kernel) rfl, List.forall_mem_cons.mpr ⟨tmem 242 (by decide +kernel) rfl, List.forall_mem_cons.mpr ⟨tmem 244 (by decide +kernel) rfl, List.forall_mem_cons.mpr ⟨tmem 246 (by decide +kernel) rfl, List.forall_mem_cons.mpr ⟨tmem 248 (by decide +kernel) rfl, List.forall_mem_cons.mpr ⟨tmem 250 (by decide +kernel) rfl, List.forall_mem_cons.mpr ⟨tmem 252 (by decide +kernel) rfl, List.forall_mem_cons.mpr ⟨tmem 254 (by decide +kernel) rfl, fun _ h => absurd h List.not_mem_nil⟩⟩⟩⟩⟩⟩⟩⟩⟩⟩⟩⟩⟩⟩⟩⟩
theorem wsIn1 : ∀ w ∈ u_ws RX1 TX1 11, w ∈ TBL := by
  show ∀ w ∈ [u_lay RX1 TX1 0, u_lay RX1 TX1 1, u_lay RX1 TX1 2, u_lay RX1 TX1 3, u_lay RX1 TX1 4, u_lay RX1 TX1 5, u_lay RX1 TX1 6, u_lay RX1 TX1 7, u_lay RX1 TX1 8, u_lay RX1 TX1 9, u_lay RX1 TX1 10], w ∈ TBL
  exact List.forall_mem_cons.mpr ⟨tmem 296 (by decide +kernel) rfl, List.forall_mem_cons.mpr ⟨tmem 298 (by decide +kernel) rfl, List.forall_mem_cons.mpr ⟨tmem 300 (by decide +kernel) rfl, List.forall_mem_cons.mpr ⟨tmem 302 (by decide +kernel) rfl, List.forall_mem_cons.mpr ⟨tmem 304 (by decide +kernel) rfl, List.forall_mem_cons.mpr ⟨tmem 306 (by decide +kernel) rfl, List.forall_mem_cons.mpr ⟨tmem 308 (by decide +kernel) rfl, List.forall_mem_cons.mpr ⟨tmem 310 (by decide +kernel) rfl, List.forall_mem_cons.mpr ⟨tmem 312 (by decide +kernel) rfl, List.forall_mem_cons.mpr ⟨tmem 314 (by decide +kernel) rfl, List.forall_mem_cons.mpr ⟨tmem 316 (by decide +kernel) rfl, fun _ h => absurd h List.not_mem_nil⟩⟩⟩⟩⟩⟩⟩⟩⟩⟩⟩
theorem wsIn2 : ∀ w ∈ u_ws RX2 TX2 6, w ∈ TBL := by
  show ∀ w ∈ [u_lay RX2 TX2 0, u_lay RX2 TX2 1, u_lay RX2 TX2 2, u_lay RX2 TX2 3, u_lay RX2 TX2 4, u_lay RX2 TX2 5], w ∈ TBL
  exact List.forall_mem_cons.mpr ⟨tmem 59 (by decide +kernel) rfl, List.forall_mem_cons.mpr ⟨tmem 61 (by decide +kernel) rfl, List.forall_mem_cons.mpr ⟨tmem 63 (by decide +kernel) rfl, List.forall_mem_cons.mpr ⟨tmem 65 (by decide +kernel) rfl, List.forall_mem_cons.mpr ⟨tmem 67 (by decide +kernel) rfl, List.forall_mem_cons.mpr ⟨tmem 69 (by decide +kernel) rfl, fun _ h => absurd h List.not_mem_nil⟩⟩⟩⟩⟩⟩
theorem wsIn3 : ∀ w ∈ u_ws RX3 TX3 12, w ∈ TBL := by
  show ∀ w ∈ [u_lay RX3 TX3 0, u_lay RX3 TX3 1, u_lay RX3 TX3 2, u_lay RX3 TX3 3, u_lay RX3 TX3 4, u_lay RX3 TX3 5, u_lay RX3 TX3 6, u_lay RX3 TX3 7, u_lay RX3 TX3 8, u_lay RX3 TX3 9, u_lay RX3 TX3 10, u_lay RX3 TX3 11], w ∈ TBL
  exact List.forall_mem_cons.mpr ⟨tmem 124 (by decide +kernel) rfl, List.forall_mem_cons.mpr ⟨tmem 126 (by decide +kernel) rfl, List.forall_mem_cons.mpr ⟨tmem 128 (by decide +kernel) rfl, List.forall_mem_cons.mpr ⟨tmem 130 (by decide +kernel) rfl, List.forall_mem_cons.mpr ⟨tmem 132 (by decide +kernel) rfl, List.forall_mem_cons.mpr ⟨tmem 134 (by decide +kernel) rfl, List.forall_mem_cons.mpr ⟨tmem 136 (by decide +kernel) rfl, List.forall_mem_cons.mpr ⟨tmem 138 (by decide +kernel) rfl, List.forall_mem_cons.mpr ⟨tmem 140 (by decide +kernel) rfl, List.forall_mem_cons.mpr ⟨tmem 142 (by decide +kernel) rfl, List.forall_mem_cons.mpr ⟨tmem 144 (by decide +kernel) rfl, List.forall_mem_cons.mpr ⟨tmem 146 (by decide +kernel) rfl, fun _ h => absurd h List.not_mem_nil⟩⟩⟩⟩⟩⟩⟩⟩⟩⟩⟩⟩
theorem wsIn4 : ∀ w ∈ u_ws RX4 TX4 7, w ∈ TBL := by
  show ∀ w ∈ [u_lay RX4 TX4 0, u_lay RX4 TX4 1, u_lay RX4 TX4 2, u_lay RX4 TX4 3, u_lay RX4 TX4 4, u_lay RX4 TX4 5, u_lay RX4 TX4 6], w ∈ TBL
  exact List.forall_mem_cons.mpr ⟨tmem 167 (by decide +kernel) rfl, List.forall_mem_cons.mpr ⟨tmem 169 (by decide +kernel) rfl, List.forall_mem_cons.mpr ⟨tmem 171 (by decide +kernel) rfl, List.forall_mem_cons.mpr ⟨tmem 173 (by decide +kernel) rfl, List.forall_mem_cons.mpr ⟨tmem 175 (by decide +kernel) rfl, List.forall_mem_cons.mpr ⟨tmem 177 (by decide +kernel) rfl, List.forall_mem_cons.mpr ⟨tmem 179 (by decide +kernel) rfl, fun _ h => absurd h List.not_mem_nil⟩⟩⟩⟩⟩⟩⟩
theorem wsIn5 : ∀ w ∈ u_ws RX5 TX5 3, w ∈ TBL := by
  show ∀ w ∈ [u_lay RX5 TX5 0, u_lay RX5 TX5 1, u_lay RX5 TX5 2], w ∈ TBL
  exact List.forall_mem_cons.mpr ⟨tmem 270 (by decide +kernel) rfl, List.forall_mem_cons.mpr ⟨tmem 272 (by decide +kernel) rfl, List.forall_mem_cons.mpr ⟨tmem 274 (by decide +kernel) rfl, fun _ h => absurd h List.not_mem_nil⟩⟩⟩
theorem wsIn6 : ∀ w ∈ u_ws RX6 TX6 4, w ∈ TBL := by
  show ∀ w ∈ [u_lay RX6 TX6 0, u_lay RX6 TX6 1, u_lay RX6 TX6 2, u_lay RX6 TX6 3], w ∈ TBL
  exact List.forall_mem_cons.mpr ⟨tmem 93 (by decide +kernel) rfl, List.forall_mem_cons.mpr ⟨tmem 95 (by decide +kernel) rfl, List.forall_mem_cons.mpr ⟨tmem 97 (by decide +kernel) rfl, List.forall_mem_cons.mpr ⟨tmem 99 (by decide +kernel) rfl, fun _ h => absurd h List.not_mem_nil⟩⟩⟩⟩
theorem wsIn7 : ∀ w ∈ u_ws RX7 TX7 2, w ∈ TBL := by
  show ∀ w ∈ [u_lay RX7 TX7 0, u_lay RX7 TX7 1], w ∈ TBL
  exact List.forall_mem_cons.mpr ⟨tmem 190 (by decide +kernel) rfl, List.forall_mem_cons.mpr ⟨tmem 192 (by decide +kernel) rfl, fun _ h => absurd h List.not_mem_nil⟩⟩
theorem wsIn8 : ∀ w ∈ u_ws RX8 TX8 8, w ∈ TBL := by
  show ∀ w ∈ [u_lay RX8 TX8 0, u_lay RX8 TX8 1, u_lay RX8 TX8 2, u_lay RX8 TX8 3, u_lay RX8 TX8 4, u_lay RX8 TX8 5, u_lay RX8 TX8 6, u_lay RX8 TX8 7], w ∈ TBL
  exact List.forall_mem_cons.mpr ⟨tmem 540 (by decide +kernel) rfl, List.forall_mem_cons.mpr ⟨tmem 542 (by decide +kernel) rfl, List.forall_mem_cons.mpr ⟨tmem 544 (by decide +kernel) rfl, List.forall_mem_cons.mpr ⟨tmem 546 (by decide +kernel) rfl, List.forall_mem_cons.mpr ⟨tmem 548 (by decide +kernel) rfl, List.forall_mem_cons.mpr ⟨tmem 550 (by decide +kernel) rfl, List.forall_mem_cons.mpr ⟨tmem 552 (by decide +kernel) rfl, List.forall_mem_cons.mpr ⟨tmem 554 (by decide +kernel) rfl, fun _ h => absurd h List.not_mem_nil⟩⟩⟩⟩⟩⟩⟩⟩
theorem wsIn9 : ∀ w ∈ u_ws RX9 TX9 56, w ∈ TBL := by
  show ∀ w ∈ [u_lay RX9 TX9 0, u_lay RX9 TX9 1, u_lay RX9 TX9 2, u_lay RX9 TX9 3, u_lay RX9 TX9 4, u_lay RX9 TX9 5, u_lay RX9 TX9 6, u_lay RX9 TX9 7, u_lay RX9 TX9 8, u_lay RX9 TX9 9, u_lay RX9 TX9 10, u_lay RX9 TX9 11, u_lay RX9 TX9 12, u_lay RX9 TX9 13, u_lay RX9 TX9 14, u_lay RX9 TX9 15, u_lay RX9 TX9 16, u_lay RX9 TX9 17, u_lay RX9 TX9 18, u_lay RX9 TX9 19, u_lay RX9 TX9 20, u_lay RX9 TX9 21, u_lay RX9 TX9 22, u_lay RX9 TX9 23, u_lay RX9 TX9 24, u_lay RX9 TX9 25, u_lay RX9 TX9 26, u_lay RX9 TX9 27, u_lay RX9 TX9 28, u_lay RX9 TX9 29, u_lay RX9 TX9 30, u_lay RX9 TX9 31, u_lay RX9 TX9 32, u_lay RX9 TX9 33, u_lay RX9 TX9 34, u_lay RX9 TX9 35, u_lay RX9 TX9 36, u_lay RX9 TX9 37, u_lay RX9 TX9 38, u_lay RX9 TX9 39, u_lay RX9 TX9 40, u_lay RX9 TX9 41, u_lay RX9 TX9 42, u_lay RX9 TX9 43, u_lay RX9 TX9 44, u_lay RX9 TX9 45, u_lay RX9 TX9 46, u_lay RX9 TX9 47, u_lay RX9 TX9 48, u_lay RX9 TX9 49, u_lay RX9 TX9 50, u_lay RX9 TX9 51, u_lay RX9 TX9 52, u_lay RX9 TX9 53, u_lay RX9 TX9 54, u_lay RX9 TX9 55], w ∈ TBL
  exact List.forall_mem_cons.mpr ⟨tmem 987 (by decide +kernel) rfl, List.forall_mem_cons.mpr ⟨tmem 989 (by decide +kernel) rfl, List.forall_mem_cons.mpr ⟨tmem 991 (by decide +kernel) rfl, List.forall_mem_cons.mpr ⟨tmem 993 (by decide +kernel) rfl, List.forall_mem_cons.mpr ⟨tmem 995 (by decide +kernel) rfl, List.forall_mem_cons.mpr ⟨tmem 997 (by decide +kernel) rfl, List.forall_mem_cons.mpr ⟨tmem 999 (by decide +kernel) rfl, List.forall_mem_cons.mpr ⟨tmem 1001 (by decide +kernel) rfl, List.forall_mem_cons.mpr ⟨tmem 1003 (by decide +kernel) rfl, List.forall_mem_cons.mpr ⟨tmem 1005 (by decide +kernel) rfl, List.forall_mem_cons.mpr ⟨tmem 1007 (by decide +kernel) rfl, List.forall_mem_cons.mpr ⟨tmem 1009 (by decide +kernel) rfl, List.forall_mem_cons.mpr ⟨tmem 1011 (by decide +kernel) rfl, List.forall_mem_cons.mpr ⟨tmem 1013 (by decide +kernel) rfl, List.forall_mem_cons.mpr ⟨tmem 1015 (by decide +kernel) rfl, List.forall_mem_cons.mpr ⟨tmem 1017 (by decide +kernel) rfl, List.forall_mem_cons.mpr ⟨tmem 1019 (by decide +kernel) rfl, List.forall_mem_cons.mpr ⟨tmem 1021 (by decide +kernel) rfl, List.forall_mem_cons.mpr ⟨tmem 1023 (by decide +kernel) rfl, List.forall_mem_cons.mpr ⟨tmem 1025 (by decide +kernel) rfl, List.forall_mem_cons.mpr ⟨tmem 1027 (by decide +kernel) rfl, List.forall_mem_cons.mpr ⟨tmem 1029 (by decide +kernel) rfl, List.forall_mem_cons.mpr ⟨tmem 1031 (by decide +kernel) rfl, List.forall_mem_cons.mpr ⟨tmem 1033 (by decide +kernel) rfl, List.forall_mem_cons.mpr ⟨tmem 1035 (by decide +kernel) rfl, List.forall_mem_cons.mpr ⟨tmem 1037 (by decide +kernel) rfl, List.forall_mem_cons.mpr ⟨tmem 1039 (by decide +kernel) rfl, List.forall_mem_cons.mpr ⟨tmem 1041 (by decide +kernel) rfl, List.forall_mem_cons.mpr ⟨tmem 1043 (by decide +kernel) rfl, List.forall_mem_cons.mpr ⟨tmem 1045 (by decide +kernel) rfl, List.forall_mem_cons.mpr ⟨tmem 1047 (by decide +kernel) rfl, List.forall_mem_cons.mpr ⟨tmem 1049 (by decide +kernel) rfl, List.forall_mem_cons.mpr ⟨tmem 1051 (by decide +kernel) rfl, List.forall_mem_cons.mpr ⟨tmem 1053 (by decide +kernel) rfl, List.forall_mem_cons.mpr ⟨tmem 1055 (by decide +kernel) rfl, List.forall_mem_cons.mpr ⟨tmem 1057 (by decide +kernel) rfl, List.forall_mem_cons.mpr ⟨tmem 1059 (by decide +kernel) rfl, List.forall_mem_cons.mpr ⟨tmem 1061 (by decide +kernel) rfl, List.forall_mem_cons.mpr ⟨tmem 1063 (by decide +kernel) rfl, List.forall_mem_cons.mpr ⟨tmem 1065 (by decide +kernel) rfl, List.forall_mem_cons.mpr ⟨tmem 1067 (by decide +kernel) rfl, List.forall_mem_cons.mpr ⟨tmem 1069 (by decide +kernel) rfl, List.forall_mem_cons.mpr ⟨tmem 1071 (by decide +kernel) rfl, List.forall_mem_cons.mpr ⟨tmem 1073 (by decide +kernel) rfl, List.forall_mem_cons.mpr ⟨tmem 1075 (by decide +kernel) rfl, List.forall_mem_cons.mpr ⟨tmem 1077 (by decide +kernel) rfl, List.forall_mem_cons.mpr ⟨tmem 1079 (by decide +kernel) rfl, List.forall_mem_cons.mpr ⟨tmem 1081 (by decide +kernel) rfl, List.forall_mem_cons.mpr ⟨tmem 1083 (by decide +kernel) rfl, List.forall_mem_cons.mpr ⟨tmem 1085 (by decide +kernel) rfl, List.forall_mem_cons.mpr ⟨tmem 1087 (by decide +kernel) rfl, List.forall_mem_cons.mpr ⟨tmem 1089 (by decide +kernel) rfl, List.forall_mem_cons.mpr ⟨tmem 1091 (by decide +kernel) rfl, List.forall_mem_cons.mpr ⟨tmem 1093 (by decide +kernel) rfl, List.forall_mem_cons.mpr ⟨tmem 1095 (by decide +kernel) rfl, List.forall_mem_cons.mpr ⟨tmem 1097 (by decide +kernel) rfl, fun _ h => absurd h List.not_mem_nil⟩⟩⟩⟩⟩⟩⟩⟩⟩⟩⟩⟩⟩⟩⟩⟩⟩⟩⟩⟩⟩⟩⟩⟩⟩⟩⟩⟩⟩⟩⟩⟩⟩⟩⟩⟩⟩⟩⟩⟩⟩⟩⟩⟩⟩⟩⟩⟩⟩⟩⟩⟩⟩⟩⟩⟩
theorem math_smax : Cond.static Lib.Math.max.name ∈ TBL := tmem 430 (by decide +kernel) rfl
theorem math_cmax : Cond.code Lib.Math.max.name Lib.Math.max.code 2 (some .int) ∈ TBL := tmem 431 (by decide +kernel) rfl
theorem math_smin : Cond.static Lib.Math.min.name ∈ TBL := tmem 433 (by decide +kernel) rfl
theorem math_cmin : Cond.code Lib.Math.min.name Lib.Math.min.code 2 (some .int) ∈ TBL := tmem 434 (by decide +kernel) rfl
theorem math_sabs : Cond.static Lib.Math.abs.name ∈ TBL := tmem 703 (by decide +kernel) rfl
theorem math_cabs : Cond.code Lib.Math.abs.name Lib.Math.abs.code 1 (some .int) ∈ TBL := tmem 704 (by decide +kernel) rfl
theorem math_i : Cond.initialized "java/lang/Math" ∈ TBL := tmem 14 (by decide +kernel) rfl
theorem sys_s : Cond.static arraycopyName ∈ TBL := tmem 526 (by decide +kernel) rfl
theorem sys_i : Cond.initialized "java/lang/System" ∈ TBL := tmem 16 (by decide +kernel) rfl
theorem sys_n : Cond.native arraycopyName ∈ TBL := tmem 527 (by decide +kernel) rfl
theorem shR32 {i : Int32} (h : vp_in i 6) : shL[32 + Int32.toNatClampNeg i]? = some (.inl (0, 160)) := by
  have hlt : Int32.toNatClampNeg i < 6 := Nat.not_le.mp fun q => h (Or.inr q)
  generalize Int32.toNatClampNeg i = k at hlt
  have key : ∀ k, k < 6 → shL[32 + k]? = some (.inl (0, 160)) := by decide +kernel
  exact key k hlt
theorem shR39 {i : Int32} (h : vp_in i 6) : shL[39 + Int32.toNatClampNeg i]? = some (.inl (0, 4)) := by
  have hlt : Int32.toNatClampNeg i < 6 := Nat.not_le.mp fun q => h (Or.inr q)
  generalize Int32.toNatClampNeg i = k at hlt
  have key : ∀ k, k < 6 → shL[39 + k]? = some (.inl (0, 4)) := by decide +kernel
  exact key k hlt
theorem shR50 {i : Int32} (h : vp_in i 4) : shL[50 + Int32.toNatClampNeg i]? = some (.inl (0, 40)) := by
  have hlt : Int32.toNatClampNeg i < 4 := Nat.not_le.mp fun q => h (Or.inr q)
  generalize Int32.toNatClampNeg i = k at hlt
  have key : ∀ k, k < 4 → shL[50 + k]? = some (.inl (0, 40)) := by decide +kernel
  exact key k hlt
theorem ffRX2_21 : FLT RX2 2 21 3 (.int 0) := ⟨⟨RX2, TX2, 6, rfl, by decide, wsIn2, Or.inl (tmem 44 (by decide +kernel) rfl)⟩, _, rfl, rfl⟩
theorem ffRX2_9 : FLT RX2 2 9 0 (.ref 22) := ⟨⟨RX2, TX2, 6, rfl, by decide, wsIn2, Or.inl (tmem 32 (by decide +kernel) rfl)⟩, _, rfl, rfl⟩
theorem ffRX2_15 : FLT RX2 2 15 1 (.ref 23) := ⟨⟨RX2, TX2, 6, rfl, by decide, wsIn2, Or.inl (tmem 36 (by decide +kernel) rfl)⟩, _, rfl, rfl⟩
theorem ffRX2_18 : FLT RX2 2 18 2 (.ref 24) := ⟨⟨RX2, TX2, 6, rfl, by decide, wsIn2, Or.inl (tmem 40 (by decide +kernel) rfl)⟩, _, rfl, rfl⟩
theorem fw2_3 : FLW 2 3 .int := ⟨RX2, TX2, 6, tyX2, rfl, tyX2_ok, nmX2, rfl, by decide +kernel⟩
theorem ffRX6_21 : FLT RX6 6 21 3 (.int 0) := ⟨⟨RX6, TX6, 4, rfl, by decide, wsIn6, Or.inl (tmem 89 (by decide +kernel) rfl)⟩, _, rfl, rfl⟩
theorem ffRX6_9 : FLT RX6 6 9 0 (.ref 54) := ⟨⟨RX6, TX6, 4, rfl, by decide, wsIn6, Or.inl (tmem 79 (by decide +kernel) rfl)⟩, _, rfl, rfl⟩
theorem ffRX6_15 : FLT RX6 6 15 1 (.ref 55) := ⟨⟨RX6, TX6, 4, rfl, by decide, wsIn6, Or.inl (tmem 82 (by decide +kernel) rfl)⟩, _, rfl, rfl⟩
theorem ffRX6_18 : FLT RX6 6 18 2 (.ref 56) := ⟨⟨RX6, TX6, 4, rfl, by decide, wsIn6, Or.inl (tmem 86 (by decide +kernel) rfl)⟩, _, rfl, rfl⟩
theorem fw6_3 : FLW 6 3 .int := ⟨RX6, TX6, 4, tyX6, rfl, tyX6_ok, nmX6, rfl, by decide +kernel⟩
theorem ffRX2_25 : FLT RX2 2 25 4 (.int 0) := ⟨⟨RX2, TX2, 6, rfl, by decide, wsIn2, Or.inl (tmem 53 (by decide +kernel) rfl)⟩, _, rfl, rfl⟩
theorem fw2_4 : FLW 2 4 .int := ⟨RX2, TX2, 6, tyX2, rfl, tyX2_ok, nmX2, rfl, by decide +kernel⟩
theorem ffRX2_28 : FLT RX2 2 28 5 (.int 0) := ⟨⟨RX2, TX2, 6, rfl, by decide, wsIn2, Or.inl (tmem 57 (by decide +kernel) rfl)⟩, _, rfl, rfl⟩
theorem fw2_5 : FLW 2 5 .int := ⟨RX2, TX2, 6, tyX2, rfl, tyX2_ok, nmX2, rfl, by decide +kernel⟩
theorem fkRX6_25 : LNK RX6 25 yX6_holds := Or.inl (tmem 701 (by decide +kernel) rfl)
theorem feX6_holds : CLE yX6_holds 1 cX6_holds 2 (some .boolean) := ⟨tmem 3 (by decide +kernel) rfl, tmem 592 (by decide +kernel) rfl, by decide +kernel, by decide +kernel⟩
theorem fvX6_holds : CLV yX6_holds := ⟨tmem 591 (by decide +kernel) rfl, smem 27 (by decide +kernel) rfl⟩
theorem fkRX6_29 : LNK RX6 29 yX6_shelfOf := Or.inl (tmem 697 (by decide +kernel) rfl)
theorem feX6_shelfOf : CLE yX6_shelfOf 1 cX6_shelfOf 2 (some .int) := ⟨tmem 3 (by decide +kernel) rfl, tmem 700 (by decide +kernel) rfl, by decide +kernel, by decide +kernel⟩
theorem fvX6_shelfOf : CLV yX6_shelfOf := ⟨tmem 699 (by decide +kernel) rfl, smem 43 (by decide +kernel) rfl⟩
theorem fmRX6_33 : Cond.methodLink RX6 33 Lib.Math.abs.name ∈ TBL := tmem 702 (by decide +kernel) rfl
theorem fcRX6_38 : Cond.constant RX6 38 (1103515245 : Int32) ∈ TBL := tmem 861 (by decide +kernel) rfl
theorem dX2_join_0 : decode cX2_join 0 = .ok (.iload_n 1, 1) := by decide +kernel
theorem dX2_join_1 : decode cX2_join 1 = .ok (.ifCond .lt 20, 3) := by decide +kernel
theorem dX2_join_4 : decode cX2_join 4 = .ok (.iload_n 1, 1) := by decide +kernel
theorem dX2_join_5 : decode cX2_join 5 = .ok (.bipush 6, 2) := by decide +kernel
theorem dX2_join_7 : decode cX2_join 7 = .ok (.if_icmp .ge 14, 3) := by decide +kernel
theorem dX2_join_10 : decode cX2_join 10 = .ok (.iload_n 2, 1) := by decide +kernel
theorem dX2_join_11 : decode cX2_join 11 = .ok (.ifCond .lt 10, 3) := by decide +kernel
theorem dX2_join_14 : decode cX2_join 14 = .ok (.iload_n 2, 1) := by decide +kernel
theorem dX2_join_15 : decode cX2_join 15 = .ok (.sipush 409, 3) := by decide +kernel
theorem dX2_join_18 : decode cX2_join 18 = .ok (.if_icmp .le 6, 3) := by decide +kernel
theorem dX2_join_21 : decode cX2_join 21 = .ok (.bipush (-2), 2) := by decide +kernel
theorem dX2_join_23 : decode cX2_join 23 = .ok (.ireturn, 1) := by decide +kernel
theorem dX2_join_24 : decode cX2_join 24 = .ok (.aload_n 0, 1) := by decide +kernel
theorem dX2_join_25 : decode cX2_join 25 = .ok (.getfield 21, 3) := by decide +kernel
theorem dX2_join_28 : decode cX2_join 28 = .ok (.bipush 8, 2) := by decide +kernel
theorem dX2_join_30 : decode cX2_join 30 = .ok (.if_icmp .lt 6, 3) := by decide +kernel
theorem dX2_join_33 : decode cX2_join 33 = .ok (.bipush (-4), 2) := by decide +kernel
theorem dX2_join_35 : decode cX2_join 35 = .ok (.ireturn, 1) := by decide +kernel
theorem dX2_join_36 : decode cX2_join 36 = .ok (.aload_n 0, 1) := by decide +kernel
theorem dX2_join_37 : decode cX2_join 37 = .ok (.getfield 9, 3) := by decide +kernel
theorem dX2_join_40 : decode cX2_join 40 = .ok (.aload_n 0, 1) := by decide +kernel
theorem dX2_join_41 : decode cX2_join 41 = .ok (.getfield 21, 3) := by decide +kernel
theorem dX2_join_44 : decode cX2_join 44 = .ok (.iload_n 1, 1) := by decide +kernel
theorem dX2_join_45 : decode cX2_join 45 = .ok (.iastore, 1) := by decide +kernel
theorem dX2_join_46 : decode cX2_join 46 = .ok (.aload_n 0, 1) := by decide +kernel
theorem dX2_join_47 : decode cX2_join 47 = .ok (.getfield 15, 3) := by decide +kernel
theorem dX2_join_50 : decode cX2_join 50 = .ok (.aload_n 0, 1) := by decide +kernel
theorem dX2_join_51 : decode cX2_join 51 = .ok (.getfield 21, 3) := by decide +kernel
theorem dX2_join_54 : decode cX2_join 54 = .ok (.iload_n 2, 1) := by decide +kernel
theorem dX2_join_55 : decode cX2_join 55 = .ok (.bipush 10, 2) := by decide +kernel
theorem dX2_join_57 : decode cX2_join 57 = .ok (.idiv, 1) := by decide +kernel
theorem dX2_join_58 : decode cX2_join 58 = .ok (.iastore, 1) := by decide +kernel
theorem dX2_join_59 : decode cX2_join 59 = .ok (.aload_n 0, 1) := by decide +kernel
theorem dX2_join_60 : decode cX2_join 60 = .ok (.getfield 18, 3) := by decide +kernel
theorem dX2_join_63 : decode cX2_join 63 = .ok (.aload_n 0, 1) := by decide +kernel
theorem dX2_join_64 : decode cX2_join 64 = .ok (.getfield 21, 3) := by decide +kernel
theorem dX2_join_67 : decode cX2_join 67 = .ok (.iload_n 2, 1) := by decide +kernel
theorem dX2_join_68 : decode cX2_join 68 = .ok (.bipush 10, 2) := by decide +kernel
theorem dX2_join_70 : decode cX2_join 70 = .ok (.irem, 1) := by decide +kernel
theorem dX2_join_71 : decode cX2_join 71 = .ok (.iastore, 1) := by decide +kernel
theorem dX2_join_72 : decode cX2_join 72 = .ok (.aload_n 0, 1) := by decide +kernel
theorem dX2_join_73 : decode cX2_join 73 = .ok (.dup, 1) := by decide +kernel
theorem dX2_join_74 : decode cX2_join 74 = .ok (.getfield 21, 3) := by decide +kernel
theorem dX2_join_77 : decode cX2_join 77 = .ok (.iconst 1, 1) := by decide +kernel
theorem dX2_join_78 : decode cX2_join 78 = .ok (.iadd, 1) := by decide +kernel
theorem dX2_join_79 : decode cX2_join 79 = .ok (.putfield 21, 3) := by decide +kernel
theorem dX2_join_82 : decode cX2_join 82 = .ok (.aload_n 0, 1) := by decide +kernel
theorem dX2_join_83 : decode cX2_join 83 = .ok (.getfield 21, 3) := by decide +kernel
theorem dX2_join_86 : decode cX2_join 86 = .ok (.iconst 1, 1) := by decide +kernel
theorem dX2_join_87 : decode cX2_join 87 = .ok (.isub, 1) := by decide +kernel
theorem dX2_join_88 : decode cX2_join 88 = .ok (.ireturn, 1) := by decide +kernel
theorem dX6_lay_0 : decode cX6_lay 0 = .ok (.iload_n 1, 1) := by decide +kernel
theorem dX6_lay_1 : decode cX6_lay 1 = .ok (.ifCond .lt 13, 3) := by decide +kernel
theorem dX6_lay_4 : decode cX6_lay 4 = .ok (.iload_n 1, 1) := by decide +kernel
theorem dX6_lay_5 : decode cX6_lay 5 = .ok (.bipush 99, 2) := by decide +kernel
theorem dX6_lay_7 : decode cX6_lay 7 = .ok (.if_icmp .gt 7, 3) := by decide +kernel
theorem dX6_lay_10 : decode cX6_lay 10 = .ok (.iload_n 2, 1) := by decide +kernel
theorem dX6_lay_11 : decode cX6_lay 11 = .ok (.ifCond .ge 6, 3) := by decide +kernel
theorem dX6_lay_14 : decode cX6_lay 14 = .ok (.bipush (-2), 2) := by decide +kernel
theorem dX6_lay_16 : decode cX6_lay 16 = .ok (.ireturn, 1) := by decide +kernel
theorem dX6_lay_17 : decode cX6_lay 17 = .ok (.iload_n 2, 1) := by decide +kernel
theorem dX6_lay_18 : decode cX6_lay 18 = .ok (.sipush 1000, 3) := by decide +kernel
theorem dX6_lay_21 : decode cX6_lay 21 = .ok (.idiv, 1) := by decide +kernel
theorem dX6_lay_22 : decode cX6_lay 22 = .ok (.bipush 99, 2) := by decide +kernel
theorem dX6_lay_24 : decode cX6_lay 24 = .ok (.if_icmp .gt 13, 3) := by decide +kernel
theorem dX6_lay_27 : decode cX6_lay 27 = .ok (.iload_n 2, 1) := by decide +kernel
theorem dX6_lay_28 : decode cX6_lay 28 = .ok (.sipush 1000, 3) := by decide +kernel
theorem dX6_lay_31 : decode cX6_lay 31 = .ok (.irem, 1) := by decide +kernel
theorem dX6_lay_32 : decode cX6_lay 32 = .ok (.bipush 100, 2) := by decide +kernel
theorem dX6_lay_34 : decode cX6_lay 34 = .ok (.if_icmp .le 6, 3) := by decide +kernel
theorem dX6_lay_37 : decode cX6_lay 37 = .ok (.bipush (-2), 2) := by decide +kernel
theorem dX6_lay_39 : decode cX6_lay 39 = .ok (.ireturn, 1) := by decide +kernel
theorem dX6_lay_40 : decode cX6_lay 40 = .ok (.aload_n 0, 1) := by decide +kernel
theorem dX6_lay_41 : decode cX6_lay 41 = .ok (.getfield 21, 3) := by decide +kernel
theorem dX6_lay_44 : decode cX6_lay 44 = .ok (.bipush 6, 2) := by decide +kernel
theorem dX6_lay_46 : decode cX6_lay 46 = .ok (.if_icmp .lt 6, 3) := by decide +kernel
theorem dX6_lay_49 : decode cX6_lay 49 = .ok (.bipush (-4), 2) := by decide +kernel
theorem dX6_lay_51 : decode cX6_lay 51 = .ok (.ireturn, 1) := by decide +kernel
theorem dX6_lay_52 : decode cX6_lay 52 = .ok (.aload_n 0, 1) := by decide +kernel
theorem dX6_lay_53 : decode cX6_lay 53 = .ok (.getfield 9, 3) := by decide +kernel
theorem dX6_lay_56 : decode cX6_lay 56 = .ok (.aload_n 0, 1) := by decide +kernel
theorem dX6_lay_57 : decode cX6_lay 57 = .ok (.getfield 21, 3) := by decide +kernel
theorem dX6_lay_60 : decode cX6_lay 60 = .ok (.iload_n 1, 1) := by decide +kernel
theorem dX6_lay_61 : decode cX6_lay 61 = .ok (.iastore, 1) := by decide +kernel
theorem dX6_lay_62 : decode cX6_lay 62 = .ok (.aload_n 0, 1) := by decide +kernel
theorem dX6_lay_63 : decode cX6_lay 63 = .ok (.getfield 15, 3) := by decide +kernel
theorem dX6_lay_66 : decode cX6_lay 66 = .ok (.aload_n 0, 1) := by decide +kernel
theorem dX6_lay_67 : decode cX6_lay 67 = .ok (.getfield 21, 3) := by decide +kernel
theorem dX6_lay_70 : decode cX6_lay 70 = .ok (.iload_n 2, 1) := by decide +kernel
theorem dX6_lay_71 : decode cX6_lay 71 = .ok (.sipush 1000, 3) := by decide +kernel
theorem dX6_lay_74 : decode cX6_lay 74 = .ok (.idiv, 1) := by decide +kernel
theorem dX6_lay_75 : decode cX6_lay 75 = .ok (.iastore, 1) := by decide +kernel
theorem dX6_lay_76 : decode cX6_lay 76 = .ok (.aload_n 0, 1) := by decide +kernel
theorem dX6_lay_77 : decode cX6_lay 77 = .ok (.getfield 18, 3) := by decide +kernel
theorem dX6_lay_80 : decode cX6_lay 80 = .ok (.aload_n 0, 1) := by decide +kernel
theorem dX6_lay_81 : decode cX6_lay 81 = .ok (.getfield 21, 3) := by decide +kernel
theorem dX6_lay_84 : decode cX6_lay 84 = .ok (.iload_n 2, 1) := by decide +kernel
theorem dX6_lay_85 : decode cX6_lay 85 = .ok (.sipush 1000, 3) := by decide +kernel
theorem dX6_lay_88 : decode cX6_lay 88 = .ok (.irem, 1) := by decide +kernel
theorem dX6_lay_89 : decode cX6_lay 89 = .ok (.iastore, 1) := by decide +kernel
theorem dX6_lay_90 : decode cX6_lay 90 = .ok (.aload_n 0, 1) := by decide +kernel
theorem dX6_lay_91 : decode cX6_lay 91 = .ok (.dup, 1) := by decide +kernel
theorem dX6_lay_92 : decode cX6_lay 92 = .ok (.getfield 21, 3) := by decide +kernel
theorem dX6_lay_95 : decode cX6_lay 95 = .ok (.iconst 1, 1) := by decide +kernel
theorem dX6_lay_96 : decode cX6_lay 96 = .ok (.iadd, 1) := by decide +kernel
theorem dX6_lay_97 : decode cX6_lay 97 = .ok (.putfield 21, 3) := by decide +kernel
theorem dX6_lay_100 : decode cX6_lay 100 = .ok (.aload_n 0, 1) := by decide +kernel
theorem dX6_lay_101 : decode cX6_lay 101 = .ok (.getfield 21, 3) := by decide +kernel
theorem dX6_lay_104 : decode cX6_lay 104 = .ok (.iconst 1, 1) := by decide +kernel
theorem dX6_lay_105 : decode cX6_lay 105 = .ok (.isub, 1) := by decide +kernel
theorem dX6_lay_106 : decode cX6_lay 106 = .ok (.ireturn, 1) := by decide +kernel
theorem dX2_moveUs_0 : decode cX2_moveUs 0 = .ok (.iload_n 1, 1) := by decide +kernel
theorem dX2_moveUs_1 : decode cX2_moveUs 1 = .ok (.ifCond .lt 11, 3) := by decide +kernel
theorem dX2_moveUs_4 : decode cX2_moveUs 4 = .ok (.iload_n 1, 1) := by decide +kernel
theorem dX2_moveUs_5 : decode cX2_moveUs 5 = .ok (.aload_n 0, 1) := by decide +kernel
theorem dX2_moveUs_6 : decode cX2_moveUs 6 = .ok (.getfield 21, 3) := by decide +kernel
theorem dX2_moveUs_9 : decode cX2_moveUs 9 = .ok (.if_icmp .le 6, 3) := by decide +kernel
theorem dX2_moveUs_12 : decode cX2_moveUs 12 = .ok (.bipush (-2), 2) := by decide +kernel
theorem dX2_moveUs_14 : decode cX2_moveUs 14 = .ok (.ireturn, 1) := by decide +kernel
theorem dX2_moveUs_15 : decode cX2_moveUs 15 = .ok (.aload_n 0, 1) := by decide +kernel
theorem dX2_moveUs_16 : decode cX2_moveUs 16 = .ok (.getfield 25, 3) := by decide +kernel
theorem dX2_moveUs_19 : decode cX2_moveUs 19 = .ok (.istore_n 2, 1) := by decide +kernel
theorem dX2_moveUs_20 : decode cX2_moveUs 20 = .ok (.aload_n 0, 1) := by decide +kernel
theorem dX2_moveUs_21 : decode cX2_moveUs 21 = .ok (.iload_n 1, 1) := by decide +kernel
theorem dX2_moveUs_22 : decode cX2_moveUs 22 = .ok (.putfield 25, 3) := by decide +kernel
theorem dX2_moveUs_25 : decode cX2_moveUs 25 = .ok (.iload_n 2, 1) := by decide +kernel
theorem dX2_moveUs_26 : decode cX2_moveUs 26 = .ok (.ireturn, 1) := by decide +kernel
theorem dX2_holds_0 : decode cX2_holds 0 = .ok (.iload_n 1, 1) := by decide +kernel
theorem dX2_holds_1 : decode cX2_holds 1 = .ok (.ifCond .lt 15, 3) := by decide +kernel
theorem dX2_holds_4 : decode cX2_holds 4 = .ok (.iload_n 1, 1) := by decide +kernel
theorem dX2_holds_5 : decode cX2_holds 5 = .ok (.aload_n 0, 1) := by decide +kernel
theorem dX2_holds_6 : decode cX2_holds 6 = .ok (.getfield 21, 3) := by decide +kernel
theorem dX2_holds_9 : decode cX2_holds 9 = .ok (.if_icmp .ge 7, 3) := by decide +kernel
theorem dX2_holds_12 : decode cX2_holds 12 = .ok (.iconst 1, 1) := by decide +kernel
theorem dX2_holds_13 : decode cX2_holds 13 = .ok (.goto 4, 3) := by decide +kernel
theorem dX2_holds_16 : decode cX2_holds 16 = .ok (.iconst 0, 1) := by decide +kernel
theorem dX2_holds_17 : decode cX2_holds 17 = .ok (.ireturn, 1) := by decide +kernel
theorem dX6_holds_0 : decode cX6_holds 0 = .ok (.iload_n 1, 1) := by decide +kernel
theorem dX6_holds_1 : decode cX6_holds 1 = .ok (.ifCond .lt 15, 3) := by decide +kernel
theorem dX6_holds_4 : decode cX6_holds 4 = .ok (.iload_n 1, 1) := by decide +kernel
theorem dX6_holds_5 : decode cX6_holds 5 = .ok (.aload_n 0, 1) := by decide +kernel
theorem dX6_holds_6 : decode cX6_holds 6 = .ok (.getfield 21, 3) := by decide +kernel
theorem dX6_holds_9 : decode cX6_holds 9 = .ok (.if_icmp .ge 7, 3) := by decide +kernel
theorem dX6_holds_12 : decode cX6_holds 12 = .ok (.iconst 1, 1) := by decide +kernel
theorem dX6_holds_13 : decode cX6_holds 13 = .ok (.goto 4, 3) := by decide +kernel
theorem dX6_holds_16 : decode cX6_holds 16 = .ok (.iconst 0, 1) := by decide +kernel
theorem dX6_holds_17 : decode cX6_holds 17 = .ok (.ireturn, 1) := by decide +kernel
theorem dX2_dropFirst_0 : decode cX2_dropFirst 0 = .ok (.aload_n 0, 1) := by decide +kernel
theorem dX2_dropFirst_1 : decode cX2_dropFirst 1 = .ok (.getfield 21, 3) := by decide +kernel
theorem dX2_dropFirst_4 : decode cX2_dropFirst 4 = .ok (.ifCond .gt 4, 3) := by decide +kernel
theorem dX2_dropFirst_7 : decode cX2_dropFirst 7 = .ok (.return_, 1) := by decide +kernel
theorem dX2_dropFirst_8 : decode cX2_dropFirst 8 = .ok (.iconst 1, 1) := by decide +kernel
theorem dX2_dropFirst_9 : decode cX2_dropFirst 9 = .ok (.istore_n 1, 1) := by decide +kernel
theorem dX2_dropFirst_10 : decode cX2_dropFirst 10 = .ok (.iload_n 1, 1) := by decide +kernel
theorem dX2_dropFirst_11 : decode cX2_dropFirst 11 = .ok (.aload_n 0, 1) := by decide +kernel
theorem dX2_dropFirst_12 : decode cX2_dropFirst 12 = .ok (.getfield 21, 3) := by decide +kernel
theorem dX2_dropFirst_15 : decode cX2_dropFirst 15 = .ok (.if_icmp .ge 51, 3) := by decide +kernel
theorem dX2_dropFirst_18 : decode cX2_dropFirst 18 = .ok (.aload_n 0, 1) := by decide +kernel
theorem dX2_dropFirst_19 : decode cX2_dropFirst 19 = .ok (.getfield 9, 3) := by decide +kernel
theorem dX2_dropFirst_22 : decode cX2_dropFirst 22 = .ok (.iload_n 1, 1) := by decide +kernel
theorem dX2_dropFirst_23 : decode cX2_dropFirst 23 = .ok (.iconst 1, 1) := by decide +kernel
theorem dX2_dropFirst_24 : decode cX2_dropFirst 24 = .ok (.isub, 1) := by decide +kernel
theorem dX2_dropFirst_25 : decode cX2_dropFirst 25 = .ok (.aload_n 0, 1) := by decide +kernel
theorem dX2_dropFirst_26 : decode cX2_dropFirst 26 = .ok (.getfield 9, 3) := by decide +kernel
theorem dX2_dropFirst_29 : decode cX2_dropFirst 29 = .ok (.iload_n 1, 1) := by decide +kernel
theorem dX2_dropFirst_30 : decode cX2_dropFirst 30 = .ok (.iaload, 1) := by decide +kernel
theorem dX2_dropFirst_31 : decode cX2_dropFirst 31 = .ok (.iastore, 1) := by decide +kernel
theorem dX2_dropFirst_32 : decode cX2_dropFirst 32 = .ok (.aload_n 0, 1) := by decide +kernel
theorem dX2_dropFirst_33 : decode cX2_dropFirst 33 = .ok (.getfield 15, 3) := by decide +kernel
theorem dX2_dropFirst_36 : decode cX2_dropFirst 36 = .ok (.iload_n 1, 1) := by decide +kernel
theorem dX2_dropFirst_37 : decode cX2_dropFirst 37 = .ok (.iconst 1, 1) := by decide +kernel
theorem dX2_dropFirst_38 : decode cX2_dropFirst 38 = .ok (.isub, 1) := by decide +kernel
theorem dX2_dropFirst_39 : decode cX2_dropFirst 39 = .ok (.aload_n 0, 1) := by decide +kernel
theorem dX2_dropFirst_40 : decode cX2_dropFirst 40 = .ok (.getfield 15, 3) := by decide +kernel
theorem dX2_dropFirst_43 : decode cX2_dropFirst 43 = .ok (.iload_n 1, 1) := by decide +kernel
theorem dX2_dropFirst_44 : decode cX2_dropFirst 44 = .ok (.iaload, 1) := by decide +kernel
theorem dX2_dropFirst_45 : decode cX2_dropFirst 45 = .ok (.iastore, 1) := by decide +kernel
theorem dX2_dropFirst_46 : decode cX2_dropFirst 46 = .ok (.aload_n 0, 1) := by decide +kernel
theorem dX2_dropFirst_47 : decode cX2_dropFirst 47 = .ok (.getfield 18, 3) := by decide +kernel
theorem dX2_dropFirst_50 : decode cX2_dropFirst 50 = .ok (.iload_n 1, 1) := by decide +kernel
theorem dX2_dropFirst_51 : decode cX2_dropFirst 51 = .ok (.iconst 1, 1) := by decide +kernel
theorem dX2_dropFirst_52 : decode cX2_dropFirst 52 = .ok (.isub, 1) := by decide +kernel
theorem dX2_dropFirst_53 : decode cX2_dropFirst 53 = .ok (.aload_n 0, 1) := by decide +kernel
theorem dX2_dropFirst_54 : decode cX2_dropFirst 54 = .ok (.getfield 18, 3) := by decide +kernel
theorem dX2_dropFirst_57 : decode cX2_dropFirst 57 = .ok (.iload_n 1, 1) := by decide +kernel
theorem dX2_dropFirst_58 : decode cX2_dropFirst 58 = .ok (.iaload, 1) := by decide +kernel
theorem dX2_dropFirst_59 : decode cX2_dropFirst 59 = .ok (.iastore, 1) := by decide +kernel
theorem dX2_dropFirst_60 : decode cX2_dropFirst 60 = .ok (.iinc 1 1, 3) := by decide +kernel
theorem dX2_dropFirst_63 : decode cX2_dropFirst 63 = .ok (.goto (-53), 3) := by decide +kernel
theorem dX2_dropFirst_66 : decode cX2_dropFirst 66 = .ok (.aload_n 0, 1) := by decide +kernel
theorem dX2_dropFirst_67 : decode cX2_dropFirst 67 = .ok (.dup, 1) := by decide +kernel
theorem dX2_dropFirst_68 : decode cX2_dropFirst 68 = .ok (.getfield 21, 3) := by decide +kernel
theorem dX2_dropFirst_71 : decode cX2_dropFirst 71 = .ok (.iconst 1, 1) := by decide +kernel
theorem dX2_dropFirst_72 : decode cX2_dropFirst 72 = .ok (.isub, 1) := by decide +kernel
theorem dX2_dropFirst_73 : decode cX2_dropFirst 73 = .ok (.putfield 21, 3) := by decide +kernel
theorem dX2_dropFirst_76 : decode cX2_dropFirst 76 = .ok (.aload_n 0, 1) := by decide +kernel
theorem dX2_dropFirst_77 : decode cX2_dropFirst 77 = .ok (.dup, 1) := by decide +kernel
theorem dX2_dropFirst_78 : decode cX2_dropFirst 78 = .ok (.getfield 28, 3) := by decide +kernel
theorem dX2_dropFirst_81 : decode cX2_dropFirst 81 = .ok (.iconst 1, 1) := by decide +kernel
theorem dX2_dropFirst_82 : decode cX2_dropFirst 82 = .ok (.iadd, 1) := by decide +kernel
theorem dX2_dropFirst_83 : decode cX2_dropFirst 83 = .ok (.putfield 28, 3) := by decide +kernel
theorem dX2_dropFirst_86 : decode cX2_dropFirst 86 = .ok (.aload_n 0, 1) := by decide +kernel
theorem dX2_dropFirst_87 : decode cX2_dropFirst 87 = .ok (.getfield 25, 3) := by decide +kernel
theorem dX2_dropFirst_90 : decode cX2_dropFirst 90 = .ok (.ifCond .le 13, 3) := by decide +kernel
theorem dX2_dropFirst_93 : decode cX2_dropFirst 93 = .ok (.aload_n 0, 1) := by decide +kernel
theorem dX2_dropFirst_94 : decode cX2_dropFirst 94 = .ok (.dup, 1) := by decide +kernel
theorem dX2_dropFirst_95 : decode cX2_dropFirst 95 = .ok (.getfield 25, 3) := by decide +kernel
theorem dX2_dropFirst_98 : decode cX2_dropFirst 98 = .ok (.iconst 1, 1) := by decide +kernel
theorem dX2_dropFirst_99 : decode cX2_dropFirst 99 = .ok (.isub, 1) := by decide +kernel
theorem dX2_dropFirst_100 : decode cX2_dropFirst 100 = .ok (.putfield 25, 3) := by decide +kernel
theorem dX2_dropFirst_103 : decode cX2_dropFirst 103 = .ok (.return_, 1) := by decide +kernel
theorem dX6_shelfOf_0 : decode cX6_shelfOf 0 = .ok (.aload_n 0, 1) := by decide +kernel
theorem dX6_shelfOf_1 : decode cX6_shelfOf 1 = .ok (.iload_n 1, 1) := by decide +kernel
theorem dX6_shelfOf_2 : decode cX6_shelfOf 2 = .ok (.invokevirtual 25, 3) := by decide +kernel
theorem dX6_shelfOf_5 : decode cX6_shelfOf 5 = .ok (.ifCond .eq 12, 3) := by decide +kernel
theorem dX6_shelfOf_8 : decode cX6_shelfOf 8 = .ok (.aload_n 0, 1) := by decide +kernel
theorem dX6_shelfOf_9 : decode cX6_shelfOf 9 = .ok (.getfield 9, 3) := by decide +kernel
theorem dX6_shelfOf_12 : decode cX6_shelfOf 12 = .ok (.iload_n 1, 1) := by decide +kernel
theorem dX6_shelfOf_13 : decode cX6_shelfOf 13 = .ok (.iaload, 1) := by decide +kernel
theorem dX6_shelfOf_14 : decode cX6_shelfOf 14 = .ok (.goto 4, 3) := by decide +kernel
theorem dX6_shelfOf_17 : decode cX6_shelfOf 17 = .ok (.iconst 0, 1) := by decide +kernel
theorem dX6_shelfOf_18 : decode cX6_shelfOf 18 = .ok (.ireturn, 1) := by decide +kernel
theorem dX6_steps_0 : decode cX6_steps 0 = .ok (.aload_n 0, 1) := by decide +kernel
theorem dX6_steps_1 : decode cX6_steps 1 = .ok (.iload_n 1, 1) := by decide +kernel
theorem dX6_steps_2 : decode cX6_steps 2 = .ok (.invokevirtual 29, 3) := by decide +kernel
theorem dX6_steps_5 : decode cX6_steps 5 = .ok (.istore_n 3, 1) := by decide +kernel
theorem dX6_steps_6 : decode cX6_steps 6 = .ok (.aload_n 0, 1) := by decide +kernel
theorem dX6_steps_7 : decode cX6_steps 7 = .ok (.iload_n 2, 1) := by decide +kernel
theorem dX6_steps_8 : decode cX6_steps 8 = .ok (.invokevirtual 29, 3) := by decide +kernel
theorem dX6_steps_11 : decode cX6_steps 11 = .ok (.istore 4, 2) := by decide +kernel
theorem dX6_steps_13 : decode cX6_steps 13 = .ok (.iload_n 3, 1) := by decide +kernel
theorem dX6_steps_14 : decode cX6_steps 14 = .ok (.bipush 10, 2) := by decide +kernel
theorem dX6_steps_16 : decode cX6_steps 16 = .ok (.irem, 1) := by decide +kernel
theorem dX6_steps_17 : decode cX6_steps 17 = .ok (.iload 4, 2) := by decide +kernel
theorem dX6_steps_19 : decode cX6_steps 19 = .ok (.bipush 10, 2) := by decide +kernel
theorem dX6_steps_21 : decode cX6_steps 21 = .ok (.irem, 1) := by decide +kernel
theorem dX6_steps_22 : decode cX6_steps 22 = .ok (.isub, 1) := by decide +kernel
theorem dX6_steps_23 : decode cX6_steps 23 = .ok (.invokestatic 33, 3) := by decide +kernel
theorem dX6_steps_26 : decode cX6_steps 26 = .ok (.iload_n 3, 1) := by decide +kernel
theorem dX6_steps_27 : decode cX6_steps 27 = .ok (.bipush 10, 2) := by decide +kernel
theorem dX6_steps_29 : decode cX6_steps 29 = .ok (.idiv, 1) := by decide +kernel
theorem dX6_steps_30 : decode cX6_steps 30 = .ok (.iload 4, 2) := by decide +kernel
theorem dX6_steps_32 : decode cX6_steps 32 = .ok (.bipush 10, 2) := by decide +kernel
theorem dX6_steps_34 : decode cX6_steps 34 = .ok (.idiv, 1) := by decide +kernel
theorem dX6_steps_35 : decode cX6_steps 35 = .ok (.isub, 1) := by decide +kernel
theorem dX6_steps_36 : decode cX6_steps 36 = .ok (.invokestatic 33, 3) := by decide +kernel
theorem dX6_steps_39 : decode cX6_steps 39 = .ok (.iadd, 1) := by decide +kernel
theorem dX6_steps_40 : decode cX6_steps 40 = .ok (.ireturn, 1) := by decide +kernel
theorem dX6_all_0 : decode cX6_all 0 = .ok (.iconst 1, 1) := by decide +kernel
theorem dX6_all_1 : decode cX6_all 1 = .ok (.aload_n 0, 1) := by decide +kernel
theorem dX6_all_2 : decode cX6_all 2 = .ok (.getfield 21, 3) := by decide +kernel
theorem dX6_all_5 : decode cX6_all 5 = .ok (.ishl, 1) := by decide +kernel
theorem dX6_all_6 : decode cX6_all 6 = .ok (.iconst 1, 1) := by decide +kernel
theorem dX6_all_7 : decode cX6_all 7 = .ok (.isub, 1) := by decide +kernel
theorem dX6_all_8 : decode cX6_all 8 = .ok (.ireturn, 1) := by decide +kernel
theorem dX6_draw_0 : decode cX6_draw 0 = .ok (.iconst 0, 1) := by decide +kernel
theorem dX6_draw_1 : decode cX6_draw 1 = .ok (.istore_n 2, 1) := by decide +kernel
theorem dX6_draw_2 : decode cX6_draw 2 = .ok (.iload_n 1, 1) := by decide +kernel
theorem dX6_draw_3 : decode cX6_draw 3 = .ok (.istore_n 3, 1) := by decide +kernel
theorem dX6_draw_4 : decode cX6_draw 4 = .ok (.iconst 0, 1) := by decide +kernel
theorem dX6_draw_5 : decode cX6_draw 5 = .ok (.istore 4, 2) := by decide +kernel
theorem dX6_draw_7 : decode cX6_draw 7 = .ok (.iload 4, 2) := by decide +kernel
theorem dX6_draw_9 : decode cX6_draw 9 = .ok (.aload_n 0, 1) := by decide +kernel
theorem dX6_draw_10 : decode cX6_draw 10 = .ok (.getfield 21, 3) := by decide +kernel
theorem dX6_draw_13 : decode cX6_draw 13 = .ok (.if_icmp .ge 42, 3) := by decide +kernel
theorem dX6_draw_16 : decode cX6_draw 16 = .ok (.iload_n 3, 1) := by decide +kernel
theorem dX6_draw_17 : decode cX6_draw 17 = .ok (.ldc 38, 2) := by decide +kernel
theorem dX6_draw_19 : decode cX6_draw 19 = .ok (.imul, 1) := by decide +kernel
theorem dX6_draw_20 : decode cX6_draw 20 = .ok (.sipush 12345, 3) := by decide +kernel
theorem dX6_draw_23 : decode cX6_draw 23 = .ok (.iadd, 1) := by decide +kernel
theorem dX6_draw_24 : decode cX6_draw 24 = .ok (.istore_n 3, 1) := by decide +kernel
theorem dX6_draw_25 : decode cX6_draw 25 = .ok (.iload_n 3, 1) := by decide +kernel
theorem dX6_draw_26 : decode cX6_draw 26 = .ok (.bipush 9, 2) := by decide +kernel
theorem dX6_draw_28 : decode cX6_draw 28 = .ok (.iushr, 1) := by decide +kernel
theorem dX6_draw_29 : decode cX6_draw 29 = .ok (.bipush 100, 2) := by decide +kernel
theorem dX6_draw_31 : decode cX6_draw 31 = .ok (.irem, 1) := by decide +kernel
theorem dX6_draw_32 : decode cX6_draw 32 = .ok (.aload_n 0, 1) := by decide +kernel
theorem dX6_draw_33 : decode cX6_draw 33 = .ok (.getfield 18, 3) := by decide +kernel
theorem dX6_draw_36 : decode cX6_draw 36 = .ok (.iload 4, 2) := by decide +kernel
theorem dX6_draw_38 : decode cX6_draw 38 = .ok (.iaload, 1) := by decide +kernel
theorem dX6_draw_39 : decode cX6_draw 39 = .ok (.if_icmp .ge 10, 3) := by decide +kernel
theorem dX6_draw_42 : decode cX6_draw 42 = .ok (.iload_n 2, 1) := by decide +kernel
theorem dX6_draw_43 : decode cX6_draw 43 = .ok (.iconst 1, 1) := by decide +kernel
theorem dX6_draw_44 : decode cX6_draw 44 = .ok (.iload 4, 2) := by decide +kernel
theorem dX6_draw_46 : decode cX6_draw 46 = .ok (.ishl, 1) := by decide +kernel
theorem dX6_draw_47 : decode cX6_draw 47 = .ok (.ior, 1) := by decide +kernel
theorem dX6_draw_48 : decode cX6_draw 48 = .ok (.istore_n 2, 1) := by decide +kernel
theorem dX6_draw_49 : decode cX6_draw 49 = .ok (.iinc 4 1, 3) := by decide +kernel
theorem dX6_draw_52 : decode cX6_draw 52 = .ok (.goto (-45), 3) := by decide +kernel
theorem dX6_draw_55 : decode cX6_draw 55 = .ok (.iload_n 2, 1) := by decide +kernel
theorem dX6_draw_56 : decode cX6_draw 56 = .ok (.ireturn, 1) := by decide +kernel
-- KeepOurPlace$Line.join
def F2_join (M : Mem) (a1 : Int32) (a2 : Int32) : Option (Int32 × Mem) :=
    if a1 < 0 then
      some ((-2 : Int32), M)
    else
      if (6 : Int32) ≤ a1 then
        some ((-2 : Int32), M)
      else
        if a2 < 0 then
          some ((-2 : Int32), M)
        else
          if a2 ≤ (409 : Int32) then
            if (M 2 3) < (8 : Int32) then
              if inb (M 2 3) 8 = true then
              some ((((M 2 3) + (1 : Int32)) - (1 : Int32)), (up2 (up2 (up2 (up2 M 22 (Int32.toNatClampNeg (M 2 3)) a1) 23 (Int32.toNatClampNeg (M 2 3)) (a2 / (10 : Int32))) 24 (Int32.toNatClampNeg (M 2 3)) (jrem a2 (10 : Int32))) 2 3 ((M 2 3) + (1 : Int32))))
              else none
            else
              some ((-4 : Int32), M)
          else
            some ((-2 : Int32), M)
set_option maxRecDepth 20000 in
theorem F2_join_ok {p : Program} {l : Launch} {e : Env} {s : State} {m : MethodId} {args : Array Value} {below : List Frame} {meth : Method} {c : Code} {G : GG} {D : Nat} {r : Int32 × Mem} (F : FrP G p s m args c RX2 cX2_join 3) (hr : meth.sig.returnType = (some .int)) (hlk : meth.locks = false) (hD : 1 ≤ D) {M : Mem} {a1 : Int32} {a2 : Int32} (h : F2_join M a1 a2 = some r) : XJ p l e (rmX D) s m args below meth c 0 0 G 3 (MQ below (QcX G ((some (.int r.1), r.2) : Option Value × Mem).1 ((some (.int r.1), r.2) : Option Value × Mem).2) args s 0 0 (AW G.2.1)) 0 [(0, .ref 2), (1, .int a1), (2, .int a2)] [] M := by
  unfold F2_join at h
  refine X_iload_n F dX2_join_0 rfl ?_
  refine X_if_lt (tgt := 21) F dX2_join_1 (by decide) (fun q1 => ?_) (fun q1 => ?_)
  · rw [if_pos q1] at h
    refine X_bipush F dX2_join_21 (v := (-2 : Int32)) rfl ?_
    exact X_iret F hr hlk (retI h) dX2_join_23
  · rw [if_neg q1] at h
    refine X_iload_n F dX2_join_4 rfl ?_
    refine X_bipush F dX2_join_5 (v := (6 : Int32)) rfl ?_
    refine X_icmp_ge (tgt := 21) F dX2_join_7 (by decide) (fun q2 => ?_) (fun q2 => ?_)
    · rw [if_pos q2] at h
      refine X_bipush F dX2_join_21 (v := (-2 : Int32)) rfl ?_
      exact X_iret F hr hlk (retI h) dX2_join_23
    · rw [if_neg q2] at h
      refine X_iload_n F dX2_join_10 rfl ?_
      refine X_if_lt (tgt := 21) F dX2_join_11 (by decide) (fun q3 => ?_) (fun q3 => ?_)
      · rw [if_pos q3] at h
        refine X_bipush F dX2_join_21 (v := (-2 : Int32)) rfl ?_
        exact X_iret F hr hlk (retI h) dX2_join_23
      · rw [if_neg q3] at h
        refine X_iload_n F dX2_join_14 rfl ?_
        refine X_sipush F dX2_join_15 (v := (409 : Int32)) rfl ?_
        refine X_icmp_le (tgt := 24) F dX2_join_18 (by decide) (fun q4 => ?_) (fun q4 => ?_)
        · rw [if_pos q4] at h
          refine X_aload_n F dX2_join_24 rfl ?_
          refine X_geti (v := (M 2 3)) F ffRX2_21 dX2_join_25 rfl ?_
          refine X_bipush F dX2_join_28 (v := (8 : Int32)) rfl ?_
          refine X_icmp_lt (tgt := 36) F dX2_join_30 (by decide) (fun q5 => ?_) (fun q5 => ?_)
          · rw [if_pos q5] at h
            refine X_aload_n F dX2_join_36 rfl ?_
            refine X_getr F ffRX2_9 dX2_join_37 ?_
            refine X_aload_n F dX2_join_40 rfl ?_
            refine X_geti (v := (M 2 3)) F ffRX2_21 dX2_join_41 rfl ?_
            refine X_iload_n F dX2_join_44 rfl ?_
            obtain ⟨q6, h⟩ := ifS h
            refine X_iast (j := (Int32.toNatClampNeg (M 2 3))) F rfl (inbV q6) rfl dX2_join_45 ?_
            refine X_aload_n F dX2_join_46 rfl ?_
            refine X_getr F ffRX2_15 dX2_join_47 ?_
            refine X_aload_n F dX2_join_50 rfl ?_
            refine X_geti (v := (M 2 3)) F ffRX2_21 dX2_join_51 rfl ?_
            refine X_iload_n F dX2_join_54 rfl ?_
            refine X_bipush F dX2_join_55 (v := (10 : Int32)) rfl ?_
            refine X_idiv F dX2_join_57 (by decide) ?_
            refine X_iast (j := (Int32.toNatClampNeg (M 2 3))) F rfl (inbV q6) rfl dX2_join_58 ?_
            refine X_aload_n F dX2_join_59 rfl ?_
            refine X_getr F ffRX2_18 dX2_join_60 ?_
            refine X_aload_n F dX2_join_63 rfl ?_
            refine X_geti (v := (M 2 3)) F ffRX2_21 dX2_join_64 rfl ?_
            refine X_iload_n F dX2_join_67 rfl ?_
            refine X_bipush F dX2_join_68 (v := (10 : Int32)) rfl ?_
            refine X_irem F dX2_join_70 (by decide) ?_
            refine X_iast (j := (Int32.toNatClampNeg (M 2 3))) F rfl (inbV q6) rfl dX2_join_71 ?_
            refine X_aload_n F dX2_join_72 rfl ?_
            refine X_dup F dX2_join_73 rfl ?_
            refine X_geti (v := (M 2 3)) F ffRX2_21 dX2_join_74 rfl ?_
            refine X_iconst F dX2_join_77 (v := (1 : Int32)) rfl ?_
            refine X_iadd F dX2_join_78 ?_
            refine X_puti F ffRX2_21 fw2_3 (by decide) dX2_join_79 ?_
            refine X_aload_n F dX2_join_82 rfl ?_
            refine X_geti (v := ((M 2 3) + (1 : Int32))) F ffRX2_21 dX2_join_83 rfl ?_
            refine X_iconst F dX2_join_86 (v := (1 : Int32)) rfl ?_
            refine X_isub F dX2_join_87 ?_
            exact X_iret F hr hlk (retI h) dX2_join_88
          · rw [if_neg q5] at h
            refine X_bipush F dX2_join_33 (v := (-4 : Int32)) rfl ?_
            exact X_iret F hr hlk (retI h) dX2_join_35
        · rw [if_neg q4] at h
          refine X_bipush F dX2_join_21 (v := (-2 : Int32)) rfl ?_
          exact X_iret F hr hlk (retI h) dX2_join_23
set_option maxRecDepth 20000 in
theorem F2_join_met {l : Launch} {G : GG} {D : Nat} {r : Int32 × Mem} {M : Mem} {a1 : Int32} {a2 : Int32} (hI : Inj G.2.1) (hD : 1 ≤ D) (h : F2_join M a1 a2 = some r) : MetX l G yX2_join cX2_join 3 (some .int) D [.ref 2, .int a1, .int a2] M (some (.int r.1), r.2) :=
  X_met hI (by decide +kernel) (Nat.le_of_ble_eq_true rfl) (fun p e s m args below meth c F hr hlk => F2_join_ok F hr hlk hD h)
-- KeepOurPlace$Things.lay
def F6_lay (M : Mem) (a1 : Int32) (a2 : Int32) : Option (Int32 × Mem) :=
    if a1 < 0 then
      some ((-2 : Int32), M)
    else
      if (99 : Int32) < a1 then
        some ((-2 : Int32), M)
      else
        if 0 ≤ a2 then
          if (99 : Int32) < (a2 / (1000 : Int32)) then
            some ((-2 : Int32), M)
          else
            if (jrem a2 (1000 : Int32)) ≤ (100 : Int32) then
              if (M 6 3) < (6 : Int32) then
                if inb (M 6 3) 6 = true then
                some ((((M 6 3) + (1 : Int32)) - (1 : Int32)), (up2 (up2 (up2 (up2 M 54 (Int32.toNatClampNeg (M 6 3)) a1) 55 (Int32.toNatClampNeg (M 6 3)) (a2 / (1000 : Int32))) 56 (Int32.toNatClampNeg (M 6 3)) (jrem a2 (1000 : Int32))) 6 3 ((M 6 3) + (1 : Int32))))
                else none
              else
                some ((-4 : Int32), M)
            else
              some ((-2 : Int32), M)
        else
          some ((-2 : Int32), M)
set_option maxRecDepth 20000 in
theorem F6_lay_ok {p : Program} {l : Launch} {e : Env} {s : State} {m : MethodId} {args : Array Value} {below : List Frame} {meth : Method} {c : Code} {G : GG} {D : Nat} {r : Int32 × Mem} (F : FrP G p s m args c RX6 cX6_lay 3) (hr : meth.sig.returnType = (some .int)) (hlk : meth.locks = false) (hD : 1 ≤ D) {M : Mem} {a1 : Int32} {a2 : Int32} (h : F6_lay M a1 a2 = some r) : XJ p l e (rmX D) s m args below meth c 0 0 G 3 (MQ below (QcX G ((some (.int r.1), r.2) : Option Value × Mem).1 ((some (.int r.1), r.2) : Option Value × Mem).2) args s 0 0 (AW G.2.1)) 0 [(0, .ref 6), (1, .int a1), (2, .int a2)] [] M := by
  unfold F6_lay at h
  refine X_iload_n F dX6_lay_0 rfl ?_
  refine X_if_lt (tgt := 14) F dX6_lay_1 (by decide) (fun q1 => ?_) (fun q1 => ?_)
  · rw [if_pos q1] at h
    refine X_bipush F dX6_lay_14 (v := (-2 : Int32)) rfl ?_
    exact X_iret F hr hlk (retI h) dX6_lay_16
  · rw [if_neg q1] at h
    refine X_iload_n F dX6_lay_4 rfl ?_
    refine X_bipush F dX6_lay_5 (v := (99 : Int32)) rfl ?_
    refine X_icmp_gt (tgt := 14) F dX6_lay_7 (by decide) (fun q2 => ?_) (fun q2 => ?_)
    · rw [if_pos q2] at h
      refine X_bipush F dX6_lay_14 (v := (-2 : Int32)) rfl ?_
      exact X_iret F hr hlk (retI h) dX6_lay_16
    · rw [if_neg q2] at h
      refine X_iload_n F dX6_lay_10 rfl ?_
      refine X_if_ge (tgt := 17) F dX6_lay_11 (by decide) (fun q3 => ?_) (fun q3 => ?_)
      · rw [if_pos q3] at h
        refine X_iload_n F dX6_lay_17 rfl ?_
        refine X_sipush F dX6_lay_18 (v := (1000 : Int32)) rfl ?_
        refine X_idiv F dX6_lay_21 (by decide) ?_
        refine X_bipush F dX6_lay_22 (v := (99 : Int32)) rfl ?_
        refine X_icmp_gt (tgt := 37) F dX6_lay_24 (by decide) (fun q4 => ?_) (fun q4 => ?_)
        · rw [if_pos q4] at h
          refine X_bipush F dX6_lay_37 (v := (-2 : Int32)) rfl ?_
          exact X_iret F hr hlk (retI h) dX6_lay_39
        · rw [if_neg q4] at h
          refine X_iload_n F dX6_lay_27 rfl ?_
          refine X_sipush F dX6_lay_28 (v := (1000 : Int32)) rfl ?_
          refine X_irem F dX6_lay_31 (by decide) ?_
          refine X_bipush F dX6_lay_32 (v := (100 : Int32)) rfl ?_
          refine X_icmp_le (tgt := 40) F dX6_lay_34 (by decide) (fun q5 => ?_) (fun q5 => ?_)
          · rw [if_pos q5] at h
            refine X_aload_n F dX6_lay_40 rfl ?_
            refine X_geti (v := (M 6 3)) F ffRX6_21 dX6_lay_41 rfl ?_
            refine X_bipush F dX6_lay_44 (v := (6 : Int32)) rfl ?_
            refine X_icmp_lt (tgt := 52) F dX6_lay_46 (by decide) (fun q6 => ?_) (fun q6 => ?_)
            · rw [if_pos q6] at h
              refine X_aload_n F dX6_lay_52 rfl ?_
              refine X_getr F ffRX6_9 dX6_lay_53 ?_
              refine X_aload_n F dX6_lay_56 rfl ?_
              refine X_geti (v := (M 6 3)) F ffRX6_21 dX6_lay_57 rfl ?_
              refine X_iload_n F dX6_lay_60 rfl ?_
              obtain ⟨q7, h⟩ := ifS h
              refine X_iast (j := (Int32.toNatClampNeg (M 6 3))) F rfl (inbV q7) rfl dX6_lay_61 ?_
              refine X_aload_n F dX6_lay_62 rfl ?_
              refine X_getr F ffRX6_15 dX6_lay_63 ?_
              refine X_aload_n F dX6_lay_66 rfl ?_
              refine X_geti (v := (M 6 3)) F ffRX6_21 dX6_lay_67 rfl ?_
              refine X_iload_n F dX6_lay_70 rfl ?_
              refine X_sipush F dX6_lay_71 (v := (1000 : Int32)) rfl ?_
              refine X_idiv F dX6_lay_74 (by decide) ?_
              refine X_iast (j := (Int32.toNatClampNeg (M 6 3))) F rfl (inbV q7) rfl dX6_lay_75 ?_
              refine X_aload_n F dX6_lay_76 rfl ?_
              refine X_getr F ffRX6_18 dX6_lay_77 ?_
              refine X_aload_n F dX6_lay_80 rfl ?_
              refine X_geti (v := (M 6 3)) F ffRX6_21 dX6_lay_81 rfl ?_
              refine X_iload_n F dX6_lay_84 rfl ?_
              refine X_sipush F dX6_lay_85 (v := (1000 : Int32)) rfl ?_
              refine X_irem F dX6_lay_88 (by decide) ?_
              refine X_iast (j := (Int32.toNatClampNeg (M 6 3))) F rfl (inbV q7) rfl dX6_lay_89 ?_
              refine X_aload_n F dX6_lay_90 rfl ?_
              refine X_dup F dX6_lay_91 rfl ?_
              refine X_geti (v := (M 6 3)) F ffRX6_21 dX6_lay_92 rfl ?_
              refine X_iconst F dX6_lay_95 (v := (1 : Int32)) rfl ?_
              refine X_iadd F dX6_lay_96 ?_
              refine X_puti F ffRX6_21 fw6_3 (by decide) dX6_lay_97 ?_
              refine X_aload_n F dX6_lay_100 rfl ?_
              refine X_geti (v := ((M 6 3) + (1 : Int32))) F ffRX6_21 dX6_lay_101 rfl ?_
              refine X_iconst F dX6_lay_104 (v := (1 : Int32)) rfl ?_
              refine X_isub F dX6_lay_105 ?_
              exact X_iret F hr hlk (retI h) dX6_lay_106
            · rw [if_neg q6] at h
              refine X_bipush F dX6_lay_49 (v := (-4 : Int32)) rfl ?_
              exact X_iret F hr hlk (retI h) dX6_lay_51
          · rw [if_neg q5] at h
            refine X_bipush F dX6_lay_37 (v := (-2 : Int32)) rfl ?_
            exact X_iret F hr hlk (retI h) dX6_lay_39
      · rw [if_neg q3] at h
        refine X_bipush F dX6_lay_14 (v := (-2 : Int32)) rfl ?_
        exact X_iret F hr hlk (retI h) dX6_lay_16
set_option maxRecDepth 20000 in
theorem F6_lay_met {l : Launch} {G : GG} {D : Nat} {r : Int32 × Mem} {M : Mem} {a1 : Int32} {a2 : Int32} (hI : Inj G.2.1) (hD : 1 ≤ D) (h : F6_lay M a1 a2 = some r) : MetX l G yX6_lay cX6_lay 3 (some .int) D [.ref 6, .int a1, .int a2] M (some (.int r.1), r.2) :=
  X_met hI (by decide +kernel) (Nat.le_of_ble_eq_true rfl) (fun p e s m args below meth c F hr hlk => F6_lay_ok F hr hlk hD h)
-- KeepOurPlace$Line.moveUs
def F2_moveUs (M : Mem) (a1 : Int32) : Option (Int32 × Mem) :=
    if a1 < 0 then
      some ((-2 : Int32), M)
    else
      if a1 ≤ (M 2 3) then
        some ((M 2 4), (up2 M 2 4 a1))
      else
        some ((-2 : Int32), M)
set_option maxRecDepth 20000 in
theorem F2_moveUs_ok {p : Program} {l : Launch} {e : Env} {s : State} {m : MethodId} {args : Array Value} {below : List Frame} {meth : Method} {c : Code} {G : GG} {D : Nat} {r : Int32 × Mem} (F : FrP G p s m args c RX2 cX2_moveUs 3) (hr : meth.sig.returnType = (some .int)) (hlk : meth.locks = false) (hD : 1 ≤ D) {M : Mem} {a1 : Int32} (h : F2_moveUs M a1 = some r) : XJ p l e (rmX D) s m args below meth c 0 0 G 3 (MQ below (QcX G ((some (.int r.1), r.2) : Option Value × Mem).1 ((some (.int r.1), r.2) : Option Value × Mem).2) args s 0 0 (AW G.2.1)) 0 [(0, .ref 2), (1, .int a1)] [] M := by
  unfold F2_moveUs at h
  refine X_iload_n F dX2_moveUs_0 rfl ?_
  refine X_if_lt (tgt := 12) F dX2_moveUs_1 (by decide) (fun q1 => ?_) (fun q1 => ?_)
  · rw [if_pos q1] at h
    refine X_bipush F dX2_moveUs_12 (v := (-2 : Int32)) rfl ?_
    exact X_iret F hr hlk (retI h) dX2_moveUs_14
  · rw [if_neg q1] at h
    refine X_iload_n F dX2_moveUs_4 rfl ?_
    refine X_aload_n F dX2_moveUs_5 rfl ?_
    refine X_geti (v := (M 2 3)) F ffRX2_21 dX2_moveUs_6 rfl ?_
    refine X_icmp_le (tgt := 15) F dX2_moveUs_9 (by decide) (fun q2 => ?_) (fun q2 => ?_)
    · rw [if_pos q2] at h
      refine X_aload_n F dX2_moveUs_15 rfl ?_
      refine X_geti (v := (M 2 4)) F ffRX2_25 dX2_moveUs_16 rfl ?_
      refine X_istore_n F dX2_moveUs_19 (by decide) rfl ?_
      refine X_aload_n F dX2_moveUs_20 rfl ?_
      refine X_iload_n F dX2_moveUs_21 rfl ?_
      refine X_puti F ffRX2_25 fw2_4 (by decide) dX2_moveUs_22 ?_
      refine X_iload_n F dX2_moveUs_25 rfl ?_
      exact X_iret F hr hlk (retI h) dX2_moveUs_26
    · rw [if_neg q2] at h
      refine X_bipush F dX2_moveUs_12 (v := (-2 : Int32)) rfl ?_
      exact X_iret F hr hlk (retI h) dX2_moveUs_14
set_option maxRecDepth 20000 in
theorem F2_moveUs_met {l : Launch} {G : GG} {D : Nat} {r : Int32 × Mem} {M : Mem} {a1 : Int32} (hI : Inj G.2.1) (hD : 1 ≤ D) (h : F2_moveUs M a1 = some r) : MetX l G yX2_moveUs cX2_moveUs 3 (some .int) D [.ref 2, .int a1] M (some (.int r.1), r.2) :=
  X_met hI (by decide +kernel) (Nat.le_of_ble_eq_true rfl) (fun p e s m args below meth c F hr hlk => F2_moveUs_ok F hr hlk hD h)
-- KeepOurPlace$Line.holds
def F2_holds (M : Mem) (a1 : Int32) : Option (Int32 × Mem) :=
    if a1 < 0 then
      some ((0 : Int32), M)
    else
      if (M 2 3) ≤ a1 then
        some ((0 : Int32), M)
      else
        some ((1 : Int32), M)
set_option maxRecDepth 20000 in
theorem F2_holds_ok {p : Program} {l : Launch} {e : Env} {s : State} {m : MethodId} {args : Array Value} {below : List Frame} {meth : Method} {c : Code} {G : GG} {D : Nat} {r : Int32 × Mem} (F : FrP G p s m args c RX2 cX2_holds 2) (hr : meth.sig.returnType = (some .boolean)) (hlk : meth.locks = false) (hD : 1 ≤ D) {M : Mem} {a1 : Int32} (h : F2_holds M a1 = some r) : XJ p l e (rmX D) s m args below meth c 0 0 G 2 (MQ below (QcX G ((some (.int r.1), r.2) : Option Value × Mem).1 ((some (.int r.1), r.2) : Option Value × Mem).2) args s 0 0 (AW G.2.1)) 0 [(0, .ref 2), (1, .int a1)] [] M := by
  unfold F2_holds at h
  refine X_iload_n F dX2_holds_0 rfl ?_
  refine X_if_lt (tgt := 16) F dX2_holds_1 (by decide) (fun q1 => ?_) (fun q1 => ?_)
  · rw [if_pos q1] at h
    refine X_iconst F dX2_holds_16 (v := (0 : Int32)) rfl ?_
    exact X_zret F hr hlk rfl (retI h) dX2_holds_17
  · rw [if_neg q1] at h
    refine X_iload_n F dX2_holds_4 rfl ?_
    refine X_aload_n F dX2_holds_5 rfl ?_
    refine X_geti (v := (M 2 3)) F ffRX2_21 dX2_holds_6 rfl ?_
    refine X_icmp_ge (tgt := 16) F dX2_holds_9 (by decide) (fun q2 => ?_) (fun q2 => ?_)
    · rw [if_pos q2] at h
      refine X_iconst F dX2_holds_16 (v := (0 : Int32)) rfl ?_
      exact X_zret F hr hlk rfl (retI h) dX2_holds_17
    · rw [if_neg q2] at h
      refine X_iconst F dX2_holds_12 (v := (1 : Int32)) rfl ?_
      refine X_goto (tgt := 17) F dX2_holds_13 (by decide) ?_
      exact X_zret F hr hlk rfl (retI h) dX2_holds_17
set_option maxRecDepth 20000 in
theorem F2_holds_met {l : Launch} {G : GG} {D : Nat} {r : Int32 × Mem} {M : Mem} {a1 : Int32} (hI : Inj G.2.1) (hD : 1 ≤ D) (h : F2_holds M a1 = some r) : MetX l G yX2_holds cX2_holds 2 (some .boolean) D [.ref 2, .int a1] M (some (.int r.1), r.2) :=
  X_met hI (by decide +kernel) (Nat.le_of_ble_eq_true rfl) (fun p e s m args below meth c F hr hlk => F2_holds_ok F hr hlk hD h)
-- KeepOurPlace$Things.holds
def F6_holds (M : Mem) (a1 : Int32) : Option (Int32 × Mem) :=
    if a1 < 0 then
      some ((0 : Int32), M)
    else
      if (M 6 3) ≤ a1 then
        some ((0 : Int32), M)
      else
        some ((1 : Int32), M)
set_option maxRecDepth 20000 in
theorem F6_holds_ok {p : Program} {l : Launch} {e : Env} {s : State} {m : MethodId} {args : Array Value} {below : List Frame} {meth : Method} {c : Code} {G : GG} {D : Nat} {r : Int32 × Mem} (F : FrP G p s m args c RX6 cX6_holds 2) (hr : meth.sig.returnType = (some .boolean)) (hlk : meth.locks = false) (hD : 1 ≤ D) {M : Mem} {a1 : Int32} (h : F6_holds M a1 = some r) : XJ p l e (rmX D) s m args below meth c 0 0 G 2 (MQ below (QcX G ((some (.int r.1), r.2) : Option Value × Mem).1 ((some (.int r.1), r.2) : Option Value × Mem).2) args s 0 0 (AW G.2.1)) 0 [(0, .ref 6), (1, .int a1)] [] M := by
  unfold F6_holds at h
  refine X_iload_n F dX6_holds_0 rfl ?_
  refine X_if_lt (tgt := 16) F dX6_holds_1 (by decide) (fun q1 => ?_) (fun q1 => ?_)
  · rw [if_pos q1] at h
    refine X_iconst F dX6_holds_16 (v := (0 : Int32)) rfl ?_
    exact X_zret F hr hlk rfl (retI h) dX6_holds_17
  · rw [if_neg q1] at h
    refine X_iload_n F dX6_holds_4 rfl ?_
    refine X_aload_n F dX6_holds_5 rfl ?_
    refine X_geti (v := (M 6 3)) F ffRX6_21 dX6_holds_6 rfl ?_
    refine X_icmp_ge (tgt := 16) F dX6_holds_9 (by decide) (fun q2 => ?_) (fun q2 => ?_)
    · rw [if_pos q2] at h
      refine X_iconst F dX6_holds_16 (v := (0 : Int32)) rfl ?_
      exact X_zret F hr hlk rfl (retI h) dX6_holds_17
    · rw [if_neg q2] at h
      refine X_iconst F dX6_holds_12 (v := (1 : Int32)) rfl ?_
      refine X_goto (tgt := 17) F dX6_holds_13 (by decide) ?_
      exact X_zret F hr hlk rfl (retI h) dX6_holds_17
set_option maxRecDepth 20000 in
theorem F6_holds_met {l : Launch} {G : GG} {D : Nat} {r : Int32 × Mem} {M : Mem} {a1 : Int32} (hI : Inj G.2.1) (hD : 1 ≤ D) (h : F6_holds M a1 = some r) : MetX l G yX6_holds cX6_holds 2 (some .boolean) D [.ref 6, .int a1] M (some (.int r.1), r.2) :=
  X_met hI (by decide +kernel) (Nat.le_of_ble_eq_true rfl) (fun p e s m args below meth c F hr hlk => F6_holds_ok F hr hlk hD h)
-- KeepOurPlace$Line.dropFirst
def F2_dropFirst_l10_b (rec10 : Mem → Int32 → Option (Int32 × Mem)) (M : Mem) (x1 : Int32) : Option (Int32 × Mem) :=
    if (M 2 3) ≤ x1 then
      if (M 2 4) ≤ 0 then
        some ((0 : Int32), (up2 (up2 M 2 3 ((M 2 3) - (1 : Int32))) 2 5 ((M 2 5) + (1 : Int32))))
      else
        some ((0 : Int32), (up2 (up2 (up2 M 2 3 ((M 2 3) - (1 : Int32))) 2 5 ((M 2 5) + (1 : Int32))) 2 4 ((M 2 4) - (1 : Int32))))
    else
      if inb x1 8 = true then
      if inb (x1 - (1 : Int32)) 8 = true then
      rec10 (up2 (up2 (up2 M 22 (Int32.toNatClampNeg (x1 - (1 : Int32))) (M 22 (Int32.toNatClampNeg x1))) 23 (Int32.toNatClampNeg (x1 - (1 : Int32))) (M 23 (Int32.toNatClampNeg x1))) 24 (Int32.toNatClampNeg (x1 - (1 : Int32))) (M 24 (Int32.toNatClampNeg x1))) (x1 + (1 : Int32))
      else none
      else none
def F2_dropFirst_l10 : Nat → Mem → Int32 → Option (Int32 × Mem)
  | 0, _, _ => none
  | fu + 1, M, x1 => F2_dropFirst_l10_b (F2_dropFirst_l10 fu) M x1
def F2_dropFirst (M : Mem) : Option (Int32 × Mem) :=
    if 0 < (M 2 3) then
      F2_dropFirst_l10 FUEL M (1 : Int32)
    else
      some ((0 : Int32), M)
set_option maxRecDepth 20000 in
theorem F2_dropFirst_l10_bok {p : Program} {l : Launch} {e : Env} {s : State} {m : MethodId} {args : Array Value} {below : List Frame} {meth : Method} {c : Code} {G : GG} {D : Nat} {r : Int32 × Mem} {rec10 : Mem → Int32 → Option (Int32 × Mem)} (F : FrP G p s m args c RX2 cX2_dropFirst 2) (hr : meth.sig.returnType = none) (hlk : meth.locks = false) (hD : 1 ≤ D) (hrec10 : ∀ (M : Mem) (x1 : Int32), rec10 M x1 = some r → XJ p l e (rmX D) s m args below meth c 0 0 G 2 (MQ below (QcX G ((none, r.2) : Option Value × Mem).1 ((none, r.2) : Option Value × Mem).2) args s 0 0 (AW G.2.1)) 10 [(0, .ref 2), (1, .int x1)] [] M) {M : Mem} {x1 : Int32} (h : F2_dropFirst_l10_b rec10 M x1 = some r) : XJ p l e (rmX D) s m args below meth c 0 0 G 2 (MQ below (QcX G ((none, r.2) : Option Value × Mem).1 ((none, r.2) : Option Value × Mem).2) args s 0 0 (AW G.2.1)) 10 [(0, .ref 2), (1, .int x1)] [] M := by
  unfold F2_dropFirst_l10_b at h
  refine X_iload_n F dX2_dropFirst_10 rfl ?_
  refine X_aload_n F dX2_dropFirst_11 rfl ?_
  refine X_geti (v := (M 2 3)) F ffRX2_21 dX2_dropFirst_12 rfl ?_
  refine X_icmp_ge (tgt := 66) F dX2_dropFirst_15 (by decide) (fun q2 => ?_) (fun q2 => ?_)
  · rw [if_pos q2] at h
    refine X_aload_n F dX2_dropFirst_66 rfl ?_
    refine X_dup F dX2_dropFirst_67 rfl ?_
    refine X_geti (v := (M 2 3)) F ffRX2_21 dX2_dropFirst_68 rfl ?_
    refine X_iconst F dX2_dropFirst_71 (v := (1 : Int32)) rfl ?_
    refine X_isub F dX2_dropFirst_72 ?_
    refine X_puti F ffRX2_21 fw2_3 (by decide) dX2_dropFirst_73 ?_
    refine X_aload_n F dX2_dropFirst_76 rfl ?_
    refine X_dup F dX2_dropFirst_77 rfl ?_
    refine X_geti (v := (M 2 5)) F ffRX2_28 dX2_dropFirst_78 rfl ?_
    refine X_iconst F dX2_dropFirst_81 (v := (1 : Int32)) rfl ?_
    refine X_iadd F dX2_dropFirst_82 ?_
    refine X_puti F ffRX2_28 fw2_5 (by decide) dX2_dropFirst_83 ?_
    refine X_aload_n F dX2_dropFirst_86 rfl ?_
    refine X_geti (v := (M 2 4)) F ffRX2_25 dX2_dropFirst_87 rfl ?_
    refine X_if_le (tgt := 103) F dX2_dropFirst_90 (by decide) (fun q3 => ?_) (fun q3 => ?_)
    · rw [if_pos q3] at h
      exact X_vret F hr hlk (retV h) dX2_dropFirst_103
    · rw [if_neg q3] at h
      refine X_aload_n F dX2_dropFirst_93 rfl ?_
      refine X_dup F dX2_dropFirst_94 rfl ?_
      refine X_geti (v := (M 2 4)) F ffRX2_25 dX2_dropFirst_95 rfl ?_
      refine X_iconst F dX2_dropFirst_98 (v := (1 : Int32)) rfl ?_
      refine X_isub F dX2_dropFirst_99 ?_
      refine X_puti F ffRX2_25 fw2_4 (by decide) dX2_dropFirst_100 ?_
      exact X_vret F hr hlk (retV h) dX2_dropFirst_103
  · rw [if_neg q2] at h
    refine X_aload_n F dX2_dropFirst_18 rfl ?_
    refine X_getr F ffRX2_9 dX2_dropFirst_19 ?_
    refine X_iload_n F dX2_dropFirst_22 rfl ?_
    refine X_iconst F dX2_dropFirst_23 (v := (1 : Int32)) rfl ?_
    refine X_isub F dX2_dropFirst_24 ?_
    refine X_aload_n F dX2_dropFirst_25 rfl ?_
    refine X_getr F ffRX2_9 dX2_dropFirst_26 ?_
    refine X_iload_n F dX2_dropFirst_29 rfl ?_
    obtain ⟨q4, h⟩ := ifS h
    refine X_iald (j := (Int32.toNatClampNeg x1)) (v := (M 22 (Int32.toNatClampNeg x1))) F rfl (inbV q4) rfl rfl dX2_dropFirst_30 ?_
    obtain ⟨q5, h⟩ := ifS h
    refine X_iast (j := (Int32.toNatClampNeg (x1 - (1 : Int32)))) F rfl (inbV q5) rfl dX2_dropFirst_31 ?_
    refine X_aload_n F dX2_dropFirst_32 rfl ?_
    refine X_getr F ffRX2_15 dX2_dropFirst_33 ?_
    refine X_iload_n F dX2_dropFirst_36 rfl ?_
    refine X_iconst F dX2_dropFirst_37 (v := (1 : Int32)) rfl ?_
    refine X_isub F dX2_dropFirst_38 ?_
    refine X_aload_n F dX2_dropFirst_39 rfl ?_
    refine X_getr F ffRX2_15 dX2_dropFirst_40 ?_
    refine X_iload_n F dX2_dropFirst_43 rfl ?_
    refine X_iald (j := (Int32.toNatClampNeg x1)) (v := (M 23 (Int32.toNatClampNeg x1))) F rfl (inbV q4) rfl rfl dX2_dropFirst_44 ?_
    refine X_iast (j := (Int32.toNatClampNeg (x1 - (1 : Int32)))) F rfl (inbV q5) rfl dX2_dropFirst_45 ?_
    refine X_aload_n F dX2_dropFirst_46 rfl ?_
    refine X_getr F ffRX2_18 dX2_dropFirst_47 ?_
    refine X_iload_n F dX2_dropFirst_50 rfl ?_
    refine X_iconst F dX2_dropFirst_51 (v := (1 : Int32)) rfl ?_
    refine X_isub F dX2_dropFirst_52 ?_
    refine X_aload_n F dX2_dropFirst_53 rfl ?_
    refine X_getr F ffRX2_18 dX2_dropFirst_54 ?_
    refine X_iload_n F dX2_dropFirst_57 rfl ?_
    refine X_iald (j := (Int32.toNatClampNeg x1)) (v := (M 24 (Int32.toNatClampNeg x1))) F rfl (inbV q4) rfl rfl dX2_dropFirst_58 ?_
    refine X_iast (j := (Int32.toNatClampNeg (x1 - (1 : Int32)))) F rfl (inbV q5) rfl dX2_dropFirst_59 ?_
    refine X_iinc F dX2_dropFirst_60 rfl (v := (1 : Int32)) rfl (by decide) rfl ?_
    refine X_goto (tgt := 10) F dX2_dropFirst_63 (by decide) ?_
    refine X_pick [1, 0] rfl ?_
    exact hrec10 _ _ h
set_option maxRecDepth 20000 in
theorem F2_dropFirst_l10_ok {p : Program} {l : Launch} {e : Env} {s : State} {m : MethodId} {args : Array Value} {below : List Frame} {meth : Method} {c : Code} {G : GG} {D : Nat} {r : Int32 × Mem} (F : FrP G p s m args c RX2 cX2_dropFirst 2) (hr : meth.sig.returnType = none) (hlk : meth.locks = false) (hD : 1 ≤ D) : ∀ (fu : Nat) (M : Mem) (x1 : Int32), F2_dropFirst_l10 fu M x1 = some r → XJ p l e (rmX D) s m args below meth c 0 0 G 2 (MQ below (QcX G ((none, r.2) : Option Value × Mem).1 ((none, r.2) : Option Value × Mem).2) args s 0 0 (AW G.2.1)) 10 [(0, .ref 2), (1, .int x1)] [] M := by
  intro fu
  induction fu with
  | zero => intro M x1 h; cases h
  | succ fu ih => intro M x1 h; exact F2_dropFirst_l10_bok F hr hlk hD (fun M x1 => ih M x1) h
set_option maxRecDepth 20000 in
theorem F2_dropFirst_ok {p : Program} {l : Launch} {e : Env} {s : State} {m : MethodId} {args : Array Value} {below : List Frame} {meth : Method} {c : Code} {G : GG} {D : Nat} {r : Int32 × Mem} (F : FrP G p s m args c RX2 cX2_dropFirst 2) (hr : meth.sig.returnType = none) (hlk : meth.locks = false) (hD : 1 ≤ D) {M : Mem} (h : F2_dropFirst M = some r) : XJ p l e (rmX D) s m args below meth c 0 0 G 2 (MQ below (QcX G ((none, r.2) : Option Value × Mem).1 ((none, r.2) : Option Value × Mem).2) args s 0 0 (AW G.2.1)) 0 [(0, .ref 2)] [] M := by
  unfold F2_dropFirst at h
  refine X_aload_n F dX2_dropFirst_0 rfl ?_
  refine X_geti (v := (M 2 3)) F ffRX2_21 dX2_dropFirst_1 rfl ?_
  refine X_if_gt (tgt := 8) F dX2_dropFirst_4 (by decide) (fun q1 => ?_) (fun q1 => ?_)
  · rw [if_pos q1] at h
    refine X_iconst F dX2_dropFirst_8 (v := (1 : Int32)) rfl ?_
    refine X_istore_n F dX2_dropFirst_9 (by decide) rfl ?_
    refine X_pick [1, 0] rfl ?_
    exact F2_dropFirst_l10_ok F hr hlk hD FUEL _ _ h
  · rw [if_neg q1] at h
    exact X_vret F hr hlk (retV h) dX2_dropFirst_7
set_option maxRecDepth 20000 in
theorem F2_dropFirst_met {l : Launch} {G : GG} {D : Nat} {r : Int32 × Mem} {M : Mem} (hI : Inj G.2.1) (hD : 1 ≤ D) (h : F2_dropFirst M = some r) : MetX l G yX2_dropFirst cX2_dropFirst 2 none D [.ref 2] M (none, r.2) :=
  X_met hI (by decide +kernel) (Nat.le_of_ble_eq_true rfl) (fun p e s m args below meth c F hr hlk => F2_dropFirst_ok F hr hlk hD h)
-- KeepOurPlace$Things.shelfOf
def F6_shelfOf (M : Mem) (a1 : Int32) : Option (Int32 × Mem) :=
    Option.bind (F6_holds M a1) fun r1 =>
    if r1.1 = 0 then
      some ((0 : Int32), r1.2)
    else
      if inb a1 6 = true then
      some ((r1.2 54 (Int32.toNatClampNeg a1)), r1.2)
      else none
set_option maxRecDepth 20000 in
theorem F6_shelfOf_ok {p : Program} {l : Launch} {e : Env} {s : State} {m : MethodId} {args : Array Value} {below : List Frame} {meth : Method} {c : Code} {G : GG} {D : Nat} {r : Int32 × Mem} (F : FrP G p s m args c RX6 cX6_shelfOf 2) (hr : meth.sig.returnType = (some .int)) (hlk : meth.locks = false) (hD : 2 ≤ D) {M : Mem} {a1 : Int32} (h : F6_shelfOf M a1 = some r) : XJ p l e (rmX D) s m args below meth c 0 0 G 2 (MQ below (QcX G ((some (.int r.1), r.2) : Option Value × Mem).1 ((some (.int r.1), r.2) : Option Value × Mem).2) args s 0 0 (AW G.2.1)) 0 [(0, .ref 6), (1, .int a1)] [] M := by
  unfold F6_shelfOf at h
  refine X_aload_n F dX6_shelfOf_0 rfl ?_
  refine X_iload_n F dX6_shelfOf_1 rfl ?_
  obtain ⟨r1, h2, h⟩ := bndS h
  refine X_callV (ci := 6) (As := [.int a1]) (rest := []) F fkRX6_25 feX6_holds fvX6_holds ⟨_, _, rfl, rfl, rfl⟩ (F6_holds_met (D := D - 1) F.2.2.2.2.2.2.2.1 (by omega) h2) rfl rfl (Nat.le_of_ble_eq_true rfl) (rm_ok (by omega) (by decide)) dX6_shelfOf_2 ?_
  show XJ p l e (rmX D) s m args below meth c 0 0 G 2 (MQ below (QcX G ((some (.int r.1), r.2) : Option Value × Mem).1 ((some (.int r.1), r.2) : Option Value × Mem).2) args s 0 0 (AW G.2.1)) 5 [(0, .ref 6), (1, .int a1)] [.int r1.1] r1.2
  refine X_if_eq (tgt := 17) F dX6_shelfOf_5 (by decide) (fun q3 => ?_) (fun q3 => ?_)
  · rw [if_pos q3] at h
    refine X_iconst F dX6_shelfOf_17 (v := (0 : Int32)) rfl ?_
    exact X_iret F hr hlk (retI h) dX6_shelfOf_18
  · rw [if_neg q3] at h
    refine X_aload_n F dX6_shelfOf_8 rfl ?_
    refine X_getr F ffRX6_9 dX6_shelfOf_9 ?_
    refine X_iload_n F dX6_shelfOf_12 rfl ?_
    obtain ⟨q4, h⟩ := ifS h
    refine X_iald (j := (Int32.toNatClampNeg a1)) (v := (r1.2 54 (Int32.toNatClampNeg a1))) F rfl (inbV q4) rfl rfl dX6_shelfOf_13 ?_
    refine X_goto (tgt := 18) F dX6_shelfOf_14 (by decide) ?_
    exact X_iret F hr hlk (retI h) dX6_shelfOf_18
set_option maxRecDepth 20000 in
theorem F6_shelfOf_met {l : Launch} {G : GG} {D : Nat} {r : Int32 × Mem} {M : Mem} {a1 : Int32} (hI : Inj G.2.1) (hD : 2 ≤ D) (h : F6_shelfOf M a1 = some r) : MetX l G yX6_shelfOf cX6_shelfOf 2 (some .int) D [.ref 6, .int a1] M (some (.int r.1), r.2) :=
  X_met hI (by decide +kernel) (Nat.le_of_ble_eq_true rfl) (fun p e s m args below meth c F hr hlk => F6_shelfOf_ok F hr hlk hD h)
-- KeepOurPlace$Things.steps
def F6_steps (M : Mem) (a1 : Int32) (a2 : Int32) : Option (Int32 × Mem) :=
    Option.bind (F6_shelfOf M a1) fun r1 =>
    Option.bind (F6_shelfOf r1.2 a2) fun r3 =>
    some (((jabs ((jrem r1.1 (10 : Int32)) - (jrem r3.1 (10 : Int32)))) + (jabs ((r1.1 / (10 : Int32)) - (r3.1 / (10 : Int32))))), r3.2)
set_option maxRecDepth 20000 in
theorem F6_steps_ok {p : Program} {l : Launch} {e : Env} {s : State} {m : MethodId} {args : Array Value} {below : List Frame} {meth : Method} {c : Code} {G : GG} {D : Nat} {r : Int32 × Mem} (F : FrP G p s m args c RX6 cX6_steps 5) (hr : meth.sig.returnType = (some .int)) (hlk : meth.locks = false) (hD : 3 ≤ D) {M : Mem} {a1 : Int32} {a2 : Int32} (h : F6_steps M a1 a2 = some r) : XJ p l e (rmX D) s m args below meth c 0 0 G 5 (MQ below (QcX G ((some (.int r.1), r.2) : Option Value × Mem).1 ((some (.int r.1), r.2) : Option Value × Mem).2) args s 0 0 (AW G.2.1)) 0 [(0, .ref 6), (1, .int a1), (2, .int a2)] [] M := by
  unfold F6_steps at h
  refine X_aload_n F dX6_steps_0 rfl ?_
  refine X_iload_n F dX6_steps_1 rfl ?_
  obtain ⟨r1, h2, h⟩ := bndS h
  refine X_callV (ci := 6) (As := [.int a1]) (rest := []) F fkRX6_29 feX6_shelfOf fvX6_shelfOf ⟨_, _, rfl, rfl, rfl⟩ (F6_shelfOf_met (D := D - 1) F.2.2.2.2.2.2.2.1 (by omega) h2) rfl rfl (Nat.le_of_ble_eq_true rfl) (rm_ok (by omega) (by decide)) dX6_steps_2 ?_
  show XJ p l e (rmX D) s m args below meth c 0 0 G 5 (MQ below (QcX G ((some (.int r.1), r.2) : Option Value × Mem).1 ((some (.int r.1), r.2) : Option Value × Mem).2) args s 0 0 (AW G.2.1)) 5 [(0, .ref 6), (1, .int a1), (2, .int a2)] [.int r1.1] r1.2
  refine X_istore_n F dX6_steps_5 (by decide) rfl ?_
  refine X_aload_n F dX6_steps_6 rfl ?_
  refine X_iload_n F dX6_steps_7 rfl ?_
  obtain ⟨r3, h4, h⟩ := bndS h
  refine X_callV (ci := 6) (As := [.int a2]) (rest := []) F fkRX6_29 feX6_shelfOf fvX6_shelfOf ⟨_, _, rfl, rfl, rfl⟩ (F6_shelfOf_met (D := D - 1) F.2.2.2.2.2.2.2.1 (by omega) h4) rfl rfl (Nat.le_of_ble_eq_true rfl) (rm_ok (by omega) (by decide)) dX6_steps_8 ?_
  show XJ p l e (rmX D) s m args below meth c 0 0 G 5 (MQ below (QcX G ((some (.int r.1), r.2) : Option Value × Mem).1 ((some (.int r.1), r.2) : Option Value × Mem).2) args s 0 0 (AW G.2.1)) 11 [(3, .int r1.1), (0, .ref 6), (1, .int a1), (2, .int a2)] [.int r3.1] r3.2
  refine X_istore F dX6_steps_11 (by decide) rfl ?_
  refine X_iload_n F dX6_steps_13 rfl ?_
  refine X_bipush F dX6_steps_14 (v := (10 : Int32)) rfl ?_
  refine X_irem F dX6_steps_16 (by decide) ?_
  refine X_iload F dX6_steps_17 rfl ?_
  refine X_bipush F dX6_steps_19 (v := (10 : Int32)) rfl ?_
  refine X_irem F dX6_steps_21 (by decide) ?_
  refine X_isub F dX6_steps_22 ?_
  refine X_mabs F fmRX6_33 math_sabs math_i math_cabs (rm_1 (by omega)) (rm_w (n := 13) (by omega) (Nat.le_of_ble_eq_true rfl) (by decide)) dX6_steps_23 ?_
  refine X_iload_n F dX6_steps_26 rfl ?_
  refine X_bipush F dX6_steps_27 (v := (10 : Int32)) rfl ?_
  refine X_idiv F dX6_steps_29 (by decide) ?_
  refine X_iload F dX6_steps_30 rfl ?_
  refine X_bipush F dX6_steps_32 (v := (10 : Int32)) rfl ?_
  refine X_idiv F dX6_steps_34 (by decide) ?_
  refine X_isub F dX6_steps_35 ?_
  refine X_mabs F fmRX6_33 math_sabs math_i math_cabs (rm_1 (by omega)) (rm_w (n := 14) (by omega) (Nat.le_of_ble_eq_true rfl) (by decide)) dX6_steps_36 ?_
  refine X_iadd F dX6_steps_39 ?_
  exact X_iret F hr hlk (retI h) dX6_steps_40
set_option maxRecDepth 20000 in
theorem F6_steps_met {l : Launch} {G : GG} {D : Nat} {r : Int32 × Mem} {M : Mem} {a1 : Int32} {a2 : Int32} (hI : Inj G.2.1) (hD : 3 ≤ D) (h : F6_steps M a1 a2 = some r) : MetX l G yX6_steps cX6_steps 5 (some .int) D [.ref 6, .int a1, .int a2] M (some (.int r.1), r.2) :=
  X_met hI (by decide +kernel) (Nat.le_of_ble_eq_true rfl) (fun p e s m args below meth c F hr hlk => F6_steps_ok F hr hlk hD h)
-- KeepOurPlace$Things.all
def F6_all (M : Mem) : Option (Int32 × Mem) :=
    some ((((1 : Int32) <<< ((M 6 3) &&& 31)) - (1 : Int32)), M)
set_option maxRecDepth 20000 in
theorem F6_all_ok {p : Program} {l : Launch} {e : Env} {s : State} {m : MethodId} {args : Array Value} {below : List Frame} {meth : Method} {c : Code} {G : GG} {D : Nat} {r : Int32 × Mem} (F : FrP G p s m args c RX6 cX6_all 1) (hr : meth.sig.returnType = (some .int)) (hlk : meth.locks = false) (hD : 1 ≤ D) {M : Mem} (h : F6_all M = some r) : XJ p l e (rmX D) s m args below meth c 0 0 G 1 (MQ below (QcX G ((some (.int r.1), r.2) : Option Value × Mem).1 ((some (.int r.1), r.2) : Option Value × Mem).2) args s 0 0 (AW G.2.1)) 0 [(0, .ref 6)] [] M := by
  unfold F6_all at h
  refine X_iconst F dX6_all_0 (v := (1 : Int32)) rfl ?_
  refine X_aload_n F dX6_all_1 rfl ?_
  refine X_geti (v := (M 6 3)) F ffRX6_21 dX6_all_2 rfl ?_
  refine X_ishl F dX6_all_5 ?_
  refine X_iconst F dX6_all_6 (v := (1 : Int32)) rfl ?_
  refine X_isub F dX6_all_7 ?_
  exact X_iret F hr hlk (retI h) dX6_all_8
set_option maxRecDepth 20000 in
theorem F6_all_met {l : Launch} {G : GG} {D : Nat} {r : Int32 × Mem} {M : Mem} (hI : Inj G.2.1) (hD : 1 ≤ D) (h : F6_all M = some r) : MetX l G yX6_all cX6_all 1 (some .int) D [.ref 6] M (some (.int r.1), r.2) :=
  X_met hI (by decide +kernel) (Nat.le_of_ble_eq_true rfl) (fun p e s m args below meth c F hr hlk => F6_all_ok F hr hlk hD h)
-- KeepOurPlace$Things.draw
def F6_draw_j49 (rec7 : Mem → Int32 → Int32 → Int32 → Option (Int32 × Mem)) (M : Mem) (x2 : Int32) (x3 : Int32) (x4 : Int32) : Option (Int32 × Mem) :=
    rec7 M x2 x3 (x4 + (1 : Int32))
def F6_draw_l7_b (rec7 : Mem → Int32 → Int32 → Int32 → Option (Int32 × Mem)) (M : Mem) (x2 : Int32) (x3 : Int32) (x4 : Int32) : Option (Int32 × Mem) :=
    if (M 6 3) ≤ x4 then
      some (x2, M)
    else
      if inb x4 6 = true then
      if (M 56 (Int32.toNatClampNeg x4)) ≤ (jrem (jushr ((x3 * (1103515245 : Int32)) + (12345 : Int32)) (9 : Int32)) (100 : Int32)) then
        F6_draw_j49 rec7 M x2 ((x3 * (1103515245 : Int32)) + (12345 : Int32)) x4
      else
        F6_draw_j49 rec7 M (x2 ||| ((1 : Int32) <<< (x4 &&& 31))) ((x3 * (1103515245 : Int32)) + (12345 : Int32)) x4
      else none
def F6_draw_l7 : Nat → Mem → Int32 → Int32 → Int32 → Option (Int32 × Mem)
  | 0, _, _, _, _ => none
  | fu + 1, M, x2, x3, x4 => F6_draw_l7_b (F6_draw_l7 fu) M x2 x3 x4
def F6_draw (M : Mem) (a1 : Int32) : Option (Int32 × Mem) :=
    F6_draw_l7 FUEL M (0 : Int32) a1 (0 : Int32)
set_option maxRecDepth 20000 in
theorem F6_draw_j49_ok {p : Program} {l : Launch} {e : Env} {s : State} {m : MethodId} {args : Array Value} {below : List Frame} {meth : Method} {c : Code} {G : GG} {D : Nat} {r : Int32 × Mem} {rec7 : Mem → Int32 → Int32 → Int32 → Option (Int32 × Mem)} (F : FrP G p s m args c RX6 cX6_draw 5) (hr : meth.sig.returnType = (some .int)) (hlk : meth.locks = false) (hD : 1 ≤ D) (hrec7 : ∀ (M : Mem) (x2 : Int32) (x3 : Int32) (x4 : Int32), rec7 M x2 x3 x4 = some r → XJ p l e (rmX D) s m args below meth c 0 0 G 5 (MQ below (QcX G ((some (.int r.1), r.2) : Option Value × Mem).1 ((some (.int r.1), r.2) : Option Value × Mem).2) args s 0 0 (AW G.2.1)) 7 [(0, .ref 6), (2, .int x2), (3, .int x3), (4, .int x4)] [] M) {M : Mem} {x2 : Int32} {x3 : Int32} {x4 : Int32} (h : F6_draw_j49 rec7 M x2 x3 x4 = some r) : XJ p l e (rmX D) s m args below meth c 0 0 G 5 (MQ below (QcX G ((some (.int r.1), r.2) : Option Value × Mem).1 ((some (.int r.1), r.2) : Option Value × Mem).2) args s 0 0 (AW G.2.1)) 49 [(0, .ref 6), (2, .int x2), (3, .int x3), (4, .int x4)] [] M := by
  unfold F6_draw_j49 at h
  refine X_iinc F dX6_draw_49 rfl (v := (1 : Int32)) rfl (by decide) rfl ?_
  refine X_goto (tgt := 7) F dX6_draw_52 (by decide) ?_
  refine X_pick [1, 2, 3, 0] rfl ?_
  exact hrec7 _ _ _ _ h
set_option maxRecDepth 20000 in
theorem F6_draw_l7_bok {p : Program} {l : Launch} {e : Env} {s : State} {m : MethodId} {args : Array Value} {below : List Frame} {meth : Method} {c : Code} {G : GG} {D : Nat} {r : Int32 × Mem} {rec7 : Mem → Int32 → Int32 → Int32 → Option (Int32 × Mem)} (F : FrP G p s m args c RX6 cX6_draw 5) (hr : meth.sig.returnType = (some .int)) (hlk : meth.locks = false) (hD : 1 ≤ D) (hrec7 : ∀ (M : Mem) (x2 : Int32) (x3 : Int32) (x4 : Int32), rec7 M x2 x3 x4 = some r → XJ p l e (rmX D) s m args below meth c 0 0 G 5 (MQ below (QcX G ((some (.int r.1), r.2) : Option Value × Mem).1 ((some (.int r.1), r.2) : Option Value × Mem).2) args s 0 0 (AW G.2.1)) 7 [(0, .ref 6), (2, .int x2), (3, .int x3), (4, .int x4)] [] M) {M : Mem} {x2 : Int32} {x3 : Int32} {x4 : Int32} (h : F6_draw_l7_b rec7 M x2 x3 x4 = some r) : XJ p l e (rmX D) s m args below meth c 0 0 G 5 (MQ below (QcX G ((some (.int r.1), r.2) : Option Value × Mem).1 ((some (.int r.1), r.2) : Option Value × Mem).2) args s 0 0 (AW G.2.1)) 7 [(0, .ref 6), (2, .int x2), (3, .int x3), (4, .int x4)] [] M := by
  unfold F6_draw_l7_b at h
  refine X_iload F dX6_draw_7 rfl ?_
  refine X_aload_n F dX6_draw_9 rfl ?_
  refine X_geti (v := (M 6 3)) F ffRX6_21 dX6_draw_10 rfl ?_
  refine X_icmp_ge (tgt := 55) F dX6_draw_13 (by decide) (fun q1 => ?_) (fun q1 => ?_)
  · rw [if_pos q1] at h
    refine X_iload_n F dX6_draw_55 rfl ?_
    exact X_iret F hr hlk (retI h) dX6_draw_56
  · rw [if_neg q1] at h
    refine X_iload_n F dX6_draw_16 rfl ?_
    refine X_ldc F fcRX6_38 dX6_draw_17 ?_
    refine X_imul F dX6_draw_19 ?_
    refine X_sipush F dX6_draw_20 (v := (12345 : Int32)) rfl ?_
    refine X_iadd F dX6_draw_23 ?_
    refine X_istore_n F dX6_draw_24 (by decide) rfl ?_
    refine X_iload_n F dX6_draw_25 rfl ?_
    refine X_bipush F dX6_draw_26 (v := (9 : Int32)) rfl ?_
    refine X_iushr F dX6_draw_28 ?_
    refine X_bipush F dX6_draw_29 (v := (100 : Int32)) rfl ?_
    refine X_irem F dX6_draw_31 (by decide) ?_
    refine X_aload_n F dX6_draw_32 rfl ?_
    refine X_getr F ffRX6_18 dX6_draw_33 ?_
    refine X_iload F dX6_draw_36 rfl ?_
    obtain ⟨q2, h⟩ := ifS h
    refine X_iald (j := (Int32.toNatClampNeg x4)) (v := (M 56 (Int32.toNatClampNeg x4))) F rfl (inbV q2) rfl rfl dX6_draw_38 ?_
    refine X_icmp_ge (tgt := 49) F dX6_draw_39 (by decide) (fun q3 => ?_) (fun q3 => ?_)
    · rw [if_pos q3] at h
      refine X_pick [1, 2, 0, 3] rfl ?_
      exact F6_draw_j49_ok F hr hlk hD hrec7 h
    · rw [if_neg q3] at h
      refine X_iload_n F dX6_draw_42 rfl ?_
      refine X_iconst F dX6_draw_43 (v := (1 : Int32)) rfl ?_
      refine X_iload F dX6_draw_44 rfl ?_
      refine X_ishl F dX6_draw_46 ?_
      refine X_ior F dX6_draw_47 ?_
      refine X_istore_n F dX6_draw_48 (by decide) rfl ?_
      refine X_pick [2, 0, 1, 3] rfl ?_
      exact F6_draw_j49_ok F hr hlk hD hrec7 h
set_option maxRecDepth 20000 in
theorem F6_draw_l7_ok {p : Program} {l : Launch} {e : Env} {s : State} {m : MethodId} {args : Array Value} {below : List Frame} {meth : Method} {c : Code} {G : GG} {D : Nat} {r : Int32 × Mem} (F : FrP G p s m args c RX6 cX6_draw 5) (hr : meth.sig.returnType = (some .int)) (hlk : meth.locks = false) (hD : 1 ≤ D) : ∀ (fu : Nat) (M : Mem) (x2 : Int32) (x3 : Int32) (x4 : Int32), F6_draw_l7 fu M x2 x3 x4 = some r → XJ p l e (rmX D) s m args below meth c 0 0 G 5 (MQ below (QcX G ((some (.int r.1), r.2) : Option Value × Mem).1 ((some (.int r.1), r.2) : Option Value × Mem).2) args s 0 0 (AW G.2.1)) 7 [(0, .ref 6), (2, .int x2), (3, .int x3), (4, .int x4)] [] M := by
  intro fu
  induction fu with
  | zero => intro M x2 x3 x4 h; cases h
  | succ fu ih => intro M x2 x3 x4 h; exact F6_draw_l7_bok F hr hlk hD (fun M x2 x3 x4 => ih M x2 x3 x4) h
set_option maxRecDepth 20000 in
theorem F6_draw_ok {p : Program} {l : Launch} {e : Env} {s : State} {m : MethodId} {args : Array Value} {below : List Frame} {meth : Method} {c : Code} {G : GG} {D : Nat} {r : Int32 × Mem} (F : FrP G p s m args c RX6 cX6_draw 5) (hr : meth.sig.returnType = (some .int)) (hlk : meth.locks = false) (hD : 1 ≤ D) {M : Mem} {a1 : Int32} (h : F6_draw M a1 = some r) : XJ p l e (rmX D) s m args below meth c 0 0 G 5 (MQ below (QcX G ((some (.int r.1), r.2) : Option Value × Mem).1 ((some (.int r.1), r.2) : Option Value × Mem).2) args s 0 0 (AW G.2.1)) 0 [(0, .ref 6), (1, .int a1)] [] M := by
  unfold F6_draw at h
  refine X_iconst F dX6_draw_0 (v := (0 : Int32)) rfl ?_
  refine X_istore_n F dX6_draw_1 (by decide) rfl ?_
  refine X_iload_n F dX6_draw_2 rfl ?_
  refine X_istore_n F dX6_draw_3 (by decide) rfl ?_
  refine X_iconst F dX6_draw_4 (v := (0 : Int32)) rfl ?_
  refine X_istore F dX6_draw_5 (by decide) rfl ?_
  refine X_pick [3, 2, 1, 0] rfl ?_
  exact F6_draw_l7_ok F hr hlk hD FUEL _ _ _ _ h
set_option maxRecDepth 20000 in
theorem F6_draw_met {l : Launch} {G : GG} {D : Nat} {r : Int32 × Mem} {M : Mem} {a1 : Int32} (hI : Inj G.2.1) (hD : 1 ≤ D) (h : F6_draw M a1 = some r) : MetX l G yX6_draw cX6_draw 5 (some .int) D [.ref 6, .int a1] M (some (.int r.1), r.2) :=
  X_met hI (by decide +kernel) (Nat.le_of_ble_eq_true rfl) (fun p e s m args below meth c F hr hlk => F6_draw_ok F hr hlk hD h)
