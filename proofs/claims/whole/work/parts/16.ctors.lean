/-! CONSTRUCTORS: written by wip/whole/gen/genctor.py -/
theorem fkRX8_9 : LNK RX8 9 yX2_init := Or.inr ⟨"KeepOurPlace", nmem 28 (by decide +kernel) rfl⟩
theorem feX2_init : CLE yX2_init 0 cX2_init 1 none := ⟨tmem 2 (by decide +kernel) rfl, tmem 30 (by decide +kernel) rfl, by decide +kernel, by decide +kernel⟩
theorem fkRX8_18 : LNK RX8 18 yX6_init := Or.inr ⟨"KeepOurPlace", nmem 75 (by decide +kernel) rfl⟩
theorem feX6_init : CLE yX6_init 0 cX6_init 1 none := ⟨tmem 3 (by decide +kernel) rfl, tmem 77 (by decide +kernel) rfl, by decide +kernel, by decide +kernel⟩
theorem fkRX8_25 : LNK RX8 25 yX3_init := Or.inr ⟨"KeepOurPlace", nmem 104 (by decide +kernel) rfl⟩
theorem feX3_init : CLE yX3_init 0 cX3_init 1 none := ⟨tmem 4 (by decide +kernel) rfl, tmem 106 (by decide +kernel) rfl, by decide +kernel, by decide +kernel⟩
theorem fkRX8_32 : LNK RX8 32 yX4_init := Or.inr ⟨"KeepOurPlace", nmem 151 (by decide +kernel) rfl⟩
theorem feX4_init : CLE yX4_init 1 cX4_init 2 none := ⟨tmem 5 (by decide +kernel) rfl, tmem 153 (by decide +kernel) rfl, by decide +kernel, by decide +kernel⟩
theorem fkRX8_41 : LNK RX8 41 yX7_init := Or.inr ⟨"KeepOurPlace", nmem 184 (by decide +kernel) rfl⟩
theorem feX7_init : CLE yX7_init 2 cX7_init 3 none := ⟨tmem 6 (by decide +kernel) rfl, tmem 186 (by decide +kernel) rfl, by decide +kernel, by decide +kernel⟩
theorem fkRX8_50 : LNK RX8 50 yX0_init := Or.inr ⟨"KeepOurPlace", nmem 197 (by decide +kernel) rfl⟩
theorem feX0_init : CLE yX0_init 3 cX0_init 4 none := ⟨tmem 7 (by decide +kernel) rfl, tmem 199 (by decide +kernel) rfl, by decide +kernel, by decide +kernel⟩
theorem fkRX8_59 : LNK RX8 59 yX5_init := Or.inr ⟨"KeepOurPlace", nmem 259 (by decide +kernel) rfl⟩
theorem feX5_init : CLE yX5_init 0 cX5_init 1 none := ⟨tmem 8 (by decide +kernel) rfl, tmem 261 (by decide +kernel) rfl, by decide +kernel, by decide +kernel⟩
theorem fkRX8_66 : LNK RX8 66 yX1_init := Or.inr ⟨"KeepOurPlace", nmem 279 (by decide +kernel) rfl⟩
theorem feX1_init : CLE yX1_init 0 cX1_init 1 none := ⟨tmem 9 (by decide +kernel) rfl, tmem 281 (by decide +kernel) rfl, by decide +kernel, by decide +kernel⟩
theorem fkRX8_73 : LNK RX8 73 yJ0_length_8abf5 := Or.inl (tmem 320 (by decide +kernel) rfl)
theorem fkRX8_79 : LNK RX8 79 yJ0_charAt_5068e := Or.inl (tmem 330 (by decide +kernel) rfl)
theorem fkRX9_78 : LNK RX9 78 yX9_spell := Or.inl (tmem 928 (by decide +kernel) rfl)
theorem feX9_spell : CLE yX9_spell 9 cX9_spell 10 none := ⟨tmem 17 (by decide +kernel) rfl, tmem 931 (by decide +kernel) rfl, by decide +kernel, by decide +kernel⟩
theorem fvX9_spell : CLV yX9_spell := ⟨tmem 930 (by decide +kernel) rfl, smem 69 (by decide +kernel) rfl⟩
theorem ac_int : Cond.arrayClass .int ∈ TBL := tmem 72 (by decide +kernel) rfl
theorem ac_bool : Cond.arrayClass .boolean ∈ TBL := tmem 1100 (by decide +kernel) rfl
theorem aov_int : Cond.arrayOver (.array .int) ∈ NTB := nmem 156 (by decide +kernel) rfl
theorem ob_in : Cond.instanceMethod objectInit ∈ TBL := tmem 24 (by decide +kernel) rfl
theorem ob_co : Cond.code objectInit ⟨#[0xb1]⟩ 1 none ∈ TBL := tmem 25 (by decide +kernel) rfl
def sc2_0 : List Shp := [.inr (2, [.null, .null, .null, .int 0, .int 0, .int 0])]
def sc2_1 : List Shp := [.inr (2, [.null, .null, .null, .int 0, .int 0, .int 0]), .inl (0, 8)]
def sc2_2 : List Shp := [.inr (2, [.ref 1, .null, .null, .int 0, .int 0, .int 0]), .inl (0, 8)]
def sc2_3 : List Shp := [.inr (2, [.ref 1, .null, .null, .int 0, .int 0, .int 0]), .inl (0, 8), .inl (0, 8)]
def sc2_4 : List Shp := [.inr (2, [.ref 1, .ref 2, .null, .int 0, .int 0, .int 0]), .inl (0, 8), .inl (0, 8)]
def sc2_5 : List Shp := [.inr (2, [.ref 1, .ref 2, .null, .int 0, .int 0, .int 0]), .inl (0, 8), .inl (0, 8), .inl (0, 8)]
def sc2_6 : List Shp := [.inr (2, [.ref 1, .ref 2, .ref 3, .int 0, .int 0, .int 0]), .inl (0, 8), .inl (0, 8), .inl (0, 8)]
def mN2 (M : Mem) : Mem := (upA (upA (upA M 1 (fun _ => 0)) 2 (fun _ => 0)) 3 (fun _ => 0))
def sc6_7 : List Shp := [.inr (6, [.null, .null, .null, .int 0])]
def sc6_8 : List Shp := [.inr (6, [.null, .null, .null, .int 0]), .inl (0, 6)]
def sc6_9 : List Shp := [.inr (6, [.ref 1, .null, .null, .int 0]), .inl (0, 6)]
def sc6_10 : List Shp := [.inr (6, [.ref 1, .null, .null, .int 0]), .inl (0, 6), .inl (0, 6)]
def sc6_11 : List Shp := [.inr (6, [.ref 1, .ref 2, .null, .int 0]), .inl (0, 6), .inl (0, 6)]
def sc6_12 : List Shp := [.inr (6, [.ref 1, .ref 2, .null, .int 0]), .inl (0, 6), .inl (0, 6), .inl (0, 6)]
def sc6_13 : List Shp := [.inr (6, [.ref 1, .ref 2, .ref 3, .int 0]), .inl (0, 6), .inl (0, 6), .inl (0, 6)]
def mN6 (M : Mem) : Mem := (upA (upA (upA M 1 (fun _ => 0)) 2 (fun _ => 0)) 3 (fun _ => 0))
def sc3_14 : List Shp := [.inr (3, [.null, .int 0, .null, .null, .null, .int 0, .int 0, .int 0, .int 0, .null, .int 0, .null])]
def sc3_15 : List Shp := [.inr (3, [.null, .int 0, .null, .null, .null, .int 0, .int 0, .int 0, .int 0, .null, .int 0, .null]), .inl (0, 160)]
def sc3_16 : List Shp := [.inr (3, [.ref 1, .int 0, .null, .null, .null, .int 0, .int 0, .int 0, .int 0, .null, .int 0, .null]), .inl (0, 160)]
def sc3_17 : List Shp := [.inr (3, [.ref 1, .int 0, .null, .null, .null, .int 0, .int 0, .int 0, .int 0, .null, .int 0, .null]), .inl (0, 160), .inl (0, 161)]
def sc3_18 : List Shp := [.inr (3, [.ref 1, .int 0, .ref 2, .null, .null, .int 0, .int 0, .int 0, .int 0, .null, .int 0, .null]), .inl (0, 160), .inl (0, 161)]
def sc3_19 : List Shp := [.inr (3, [.ref 1, .int 0, .ref 2, .null, .null, .int 0, .int 0, .int 0, .int 0, .null, .int 0, .null]), .inl (0, 160), .inl (0, 161), .inl (0, 161)]
def sc3_20 : List Shp := [.inr (3, [.ref 1, .int 0, .ref 2, .ref 3, .null, .int 0, .int 0, .int 0, .int 0, .null, .int 0, .null]), .inl (0, 160), .inl (0, 161), .inl (0, 161)]
def sc3_21 : List Shp := [.inr (3, [.ref 1, .int 0, .ref 2, .ref 3, .null, .int 0, .int 0, .int 0, .int 0, .null, .int 0, .null]), .inl (0, 160), .inl (0, 161), .inl (0, 161), .inl (0, 161)]
def sc3_22 : List Shp := [.inr (3, [.ref 1, .int 0, .ref 2, .ref 3, .ref 4, .int 0, .int 0, .int 0, .int 0, .null, .int 0, .null]), .inl (0, 160), .inl (0, 161), .inl (0, 161), .inl (0, 161)]
def sc3_23 : List Shp := [.inr (3, [.ref 1, .int 0, .ref 2, .ref 3, .ref 4, .int 0, .int 0, .int 0, .int 0, .null, .int 0, .null]), .inl (0, 160), .inl (0, 161), .inl (0, 161), .inl (0, 161), .inl (0, 160)]
def sc3_24 : List Shp := [.inr (3, [.ref 1, .int 0, .ref 2, .ref 3, .ref 4, .int 0, .int 0, .int 0, .int 0, .ref 5, .int 0, .null]), .inl (0, 160), .inl (0, 161), .inl (0, 161), .inl (0, 161), .inl (0, 160)]
def sc3_25 : List Shp := [.inr (3, [.ref 1, .int 0, .ref 2, .ref 3, .ref 4, .int 0, .int 0, .int 0, .int 0, .ref 5, .int 0, .null]), .inl (0, 160), .inl (0, 161), .inl (0, 161), .inl (0, 161), .inl (0, 160), .inl (0, 4)]
def sc3_26 : List Shp := [.inr (3, [.ref 1, .int 0, .ref 2, .ref 3, .ref 4, .int 0, .int 0, .int 0, .int 0, .ref 5, .int 0, .ref 6]), .inl (0, 160), .inl (0, 161), .inl (0, 161), .inl (0, 161), .inl (0, 160), .inl (0, 4)]
def mN3 (M : Mem) : Mem := (upA (upA (upA (upA (upA (upA M 1 (fun _ => 0)) 2 (fun _ => 0)) 3 (fun _ => 0)) 4 (fun _ => 0)) 5 (fun _ => 0)) 6 (fun _ => 0))
def sc4_27 : List Shp := [.inr (4, [.null, .null, .null, .null, .null, .int 0, .int 0])]
def sc4_28 : List Shp := [.inr (4, [.null, .null, .null, .null, .null, .int 0, .int 0]), .inl (4, 6), .inl (0, 160), .inl (0, 160), .inl (0, 160), .inl (0, 160), .inl (0, 160), .inl (0, 160)]
def sc4_29 : List Shp := [.inr (4, [.null, .ref 1, .null, .null, .null, .int 0, .int 0]), .inl (4, 6), .inl (0, 160), .inl (0, 160), .inl (0, 160), .inl (0, 160), .inl (0, 160), .inl (0, 160)]
def sc4_30 : List Shp := [.inr (4, [.null, .ref 1, .null, .null, .null, .int 0, .int 0]), .inl (4, 6), .inl (0, 160), .inl (0, 160), .inl (0, 160), .inl (0, 160), .inl (0, 160), .inl (0, 160), .inl (11, 6), .inl (0, 4), .inl (0, 4), .inl (0, 4), .inl (0, 4), .inl (0, 4), .inl (0, 4)]
def sc4_31 : List Shp := [.inr (4, [.null, .ref 1, .ref 8, .null, .null, .int 0, .int 0]), .inl (4, 6), .inl (0, 160), .inl (0, 160), .inl (0, 160), .inl (0, 160), .inl (0, 160), .inl (0, 160), .inl (11, 6), .inl (0, 4), .inl (0, 4), .inl (0, 4), .inl (0, 4), .inl (0, 4), .inl (0, 4)]
def sc4_32 : List Shp := [.inr (4, [.null, .ref 1, .ref 8, .null, .null, .int 0, .int 0]), .inl (4, 6), .inl (0, 160), .inl (0, 160), .inl (0, 160), .inl (0, 160), .inl (0, 160), .inl (0, 160), .inl (11, 6), .inl (0, 4), .inl (0, 4), .inl (0, 4), .inl (0, 4), .inl (0, 4), .inl (0, 4), .inl (0, 6)]
def sc4_33 : List Shp := [.inr (4, [.null, .ref 1, .ref 8, .ref 15, .null, .int 0, .int 0]), .inl (4, 6), .inl (0, 160), .inl (0, 160), .inl (0, 160), .inl (0, 160), .inl (0, 160), .inl (0, 160), .inl (11, 6), .inl (0, 4), .inl (0, 4), .inl (0, 4), .inl (0, 4), .inl (0, 4), .inl (0, 4), .inl (0, 6)]
def sc4_34 : List Shp := [.inr (4, [.null, .ref 1, .ref 8, .ref 15, .null, .int 0, .int 0]), .inl (4, 6), .inl (0, 160), .inl (0, 160), .inl (0, 160), .inl (0, 160), .inl (0, 160), .inl (0, 160), .inl (11, 6), .inl (0, 4), .inl (0, 4), .inl (0, 4), .inl (0, 4), .inl (0, 4), .inl (0, 4), .inl (0, 6), .inl (0, 160)]
def sc4_35 : List Shp := [.inr (4, [.null, .ref 1, .ref 8, .ref 15, .ref 16, .int 0, .int 0]), .inl (4, 6), .inl (0, 160), .inl (0, 160), .inl (0, 160), .inl (0, 160), .inl (0, 160), .inl (0, 160), .inl (11, 6), .inl (0, 4), .inl (0, 4), .inl (0, 4), .inl (0, 4), .inl (0, 4), .inl (0, 4), .inl (0, 6), .inl (0, 160)]
def sc4_36 : List Shp := [.inr (4, [.ref 100, .ref 1, .ref 8, .ref 15, .ref 16, .int 0, .int 0]), .inl (4, 6), .inl (0, 160), .inl (0, 160), .inl (0, 160), .inl (0, 160), .inl (0, 160), .inl (0, 160), .inl (11, 6), .inl (0, 4), .inl (0, 4), .inl (0, 4), .inl (0, 4), .inl (0, 4), .inl (0, 4), .inl (0, 6), .inl (0, 160)]
def mN4 (M : Mem) : Mem := (upA (upA (zM (zM M 1 6) 8 6) 15 (fun _ => 0)) 16 (fun _ => 0))
def sc7_37 : List Shp := [.inr (7, [.null, .null])]
def sc7_38 : List Shp := [.inr (7, [.ref 100, .null])]
def sc7_39 : List Shp := [.inr (7, [.ref 100, .ref 101])]
def mN7 (M : Mem) : Mem := M
def sc0_40 : List Shp := [.inr (0, [.null, .null, .null, .null, .null, .null, .int 0, .null, .int 0, .null, .null, .null, .int 0, .int 0, .int 0, .int 0])]
def sc0_41 : List Shp := [.inr (0, [.null, .null, .null, .null, .null, .null, .int 0, .null, .int 0, .null, .null, .null, .int 0, .int 0, .int 0, .int 0]), .inl (0, 7)]
def sc0_42 : List Shp := [.inr (0, [.null, .null, .null, .ref 1, .null, .null, .int 0, .null, .int 0, .null, .null, .null, .int 0, .int 0, .int 0, .int 0]), .inl (0, 7)]
def sc0_43 : List Shp := [.inr (0, [.null, .null, .null, .ref 1, .null, .null, .int 0, .null, .int 0, .null, .null, .null, .int 0, .int 0, .int 0, .int 0]), .inl (0, 7), .inl (0, 9)]
def sc0_44 : List Shp := [.inr (0, [.null, .null, .null, .ref 1, .ref 2, .null, .int 0, .null, .int 0, .null, .null, .null, .int 0, .int 0, .int 0, .int 0]), .inl (0, 7), .inl (0, 9)]
def sc0_45 : List Shp := [.inr (0, [.null, .null, .null, .ref 1, .ref 2, .null, .int 0, .null, .int 0, .null, .null, .null, .int 0, .int 0, .int 0, .int 0]), .inl (0, 7), .inl (0, 9), .inl (0, 9)]
def sc0_46 : List Shp := [.inr (0, [.null, .null, .null, .ref 1, .ref 2, .ref 3, .int 0, .null, .int 0, .null, .null, .null, .int 0, .int 0, .int 0, .int 0]), .inl (0, 7), .inl (0, 9), .inl (0, 9)]
def sc0_47 : List Shp := [.inr (0, [.null, .null, .null, .ref 1, .ref 2, .ref 3, .int 0, .null, .int 0, .null, .null, .null, .int 0, .int 0, .int 0, .int 0]), .inl (0, 7), .inl (0, 9), .inl (0, 9), .inl (0, 6)]
def sc0_48 : List Shp := [.inr (0, [.null, .null, .null, .ref 1, .ref 2, .ref 3, .int 0, .ref 4, .int 0, .null, .null, .null, .int 0, .int 0, .int 0, .int 0]), .inl (0, 7), .inl (0, 9), .inl (0, 9), .inl (0, 6)]
def sc0_49 : List Shp := [.inr (0, [.null, .null, .null, .ref 1, .ref 2, .ref 3, .int 0, .ref 4, .int 0, .null, .null, .null, .int 0, .int 0, .int 0, .int 0]), .inl (0, 7), .inl (0, 9), .inl (0, 9), .inl (0, 6), .inl (0, 64)]
def sc0_50 : List Shp := [.inr (0, [.null, .null, .null, .ref 1, .ref 2, .ref 3, .int 0, .ref 4, .int 0, .ref 5, .null, .null, .int 0, .int 0, .int 0, .int 0]), .inl (0, 7), .inl (0, 9), .inl (0, 9), .inl (0, 6), .inl (0, 64)]
def sc0_51 : List Shp := [.inr (0, [.null, .null, .null, .ref 1, .ref 2, .ref 3, .int 0, .ref 4, .int 0, .ref 5, .null, .null, .int 0, .int 0, .int 0, .int 0]), .inl (0, 7), .inl (0, 9), .inl (0, 9), .inl (0, 6), .inl (0, 64), .inl (0, 64)]
def sc0_52 : List Shp := [.inr (0, [.null, .null, .null, .ref 1, .ref 2, .ref 3, .int 0, .ref 4, .int 0, .ref 5, .ref 6, .null, .int 0, .int 0, .int 0, .int 0]), .inl (0, 7), .inl (0, 9), .inl (0, 9), .inl (0, 6), .inl (0, 64), .inl (0, 64)]
def sc0_53 : List Shp := [.inr (0, [.null, .null, .null, .ref 1, .ref 2, .ref 3, .int 0, .ref 4, .int 0, .ref 5, .ref 6, .null, .int 0, .int 0, .int 0, .int 0]), .inl (0, 7), .inl (0, 9), .inl (0, 9), .inl (0, 6), .inl (0, 64), .inl (0, 64), .inl (0, 64)]
def sc0_54 : List Shp := [.inr (0, [.null, .null, .null, .ref 1, .ref 2, .ref 3, .int 0, .ref 4, .int 0, .ref 5, .ref 6, .ref 7, .int 0, .int 0, .int 0, .int 0]), .inl (0, 7), .inl (0, 9), .inl (0, 9), .inl (0, 6), .inl (0, 64), .inl (0, 64), .inl (0, 64)]
def sc0_55 : List Shp := [.inr (0, [.ref 100, .null, .null, .ref 1, .ref 2, .ref 3, .int 0, .ref 4, .int 0, .ref 5, .ref 6, .ref 7, .int 0, .int 0, .int 0, .int 0]), .inl (0, 7), .inl (0, 9), .inl (0, 9), .inl (0, 6), .inl (0, 64), .inl (0, 64), .inl (0, 64)]
def sc0_56 : List Shp := [.inr (0, [.ref 100, .ref 101, .null, .ref 1, .ref 2, .ref 3, .int 0, .ref 4, .int 0, .ref 5, .ref 6, .ref 7, .int 0, .int 0, .int 0, .int 0]), .inl (0, 7), .inl (0, 9), .inl (0, 9), .inl (0, 6), .inl (0, 64), .inl (0, 64), .inl (0, 64)]
def sc0_57 : List Shp := [.inr (0, [.ref 100, .ref 101, .ref 102, .ref 1, .ref 2, .ref 3, .int 0, .ref 4, .int 0, .ref 5, .ref 6, .ref 7, .int 0, .int 0, .int 0, .int 0]), .inl (0, 7), .inl (0, 9), .inl (0, 9), .inl (0, 6), .inl (0, 64), .inl (0, 64), .inl (0, 64)]
def mN0 (M : Mem) : Mem := (upA (upA (upA (upA (upA (upA (upA M 1 (fun _ => 0)) 2 (fun _ => 0)) 3 (fun _ => 0)) 4 (fun _ => 0)) 5 (fun _ => 0)) 6 (fun _ => 0)) 7 (fun _ => 0))
def sc5_58 : List Shp := [.inr (5, [.null, .null, .null])]
def sc5_59 : List Shp := [.inr (5, [.null, .null, .null]), .inl (0, 4)]
def sc5_60 : List Shp := [.inr (5, [.ref 1, .null, .null]), .inl (0, 4)]
def sc5_61 : List Shp := [.inr (5, [.ref 1, .null, .null]), .inl (0, 4), .inl (0, 4)]
def sc5_62 : List Shp := [.inr (5, [.ref 1, .ref 2, .null]), .inl (0, 4), .inl (0, 4)]
def sc5_63 : List Shp := [.inr (5, [.ref 1, .ref 2, .null]), .inl (0, 4), .inl (0, 4), .inl (6, 4), .inl (0, 40), .inl (0, 40), .inl (0, 40), .inl (0, 40)]
def sc5_64 : List Shp := [.inr (5, [.ref 1, .ref 2, .ref 3]), .inl (0, 4), .inl (0, 4), .inl (6, 4), .inl (0, 40), .inl (0, 40), .inl (0, 40), .inl (0, 40)]
def mN5 (M : Mem) : Mem := (zM (upA (up2 (up2 (up2 (up2 (upA M 1 (fun _ => 0)) 1 0 (-1 : Int32)) 1 1 (-1 : Int32)) 1 2 (-1 : Int32)) 1 3 (-1 : Int32)) 2 (fun _ => 0)) 3 4)
def sc1_65 : List Shp := [.inr (1, [.int 0, .int 0, .int 0, .int 0, .int 0, .int 0, .null, .null, .null, .null, .null])]
def sc1_66 : List Shp := [.inr (1, [.int 0, .int 0, .int 0, .int 0, .int 0, .int 0, .null, .null, .null, .null, .null]), .inl (0, 8)]
def sc1_67 : List Shp := [.inr (1, [.int 0, .int 0, .int 0, .int 0, .int 0, .int 0, .ref 1, .null, .null, .null, .null]), .inl (0, 8)]
def sc1_68 : List Shp := [.inr (1, [.int 0, .int 0, .int 0, .int 0, .int 0, .int 0, .ref 1, .null, .null, .null, .null]), .inl (0, 8), .inl (0, 8)]
def sc1_69 : List Shp := [.inr (1, [.int 0, .int 0, .int 0, .int 0, .int 0, .int 0, .ref 1, .ref 2, .null, .null, .null]), .inl (0, 8), .inl (0, 8)]
def sc1_70 : List Shp := [.inr (1, [.int 0, .int 0, .int 0, .int 0, .int 0, .int 0, .ref 1, .ref 2, .null, .null, .null]), .inl (0, 8), .inl (0, 8), .inl (0, 6)]
def sc1_71 : List Shp := [.inr (1, [.int 0, .int 0, .int 0, .int 0, .int 0, .int 0, .ref 1, .ref 2, .ref 3, .null, .null]), .inl (0, 8), .inl (0, 8), .inl (0, 6)]
def sc1_72 : List Shp := [.inr (1, [.int 0, .int 0, .int 0, .int 0, .int 0, .int 0, .ref 1, .ref 2, .ref 3, .null, .null]), .inl (0, 8), .inl (0, 8), .inl (0, 6), .inl (0, 6)]
def sc1_73 : List Shp := [.inr (1, [.int 0, .int 0, .int 0, .int 0, .int 0, .int 0, .ref 1, .ref 2, .ref 3, .ref 4, .null]), .inl (0, 8), .inl (0, 8), .inl (0, 6), .inl (0, 6)]
def sc1_74 : List Shp := [.inr (1, [.int 0, .int 0, .int 0, .int 0, .int 0, .int 0, .ref 1, .ref 2, .ref 3, .ref 4, .null]), .inl (0, 8), .inl (0, 8), .inl (0, 6), .inl (0, 6), .inl (0, 6)]
def sc1_75 : List Shp := [.inr (1, [.int 0, .int 0, .int 0, .int 0, .int 0, .int 0, .ref 1, .ref 2, .ref 3, .ref 4, .ref 5]), .inl (0, 8), .inl (0, 8), .inl (0, 6), .inl (0, 6), .inl (0, 6)]
def mN1 (M : Mem) : Mem := (upA (upA (upA (upA (upA M 1 (fun _ => 0)) 2 (fun _ => 0)) 3 (fun _ => 0)) 4 (fun _ => 0)) 5 (fun _ => 0))
def sc8_76 : List Shp := [.inr (8, [.null, .null, .null, .null, .null, .null, .null, .null])]
def sc8_77 : List Shp := [.inr (8, [.null, .null, .null, .null, .null, .null, .null, .null]), .inr (2, [.null, .null, .null, .int 0, .int 0, .int 0])]
def sc8_78 : List Shp := [.inr (8, [.null, .null, .null, .null, .null, .null, .null, .null]), .inr (2, [.ref 2, .ref 3, .ref 4, .int 0, .int 0, .int 0]), .inl (0, 8), .inl (0, 8), .inl (0, 8)]
def mk8_1 (M : Mem) : Mem := (fun c => if c < 1 then (upA M 1 (fun _ => 0)) c else if c < 5 then (mN2 (fun c => (upA M 1 (fun _ => 0)) (1 + c))) (c - 1) else (upA M 1 (fun _ => 0)) c)
def sc8_79 : List Shp := [.inr (8, [.ref 1, .null, .null, .null, .null, .null, .null, .null]), .inr (2, [.ref 2, .ref 3, .ref 4, .int 0, .int 0, .int 0]), .inl (0, 8), .inl (0, 8), .inl (0, 8)]
def sc8_80 : List Shp := [.inr (8, [.ref 1, .null, .null, .null, .null, .null, .null, .null]), .inr (2, [.ref 2, .ref 3, .ref 4, .int 0, .int 0, .int 0]), .inl (0, 8), .inl (0, 8), .inl (0, 8), .inr (6, [.null, .null, .null, .int 0])]
def sc8_81 : List Shp := [.inr (8, [.ref 1, .null, .null, .null, .null, .null, .null, .null]), .inr (2, [.ref 2, .ref 3, .ref 4, .int 0, .int 0, .int 0]), .inl (0, 8), .inl (0, 8), .inl (0, 8), .inr (6, [.ref 6, .ref 7, .ref 8, .int 0]), .inl (0, 6), .inl (0, 6), .inl (0, 6)]
def mk8_2 (M : Mem) : Mem := (fun c => if c < 5 then (upA (mk8_1 M) 5 (fun _ => 0)) c else if c < 9 then (mN6 (fun c => (upA (mk8_1 M) 5 (fun _ => 0)) (5 + c))) (c - 5) else (upA (mk8_1 M) 5 (fun _ => 0)) c)
def sc8_82 : List Shp := [.inr (8, [.ref 1, .ref 5, .null, .null, .null, .null, .null, .null]), .inr (2, [.ref 2, .ref 3, .ref 4, .int 0, .int 0, .int 0]), .inl (0, 8), .inl (0, 8), .inl (0, 8), .inr (6, [.ref 6, .ref 7, .ref 8, .int 0]), .inl (0, 6), .inl (0, 6), .inl (0, 6)]
def sc8_83 : List Shp := [.inr (8, [.ref 1, .ref 5, .null, .null, .null, .null, .null, .null]), .inr (2, [.ref 2, .ref 3, .ref 4, .int 0, .int 0, .int 0]), .inl (0, 8), .inl (0, 8), .inl (0, 8), .inr (6, [.ref 6, .ref 7, .ref 8, .int 0]), .inl (0, 6), .inl (0, 6), .inl (0, 6), .inr (3, [.null, .int 0, .null, .null, .null, .int 0, .int 0, .int 0, .int 0, .null, .int 0, .null])]
def sc8_84 : List Shp := [.inr (8, [.ref 1, .ref 5, .null, .null, .null, .null, .null, .null]), .inr (2, [.ref 2, .ref 3, .ref 4, .int 0, .int 0, .int 0]), .inl (0, 8), .inl (0, 8), .inl (0, 8), .inr (6, [.ref 6, .ref 7, .ref 8, .int 0]), .inl (0, 6), .inl (0, 6), .inl (0, 6), .inr (3, [.ref 10, .int 0, .ref 11, .ref 12, .ref 13, .int 0, .int 0, .int 0, .int 0, .ref 14, .int 0, .ref 15]), .inl (0, 160), .inl (0, 161), .inl (0, 161), .inl (0, 161), .inl (0, 160), .inl (0, 4)]
def mk8_3 (M : Mem) : Mem := (fun c => if c < 9 then (upA (mk8_2 M) 9 (fun _ => 0)) c else if c < 16 then (mN3 (fun c => (upA (mk8_2 M) 9 (fun _ => 0)) (9 + c))) (c - 9) else (upA (mk8_2 M) 9 (fun _ => 0)) c)
def sc8_85 : List Shp := [.inr (8, [.ref 1, .ref 5, .ref 9, .null, .null, .null, .null, .null]), .inr (2, [.ref 2, .ref 3, .ref 4, .int 0, .int 0, .int 0]), .inl (0, 8), .inl (0, 8), .inl (0, 8), .inr (6, [.ref 6, .ref 7, .ref 8, .int 0]), .inl (0, 6), .inl (0, 6), .inl (0, 6), .inr (3, [.ref 10, .int 0, .ref 11, .ref 12, .ref 13, .int 0, .int 0, .int 0, .int 0, .ref 14, .int 0, .ref 15]), .inl (0, 160), .inl (0, 161), .inl (0, 161), .inl (0, 161), .inl (0, 160), .inl (0, 4)]
def sc8_86 : List Shp := [.inr (8, [.ref 1, .ref 5, .ref 9, .null, .null, .null, .null, .null]), .inr (2, [.ref 2, .ref 3, .ref 4, .int 0, .int 0, .int 0]), .inl (0, 8), .inl (0, 8), .inl (0, 8), .inr (6, [.ref 6, .ref 7, .ref 8, .int 0]), .inl (0, 6), .inl (0, 6), .inl (0, 6), .inr (3, [.ref 10, .int 0, .ref 11, .ref 12, .ref 13, .int 0, .int 0, .int 0, .int 0, .ref 14, .int 0, .ref 15]), .inl (0, 160), .inl (0, 161), .inl (0, 161), .inl (0, 161), .inl (0, 160), .inl (0, 4), .inr (4, [.null, .null, .null, .null, .null, .int 0, .int 0])]
def sc8_87 : List Shp := [.inr (8, [.ref 1, .ref 5, .ref 9, .null, .null, .null, .null, .null]), .inr (2, [.ref 2, .ref 3, .ref 4, .int 0, .int 0, .int 0]), .inl (0, 8), .inl (0, 8), .inl (0, 8), .inr (6, [.ref 6, .ref 7, .ref 8, .int 0]), .inl (0, 6), .inl (0, 6), .inl (0, 6), .inr (3, [.ref 10, .int 0, .ref 11, .ref 12, .ref 13, .int 0, .int 0, .int 0, .int 0, .ref 14, .int 0, .ref 15]), .inl (0, 160), .inl (0, 161), .inl (0, 161), .inl (0, 161), .inl (0, 160), .inl (0, 4), .inr (4, [.ref 1, .ref 17, .ref 24, .ref 31, .ref 32, .int 0, .int 0]), .inl (20, 6), .inl (0, 160), .inl (0, 160), .inl (0, 160), .inl (0, 160), .inl (0, 160), .inl (0, 160), .inl (27, 6), .inl (0, 4), .inl (0, 4), .inl (0, 4), .inl (0, 4), .inl (0, 4), .inl (0, 4), .inl (0, 6), .inl (0, 160)]
def mk8_4 (M : Mem) : Mem := (fun c => if c < 16 then (upA (mk8_3 M) 16 (fun _ => 0)) c else if c < 33 then (mN4 (fun c => (upA (mk8_3 M) 16 (fun _ => 0)) (16 + c))) (c - 16) else (upA (mk8_3 M) 16 (fun _ => 0)) c)
def sc8_88 : List Shp := [.inr (8, [.ref 1, .ref 5, .ref 9, .ref 16, .null, .null, .null, .null]), .inr (2, [.ref 2, .ref 3, .ref 4, .int 0, .int 0, .int 0]), .inl (0, 8), .inl (0, 8), .inl (0, 8), .inr (6, [.ref 6, .ref 7, .ref 8, .int 0]), .inl (0, 6), .inl (0, 6), .inl (0, 6), .inr (3, [.ref 10, .int 0, .ref 11, .ref 12, .ref 13, .int 0, .int 0, .int 0, .int 0, .ref 14, .int 0, .ref 15]), .inl (0, 160), .inl (0, 161), .inl (0, 161), .inl (0, 161), .inl (0, 160), .inl (0, 4), .inr (4, [.ref 1, .ref 17, .ref 24, .ref 31, .ref 32, .int 0, .int 0]), .inl (20, 6), .inl (0, 160), .inl (0, 160), .inl (0, 160), .inl (0, 160), .inl (0, 160), .inl (0, 160), .inl (27, 6), .inl (0, 4), .inl (0, 4), .inl (0, 4), .inl (0, 4), .inl (0, 4), .inl (0, 4), .inl (0, 6), .inl (0, 160)]
def sc8_89 : List Shp := [.inr (8, [.ref 1, .ref 5, .ref 9, .ref 16, .null, .null, .null, .null]), .inr (2, [.ref 2, .ref 3, .ref 4, .int 0, .int 0, .int 0]), .inl (0, 8), .inl (0, 8), .inl (0, 8), .inr (6, [.ref 6, .ref 7, .ref 8, .int 0]), .inl (0, 6), .inl (0, 6), .inl (0, 6), .inr (3, [.ref 10, .int 0, .ref 11, .ref 12, .ref 13, .int 0, .int 0, .int 0, .int 0, .ref 14, .int 0, .ref 15]), .inl (0, 160), .inl (0, 161), .inl (0, 161), .inl (0, 161), .inl (0, 160), .inl (0, 4), .inr (4, [.ref 1, .ref 17, .ref 24, .ref 31, .ref 32, .int 0, .int 0]), .inl (20, 6), .inl (0, 160), .inl (0, 160), .inl (0, 160), .inl (0, 160), .inl (0, 160), .inl (0, 160), .inl (27, 6), .inl (0, 4), .inl (0, 4), .inl (0, 4), .inl (0, 4), .inl (0, 4), .inl (0, 4), .inl (0, 6), .inl (0, 160), .inr (7, [.null, .null])]
def sc8_90 : List Shp := [.inr (8, [.ref 1, .ref 5, .ref 9, .ref 16, .null, .null, .null, .null]), .inr (2, [.ref 2, .ref 3, .ref 4, .int 0, .int 0, .int 0]), .inl (0, 8), .inl (0, 8), .inl (0, 8), .inr (6, [.ref 6, .ref 7, .ref 8, .int 0]), .inl (0, 6), .inl (0, 6), .inl (0, 6), .inr (3, [.ref 10, .int 0, .ref 11, .ref 12, .ref 13, .int 0, .int 0, .int 0, .int 0, .ref 14, .int 0, .ref 15]), .inl (0, 160), .inl (0, 161), .inl (0, 161), .inl (0, 161), .inl (0, 160), .inl (0, 4), .inr (4, [.ref 1, .ref 17, .ref 24, .ref 31, .ref 32, .int 0, .int 0]), .inl (20, 6), .inl (0, 160), .inl (0, 160), .inl (0, 160), .inl (0, 160), .inl (0, 160), .inl (0, 160), .inl (27, 6), .inl (0, 4), .inl (0, 4), .inl (0, 4), .inl (0, 4), .inl (0, 4), .inl (0, 4), .inl (0, 6), .inl (0, 160), .inr (7, [.ref 1, .ref 16])]
def mk8_5 (M : Mem) : Mem := (fun c => if c < 33 then (upA (mk8_4 M) 33 (fun _ => 0)) c else if c < 34 then (mN7 (fun c => (upA (mk8_4 M) 33 (fun _ => 0)) (33 + c))) (c - 33) else (upA (mk8_4 M) 33 (fun _ => 0)) c)
def sc8_91 : List Shp := [.inr (8, [.ref 1, .ref 5, .ref 9, .ref 16, .ref 33, .null, .null, .null]), .inr (2, [.ref 2, .ref 3, .ref 4, .int 0, .int 0, .int 0]), .inl (0, 8), .inl (0, 8), .inl (0, 8), .inr (6, [.ref 6, .ref 7, .ref 8, .int 0]), .inl (0, 6), .inl (0, 6), .inl (0, 6), .inr (3, [.ref 10, .int 0, .ref 11, .ref 12, .ref 13, .int 0, .int 0, .int 0, .int 0, .ref 14, .int 0, .ref 15]), .inl (0, 160), .inl (0, 161), .inl (0, 161), .inl (0, 161), .inl (0, 160), .inl (0, 4), .inr (4, [.ref 1, .ref 17, .ref 24, .ref 31, .ref 32, .int 0, .int 0]), .inl (20, 6), .inl (0, 160), .inl (0, 160), .inl (0, 160), .inl (0, 160), .inl (0, 160), .inl (0, 160), .inl (27, 6), .inl (0, 4), .inl (0, 4), .inl (0, 4), .inl (0, 4), .inl (0, 4), .inl (0, 4), .inl (0, 6), .inl (0, 160), .inr (7, [.ref 1, .ref 16])]
def sc8_92 : List Shp := [.inr (8, [.ref 1, .ref 5, .ref 9, .ref 16, .ref 33, .null, .null, .null]), .inr (2, [.ref 2, .ref 3, .ref 4, .int 0, .int 0, .int 0]), .inl (0, 8), .inl (0, 8), .inl (0, 8), .inr (6, [.ref 6, .ref 7, .ref 8, .int 0]), .inl (0, 6), .inl (0, 6), .inl (0, 6), .inr (3, [.ref 10, .int 0, .ref 11, .ref 12, .ref 13, .int 0, .int 0, .int 0, .int 0, .ref 14, .int 0, .ref 15]), .inl (0, 160), .inl (0, 161), .inl (0, 161), .inl (0, 161), .inl (0, 160), .inl (0, 4), .inr (4, [.ref 1, .ref 17, .ref 24, .ref 31, .ref 32, .int 0, .int 0]), .inl (20, 6), .inl (0, 160), .inl (0, 160), .inl (0, 160), .inl (0, 160), .inl (0, 160), .inl (0, 160), .inl (27, 6), .inl (0, 4), .inl (0, 4), .inl (0, 4), .inl (0, 4), .inl (0, 4), .inl (0, 4), .inl (0, 6), .inl (0, 160), .inr (7, [.ref 1, .ref 16]), .inr (0, [.null, .null, .null, .null, .null, .null, .int 0, .null, .int 0, .null, .null, .null, .int 0, .int 0, .int 0, .int 0])]
def sc8_93 : List Shp := [.inr (8, [.ref 1, .ref 5, .ref 9, .ref 16, .ref 33, .null, .null, .null]), .inr (2, [.ref 2, .ref 3, .ref 4, .int 0, .int 0, .int 0]), .inl (0, 8), .inl (0, 8), .inl (0, 8), .inr (6, [.ref 6, .ref 7, .ref 8, .int 0]), .inl (0, 6), .inl (0, 6), .inl (0, 6), .inr (3, [.ref 10, .int 0, .ref 11, .ref 12, .ref 13, .int 0, .int 0, .int 0, .int 0, .ref 14, .int 0, .ref 15]), .inl (0, 160), .inl (0, 161), .inl (0, 161), .inl (0, 161), .inl (0, 160), .inl (0, 4), .inr (4, [.ref 1, .ref 17, .ref 24, .ref 31, .ref 32, .int 0, .int 0]), .inl (20, 6), .inl (0, 160), .inl (0, 160), .inl (0, 160), .inl (0, 160), .inl (0, 160), .inl (0, 160), .inl (27, 6), .inl (0, 4), .inl (0, 4), .inl (0, 4), .inl (0, 4), .inl (0, 4), .inl (0, 4), .inl (0, 6), .inl (0, 160), .inr (7, [.ref 1, .ref 16]), .inr (0, [.ref 1, .ref 5, .ref 33, .ref 35, .ref 36, .ref 37, .int 0, .ref 38, .int 0, .ref 39, .ref 40, .ref 41, .int 0, .int 0, .int 0, .int 0]), .inl (0, 7), .inl (0, 9), .inl (0, 9), .inl (0, 6), .inl (0, 64), .inl (0, 64), .inl (0, 64)]
def mk8_6 (M : Mem) : Mem := (fun c => if c < 34 then (upA (mk8_5 M) 34 (fun _ => 0)) c else if c < 42 then (mN0 (fun c => (upA (mk8_5 M) 34 (fun _ => 0)) (34 + c))) (c - 34) else (upA (mk8_5 M) 34 (fun _ => 0)) c)
def sc8_94 : List Shp := [.inr (8, [.ref 1, .ref 5, .ref 9, .ref 16, .ref 33, .ref 34, .null, .null]), .inr (2, [.ref 2, .ref 3, .ref 4, .int 0, .int 0, .int 0]), .inl (0, 8), .inl (0, 8), .inl (0, 8), .inr (6, [.ref 6, .ref 7, .ref 8, .int 0]), .inl (0, 6), .inl (0, 6), .inl (0, 6), .inr (3, [.ref 10, .int 0, .ref 11, .ref 12, .ref 13, .int 0, .int 0, .int 0, .int 0, .ref 14, .int 0, .ref 15]), .inl (0, 160), .inl (0, 161), .inl (0, 161), .inl (0, 161), .inl (0, 160), .inl (0, 4), .inr (4, [.ref 1, .ref 17, .ref 24, .ref 31, .ref 32, .int 0, .int 0]), .inl (20, 6), .inl (0, 160), .inl (0, 160), .inl (0, 160), .inl (0, 160), .inl (0, 160), .inl (0, 160), .inl (27, 6), .inl (0, 4), .inl (0, 4), .inl (0, 4), .inl (0, 4), .inl (0, 4), .inl (0, 4), .inl (0, 6), .inl (0, 160), .inr (7, [.ref 1, .ref 16]), .inr (0, [.ref 1, .ref 5, .ref 33, .ref 35, .ref 36, .ref 37, .int 0, .ref 38, .int 0, .ref 39, .ref 40, .ref 41, .int 0, .int 0, .int 0, .int 0]), .inl (0, 7), .inl (0, 9), .inl (0, 9), .inl (0, 6), .inl (0, 64), .inl (0, 64), .inl (0, 64)]
def sc8_95 : List Shp := [.inr (8, [.ref 1, .ref 5, .ref 9, .ref 16, .ref 33, .ref 34, .null, .null]), .inr (2, [.ref 2, .ref 3, .ref 4, .int 0, .int 0, .int 0]), .inl (0, 8), .inl (0, 8), .inl (0, 8), .inr (6, [.ref 6, .ref 7, .ref 8, .int 0]), .inl (0, 6), .inl (0, 6), .inl (0, 6), .inr (3, [.ref 10, .int 0, .ref 11, .ref 12, .ref 13, .int 0, .int 0, .int 0, .int 0, .ref 14, .int 0, .ref 15]), .inl (0, 160), .inl (0, 161), .inl (0, 161), .inl (0, 161), .inl (0, 160), .inl (0, 4), .inr (4, [.ref 1, .ref 17, .ref 24, .ref 31, .ref 32, .int 0, .int 0]), .inl (20, 6), .inl (0, 160), .inl (0, 160), .inl (0, 160), .inl (0, 160), .inl (0, 160), .inl (0, 160), .inl (27, 6), .inl (0, 4), .inl (0, 4), .inl (0, 4), .inl (0, 4), .inl (0, 4), .inl (0, 4), .inl (0, 6), .inl (0, 160), .inr (7, [.ref 1, .ref 16]), .inr (0, [.ref 1, .ref 5, .ref 33, .ref 35, .ref 36, .ref 37, .int 0, .ref 38, .int 0, .ref 39, .ref 40, .ref 41, .int 0, .int 0, .int 0, .int 0]), .inl (0, 7), .inl (0, 9), .inl (0, 9), .inl (0, 6), .inl (0, 64), .inl (0, 64), .inl (0, 64), .inr (5, [.null, .null, .null])]
def sc8_96 : List Shp := [.inr (8, [.ref 1, .ref 5, .ref 9, .ref 16, .ref 33, .ref 34, .null, .null]), .inr (2, [.ref 2, .ref 3, .ref 4, .int 0, .int 0, .int 0]), .inl (0, 8), .inl (0, 8), .inl (0, 8), .inr (6, [.ref 6, .ref 7, .ref 8, .int 0]), .inl (0, 6), .inl (0, 6), .inl (0, 6), .inr (3, [.ref 10, .int 0, .ref 11, .ref 12, .ref 13, .int 0, .int 0, .int 0, .int 0, .ref 14, .int 0, .ref 15]), .inl (0, 160), .inl (0, 161), .inl (0, 161), .inl (0, 161), .inl (0, 160), .inl (0, 4), .inr (4, [.ref 1, .ref 17, .ref 24, .ref 31, .ref 32, .int 0, .int 0]), .inl (20, 6), .inl (0, 160), .inl (0, 160), .inl (0, 160), .inl (0, 160), .inl (0, 160), .inl (0, 160), .inl (27, 6), .inl (0, 4), .inl (0, 4), .inl (0, 4), .inl (0, 4), .inl (0, 4), .inl (0, 4), .inl (0, 6), .inl (0, 160), .inr (7, [.ref 1, .ref 16]), .inr (0, [.ref 1, .ref 5, .ref 33, .ref 35, .ref 36, .ref 37, .int 0, .ref 38, .int 0, .ref 39, .ref 40, .ref 41, .int 0, .int 0, .int 0, .int 0]), .inl (0, 7), .inl (0, 9), .inl (0, 9), .inl (0, 6), .inl (0, 64), .inl (0, 64), .inl (0, 64), .inr (5, [.ref 43, .ref 44, .ref 45]), .inl (0, 4), .inl (0, 4), .inl (48, 4), .inl (0, 40), .inl (0, 40), .inl (0, 40), .inl (0, 40)]
def mk8_7 (M : Mem) : Mem := (fun c => if c < 42 then (upA (mk8_6 M) 42 (fun _ => 0)) c else if c < 50 then (mN5 (fun c => (upA (mk8_6 M) 42 (fun _ => 0)) (42 + c))) (c - 42) else (upA (mk8_6 M) 42 (fun _ => 0)) c)
def sc8_97 : List Shp := [.inr (8, [.ref 1, .ref 5, .ref 9, .ref 16, .ref 33, .ref 34, .ref 42, .null]), .inr (2, [.ref 2, .ref 3, .ref 4, .int 0, .int 0, .int 0]), .inl (0, 8), .inl (0, 8), .inl (0, 8), .inr (6, [.ref 6, .ref 7, .ref 8, .int 0]), .inl (0, 6), .inl (0, 6), .inl (0, 6), .inr (3, [.ref 10, .int 0, .ref 11, .ref 12, .ref 13, .int 0, .int 0, .int 0, .int 0, .ref 14, .int 0, .ref 15]), .inl (0, 160), .inl (0, 161), .inl (0, 161), .inl (0, 161), .inl (0, 160), .inl (0, 4), .inr (4, [.ref 1, .ref 17, .ref 24, .ref 31, .ref 32, .int 0, .int 0]), .inl (20, 6), .inl (0, 160), .inl (0, 160), .inl (0, 160), .inl (0, 160), .inl (0, 160), .inl (0, 160), .inl (27, 6), .inl (0, 4), .inl (0, 4), .inl (0, 4), .inl (0, 4), .inl (0, 4), .inl (0, 4), .inl (0, 6), .inl (0, 160), .inr (7, [.ref 1, .ref 16]), .inr (0, [.ref 1, .ref 5, .ref 33, .ref 35, .ref 36, .ref 37, .int 0, .ref 38, .int 0, .ref 39, .ref 40, .ref 41, .int 0, .int 0, .int 0, .int 0]), .inl (0, 7), .inl (0, 9), .inl (0, 9), .inl (0, 6), .inl (0, 64), .inl (0, 64), .inl (0, 64), .inr (5, [.ref 43, .ref 44, .ref 45]), .inl (0, 4), .inl (0, 4), .inl (48, 4), .inl (0, 40), .inl (0, 40), .inl (0, 40), .inl (0, 40)]
def sc8_98 : List Shp := [.inr (8, [.ref 1, .ref 5, .ref 9, .ref 16, .ref 33, .ref 34, .ref 42, .null]), .inr (2, [.ref 2, .ref 3, .ref 4, .int 0, .int 0, .int 0]), .inl (0, 8), .inl (0, 8), .inl (0, 8), .inr (6, [.ref 6, .ref 7, .ref 8, .int 0]), .inl (0, 6), .inl (0, 6), .inl (0, 6), .inr (3, [.ref 10, .int 0, .ref 11, .ref 12, .ref 13, .int 0, .int 0, .int 0, .int 0, .ref 14, .int 0, .ref 15]), .inl (0, 160), .inl (0, 161), .inl (0, 161), .inl (0, 161), .inl (0, 160), .inl (0, 4), .inr (4, [.ref 1, .ref 17, .ref 24, .ref 31, .ref 32, .int 0, .int 0]), .inl (20, 6), .inl (0, 160), .inl (0, 160), .inl (0, 160), .inl (0, 160), .inl (0, 160), .inl (0, 160), .inl (27, 6), .inl (0, 4), .inl (0, 4), .inl (0, 4), .inl (0, 4), .inl (0, 4), .inl (0, 4), .inl (0, 6), .inl (0, 160), .inr (7, [.ref 1, .ref 16]), .inr (0, [.ref 1, .ref 5, .ref 33, .ref 35, .ref 36, .ref 37, .int 0, .ref 38, .int 0, .ref 39, .ref 40, .ref 41, .int 0, .int 0, .int 0, .int 0]), .inl (0, 7), .inl (0, 9), .inl (0, 9), .inl (0, 6), .inl (0, 64), .inl (0, 64), .inl (0, 64), .inr (5, [.ref 43, .ref 44, .ref 45]), .inl (0, 4), .inl (0, 4), .inl (48, 4), .inl (0, 40), .inl (0, 40), .inl (0, 40), .inl (0, 40), .inr (1, [.int 0, .int 0, .int 0, .int 0, .int 0, .int 0, .null, .null, .null, .null, .null])]
def sc8_99 : List Shp := [.inr (8, [.ref 1, .ref 5, .ref 9, .ref 16, .ref 33, .ref 34, .ref 42, .null]), .inr (2, [.ref 2, .ref 3, .ref 4, .int 0, .int 0, .int 0]), .inl (0, 8), .inl (0, 8), .inl (0, 8), .inr (6, [.ref 6, .ref 7, .ref 8, .int 0]), .inl (0, 6), .inl (0, 6), .inl (0, 6), .inr (3, [.ref 10, .int 0, .ref 11, .ref 12, .ref 13, .int 0, .int 0, .int 0, .int 0, .ref 14, .int 0, .ref 15]), .inl (0, 160), .inl (0, 161), .inl (0, 161), .inl (0, 161), .inl (0, 160), .inl (0, 4), .inr (4, [.ref 1, .ref 17, .ref 24, .ref 31, .ref 32, .int 0, .int 0]), .inl (20, 6), .inl (0, 160), .inl (0, 160), .inl (0, 160), .inl (0, 160), .inl (0, 160), .inl (0, 160), .inl (27, 6), .inl (0, 4), .inl (0, 4), .inl (0, 4), .inl (0, 4), .inl (0, 4), .inl (0, 4), .inl (0, 6), .inl (0, 160), .inr (7, [.ref 1, .ref 16]), .inr (0, [.ref 1, .ref 5, .ref 33, .ref 35, .ref 36, .ref 37, .int 0, .ref 38, .int 0, .ref 39, .ref 40, .ref 41, .int 0, .int 0, .int 0, .int 0]), .inl (0, 7), .inl (0, 9), .inl (0, 9), .inl (0, 6), .inl (0, 64), .inl (0, 64), .inl (0, 64), .inr (5, [.ref 43, .ref 44, .ref 45]), .inl (0, 4), .inl (0, 4), .inl (48, 4), .inl (0, 40), .inl (0, 40), .inl (0, 40), .inl (0, 40), .inr (1, [.int 0, .int 0, .int 0, .int 0, .int 0, .int 0, .ref 51, .ref 52, .ref 53, .ref 54, .ref 55]), .inl (0, 8), .inl (0, 8), .inl (0, 6), .inl (0, 6), .inl (0, 6)]
def mk8_8 (M : Mem) : Mem := (fun c => if c < 50 then (upA (mk8_7 M) 50 (fun _ => 0)) c else if c < 56 then (mN1 (fun c => (upA (mk8_7 M) 50 (fun _ => 0)) (50 + c))) (c - 50) else (upA (mk8_7 M) 50 (fun _ => 0)) c)
def sc8_100 : List Shp := [.inr (8, [.ref 1, .ref 5, .ref 9, .ref 16, .ref 33, .ref 34, .ref 42, .ref 50]), .inr (2, [.ref 2, .ref 3, .ref 4, .int 0, .int 0, .int 0]), .inl (0, 8), .inl (0, 8), .inl (0, 8), .inr (6, [.ref 6, .ref 7, .ref 8, .int 0]), .inl (0, 6), .inl (0, 6), .inl (0, 6), .inr (3, [.ref 10, .int 0, .ref 11, .ref 12, .ref 13, .int 0, .int 0, .int 0, .int 0, .ref 14, .int 0, .ref 15]), .inl (0, 160), .inl (0, 161), .inl (0, 161), .inl (0, 161), .inl (0, 160), .inl (0, 4), .inr (4, [.ref 1, .ref 17, .ref 24, .ref 31, .ref 32, .int 0, .int 0]), .inl (20, 6), .inl (0, 160), .inl (0, 160), .inl (0, 160), .inl (0, 160), .inl (0, 160), .inl (0, 160), .inl (27, 6), .inl (0, 4), .inl (0, 4), .inl (0, 4), .inl (0, 4), .inl (0, 4), .inl (0, 4), .inl (0, 6), .inl (0, 160), .inr (7, [.ref 1, .ref 16]), .inr (0, [.ref 1, .ref 5, .ref 33, .ref 35, .ref 36, .ref 37, .int 0, .ref 38, .int 0, .ref 39, .ref 40, .ref 41, .int 0, .int 0, .int 0, .int 0]), .inl (0, 7), .inl (0, 9), .inl (0, 9), .inl (0, 6), .inl (0, 64), .inl (0, 64), .inl (0, 64), .inr (5, [.ref 43, .ref 44, .ref 45]), .inl (0, 4), .inl (0, 4), .inl (48, 4), .inl (0, 40), .inl (0, 40), .inl (0, 40), .inl (0, 40), .inr (1, [.int 0, .int 0, .int 0, .int 0, .int 0, .int 0, .ref 51, .ref 52, .ref 53, .ref 54, .ref 55]), .inl (0, 8), .inl (0, 8), .inl (0, 6), .inl (0, 6), .inl (0, 6)]
def sc9_101 : List Shp := [.inr (9, [.int 0, .null, .null, .int 0, .int 0, .null, .int 0, .null, .null, .null, .int 0, .int 0, .int 0, .null, .null, .null, .int 0, .int 0, .int 0, .int 0, .int 0, .int 0, .int 0, .int 0, .int 0, .int 0, .int 0, .int 0, .long 0, .int 0, .int 0, .int 0, .null, .null, .null, .int 0, .int 0, .null, .int 0, .null, .int 0, .int 0, .int 0, .int 0, .int 0, .null, .null, .int 0, .int 0, .int 0, .int 0, .int 0, .null, .null, .null, .null])]
def sc9_102 : List Shp := [.inr (9, [.int 0, .null, .null, .int 0, .int 0, .null, .int 0, .null, .null, .null, .int 0, .int 0, .int 0, .null, .null, .null, .int 0, .int 0, .int 0, .int 0, .int 0, .int 0, .int 0, .int 0, .int 0, .int 0, .int 0, .int 0, .long 0, .int 0, .int 0, .int 0, .null, .null, .null, .int 0, .int 0, .null, .int 0, .null, .int 0, .int 0, .int 0, .int 0, .int 0, .null, .null, .int 0, .int 0, .int 0, .int 0, .int 0, .null, .null, .null, .null]), .inl (0, 960)]
def sc9_103 : List Shp := [.inr (9, [.int 0, .ref 1, .null, .int 0, .int 0, .null, .int 0, .null, .null, .null, .int 0, .int 0, .int 0, .null, .null, .null, .int 0, .int 0, .int 0, .int 0, .int 0, .int 0, .int 0, .int 0, .int 0, .int 0, .int 0, .int 0, .long 0, .int 0, .int 0, .int 0, .null, .null, .null, .int 0, .int 0, .null, .int 0, .null, .int 0, .int 0, .int 0, .int 0, .int 0, .null, .null, .int 0, .int 0, .int 0, .int 0, .int 0, .null, .null, .null, .null]), .inl (0, 960)]
def sc9_104 : List Shp := [.inr (9, [.int 0, .ref 1, .null, .int 0, .int 0, .null, .int 0, .null, .null, .null, .int 0, .int 0, .int 0, .null, .null, .null, .int 0, .int 0, .int 0, .int 0, .int 0, .int 0, .int 0, .int 0, .int 0, .int 0, .int 0, .int 0, .long 0, .int 0, .int 0, .int 0, .null, .null, .null, .int 0, .int 0, .null, .int 0, .null, .int 0, .int 0, .int 0, .int 0, .int 0, .null, .null, .int 0, .int 0, .int 0, .int 0, .int 0, .null, .null, .null, .null]), .inl (0, 960), .inl (0, 6)]
def sc9_105 : List Shp := [.inr (9, [.int 0, .ref 1, .ref 2, .int 0, .int 0, .null, .int 0, .null, .null, .null, .int 0, .int 0, .int 0, .null, .null, .null, .int 0, .int 0, .int 0, .int 0, .int 0, .int 0, .int 0, .int 0, .int 0, .int 0, .int 0, .int 0, .long 0, .int 0, .int 0, .int 0, .null, .null, .null, .int 0, .int 0, .null, .int 0, .null, .int 0, .int 0, .int 0, .int 0, .int 0, .null, .null, .int 0, .int 0, .int 0, .int 0, .int 0, .null, .null, .null, .null]), .inl (0, 960), .inl (0, 6)]
def sc9_106 : List Shp := [.inr (9, [.int 0, .ref 1, .ref 2, .int 0, .int 0, .null, .int 0, .null, .null, .null, .int 0, .int 0, .int 0, .null, .null, .null, .int 0, .int 0, .int 0, .int 0, .int 0, .int 0, .int 0, .int 0, .int 0, .int 0, .int 0, .int 0, .long 0, .int 0, .int 0, .int 0, .null, .null, .null, .int 0, .int 0, .null, .int 0, .null, .int 0, .int 0, .int 0, .int 0, .int 0, .null, .null, .int 0, .int 0, .int 0, .int 0, .int 0, .null, .null, .null, .null]), .inl (0, 960), .inl (0, 6), .inl (0, 160)]
def sc9_107 : List Shp := [.inr (9, [.int 0, .ref 1, .ref 2, .int 0, .int 0, .ref 3, .int 0, .null, .null, .null, .int 0, .int 0, .int 0, .null, .null, .null, .int 0, .int 0, .int 0, .int 0, .int 0, .int 0, .int 0, .int 0, .int 0, .int 0, .int 0, .int 0, .long 0, .int 0, .int 0, .int 0, .null, .null, .null, .int 0, .int 0, .null, .int 0, .null, .int 0, .int 0, .int 0, .int 0, .int 0, .null, .null, .int 0, .int 0, .int 0, .int 0, .int 0, .null, .null, .null, .null]), .inl (0, 960), .inl (0, 6), .inl (0, 160)]
def sc9_108 : List Shp := [.inr (9, [.int 0, .ref 1, .ref 2, .int 0, .int 0, .ref 3, .int 0, .null, .null, .null, .int 0, .int 0, .int 0, .null, .null, .null, .int 0, .int 0, .int 0, .int 0, .int 0, .int 0, .int 0, .int 0, .int 0, .int 0, .int 0, .int 0, .long 0, .int 0, .int 0, .int 0, .null, .null, .null, .int 0, .int 0, .null, .int 0, .null, .int 0, .int 0, .int 0, .int 0, .int 0, .null, .null, .int 0, .int 0, .int 0, .int 0, .int 0, .null, .null, .null, .null]), .inl (0, 960), .inl (0, 6), .inl (0, 160), .inl (0, 8)]
def sc9_109 : List Shp := [.inr (9, [.int 0, .ref 1, .ref 2, .int 0, .int 0, .ref 3, .int 0, .ref 4, .null, .null, .int 0, .int 0, .int 0, .null, .null, .null, .int 0, .int 0, .int 0, .int 0, .int 0, .int 0, .int 0, .int 0, .int 0, .int 0, .int 0, .int 0, .long 0, .int 0, .int 0, .int 0, .null, .null, .null, .int 0, .int 0, .null, .int 0, .null, .int 0, .int 0, .int 0, .int 0, .int 0, .null, .null, .int 0, .int 0, .int 0, .int 0, .int 0, .null, .null, .null, .null]), .inl (0, 960), .inl (0, 6), .inl (0, 160), .inl (0, 8)]
def sc9_110 : List Shp := [.inr (9, [.int 0, .ref 1, .ref 2, .int 0, .int 0, .ref 3, .int 0, .ref 4, .null, .null, .int 0, .int 0, .int 0, .null, .null, .null, .int 0, .int 0, .int 0, .int 0, .int 0, .int 0, .int 0, .int 0, .int 0, .int 0, .int 0, .int 0, .long 0, .int 0, .int 0, .int 0, .null, .null, .null, .int 0, .int 0, .null, .int 0, .null, .int 0, .int 0, .int 0, .int 0, .int 0, .null, .null, .int 0, .int 0, .int 0, .int 0, .int 0, .null, .null, .null, .null]), .inl (0, 960), .inl (0, 6), .inl (0, 160), .inl (0, 8), .inl (0, 8)]
def sc9_111 : List Shp := [.inr (9, [.int 0, .ref 1, .ref 2, .int 0, .int 0, .ref 3, .int 0, .ref 4, .ref 5, .null, .int 0, .int 0, .int 0, .null, .null, .null, .int 0, .int 0, .int 0, .int 0, .int 0, .int 0, .int 0, .int 0, .int 0, .int 0, .int 0, .int 0, .long 0, .int 0, .int 0, .int 0, .null, .null, .null, .int 0, .int 0, .null, .int 0, .null, .int 0, .int 0, .int 0, .int 0, .int 0, .null, .null, .int 0, .int 0, .int 0, .int 0, .int 0, .null, .null, .null, .null]), .inl (0, 960), .inl (0, 6), .inl (0, 160), .inl (0, 8), .inl (0, 8)]
def sc9_112 : List Shp := [.inr (9, [.int 0, .ref 1, .ref 2, .int 0, .int 0, .ref 3, .int 0, .ref 4, .ref 5, .null, .int 0, .int 0, .int 0, .null, .null, .null, .int 0, .int 0, .int 0, .int 0, .int 0, .int 0, .int 0, .int 0, .int 0, .int 0, .int 0, .int 0, .long 0, .int 0, .int 0, .int 0, .null, .null, .null, .int 0, .int 0, .null, .int 0, .null, .int 0, .int 0, .int 0, .int 0, .int 0, .null, .null, .int 0, .int 0, .int 0, .int 0, .int 0, .null, .null, .null, .null]), .inl (0, 960), .inl (0, 6), .inl (0, 160), .inl (0, 8), .inl (0, 8), .inl (0, 8)]
def sc9_113 : List Shp := [.inr (9, [.int 0, .ref 1, .ref 2, .int 0, .int 0, .ref 3, .int 0, .ref 4, .ref 5, .ref 6, .int 0, .int 0, .int 0, .null, .null, .null, .int 0, .int 0, .int 0, .int 0, .int 0, .int 0, .int 0, .int 0, .int 0, .int 0, .int 0, .int 0, .long 0, .int 0, .int 0, .int 0, .null, .null, .null, .int 0, .int 0, .null, .int 0, .null, .int 0, .int 0, .int 0, .int 0, .int 0, .null, .null, .int 0, .int 0, .int 0, .int 0, .int 0, .null, .null, .null, .null]), .inl (0, 960), .inl (0, 6), .inl (0, 160), .inl (0, 8), .inl (0, 8), .inl (0, 8)]
def sc9_114 : List Shp := [.inr (9, [.int 0, .ref 1, .ref 2, .int 0, .int 0, .ref 3, .int 0, .ref 4, .ref 5, .ref 6, .int 0, .int 0, .int 0, .null, .null, .null, .int 0, .int 0, .int 0, .int 0, .int 0, .int 0, .int 0, .int 0, .int 0, .int 0, .int 0, .int 0, .long 0, .int 0, .int 0, .int 0, .null, .null, .null, .int 0, .int 0, .null, .int 0, .null, .int 0, .int 0, .int 0, .int 0, .int 0, .null, .null, .int 0, .int 0, .int 0, .int 0, .int 0, .null, .null, .null, .null]), .inl (0, 960), .inl (0, 6), .inl (0, 160), .inl (0, 8), .inl (0, 8), .inl (0, 8), .inl (0, 6)]
def sc9_115 : List Shp := [.inr (9, [.int 0, .ref 1, .ref 2, .int 0, .int 0, .ref 3, .int 0, .ref 4, .ref 5, .ref 6, .int 0, .int 0, .int 0, .ref 7, .null, .null, .int 0, .int 0, .int 0, .int 0, .int 0, .int 0, .int 0, .int 0, .int 0, .int 0, .int 0, .int 0, .long 0, .int 0, .int 0, .int 0, .null, .null, .null, .int 0, .int 0, .null, .int 0, .null, .int 0, .int 0, .int 0, .int 0, .int 0, .null, .null, .int 0, .int 0, .int 0, .int 0, .int 0, .null, .null, .null, .null]), .inl (0, 960), .inl (0, 6), .inl (0, 160), .inl (0, 8), .inl (0, 8), .inl (0, 8), .inl (0, 6)]
def sc9_116 : List Shp := [.inr (9, [.int 0, .ref 1, .ref 2, .int 0, .int 0, .ref 3, .int 0, .ref 4, .ref 5, .ref 6, .int 0, .int 0, .int 0, .ref 7, .null, .null, .int 0, .int 0, .int 0, .int 0, .int 0, .int 0, .int 0, .int 0, .int 0, .int 0, .int 0, .int 0, .long 0, .int 0, .int 0, .int 0, .null, .null, .null, .int 0, .int 0, .null, .int 0, .null, .int 0, .int 0, .int 0, .int 0, .int 0, .null, .null, .int 0, .int 0, .int 0, .int 0, .int 0, .null, .null, .null, .null]), .inl (0, 960), .inl (0, 6), .inl (0, 160), .inl (0, 8), .inl (0, 8), .inl (0, 8), .inl (0, 6), .inl (0, 6)]
def sc9_117 : List Shp := [.inr (9, [.int 0, .ref 1, .ref 2, .int 0, .int 0, .ref 3, .int 0, .ref 4, .ref 5, .ref 6, .int 0, .int 0, .int 0, .ref 7, .ref 8, .null, .int 0, .int 0, .int 0, .int 0, .int 0, .int 0, .int 0, .int 0, .int 0, .int 0, .int 0, .int 0, .long 0, .int 0, .int 0, .int 0, .null, .null, .null, .int 0, .int 0, .null, .int 0, .null, .int 0, .int 0, .int 0, .int 0, .int 0, .null, .null, .int 0, .int 0, .int 0, .int 0, .int 0, .null, .null, .null, .null]), .inl (0, 960), .inl (0, 6), .inl (0, 160), .inl (0, 8), .inl (0, 8), .inl (0, 8), .inl (0, 6), .inl (0, 6)]
def sc9_118 : List Shp := [.inr (9, [.int 0, .ref 1, .ref 2, .int 0, .int 0, .ref 3, .int 0, .ref 4, .ref 5, .ref 6, .int 0, .int 0, .int 0, .ref 7, .ref 8, .null, .int 0, .int 0, .int 0, .int 0, .int 0, .int 0, .int 0, .int 0, .int 0, .int 0, .int 0, .int 0, .long 0, .int 0, .int 0, .int 0, .null, .null, .null, .int 0, .int 0, .null, .int 0, .null, .int 0, .int 0, .int 0, .int 0, .int 0, .null, .null, .int 0, .int 0, .int 0, .int 0, .int 0, .null, .null, .null, .null]), .inl (0, 960), .inl (0, 6), .inl (0, 160), .inl (0, 8), .inl (0, 8), .inl (0, 8), .inl (0, 6), .inl (0, 6), .inl (0, 6)]
def sc9_119 : List Shp := [.inr (9, [.int 0, .ref 1, .ref 2, .int 0, .int 0, .ref 3, .int 0, .ref 4, .ref 5, .ref 6, .int 0, .int 0, .int 0, .ref 7, .ref 8, .ref 9, .int 0, .int 0, .int 0, .int 0, .int 0, .int 0, .int 0, .int 0, .int 0, .int 0, .int 0, .int 0, .long 0, .int 0, .int 0, .int 0, .null, .null, .null, .int 0, .int 0, .null, .int 0, .null, .int 0, .int 0, .int 0, .int 0, .int 0, .null, .null, .int 0, .int 0, .int 0, .int 0, .int 0, .null, .null, .null, .null]), .inl (0, 960), .inl (0, 6), .inl (0, 160), .inl (0, 8), .inl (0, 8), .inl (0, 8), .inl (0, 6), .inl (0, 6), .inl (0, 6)]
def sc9_120 : List Shp := [.inr (9, [.int 0, .ref 1, .ref 2, .int 0, .int 0, .ref 3, .int 0, .ref 4, .ref 5, .ref 6, .int 0, .int 0, .int 0, .ref 7, .ref 8, .ref 9, .int 0, .int 0, .int 0, .int 0, .int 0, .int 0, .int 0, .int 0, .int 0, .int 0, .int 0, .int 0, .long 0, .int 0, .int 0, .int 0, .null, .null, .null, .int 0, .int 0, .null, .int 0, .null, .int 0, .int 0, .int 0, .int 0, .int 0, .null, .null, .int 0, .int 0, .int 0, .int 0, .int 0, .null, .null, .null, .null]), .inl (0, 960), .inl (0, 6), .inl (0, 160), .inl (0, 8), .inl (0, 8), .inl (0, 8), .inl (0, 6), .inl (0, 6), .inl (0, 6), .inl (0, 8)]
def sc9_121 : List Shp := [.inr (9, [.int 0, .ref 1, .ref 2, .int 0, .int 0, .ref 3, .int 0, .ref 4, .ref 5, .ref 6, .int 0, .int 0, .int 0, .ref 7, .ref 8, .ref 9, .int 0, .int 0, .int 0, .int 0, .int 0, .int 0, .int 0, .int 0, .int 0, .int 0, .int 0, .int 0, .long 0, .int 0, .int 0, .int 0, .ref 10, .null, .null, .int 0, .int 0, .null, .int 0, .null, .int 0, .int 0, .int 0, .int 0, .int 0, .null, .null, .int 0, .int 0, .int 0, .int 0, .int 0, .null, .null, .null, .null]), .inl (0, 960), .inl (0, 6), .inl (0, 160), .inl (0, 8), .inl (0, 8), .inl (0, 8), .inl (0, 6), .inl (0, 6), .inl (0, 6), .inl (0, 8)]
def sc9_122 : List Shp := [.inr (9, [.int 0, .ref 1, .ref 2, .int 0, .int 0, .ref 3, .int 0, .ref 4, .ref 5, .ref 6, .int 0, .int 0, .int 0, .ref 7, .ref 8, .ref 9, .int 0, .int 0, .int 0, .int 0, .int 0, .int 0, .int 0, .int 0, .int 0, .int 0, .int 0, .int 0, .long 0, .int 0, .int 0, .int 0, .ref 10, .null, .null, .int 0, .int 0, .null, .int 0, .null, .int 0, .int 0, .int 0, .int 0, .int 0, .null, .null, .int 0, .int 0, .int 0, .int 0, .int 0, .null, .null, .null, .null]), .inl (0, 960), .inl (0, 6), .inl (0, 160), .inl (0, 8), .inl (0, 8), .inl (0, 8), .inl (0, 6), .inl (0, 6), .inl (0, 6), .inl (0, 8), .inl (0, 8)]
def sc9_123 : List Shp := [.inr (9, [.int 0, .ref 1, .ref 2, .int 0, .int 0, .ref 3, .int 0, .ref 4, .ref 5, .ref 6, .int 0, .int 0, .int 0, .ref 7, .ref 8, .ref 9, .int 0, .int 0, .int 0, .int 0, .int 0, .int 0, .int 0, .int 0, .int 0, .int 0, .int 0, .int 0, .long 0, .int 0, .int 0, .int 0, .ref 10, .ref 11, .null, .int 0, .int 0, .null, .int 0, .null, .int 0, .int 0, .int 0, .int 0, .int 0, .null, .null, .int 0, .int 0, .int 0, .int 0, .int 0, .null, .null, .null, .null]), .inl (0, 960), .inl (0, 6), .inl (0, 160), .inl (0, 8), .inl (0, 8), .inl (0, 8), .inl (0, 6), .inl (0, 6), .inl (0, 6), .inl (0, 8), .inl (0, 8)]
def sc9_124 : List Shp := [.inr (9, [.int 0, .ref 1, .ref 2, .int 0, .int 0, .ref 3, .int 0, .ref 4, .ref 5, .ref 6, .int 0, .int 0, .int 0, .ref 7, .ref 8, .ref 9, .int 0, .int 0, .int 0, .int 0, .int 0, .int 0, .int 0, .int 0, .int 0, .int 0, .int 0, .int 0, .long 0, .int 0, .int 0, .int 0, .ref 10, .ref 11, .null, .int 0, .int 0, .null, .int 0, .null, .int 0, .int 0, .int 0, .int 0, .int 0, .null, .null, .int 0, .int 0, .int 0, .int 0, .int 0, .null, .null, .null, .null]), .inl (0, 960), .inl (0, 6), .inl (0, 160), .inl (0, 8), .inl (0, 8), .inl (0, 8), .inl (0, 6), .inl (0, 6), .inl (0, 6), .inl (0, 8), .inl (0, 8), .inl (0, 7)]
def sc9_125 : List Shp := [.inr (9, [.int 0, .ref 1, .ref 2, .int 0, .int 0, .ref 3, .int 0, .ref 4, .ref 5, .ref 6, .int 0, .int 0, .int 0, .ref 7, .ref 8, .ref 9, .int 0, .int 0, .int 0, .int 0, .int 0, .int 0, .int 0, .int 0, .int 0, .int 0, .int 0, .int 0, .long 0, .int 0, .int 0, .int 0, .ref 10, .ref 11, .ref 12, .int 0, .int 0, .null, .int 0, .null, .int 0, .int 0, .int 0, .int 0, .int 0, .null, .null, .int 0, .int 0, .int 0, .int 0, .int 0, .null, .null, .null, .null]), .inl (0, 960), .inl (0, 6), .inl (0, 160), .inl (0, 8), .inl (0, 8), .inl (0, 8), .inl (0, 6), .inl (0, 6), .inl (0, 6), .inl (0, 8), .inl (0, 8), .inl (0, 7)]
def sc9_126 : List Shp := [.inr (9, [.int 0, .ref 1, .ref 2, .int 0, .int 0, .ref 3, .int 0, .ref 4, .ref 5, .ref 6, .int 0, .int 0, .int 0, .ref 7, .ref 8, .ref 9, .int 0, .int 0, .int 0, .int 0, .int 0, .int 0, .int 0, .int 0, .int 0, .int 0, .int 0, .int 0, .long 0, .int 0, .int 0, .int 0, .ref 10, .ref 11, .ref 12, .int 0, .int 0, .null, .int 0, .null, .int 0, .int 0, .int 0, .int 0, .int 0, .null, .null, .int 0, .int 0, .int 0, .int 0, .int 0, .null, .null, .null, .null]), .inl (0, 960), .inl (0, 6), .inl (0, 160), .inl (0, 8), .inl (0, 8), .inl (0, 8), .inl (0, 6), .inl (0, 6), .inl (0, 6), .inl (0, 8), .inl (0, 8), .inl (0, 7), .inl (0, 6)]
def sc9_127 : List Shp := [.inr (9, [.int 0, .ref 1, .ref 2, .int 0, .int 0, .ref 3, .int 0, .ref 4, .ref 5, .ref 6, .int 0, .int 0, .int 0, .ref 7, .ref 8, .ref 9, .int 0, .int 0, .int 0, .int 0, .int 0, .int 0, .int 0, .int 0, .int 0, .int 0, .int 0, .int 0, .long 0, .int 0, .int 0, .int 0, .ref 10, .ref 11, .ref 12, .int 0, .int 0, .ref 13, .int 0, .null, .int 0, .int 0, .int 0, .int 0, .int 0, .null, .null, .int 0, .int 0, .int 0, .int 0, .int 0, .null, .null, .null, .null]), .inl (0, 960), .inl (0, 6), .inl (0, 160), .inl (0, 8), .inl (0, 8), .inl (0, 8), .inl (0, 6), .inl (0, 6), .inl (0, 6), .inl (0, 8), .inl (0, 8), .inl (0, 7), .inl (0, 6)]
def sc9_128 : List Shp := [.inr (9, [.int 0, .ref 1, .ref 2, .int 0, .int 0, .ref 3, .int 0, .ref 4, .ref 5, .ref 6, .int 0, .int 0, .int 0, .ref 7, .ref 8, .ref 9, .int 0, .int 0, .int 0, .int 0, .int 0, .int 0, .int 0, .int 0, .int 0, .int 0, .int 0, .int 0, .long 0, .int 0, .int 0, .int 0, .ref 10, .ref 11, .ref 12, .int 0, .int 0, .ref 13, .int 0, .null, .int 0, .int 0, .int 0, .int 0, .int 0, .null, .null, .int 0, .int 0, .int 0, .int 0, .int 0, .null, .null, .null, .null]), .inl (0, 960), .inl (0, 6), .inl (0, 160), .inl (0, 8), .inl (0, 8), .inl (0, 8), .inl (0, 6), .inl (0, 6), .inl (0, 6), .inl (0, 8), .inl (0, 8), .inl (0, 7), .inl (0, 6), .inl (0, 6)]
def sc9_129 : List Shp := [.inr (9, [.int 0, .ref 1, .ref 2, .int 0, .int 0, .ref 3, .int 0, .ref 4, .ref 5, .ref 6, .int 0, .int 0, .int 0, .ref 7, .ref 8, .ref 9, .int 0, .int 0, .int 0, .int 0, .int 0, .int 0, .int 0, .int 0, .int 0, .int 0, .int 0, .int 0, .long 0, .int 0, .int 0, .int 0, .ref 10, .ref 11, .ref 12, .int 0, .int 0, .ref 13, .int 0, .ref 14, .int 0, .int 0, .int 0, .int 0, .int 0, .null, .null, .int 0, .int 0, .int 0, .int 0, .int 0, .null, .null, .null, .null]), .inl (0, 960), .inl (0, 6), .inl (0, 160), .inl (0, 8), .inl (0, 8), .inl (0, 8), .inl (0, 6), .inl (0, 6), .inl (0, 6), .inl (0, 8), .inl (0, 8), .inl (0, 7), .inl (0, 6), .inl (0, 6)]
def sc9_130 : List Shp := [.inr (9, [.int 0, .ref 1, .ref 2, .int 0, .int 0, .ref 3, .int 0, .ref 4, .ref 5, .ref 6, .int 0, .int 0, .int 0, .ref 7, .ref 8, .ref 9, .int 0, .int 0, .int 0, .int 0, .int 0, .int 0, .int 0, .int 0, .int 0, .int 0, .int 0, .int 0, .long 0, .int 0, .int 0, .int 0, .ref 10, .ref 11, .ref 12, .int 0, .int 0, .ref 13, .int 0, .ref 14, .int 0, .int 0, .int 0, .int 0, .int 0, .null, .null, .int 0, .int 0, .int 0, .int 0, .int 0, .null, .null, .null, .null]), .inl (0, 960), .inl (0, 6), .inl (0, 160), .inl (0, 8), .inl (0, 8), .inl (0, 8), .inl (0, 6), .inl (0, 6), .inl (0, 6), .inl (0, 8), .inl (0, 8), .inl (0, 7), .inl (0, 6), .inl (0, 6), .inl (0, 16)]
def sc9_131 : List Shp := [.inr (9, [.int 0, .ref 1, .ref 2, .int 0, .int 0, .ref 3, .int 0, .ref 4, .ref 5, .ref 6, .int 0, .int 0, .int 0, .ref 7, .ref 8, .ref 9, .int 0, .int 0, .int 0, .int 0, .int 0, .int 0, .int 0, .int 0, .int 0, .int 0, .int 0, .int 0, .long 0, .int 0, .int 0, .int 0, .ref 10, .ref 11, .ref 12, .int 0, .int 0, .ref 13, .int 0, .ref 14, .int 0, .int 0, .int 0, .int 0, .int 0, .ref 15, .null, .int 0, .int 0, .int 0, .int 0, .int 0, .null, .null, .null, .null]), .inl (0, 960), .inl (0, 6), .inl (0, 160), .inl (0, 8), .inl (0, 8), .inl (0, 8), .inl (0, 6), .inl (0, 6), .inl (0, 6), .inl (0, 8), .inl (0, 8), .inl (0, 7), .inl (0, 6), .inl (0, 6), .inl (0, 16)]
def sc9_132 : List Shp := [.inr (9, [.int 0, .ref 1, .ref 2, .int 0, .int 0, .ref 3, .int 0, .ref 4, .ref 5, .ref 6, .int 0, .int 0, .int 0, .ref 7, .ref 8, .ref 9, .int 0, .int 0, .int 0, .int 0, .int 0, .int 0, .int 0, .int 0, .int 0, .int 0, .int 0, .int 0, .long 0, .int 0, .int 0, .int 0, .ref 10, .ref 11, .ref 12, .int 0, .int 0, .ref 13, .int 0, .ref 14, .int 0, .int 0, .int 0, .int 0, .int 0, .ref 15, .null, .int 0, .int 0, .int 0, .int 0, .int 0, .null, .null, .null, .null]), .inl (0, 960), .inl (0, 6), .inl (0, 160), .inl (0, 8), .inl (0, 8), .inl (0, 8), .inl (0, 6), .inl (0, 6), .inl (0, 6), .inl (0, 8), .inl (0, 8), .inl (0, 7), .inl (0, 6), .inl (0, 6), .inl (0, 16), .inl (0, 18)]
def sc9_133 : List Shp := [.inr (9, [.int 0, .ref 1, .ref 2, .int 0, .int 0, .ref 3, .int 0, .ref 4, .ref 5, .ref 6, .int 0, .int 0, .int 0, .ref 7, .ref 8, .ref 9, .int 0, .int 0, .int 0, .int 0, .int 0, .int 0, .int 0, .int 0, .int 0, .int 0, .int 0, .int 0, .long 0, .int 0, .int 0, .int 0, .ref 10, .ref 11, .ref 12, .int 0, .int 0, .ref 13, .int 0, .ref 14, .int 0, .int 0, .int 0, .int 0, .int 0, .ref 15, .ref 16, .int 0, .int 0, .int 0, .int 0, .int 0, .null, .null, .null, .null]), .inl (0, 960), .inl (0, 6), .inl (0, 160), .inl (0, 8), .inl (0, 8), .inl (0, 8), .inl (0, 6), .inl (0, 6), .inl (0, 6), .inl (0, 8), .inl (0, 8), .inl (0, 7), .inl (0, 6), .inl (0, 6), .inl (0, 16), .inl (0, 18)]
def sc9_134 : List Shp := [.inr (9, [.int 0, .ref 1, .ref 2, .int 0, .int 0, .ref 3, .int 0, .ref 4, .ref 5, .ref 6, .int 0, .int 0, .int 0, .ref 7, .ref 8, .ref 9, .int 0, .int 0, .int 0, .int 0, .int 0, .int 0, .int 0, .int 0, .int 0, .int 0, .int 0, .int 0, .long 0, .int 0, .int 0, .int 0, .ref 10, .ref 11, .ref 12, .int 0, .int 0, .ref 13, .int 0, .ref 14, .int 0, .int 0, .int 0, .int 0, .int 0, .ref 15, .ref 16, .int 0, .int 0, .int 0, .int 0, .int 0, .null, .null, .null, .null]), .inl (0, 960), .inl (0, 6), .inl (0, 160), .inl (0, 8), .inl (0, 8), .inl (0, 8), .inl (0, 6), .inl (0, 6), .inl (0, 6), .inl (0, 8), .inl (0, 8), .inl (0, 7), .inl (0, 6), .inl (0, 6), .inl (0, 16), .inl (0, 18), .inl (1, 4)]
def sc9_135 : List Shp := [.inr (9, [.int 0, .ref 1, .ref 2, .int 0, .int 0, .ref 3, .int 0, .ref 4, .ref 5, .ref 6, .int 0, .int 0, .int 0, .ref 7, .ref 8, .ref 9, .int 0, .int 0, .int 0, .int 0, .int 0, .int 0, .int 0, .int 0, .int 0, .int 0, .int 0, .int 0, .long 0, .int 0, .int 0, .int 0, .ref 10, .ref 11, .ref 12, .int 0, .int 0, .ref 13, .int 0, .ref 14, .int 0, .int 0, .int 0, .int 0, .int 0, .ref 15, .ref 16, .int 0, .int 0, .int 0, .int 0, .int 0, .ref 17, .null, .null, .null]), .inl (0, 960), .inl (0, 6), .inl (0, 160), .inl (0, 8), .inl (0, 8), .inl (0, 8), .inl (0, 6), .inl (0, 6), .inl (0, 6), .inl (0, 8), .inl (0, 8), .inl (0, 7), .inl (0, 6), .inl (0, 6), .inl (0, 16), .inl (0, 18), .inl (1, 4)]
def sc9_136 : List Shp := [.inr (9, [.int 0, .ref 1, .ref 2, .int 0, .int 0, .ref 3, .int 0, .ref 4, .ref 5, .ref 6, .int 0, .int 0, .int 0, .ref 7, .ref 8, .ref 9, .int 0, .int 0, .int 0, .int 0, .int 0, .int 0, .int 0, .int 0, .int 0, .int 0, .int 0, .int 0, .long 0, .int 0, .int 0, .int 0, .ref 10, .ref 11, .ref 12, .int 0, .int 0, .ref 13, .int 0, .ref 14, .int 0, .int 0, .int 0, .int 0, .int 0, .ref 15, .ref 16, .int 0, .int 0, .int 0, .int 0, .int 0, .ref 17, .null, .null, .null]), .inl (0, 960), .inl (0, 6), .inl (0, 160), .inl (0, 8), .inl (0, 8), .inl (0, 8), .inl (0, 6), .inl (0, 6), .inl (0, 6), .inl (0, 8), .inl (0, 8), .inl (0, 7), .inl (0, 6), .inl (0, 6), .inl (0, 16), .inl (0, 18), .inl (1, 4), .inl (0, 4)]
def sc9_137 : List Shp := [.inr (9, [.int 0, .ref 1, .ref 2, .int 0, .int 0, .ref 3, .int 0, .ref 4, .ref 5, .ref 6, .int 0, .int 0, .int 0, .ref 7, .ref 8, .ref 9, .int 0, .int 0, .int 0, .int 0, .int 0, .int 0, .int 0, .int 0, .int 0, .int 0, .int 0, .int 0, .long 0, .int 0, .int 0, .int 0, .ref 10, .ref 11, .ref 12, .int 0, .int 0, .ref 13, .int 0, .ref 14, .int 0, .int 0, .int 0, .int 0, .int 0, .ref 15, .ref 16, .int 0, .int 0, .int 0, .int 0, .int 0, .ref 17, .ref 18, .null, .null]), .inl (0, 960), .inl (0, 6), .inl (0, 160), .inl (0, 8), .inl (0, 8), .inl (0, 8), .inl (0, 6), .inl (0, 6), .inl (0, 6), .inl (0, 8), .inl (0, 8), .inl (0, 7), .inl (0, 6), .inl (0, 6), .inl (0, 16), .inl (0, 18), .inl (1, 4), .inl (0, 4)]
def sc9_138 : List Shp := [.inr (9, [.int 0, .ref 1, .ref 2, .int 0, .int 0, .ref 3, .int 0, .ref 4, .ref 5, .ref 6, .int 0, .int 0, .int 0, .ref 7, .ref 8, .ref 9, .int 0, .int 0, .int 0, .int 0, .int 0, .int 0, .int 0, .int 0, .int 0, .int 0, .int 0, .int 0, .long 0, .int 0, .int 0, .int 0, .ref 10, .ref 11, .ref 12, .int 0, .int 0, .ref 13, .int 0, .ref 14, .int 0, .int 0, .int 0, .int 0, .int 0, .ref 15, .ref 16, .int 0, .int 0, .int 0, .int 0, .int 0, .ref 17, .ref 18, .null, .null]), .inl (0, 960), .inl (0, 6), .inl (0, 160), .inl (0, 8), .inl (0, 8), .inl (0, 8), .inl (0, 6), .inl (0, 6), .inl (0, 6), .inl (0, 8), .inl (0, 8), .inl (0, 7), .inl (0, 6), .inl (0, 6), .inl (0, 16), .inl (0, 18), .inl (1, 4), .inl (0, 4), .inl (0, 4)]
def sc9_139 : List Shp := [.inr (9, [.int 0, .ref 1, .ref 2, .int 0, .int 0, .ref 3, .int 0, .ref 4, .ref 5, .ref 6, .int 0, .int 0, .int 0, .ref 7, .ref 8, .ref 9, .int 0, .int 0, .int 0, .int 0, .int 0, .int 0, .int 0, .int 0, .int 0, .int 0, .int 0, .int 0, .long 0, .int 0, .int 0, .int 0, .ref 10, .ref 11, .ref 12, .int 0, .int 0, .ref 13, .int 0, .ref 14, .int 0, .int 0, .int 0, .int 0, .int 0, .ref 15, .ref 16, .int 0, .int 0, .int 0, .int 0, .int 0, .ref 17, .ref 18, .ref 19, .null]), .inl (0, 960), .inl (0, 6), .inl (0, 160), .inl (0, 8), .inl (0, 8), .inl (0, 8), .inl (0, 6), .inl (0, 6), .inl (0, 6), .inl (0, 8), .inl (0, 8), .inl (0, 7), .inl (0, 6), .inl (0, 6), .inl (0, 16), .inl (0, 18), .inl (1, 4), .inl (0, 4), .inl (0, 4)]
def sc9_140 : List Shp := [.inr (9, [.int 0, .ref 1, .ref 2, .int 0, .int 0, .ref 3, .int 0, .ref 4, .ref 5, .ref 6, .int 0, .int 0, .int 0, .ref 7, .ref 8, .ref 9, .int 0, .int 0, .int 0, .int 0, .int 0, .int 0, .int 0, .int 0, .int 0, .int 0, .int 0, .int 0, .long 0, .int 0, .int 0, .int 0, .ref 10, .ref 11, .ref 12, .int 0, .int 0, .ref 13, .int 0, .ref 14, .int 0, .int 0, .int 0, .int 0, .int 0, .ref 15, .ref 16, .int 0, .int 0, .int 0, .int 0, .int 0, .ref 17, .ref 18, .ref 19, .null]), .inl (0, 960), .inl (0, 6), .inl (0, 160), .inl (0, 8), .inl (0, 8), .inl (0, 8), .inl (0, 6), .inl (0, 6), .inl (0, 6), .inl (0, 8), .inl (0, 8), .inl (0, 7), .inl (0, 6), .inl (0, 6), .inl (0, 16), .inl (0, 18), .inl (1, 4), .inl (0, 4), .inl (0, 4), .inl (0, 160)]
def sc9_141 : List Shp := [.inr (9, [.int 0, .ref 1, .ref 2, .int 0, .int 0, .ref 3, .int 0, .ref 4, .ref 5, .ref 6, .int 0, .int 0, .int 0, .ref 7, .ref 8, .ref 9, .int 0, .int 0, .int 0, .int 0, .int 0, .int 0, .int 0, .int 0, .int 0, .int 0, .int 0, .int 0, .long 0, .int 0, .int 0, .int 0, .ref 10, .ref 11, .ref 12, .int 0, .int 0, .ref 13, .int 0, .ref 14, .int 0, .int 0, .int 0, .int 0, .int 0, .ref 15, .ref 16, .int 0, .int 0, .int 0, .int 0, .int 0, .ref 17, .ref 18, .ref 19, .ref 20]), .inl (0, 960), .inl (0, 6), .inl (0, 160), .inl (0, 8), .inl (0, 8), .inl (0, 8), .inl (0, 6), .inl (0, 6), .inl (0, 6), .inl (0, 8), .inl (0, 8), .inl (0, 7), .inl (0, 6), .inl (0, 6), .inl (0, 16), .inl (0, 18), .inl (1, 4), .inl (0, 4), .inl (0, 4), .inl (0, 160)]
theorem dX2_init_0 : decode cX2_init 0 = .ok (.aload_n 0, 1) := by decide +kernel
theorem dX2_init_1 : decode cX2_init 1 = .ok (.invokespecial 3, 3) := by decide +kernel
theorem dX2_init_4 : decode cX2_init 4 = .ok (.aload_n 0, 1) := by decide +kernel
theorem dX2_init_5 : decode cX2_init 5 = .ok (.bipush 8, 2) := by decide +kernel
theorem dX2_init_7 : decode cX2_init 7 = .ok (.newarray .int, 2) := by decide +kernel
theorem dX2_init_9 : decode cX2_init 9 = .ok (.putfield 9, 3) := by decide +kernel
theorem dX2_init_12 : decode cX2_init 12 = .ok (.aload_n 0, 1) := by decide +kernel
theorem dX2_init_13 : decode cX2_init 13 = .ok (.bipush 8, 2) := by decide +kernel
theorem dX2_init_15 : decode cX2_init 15 = .ok (.newarray .int, 2) := by decide +kernel
theorem dX2_init_17 : decode cX2_init 17 = .ok (.putfield 15, 3) := by decide +kernel
theorem dX2_init_20 : decode cX2_init 20 = .ok (.aload_n 0, 1) := by decide +kernel
theorem dX2_init_21 : decode cX2_init 21 = .ok (.bipush 8, 2) := by decide +kernel
theorem dX2_init_23 : decode cX2_init 23 = .ok (.newarray .int, 2) := by decide +kernel
theorem dX2_init_25 : decode cX2_init 25 = .ok (.putfield 18, 3) := by decide +kernel
theorem dX2_init_28 : decode cX2_init 28 = .ok (.return_, 1) := by decide +kernel
theorem dX6_init_0 : decode cX6_init 0 = .ok (.aload_n 0, 1) := by decide +kernel
theorem dX6_init_1 : decode cX6_init 1 = .ok (.invokespecial 3, 3) := by decide +kernel
theorem dX6_init_4 : decode cX6_init 4 = .ok (.aload_n 0, 1) := by decide +kernel
theorem dX6_init_5 : decode cX6_init 5 = .ok (.bipush 6, 2) := by decide +kernel
theorem dX6_init_7 : decode cX6_init 7 = .ok (.newarray .int, 2) := by decide +kernel
theorem dX6_init_9 : decode cX6_init 9 = .ok (.putfield 9, 3) := by decide +kernel
theorem dX6_init_12 : decode cX6_init 12 = .ok (.aload_n 0, 1) := by decide +kernel
theorem dX6_init_13 : decode cX6_init 13 = .ok (.bipush 6, 2) := by decide +kernel
theorem dX6_init_15 : decode cX6_init 15 = .ok (.newarray .int, 2) := by decide +kernel
theorem dX6_init_17 : decode cX6_init 17 = .ok (.putfield 15, 3) := by decide +kernel
theorem dX6_init_20 : decode cX6_init 20 = .ok (.aload_n 0, 1) := by decide +kernel
theorem dX6_init_21 : decode cX6_init 21 = .ok (.bipush 6, 2) := by decide +kernel
theorem dX6_init_23 : decode cX6_init 23 = .ok (.newarray .int, 2) := by decide +kernel
theorem dX6_init_25 : decode cX6_init 25 = .ok (.putfield 18, 3) := by decide +kernel
theorem dX6_init_28 : decode cX6_init 28 = .ok (.return_, 1) := by decide +kernel
theorem dX3_init_0 : decode cX3_init 0 = .ok (.aload_n 0, 1) := by decide +kernel
theorem dX3_init_1 : decode cX3_init 1 = .ok (.invokespecial 5, 3) := by decide +kernel
theorem dX3_init_4 : decode cX3_init 4 = .ok (.aload_n 0, 1) := by decide +kernel
theorem dX3_init_5 : decode cX3_init 5 = .ok (.sipush 160, 3) := by decide +kernel
theorem dX3_init_8 : decode cX3_init 8 = .ok (.newarray .int, 2) := by decide +kernel
theorem dX3_init_10 : decode cX3_init 10 = .ok (.putfield 11, 3) := by decide +kernel
theorem dX3_init_13 : decode cX3_init 13 = .ok (.aload_n 0, 1) := by decide +kernel
theorem dX3_init_14 : decode cX3_init 14 = .ok (.sipush 161, 3) := by decide +kernel
theorem dX3_init_17 : decode cX3_init 17 = .ok (.newarray .int, 2) := by decide +kernel
theorem dX3_init_19 : decode cX3_init 19 = .ok (.putfield 15, 3) := by decide +kernel
theorem dX3_init_22 : decode cX3_init 22 = .ok (.aload_n 0, 1) := by decide +kernel
theorem dX3_init_23 : decode cX3_init 23 = .ok (.sipush 161, 3) := by decide +kernel
theorem dX3_init_26 : decode cX3_init 26 = .ok (.newarray .int, 2) := by decide +kernel
theorem dX3_init_28 : decode cX3_init 28 = .ok (.putfield 18, 3) := by decide +kernel
theorem dX3_init_31 : decode cX3_init 31 = .ok (.aload_n 0, 1) := by decide +kernel
theorem dX3_init_32 : decode cX3_init 32 = .ok (.sipush 161, 3) := by decide +kernel
theorem dX3_init_35 : decode cX3_init 35 = .ok (.newarray .int, 2) := by decide +kernel
theorem dX3_init_37 : decode cX3_init 37 = .ok (.putfield 21, 3) := by decide +kernel
theorem dX3_init_40 : decode cX3_init 40 = .ok (.aload_n 0, 1) := by decide +kernel
theorem dX3_init_41 : decode cX3_init 41 = .ok (.sipush 160, 3) := by decide +kernel
theorem dX3_init_44 : decode cX3_init 44 = .ok (.newarray .int, 2) := by decide +kernel
theorem dX3_init_46 : decode cX3_init 46 = .ok (.putfield 24, 3) := by decide +kernel
theorem dX3_init_49 : decode cX3_init 49 = .ok (.aload_n 0, 1) := by decide +kernel
theorem dX3_init_50 : decode cX3_init 50 = .ok (.iconst 4, 1) := by decide +kernel
theorem dX3_init_51 : decode cX3_init 51 = .ok (.newarray .int, 2) := by decide +kernel
theorem dX3_init_53 : decode cX3_init 53 = .ok (.putfield 27, 3) := by decide +kernel
theorem dX3_init_56 : decode cX3_init 56 = .ok (.return_, 1) := by decide +kernel
theorem dX4_init_0 : decode cX4_init 0 = .ok (.aload_n 0, 1) := by decide +kernel
theorem dX4_init_1 : decode cX4_init 1 = .ok (.invokespecial 3, 3) := by decide +kernel
theorem dX4_init_4 : decode cX4_init 4 = .ok (.aload_n 0, 1) := by decide +kernel
theorem dX4_init_5 : decode cX4_init 5 = .ok (.bipush 6, 2) := by decide +kernel
theorem dX4_init_7 : decode cX4_init 7 = .ok (.sipush 160, 3) := by decide +kernel
theorem dX4_init_10 : decode cX4_init 10 = .ok (.multianewarray 9 2, 4) := by decide +kernel
theorem dX4_init_14 : decode cX4_init 14 = .ok (.putfield 11, 3) := by decide +kernel
theorem dX4_init_17 : decode cX4_init 17 = .ok (.aload_n 0, 1) := by decide +kernel
theorem dX4_init_18 : decode cX4_init 18 = .ok (.bipush 6, 2) := by decide +kernel
theorem dX4_init_20 : decode cX4_init 20 = .ok (.iconst 4, 1) := by decide +kernel
theorem dX4_init_21 : decode cX4_init 21 = .ok (.multianewarray 9 2, 4) := by decide +kernel
theorem dX4_init_25 : decode cX4_init 25 = .ok (.putfield 16, 3) := by decide +kernel
theorem dX4_init_28 : decode cX4_init 28 = .ok (.aload_n 0, 1) := by decide +kernel
theorem dX4_init_29 : decode cX4_init 29 = .ok (.bipush 6, 2) := by decide +kernel
theorem dX4_init_31 : decode cX4_init 31 = .ok (.newarray .int, 2) := by decide +kernel
theorem dX4_init_33 : decode cX4_init 33 = .ok (.putfield 21, 3) := by decide +kernel
theorem dX4_init_36 : decode cX4_init 36 = .ok (.aload_n 0, 1) := by decide +kernel
theorem dX4_init_37 : decode cX4_init 37 = .ok (.sipush 160, 3) := by decide +kernel
theorem dX4_init_40 : decode cX4_init 40 = .ok (.newarray .int, 2) := by decide +kernel
theorem dX4_init_42 : decode cX4_init 42 = .ok (.putfield 25, 3) := by decide +kernel
theorem dX4_init_45 : decode cX4_init 45 = .ok (.aload_n 0, 1) := by decide +kernel
theorem dX4_init_46 : decode cX4_init 46 = .ok (.aload_n 1, 1) := by decide +kernel
theorem dX4_init_47 : decode cX4_init 47 = .ok (.putfield 28, 3) := by decide +kernel
theorem dX4_init_50 : decode cX4_init 50 = .ok (.return_, 1) := by decide +kernel
theorem dX7_init_0 : decode cX7_init 0 = .ok (.aload_n 0, 1) := by decide +kernel
theorem dX7_init_1 : decode cX7_init 1 = .ok (.invokespecial 3, 3) := by decide +kernel
theorem dX7_init_4 : decode cX7_init 4 = .ok (.aload_n 0, 1) := by decide +kernel
theorem dX7_init_5 : decode cX7_init 5 = .ok (.aload_n 1, 1) := by decide +kernel
theorem dX7_init_6 : decode cX7_init 6 = .ok (.putfield 9, 3) := by decide +kernel
theorem dX7_init_9 : decode cX7_init 9 = .ok (.aload_n 0, 1) := by decide +kernel
theorem dX7_init_10 : decode cX7_init 10 = .ok (.aload_n 2, 1) := by decide +kernel
theorem dX7_init_11 : decode cX7_init 11 = .ok (.putfield 15, 3) := by decide +kernel
theorem dX7_init_14 : decode cX7_init 14 = .ok (.return_, 1) := by decide +kernel
theorem dX0_init_0 : decode cX0_init 0 = .ok (.aload_n 0, 1) := by decide +kernel
theorem dX0_init_1 : decode cX0_init 1 = .ok (.invokespecial 3, 3) := by decide +kernel
theorem dX0_init_4 : decode cX0_init 4 = .ok (.aload_n 0, 1) := by decide +kernel
theorem dX0_init_5 : decode cX0_init 5 = .ok (.bipush 7, 2) := by decide +kernel
theorem dX0_init_7 : decode cX0_init 7 = .ok (.newarray .int, 2) := by decide +kernel
theorem dX0_init_9 : decode cX0_init 9 = .ok (.putfield 9, 3) := by decide +kernel
theorem dX0_init_12 : decode cX0_init 12 = .ok (.aload_n 0, 1) := by decide +kernel
theorem dX0_init_13 : decode cX0_init 13 = .ok (.bipush 9, 2) := by decide +kernel
theorem dX0_init_15 : decode cX0_init 15 = .ok (.newarray .int, 2) := by decide +kernel
theorem dX0_init_17 : decode cX0_init 17 = .ok (.putfield 15, 3) := by decide +kernel
theorem dX0_init_20 : decode cX0_init 20 = .ok (.aload_n 0, 1) := by decide +kernel
theorem dX0_init_21 : decode cX0_init 21 = .ok (.bipush 9, 2) := by decide +kernel
theorem dX0_init_23 : decode cX0_init 23 = .ok (.newarray .int, 2) := by decide +kernel
theorem dX0_init_25 : decode cX0_init 25 = .ok (.putfield 18, 3) := by decide +kernel
theorem dX0_init_28 : decode cX0_init 28 = .ok (.aload_n 0, 1) := by decide +kernel
theorem dX0_init_29 : decode cX0_init 29 = .ok (.bipush 6, 2) := by decide +kernel
theorem dX0_init_31 : decode cX0_init 31 = .ok (.newarray .int, 2) := by decide +kernel
theorem dX0_init_33 : decode cX0_init 33 = .ok (.putfield 21, 3) := by decide +kernel
theorem dX0_init_36 : decode cX0_init 36 = .ok (.aload_n 0, 1) := by decide +kernel
theorem dX0_init_37 : decode cX0_init 37 = .ok (.bipush 64, 2) := by decide +kernel
theorem dX0_init_39 : decode cX0_init 39 = .ok (.newarray .int, 2) := by decide +kernel
theorem dX0_init_41 : decode cX0_init 41 = .ok (.putfield 24, 3) := by decide +kernel
theorem dX0_init_44 : decode cX0_init 44 = .ok (.aload_n 0, 1) := by decide +kernel
theorem dX0_init_45 : decode cX0_init 45 = .ok (.bipush 64, 2) := by decide +kernel
theorem dX0_init_47 : decode cX0_init 47 = .ok (.newarray .int, 2) := by decide +kernel
theorem dX0_init_49 : decode cX0_init 49 = .ok (.putfield 27, 3) := by decide +kernel
theorem dX0_init_52 : decode cX0_init 52 = .ok (.aload_n 0, 1) := by decide +kernel
theorem dX0_init_53 : decode cX0_init 53 = .ok (.bipush 64, 2) := by decide +kernel
theorem dX0_init_55 : decode cX0_init 55 = .ok (.newarray .int, 2) := by decide +kernel
theorem dX0_init_57 : decode cX0_init 57 = .ok (.putfield 30, 3) := by decide +kernel
theorem dX0_init_60 : decode cX0_init 60 = .ok (.aload_n 0, 1) := by decide +kernel
theorem dX0_init_61 : decode cX0_init 61 = .ok (.aload_n 1, 1) := by decide +kernel
theorem dX0_init_62 : decode cX0_init 62 = .ok (.putfield 33, 3) := by decide +kernel
theorem dX0_init_65 : decode cX0_init 65 = .ok (.aload_n 0, 1) := by decide +kernel
theorem dX0_init_66 : decode cX0_init 66 = .ok (.aload_n 2, 1) := by decide +kernel
theorem dX0_init_67 : decode cX0_init 67 = .ok (.putfield 37, 3) := by decide +kernel
theorem dX0_init_70 : decode cX0_init 70 = .ok (.aload_n 0, 1) := by decide +kernel
theorem dX0_init_71 : decode cX0_init 71 = .ok (.aload_n 3, 1) := by decide +kernel
theorem dX0_init_72 : decode cX0_init 72 = .ok (.putfield 41, 3) := by decide +kernel
theorem dX0_init_75 : decode cX0_init 75 = .ok (.return_, 1) := by decide +kernel
theorem dX5_init_0 : decode cX5_init 0 = .ok (.aload_n 0, 1) := by decide +kernel
theorem dX5_init_1 : decode cX5_init 1 = .ok (.invokespecial 3, 3) := by decide +kernel
theorem dX5_init_4 : decode cX5_init 4 = .ok (.aload_n 0, 1) := by decide +kernel
theorem dX5_init_5 : decode cX5_init 5 = .ok (.iconst 4, 1) := by decide +kernel
theorem dX5_init_6 : decode cX5_init 6 = .ok (.newarray .int, 2) := by decide +kernel
theorem dX5_init_8 : decode cX5_init 8 = .ok (.dup, 1) := by decide +kernel
theorem dX5_init_9 : decode cX5_init 9 = .ok (.iconst 0, 1) := by decide +kernel
theorem dX5_init_10 : decode cX5_init 10 = .ok (.iconst (-1), 1) := by decide +kernel
theorem dX5_init_11 : decode cX5_init 11 = .ok (.iastore, 1) := by decide +kernel
theorem dX5_init_12 : decode cX5_init 12 = .ok (.dup, 1) := by decide +kernel
theorem dX5_init_13 : decode cX5_init 13 = .ok (.iconst 1, 1) := by decide +kernel
theorem dX5_init_14 : decode cX5_init 14 = .ok (.iconst (-1), 1) := by decide +kernel
theorem dX5_init_15 : decode cX5_init 15 = .ok (.iastore, 1) := by decide +kernel
theorem dX5_init_16 : decode cX5_init 16 = .ok (.dup, 1) := by decide +kernel
theorem dX5_init_17 : decode cX5_init 17 = .ok (.iconst 2, 1) := by decide +kernel
theorem dX5_init_18 : decode cX5_init 18 = .ok (.iconst (-1), 1) := by decide +kernel
theorem dX5_init_19 : decode cX5_init 19 = .ok (.iastore, 1) := by decide +kernel
theorem dX5_init_20 : decode cX5_init 20 = .ok (.dup, 1) := by decide +kernel
theorem dX5_init_21 : decode cX5_init 21 = .ok (.iconst 3, 1) := by decide +kernel
theorem dX5_init_22 : decode cX5_init 22 = .ok (.iconst (-1), 1) := by decide +kernel
theorem dX5_init_23 : decode cX5_init 23 = .ok (.iastore, 1) := by decide +kernel
theorem dX5_init_24 : decode cX5_init 24 = .ok (.putfield 9, 3) := by decide +kernel
theorem dX5_init_27 : decode cX5_init 27 = .ok (.aload_n 0, 1) := by decide +kernel
theorem dX5_init_28 : decode cX5_init 28 = .ok (.iconst 4, 1) := by decide +kernel
theorem dX5_init_29 : decode cX5_init 29 = .ok (.newarray .int, 2) := by decide +kernel
theorem dX5_init_31 : decode cX5_init 31 = .ok (.putfield 15, 3) := by decide +kernel
theorem dX5_init_34 : decode cX5_init 34 = .ok (.aload_n 0, 1) := by decide +kernel
theorem dX5_init_35 : decode cX5_init 35 = .ok (.iconst 4, 1) := by decide +kernel
theorem dX5_init_36 : decode cX5_init 36 = .ok (.bipush 40, 2) := by decide +kernel
theorem dX5_init_38 : decode cX5_init 38 = .ok (.multianewarray 18 2, 4) := by decide +kernel
theorem dX5_init_42 : decode cX5_init 42 = .ok (.putfield 20, 3) := by decide +kernel
theorem dX5_init_45 : decode cX5_init 45 = .ok (.return_, 1) := by decide +kernel
theorem dX1_init_0 : decode cX1_init 0 = .ok (.aload_n 0, 1) := by decide +kernel
theorem dX1_init_1 : decode cX1_init 1 = .ok (.invokespecial 3, 3) := by decide +kernel
theorem dX1_init_4 : decode cX1_init 4 = .ok (.aload_n 0, 1) := by decide +kernel
theorem dX1_init_5 : decode cX1_init 5 = .ok (.bipush 8, 2) := by decide +kernel
theorem dX1_init_7 : decode cX1_init 7 = .ok (.newarray .int, 2) := by decide +kernel
theorem dX1_init_9 : decode cX1_init 9 = .ok (.putfield 9, 3) := by decide +kernel
theorem dX1_init_12 : decode cX1_init 12 = .ok (.aload_n 0, 1) := by decide +kernel
theorem dX1_init_13 : decode cX1_init 13 = .ok (.bipush 8, 2) := by decide +kernel
theorem dX1_init_15 : decode cX1_init 15 = .ok (.newarray .int, 2) := by decide +kernel
theorem dX1_init_17 : decode cX1_init 17 = .ok (.putfield 15, 3) := by decide +kernel
theorem dX1_init_20 : decode cX1_init 20 = .ok (.aload_n 0, 1) := by decide +kernel
theorem dX1_init_21 : decode cX1_init 21 = .ok (.bipush 6, 2) := by decide +kernel
theorem dX1_init_23 : decode cX1_init 23 = .ok (.newarray .int, 2) := by decide +kernel
theorem dX1_init_25 : decode cX1_init 25 = .ok (.putfield 18, 3) := by decide +kernel
theorem dX1_init_28 : decode cX1_init 28 = .ok (.aload_n 0, 1) := by decide +kernel
theorem dX1_init_29 : decode cX1_init 29 = .ok (.bipush 6, 2) := by decide +kernel
theorem dX1_init_31 : decode cX1_init 31 = .ok (.newarray .int, 2) := by decide +kernel
theorem dX1_init_33 : decode cX1_init 33 = .ok (.putfield 21, 3) := by decide +kernel
theorem dX1_init_36 : decode cX1_init 36 = .ok (.aload_n 0, 1) := by decide +kernel
theorem dX1_init_37 : decode cX1_init 37 = .ok (.bipush 6, 2) := by decide +kernel
theorem dX1_init_39 : decode cX1_init 39 = .ok (.newarray .int, 2) := by decide +kernel
theorem dX1_init_41 : decode cX1_init 41 = .ok (.putfield 24, 3) := by decide +kernel
theorem dX1_init_44 : decode cX1_init 44 = .ok (.return_, 1) := by decide +kernel
theorem dX8_init_0 : decode cX8_init 0 = .ok (.aload_n 0, 1) := by decide +kernel
theorem dX8_init_1 : decode cX8_init 1 = .ok (.invokespecial 1, 3) := by decide +kernel
theorem dX8_init_4 : decode cX8_init 4 = .ok (.aload_n 0, 1) := by decide +kernel
theorem dX8_init_5 : decode cX8_init 5 = .ok (.new 7, 3) := by decide +kernel
theorem dX8_init_8 : decode cX8_init 8 = .ok (.dup, 1) := by decide +kernel
theorem dX8_init_9 : decode cX8_init 9 = .ok (.invokespecial 9, 3) := by decide +kernel
theorem dX8_init_12 : decode cX8_init 12 = .ok (.putfield 10, 3) := by decide +kernel
theorem dX8_init_15 : decode cX8_init 15 = .ok (.aload_n 0, 1) := by decide +kernel
theorem dX8_init_16 : decode cX8_init 16 = .ok (.new 16, 3) := by decide +kernel
theorem dX8_init_19 : decode cX8_init 19 = .ok (.dup, 1) := by decide +kernel
theorem dX8_init_20 : decode cX8_init 20 = .ok (.invokespecial 18, 3) := by decide +kernel
theorem dX8_init_23 : decode cX8_init 23 = .ok (.putfield 19, 3) := by decide +kernel
theorem dX8_init_26 : decode cX8_init 26 = .ok (.aload_n 0, 1) := by decide +kernel
theorem dX8_init_27 : decode cX8_init 27 = .ok (.new 23, 3) := by decide +kernel
theorem dX8_init_30 : decode cX8_init 30 = .ok (.dup, 1) := by decide +kernel
theorem dX8_init_31 : decode cX8_init 31 = .ok (.invokespecial 25, 3) := by decide +kernel
theorem dX8_init_34 : decode cX8_init 34 = .ok (.putfield 26, 3) := by decide +kernel
theorem dX8_init_37 : decode cX8_init 37 = .ok (.aload_n 0, 1) := by decide +kernel
theorem dX8_init_38 : decode cX8_init 38 = .ok (.new 30, 3) := by decide +kernel
theorem dX8_init_41 : decode cX8_init 41 = .ok (.dup, 1) := by decide +kernel
theorem dX8_init_42 : decode cX8_init 42 = .ok (.aload_n 0, 1) := by decide +kernel
theorem dX8_init_43 : decode cX8_init 43 = .ok (.getfield 10, 3) := by decide +kernel
theorem dX8_init_46 : decode cX8_init 46 = .ok (.invokespecial 32, 3) := by decide +kernel
theorem dX8_init_49 : decode cX8_init 49 = .ok (.putfield 35, 3) := by decide +kernel
theorem dX8_init_52 : decode cX8_init 52 = .ok (.aload_n 0, 1) := by decide +kernel
theorem dX8_init_53 : decode cX8_init 53 = .ok (.new 39, 3) := by decide +kernel
theorem dX8_init_56 : decode cX8_init 56 = .ok (.dup, 1) := by decide +kernel
theorem dX8_init_57 : decode cX8_init 57 = .ok (.aload_n 0, 1) := by decide +kernel
theorem dX8_init_58 : decode cX8_init 58 = .ok (.getfield 10, 3) := by decide +kernel
theorem dX8_init_61 : decode cX8_init 61 = .ok (.aload_n 0, 1) := by decide +kernel
theorem dX8_init_62 : decode cX8_init 62 = .ok (.getfield 35, 3) := by decide +kernel
theorem dX8_init_65 : decode cX8_init 65 = .ok (.invokespecial 41, 3) := by decide +kernel
theorem dX8_init_68 : decode cX8_init 68 = .ok (.putfield 44, 3) := by decide +kernel
theorem dX8_init_71 : decode cX8_init 71 = .ok (.aload_n 0, 1) := by decide +kernel
theorem dX8_init_72 : decode cX8_init 72 = .ok (.new 48, 3) := by decide +kernel
theorem dX8_init_75 : decode cX8_init 75 = .ok (.dup, 1) := by decide +kernel
theorem dX8_init_76 : decode cX8_init 76 = .ok (.aload_n 0, 1) := by decide +kernel
theorem dX8_init_77 : decode cX8_init 77 = .ok (.getfield 10, 3) := by decide +kernel
theorem dX8_init_80 : decode cX8_init 80 = .ok (.aload_n 0, 1) := by decide +kernel
theorem dX8_init_81 : decode cX8_init 81 = .ok (.getfield 19, 3) := by decide +kernel
theorem dX8_init_84 : decode cX8_init 84 = .ok (.aload_n 0, 1) := by decide +kernel
theorem dX8_init_85 : decode cX8_init 85 = .ok (.getfield 44, 3) := by decide +kernel
theorem dX8_init_88 : decode cX8_init 88 = .ok (.invokespecial 50, 3) := by decide +kernel
theorem dX8_init_91 : decode cX8_init 91 = .ok (.putfield 53, 3) := by decide +kernel
theorem dX8_init_94 : decode cX8_init 94 = .ok (.aload_n 0, 1) := by decide +kernel
theorem dX8_init_95 : decode cX8_init 95 = .ok (.new 57, 3) := by decide +kernel
theorem dX8_init_98 : decode cX8_init 98 = .ok (.dup, 1) := by decide +kernel
theorem dX8_init_99 : decode cX8_init 99 = .ok (.invokespecial 59, 3) := by decide +kernel
theorem dX8_init_102 : decode cX8_init 102 = .ok (.putfield 60, 3) := by decide +kernel
theorem dX8_init_105 : decode cX8_init 105 = .ok (.aload_n 0, 1) := by decide +kernel
theorem dX8_init_106 : decode cX8_init 106 = .ok (.new 64, 3) := by decide +kernel
theorem dX8_init_109 : decode cX8_init 109 = .ok (.dup, 1) := by decide +kernel
theorem dX8_init_110 : decode cX8_init 110 = .ok (.invokespecial 66, 3) := by decide +kernel
theorem dX8_init_113 : decode cX8_init 113 = .ok (.putfield 67, 3) := by decide +kernel
theorem dX8_init_116 : decode cX8_init 116 = .ok (.iconst 0, 1) := by decide +kernel
theorem dX8_init_117 : decode cX8_init 117 = .ok (.istore_n 1, 1) := by decide +kernel
theorem dX8_init_118 : decode cX8_init 118 = .ok (.iload_n 1, 1) := by decide +kernel
theorem dX8_init_119 : decode cX8_init 119 = .ok (.ldc 71, 2) := by decide +kernel
theorem dX8_init_121 : decode cX8_init 121 = .ok (.invokevirtual 73, 3) := by decide +kernel
theorem dX8_init_124 : decode cX8_init 124 = .ok (.if_icmp .ge 23, 3) := by decide +kernel
theorem dX8_init_127 : decode cX8_init 127 = .ok (.aload_n 0, 1) := by decide +kernel
theorem dX8_init_128 : decode cX8_init 128 = .ok (.getfield 26, 3) := by decide +kernel
theorem dX8_init_131 : decode cX8_init 131 = .ok (.ldc 71, 2) := by decide +kernel
theorem dX8_init_133 : decode cX8_init 133 = .ok (.iload_n 1, 1) := by decide +kernel
theorem dX8_init_134 : decode cX8_init 134 = .ok (.invokevirtual 79, 3) := by decide +kernel
theorem dX8_init_137 : decode cX8_init 137 = .ok (.invokevirtual 83, 3) := by decide +kernel
theorem dX8_init_140 : decode cX8_init 140 = .ok (.pop, 1) := by decide +kernel
theorem dX8_init_141 : decode cX8_init 141 = .ok (.iinc 1 1, 3) := by decide +kernel
theorem dX8_init_144 : decode cX8_init 144 = .ok (.goto (-26), 3) := by decide +kernel
theorem dX8_init_147 : decode cX8_init 147 = .ok (.aload_n 0, 1) := by decide +kernel
theorem dX8_init_148 : decode cX8_init 148 = .ok (.getfield 26, 3) := by decide +kernel
theorem dX8_init_151 : decode cX8_init 151 = .ok (.invokevirtual 87, 3) := by decide +kernel
theorem dX8_init_154 : decode cX8_init 154 = .ok (.aload_n 0, 1) := by decide +kernel
theorem dX8_init_155 : decode cX8_init 155 = .ok (.getfield 35, 3) := by decide +kernel
theorem dX8_init_158 : decode cX8_init 158 = .ok (.aload_n 0, 1) := by decide +kernel
theorem dX8_init_159 : decode cX8_init 159 = .ok (.getfield 26, 3) := by decide +kernel
theorem dX8_init_162 : decode cX8_init 162 = .ok (.invokevirtual 90, 3) := by decide +kernel
theorem dX8_init_165 : decode cX8_init 165 = .ok (.pop, 1) := by decide +kernel
theorem dX8_init_166 : decode cX8_init 166 = .ok (.aload_n 0, 1) := by decide +kernel
theorem dX8_init_167 : decode cX8_init 167 = .ok (.getfield 26, 3) := by decide +kernel
theorem dX8_init_170 : decode cX8_init 170 = .ok (.invokevirtual 94, 3) := by decide +kernel
theorem dX8_init_173 : decode cX8_init 173 = .ok (.return_, 1) := by decide +kernel
theorem dX9_init_0 : decode cX9_init 0 = .ok (.aload_n 0, 1) := by decide +kernel
theorem dX9_init_1 : decode cX9_init 1 = .ok (.invokespecial 7, 3) := by decide +kernel
theorem dX9_init_4 : decode cX9_init 4 = .ok (.aload_n 0, 1) := by decide +kernel
theorem dX9_init_5 : decode cX9_init 5 = .ok (.sipush 960, 3) := by decide +kernel
theorem dX9_init_8 : decode cX9_init 8 = .ok (.newarray .int, 2) := by decide +kernel
theorem dX9_init_10 : decode cX9_init 10 = .ok (.putfield 13, 3) := by decide +kernel
theorem dX9_init_13 : decode cX9_init 13 = .ok (.aload_n 0, 1) := by decide +kernel
theorem dX9_init_14 : decode cX9_init 14 = .ok (.bipush 6, 2) := by decide +kernel
theorem dX9_init_16 : decode cX9_init 16 = .ok (.newarray .int, 2) := by decide +kernel
theorem dX9_init_18 : decode cX9_init 18 = .ok (.putfield 17, 3) := by decide +kernel
theorem dX9_init_21 : decode cX9_init 21 = .ok (.aload_n 0, 1) := by decide +kernel
theorem dX9_init_22 : decode cX9_init 22 = .ok (.sipush 160, 3) := by decide +kernel
theorem dX9_init_25 : decode cX9_init 25 = .ok (.newarray .int, 2) := by decide +kernel
theorem dX9_init_27 : decode cX9_init 27 = .ok (.putfield 20, 3) := by decide +kernel
theorem dX9_init_30 : decode cX9_init 30 = .ok (.aload_n 0, 1) := by decide +kernel
theorem dX9_init_31 : decode cX9_init 31 = .ok (.bipush 8, 2) := by decide +kernel
theorem dX9_init_33 : decode cX9_init 33 = .ok (.newarray .int, 2) := by decide +kernel
theorem dX9_init_35 : decode cX9_init 35 = .ok (.putfield 23, 3) := by decide +kernel
theorem dX9_init_38 : decode cX9_init 38 = .ok (.aload_n 0, 1) := by decide +kernel
theorem dX9_init_39 : decode cX9_init 39 = .ok (.bipush 8, 2) := by decide +kernel
theorem dX9_init_41 : decode cX9_init 41 = .ok (.newarray .int, 2) := by decide +kernel
theorem dX9_init_43 : decode cX9_init 43 = .ok (.putfield 26, 3) := by decide +kernel
theorem dX9_init_46 : decode cX9_init 46 = .ok (.aload_n 0, 1) := by decide +kernel
theorem dX9_init_47 : decode cX9_init 47 = .ok (.bipush 8, 2) := by decide +kernel
theorem dX9_init_49 : decode cX9_init 49 = .ok (.newarray .int, 2) := by decide +kernel
theorem dX9_init_51 : decode cX9_init 51 = .ok (.putfield 29, 3) := by decide +kernel
theorem dX9_init_54 : decode cX9_init 54 = .ok (.aload_n 0, 1) := by decide +kernel
theorem dX9_init_55 : decode cX9_init 55 = .ok (.bipush 6, 2) := by decide +kernel
theorem dX9_init_57 : decode cX9_init 57 = .ok (.newarray .int, 2) := by decide +kernel
theorem dX9_init_59 : decode cX9_init 59 = .ok (.putfield 32, 3) := by decide +kernel
theorem dX9_init_62 : decode cX9_init 62 = .ok (.aload_n 0, 1) := by decide +kernel
theorem dX9_init_63 : decode cX9_init 63 = .ok (.bipush 6, 2) := by decide +kernel
theorem dX9_init_65 : decode cX9_init 65 = .ok (.newarray .int, 2) := by decide +kernel
theorem dX9_init_67 : decode cX9_init 67 = .ok (.putfield 35, 3) := by decide +kernel
theorem dX9_init_70 : decode cX9_init 70 = .ok (.aload_n 0, 1) := by decide +kernel
theorem dX9_init_71 : decode cX9_init 71 = .ok (.bipush 6, 2) := by decide +kernel
theorem dX9_init_73 : decode cX9_init 73 = .ok (.newarray .int, 2) := by decide +kernel
theorem dX9_init_75 : decode cX9_init 75 = .ok (.putfield 38, 3) := by decide +kernel
theorem dX9_init_78 : decode cX9_init 78 = .ok (.aload_n 0, 1) := by decide +kernel
theorem dX9_init_79 : decode cX9_init 79 = .ok (.bipush 8, 2) := by decide +kernel
theorem dX9_init_81 : decode cX9_init 81 = .ok (.newarray .int, 2) := by decide +kernel
theorem dX9_init_83 : decode cX9_init 83 = .ok (.putfield 41, 3) := by decide +kernel
theorem dX9_init_86 : decode cX9_init 86 = .ok (.aload_n 0, 1) := by decide +kernel
theorem dX9_init_87 : decode cX9_init 87 = .ok (.bipush 8, 2) := by decide +kernel
theorem dX9_init_89 : decode cX9_init 89 = .ok (.newarray .int, 2) := by decide +kernel
theorem dX9_init_91 : decode cX9_init 91 = .ok (.putfield 44, 3) := by decide +kernel
theorem dX9_init_94 : decode cX9_init 94 = .ok (.aload_n 0, 1) := by decide +kernel
theorem dX9_init_95 : decode cX9_init 95 = .ok (.bipush 7, 2) := by decide +kernel
theorem dX9_init_97 : decode cX9_init 97 = .ok (.newarray .int, 2) := by decide +kernel
theorem dX9_init_99 : decode cX9_init 99 = .ok (.putfield 47, 3) := by decide +kernel
theorem dX9_init_102 : decode cX9_init 102 = .ok (.aload_n 0, 1) := by decide +kernel
theorem dX9_init_103 : decode cX9_init 103 = .ok (.bipush 6, 2) := by decide +kernel
theorem dX9_init_105 : decode cX9_init 105 = .ok (.newarray .int, 2) := by decide +kernel
theorem dX9_init_107 : decode cX9_init 107 = .ok (.putfield 50, 3) := by decide +kernel
theorem dX9_init_110 : decode cX9_init 110 = .ok (.aload_n 0, 1) := by decide +kernel
theorem dX9_init_111 : decode cX9_init 111 = .ok (.bipush 6, 2) := by decide +kernel
theorem dX9_init_113 : decode cX9_init 113 = .ok (.newarray .int, 2) := by decide +kernel
theorem dX9_init_115 : decode cX9_init 115 = .ok (.putfield 53, 3) := by decide +kernel
theorem dX9_init_118 : decode cX9_init 118 = .ok (.aload_n 0, 1) := by decide +kernel
theorem dX9_init_119 : decode cX9_init 119 = .ok (.bipush 16, 2) := by decide +kernel
theorem dX9_init_121 : decode cX9_init 121 = .ok (.newarray .int, 2) := by decide +kernel
theorem dX9_init_123 : decode cX9_init 123 = .ok (.putfield 56, 3) := by decide +kernel
theorem dX9_init_126 : decode cX9_init 126 = .ok (.aload_n 0, 1) := by decide +kernel
theorem dX9_init_127 : decode cX9_init 127 = .ok (.bipush 18, 2) := by decide +kernel
theorem dX9_init_129 : decode cX9_init 129 = .ok (.newarray .int, 2) := by decide +kernel
theorem dX9_init_131 : decode cX9_init 131 = .ok (.putfield 59, 3) := by decide +kernel
theorem dX9_init_134 : decode cX9_init 134 = .ok (.aload_n 0, 1) := by decide +kernel
theorem dX9_init_135 : decode cX9_init 135 = .ok (.iconst (-1), 1) := by decide +kernel
theorem dX9_init_136 : decode cX9_init 136 = .ok (.putfield 62, 3) := by decide +kernel
theorem dX9_init_139 : decode cX9_init 139 = .ok (.aload_n 0, 1) := by decide +kernel
theorem dX9_init_140 : decode cX9_init 140 = .ok (.iconst 4, 1) := by decide +kernel
theorem dX9_init_141 : decode cX9_init 141 = .ok (.newarray .boolean, 2) := by decide +kernel
theorem dX9_init_143 : decode cX9_init 143 = .ok (.putfield 65, 3) := by decide +kernel
theorem dX9_init_146 : decode cX9_init 146 = .ok (.aload_n 0, 1) := by decide +kernel
theorem dX9_init_147 : decode cX9_init 147 = .ok (.iconst 4, 1) := by decide +kernel
theorem dX9_init_148 : decode cX9_init 148 = .ok (.newarray .int, 2) := by decide +kernel
theorem dX9_init_150 : decode cX9_init 150 = .ok (.putfield 69, 3) := by decide +kernel
theorem dX9_init_153 : decode cX9_init 153 = .ok (.aload_n 0, 1) := by decide +kernel
theorem dX9_init_154 : decode cX9_init 154 = .ok (.iconst 4, 1) := by decide +kernel
theorem dX9_init_155 : decode cX9_init 155 = .ok (.newarray .int, 2) := by decide +kernel
theorem dX9_init_157 : decode cX9_init 157 = .ok (.putfield 72, 3) := by decide +kernel
theorem dX9_init_160 : decode cX9_init 160 = .ok (.aload_n 0, 1) := by decide +kernel
theorem dX9_init_161 : decode cX9_init 161 = .ok (.sipush 160, 3) := by decide +kernel
theorem dX9_init_164 : decode cX9_init 164 = .ok (.newarray .int, 2) := by decide +kernel
theorem dX9_init_166 : decode cX9_init 166 = .ok (.putfield 75, 3) := by decide +kernel
theorem dX9_init_169 : decode cX9_init 169 = .ok (.aload_n 0, 1) := by decide +kernel
theorem dX9_init_170 : decode cX9_init 170 = .ok (.iconst 0, 1) := by decide +kernel
theorem dX9_init_171 : decode cX9_init 171 = .ok (.bipush 116, 2) := by decide +kernel
theorem dX9_init_173 : decode cX9_init 173 = .ok (.bipush 97, 2) := by decide +kernel
theorem dX9_init_175 : decode cX9_init 175 = .ok (.bipush 107, 2) := by decide +kernel
theorem dX9_init_177 : decode cX9_init 177 = .ok (.bipush 101, 2) := by decide +kernel
theorem dX9_init_179 : decode cX9_init 179 = .ok (.bipush 115, 2) := by decide +kernel
theorem dX9_init_181 : decode cX9_init 181 = .ok (.bipush 32, 2) := by decide +kernel
theorem dX9_init_183 : decode cX9_init 183 = .ok (.bipush 51, 2) := by decide +kernel
theorem dX9_init_185 : decode cX9_init 185 = .ok (.bipush 32, 2) := by decide +kernel
theorem dX9_init_187 : decode cX9_init 187 = .ok (.invokevirtual 78, 3) := by decide +kernel
theorem dX9_init_190 : decode cX9_init 190 = .ok (.aload_n 0, 1) := by decide +kernel
theorem dX9_init_191 : decode cX9_init 191 = .ok (.bipush 8, 2) := by decide +kernel
theorem dX9_init_193 : decode cX9_init 193 = .ok (.bipush 59, 2) := by decide +kernel
theorem dX9_init_195 : decode cX9_init 195 = .ok (.bipush 32, 2) := by decide +kernel
theorem dX9_init_197 : decode cX9_init 197 = .ok (.bipush 108, 2) := by decide +kernel
theorem dX9_init_199 : decode cX9_init 199 = .ok (.bipush 101, 2) := by decide +kernel
theorem dX9_init_201 : decode cX9_init 201 = .ok (.bipush 116, 2) := by decide +kernel
theorem dX9_init_203 : decode cX9_init 203 = .ok (.bipush 115, 2) := by decide +kernel
theorem dX9_init_205 : decode cX9_init 205 = .ok (.bipush 32, 2) := by decide +kernel
theorem dX9_init_207 : decode cX9_init 207 = .ok (.bipush 49, 2) := by decide +kernel
theorem dX9_init_209 : decode cX9_init 209 = .ok (.invokevirtual 78, 3) := by decide +kernel
theorem dX9_init_212 : decode cX9_init 212 = .ok (.aload_n 0, 1) := by decide +kernel
theorem dX9_init_213 : decode cX9_init 213 = .ok (.bipush 16, 2) := by decide +kernel
theorem dX9_init_215 : decode cX9_init 215 = .ok (.bipush 48, 2) := by decide +kernel
theorem dX9_init_217 : decode cX9_init 217 = .ok (.bipush 32, 2) := by decide +kernel
theorem dX9_init_219 : decode cX9_init 219 = .ok (.bipush 43, 2) := by decide +kernel
theorem dX9_init_221 : decode cX9_init 221 = .ok (.bipush 32, 2) := by decide +kernel
theorem dX9_init_223 : decode cX9_init 223 = .ok (.bipush 119, 2) := by decide +kernel
theorem dX9_init_225 : decode cX9_init 225 = .ok (.bipush 97, 2) := by decide +kernel
theorem dX9_init_227 : decode cX9_init 227 = .ok (.bipush 105, 2) := by decide +kernel
theorem dX9_init_229 : decode cX9_init 229 = .ok (.bipush 116, 2) := by decide +kernel
theorem dX9_init_231 : decode cX9_init 231 = .ok (.invokevirtual 78, 3) := by decide +kernel
theorem dX9_init_234 : decode cX9_init 234 = .ok (.aload_n 0, 1) := by decide +kernel
theorem dX9_init_235 : decode cX9_init 235 = .ok (.bipush 24, 2) := by decide +kernel
theorem dX9_init_237 : decode cX9_init 237 = .ok (.bipush 32, 2) := by decide +kernel
theorem dX9_init_239 : decode cX9_init 239 = .ok (.bipush 42, 2) := by decide +kernel
theorem dX9_init_241 : decode cX9_init 241 = .ok (.bipush 32, 2) := by decide +kernel
theorem dX9_init_243 : decode cX9_init 243 = .ok (.bipush 53, 2) := by decide +kernel
theorem dX9_init_245 : decode cX9_init 245 = .ok (.bipush 32, 2) := by decide +kernel
theorem dX9_init_247 : decode cX9_init 247 = .ok (.bipush 59, 2) := by decide +kernel
theorem dX9_init_249 : decode cX9_init 249 = .ok (.bipush 32, 2) := by decide +kernel
theorem dX9_init_251 : decode cX9_init 251 = .ok (.bipush 119, 2) := by decide +kernel
theorem dX9_init_253 : decode cX9_init 253 = .ok (.invokevirtual 78, 3) := by decide +kernel
theorem dX9_init_256 : decode cX9_init 256 = .ok (.aload_n 0, 1) := by decide +kernel
theorem dX9_init_257 : decode cX9_init 257 = .ok (.bipush 32, 2) := by decide +kernel
theorem dX9_init_259 : decode cX9_init 259 = .ok (.bipush 97, 2) := by decide +kernel
theorem dX9_init_261 : decode cX9_init 261 = .ok (.bipush 108, 2) := by decide +kernel
theorem dX9_init_263 : decode cX9_init 263 = .ok (.bipush 107, 2) := by decide +kernel
theorem dX9_init_265 : decode cX9_init 265 = .ok (.bipush 115, 2) := by decide +kernel
theorem dX9_init_267 : decode cX9_init 267 = .ok (.bipush 32, 2) := by decide +kernel
theorem dX9_init_269 : decode cX9_init 269 = .ok (.bipush 50, 2) := by decide +kernel
theorem dX9_init_271 : decode cX9_init 271 = .ok (.bipush 32, 2) := by decide +kernel
theorem dX9_init_273 : decode cX9_init 273 = .ok (.bipush 43, 2) := by decide +kernel
theorem dX9_init_275 : decode cX9_init 275 = .ok (.invokevirtual 78, 3) := by decide +kernel
theorem dX9_init_278 : decode cX9_init 278 = .ok (.aload_n 0, 1) := by decide +kernel
theorem dX9_init_279 : decode cX9_init 279 = .ok (.bipush 40, 2) := by decide +kernel
theorem dX9_init_281 : decode cX9_init 281 = .ok (.bipush 32, 2) := by decide +kernel
theorem dX9_init_283 : decode cX9_init 283 = .ok (.bipush 105, 2) := by decide +kernel
theorem dX9_init_285 : decode cX9_init 285 = .ok (.bipush 116, 2) := by decide +kernel
theorem dX9_init_287 : decode cX9_init 287 = .ok (.bipush 101, 2) := by decide +kernel
theorem dX9_init_289 : decode cX9_init 289 = .ok (.bipush 109, 2) := by decide +kernel
theorem dX9_init_291 : decode cX9_init 291 = .ok (.bipush 115, 2) := by decide +kernel
theorem dX9_init_293 : decode cX9_init 293 = .ok (.bipush 32, 2) := by decide +kernel
theorem dX9_init_295 : decode cX9_init 295 = .ok (.bipush 59, 2) := by decide +kernel
theorem dX9_init_297 : decode cX9_init 297 = .ok (.invokevirtual 78, 3) := by decide +kernel
theorem dX9_init_300 : decode cX9_init 300 = .ok (.aload_n 0, 1) := by decide +kernel
theorem dX9_init_301 : decode cX9_init 301 = .ok (.getfield 17, 3) := by decide +kernel
theorem dX9_init_304 : decode cX9_init 304 = .ok (.iconst 0, 1) := by decide +kernel
theorem dX9_init_305 : decode cX9_init 305 = .ok (.bipush 48, 2) := by decide +kernel
theorem dX9_init_307 : decode cX9_init 307 = .ok (.iastore, 1) := by decide +kernel
theorem dX9_init_308 : decode cX9_init 308 = .ok (.aload_n 0, 1) := by decide +kernel
theorem dX9_init_309 : decode cX9_init 309 = .ok (.iconst 1, 1) := by decide +kernel
theorem dX9_init_310 : decode cX9_init 310 = .ok (.putfield 82, 3) := by decide +kernel
theorem dX9_init_313 : decode cX9_init 313 = .ok (.return_, 1) := by decide +kernel
theorem Inj1 {S0 : Shp} {ad : Nat → Nat} (h : ∀ ci tm, S0 = .inr (ci, tm) → tm.length ≤ 1000) : Inj [S0] ad := by
  refine ⟨fun cell ci tm hc => ?_, fun i j hi hj _ => ?_⟩
  · have h2 : cell < 1 := (List.getElem?_eq_some_iff.mp hc).1
    rw [show cell = 0 by omega] at hc
    cases hc
    exact h _ _ rfl
  · simp only [List.length_singleton] at hi hj
    omega
set_option maxRecDepth 20000 in
set_option maxHeartbeats 4000000 in
theorem N2_init_met {l : Launch} {G0 : GG} {M : Mem} (hI : Inj sc2_0 G0.2.1) (sz : Nat) : MetN sc2_0 sc2_6 l G0 yX2_init cX2_init 1 3 3 24 [.ref 0] M (mN2 M) sz := by
  refine X_metN hI (by decide +kernel) rfl (Nat.le_of_ble_eq_true rfl) (fun p e s m args below meth c hsz F hr hlk hin => ?_)
  have hG : GEx sc2_0 sc2_0 G0 G0 s.heap.size := GEx.rf hI
  show XJ sc2_0 p l e _ s m args below meth c 0 0 G0 1 _ 0 [(0, .ref 0)] [] M
  refine X_aload_n F dX2_init_0 rfl ?_
  refine X_objinit F ⟨(tmem 31 (by decide +kernel) rfl), ob_in, ob_co⟩ ⟨Nat.le_of_ble_eq_true rfl, Nat.le_of_ble_eq_true rfl⟩ (Nat.le_of_ble_eq_true rfl) dX2_init_1 ?_
  refine X_aload_n F dX2_init_4 rfl ?_
  refine X_bipush F dX2_init_5 (v := (8 : Int32)) rfl ?_
  refine N_newa (sh' := sc2_1) (N := 8) (n := 1) F hG rfl rfl ac_int ⟨by decide, by decide, Nat.le_of_ble_eq_true rfl⟩ (by decide +kernel) ⟨Nat.le_of_ble_eq_true rfl, Nat.le_of_ble_eq_true rfl⟩ ⟨Nat.le_of_ble_eq_true rfl, Nat.le_of_ble_eq_true rfl⟩ dX2_init_7 (fun G F hG => ?_)
  refine X_putr F hin (C := RX2) (T := TX2) (N := 6) (ty0 := tyX2) (sh' := sc2_2) (k := 0) (cell := 0) (ci := 2) (tm := [.null, .null, .null, .int 0, .int 0, .int 0]) rfl (by decide) wsIn2 tyX2_ok nmX2 (tmem 32 (by decide +kernel) rfl) ⟨rfl, rfl⟩ (tyX2_ok 0 (by decide)) (fun a => ⟨rfl, rfl⟩) rfl (Nat.le_of_ble_eq_true rfl) rfl dX2_init_9 (fun F => ?_)
  have hG := GEx.put (sh' := sc2_2) hG rfl F.2.2.2.2.2.2.2.1
  refine X_aload_n F dX2_init_12 rfl ?_
  refine X_bipush F dX2_init_13 (v := (8 : Int32)) rfl ?_
  refine N_newa (sh' := sc2_3) (N := 8) (n := 2) F hG rfl rfl ac_int ⟨by decide, by decide, Nat.le_of_ble_eq_true rfl⟩ (by decide +kernel) ⟨Nat.le_of_ble_eq_true rfl, Nat.le_of_ble_eq_true rfl⟩ ⟨Nat.le_of_ble_eq_true rfl, Nat.le_of_ble_eq_true rfl⟩ dX2_init_15 (fun G F hG => ?_)
  refine X_putr F hin (C := RX2) (T := TX2) (N := 6) (ty0 := tyX2) (sh' := sc2_4) (k := 1) (cell := 0) (ci := 2) (tm := [.ref 1, .null, .null, .int 0, .int 0, .int 0]) rfl (by decide) wsIn2 tyX2_ok nmX2 (tmem 36 (by decide +kernel) rfl) ⟨rfl, rfl⟩ (tyX2_ok 1 (by decide)) (fun a => ⟨rfl, rfl⟩) rfl (Nat.le_of_ble_eq_true rfl) rfl dX2_init_17 (fun F => ?_)
  have hG := GEx.put (sh' := sc2_4) hG rfl F.2.2.2.2.2.2.2.1
  refine X_aload_n F dX2_init_20 rfl ?_
  refine X_bipush F dX2_init_21 (v := (8 : Int32)) rfl ?_
  refine N_newa (sh' := sc2_5) (N := 8) (n := 3) F hG rfl rfl ac_int ⟨by decide, by decide, Nat.le_of_ble_eq_true rfl⟩ (by decide +kernel) ⟨Nat.le_of_ble_eq_true rfl, Nat.le_of_ble_eq_true rfl⟩ ⟨Nat.le_of_ble_eq_true rfl, Nat.le_of_ble_eq_true rfl⟩ dX2_init_23 (fun G F hG => ?_)
  refine X_putr F hin (C := RX2) (T := TX2) (N := 6) (ty0 := tyX2) (sh' := sc2_6) (k := 2) (cell := 0) (ci := 2) (tm := [.ref 1, .ref 2, .null, .int 0, .int 0, .int 0]) rfl (by decide) wsIn2 tyX2_ok nmX2 (tmem 40 (by decide +kernel) rfl) ⟨rfl, rfl⟩ (tyX2_ok 2 (by decide)) (fun a => ⟨rfl, rfl⟩) rfl (Nat.le_of_ble_eq_true rfl) rfl dX2_init_25 (fun F => ?_)
  have hG := GEx.put (sh' := sc2_6) hG rfl F.2.2.2.2.2.2.2.1
  exact X_nret F hr hlk hG dX2_init_28
set_option maxRecDepth 20000 in
set_option maxHeartbeats 4000000 in
theorem N6_init_met {l : Launch} {G0 : GG} {M : Mem} (hI : Inj sc6_7 G0.2.1) (sz : Nat) : MetN sc6_7 sc6_13 l G0 yX6_init cX6_init 1 3 3 18 [.ref 0] M (mN6 M) sz := by
  refine X_metN hI (by decide +kernel) rfl (Nat.le_of_ble_eq_true rfl) (fun p e s m args below meth c hsz F hr hlk hin => ?_)
  have hG : GEx sc6_7 sc6_7 G0 G0 s.heap.size := GEx.rf hI
  show XJ sc6_7 p l e _ s m args below meth c 0 0 G0 1 _ 0 [(0, .ref 0)] [] M
  refine X_aload_n F dX6_init_0 rfl ?_
  refine X_objinit F ⟨(tmem 78 (by decide +kernel) rfl), ob_in, ob_co⟩ ⟨Nat.le_of_ble_eq_true rfl, Nat.le_of_ble_eq_true rfl⟩ (Nat.le_of_ble_eq_true rfl) dX6_init_1 ?_
  refine X_aload_n F dX6_init_4 rfl ?_
  refine X_bipush F dX6_init_5 (v := (6 : Int32)) rfl ?_
  refine N_newa (sh' := sc6_8) (N := 6) (n := 1) F hG rfl rfl ac_int ⟨by decide, by decide, Nat.le_of_ble_eq_true rfl⟩ (by decide +kernel) ⟨Nat.le_of_ble_eq_true rfl, Nat.le_of_ble_eq_true rfl⟩ ⟨Nat.le_of_ble_eq_true rfl, Nat.le_of_ble_eq_true rfl⟩ dX6_init_7 (fun G F hG => ?_)
  refine X_putr F hin (C := RX6) (T := TX6) (N := 4) (ty0 := tyX6) (sh' := sc6_9) (k := 0) (cell := 0) (ci := 6) (tm := [.null, .null, .null, .int 0]) rfl (by decide) wsIn6 tyX6_ok nmX6 (tmem 79 (by decide +kernel) rfl) ⟨rfl, rfl⟩ (tyX6_ok 0 (by decide)) (fun a => ⟨rfl, rfl⟩) rfl (Nat.le_of_ble_eq_true rfl) rfl dX6_init_9 (fun F => ?_)
  have hG := GEx.put (sh' := sc6_9) hG rfl F.2.2.2.2.2.2.2.1
  refine X_aload_n F dX6_init_12 rfl ?_
  refine X_bipush F dX6_init_13 (v := (6 : Int32)) rfl ?_
  refine N_newa (sh' := sc6_10) (N := 6) (n := 2) F hG rfl rfl ac_int ⟨by decide, by decide, Nat.le_of_ble_eq_true rfl⟩ (by decide +kernel) ⟨Nat.le_of_ble_eq_true rfl, Nat.le_of_ble_eq_true rfl⟩ ⟨Nat.le_of_ble_eq_true rfl, Nat.le_of_ble_eq_true rfl⟩ dX6_init_15 (fun G F hG => ?_)
  refine X_putr F hin (C := RX6) (T := TX6) (N := 4) (ty0 := tyX6) (sh' := sc6_11) (k := 1) (cell := 0) (ci := 6) (tm := [.ref 1, .null, .null, .int 0]) rfl (by decide) wsIn6 tyX6_ok nmX6 (tmem 82 (by decide +kernel) rfl) ⟨rfl, rfl⟩ (tyX6_ok 1 (by decide)) (fun a => ⟨rfl, rfl⟩) rfl (Nat.le_of_ble_eq_true rfl) rfl dX6_init_17 (fun F => ?_)
  have hG := GEx.put (sh' := sc6_11) hG rfl F.2.2.2.2.2.2.2.1
  refine X_aload_n F dX6_init_20 rfl ?_
  refine X_bipush F dX6_init_21 (v := (6 : Int32)) rfl ?_
  refine N_newa (sh' := sc6_12) (N := 6) (n := 3) F hG rfl rfl ac_int ⟨by decide, by decide, Nat.le_of_ble_eq_true rfl⟩ (by decide +kernel) ⟨Nat.le_of_ble_eq_true rfl, Nat.le_of_ble_eq_true rfl⟩ ⟨Nat.le_of_ble_eq_true rfl, Nat.le_of_ble_eq_true rfl⟩ dX6_init_23 (fun G F hG => ?_)
  refine X_putr F hin (C := RX6) (T := TX6) (N := 4) (ty0 := tyX6) (sh' := sc6_13) (k := 2) (cell := 0) (ci := 6) (tm := [.ref 1, .ref 2, .null, .int 0]) rfl (by decide) wsIn6 tyX6_ok nmX6 (tmem 86 (by decide +kernel) rfl) ⟨rfl, rfl⟩ (tyX6_ok 2 (by decide)) (fun a => ⟨rfl, rfl⟩) rfl (Nat.le_of_ble_eq_true rfl) rfl dX6_init_25 (fun F => ?_)
  have hG := GEx.put (sh' := sc6_13) hG rfl F.2.2.2.2.2.2.2.1
  exact X_nret F hr hlk hG dX6_init_28
set_option maxRecDepth 20000 in
set_option maxHeartbeats 4000000 in
theorem N3_init_met {l : Launch} {G0 : GG} {M : Mem} (hI : Inj sc3_14 G0.2.1) (sz : Nat) : MetN sc3_14 sc3_26 l G0 yX3_init cX3_init 1 3 6 807 [.ref 0] M (mN3 M) sz := by
  refine X_metN hI (by decide +kernel) rfl (Nat.le_of_ble_eq_true rfl) (fun p e s m args below meth c hsz F hr hlk hin => ?_)
  have hG : GEx sc3_14 sc3_14 G0 G0 s.heap.size := GEx.rf hI
  show XJ sc3_14 p l e _ s m args below meth c 0 0 G0 1 _ 0 [(0, .ref 0)] [] M
  refine X_aload_n F dX3_init_0 rfl ?_
  refine X_objinit F ⟨(tmem 107 (by decide +kernel) rfl), ob_in, ob_co⟩ ⟨Nat.le_of_ble_eq_true rfl, Nat.le_of_ble_eq_true rfl⟩ (Nat.le_of_ble_eq_true rfl) dX3_init_1 ?_
  refine X_aload_n F dX3_init_4 rfl ?_
  refine X_sipush F dX3_init_5 (v := (160 : Int32)) rfl ?_
  refine N_newa (sh' := sc3_15) (N := 160) (n := 1) F hG rfl rfl ac_int ⟨by decide, by decide, Nat.le_of_ble_eq_true rfl⟩ (by decide +kernel) ⟨Nat.le_of_ble_eq_true rfl, Nat.le_of_ble_eq_true rfl⟩ ⟨Nat.le_of_ble_eq_true rfl, Nat.le_of_ble_eq_true rfl⟩ dX3_init_8 (fun G F hG => ?_)
  refine X_putr F hin (C := RX3) (T := TX3) (N := 12) (ty0 := tyX3) (sh' := sc3_16) (k := 0) (cell := 0) (ci := 3) (tm := [.null, .int 0, .null, .null, .null, .int 0, .int 0, .int 0, .int 0, .null, .int 0, .null]) rfl (by decide) wsIn3 tyX3_ok nmX3 (tmem 108 (by decide +kernel) rfl) ⟨rfl, rfl⟩ (tyX3_ok 0 (by decide)) (fun a => ⟨rfl, rfl⟩) rfl (Nat.le_of_ble_eq_true rfl) rfl dX3_init_10 (fun F => ?_)
  have hG := GEx.put (sh' := sc3_16) hG rfl F.2.2.2.2.2.2.2.1
  refine X_aload_n F dX3_init_13 rfl ?_
  refine X_sipush F dX3_init_14 (v := (161 : Int32)) rfl ?_
  refine N_newa (sh' := sc3_17) (N := 161) (n := 2) F hG rfl rfl ac_int ⟨by decide, by decide, Nat.le_of_ble_eq_true rfl⟩ (by decide +kernel) ⟨Nat.le_of_ble_eq_true rfl, Nat.le_of_ble_eq_true rfl⟩ ⟨Nat.le_of_ble_eq_true rfl, Nat.le_of_ble_eq_true rfl⟩ dX3_init_17 (fun G F hG => ?_)
  refine X_putr F hin (C := RX3) (T := TX3) (N := 12) (ty0 := tyX3) (sh' := sc3_18) (k := 2) (cell := 0) (ci := 3) (tm := [.ref 1, .int 0, .null, .null, .null, .int 0, .int 0, .int 0, .int 0, .null, .int 0, .null]) rfl (by decide) wsIn3 tyX3_ok nmX3 (tmem 111 (by decide +kernel) rfl) ⟨rfl, rfl⟩ (tyX3_ok 2 (by decide)) (fun a => ⟨rfl, rfl⟩) rfl (Nat.le_of_ble_eq_true rfl) rfl dX3_init_19 (fun F => ?_)
  have hG := GEx.put (sh' := sc3_18) hG rfl F.2.2.2.2.2.2.2.1
  refine X_aload_n F dX3_init_22 rfl ?_
  refine X_sipush F dX3_init_23 (v := (161 : Int32)) rfl ?_
  refine N_newa (sh' := sc3_19) (N := 161) (n := 3) F hG rfl rfl ac_int ⟨by decide, by decide, Nat.le_of_ble_eq_true rfl⟩ (by decide +kernel) ⟨Nat.le_of_ble_eq_true rfl, Nat.le_of_ble_eq_true rfl⟩ ⟨Nat.le_of_ble_eq_true rfl, Nat.le_of_ble_eq_true rfl⟩ dX3_init_26 (fun G F hG => ?_)
  refine X_putr F hin (C := RX3) (T := TX3) (N := 12) (ty0 := tyX3) (sh' := sc3_20) (k := 3) (cell := 0) (ci := 3) (tm := [.ref 1, .int 0, .ref 2, .null, .null, .int 0, .int 0, .int 0, .int 0, .null, .int 0, .null]) rfl (by decide) wsIn3 tyX3_ok nmX3 (tmem 112 (by decide +kernel) rfl) ⟨rfl, rfl⟩ (tyX3_ok 3 (by decide)) (fun a => ⟨rfl, rfl⟩) rfl (Nat.le_of_ble_eq_true rfl) rfl dX3_init_28 (fun F => ?_)
  have hG := GEx.put (sh' := sc3_20) hG rfl F.2.2.2.2.2.2.2.1
  refine X_aload_n F dX3_init_31 rfl ?_
  refine X_sipush F dX3_init_32 (v := (161 : Int32)) rfl ?_
  refine N_newa (sh' := sc3_21) (N := 161) (n := 4) F hG rfl rfl ac_int ⟨by decide, by decide, Nat.le_of_ble_eq_true rfl⟩ (by decide +kernel) ⟨Nat.le_of_ble_eq_true rfl, Nat.le_of_ble_eq_true rfl⟩ ⟨Nat.le_of_ble_eq_true rfl, Nat.le_of_ble_eq_true rfl⟩ dX3_init_35 (fun G F hG => ?_)
  refine X_putr F hin (C := RX3) (T := TX3) (N := 12) (ty0 := tyX3) (sh' := sc3_22) (k := 4) (cell := 0) (ci := 3) (tm := [.ref 1, .int 0, .ref 2, .ref 3, .null, .int 0, .int 0, .int 0, .int 0, .null, .int 0, .null]) rfl (by decide) wsIn3 tyX3_ok nmX3 (tmem 113 (by decide +kernel) rfl) ⟨rfl, rfl⟩ (tyX3_ok 4 (by decide)) (fun a => ⟨rfl, rfl⟩) rfl (Nat.le_of_ble_eq_true rfl) rfl dX3_init_37 (fun F => ?_)
  have hG := GEx.put (sh' := sc3_22) hG rfl F.2.2.2.2.2.2.2.1
  refine X_aload_n F dX3_init_40 rfl ?_
  refine X_sipush F dX3_init_41 (v := (160 : Int32)) rfl ?_
  refine N_newa (sh' := sc3_23) (N := 160) (n := 5) F hG rfl rfl ac_int ⟨by decide, by decide, Nat.le_of_ble_eq_true rfl⟩ (by decide +kernel) ⟨Nat.le_of_ble_eq_true rfl, Nat.le_of_ble_eq_true rfl⟩ ⟨Nat.le_of_ble_eq_true rfl, Nat.le_of_ble_eq_true rfl⟩ dX3_init_44 (fun G F hG => ?_)
  refine X_putr F hin (C := RX3) (T := TX3) (N := 12) (ty0 := tyX3) (sh' := sc3_24) (k := 9) (cell := 0) (ci := 3) (tm := [.ref 1, .int 0, .ref 2, .ref 3, .ref 4, .int 0, .int 0, .int 0, .int 0, .null, .int 0, .null]) rfl (by decide) wsIn3 tyX3_ok nmX3 (tmem 119 (by decide +kernel) rfl) ⟨rfl, rfl⟩ (tyX3_ok 9 (by decide)) (fun a => ⟨rfl, rfl⟩) rfl (Nat.le_of_ble_eq_true rfl) rfl dX3_init_46 (fun F => ?_)
  have hG := GEx.put (sh' := sc3_24) hG rfl F.2.2.2.2.2.2.2.1
  refine X_aload_n F dX3_init_49 rfl ?_
  refine X_iconst F dX3_init_50 (v := (4 : Int32)) rfl ?_
  refine N_newa (sh' := sc3_25) (N := 4) (n := 6) F hG rfl rfl ac_int ⟨by decide, by decide, Nat.le_of_ble_eq_true rfl⟩ (by decide +kernel) ⟨Nat.le_of_ble_eq_true rfl, Nat.le_of_ble_eq_true rfl⟩ ⟨Nat.le_of_ble_eq_true rfl, Nat.le_of_ble_eq_true rfl⟩ dX3_init_51 (fun G F hG => ?_)
  refine X_putr F hin (C := RX3) (T := TX3) (N := 12) (ty0 := tyX3) (sh' := sc3_26) (k := 11) (cell := 0) (ci := 3) (tm := [.ref 1, .int 0, .ref 2, .ref 3, .ref 4, .int 0, .int 0, .int 0, .int 0, .ref 5, .int 0, .null]) rfl (by decide) wsIn3 tyX3_ok nmX3 (tmem 122 (by decide +kernel) rfl) ⟨rfl, rfl⟩ (tyX3_ok 11 (by decide)) (fun a => ⟨rfl, rfl⟩) rfl (Nat.le_of_ble_eq_true rfl) rfl dX3_init_53 (fun F => ?_)
  have hG := GEx.put (sh' := sc3_26) hG rfl F.2.2.2.2.2.2.2.1
  exact X_nret F hr hlk hG dX3_init_56
set_option maxRecDepth 20000 in
set_option maxHeartbeats 4000000 in
theorem N4_init_met {l : Launch} {G0 : GG} {M : Mem} (hI : Inj sc4_27 G0.2.1) (sz : Nat) : MetN sc4_27 sc4_36 l G0 yX4_init cX4_init 2 3 16 1162 [.ref 0, .ref 100] M (mN4 M) sz := by
  refine X_metN hI (by decide +kernel) rfl (Nat.le_of_ble_eq_true rfl) (fun p e s m args below meth c hsz F hr hlk hin => ?_)
  have hG : GEx sc4_27 sc4_27 G0 G0 s.heap.size := GEx.rf hI
  show XJ sc4_27 p l e _ s m args below meth c 0 0 G0 2 _ 0 [(0, .ref 0), (1, .ref 100)] [] M
  refine X_aload_n F dX4_init_0 rfl ?_
  refine X_objinit F ⟨(tmem 154 (by decide +kernel) rfl), ob_in, ob_co⟩ ⟨Nat.le_of_ble_eq_true rfl, Nat.le_of_ble_eq_true rfl⟩ (Nat.le_of_ble_eq_true rfl) dX4_init_1 ?_
  refine X_aload_n F dX4_init_4 rfl ?_
  refine X_bipush F dX4_init_5 (v := (6 : Int32)) rfl ?_
  refine X_sipush F dX4_init_7 (v := (160 : Int32)) rfl ?_
  refine N_mna (sh' := sc4_28) (N := 6) (K := 160) (nn := 1) F hG rfl rfl ⟨(tmem 155 (by decide +kernel) rfl), aov_int, ac_int⟩ ⟨by decide, by decide, by decide, by decide, Nat.le_of_ble_eq_true rfl, Nat.le_of_ble_eq_true rfl, Nat.le_of_ble_eq_true rfl⟩ (by decide +kernel) ⟨Nat.le_of_ble_eq_true rfl, Nat.le_of_ble_eq_true rfl⟩ (Nat.le_of_ble_eq_true rfl) dX4_init_10 (fun G F hG => ?_)
  refine X_putr F hin (C := RX4) (T := TX4) (N := 7) (ty0 := tyX4) (sh' := sc4_29) (k := 1) (cell := 0) (ci := 4) (tm := [.null, .null, .null, .null, .null, .int 0, .int 0]) rfl (by decide) wsIn4 tyX4_ok nmX4 (tmem 158 (by decide +kernel) rfl) ⟨rfl, rfl⟩ (tyX4_ok 1 (by decide)) (fun a => ⟨rfl, rfl⟩) rfl (Nat.le_of_ble_eq_true rfl) rfl dX4_init_14 (fun F => ?_)
  have hG := GEx.put (sh' := sc4_29) hG rfl F.2.2.2.2.2.2.2.1
  refine X_aload_n F dX4_init_17 rfl ?_
  refine X_bipush F dX4_init_18 (v := (6 : Int32)) rfl ?_
  refine X_iconst F dX4_init_20 (v := (4 : Int32)) rfl ?_
  refine N_mna (sh' := sc4_30) (N := 6) (K := 4) (nn := 8) F hG rfl rfl ⟨(tmem 155 (by decide +kernel) rfl), aov_int, ac_int⟩ ⟨by decide, by decide, by decide, by decide, Nat.le_of_ble_eq_true rfl, Nat.le_of_ble_eq_true rfl, Nat.le_of_ble_eq_true rfl⟩ (by decide +kernel) ⟨Nat.le_of_ble_eq_true rfl, Nat.le_of_ble_eq_true rfl⟩ (Nat.le_of_ble_eq_true rfl) dX4_init_21 (fun G F hG => ?_)
  refine X_putr F hin (C := RX4) (T := TX4) (N := 7) (ty0 := tyX4) (sh' := sc4_31) (k := 2) (cell := 0) (ci := 4) (tm := [.null, .ref 1, .null, .null, .null, .int 0, .int 0]) rfl (by decide) wsIn4 tyX4_ok nmX4 (tmem 159 (by decide +kernel) rfl) ⟨rfl, rfl⟩ (tyX4_ok 2 (by decide)) (fun a => ⟨rfl, rfl⟩) rfl (Nat.le_of_ble_eq_true rfl) rfl dX4_init_25 (fun F => ?_)
  have hG := GEx.put (sh' := sc4_31) hG rfl F.2.2.2.2.2.2.2.1
  refine X_aload_n F dX4_init_28 rfl ?_
  refine X_bipush F dX4_init_29 (v := (6 : Int32)) rfl ?_
  refine N_newa (sh' := sc4_32) (N := 6) (n := 15) F hG rfl rfl ac_int ⟨by decide, by decide, Nat.le_of_ble_eq_true rfl⟩ (by decide +kernel) ⟨Nat.le_of_ble_eq_true rfl, Nat.le_of_ble_eq_true rfl⟩ ⟨Nat.le_of_ble_eq_true rfl, Nat.le_of_ble_eq_true rfl⟩ dX4_init_31 (fun G F hG => ?_)
  refine X_putr F hin (C := RX4) (T := TX4) (N := 7) (ty0 := tyX4) (sh' := sc4_33) (k := 3) (cell := 0) (ci := 4) (tm := [.null, .ref 1, .ref 8, .null, .null, .int 0, .int 0]) rfl (by decide) wsIn4 tyX4_ok nmX4 (tmem 160 (by decide +kernel) rfl) ⟨rfl, rfl⟩ (tyX4_ok 3 (by decide)) (fun a => ⟨rfl, rfl⟩) rfl (Nat.le_of_ble_eq_true rfl) rfl dX4_init_33 (fun F => ?_)
  have hG := GEx.put (sh' := sc4_33) hG rfl F.2.2.2.2.2.2.2.1
  refine X_aload_n F dX4_init_36 rfl ?_
  refine X_sipush F dX4_init_37 (v := (160 : Int32)) rfl ?_
  refine N_newa (sh' := sc4_34) (N := 160) (n := 16) F hG rfl rfl ac_int ⟨by decide, by decide, Nat.le_of_ble_eq_true rfl⟩ (by decide +kernel) ⟨Nat.le_of_ble_eq_true rfl, Nat.le_of_ble_eq_true rfl⟩ ⟨Nat.le_of_ble_eq_true rfl, Nat.le_of_ble_eq_true rfl⟩ dX4_init_40 (fun G F hG => ?_)
  refine X_putr F hin (C := RX4) (T := TX4) (N := 7) (ty0 := tyX4) (sh' := sc4_35) (k := 4) (cell := 0) (ci := 4) (tm := [.null, .ref 1, .ref 8, .ref 15, .null, .int 0, .int 0]) rfl (by decide) wsIn4 tyX4_ok nmX4 (tmem 161 (by decide +kernel) rfl) ⟨rfl, rfl⟩ (tyX4_ok 4 (by decide)) (fun a => ⟨rfl, rfl⟩) rfl (Nat.le_of_ble_eq_true rfl) rfl dX4_init_42 (fun F => ?_)
  have hG := GEx.put (sh' := sc4_35) hG rfl F.2.2.2.2.2.2.2.1
  refine X_aload_n F dX4_init_45 rfl ?_
  refine X_aload_n F dX4_init_46 rfl ?_
  refine X_putr F hin (C := RX4) (T := TX4) (N := 7) (ty0 := tyX4) (sh' := sc4_36) (k := 0) (cell := 0) (ci := 4) (tm := [.null, .ref 1, .ref 8, .ref 15, .ref 16, .int 0, .int 0]) rfl (by decide) wsIn4 tyX4_ok nmX4 (tmem 157 (by decide +kernel) rfl) ⟨rfl, rfl⟩ (tyX4_ok 0 (by decide)) (fun a => ⟨rfl, rfl⟩) rfl (Nat.le_of_ble_eq_true rfl) rfl dX4_init_47 (fun F => ?_)
  have hG := GEx.put (sh' := sc4_36) hG rfl F.2.2.2.2.2.2.2.1
  exact X_nret F hr hlk hG dX4_init_50
set_option maxRecDepth 20000 in
set_option maxHeartbeats 4000000 in
theorem N7_init_met {l : Launch} {G0 : GG} {M : Mem} (hI : Inj sc7_37 G0.2.1) (sz : Nat) : MetN sc7_37 sc7_39 l G0 yX7_init cX7_init 3 3 0 0 [.ref 0, .ref 100, .ref 101] M (mN7 M) sz := by
  refine X_metN hI (by decide +kernel) rfl (Nat.le_of_ble_eq_true rfl) (fun p e s m args below meth c hsz F hr hlk hin => ?_)
  have hG : GEx sc7_37 sc7_37 G0 G0 s.heap.size := GEx.rf hI
  show XJ sc7_37 p l e _ s m args below meth c 0 0 G0 3 _ 0 [(0, .ref 0), (1, .ref 100), (2, .ref 101)] [] M
  refine X_aload_n F dX7_init_0 rfl ?_
  refine X_objinit F ⟨(tmem 187 (by decide +kernel) rfl), ob_in, ob_co⟩ ⟨Nat.le_of_ble_eq_true rfl, Nat.le_of_ble_eq_true rfl⟩ (Nat.le_of_ble_eq_true rfl) dX7_init_1 ?_
  refine X_aload_n F dX7_init_4 rfl ?_
  refine X_aload_n F dX7_init_5 rfl ?_
  refine X_putr F hin (C := RX7) (T := TX7) (N := 2) (ty0 := tyX7) (sh' := sc7_38) (k := 0) (cell := 0) (ci := 7) (tm := [.null, .null]) rfl (by decide) wsIn7 tyX7_ok nmX7 (tmem 188 (by decide +kernel) rfl) ⟨rfl, rfl⟩ (tyX7_ok 0 (by decide)) (fun a => ⟨rfl, rfl⟩) rfl (Nat.le_of_ble_eq_true rfl) rfl dX7_init_6 (fun F => ?_)
  have hG := GEx.put (sh' := sc7_38) hG rfl F.2.2.2.2.2.2.2.1
  refine X_aload_n F dX7_init_9 rfl ?_
  refine X_aload_n F dX7_init_10 rfl ?_
  refine X_putr F hin (C := RX7) (T := TX7) (N := 2) (ty0 := tyX7) (sh' := sc7_39) (k := 1) (cell := 0) (ci := 7) (tm := [.ref 100, .null]) rfl (by decide) wsIn7 tyX7_ok nmX7 (tmem 189 (by decide +kernel) rfl) ⟨rfl, rfl⟩ (tyX7_ok 1 (by decide)) (fun a => ⟨rfl, rfl⟩) rfl (Nat.le_of_ble_eq_true rfl) rfl dX7_init_11 (fun F => ?_)
  have hG := GEx.put (sh' := sc7_39) hG rfl F.2.2.2.2.2.2.2.1
  exact X_nret F hr hlk hG dX7_init_14
set_option maxRecDepth 20000 in
set_option maxHeartbeats 4000000 in
theorem N0_init_met {l : Launch} {G0 : GG} {M : Mem} (hI : Inj sc0_40 G0.2.1) (sz : Nat) : MetN sc0_40 sc0_57 l G0 yX0_init cX0_init 4 3 7 223 [.ref 0, .ref 100, .ref 101, .ref 102] M (mN0 M) sz := by
  refine X_metN hI (by decide +kernel) rfl (Nat.le_of_ble_eq_true rfl) (fun p e s m args below meth c hsz F hr hlk hin => ?_)
  have hG : GEx sc0_40 sc0_40 G0 G0 s.heap.size := GEx.rf hI
  show XJ sc0_40 p l e _ s m args below meth c 0 0 G0 4 _ 0 [(0, .ref 0), (1, .ref 100), (2, .ref 101), (3, .ref 102)] [] M
  refine X_aload_n F dX0_init_0 rfl ?_
  refine X_objinit F ⟨(tmem 200 (by decide +kernel) rfl), ob_in, ob_co⟩ ⟨Nat.le_of_ble_eq_true rfl, Nat.le_of_ble_eq_true rfl⟩ (Nat.le_of_ble_eq_true rfl) dX0_init_1 ?_
  refine X_aload_n F dX0_init_4 rfl ?_
  refine X_bipush F dX0_init_5 (v := (7 : Int32)) rfl ?_
  refine N_newa (sh' := sc0_41) (N := 7) (n := 1) F hG rfl rfl ac_int ⟨by decide, by decide, Nat.le_of_ble_eq_true rfl⟩ (by decide +kernel) ⟨Nat.le_of_ble_eq_true rfl, Nat.le_of_ble_eq_true rfl⟩ ⟨Nat.le_of_ble_eq_true rfl, Nat.le_of_ble_eq_true rfl⟩ dX0_init_7 (fun G F hG => ?_)
  refine X_putr F hin (C := RX0) (T := TX0) (N := 16) (ty0 := tyX0) (sh' := sc0_42) (k := 3) (cell := 0) (ci := 0) (tm := [.null, .null, .null, .null, .null, .null, .int 0, .null, .int 0, .null, .null, .null, .int 0, .int 0, .int 0, .int 0]) rfl (by decide) wsIn0 tyX0_ok nmX0 (tmem 204 (by decide +kernel) rfl) ⟨rfl, rfl⟩ (tyX0_ok 3 (by decide)) (fun a => ⟨rfl, rfl⟩) rfl (Nat.le_of_ble_eq_true rfl) rfl dX0_init_9 (fun F => ?_)
  have hG := GEx.put (sh' := sc0_42) hG rfl F.2.2.2.2.2.2.2.1
  refine X_aload_n F dX0_init_12 rfl ?_
  refine X_bipush F dX0_init_13 (v := (9 : Int32)) rfl ?_
  refine N_newa (sh' := sc0_43) (N := 9) (n := 2) F hG rfl rfl ac_int ⟨by decide, by decide, Nat.le_of_ble_eq_true rfl⟩ (by decide +kernel) ⟨Nat.le_of_ble_eq_true rfl, Nat.le_of_ble_eq_true rfl⟩ ⟨Nat.le_of_ble_eq_true rfl, Nat.le_of_ble_eq_true rfl⟩ dX0_init_15 (fun G F hG => ?_)
  refine X_putr F hin (C := RX0) (T := TX0) (N := 16) (ty0 := tyX0) (sh' := sc0_44) (k := 4) (cell := 0) (ci := 0) (tm := [.null, .null, .null, .ref 1, .null, .null, .int 0, .null, .int 0, .null, .null, .null, .int 0, .int 0, .int 0, .int 0]) rfl (by decide) wsIn0 tyX0_ok nmX0 (tmem 205 (by decide +kernel) rfl) ⟨rfl, rfl⟩ (tyX0_ok 4 (by decide)) (fun a => ⟨rfl, rfl⟩) rfl (Nat.le_of_ble_eq_true rfl) rfl dX0_init_17 (fun F => ?_)
  have hG := GEx.put (sh' := sc0_44) hG rfl F.2.2.2.2.2.2.2.1
  refine X_aload_n F dX0_init_20 rfl ?_
  refine X_bipush F dX0_init_21 (v := (9 : Int32)) rfl ?_
  refine N_newa (sh' := sc0_45) (N := 9) (n := 3) F hG rfl rfl ac_int ⟨by decide, by decide, Nat.le_of_ble_eq_true rfl⟩ (by decide +kernel) ⟨Nat.le_of_ble_eq_true rfl, Nat.le_of_ble_eq_true rfl⟩ ⟨Nat.le_of_ble_eq_true rfl, Nat.le_of_ble_eq_true rfl⟩ dX0_init_23 (fun G F hG => ?_)
  refine X_putr F hin (C := RX0) (T := TX0) (N := 16) (ty0 := tyX0) (sh' := sc0_46) (k := 5) (cell := 0) (ci := 0) (tm := [.null, .null, .null, .ref 1, .ref 2, .null, .int 0, .null, .int 0, .null, .null, .null, .int 0, .int 0, .int 0, .int 0]) rfl (by decide) wsIn0 tyX0_ok nmX0 (tmem 206 (by decide +kernel) rfl) ⟨rfl, rfl⟩ (tyX0_ok 5 (by decide)) (fun a => ⟨rfl, rfl⟩) rfl (Nat.le_of_ble_eq_true rfl) rfl dX0_init_25 (fun F => ?_)
  have hG := GEx.put (sh' := sc0_46) hG rfl F.2.2.2.2.2.2.2.1
  refine X_aload_n F dX0_init_28 rfl ?_
  refine X_bipush F dX0_init_29 (v := (6 : Int32)) rfl ?_
  refine N_newa (sh' := sc0_47) (N := 6) (n := 4) F hG rfl rfl ac_int ⟨by decide, by decide, Nat.le_of_ble_eq_true rfl⟩ (by decide +kernel) ⟨Nat.le_of_ble_eq_true rfl, Nat.le_of_ble_eq_true rfl⟩ ⟨Nat.le_of_ble_eq_true rfl, Nat.le_of_ble_eq_true rfl⟩ dX0_init_31 (fun G F hG => ?_)
  refine X_putr F hin (C := RX0) (T := TX0) (N := 16) (ty0 := tyX0) (sh' := sc0_48) (k := 7) (cell := 0) (ci := 0) (tm := [.null, .null, .null, .ref 1, .ref 2, .ref 3, .int 0, .null, .int 0, .null, .null, .null, .int 0, .int 0, .int 0, .int 0]) rfl (by decide) wsIn0 tyX0_ok nmX0 (tmem 208 (by decide +kernel) rfl) ⟨rfl, rfl⟩ (tyX0_ok 7 (by decide)) (fun a => ⟨rfl, rfl⟩) rfl (Nat.le_of_ble_eq_true rfl) rfl dX0_init_33 (fun F => ?_)
  have hG := GEx.put (sh' := sc0_48) hG rfl F.2.2.2.2.2.2.2.1
  refine X_aload_n F dX0_init_36 rfl ?_
  refine X_bipush F dX0_init_37 (v := (64 : Int32)) rfl ?_
  refine N_newa (sh' := sc0_49) (N := 64) (n := 5) F hG rfl rfl ac_int ⟨by decide, by decide, Nat.le_of_ble_eq_true rfl⟩ (by decide +kernel) ⟨Nat.le_of_ble_eq_true rfl, Nat.le_of_ble_eq_true rfl⟩ ⟨Nat.le_of_ble_eq_true rfl, Nat.le_of_ble_eq_true rfl⟩ dX0_init_39 (fun G F hG => ?_)
  refine X_putr F hin (C := RX0) (T := TX0) (N := 16) (ty0 := tyX0) (sh' := sc0_50) (k := 9) (cell := 0) (ci := 0) (tm := [.null, .null, .null, .ref 1, .ref 2, .ref 3, .int 0, .ref 4, .int 0, .null, .null, .null, .int 0, .int 0, .int 0, .int 0]) rfl (by decide) wsIn0 tyX0_ok nmX0 (tmem 212 (by decide +kernel) rfl) ⟨rfl, rfl⟩ (tyX0_ok 9 (by decide)) (fun a => ⟨rfl, rfl⟩) rfl (Nat.le_of_ble_eq_true rfl) rfl dX0_init_41 (fun F => ?_)
  have hG := GEx.put (sh' := sc0_50) hG rfl F.2.2.2.2.2.2.2.1
  refine X_aload_n F dX0_init_44 rfl ?_
  refine X_bipush F dX0_init_45 (v := (64 : Int32)) rfl ?_
  refine N_newa (sh' := sc0_51) (N := 64) (n := 6) F hG rfl rfl ac_int ⟨by decide, by decide, Nat.le_of_ble_eq_true rfl⟩ (by decide +kernel) ⟨Nat.le_of_ble_eq_true rfl, Nat.le_of_ble_eq_true rfl⟩ ⟨Nat.le_of_ble_eq_true rfl, Nat.le_of_ble_eq_true rfl⟩ dX0_init_47 (fun G F hG => ?_)
  refine X_putr F hin (C := RX0) (T := TX0) (N := 16) (ty0 := tyX0) (sh' := sc0_52) (k := 10) (cell := 0) (ci := 0) (tm := [.null, .null, .null, .ref 1, .ref 2, .ref 3, .int 0, .ref 4, .int 0, .ref 5, .null, .null, .int 0, .int 0, .int 0, .int 0]) rfl (by decide) wsIn0 tyX0_ok nmX0 (tmem 214 (by decide +kernel) rfl) ⟨rfl, rfl⟩ (tyX0_ok 10 (by decide)) (fun a => ⟨rfl, rfl⟩) rfl (Nat.le_of_ble_eq_true rfl) rfl dX0_init_49 (fun F => ?_)
  have hG := GEx.put (sh' := sc0_52) hG rfl F.2.2.2.2.2.2.2.1
  refine X_aload_n F dX0_init_52 rfl ?_
  refine X_bipush F dX0_init_53 (v := (64 : Int32)) rfl ?_
  refine N_newa (sh' := sc0_53) (N := 64) (n := 7) F hG rfl rfl ac_int ⟨by decide, by decide, Nat.le_of_ble_eq_true rfl⟩ (by decide +kernel) ⟨Nat.le_of_ble_eq_true rfl, Nat.le_of_ble_eq_true rfl⟩ ⟨Nat.le_of_ble_eq_true rfl, Nat.le_of_ble_eq_true rfl⟩ dX0_init_55 (fun G F hG => ?_)
  refine X_putr F hin (C := RX0) (T := TX0) (N := 16) (ty0 := tyX0) (sh' := sc0_54) (k := 11) (cell := 0) (ci := 0) (tm := [.null, .null, .null, .ref 1, .ref 2, .ref 3, .int 0, .ref 4, .int 0, .ref 5, .ref 6, .null, .int 0, .int 0, .int 0, .int 0]) rfl (by decide) wsIn0 tyX0_ok nmX0 (tmem 216 (by decide +kernel) rfl) ⟨rfl, rfl⟩ (tyX0_ok 11 (by decide)) (fun a => ⟨rfl, rfl⟩) rfl (Nat.le_of_ble_eq_true rfl) rfl dX0_init_57 (fun F => ?_)
  have hG := GEx.put (sh' := sc0_54) hG rfl F.2.2.2.2.2.2.2.1
  refine X_aload_n F dX0_init_60 rfl ?_
  refine X_aload_n F dX0_init_61 rfl ?_
  refine X_putr F hin (C := RX0) (T := TX0) (N := 16) (ty0 := tyX0) (sh' := sc0_55) (k := 0) (cell := 0) (ci := 0) (tm := [.null, .null, .null, .ref 1, .ref 2, .ref 3, .int 0, .ref 4, .int 0, .ref 5, .ref 6, .ref 7, .int 0, .int 0, .int 0, .int 0]) rfl (by decide) wsIn0 tyX0_ok nmX0 (tmem 201 (by decide +kernel) rfl) ⟨rfl, rfl⟩ (tyX0_ok 0 (by decide)) (fun a => ⟨rfl, rfl⟩) rfl (Nat.le_of_ble_eq_true rfl) rfl dX0_init_62 (fun F => ?_)
  have hG := GEx.put (sh' := sc0_55) hG rfl F.2.2.2.2.2.2.2.1
  refine X_aload_n F dX0_init_65 rfl ?_
  refine X_aload_n F dX0_init_66 rfl ?_
  refine X_putr F hin (C := RX0) (T := TX0) (N := 16) (ty0 := tyX0) (sh' := sc0_56) (k := 1) (cell := 0) (ci := 0) (tm := [.ref 100, .null, .null, .ref 1, .ref 2, .ref 3, .int 0, .ref 4, .int 0, .ref 5, .ref 6, .ref 7, .int 0, .int 0, .int 0, .int 0]) rfl (by decide) wsIn0 tyX0_ok nmX0 (tmem 202 (by decide +kernel) rfl) ⟨rfl, rfl⟩ (tyX0_ok 1 (by decide)) (fun a => ⟨rfl, rfl⟩) rfl (Nat.le_of_ble_eq_true rfl) rfl dX0_init_67 (fun F => ?_)
  have hG := GEx.put (sh' := sc0_56) hG rfl F.2.2.2.2.2.2.2.1
  refine X_aload_n F dX0_init_70 rfl ?_
  refine X_aload_n F dX0_init_71 rfl ?_
  refine X_putr F hin (C := RX0) (T := TX0) (N := 16) (ty0 := tyX0) (sh' := sc0_57) (k := 2) (cell := 0) (ci := 0) (tm := [.ref 100, .ref 101, .null, .ref 1, .ref 2, .ref 3, .int 0, .ref 4, .int 0, .ref 5, .ref 6, .ref 7, .int 0, .int 0, .int 0, .int 0]) rfl (by decide) wsIn0 tyX0_ok nmX0 (tmem 203 (by decide +kernel) rfl) ⟨rfl, rfl⟩ (tyX0_ok 2 (by decide)) (fun a => ⟨rfl, rfl⟩) rfl (Nat.le_of_ble_eq_true rfl) rfl dX0_init_72 (fun F => ?_)
  have hG := GEx.put (sh' := sc0_57) hG rfl F.2.2.2.2.2.2.2.1
  exact X_nret F hr hlk hG dX0_init_75
set_option maxRecDepth 20000 in
set_option maxHeartbeats 4000000 in
theorem N5_init_met {l : Launch} {G0 : GG} {M : Mem} (hI : Inj sc5_58 G0.2.1) (sz : Nat) : MetN sc5_58 sc5_64 l G0 yX5_init cX5_init 1 3 7 172 [.ref 0] M (mN5 M) sz := by
  refine X_metN hI (by decide +kernel) rfl (Nat.le_of_ble_eq_true rfl) (fun p e s m args below meth c hsz F hr hlk hin => ?_)
  have hG : GEx sc5_58 sc5_58 G0 G0 s.heap.size := GEx.rf hI
  show XJ sc5_58 p l e _ s m args below meth c 0 0 G0 1 _ 0 [(0, .ref 0)] [] M
  refine X_aload_n F dX5_init_0 rfl ?_
  refine X_objinit F ⟨(tmem 262 (by decide +kernel) rfl), ob_in, ob_co⟩ ⟨Nat.le_of_ble_eq_true rfl, Nat.le_of_ble_eq_true rfl⟩ (Nat.le_of_ble_eq_true rfl) dX5_init_1 ?_
  refine X_aload_n F dX5_init_4 rfl ?_
  refine X_iconst F dX5_init_5 (v := (4 : Int32)) rfl ?_
  refine N_newa (sh' := sc5_59) (N := 4) (n := 1) F hG rfl rfl ac_int ⟨by decide, by decide, Nat.le_of_ble_eq_true rfl⟩ (by decide +kernel) ⟨Nat.le_of_ble_eq_true rfl, Nat.le_of_ble_eq_true rfl⟩ ⟨Nat.le_of_ble_eq_true rfl, Nat.le_of_ble_eq_true rfl⟩ dX5_init_6 (fun G F hG => ?_)
  refine X_dup F dX5_init_8 rfl ?_
  refine X_iconst F dX5_init_9 (v := (0 : Int32)) rfl ?_
  refine X_iconst F dX5_init_10 (v := (-1 : Int32)) rfl ?_
  refine X_iast (j := 0) F rfl (inbV (n := 4) (by decide)) (by decide) dX5_init_11 ?_
  refine X_dup F dX5_init_12 rfl ?_
  refine X_iconst F dX5_init_13 (v := (1 : Int32)) rfl ?_
  refine X_iconst F dX5_init_14 (v := (-1 : Int32)) rfl ?_
  refine X_iast (j := 1) F rfl (inbV (n := 4) (by decide)) (by decide) dX5_init_15 ?_
  refine X_dup F dX5_init_16 rfl ?_
  refine X_iconst F dX5_init_17 (v := (2 : Int32)) rfl ?_
  refine X_iconst F dX5_init_18 (v := (-1 : Int32)) rfl ?_
  refine X_iast (j := 2) F rfl (inbV (n := 4) (by decide)) (by decide) dX5_init_19 ?_
  refine X_dup F dX5_init_20 rfl ?_
  refine X_iconst F dX5_init_21 (v := (3 : Int32)) rfl ?_
  refine X_iconst F dX5_init_22 (v := (-1 : Int32)) rfl ?_
  refine X_iast (j := 3) F rfl (inbV (n := 4) (by decide)) (by decide) dX5_init_23 ?_
  refine X_putr F hin (C := RX5) (T := TX5) (N := 3) (ty0 := tyX5) (sh' := sc5_60) (k := 0) (cell := 0) (ci := 5) (tm := [.null, .null, .null]) rfl (by decide) wsIn5 tyX5_ok nmX5 (tmem 264 (by decide +kernel) rfl) ⟨rfl, rfl⟩ (tyX5_ok 0 (by decide)) (fun a => ⟨rfl, rfl⟩) rfl (Nat.le_of_ble_eq_true rfl) rfl dX5_init_24 (fun F => ?_)
  have hG := GEx.put (sh' := sc5_60) hG rfl F.2.2.2.2.2.2.2.1
  refine X_aload_n F dX5_init_27 rfl ?_
  refine X_iconst F dX5_init_28 (v := (4 : Int32)) rfl ?_
  refine N_newa (sh' := sc5_61) (N := 4) (n := 2) F hG rfl rfl ac_int ⟨by decide, by decide, Nat.le_of_ble_eq_true rfl⟩ (by decide +kernel) ⟨Nat.le_of_ble_eq_true rfl, Nat.le_of_ble_eq_true rfl⟩ ⟨Nat.le_of_ble_eq_true rfl, Nat.le_of_ble_eq_true rfl⟩ dX5_init_29 (fun G F hG => ?_)
  refine X_putr F hin (C := RX5) (T := TX5) (N := 3) (ty0 := tyX5) (sh' := sc5_62) (k := 1) (cell := 0) (ci := 5) (tm := [.ref 1, .null, .null]) rfl (by decide) wsIn5 tyX5_ok nmX5 (tmem 266 (by decide +kernel) rfl) ⟨rfl, rfl⟩ (tyX5_ok 1 (by decide)) (fun a => ⟨rfl, rfl⟩) rfl (Nat.le_of_ble_eq_true rfl) rfl dX5_init_31 (fun F => ?_)
  have hG := GEx.put (sh' := sc5_62) hG rfl F.2.2.2.2.2.2.2.1
  refine X_aload_n F dX5_init_34 rfl ?_
  refine X_iconst F dX5_init_35 (v := (4 : Int32)) rfl ?_
  refine X_bipush F dX5_init_36 (v := (40 : Int32)) rfl ?_
  refine N_mna (sh' := sc5_63) (N := 4) (K := 40) (nn := 3) F hG rfl rfl ⟨(tmem 263 (by decide +kernel) rfl), aov_int, ac_int⟩ ⟨by decide, by decide, by decide, by decide, Nat.le_of_ble_eq_true rfl, Nat.le_of_ble_eq_true rfl, Nat.le_of_ble_eq_true rfl⟩ (by decide +kernel) ⟨Nat.le_of_ble_eq_true rfl, Nat.le_of_ble_eq_true rfl⟩ (Nat.le_of_ble_eq_true rfl) dX5_init_38 (fun G F hG => ?_)
  refine X_putr F hin (C := RX5) (T := TX5) (N := 3) (ty0 := tyX5) (sh' := sc5_64) (k := 2) (cell := 0) (ci := 5) (tm := [.ref 1, .ref 2, .null]) rfl (by decide) wsIn5 tyX5_ok nmX5 (tmem 268 (by decide +kernel) rfl) ⟨rfl, rfl⟩ (tyX5_ok 2 (by decide)) (fun a => ⟨rfl, rfl⟩) rfl (Nat.le_of_ble_eq_true rfl) rfl dX5_init_42 (fun F => ?_)
  have hG := GEx.put (sh' := sc5_64) hG rfl F.2.2.2.2.2.2.2.1
  exact X_nret F hr hlk hG dX5_init_45
set_option maxRecDepth 20000 in
set_option maxHeartbeats 4000000 in
theorem N1_init_met {l : Launch} {G0 : GG} {M : Mem} (hI : Inj sc1_65 G0.2.1) (sz : Nat) : MetN sc1_65 sc1_75 l G0 yX1_init cX1_init 1 3 5 34 [.ref 0] M (mN1 M) sz := by
  refine X_metN hI (by decide +kernel) rfl (Nat.le_of_ble_eq_true rfl) (fun p e s m args below meth c hsz F hr hlk hin => ?_)
  have hG : GEx sc1_65 sc1_65 G0 G0 s.heap.size := GEx.rf hI
  show XJ sc1_65 p l e _ s m args below meth c 0 0 G0 1 _ 0 [(0, .ref 0)] [] M
  refine X_aload_n F dX1_init_0 rfl ?_
  refine X_objinit F ⟨(tmem 282 (by decide +kernel) rfl), ob_in, ob_co⟩ ⟨Nat.le_of_ble_eq_true rfl, Nat.le_of_ble_eq_true rfl⟩ (Nat.le_of_ble_eq_true rfl) dX1_init_1 ?_
  refine X_aload_n F dX1_init_4 rfl ?_
  refine X_bipush F dX1_init_5 (v := (8 : Int32)) rfl ?_
  refine N_newa (sh' := sc1_66) (N := 8) (n := 1) F hG rfl rfl ac_int ⟨by decide, by decide, Nat.le_of_ble_eq_true rfl⟩ (by decide +kernel) ⟨Nat.le_of_ble_eq_true rfl, Nat.le_of_ble_eq_true rfl⟩ ⟨Nat.le_of_ble_eq_true rfl, Nat.le_of_ble_eq_true rfl⟩ dX1_init_7 (fun G F hG => ?_)
  refine X_putr F hin (C := RX1) (T := TX1) (N := 11) (ty0 := tyX1) (sh' := sc1_67) (k := 6) (cell := 0) (ci := 1) (tm := [.int 0, .int 0, .int 0, .int 0, .int 0, .int 0, .null, .null, .null, .null, .null]) rfl (by decide) wsIn1 tyX1_ok nmX1 (tmem 291 (by decide +kernel) rfl) ⟨rfl, rfl⟩ (tyX1_ok 6 (by decide)) (fun a => ⟨rfl, rfl⟩) rfl (Nat.le_of_ble_eq_true rfl) rfl dX1_init_9 (fun F => ?_)
  have hG := GEx.put (sh' := sc1_67) hG rfl F.2.2.2.2.2.2.2.1
  refine X_aload_n F dX1_init_12 rfl ?_
  refine X_bipush F dX1_init_13 (v := (8 : Int32)) rfl ?_
  refine N_newa (sh' := sc1_68) (N := 8) (n := 2) F hG rfl rfl ac_int ⟨by decide, by decide, Nat.le_of_ble_eq_true rfl⟩ (by decide +kernel) ⟨Nat.le_of_ble_eq_true rfl, Nat.le_of_ble_eq_true rfl⟩ ⟨Nat.le_of_ble_eq_true rfl, Nat.le_of_ble_eq_true rfl⟩ dX1_init_15 (fun G F hG => ?_)
  refine X_putr F hin (C := RX1) (T := TX1) (N := 11) (ty0 := tyX1) (sh' := sc1_69) (k := 7) (cell := 0) (ci := 1) (tm := [.int 0, .int 0, .int 0, .int 0, .int 0, .int 0, .ref 1, .null, .null, .null, .null]) rfl (by decide) wsIn1 tyX1_ok nmX1 (tmem 292 (by decide +kernel) rfl) ⟨rfl, rfl⟩ (tyX1_ok 7 (by decide)) (fun a => ⟨rfl, rfl⟩) rfl (Nat.le_of_ble_eq_true rfl) rfl dX1_init_17 (fun F => ?_)
  have hG := GEx.put (sh' := sc1_69) hG rfl F.2.2.2.2.2.2.2.1
  refine X_aload_n F dX1_init_20 rfl ?_
  refine X_bipush F dX1_init_21 (v := (6 : Int32)) rfl ?_
  refine N_newa (sh' := sc1_70) (N := 6) (n := 3) F hG rfl rfl ac_int ⟨by decide, by decide, Nat.le_of_ble_eq_true rfl⟩ (by decide +kernel) ⟨Nat.le_of_ble_eq_true rfl, Nat.le_of_ble_eq_true rfl⟩ ⟨Nat.le_of_ble_eq_true rfl, Nat.le_of_ble_eq_true rfl⟩ dX1_init_23 (fun G F hG => ?_)
  refine X_putr F hin (C := RX1) (T := TX1) (N := 11) (ty0 := tyX1) (sh' := sc1_71) (k := 8) (cell := 0) (ci := 1) (tm := [.int 0, .int 0, .int 0, .int 0, .int 0, .int 0, .ref 1, .ref 2, .null, .null, .null]) rfl (by decide) wsIn1 tyX1_ok nmX1 (tmem 293 (by decide +kernel) rfl) ⟨rfl, rfl⟩ (tyX1_ok 8 (by decide)) (fun a => ⟨rfl, rfl⟩) rfl (Nat.le_of_ble_eq_true rfl) rfl dX1_init_25 (fun F => ?_)
  have hG := GEx.put (sh' := sc1_71) hG rfl F.2.2.2.2.2.2.2.1
  refine X_aload_n F dX1_init_28 rfl ?_
  refine X_bipush F dX1_init_29 (v := (6 : Int32)) rfl ?_
  refine N_newa (sh' := sc1_72) (N := 6) (n := 4) F hG rfl rfl ac_int ⟨by decide, by decide, Nat.le_of_ble_eq_true rfl⟩ (by decide +kernel) ⟨Nat.le_of_ble_eq_true rfl, Nat.le_of_ble_eq_true rfl⟩ ⟨Nat.le_of_ble_eq_true rfl, Nat.le_of_ble_eq_true rfl⟩ dX1_init_31 (fun G F hG => ?_)
  refine X_putr F hin (C := RX1) (T := TX1) (N := 11) (ty0 := tyX1) (sh' := sc1_73) (k := 9) (cell := 0) (ci := 1) (tm := [.int 0, .int 0, .int 0, .int 0, .int 0, .int 0, .ref 1, .ref 2, .ref 3, .null, .null]) rfl (by decide) wsIn1 tyX1_ok nmX1 (tmem 294 (by decide +kernel) rfl) ⟨rfl, rfl⟩ (tyX1_ok 9 (by decide)) (fun a => ⟨rfl, rfl⟩) rfl (Nat.le_of_ble_eq_true rfl) rfl dX1_init_33 (fun F => ?_)
  have hG := GEx.put (sh' := sc1_73) hG rfl F.2.2.2.2.2.2.2.1
  refine X_aload_n F dX1_init_36 rfl ?_
  refine X_bipush F dX1_init_37 (v := (6 : Int32)) rfl ?_
  refine N_newa (sh' := sc1_74) (N := 6) (n := 5) F hG rfl rfl ac_int ⟨by decide, by decide, Nat.le_of_ble_eq_true rfl⟩ (by decide +kernel) ⟨Nat.le_of_ble_eq_true rfl, Nat.le_of_ble_eq_true rfl⟩ ⟨Nat.le_of_ble_eq_true rfl, Nat.le_of_ble_eq_true rfl⟩ dX1_init_39 (fun G F hG => ?_)
  refine X_putr F hin (C := RX1) (T := TX1) (N := 11) (ty0 := tyX1) (sh' := sc1_75) (k := 10) (cell := 0) (ci := 1) (tm := [.int 0, .int 0, .int 0, .int 0, .int 0, .int 0, .ref 1, .ref 2, .ref 3, .ref 4, .null]) rfl (by decide) wsIn1 tyX1_ok nmX1 (tmem 295 (by decide +kernel) rfl) ⟨rfl, rfl⟩ (tyX1_ok 10 (by decide)) (fun a => ⟨rfl, rfl⟩) rfl (Nat.le_of_ble_eq_true rfl) rfl dX1_init_41 (fun F => ?_)
  have hG := GEx.put (sh' := sc1_75) hG rfl F.2.2.2.2.2.2.2.1
  exact X_nret F hr hlk hG dX1_init_44
