/-! CONSTRUCTORS of the parts: written by wip/whole/gen/genctor.py -/

theorem ac_int : Cond.arrayClass .int ∈ TBL := tmem 72 (by decide +kernel) rfl
theorem ac_bool : Cond.arrayClass .boolean ∈ TBL := tmem 1100 (by decide +kernel) rfl
theorem aov_int : Cond.arrayOver (.array .int) ∈ NTB := nmem 156 (by decide +kernel) rfl
theorem ob_in : Cond.instanceMethod objectInit ∈ TBL := tmem 24 (by decide +kernel) rfl
theorem ob_co : Cond.code objectInit ⟨#[0xb1]⟩ 1 none ∈ TBL := tmem 25 (by decide +kernel) rfl
def sc2_0 : List Shp := [.inr (2, [.null, .null, .null, .int 0, .int 0, .int 0])]
def sc2_1 : List Shp := [.inr (2, [.null, .null, .null, .int 0, .int 0, .int 0]), .inl (0, 8)]
def sc2_2 : List Shp := [.inr (2, [.ref 1, .null, .null, .int 0, .int 0, .int 0]), .inl (0, 8)]
def sc2_3 : List Shp := [.inr (2, [.ref 1, .null, .null, .int 0, .int 0, .int 0]), .inl (0, 8), .inl (0, 8)]
def sc2_4 : List Shp := [.inr (2, [.ref 1, .ref 2, .null, .int 0, .int 0, .int 0]), .inl (0, 8), .inl (0, 8)]
def sc2_5 : List Shp := [.inr (2, [.ref 1, .ref 2, .null, .int 0, .int 0, .int 0]), .inl (0, 8), .inl (0, 8), .inl (0, 8)]
def sc2_6 : List Shp := [.inr (2, [.ref 1, .ref 2, .ref 3, .int 0, .int 0, .int 0]), .inl (0, 8), .inl (0, 8), .inl (0, 8)]
def sc6_7 : List Shp := [.inr (6, [.null, .null, .null, .int 0])]
def sc6_8 : List Shp := [.inr (6, [.null, .null, .null, .int 0]), .inl (0, 6)]
def sc6_9 : List Shp := [.inr (6, [.ref 1, .null, .null, .int 0]), .inl (0, 6)]
def sc6_10 : List Shp := [.inr (6, [.ref 1, .null, .null, .int 0]), .inl (0, 6), .inl (0, 6)]
def sc6_11 : List Shp := [.inr (6, [.ref 1, .ref 2, .null, .int 0]), .inl (0, 6), .inl (0, 6)]
def sc6_12 : List Shp := [.inr (6, [.ref 1, .ref 2, .null, .int 0]), .inl (0, 6), .inl (0, 6), .inl (0, 6)]
def sc6_13 : List Shp := [.inr (6, [.ref 1, .ref 2, .ref 3, .int 0]), .inl (0, 6), .inl (0, 6), .inl (0, 6)]
def sc3_14 : List Shp := [.inr (3, [.null, .int 0, .null, .null, .null, .int 0, .int 0, .int 0, .int 0, .null, .int 0, .null])]
def sc3_15 : List Shp := [.inr (3, [.null, .int 0, .null, .null, .null, .int 0, .int 0, .int 0, .int 0, .null, .int 0, .null]), .inl (0, 160)]
def sc3_16 : List Shp := [.inr (3, [.ref 1, .int 0, .null, .null, .null, .int 0, .int 0, .int 0, .int 0, .null, .int 0, .null]), .inl (0, 160)]
def sc3_17 : List Shp := [.inr (3, [.ref 1, .int 0, .null, .null, .null, .int 0, .int 0, .int 0, .int 0, .null, .int 0, .null]), .inl (0, 160), .inl (0, 161)]
def sc3_18 : List Shp := [.inr (3, [.ref 1, .int 0, .ref 2, .null, .null, .int 0, .int 0, .int 0, .int 0, .null, .int 0, .null]), .inl (0, 160), .inl (0, 161)]
def sc3_19 : List Shp := [.inr (3, [.ref 1, .int 0, .ref 2, .null, .null, .int 0, .int 0, .int 0, .int 0, .null, .int 0, .null]), .inl (0, 160), .inl (0, 161), .inl (0, 161)]
def sc3_20 : List Shp := [.inr (3, [.ref 1, .int 0, .ref 2, .ref 3, .null, .int 0, .int 0, .int 0, .int 0, .null, .int 0, .null]), .inl (0, 160), .inl (0, 161), .inl (0, 161)]
def sc3_21 : List Shp := [.inr (3, [.ref 1, .int 0, .ref 2, .ref 3, .null, .int 0, .int 0, .int 0, .int 0, .null, .int 0, .null]), .inl (0, 160), .inl (0, 161), .inl (0, 161), .inl (0, 161)]
def sc3_22 : List Shp := [.inr (3, [.ref 1, .int 0, .ref 2, .ref 3, .ref 4, .int 0, .int 0, .int 0, .int 0, .null, .int 0, .null]), .inl (0, 160), .inl (0, 161), .inl (0, 161), .inl (0, 161)]
def sc3_23 : List Shp := [.inr (3, [.ref 1, .int 0, .ref 2, .ref 3, .ref 4, .int 0, .int 0, .int 0, .int 0, .null, .int 0, .null]), .inl (0, 160), .inl (0, 161), .inl (0, 161), .inl (0, 161), .inl (0, 160)]
def sc3_24 : List Shp := [.inr (3, [.ref 1, .int 0, .ref 2, .ref 3, .ref 4, .int 0, .int 0, .int 0, .int 0, .ref 5, .int 0, .null]), .inl (0, 160), .inl (0, 161), .inl (0, 161), .inl (0, 161), .inl (0, 160)]
def sc3_25 : List Shp := [.inr (3, [.ref 1, .int 0, .ref 2, .ref 3, .ref 4, .int 0, .int 0, .int 0, .int 0, .ref 5, .int 0, .null]), .inl (0, 160), .inl (0, 161), .inl (0, 161), .inl (0, 161), .inl (0, 160), .inl (0, 4)]
def sc3_26 : List Shp := [.inr (3, [.ref 1, .int 0, .ref 2, .ref 3, .ref 4, .int 0, .int 0, .int 0, .int 0, .ref 5, .int 0, .ref 6]), .inl (0, 160), .inl (0, 161), .inl (0, 161), .inl (0, 161), .inl (0, 160), .inl (0, 4)]
def sc4_27 : List Shp := [.inr (4, [.null, .null, .null, .null, .null, .int 0, .int 0])]
def sc4_28 : List Shp := [.inr (4, [.null, .null, .null, .null, .null, .int 0, .int 0]), .inl (4, 6), .inl (0, 160), .inl (0, 160), .inl (0, 160), .inl (0, 160), .inl (0, 160), .inl (0, 160)]
def sc4_29 : List Shp := [.inr (4, [.null, .ref 1, .null, .null, .null, .int 0, .int 0]), .inl (4, 6), .inl (0, 160), .inl (0, 160), .inl (0, 160), .inl (0, 160), .inl (0, 160), .inl (0, 160)]
def sc4_30 : List Shp := [.inr (4, [.null, .ref 1, .null, .null, .null, .int 0, .int 0]), .inl (4, 6), .inl (0, 160), .inl (0, 160), .inl (0, 160), .inl (0, 160), .inl (0, 160), .inl (0, 160), .inl (11, 6), .inl (0, 4), .inl (0, 4), .inl (0, 4), .inl (0, 4), .inl (0, 4), .inl (0, 4)]
def sc4_31 : List Shp := [.inr (4, [.null, .ref 1, .ref 8, .null, .null, .int 0, .int 0]), .inl (4, 6), .inl (0, 160), .inl (0, 160), .inl (0, 160), .inl (0, 160), .inl (0, 160), .inl (0, 160), .inl (11, 6), .inl (0, 4), .inl (0, 4), .inl (0, 4), .inl (0, 4), .inl (0, 4), .inl (0, 4)]
def sc4_32 : List Shp := [.inr (4, [.null, .ref 1, .ref 8, .null, .null, .int 0, .int 0]), .inl (4, 6), .inl (0, 160), .inl (0, 160), .inl (0, 160), .inl (0, 160), .inl (0, 160), .inl (0, 160), .inl (11, 6), .inl (0, 4), .inl (0, 4), .inl (0, 4), .inl (0, 4), .inl (0, 4), .inl (0, 4), .inl (0, 6)]
def sc4_33 : List Shp := [.inr (4, [.null, .ref 1, .ref 8, .ref 15, .null, .int 0, .int 0]), .inl (4, 6), .inl (0, 160), .inl (0, 160), .inl (0, 160), .inl (0, 160), .inl (0, 160), .inl (0, 160), .inl (11, 6), .inl (0, 4), .inl (0, 4), .inl (0, 4), .inl (0, 4), .inl (0, 4), .inl (0, 4), .inl (0, 6)]
def sc4_34 : List Shp := [.inr (4, [.null, .ref 1, .ref 8, .ref 15, .null, .int 0, .int 0]), .inl (4, 6), .inl (0, 160), .inl (0, 160), .inl (0, 160), .inl (0, 160), .inl (0, 160), .inl (0, 160), .inl (11, 6), .inl (0, 4), .inl (0, 4), .inl (0, 4), .inl (0, 4), .inl (0, 4), .inl (0, 4), .inl (0, 6), .inl (0, 160)]
def sc4_35 : List Shp := [.inr (4, [.null, .ref 1, .ref 8, .ref 15, .ref 16, .int 0, .int 0]), .inl (4, 6), .inl (0, 160), .inl (0, 160), .inl (0, 160), .inl (0, 160), .inl (0, 160), .inl (0, 160), .inl (11, 6), .inl (0, 4), .inl (0, 4), .inl (0, 4), .inl (0, 4), .inl (0, 4), .inl (0, 4), .inl (0, 6), .inl (0, 160)]
def sc4_36 : List Shp := [.inr (4, [.ref 100, .ref 1, .ref 8, .ref 15, .ref 16, .int 0, .int 0]), .inl (4, 6), .inl (0, 160), .inl (0, 160), .inl (0, 160), .inl (0, 160), .inl (0, 160), .inl (0, 160), .inl (11, 6), .inl (0, 4), .inl (0, 4), .inl (0, 4), .inl (0, 4), .inl (0, 4), .inl (0, 4), .inl (0, 6), .inl (0, 160)]
def sc7_37 : List Shp := [.inr (7, [.null, .null])]
def sc7_38 : List Shp := [.inr (7, [.ref 100, .null])]
def sc7_39 : List Shp := [.inr (7, [.ref 100, .ref 101])]
def sc0_40 : List Shp := [.inr (0, [.null, .null, .null, .null, .null, .null, .int 0, .null, .int 0, .null, .null, .null, .int 0, .int 0, .int 0, .int 0])]
def sc0_41 : List Shp := [.inr (0, [.null, .null, .null, .null, .null, .null, .int 0, .null, .int 0, .null, .null, .null, .int 0, .int 0, .int 0, .int 0]), .inl (0, 7)]
def sc0_42 : List Shp := [.inr (0, [.null, .null, .null, .ref 1, .null, .null, .int 0, .null, .int 0, .null, .null, .null, .int 0, .int 0, .int 0, .int 0]), .inl (0, 7)]
def sc0_43 : List Shp := [.inr (0, [.null, .null, .null, .ref 1, .null, .null, .int 0, .null, .int 0, .null, .null, .null, .int 0, .int 0, .int 0, .int 0]), .inl (0, 7), .inl (0, 9)]
def sc0_44 : List Shp := [.inr (0, [.null, .null, .null, .ref 1, .ref 2, .null, .int 0, .null, .int 0, .null, .null, .null, .int 0, .int 0, .int 0, .int 0]), .inl (0, 7), .inl (0, 9)]
def sc0_45 : List Shp := [.inr (0, [.null, .null, .null, .ref 1, .ref 2, .null, .int 0, .null, .int 0, .null, .null, .null, .int 0, .int 0, .int 0, .int 0]), .inl (0, 7), .inl (0, 9), .inl (0, 9)]
def sc0_46 : List Shp := [.inr (0, [.null, .null, .null, .ref 1, .ref 2, .ref 3, .int 0, .null, .int 0, .null, .null, .null, .int 0, .int 0, .int 0, .int 0]), .inl (0, 7), .inl (0, 9), .inl (0, 9)]
def sc0_47 : List Shp := [.inr (0, [.null, .null, .null, .ref 1, .ref 2, .ref 3, .int 0, .null, .int 0, .null, .null, .null, .int 0, .int 0, .int 0, .int 0]), .inl (0, 7), .inl (0, 9), .inl (0, 9), .inl (0, 6)]
def sc0_48 : List Shp := [.inr (0, [.null, .null, .null, .ref 1, .ref 2, .ref 3, .int 0, .ref 4, .int 0, .null, .null, .null, .int 0, .int 0, .int 0, .int 0]), .inl (0, 7), .inl (0, 9), .inl (0, 9), .inl (0, 6)]
def sc0_49 : List Shp := [.inr (0, [.null, .null, .null, .ref 1, .ref 2, .ref 3, .int 0, .ref 4, .int 0, .null, .null, .null, .int 0, .int 0, .int 0, .int 0]), .inl (0, 7), .inl (0, 9), .inl (0, 9), .inl (0, 6), .inl (0, 64)]
def sc0_50 : List Shp := [.inr (0, [.null, .null, .null, .ref 1, .ref 2, .ref 3, .int 0, .ref 4, .int 0, .ref 5, .null, .null, .int 0, .int 0, .int 0, .int 0]), .inl (0, 7), .inl (0, 9), .inl (0, 9), .inl (0, 6), .inl (0, 64)]
def sc0_51 : List Shp := [.inr (0, [.null, .null, .null, .ref 1, .ref 2, .ref 3, .int 0, .ref 4, .int 0, .ref 5, .null, .null, .int 0, .int 0, .int 0, .int 0]), .inl (0, 7), .inl (0, 9), .inl (0, 9), .inl (0, 6), .inl (0, 64), .inl (0, 64)]
def sc0_52 : List Shp := [.inr (0, [.null, .null, .null, .ref 1, .ref 2, .ref 3, .int 0, .ref 4, .int 0, .ref 5, .ref 6, .null, .int 0, .int 0, .int 0, .int 0]), .inl (0, 7), .inl (0, 9), .inl (0, 9), .inl (0, 6), .inl (0, 64), .inl (0, 64)]
def sc0_53 : List Shp := [.inr (0, [.null, .null, .null, .ref 1, .ref 2, .ref 3, .int 0, .ref 4, .int 0, .ref 5, .ref 6, .null, .int 0, .int 0, .int 0, .int 0]), .inl (0, 7), .inl (0, 9), .inl (0, 9), .inl (0, 6), .inl (0, 64), .inl (0, 64), .inl (0, 64)]
def sc0_54 : List Shp := [.inr (0, [.null, .null, .null, .ref 1, .ref 2, .ref 3, .int 0, .ref 4, .int 0, .ref 5, .ref 6, .ref 7, .int 0, .int 0, .int 0, .int 0]), .inl (0, 7), .inl (0, 9), .inl (0, 9), .inl (0, 6), .inl (0, 64), .inl (0, 64), .inl (0, 64)]
def sc0_55 : List Shp := [.inr (0, [.ref 100, .null, .null, .ref 1, .ref 2, .ref 3, .int 0, .ref 4, .int 0, .ref 5, .ref 6, .ref 7, .int 0, .int 0, .int 0, .int 0]), .inl (0, 7), .inl (0, 9), .inl (0, 9), .inl (0, 6), .inl (0, 64), .inl (0, 64), .inl (0, 64)]
def sc0_56 : List Shp := [.inr (0, [.ref 100, .ref 101, .null, .ref 1, .ref 2, .ref 3, .int 0, .ref 4, .int 0, .ref 5, .ref 6, .ref 7, .int 0, .int 0, .int 0, .int 0]), .inl (0, 7), .inl (0, 9), .inl (0, 9), .inl (0, 6), .inl (0, 64), .inl (0, 64), .inl (0, 64)]
def sc0_57 : List Shp := [.inr (0, [.ref 100, .ref 101, .ref 102, .ref 1, .ref 2, .ref 3, .int 0, .ref 4, .int 0, .ref 5, .ref 6, .ref 7, .int 0, .int 0, .int 0, .int 0]), .inl (0, 7), .inl (0, 9), .inl (0, 9), .inl (0, 6), .inl (0, 64), .inl (0, 64), .inl (0, 64)]
def sc5_58 : List Shp := [.inr (5, [.null, .null, .null])]
def sc5_59 : List Shp := [.inr (5, [.null, .null, .null]), .inl (0, 4)]
def sc5_60 : List Shp := [.inr (5, [.ref 1, .null, .null]), .inl (0, 4)]
def sc5_61 : List Shp := [.inr (5, [.ref 1, .null, .null]), .inl (0, 4), .inl (0, 4)]
def sc5_62 : List Shp := [.inr (5, [.ref 1, .ref 2, .null]), .inl (0, 4), .inl (0, 4)]
def sc5_63 : List Shp := [.inr (5, [.ref 1, .ref 2, .null]), .inl (0, 4), .inl (0, 4), .inl (6, 4), .inl (0, 40), .inl (0, 40), .inl (0, 40), .inl (0, 40)]
def sc5_64 : List Shp := [.inr (5, [.ref 1, .ref 2, .ref 3]), .inl (0, 4), .inl (0, 4), .inl (6, 4), .inl (0, 40), .inl (0, 40), .inl (0, 40), .inl (0, 40)]
def sc1_65 : List Shp := [.inr (1, [.int 0, .int 0, .int 0, .int 0, .int 0, .int 0, .null, .null, .null, .null, .null])]
def sc1_66 : List Shp := [.inr (1, [.int 0, .int 0, .int 0, .int 0, .int 0, .int 0, .null, .null, .null, .null, .null]), .inl (0, 8)]
def sc1_67 : List Shp := [.inr (1, [.int 0, .int 0, .int 0, .int 0, .int 0, .int 0, .ref 1, .null, .null, .null, .null]), .inl (0, 8)]
def sc1_68 : List Shp := [.inr (1, [.int 0, .int 0, .int 0, .int 0, .int 0, .int 0, .ref 1, .null, .null, .null, .null]), .inl (0, 8), .inl (0, 8)]
def sc1_69 : List Shp := [.inr (1, [.int 0, .int 0, .int 0, .int 0, .int 0, .int 0, .ref 1, .ref 2, .null, .null, .null]), .inl (0, 8), .inl (0, 8)]
def sc1_70 : List Shp := [.inr (1, [.int 0, .int 0, .int 0, .int 0, .int 0, .int 0, .ref 1, .ref 2, .null, .null, .null]), .inl (0, 8), .inl (0, 8), .inl (0, 6)]
def sc1_71 : List Shp := [.inr (1, [.int 0, .int 0, .int 0, .int 0, .int 0, .int 0, .ref 1, .ref 2, .ref 3, .null, .null]), .inl (0, 8), .inl (0, 8), .inl (0, 6)]
def sc1_72 : List Shp := [.inr (1, [.int 0, .int 0, .int 0, .int 0, .int 0, .int 0, .ref 1, .ref 2, .ref 3, .null, .null]), .inl (0, 8), .inl (0, 8), .inl (0, 6), .inl (0, 6)]
def sc1_73 : List Shp := [.inr (1, [.int 0, .int 0, .int 0, .int 0, .int 0, .int 0, .ref 1, .ref 2, .ref 3, .ref 4, .null]), .inl (0, 8), .inl (0, 8), .inl (0, 6), .inl (0, 6)]
def sc1_74 : List Shp := [.inr (1, [.int 0, .int 0, .int 0, .int 0, .int 0, .int 0, .ref 1, .ref 2, .ref 3, .ref 4, .null]), .inl (0, 8), .inl (0, 8), .inl (0, 6), .inl (0, 6), .inl (0, 6)]
def sc1_75 : List Shp := [.inr (1, [.int 0, .int 0, .int 0, .int 0, .int 0, .int 0, .ref 1, .ref 2, .ref 3, .ref 4, .ref 5]), .inl (0, 8), .inl (0, 8), .inl (0, 6), .inl (0, 6), .inl (0, 6)]
theorem dX2_init_0 : decode cX2_init 0 = .ok (.aload_n 0, 1) := by decide +kernel
theorem dX2_init_1 : decode cX2_init 1 = .ok (.invokespecial 3, 3) := by decide +kernel
theorem dX2_init_4 : decode cX2_init 4 = .ok (.aload_n 0, 1) := by decide +kernel
theorem dX2_init_5 : decode cX2_init 5 = .ok (.bipush 8, 2) := by decide +kernel
theorem dX2_init_7 : decode cX2_init 7 = .ok (.newarray .int, 2) := by decide +kernel
theorem dX2_init_9 : decode cX2_init 9 = .ok (.putfield 9, 3) := by decide +kernel
theorem dX2_init_12 : decode cX2_init 12 = .ok (.aload_n 0, 1) := by decide +kernel
theorem dX2_init_13 : decode cX2_init 13 = .ok (.bipush 8, 2) := by decide +kernel
theorem dX2_init_15 : decode cX2_init 15 = .ok (.newarray .int, 2) := by decide +kernel
theorem dX2_init_17 : decode cX2_init 17 = .ok (.putfield 15, 3) := by decide +kernel
theorem dX2_init_20 : decode cX2_init 20 = .ok (.aload_n 0, 1) := by decide +kernel
theorem dX2_init_21 : decode cX2_init 21 = .ok (.bipush 8, 2) := by decide +kernel
theorem dX2_init_23 : decode cX2_init 23 = .ok (.newarray .int, 2) := by decide +kernel
theorem dX2_init_25 : decode cX2_init 25 = .ok (.putfield 18, 3) := by decide +kernel
theorem dX2_init_28 : decode cX2_init 28 = .ok (.return_, 1) := by decide +kernel
theorem dX6_init_0 : decode cX6_init 0 = .ok (.aload_n 0, 1) := by decide +kernel
theorem dX6_init_1 : decode cX6_init 1 = .ok (.invokespecial 3, 3) := by decide +kernel
theorem dX6_init_4 : decode cX6_init 4 = .ok (.aload_n 0, 1) := by decide +kernel
theorem dX6_init_5 : decode cX6_init 5 = .ok (.bipush 6, 2) := by decide +kernel
theorem dX6_init_7 : decode cX6_init 7 = .ok (.newarray .int, 2) := by decide +kernel
theorem dX6_init_9 : decode cX6_init 9 = .ok (.putfield 9, 3) := by decide +kernel
theorem dX6_init_12 : decode cX6_init 12 = .ok (.aload_n 0, 1) := by decide +kernel
theorem dX6_init_13 : decode cX6_init 13 = .ok (.bipush 6, 2) := by decide +kernel
theorem dX6_init_15 : decode cX6_init 15 = .ok (.newarray .int, 2) := by decide +kernel
theorem dX6_init_17 : decode cX6_init 17 = .ok (.putfield 15, 3) := by decide +kernel
theorem dX6_init_20 : decode cX6_init 20 = .ok (.aload_n 0, 1) := by decide +kernel
theorem dX6_init_21 : decode cX6_init 21 = .ok (.bipush 6, 2) := by decide +kernel
theorem dX6_init_23 : decode cX6_init 23 = .ok (.newarray .int, 2) := by decide +kernel
theorem dX6_init_25 : decode cX6_init 25 = .ok (.putfield 18, 3) := by decide +kernel
theorem dX6_init_28 : decode cX6_init 28 = .ok (.return_, 1) := by decide +kernel
theorem dX3_init_0 : decode cX3_init 0 = .ok (.aload_n 0, 1) := by decide +kernel
theorem dX3_init_1 : decode cX3_init 1 = .ok (.invokespecial 5, 3) := by decide +kernel
theorem dX3_init_4 : decode cX3_init 4 = .ok (.aload_n 0, 1) := by decide +kernel
theorem dX3_init_5 : decode cX3_init 5 = .ok (.sipush 160, 3) := by decide +kernel
theorem dX3_init_8 : decode cX3_init 8 = .ok (.newarray .int, 2) := by decide +kernel
theorem dX3_init_10 : decode cX3_init 10 = .ok (.putfield 11, 3) := by decide +kernel
theorem dX3_init_13 : decode cX3_init 13 = .ok (.aload_n 0, 1) := by decide +kernel
theorem dX3_init_14 : decode cX3_init 14 = .ok (.sipush 161, 3) := by decide +kernel
theorem dX3_init_17 : decode cX3_init 17 = .ok (.newarray .int, 2) := by decide +kernel
theorem dX3_init_19 : decode cX3_init 19 = .ok (.putfield 15, 3) := by decide +kernel
theorem dX3_init_22 : decode cX3_init 22 = .ok (.aload_n 0, 1) := by decide +kernel
theorem dX3_init_23 : decode cX3_init 23 = .ok (.sipush 161, 3) := by decide +kernel
theorem dX3_init_26 : decode cX3_init 26 = .ok (.newarray .int, 2) := by decide +kernel
theorem dX3_init_28 : decode cX3_init 28 = .ok (.putfield 18, 3) := by decide +kernel
theorem dX3_init_31 : decode cX3_init 31 = .ok (.aload_n 0, 1) := by decide +kernel
theorem dX3_init_32 : decode cX3_init 32 = .ok (.sipush 161, 3) := by decide +kernel
theorem dX3_init_35 : decode cX3_init 35 = .ok (.newarray .int, 2) := by decide +kernel
theorem dX3_init_37 : decode cX3_init 37 = .ok (.putfield 21, 3) := by decide +kernel
theorem dX3_init_40 : decode cX3_init 40 = .ok (.aload_n 0, 1) := by decide +kernel
theorem dX3_init_41 : decode cX3_init 41 = .ok (.sipush 160, 3) := by decide +kernel
theorem dX3_init_44 : decode cX3_init 44 = .ok (.newarray .int, 2) := by decide +kernel
theorem dX3_init_46 : decode cX3_init 46 = .ok (.putfield 24, 3) := by decide +kernel
theorem dX3_init_49 : decode cX3_init 49 = .ok (.aload_n 0, 1) := by decide +kernel
theorem dX3_init_50 : decode cX3_init 50 = .ok (.iconst 4, 1) := by decide +kernel
theorem dX3_init_51 : decode cX3_init 51 = .ok (.newarray .int, 2) := by decide +kernel
theorem dX3_init_53 : decode cX3_init 53 = .ok (.putfield 27, 3) := by decide +kernel
theorem dX3_init_56 : decode cX3_init 56 = .ok (.return_, 1) := by decide +kernel
theorem dX4_init_0 : decode cX4_init 0 = .ok (.aload_n 0, 1) := by decide +kernel
theorem dX4_init_1 : decode cX4_init 1 = .ok (.invokespecial 3, 3) := by decide +kernel
theorem dX4_init_4 : decode cX4_init 4 = .ok (.aload_n 0, 1) := by decide +kernel
theorem dX4_init_5 : decode cX4_init 5 = .ok (.bipush 6, 2) := by decide +kernel
theorem dX4_init_7 : decode cX4_init 7 = .ok (.sipush 160, 3) := by decide +kernel
theorem dX4_init_10 : decode cX4_init 10 = .ok (.multianewarray 9 2, 4) := by decide +kernel
theorem dX4_init_14 : decode cX4_init 14 = .ok (.putfield 11, 3) := by decide +kernel
theorem dX4_init_17 : decode cX4_init 17 = .ok (.aload_n 0, 1) := by decide +kernel
theorem dX4_init_18 : decode cX4_init 18 = .ok (.bipush 6, 2) := by decide +kernel
theorem dX4_init_20 : decode cX4_init 20 = .ok (.iconst 4, 1) := by decide +kernel
theorem dX4_init_21 : decode cX4_init 21 = .ok (.multianewarray 9 2, 4) := by decide +kernel
theorem dX4_init_25 : decode cX4_init 25 = .ok (.putfield 16, 3) := by decide +kernel
theorem dX4_init_28 : decode cX4_init 28 = .ok (.aload_n 0, 1) := by decide +kernel
theorem dX4_init_29 : decode cX4_init 29 = .ok (.bipush 6, 2) := by decide +kernel
theorem dX4_init_31 : decode cX4_init 31 = .ok (.newarray .int, 2) := by decide +kernel
theorem dX4_init_33 : decode cX4_init 33 = .ok (.putfield 21, 3) := by decide +kernel
theorem dX4_init_36 : decode cX4_init 36 = .ok (.aload_n 0, 1) := by decide +kernel
theorem dX4_init_37 : decode cX4_init 37 = .ok (.sipush 160, 3) := by decide +kernel
theorem dX4_init_40 : decode cX4_init 40 = .ok (.newarray .int, 2) := by decide +kernel
theorem dX4_init_42 : decode cX4_init 42 = .ok (.putfield 25, 3) := by decide +kernel
theorem dX4_init_45 : decode cX4_init 45 = .ok (.aload_n 0, 1) := by decide +kernel
theorem dX4_init_46 : decode cX4_init 46 = .ok (.aload_n 1, 1) := by decide +kernel
theorem dX4_init_47 : decode cX4_init 47 = .ok (.putfield 28, 3) := by decide +kernel
theorem dX4_init_50 : decode cX4_init 50 = .ok (.return_, 1) := by decide +kernel
theorem dX7_init_0 : decode cX7_init 0 = .ok (.aload_n 0, 1) := by decide +kernel
theorem dX7_init_1 : decode cX7_init 1 = .ok (.invokespecial 3, 3) := by decide +kernel
theorem dX7_init_4 : decode cX7_init 4 = .ok (.aload_n 0, 1) := by decide +kernel
theorem dX7_init_5 : decode cX7_init 5 = .ok (.aload_n 1, 1) := by decide +kernel
theorem dX7_init_6 : decode cX7_init 6 = .ok (.putfield 9, 3) := by decide +kernel
theorem dX7_init_9 : decode cX7_init 9 = .ok (.aload_n 0, 1) := by decide +kernel
theorem dX7_init_10 : decode cX7_init 10 = .ok (.aload_n 2, 1) := by decide +kernel
theorem dX7_init_11 : decode cX7_init 11 = .ok (.putfield 15, 3) := by decide +kernel
theorem dX7_init_14 : decode cX7_init 14 = .ok (.return_, 1) := by decide +kernel
theorem dX0_init_0 : decode cX0_init 0 = .ok (.aload_n 0, 1) := by decide +kernel
theorem dX0_init_1 : decode cX0_init 1 = .ok (.invokespecial 3, 3) := by decide +kernel
theorem dX0_init_4 : decode cX0_init 4 = .ok (.aload_n 0, 1) := by decide +kernel
theorem dX0_init_5 : decode cX0_init 5 = .ok (.bipush 7, 2) := by decide +kernel
theorem dX0_init_7 : decode cX0_init 7 = .ok (.newarray .int, 2) := by decide +kernel
theorem dX0_init_9 : decode cX0_init 9 = .ok (.putfield 9, 3) := by decide +kernel
theorem dX0_init_12 : decode cX0_init 12 = .ok (.aload_n 0, 1) := by decide +kernel
theorem dX0_init_13 : decode cX0_init 13 = .ok (.bipush 9, 2) := by decide +kernel
theorem dX0_init_15 : decode cX0_init 15 = .ok (.newarray .int, 2) := by decide +kernel
theorem dX0_init_17 : decode cX0_init 17 = .ok (.putfield 15, 3) := by decide +kernel
theorem dX0_init_20 : decode cX0_init 20 = .ok (.aload_n 0, 1) := by decide +kernel
theorem dX0_init_21 : decode cX0_init 21 = .ok (.bipush 9, 2) := by decide +kernel
theorem dX0_init_23 : decode cX0_init 23 = .ok (.newarray .int, 2) := by decide +kernel
theorem dX0_init_25 : decode cX0_init 25 = .ok (.putfield 18, 3) := by decide +kernel
theorem dX0_init_28 : decode cX0_init 28 = .ok (.aload_n 0, 1) := by decide +kernel
theorem dX0_init_29 : decode cX0_init 29 = .ok (.bipush 6, 2) := by decide +kernel
theorem dX0_init_31 : decode cX0_init 31 = .ok (.newarray .int, 2) := by decide +kernel
theorem dX0_init_33 : decode cX0_init 33 = .ok (.putfield 21, 3) := by decide +kernel
theorem dX0_init_36 : decode cX0_init 36 = .ok (.aload_n 0, 1) := by decide +kernel
theorem dX0_init_37 : decode cX0_init 37 = .ok (.bipush 64, 2) := by decide +kernel
theorem dX0_init_39 : decode cX0_init 39 = .ok (.newarray .int, 2) := by decide +kernel
theorem dX0_init_41 : decode cX0_init 41 = .ok (.putfield 24, 3) := by decide +kernel
theorem dX0_init_44 : decode cX0_init 44 = .ok (.aload_n 0, 1) := by decide +kernel
theorem dX0_init_45 : decode cX0_init 45 = .ok (.bipush 64, 2) := by decide +kernel
theorem dX0_init_47 : decode cX0_init 47 = .ok (.newarray .int, 2) := by decide +kernel
theorem dX0_init_49 : decode cX0_init 49 = .ok (.putfield 27, 3) := by decide +kernel
theorem dX0_init_52 : decode cX0_init 52 = .ok (.aload_n 0, 1) := by decide +kernel
theorem dX0_init_53 : decode cX0_init 53 = .ok (.bipush 64, 2) := by decide +kernel
theorem dX0_init_55 : decode cX0_init 55 = .ok (.newarray .int, 2) := by decide +kernel
theorem dX0_init_57 : decode cX0_init 57 = .ok (.putfield 30, 3) := by decide +kernel
theorem dX0_init_60 : decode cX0_init 60 = .ok (.aload_n 0, 1) := by decide +kernel
theorem dX0_init_61 : decode cX0_init 61 = .ok (.aload_n 1, 1) := by decide +kernel
theorem dX0_init_62 : decode cX0_init 62 = .ok (.putfield 33, 3) := by decide +kernel
theorem dX0_init_65 : decode cX0_init 65 = .ok (.aload_n 0, 1) := by decide +kernel
theorem dX0_init_66 : decode cX0_init 66 = .ok (.aload_n 2, 1) := by decide +kernel
theorem dX0_init_67 : decode cX0_init 67 = .ok (.putfield 37, 3) := by decide +kernel
theorem dX0_init_70 : decode cX0_init 70 = .ok (.aload_n 0, 1) := by decide +kernel
theorem dX0_init_71 : decode cX0_init 71 = .ok (.aload_n 3, 1) := by decide +kernel
theorem dX0_init_72 : decode cX0_init 72 = .ok (.putfield 41, 3) := by decide +kernel
theorem dX0_init_75 : decode cX0_init 75 = .ok (.return_, 1) := by decide +kernel
theorem dX5_init_0 : decode cX5_init 0 = .ok (.aload_n 0, 1) := by decide +kernel
theorem dX5_init_1 : decode cX5_init 1 = .ok (.invokespecial 3, 3) := by decide +kernel
theorem dX5_init_4 : decode cX5_init 4 = .ok (.aload_n 0, 1) := by decide +kernel
theorem dX5_init_5 : decode cX5_init 5 = .ok (.iconst 4, 1) := by decide +kernel
theorem dX5_init_6 : decode cX5_init 6 = .ok (.newarray .int, 2) := by decide +kernel
theorem dX5_init_8 : decode cX5_init 8 = .ok (.dup, 1) := by decide +kernel
theorem dX5_init_9 : decode cX5_init 9 = .ok (.iconst 0, 1) := by decide +kernel
theorem dX5_init_10 : decode cX5_init 10 = .ok (.iconst (-1), 1) := by decide +kernel
theorem dX5_init_11 : decode cX5_init 11 = .ok (.iastore, 1) := by decide +kernel
theorem dX5_init_12 : decode cX5_init 12 = .ok (.dup, 1) := by decide +kernel
theorem dX5_init_13 : decode cX5_init 13 = .ok (.iconst 1, 1) := by decide +kernel
theorem dX5_init_14 : decode cX5_init 14 = .ok (.iconst (-1), 1) := by decide +kernel
theorem dX5_init_15 : decode cX5_init 15 = .ok (.iastore, 1) := by decide +kernel
theorem dX5_init_16 : decode cX5_init 16 = .ok (.dup, 1) := by decide +kernel
theorem dX5_init_17 : decode cX5_init 17 = .ok (.iconst 2, 1) := by decide +kernel
theorem dX5_init_18 : decode cX5_init 18 = .ok (.iconst (-1), 1) := by decide +kernel
theorem dX5_init_19 : decode cX5_init 19 = .ok (.iastore, 1) := by decide +kernel
theorem dX5_init_20 : decode cX5_init 20 = .ok (.dup, 1) := by decide +kernel
theorem dX5_init_21 : decode cX5_init 21 = .ok (.iconst 3, 1) := by decide +kernel
theorem dX5_init_22 : decode cX5_init 22 = .ok (.iconst (-1), 1) := by decide +kernel
theorem dX5_init_23 : decode cX5_init 23 = .ok (.iastore, 1) := by decide +kernel
theorem dX5_init_24 : decode cX5_init 24 = .ok (.putfield 9, 3) := by decide +kernel
theorem dX5_init_27 : decode cX5_init 27 = .ok (.aload_n 0, 1) := by decide +kernel
theorem dX5_init_28 : decode cX5_init 28 = .ok (.iconst 4, 1) := by decide +kernel
theorem dX5_init_29 : decode cX5_init 29 = .ok (.newarray .int, 2) := by decide +kernel
theorem dX5_init_31 : decode cX5_init 31 = .ok (.putfield 15, 3) := by decide +kernel
theorem dX5_init_34 : decode cX5_init 34 = .ok (.aload_n 0, 1) := by decide +kernel
theorem dX5_init_35 : decode cX5_init 35 = .ok (.iconst 4, 1) := by decide +kernel
theorem dX5_init_36 : decode cX5_init 36 = .ok (.bipush 40, 2) := by decide +kernel
theorem dX5_init_38 : decode cX5_init 38 = .ok (.multianewarray 18 2, 4) := by decide +kernel
theorem dX5_init_42 : decode cX5_init 42 = .ok (.putfield 20, 3) := by decide +kernel
theorem dX5_init_45 : decode cX5_init 45 = .ok (.return_, 1) := by decide +kernel
theorem dX1_init_0 : decode cX1_init 0 = .ok (.aload_n 0, 1) := by decide +kernel
theorem dX1_init_1 : decode cX1_init 1 = .ok (.invokespecial 3, 3) := by decide +kernel
theorem dX1_init_4 : decode cX1_init 4 = .ok (.aload_n 0, 1) := by decide +kernel
theorem dX1_init_5 : decode cX1_init 5 = .ok (.bipush 8, 2) := by decide +kernel
theorem dX1_init_7 : decode cX1_init 7 = .ok (.newarray .int, 2) := by decide +kernel
theorem dX1_init_9 : decode cX1_init 9 = .ok (.putfield 9, 3) := by decide +kernel
theorem dX1_init_12 : decode cX1_init 12 = .ok (.aload_n 0, 1) := by decide +kernel
theorem dX1_init_13 : decode cX1_init 13 = .ok (.bipush 8, 2) := by decide +kernel
theorem dX1_init_15 : decode cX1_init 15 = .ok (.newarray .int, 2) := by decide +kernel
theorem dX1_init_17 : decode cX1_init 17 = .ok (.putfield 15, 3) := by decide +kernel
theorem dX1_init_20 : decode cX1_init 20 = .ok (.aload_n 0, 1) := by decide +kernel
theorem dX1_init_21 : decode cX1_init 21 = .ok (.bipush 6, 2) := by decide +kernel
theorem dX1_init_23 : decode cX1_init 23 = .ok (.newarray .int, 2) := by decide +kernel
theorem dX1_init_25 : decode cX1_init 25 = .ok (.putfield 18, 3) := by decide +kernel
theorem dX1_init_28 : decode cX1_init 28 = .ok (.aload_n 0, 1) := by decide +kernel
theorem dX1_init_29 : decode cX1_init 29 = .ok (.bipush 6, 2) := by decide +kernel
theorem dX1_init_31 : decode cX1_init 31 = .ok (.newarray .int, 2) := by decide +kernel
theorem dX1_init_33 : decode cX1_init 33 = .ok (.putfield 21, 3) := by decide +kernel
theorem dX1_init_36 : decode cX1_init 36 = .ok (.aload_n 0, 1) := by decide +kernel
theorem dX1_init_37 : decode cX1_init 37 = .ok (.bipush 6, 2) := by decide +kernel
theorem dX1_init_39 : decode cX1_init 39 = .ok (.newarray .int, 2) := by decide +kernel
theorem dX1_init_41 : decode cX1_init 41 = .ok (.putfield 24, 3) := by decide +kernel
theorem dX1_init_44 : decode cX1_init 44 = .ok (.return_, 1) := by decide +kernel
set_option maxRecDepth 20000 in
set_option maxHeartbeats 4000000 in
theorem N2_init_met {l : Launch} {G : GG} {M : Mem} (hI : Inj sc2_0 G.2.1) (sz : Nat) : MetN sc2_0 sc2_6 l G yX2_init cX2_init 1 3 3 24 [.ref 0] M (upA (upA (upA M 1 (fun _ => 0)) 2 (fun _ => 0)) 3 (fun _ => 0)) sz := by
  refine X_metN hI (by decide +kernel) rfl (Nat.le_of_ble_eq_true rfl) (fun p e s m args below meth c hsz F hr hlk hin => ?_)
  have hG : GEx sc2_0 sc2_0 G G s.heap.size := GEx.rf hI
  show XJ sc2_0 p l e _ s m args below meth c 0 0 G 1 _ 0 [(0, .ref 0)] [] M
  refine X_aload_n F dX2_init_0 rfl ?_
  refine X_objinit F ⟨(tmem 31 (by decide +kernel) rfl), ob_in, ob_co⟩ ⟨Nat.le_of_ble_eq_true rfl, Nat.le_of_ble_eq_true rfl⟩ (Nat.le_of_ble_eq_true rfl) dX2_init_1 ?_
  refine X_aload_n F dX2_init_4 rfl ?_
  refine X_bipush F dX2_init_5 (v := (8 : Int32)) rfl ?_
  refine N_newa (sh' := sc2_1) (N := 8) (n := 1) F hG rfl rfl ac_int ⟨by decide, by decide, Nat.le_of_ble_eq_true rfl⟩ (by decide +kernel) ⟨Nat.le_of_ble_eq_true rfl, Nat.le_of_ble_eq_true rfl⟩ ⟨Nat.le_of_ble_eq_true rfl, Nat.le_of_ble_eq_true rfl⟩ dX2_init_7 (fun G F hG => ?_)
  refine X_putr F hin (C := RX2) (T := TX2) (N := 6) (ty0 := tyX2) (sh' := sc2_2) (k := 0) (cell := 0) (ci := 2) (tm := [.null, .null, .null, .int 0, .int 0, .int 0]) rfl (by decide) wsIn2 tyX2_ok nmX2 (tmem 32 (by decide +kernel) rfl) ⟨rfl, rfl⟩ (tyX2_ok 0 (by decide)) (fun a => ⟨rfl, rfl⟩) rfl (Nat.le_of_ble_eq_true rfl) rfl dX2_init_9 (fun F => ?_)
  have hG := GEx.put (sh' := sc2_2) hG rfl F.2.2.2.2.2.2.2.1
  refine X_aload_n F dX2_init_12 rfl ?_
  refine X_bipush F dX2_init_13 (v := (8 : Int32)) rfl ?_
  refine N_newa (sh' := sc2_3) (N := 8) (n := 2) F hG rfl rfl ac_int ⟨by decide, by decide, Nat.le_of_ble_eq_true rfl⟩ (by decide +kernel) ⟨Nat.le_of_ble_eq_true rfl, Nat.le_of_ble_eq_true rfl⟩ ⟨Nat.le_of_ble_eq_true rfl, Nat.le_of_ble_eq_true rfl⟩ dX2_init_15 (fun G F hG => ?_)
  refine X_putr F hin (C := RX2) (T := TX2) (N := 6) (ty0 := tyX2) (sh' := sc2_4) (k := 1) (cell := 0) (ci := 2) (tm := [.ref 1, .null, .null, .int 0, .int 0, .int 0]) rfl (by decide) wsIn2 tyX2_ok nmX2 (tmem 36 (by decide +kernel) rfl) ⟨rfl, rfl⟩ (tyX2_ok 1 (by decide)) (fun a => ⟨rfl, rfl⟩) rfl (Nat.le_of_ble_eq_true rfl) rfl dX2_init_17 (fun F => ?_)
  have hG := GEx.put (sh' := sc2_4) hG rfl F.2.2.2.2.2.2.2.1
  refine X_aload_n F dX2_init_20 rfl ?_
  refine X_bipush F dX2_init_21 (v := (8 : Int32)) rfl ?_
  refine N_newa (sh' := sc2_5) (N := 8) (n := 3) F hG rfl rfl ac_int ⟨by decide, by decide, Nat.le_of_ble_eq_true rfl⟩ (by decide +kernel) ⟨Nat.le_of_ble_eq_true rfl, Nat.le_of_ble_eq_true rfl⟩ ⟨Nat.le_of_ble_eq_true rfl, Nat.le_of_ble_eq_true rfl⟩ dX2_init_23 (fun G F hG => ?_)
  refine X_putr F hin (C := RX2) (T := TX2) (N := 6) (ty0 := tyX2) (sh' := sc2_6) (k := 2) (cell := 0) (ci := 2) (tm := [.ref 1, .ref 2, .null, .int 0, .int 0, .int 0]) rfl (by decide) wsIn2 tyX2_ok nmX2 (tmem 40 (by decide +kernel) rfl) ⟨rfl, rfl⟩ (tyX2_ok 2 (by decide)) (fun a => ⟨rfl, rfl⟩) rfl (Nat.le_of_ble_eq_true rfl) rfl dX2_init_25 (fun F => ?_)
  have hG := GEx.put (sh' := sc2_6) hG rfl F.2.2.2.2.2.2.2.1
  exact X_nret F hr hlk hG dX2_init_28
set_option maxRecDepth 20000 in
set_option maxHeartbeats 4000000 in
theorem N6_init_met {l : Launch} {G : GG} {M : Mem} (hI : Inj sc6_7 G.2.1) (sz : Nat) : MetN sc6_7 sc6_13 l G yX6_init cX6_init 1 3 3 18 [.ref 0] M (upA (upA (upA M 1 (fun _ => 0)) 2 (fun _ => 0)) 3 (fun _ => 0)) sz := by
  refine X_metN hI (by decide +kernel) rfl (Nat.le_of_ble_eq_true rfl) (fun p e s m args below meth c hsz F hr hlk hin => ?_)
  have hG : GEx sc6_7 sc6_7 G G s.heap.size := GEx.rf hI
  show XJ sc6_7 p l e _ s m args below meth c 0 0 G 1 _ 0 [(0, .ref 0)] [] M
  refine X_aload_n F dX6_init_0 rfl ?_
  refine X_objinit F ⟨(tmem 78 (by decide +kernel) rfl), ob_in, ob_co⟩ ⟨Nat.le_of_ble_eq_true rfl, Nat.le_of_ble_eq_true rfl⟩ (Nat.le_of_ble_eq_true rfl) dX6_init_1 ?_
  refine X_aload_n F dX6_init_4 rfl ?_
  refine X_bipush F dX6_init_5 (v := (6 : Int32)) rfl ?_
  refine N_newa (sh' := sc6_8) (N := 6) (n := 1) F hG rfl rfl ac_int ⟨by decide, by decide, Nat.le_of_ble_eq_true rfl⟩ (by decide +kernel) ⟨Nat.le_of_ble_eq_true rfl, Nat.le_of_ble_eq_true rfl⟩ ⟨Nat.le_of_ble_eq_true rfl, Nat.le_of_ble_eq_true rfl⟩ dX6_init_7 (fun G F hG => ?_)
  refine X_putr F hin (C := RX6) (T := TX6) (N := 4) (ty0 := tyX6) (sh' := sc6_9) (k := 0) (cell := 0) (ci := 6) (tm := [.null, .null, .null, .int 0]) rfl (by decide) wsIn6 tyX6_ok nmX6 (tmem 79 (by decide +kernel) rfl) ⟨rfl, rfl⟩ (tyX6_ok 0 (by decide)) (fun a => ⟨rfl, rfl⟩) rfl (Nat.le_of_ble_eq_true rfl) rfl dX6_init_9 (fun F => ?_)
  have hG := GEx.put (sh' := sc6_9) hG rfl F.2.2.2.2.2.2.2.1
  refine X_aload_n F dX6_init_12 rfl ?_
  refine X_bipush F dX6_init_13 (v := (6 : Int32)) rfl ?_
  refine N_newa (sh' := sc6_10) (N := 6) (n := 2) F hG rfl rfl ac_int ⟨by decide, by decide, Nat.le_of_ble_eq_true rfl⟩ (by decide +kernel) ⟨Nat.le_of_ble_eq_true rfl, Nat.le_of_ble_eq_true rfl⟩ ⟨Nat.le_of_ble_eq_true rfl, Nat.le_of_ble_eq_true rfl⟩ dX6_init_15 (fun G F hG => ?_)
  refine X_putr F hin (C := RX6) (T := TX6) (N := 4) (ty0 := tyX6) (sh' := sc6_11) (k := 1) (cell := 0) (ci := 6) (tm := [.ref 1, .null, .null, .int 0]) rfl (by decide) wsIn6 tyX6_ok nmX6 (tmem 82 (by decide +kernel) rfl) ⟨rfl, rfl⟩ (tyX6_ok 1 (by decide)) (fun a => ⟨rfl, rfl⟩) rfl (Nat.le_of_ble_eq_true rfl) rfl dX6_init_17 (fun F => ?_)
  have hG := GEx.put (sh' := sc6_11) hG rfl F.2.2.2.2.2.2.2.1
  refine X_aload_n F dX6_init_20 rfl ?_
  refine X_bipush F dX6_init_21 (v := (6 : Int32)) rfl ?_
  refine N_newa (sh' := sc6_12) (N := 6) (n := 3) F hG rfl rfl ac_int ⟨by decide, by decide, Nat.le_of_ble_eq_true rfl⟩ (by decide +kernel) ⟨Nat.le_of_ble_eq_true rfl, Nat.le_of_ble_eq_true rfl⟩ ⟨Nat.le_of_ble_eq_true rfl, Nat.le_of_ble_eq_true rfl⟩ dX6_init_23 (fun G F hG => ?_)
  refine X_putr F hin (C := RX6) (T := TX6) (N := 4) (ty0 := tyX6) (sh' := sc6_13) (k := 2) (cell := 0) (ci := 6) (tm := [.ref 1, .ref 2, .null, .int 0]) rfl (by decide) wsIn6 tyX6_ok nmX6 (tmem 86 (by decide +kernel) rfl) ⟨rfl, rfl⟩ (tyX6_ok 2 (by decide)) (fun a => ⟨rfl, rfl⟩) rfl (Nat.le_of_ble_eq_true rfl) rfl dX6_init_25 (fun F => ?_)
  have hG := GEx.put (sh' := sc6_13) hG rfl F.2.2.2.2.2.2.2.1
  exact X_nret F hr hlk hG dX6_init_28
set_option maxRecDepth 20000 in
set_option maxHeartbeats 4000000 in
theorem N3_init_met {l : Launch} {G : GG} {M : Mem} (hI : Inj sc3_14 G.2.1) (sz : Nat) : MetN sc3_14 sc3_26 l G yX3_init cX3_init 1 3 6 807 [.ref 0] M (upA (upA (upA (upA (upA (upA M 1 (fun _ => 0)) 2 (fun _ => 0)) 3 (fun _ => 0)) 4 (fun _ => 0)) 5 (fun _ => 0)) 6 (fun _ => 0)) sz := by
  refine X_metN hI (by decide +kernel) rfl (Nat.le_of_ble_eq_true rfl) (fun p e s m args below meth c hsz F hr hlk hin => ?_)
  have hG : GEx sc3_14 sc3_14 G G s.heap.size := GEx.rf hI
  show XJ sc3_14 p l e _ s m args below meth c 0 0 G 1 _ 0 [(0, .ref 0)] [] M
  refine X_aload_n F dX3_init_0 rfl ?_
  refine X_objinit F ⟨(tmem 107 (by decide +kernel) rfl), ob_in, ob_co⟩ ⟨Nat.le_of_ble_eq_true rfl, Nat.le_of_ble_eq_true rfl⟩ (Nat.le_of_ble_eq_true rfl) dX3_init_1 ?_
  refine X_aload_n F dX3_init_4 rfl ?_
  refine X_sipush F dX3_init_5 (v := (160 : Int32)) rfl ?_
  refine N_newa (sh' := sc3_15) (N := 160) (n := 1) F hG rfl rfl ac_int ⟨by decide, by decide, Nat.le_of_ble_eq_true rfl⟩ (by decide +kernel) ⟨Nat.le_of_ble_eq_true rfl, Nat.le_of_ble_eq_true rfl⟩ ⟨Nat.le_of_ble_eq_true rfl, Nat.le_of_ble_eq_true rfl⟩ dX3_init_8 (fun G F hG => ?_)
  refine X_putr F hin (C := RX3) (T := TX3) (N := 12) (ty0 := tyX3) (sh' := sc3_16) (k := 0) (cell := 0) (ci := 3) (tm := [.null, .int 0, .null, .null, .null, .int 0, .int 0, .int 0, .int 0, .null, .int 0, .null]) rfl (by decide) wsIn3 tyX3_ok nmX3 (tmem 108 (by decide +kernel) rfl) ⟨rfl, rfl⟩ (tyX3_ok 0 (by decide)) (fun a => ⟨rfl, rfl⟩) rfl (Nat.le_of_ble_eq_true rfl) rfl dX3_init_10 (fun F => ?_)
  have hG := GEx.put (sh' := sc3_16) hG rfl F.2.2.2.2.2.2.2.1
  refine X_aload_n F dX3_init_13 rfl ?_
  refine X_sipush F dX3_init_14 (v := (161 : Int32)) rfl ?_
  refine N_newa (sh' := sc3_17) (N := 161) (n := 2) F hG rfl rfl ac_int ⟨by decide, by decide, Nat.le_of_ble_eq_true rfl⟩ (by decide +kernel) ⟨Nat.le_of_ble_eq_true rfl, Nat.le_of_ble_eq_true rfl⟩ ⟨Nat.le_of_ble_eq_true rfl, Nat.le_of_ble_eq_true rfl⟩ dX3_init_17 (fun G F hG => ?_)
  refine X_putr F hin (C := RX3) (T := TX3) (N := 12) (ty0 := tyX3) (sh' := sc3_18) (k := 2) (cell := 0) (ci := 3) (tm := [.ref 1, .int 0, .null, .null, .null, .int 0, .int 0, .int 0, .int 0, .null, .int 0, .null]) rfl (by decide) wsIn3 tyX3_ok nmX3 (tmem 111 (by decide +kernel) rfl) ⟨rfl, rfl⟩ (tyX3_ok 2 (by decide)) (fun a => ⟨rfl, rfl⟩) rfl (Nat.le_of_ble_eq_true rfl) rfl dX3_init_19 (fun F => ?_)
  have hG := GEx.put (sh' := sc3_18) hG rfl F.2.2.2.2.2.2.2.1
  refine X_aload_n F dX3_init_22 rfl ?_
  refine X_sipush F dX3_init_23 (v := (161 : Int32)) rfl ?_
  refine N_newa (sh' := sc3_19) (N := 161) (n := 3) F hG rfl rfl ac_int ⟨by decide, by decide, Nat.le_of_ble_eq_true rfl⟩ (by decide +kernel) ⟨Nat.le_of_ble_eq_true rfl, Nat.le_of_ble_eq_true rfl⟩ ⟨Nat.le_of_ble_eq_true rfl, Nat.le_of_ble_eq_true rfl⟩ dX3_init_26 (fun G F hG => ?_)
  refine X_putr F hin (C := RX3) (T := TX3) (N := 12) (ty0 := tyX3) (sh' := sc3_20) (k := 3) (cell := 0) (ci := 3) (tm := [.ref 1, .int 0, .ref 2, .null, .null, .int 0, .int 0, .int 0, .int 0, .null, .int 0, .null]) rfl (by decide) wsIn3 tyX3_ok nmX3 (tmem 112 (by decide +kernel) rfl) ⟨rfl, rfl⟩ (tyX3_ok 3 (by decide)) (fun a => ⟨rfl, rfl⟩) rfl (Nat.le_of_ble_eq_true rfl) rfl dX3_init_28 (fun F => ?_)
  have hG := GEx.put (sh' := sc3_20) hG rfl F.2.2.2.2.2.2.2.1
  refine X_aload_n F dX3_init_31 rfl ?_
  refine X_sipush F dX3_init_32 (v := (161 : Int32)) rfl ?_
  refine N_newa (sh' := sc3_21) (N := 161) (n := 4) F hG rfl rfl ac_int ⟨by decide, by decide, Nat.le_of_ble_eq_true rfl⟩ (by decide +kernel) ⟨Nat.le_of_ble_eq_true rfl, Nat.le_of_ble_eq_true rfl⟩ ⟨Nat.le_of_ble_eq_true rfl, Nat.le_of_ble_eq_true rfl⟩ dX3_init_35 (fun G F hG => ?_)
  refine X_putr F hin (C := RX3) (T := TX3) (N := 12) (ty0 := tyX3) (sh' := sc3_22) (k := 4) (cell := 0) (ci := 3) (tm := [.ref 1, .int 0, .ref 2, .ref 3, .null, .int 0, .int 0, .int 0, .int 0, .null, .int 0, .null]) rfl (by decide) wsIn3 tyX3_ok nmX3 (tmem 113 (by decide +kernel) rfl) ⟨rfl, rfl⟩ (tyX3_ok 4 (by decide)) (fun a => ⟨rfl, rfl⟩) rfl (Nat.le_of_ble_eq_true rfl) rfl dX3_init_37 (fun F => ?_)
  have hG := GEx.put (sh' := sc3_22) hG rfl F.2.2.2.2.2.2.2.1
  refine X_aload_n F dX3_init_40 rfl ?_
  refine X_sipush F dX3_init_41 (v := (160 : Int32)) rfl ?_
  refine N_newa (sh' := sc3_23) (N := 160) (n := 5) F hG rfl rfl ac_int ⟨by decide, by decide, Nat.le_of_ble_eq_true rfl⟩ (by decide +kernel) ⟨Nat.le_of_ble_eq_true rfl, Nat.le_of_ble_eq_true rfl⟩ ⟨Nat.le_of_ble_eq_true rfl, Nat.le_of_ble_eq_true rfl⟩ dX3_init_44 (fun G F hG => ?_)
  refine X_putr F hin (C := RX3) (T := TX3) (N := 12) (ty0 := tyX3) (sh' := sc3_24) (k := 9) (cell := 0) (ci := 3) (tm := [.ref 1, .int 0, .ref 2, .ref 3, .ref 4, .int 0, .int 0, .int 0, .int 0, .null, .int 0, .null]) rfl (by decide) wsIn3 tyX3_ok nmX3 (tmem 119 (by decide +kernel) rfl) ⟨rfl, rfl⟩ (tyX3_ok 9 (by decide)) (fun a => ⟨rfl, rfl⟩) rfl (Nat.le_of_ble_eq_true rfl) rfl dX3_init_46 (fun F => ?_)
  have hG := GEx.put (sh' := sc3_24) hG rfl F.2.2.2.2.2.2.2.1
  refine X_aload_n F dX3_init_49 rfl ?_
  refine X_iconst F dX3_init_50 (v := (4 : Int32)) rfl ?_
  refine N_newa (sh' := sc3_25) (N := 4) (n := 6) F hG rfl rfl ac_int ⟨by decide, by decide, Nat.le_of_ble_eq_true rfl⟩ (by decide +kernel) ⟨Nat.le_of_ble_eq_true rfl, Nat.le_of_ble_eq_true rfl⟩ ⟨Nat.le_of_ble_eq_true rfl, Nat.le_of_ble_eq_true rfl⟩ dX3_init_51 (fun G F hG => ?_)
  refine X_putr F hin (C := RX3) (T := TX3) (N := 12) (ty0 := tyX3) (sh' := sc3_26) (k := 11) (cell := 0) (ci := 3) (tm := [.ref 1, .int 0, .ref 2, .ref 3, .ref 4, .int 0, .int 0, .int 0, .int 0, .ref 5, .int 0, .null]) rfl (by decide) wsIn3 tyX3_ok nmX3 (tmem 122 (by decide +kernel) rfl) ⟨rfl, rfl⟩ (tyX3_ok 11 (by decide)) (fun a => ⟨rfl, rfl⟩) rfl (Nat.le_of_ble_eq_true rfl) rfl dX3_init_53 (fun F => ?_)
  have hG := GEx.put (sh' := sc3_26) hG rfl F.2.2.2.2.2.2.2.1
  exact X_nret F hr hlk hG dX3_init_56
set_option maxRecDepth 20000 in
set_option maxHeartbeats 4000000 in
theorem N4_init_met {l : Launch} {G : GG} {M : Mem} (hI : Inj sc4_27 G.2.1) (sz : Nat) : MetN sc4_27 sc4_36 l G yX4_init cX4_init 2 3 16 1162 [.ref 0, .ref 100] M (upA (upA (zM (zM M 1 6) 8 6) 15 (fun _ => 0)) 16 (fun _ => 0)) sz := by
  refine X_metN hI (by decide +kernel) rfl (Nat.le_of_ble_eq_true rfl) (fun p e s m args below meth c hsz F hr hlk hin => ?_)
  have hG : GEx sc4_27 sc4_27 G G s.heap.size := GEx.rf hI
  show XJ sc4_27 p l e _ s m args below meth c 0 0 G 2 _ 0 [(0, .ref 0), (1, .ref 100)] [] M
  refine X_aload_n F dX4_init_0 rfl ?_
  refine X_objinit F ⟨(tmem 154 (by decide +kernel) rfl), ob_in, ob_co⟩ ⟨Nat.le_of_ble_eq_true rfl, Nat.le_of_ble_eq_true rfl⟩ (Nat.le_of_ble_eq_true rfl) dX4_init_1 ?_
  refine X_aload_n F dX4_init_4 rfl ?_
  refine X_bipush F dX4_init_5 (v := (6 : Int32)) rfl ?_
  refine X_sipush F dX4_init_7 (v := (160 : Int32)) rfl ?_
  refine N_mna (sh' := sc4_28) (N := 6) (K := 160) (nn := 1) F hG rfl rfl ⟨(tmem 155 (by decide +kernel) rfl), aov_int, ac_int⟩ ⟨by decide, by decide, by decide, by decide, Nat.le_of_ble_eq_true rfl, Nat.le_of_ble_eq_true rfl, Nat.le_of_ble_eq_true rfl⟩ (by decide +kernel) ⟨Nat.le_of_ble_eq_true rfl, Nat.le_of_ble_eq_true rfl⟩ (Nat.le_of_ble_eq_true rfl) dX4_init_10 (fun G F hG => ?_)
  refine X_putr F hin (C := RX4) (T := TX4) (N := 7) (ty0 := tyX4) (sh' := sc4_29) (k := 1) (cell := 0) (ci := 4) (tm := [.null, .null, .null, .null, .null, .int 0, .int 0]) rfl (by decide) wsIn4 tyX4_ok nmX4 (tmem 158 (by decide +kernel) rfl) ⟨rfl, rfl⟩ (tyX4_ok 1 (by decide)) (fun a => ⟨rfl, rfl⟩) rfl (Nat.le_of_ble_eq_true rfl) rfl dX4_init_14 (fun F => ?_)
  have hG := GEx.put (sh' := sc4_29) hG rfl F.2.2.2.2.2.2.2.1
  refine X_aload_n F dX4_init_17 rfl ?_
  refine X_bipush F dX4_init_18 (v := (6 : Int32)) rfl ?_
  refine X_iconst F dX4_init_20 (v := (4 : Int32)) rfl ?_
  refine N_mna (sh' := sc4_30) (N := 6) (K := 4) (nn := 8) F hG rfl rfl ⟨(tmem 155 (by decide +kernel) rfl), aov_int, ac_int⟩ ⟨by decide, by decide, by decide, by decide, Nat.le_of_ble_eq_true rfl, Nat.le_of_ble_eq_true rfl, Nat.le_of_ble_eq_true rfl⟩ (by decide +kernel) ⟨Nat.le_of_ble_eq_true rfl, Nat.le_of_ble_eq_true rfl⟩ (Nat.le_of_ble_eq_true rfl) dX4_init_21 (fun G F hG => ?_)
  refine X_putr F hin (C := RX4) (T := TX4) (N := 7) (ty0 := tyX4) (sh' := sc4_31) (k := 2) (cell := 0) (ci := 4) (tm := [.null, .ref 1, .null, .null, .null, .int 0, .int 0]) rfl (by decide) wsIn4 tyX4_ok nmX4 (tmem 159 (by decide +kernel) rfl) ⟨rfl, rfl⟩ (tyX4_ok 2 (by decide)) (fun a => ⟨rfl, rfl⟩) rfl (Nat.le_of_ble_eq_true rfl) rfl dX4_init_25 (fun F => ?_)
  have hG := GEx.put (sh' := sc4_31) hG rfl F.2.2.2.2.2.2.2.1
  refine X_aload_n F dX4_init_28 rfl ?_
  refine X_bipush F dX4_init_29 (v := (6 : Int32)) rfl ?_
  refine N_newa (sh' := sc4_32) (N := 6) (n := 15) F hG rfl rfl ac_int ⟨by decide, by decide, Nat.le_of_ble_eq_true rfl⟩ (by decide +kernel) ⟨Nat.le_of_ble_eq_true rfl, Nat.le_of_ble_eq_true rfl⟩ ⟨Nat.le_of_ble_eq_true rfl, Nat.le_of_ble_eq_true rfl⟩ dX4_init_31 (fun G F hG => ?_)
  refine X_putr F hin (C := RX4) (T := TX4) (N := 7) (ty0 := tyX4) (sh' := sc4_33) (k := 3) (cell := 0) (ci := 4) (tm := [.null, .ref 1, .ref 8, .null, .null, .int 0, .int 0]) rfl (by decide) wsIn4 tyX4_ok nmX4 (tmem 160 (by decide +kernel) rfl) ⟨rfl, rfl⟩ (tyX4_ok 3 (by decide)) (fun a => ⟨rfl, rfl⟩) rfl (Nat.le_of_ble_eq_true rfl) rfl dX4_init_33 (fun F => ?_)
  have hG := GEx.put (sh' := sc4_33) hG rfl F.2.2.2.2.2.2.2.1
  refine X_aload_n F dX4_init_36 rfl ?_
  refine X_sipush F dX4_init_37 (v := (160 : Int32)) rfl ?_
  refine N_newa (sh' := sc4_34) (N := 160) (n := 16) F hG rfl rfl ac_int ⟨by decide, by decide, Nat.le_of_ble_eq_true rfl⟩ (by decide +kernel) ⟨Nat.le_of_ble_eq_true rfl, Nat.le_of_ble_eq_true rfl⟩ ⟨Nat.le_of_ble_eq_true rfl, Nat.le_of_ble_eq_true rfl⟩ dX4_init_40 (fun G F hG => ?_)
  refine X_putr F hin (C := RX4) (T := TX4) (N := 7) (ty0 := tyX4) (sh' := sc4_35) (k := 4) (cell := 0) (ci := 4) (tm := [.null, .ref 1, .ref 8, .ref 15, .null, .int 0, .int 0]) rfl (by decide) wsIn4 tyX4_ok nmX4 (tmem 161 (by decide +kernel) rfl) ⟨rfl, rfl⟩ (tyX4_ok 4 (by decide)) (fun a => ⟨rfl, rfl⟩) rfl (Nat.le_of_ble_eq_true rfl) rfl dX4_init_42 (fun F => ?_)
  have hG := GEx.put (sh' := sc4_35) hG rfl F.2.2.2.2.2.2.2.1
  refine X_aload_n F dX4_init_45 rfl ?_
  refine X_aload_n F dX4_init_46 rfl ?_
  refine X_putr F hin (C := RX4) (T := TX4) (N := 7) (ty0 := tyX4) (sh' := sc4_36) (k := 0) (cell := 0) (ci := 4) (tm := [.null, .ref 1, .ref 8, .ref 15, .ref 16, .int 0, .int 0]) rfl (by decide) wsIn4 tyX4_ok nmX4 (tmem 157 (by decide +kernel) rfl) ⟨rfl, rfl⟩ (tyX4_ok 0 (by decide)) (fun a => ⟨rfl, rfl⟩) rfl (Nat.le_of_ble_eq_true rfl) rfl dX4_init_47 (fun F => ?_)
  have hG := GEx.put (sh' := sc4_36) hG rfl F.2.2.2.2.2.2.2.1
  exact X_nret F hr hlk hG dX4_init_50
set_option maxRecDepth 20000 in
set_option maxHeartbeats 4000000 in
theorem N7_init_met {l : Launch} {G : GG} {M : Mem} (hI : Inj sc7_37 G.2.1) (sz : Nat) : MetN sc7_37 sc7_39 l G yX7_init cX7_init 3 3 0 0 [.ref 0, .ref 100, .ref 101] M M sz := by
  refine X_metN hI (by decide +kernel) rfl (Nat.le_of_ble_eq_true rfl) (fun p e s m args below meth c hsz F hr hlk hin => ?_)
  have hG : GEx sc7_37 sc7_37 G G s.heap.size := GEx.rf hI
  show XJ sc7_37 p l e _ s m args below meth c 0 0 G 3 _ 0 [(0, .ref 0), (1, .ref 100), (2, .ref 101)] [] M
  refine X_aload_n F dX7_init_0 rfl ?_
  refine X_objinit F ⟨(tmem 187 (by decide +kernel) rfl), ob_in, ob_co⟩ ⟨Nat.le_of_ble_eq_true rfl, Nat.le_of_ble_eq_true rfl⟩ (Nat.le_of_ble_eq_true rfl) dX7_init_1 ?_
  refine X_aload_n F dX7_init_4 rfl ?_
  refine X_aload_n F dX7_init_5 rfl ?_
  refine X_putr F hin (C := RX7) (T := TX7) (N := 2) (ty0 := tyX7) (sh' := sc7_38) (k := 0) (cell := 0) (ci := 7) (tm := [.null, .null]) rfl (by decide) wsIn7 tyX7_ok nmX7 (tmem 188 (by decide +kernel) rfl) ⟨rfl, rfl⟩ (tyX7_ok 0 (by decide)) (fun a => ⟨rfl, rfl⟩) rfl (Nat.le_of_ble_eq_true rfl) rfl dX7_init_6 (fun F => ?_)
  have hG := GEx.put (sh' := sc7_38) hG rfl F.2.2.2.2.2.2.2.1
  refine X_aload_n F dX7_init_9 rfl ?_
  refine X_aload_n F dX7_init_10 rfl ?_
  refine X_putr F hin (C := RX7) (T := TX7) (N := 2) (ty0 := tyX7) (sh' := sc7_39) (k := 1) (cell := 0) (ci := 7) (tm := [.ref 100, .null]) rfl (by decide) wsIn7 tyX7_ok nmX7 (tmem 189 (by decide +kernel) rfl) ⟨rfl, rfl⟩ (tyX7_ok 1 (by decide)) (fun a => ⟨rfl, rfl⟩) rfl (Nat.le_of_ble_eq_true rfl) rfl dX7_init_11 (fun F => ?_)
  have hG := GEx.put (sh' := sc7_39) hG rfl F.2.2.2.2.2.2.2.1
  exact X_nret F hr hlk hG dX7_init_14
set_option maxRecDepth 20000 in
set_option maxHeartbeats 4000000 in
theorem N0_init_met {l : Launch} {G : GG} {M : Mem} (hI : Inj sc0_40 G.2.1) (sz : Nat) : MetN sc0_40 sc0_57 l G yX0_init cX0_init 4 3 7 223 [.ref 0, .ref 100, .ref 101, .ref 102] M (upA (upA (upA (upA (upA (upA (upA M 1 (fun _ => 0)) 2 (fun _ => 0)) 3 (fun _ => 0)) 4 (fun _ => 0)) 5 (fun _ => 0)) 6 (fun _ => 0)) 7 (fun _ => 0)) sz := by
  refine X_metN hI (by decide +kernel) rfl (Nat.le_of_ble_eq_true rfl) (fun p e s m args below meth c hsz F hr hlk hin => ?_)
  have hG : GEx sc0_40 sc0_40 G G s.heap.size := GEx.rf hI
  show XJ sc0_40 p l e _ s m args below meth c 0 0 G 4 _ 0 [(0, .ref 0), (1, .ref 100), (2, .ref 101), (3, .ref 102)] [] M
  refine X_aload_n F dX0_init_0 rfl ?_
  refine X_objinit F ⟨(tmem 200 (by decide +kernel) rfl), ob_in, ob_co⟩ ⟨Nat.le_of_ble_eq_true rfl, Nat.le_of_ble_eq_true rfl⟩ (Nat.le_of_ble_eq_true rfl) dX0_init_1 ?_
  refine X_aload_n F dX0_init_4 rfl ?_
  refine X_bipush F dX0_init_5 (v := (7 : Int32)) rfl ?_
  refine N_newa (sh' := sc0_41) (N := 7) (n := 1) F hG rfl rfl ac_int ⟨by decide, by decide, Nat.le_of_ble_eq_true rfl⟩ (by decide +kernel) ⟨Nat.le_of_ble_eq_true rfl, Nat.le_of_ble_eq_true rfl⟩ ⟨Nat.le_of_ble_eq_true rfl, Nat.le_of_ble_eq_true rfl⟩ dX0_init_7 (fun G F hG => ?_)
  refine X_putr F hin (C := RX0) (T := TX0) (N := 16) (ty0 := tyX0) (sh' := sc0_42) (k := 3) (cell := 0) (ci := 0) (tm := [.null, .null, .null, .null, .null, .null, .int 0, .null, .int 0, .null, .null, .null, .int 0, .int 0, .int 0, .int 0]) rfl (by decide) wsIn0 tyX0_ok nmX0 (tmem 204 (by decide +kernel) rfl) ⟨rfl, rfl⟩ (tyX0_ok 3 (by decide)) (fun a => ⟨rfl, rfl⟩) rfl (Nat.le_of_ble_eq_true rfl) rfl dX0_init_9 (fun F => ?_)
  have hG := GEx.put (sh' := sc0_42) hG rfl F.2.2.2.2.2.2.2.1
  refine X_aload_n F dX0_init_12 rfl ?_
  refine X_bipush F dX0_init_13 (v := (9 : Int32)) rfl ?_
  refine N_newa (sh' := sc0_43) (N := 9) (n := 2) F hG rfl rfl ac_int ⟨by decide, by decide, Nat.le_of_ble_eq_true rfl⟩ (by decide +kernel) ⟨Nat.le_of_ble_eq_true rfl, Nat.le_of_ble_eq_true rfl⟩ ⟨Nat.le_of_ble_eq_true rfl, Nat.le_of_ble_eq_true rfl⟩ dX0_init_15 (fun G F hG => ?_)
  refine X_putr F hin (C := RX0) (T := TX0) (N := 16) (ty0 := tyX0) (sh' := sc0_44) (k := 4) (cell := 0) (ci := 0) (tm := [.null, .null, .null, .ref 1, .null, .null, .int 0, .null, .int 0, .null, .null, .null, .int 0, .int 0, .int 0, .int 0]) rfl (by decide) wsIn0 tyX0_ok nmX0 (tmem 205 (by decide +kernel) rfl) ⟨rfl, rfl⟩ (tyX0_ok 4 (by decide)) (fun a => ⟨rfl, rfl⟩) rfl (Nat.le_of_ble_eq_true rfl) rfl dX0_init_17 (fun F => ?_)
  have hG := GEx.put (sh' := sc0_44) hG rfl F.2.2.2.2.2.2.2.1
  refine X_aload_n F dX0_init_20 rfl ?_
  refine X_bipush F dX0_init_21 (v := (9 : Int32)) rfl ?_
  refine N_newa (sh' := sc0_45) (N := 9) (n := 3) F hG rfl rfl ac_int ⟨by decide, by decide, Nat.le_of_ble_eq_true rfl⟩ (by decide +kernel) ⟨Nat.le_of_ble_eq_true rfl, Nat.le_of_ble_eq_true rfl⟩ ⟨Nat.le_of_ble_eq_true rfl, Nat.le_of_ble_eq_true rfl⟩ dX0_init_23 (fun G F hG => ?_)
  refine X_putr F hin (C := RX0) (T := TX0) (N := 16) (ty0 := tyX0) (sh' := sc0_46) (k := 5) (cell := 0) (ci := 0) (tm := [.null, .null, .null, .ref 1, .ref 2, .null, .int 0, .null, .int 0, .null, .null, .null, .int 0, .int 0, .int 0, .int 0]) rfl (by decide) wsIn0 tyX0_ok nmX0 (tmem 206 (by decide +kernel) rfl) ⟨rfl, rfl⟩ (tyX0_ok 5 (by decide)) (fun a => ⟨rfl, rfl⟩) rfl (Nat.le_of_ble_eq_true rfl) rfl dX0_init_25 (fun F => ?_)
  have hG := GEx.put (sh' := sc0_46) hG rfl F.2.2.2.2.2.2.2.1
  refine X_aload_n F dX0_init_28 rfl ?_
  refine X_bipush F dX0_init_29 (v := (6 : Int32)) rfl ?_
  refine N_newa (sh' := sc0_47) (N := 6) (n := 4) F hG rfl rfl ac_int ⟨by decide, by decide, Nat.le_of_ble_eq_true rfl⟩ (by decide +kernel) ⟨Nat.le_of_ble_eq_true rfl, Nat.le_of_ble_eq_true rfl⟩ ⟨Nat.le_of_ble_eq_true rfl, Nat.le_of_ble_eq_true rfl⟩ dX0_init_31 (fun G F hG => ?_)
  refine X_putr F hin (C := RX0) (T := TX0) (N := 16) (ty0 := tyX0) (sh' := sc0_48) (k := 7) (cell := 0) (ci := 0) (tm := [.null, .null, .null, .ref 1, .ref 2, .ref 3, .int 0, .null, .int 0, .null, .null, .null, .int 0, .int 0, .int 0, .int 0]) rfl (by decide) wsIn0 tyX0_ok nmX0 (tmem 208 (by decide +kernel) rfl) ⟨rfl, rfl⟩ (tyX0_ok 7 (by decide)) (fun a => ⟨rfl, rfl⟩) rfl (Nat.le_of_ble_eq_true rfl) rfl dX0_init_33 (fun F => ?_)
  have hG := GEx.put (sh' := sc0_48) hG rfl F.2.2.2.2.2.2.2.1
  refine X_aload_n F dX0_init_36 rfl ?_
  refine X_bipush F dX0_init_37 (v := (64 : Int32)) rfl ?_
  refine N_newa (sh' := sc0_49) (N := 64) (n := 5) F hG rfl rfl ac_int ⟨by decide, by decide, Nat.le_of_ble_eq_true rfl⟩ (by decide +kernel) ⟨Nat.le_of_ble_eq_true rfl, Nat.le_of_ble_eq_true rfl⟩ ⟨Nat.le_of_ble_eq_true rfl, Nat.le_of_ble_eq_true rfl⟩ dX0_init_39 (fun G F hG => ?_)
  refine X_putr F hin (C := RX0) (T := TX0) (N := 16) (ty0 := tyX0) (sh' := sc0_50) (k := 9) (cell := 0) (ci := 0) (tm := [.null, .null, .null, .ref 1, .ref 2, .ref 3, .int 0, .ref 4, .int 0, .null, .null, .null, .int 0, .int 0, .int 0, .int 0]) rfl (by decide) wsIn0 tyX0_ok nmX0 (tmem 212 (by decide +kernel) rfl) ⟨rfl, rfl⟩ (tyX0_ok 9 (by decide)) (fun a => ⟨rfl, rfl⟩) rfl (Nat.le_of_ble_eq_true rfl) rfl dX0_init_41 (fun F => ?_)
  have hG := GEx.put (sh' := sc0_50) hG rfl F.2.2.2.2.2.2.2.1
  refine X_aload_n F dX0_init_44 rfl ?_
  refine X_bipush F dX0_init_45 (v := (64 : Int32)) rfl ?_
  refine N_newa (sh' := sc0_51) (N := 64) (n := 6) F hG rfl rfl ac_int ⟨by decide, by decide, Nat.le_of_ble_eq_true rfl⟩ (by decide +kernel) ⟨Nat.le_of_ble_eq_true rfl, Nat.le_of_ble_eq_true rfl⟩ ⟨Nat.le_of_ble_eq_true rfl, Nat.le_of_ble_eq_true rfl⟩ dX0_init_47 (fun G F hG => ?_)
  refine X_putr F hin (C := RX0) (T := TX0) (N := 16) (ty0 := tyX0) (sh' := sc0_52) (k := 10) (cell := 0) (ci := 0) (tm := [.null, .null, .null, .ref 1, .ref 2, .ref 3, .int 0, .ref 4, .int 0, .ref 5, .null, .null, .int 0, .int 0, .int 0, .int 0]) rfl (by decide) wsIn0 tyX0_ok nmX0 (tmem 214 (by decide +kernel) rfl) ⟨rfl, rfl⟩ (tyX0_ok 10 (by decide)) (fun a => ⟨rfl, rfl⟩) rfl (Nat.le_of_ble_eq_true rfl) rfl dX0_init_49 (fun F => ?_)
  have hG := GEx.put (sh' := sc0_52) hG rfl F.2.2.2.2.2.2.2.1
  refine X_aload_n F dX0_init_52 rfl ?_
  refine X_bipush F dX0_init_53 (v := (64 : Int32)) rfl ?_
  refine N_newa (sh' := sc0_53) (N := 64) (n := 7) F hG rfl rfl ac_int ⟨by decide, by decide, Nat.le_of_ble_eq_true rfl⟩ (by decide +kernel) ⟨Nat.le_of_ble_eq_true rfl, Nat.le_of_ble_eq_true rfl⟩ ⟨Nat.le_of_ble_eq_true rfl, Nat.le_of_ble_eq_true rfl⟩ dX0_init_55 (fun G F hG => ?_)
  refine X_putr F hin (C := RX0) (T := TX0) (N := 16) (ty0 := tyX0) (sh' := sc0_54) (k := 11) (cell := 0) (ci := 0) (tm := [.null, .null, .null, .ref 1, .ref 2, .ref 3, .int 0, .ref 4, .int 0, .ref 5, .ref 6, .null, .int 0, .int 0, .int 0, .int 0]) rfl (by decide) wsIn0 tyX0_ok nmX0 (tmem 216 (by decide +kernel) rfl) ⟨rfl, rfl⟩ (tyX0_ok 11 (by decide)) (fun a => ⟨rfl, rfl⟩) rfl (Nat.le_of_ble_eq_true rfl) rfl dX0_init_57 (fun F => ?_)
  have hG := GEx.put (sh' := sc0_54) hG rfl F.2.2.2.2.2.2.2.1
  refine X_aload_n F dX0_init_60 rfl ?_
  refine X_aload_n F dX0_init_61 rfl ?_
  refine X_putr F hin (C := RX0) (T := TX0) (N := 16) (ty0 := tyX0) (sh' := sc0_55) (k := 0) (cell := 0) (ci := 0) (tm := [.null, .null, .null, .ref 1, .ref 2, .ref 3, .int 0, .ref 4, .int 0, .ref 5, .ref 6, .ref 7, .int 0, .int 0, .int 0, .int 0]) rfl (by decide) wsIn0 tyX0_ok nmX0 (tmem 201 (by decide +kernel) rfl) ⟨rfl, rfl⟩ (tyX0_ok 0 (by decide)) (fun a => ⟨rfl, rfl⟩) rfl (Nat.le_of_ble_eq_true rfl) rfl dX0_init_62 (fun F => ?_)
  have hG := GEx.put (sh' := sc0_55) hG rfl F.2.2.2.2.2.2.2.1
  refine X_aload_n F dX0_init_65 rfl ?_
  refine X_aload_n F dX0_init_66 rfl ?_
  refine X_putr F hin (C := RX0) (T := TX0) (N := 16) (ty0 := tyX0) (sh' := sc0_56) (k := 1) (cell := 0) (ci := 0) (tm := [.ref 100, .null, .null, .ref 1, .ref 2, .ref 3, .int 0, .ref 4, .int 0, .ref 5, .ref 6, .ref 7, .int 0, .int 0, .int 0, .int 0]) rfl (by decide) wsIn0 tyX0_ok nmX0 (tmem 202 (by decide +kernel) rfl) ⟨rfl, rfl⟩ (tyX0_ok 1 (by decide)) (fun a => ⟨rfl, rfl⟩) rfl (Nat.le_of_ble_eq_true rfl) rfl dX0_init_67 (fun F => ?_)
  have hG := GEx.put (sh' := sc0_56) hG rfl F.2.2.2.2.2.2.2.1
  refine X_aload_n F dX0_init_70 rfl ?_
  refine X_aload_n F dX0_init_71 rfl ?_
  refine X_putr F hin (C := RX0) (T := TX0) (N := 16) (ty0 := tyX0) (sh' := sc0_57) (k := 2) (cell := 0) (ci := 0) (tm := [.ref 100, .ref 101, .null, .ref 1, .ref 2, .ref 3, .int 0, .ref 4, .int 0, .ref 5, .ref 6, .ref 7, .int 0, .int 0, .int 0, .int 0]) rfl (by decide) wsIn0 tyX0_ok nmX0 (tmem 203 (by decide +kernel) rfl) ⟨rfl, rfl⟩ (tyX0_ok 2 (by decide)) (fun a => ⟨rfl, rfl⟩) rfl (Nat.le_of_ble_eq_true rfl) rfl dX0_init_72 (fun F => ?_)
  have hG := GEx.put (sh' := sc0_57) hG rfl F.2.2.2.2.2.2.2.1
  exact X_nret F hr hlk hG dX0_init_75
set_option maxRecDepth 20000 in
set_option maxHeartbeats 4000000 in
theorem N5_init_met {l : Launch} {G : GG} {M : Mem} (hI : Inj sc5_58 G.2.1) (sz : Nat) : MetN sc5_58 sc5_64 l G yX5_init cX5_init 1 3 7 172 [.ref 0] M (zM (upA (up2 (up2 (up2 (up2 (upA M 1 (fun _ => 0)) 1 0 (-1 : Int32)) 1 1 (-1 : Int32)) 1 2 (-1 : Int32)) 1 3 (-1 : Int32)) 2 (fun _ => 0)) 3 4) sz := by
  refine X_metN hI (by decide +kernel) rfl (Nat.le_of_ble_eq_true rfl) (fun p e s m args below meth c hsz F hr hlk hin => ?_)
  have hG : GEx sc5_58 sc5_58 G G s.heap.size := GEx.rf hI
  show XJ sc5_58 p l e _ s m args below meth c 0 0 G 1 _ 0 [(0, .ref 0)] [] M
  refine X_aload_n F dX5_init_0 rfl ?_
  refine X_objinit F ⟨(tmem 262 (by decide +kernel) rfl), ob_in, ob_co⟩ ⟨Nat.le_of_ble_eq_true rfl, Nat.le_of_ble_eq_true rfl⟩ (Nat.le_of_ble_eq_true rfl) dX5_init_1 ?_
  refine X_aload_n F dX5_init_4 rfl ?_
  refine X_iconst F dX5_init_5 (v := (4 : Int32)) rfl ?_
  refine N_newa (sh' := sc5_59) (N := 4) (n := 1) F hG rfl rfl ac_int ⟨by decide, by decide, Nat.le_of_ble_eq_true rfl⟩ (by decide +kernel) ⟨Nat.le_of_ble_eq_true rfl, Nat.le_of_ble_eq_true rfl⟩ ⟨Nat.le_of_ble_eq_true rfl, Nat.le_of_ble_eq_true rfl⟩ dX5_init_6 (fun G F hG => ?_)
  refine X_dup F dX5_init_8 rfl ?_
  refine X_iconst F dX5_init_9 (v := (0 : Int32)) rfl ?_
  refine X_iconst F dX5_init_10 (v := (-1 : Int32)) rfl ?_
  refine X_iast (j := 0) F rfl (inbV (n := 4) (by decide)) (by decide) dX5_init_11 ?_
  refine X_dup F dX5_init_12 rfl ?_
  refine X_iconst F dX5_init_13 (v := (1 : Int32)) rfl ?_
  refine X_iconst F dX5_init_14 (v := (-1 : Int32)) rfl ?_
  refine X_iast (j := 1) F rfl (inbV (n := 4) (by decide)) (by decide) dX5_init_15 ?_
  refine X_dup F dX5_init_16 rfl ?_
  refine X_iconst F dX5_init_17 (v := (2 : Int32)) rfl ?_
  refine X_iconst F dX5_init_18 (v := (-1 : Int32)) rfl ?_
  refine X_iast (j := 2) F rfl (inbV (n := 4) (by decide)) (by decide) dX5_init_19 ?_
  refine X_dup F dX5_init_20 rfl ?_
  refine X_iconst F dX5_init_21 (v := (3 : Int32)) rfl ?_
  refine X_iconst F dX5_init_22 (v := (-1 : Int32)) rfl ?_
  refine X_iast (j := 3) F rfl (inbV (n := 4) (by decide)) (by decide) dX5_init_23 ?_
  refine X_putr F hin (C := RX5) (T := TX5) (N := 3) (ty0 := tyX5) (sh' := sc5_60) (k := 0) (cell := 0) (ci := 5) (tm := [.null, .null, .null]) rfl (by decide) wsIn5 tyX5_ok nmX5 (tmem 264 (by decide +kernel) rfl) ⟨rfl, rfl⟩ (tyX5_ok 0 (by decide)) (fun a => ⟨rfl, rfl⟩) rfl (Nat.le_of_ble_eq_true rfl) rfl dX5_init_24 (fun F => ?_)
  have hG := GEx.put (sh' := sc5_60) hG rfl F.2.2.2.2.2.2.2.1
  refine X_aload_n F dX5_init_27 rfl ?_
  refine X_iconst F dX5_init_28 (v := (4 : Int32)) rfl ?_
  refine N_newa (sh' := sc5_61) (N := 4) (n := 2) F hG rfl rfl ac_int ⟨by decide, by decide, Nat.le_of_ble_eq_true rfl⟩ (by decide +kernel) ⟨Nat.le_of_ble_eq_true rfl, Nat.le_of_ble_eq_true rfl⟩ ⟨Nat.le_of_ble_eq_true rfl, Nat.le_of_ble_eq_true rfl⟩ dX5_init_29 (fun G F hG => ?_)
  refine X_putr F hin (C := RX5) (T := TX5) (N := 3) (ty0 := tyX5) (sh' := sc5_62) (k := 1) (cell := 0) (ci := 5) (tm := [.ref 1, .null, .null]) rfl (by decide) wsIn5 tyX5_ok nmX5 (tmem 266 (by decide +kernel) rfl) ⟨rfl, rfl⟩ (tyX5_ok 1 (by decide)) (fun a => ⟨rfl, rfl⟩) rfl (Nat.le_of_ble_eq_true rfl) rfl dX5_init_31 (fun F => ?_)
  have hG := GEx.put (sh' := sc5_62) hG rfl F.2.2.2.2.2.2.2.1
  refine X_aload_n F dX5_init_34 rfl ?_
  refine X_iconst F dX5_init_35 (v := (4 : Int32)) rfl ?_
  refine X_bipush F dX5_init_36 (v := (40 : Int32)) rfl ?_
  refine N_mna (sh' := sc5_63) (N := 4) (K := 40) (nn := 3) F hG rfl rfl ⟨(tmem 263 (by decide +kernel) rfl), aov_int, ac_int⟩ ⟨by decide, by decide, by decide, by decide, Nat.le_of_ble_eq_true rfl, Nat.le_of_ble_eq_true rfl, Nat.le_of_ble_eq_true rfl⟩ (by decide +kernel) ⟨Nat.le_of_ble_eq_true rfl, Nat.le_of_ble_eq_true rfl⟩ (Nat.le_of_ble_eq_true rfl) dX5_init_38 (fun G F hG => ?_)
  refine X_putr F hin (C := RX5) (T := TX5) (N := 3) (ty0 := tyX5) (sh' := sc5_64) (k := 2) (cell := 0) (ci := 5) (tm := [.ref 1, .ref 2, .null]) rfl (by decide) wsIn5 tyX5_ok nmX5 (tmem 268 (by decide +kernel) rfl) ⟨rfl, rfl⟩ (tyX5_ok 2 (by decide)) (fun a => ⟨rfl, rfl⟩) rfl (Nat.le_of_ble_eq_true rfl) rfl dX5_init_42 (fun F => ?_)
  have hG := GEx.put (sh' := sc5_64) hG rfl F.2.2.2.2.2.2.2.1
  exact X_nret F hr hlk hG dX5_init_45
set_option maxRecDepth 20000 in
set_option maxHeartbeats 4000000 in
theorem N1_init_met {l : Launch} {G : GG} {M : Mem} (hI : Inj sc1_65 G.2.1) (sz : Nat) : MetN sc1_65 sc1_75 l G yX1_init cX1_init 1 3 5 34 [.ref 0] M (upA (upA (upA (upA (upA M 1 (fun _ => 0)) 2 (fun _ => 0)) 3 (fun _ => 0)) 4 (fun _ => 0)) 5 (fun _ => 0)) sz := by
  refine X_metN hI (by decide +kernel) rfl (Nat.le_of_ble_eq_true rfl) (fun p e s m args below meth c hsz F hr hlk hin => ?_)
  have hG : GEx sc1_65 sc1_65 G G s.heap.size := GEx.rf hI
  show XJ sc1_65 p l e _ s m args below meth c 0 0 G 1 _ 0 [(0, .ref 0)] [] M
  refine X_aload_n F dX1_init_0 rfl ?_
  refine X_objinit F ⟨(tmem 282 (by decide +kernel) rfl), ob_in, ob_co⟩ ⟨Nat.le_of_ble_eq_true rfl, Nat.le_of_ble_eq_true rfl⟩ (Nat.le_of_ble_eq_true rfl) dX1_init_1 ?_
  refine X_aload_n F dX1_init_4 rfl ?_
  refine X_bipush F dX1_init_5 (v := (8 : Int32)) rfl ?_
  refine N_newa (sh' := sc1_66) (N := 8) (n := 1) F hG rfl rfl ac_int ⟨by decide, by decide, Nat.le_of_ble_eq_true rfl⟩ (by decide +kernel) ⟨Nat.le_of_ble_eq_true rfl, Nat.le_of_ble_eq_true rfl⟩ ⟨Nat.le_of_ble_eq_true rfl, Nat.le_of_ble_eq_true rfl⟩ dX1_init_7 (fun G F hG => ?_)
  refine X_putr F hin (C := RX1) (T := TX1) (N := 11) (ty0 := tyX1) (sh' := sc1_67) (k := 6) (cell := 0) (ci := 1) (tm := [.int 0, .int 0, .int 0, .int 0, .int 0, .int 0, .null, .null, .null, .null, .null]) rfl (by decide) wsIn1 tyX1_ok nmX1 (tmem 291 (by decide +kernel) rfl) ⟨rfl, rfl⟩ (tyX1_ok 6 (by decide)) (fun a => ⟨rfl, rfl⟩) rfl (Nat.le_of_ble_eq_true rfl) rfl dX1_init_9 (fun F => ?_)
  have hG := GEx.put (sh' := sc1_67) hG rfl F.2.2.2.2.2.2.2.1
  refine X_aload_n F dX1_init_12 rfl ?_
  refine X_bipush F dX1_init_13 (v := (8 : Int32)) rfl ?_
  refine N_newa (sh' := sc1_68) (N := 8) (n := 2) F hG rfl rfl ac_int ⟨by decide, by decide, Nat.le_of_ble_eq_true rfl⟩ (by decide +kernel) ⟨Nat.le_of_ble_eq_true rfl, Nat.le_of_ble_eq_true rfl⟩ ⟨Nat.le_of_ble_eq_true rfl, Nat.le_of_ble_eq_true rfl⟩ dX1_init_15 (fun G F hG => ?_)
  refine X_putr F hin (C := RX1) (T := TX1) (N := 11) (ty0 := tyX1) (sh' := sc1_69) (k := 7) (cell := 0) (ci := 1) (tm := [.int 0, .int 0, .int 0, .int 0, .int 0, .int 0, .ref 1, .null, .null, .null, .null]) rfl (by decide) wsIn1 tyX1_ok nmX1 (tmem 292 (by decide +kernel) rfl) ⟨rfl, rfl⟩ (tyX1_ok 7 (by decide)) (fun a => ⟨rfl, rfl⟩) rfl (Nat.le_of_ble_eq_true rfl) rfl dX1_init_17 (fun F => ?_)
  have hG := GEx.put (sh' := sc1_69) hG rfl F.2.2.2.2.2.2.2.1
  refine X_aload_n F dX1_init_20 rfl ?_
  refine X_bipush F dX1_init_21 (v := (6 : Int32)) rfl ?_
  refine N_newa (sh' := sc1_70) (N := 6) (n := 3) F hG rfl rfl ac_int ⟨by decide, by decide, Nat.le_of_ble_eq_true rfl⟩ (by decide +kernel) ⟨Nat.le_of_ble_eq_true rfl, Nat.le_of_ble_eq_true rfl⟩ ⟨Nat.le_of_ble_eq_true rfl, Nat.le_of_ble_eq_true rfl⟩ dX1_init_23 (fun G F hG => ?_)
  refine X_putr F hin (C := RX1) (T := TX1) (N := 11) (ty0 := tyX1) (sh' := sc1_71) (k := 8) (cell := 0) (ci := 1) (tm := [.int 0, .int 0, .int 0, .int 0, .int 0, .int 0, .ref 1, .ref 2, .null, .null, .null]) rfl (by decide) wsIn1 tyX1_ok nmX1 (tmem 293 (by decide +kernel) rfl) ⟨rfl, rfl⟩ (tyX1_ok 8 (by decide)) (fun a => ⟨rfl, rfl⟩) rfl (Nat.le_of_ble_eq_true rfl) rfl dX1_init_25 (fun F => ?_)
  have hG := GEx.put (sh' := sc1_71) hG rfl F.2.2.2.2.2.2.2.1
  refine X_aload_n F dX1_init_28 rfl ?_
  refine X_bipush F dX1_init_29 (v := (6 : Int32)) rfl ?_
  refine N_newa (sh' := sc1_72) (N := 6) (n := 4) F hG rfl rfl ac_int ⟨by decide, by decide, Nat.le_of_ble_eq_true rfl⟩ (by decide +kernel) ⟨Nat.le_of_ble_eq_true rfl, Nat.le_of_ble_eq_true rfl⟩ ⟨Nat.le_of_ble_eq_true rfl, Nat.le_of_ble_eq_true rfl⟩ dX1_init_31 (fun G F hG => ?_)
  refine X_putr F hin (C := RX1) (T := TX1) (N := 11) (ty0 := tyX1) (sh' := sc1_73) (k := 9) (cell := 0) (ci := 1) (tm := [.int 0, .int 0, .int 0, .int 0, .int 0, .int 0, .ref 1, .ref 2, .ref 3, .null, .null]) rfl (by decide) wsIn1 tyX1_ok nmX1 (tmem 294 (by decide +kernel) rfl) ⟨rfl, rfl⟩ (tyX1_ok 9 (by decide)) (fun a => ⟨rfl, rfl⟩) rfl (Nat.le_of_ble_eq_true rfl) rfl dX1_init_33 (fun F => ?_)
  have hG := GEx.put (sh' := sc1_73) hG rfl F.2.2.2.2.2.2.2.1
  refine X_aload_n F dX1_init_36 rfl ?_
  refine X_bipush F dX1_init_37 (v := (6 : Int32)) rfl ?_
  refine N_newa (sh' := sc1_74) (N := 6) (n := 5) F hG rfl rfl ac_int ⟨by decide, by decide, Nat.le_of_ble_eq_true rfl⟩ (by decide +kernel) ⟨Nat.le_of_ble_eq_true rfl, Nat.le_of_ble_eq_true rfl⟩ ⟨Nat.le_of_ble_eq_true rfl, Nat.le_of_ble_eq_true rfl⟩ dX1_init_39 (fun G F hG => ?_)
  refine X_putr F hin (C := RX1) (T := TX1) (N := 11) (ty0 := tyX1) (sh' := sc1_75) (k := 10) (cell := 0) (ci := 1) (tm := [.int 0, .int 0, .int 0, .int 0, .int 0, .int 0, .ref 1, .ref 2, .ref 3, .ref 4, .null]) rfl (by decide) wsIn1 tyX1_ok nmX1 (tmem 295 (by decide +kernel) rfl) ⟨rfl, rfl⟩ (tyX1_ok 10 (by decide)) (fun a => ⟨rfl, rfl⟩) rfl (Nat.le_of_ble_eq_true rfl) rfl dX1_init_41 (fun F => ?_)
  have hG := GEx.put (sh' := sc1_75) hG rfl F.2.2.2.2.2.2.2.1
  exact X_nret F hr hlk hG dX1_init_44
