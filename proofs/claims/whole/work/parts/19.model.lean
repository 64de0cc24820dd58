/-! CONSTRUCTORS: written by wip/whole/gen/genctor.py -/
def spM (M : Mem) (j : Nat) (b0 b1 b2 b3 b4 b5 b6 b7 : Int32) : Mem := up2 (up2 (up2 (up2 (up2 (up2 (up2 (up2 M 1 j b0) 1 (j + 1) b1) 1 (j + 2) b2) 1 (j + 3) b3) 1 (j + 4) b4) 1 (j + 5) b5) 1 (j + 6) b6) 1 (j + 7) b7
theorem spell_eq (M : Mem) (j : Nat) (hj : j + 8 ≤ 960) (b0 b1 b2 b3 b4 b5 b6 b7 : Int32) : F9_spell M (nI j) b0 b1 b2 b3 b4 b5 b6 b7 = some (0, spM M j b0 b1 b2 b3 b4 b5 b6 b7) := by
  unfold F9_spell
  have e1 : nI j + (1 : Int32) = nI (j + 1) := nI_add j 1
  have e2 : nI j + (2 : Int32) = nI (j + 2) := nI_add j 2
  have e3 : nI j + (3 : Int32) = nI (j + 3) := nI_add j 3
  have e4 : nI j + (4 : Int32) = nI (j + 4) := nI_add j 4
  have e5 : nI j + (5 : Int32) = nI (j + 5) := nI_add j 5
  have e6 : nI j + (6 : Int32) = nI (j + 6) := nI_add j 6
  have e7 : nI j + (7 : Int32) = nI (j + 7) := nI_add j 7
  have hin : ∀ k, k < 960 → inb (nI k) 960 = true := fun k hk => by
    unfold inb
    rw [nI_clamp (by omega)]
    have := nI_pos (n := k) (by omega)
    simp only [this, false_or, decide_eq_true_eq]
    omega
  rw [e1, e2, e3, e4, e5, e6, e7]
  rw [if_pos (hin j (by omega)), if_pos (hin (j + 1) (by omega)), if_pos (hin (j + 2) (by omega)), if_pos (hin (j + 3) (by omega)), if_pos (hin (j + 4) (by omega)), if_pos (hin (j + 5) (by omega)), if_pos (hin (j + 6) (by omega)), if_pos (hin (j + 7) (by omega))]
  rw [nI_clamp (by omega), nI_clamp (n := j + 1) (by omega), nI_clamp (n := j + 2) (by omega), nI_clamp (n := j + 3) (by omega), nI_clamp (n := j + 4) (by omega), nI_clamp (n := j + 5) (by omega), nI_clamp (n := j + 6) (by omega), nI_clamp (n := j + 7) (by omega)]
  rfl
def ms9 (M : Mem) : Mem := (upA (upA (upA (upA (up2 (upA (upA (upA (upA (upA (upA (upA (upA (upA (upA (upA (upA (upA (upA (upA (upA M 1 (fun _ => 0)) 2 (fun _ => 0)) 3 (fun _ => 0)) 4 (fun _ => 0)) 5 (fun _ => 0)) 6 (fun _ => 0)) 7 (fun _ => 0)) 8 (fun _ => 0)) 9 (fun _ => 0)) 10 (fun _ => 0)) 11 (fun _ => 0)) 12 (fun _ => 0)) 13 (fun _ => 0)) 14 (fun _ => 0)) 15 (fun _ => 0)) 16 (fun _ => 0)) 0 47 (-1 : Int32)) 17 (fun _ => 0)) 18 (fun _ => 0)) 19 (fun _ => 0)) 20 (fun _ => 0))
def ms10 (M : Mem) : Mem := spM (ms9 M) 0 (116 : Int32) (97 : Int32) (107 : Int32) (101 : Int32) (115 : Int32) (32 : Int32) (51 : Int32) (32 : Int32)
def ms11 (M : Mem) : Mem := spM (ms10 M) 8 (59 : Int32) (32 : Int32) (108 : Int32) (101 : Int32) (116 : Int32) (115 : Int32) (32 : Int32) (49 : Int32)
def ms12 (M : Mem) : Mem := spM (ms11 M) 16 (48 : Int32) (32 : Int32) (43 : Int32) (32 : Int32) (119 : Int32) (97 : Int32) (105 : Int32) (116 : Int32)
def ms13 (M : Mem) : Mem := spM (ms12 M) 24 (32 : Int32) (42 : Int32) (32 : Int32) (53 : Int32) (32 : Int32) (59 : Int32) (32 : Int32) (119 : Int32)
def ms14 (M : Mem) : Mem := spM (ms13 M) 32 (97 : Int32) (108 : Int32) (107 : Int32) (115 : Int32) (32 : Int32) (50 : Int32) (32 : Int32) (43 : Int32)
def ms15 (M : Mem) : Mem := spM (ms14 M) 40 (32 : Int32) (105 : Int32) (116 : Int32) (101 : Int32) (109 : Int32) (115 : Int32) (32 : Int32) (59 : Int32)
set_option maxRecDepth 20000 in
set_option maxHeartbeats 400000 in
theorem N9_init_met {l : Launch} {G0 : GG} {M : Mem} (hI : Inj sc9_101 G0.2.1) (sz : Nat) : MetN sc9_101 shB l G0 yX9_init cX9_init 1 3 20 1409 [.ref 0] M (up2 (up2 (ms15 M) 2 0 (48 : Int32)) 0 3 (1 : Int32)) sz := by
  refine X_metN hI (by decide +kernel) rfl (Nat.le_of_ble_eq_true rfl) (fun p e s m args below meth c hsz F hr hlk hin => ?_)
  have hG : GEx sc9_101 sc9_101 G0 G0 s.heap.size := GEx.rf hI
  show XJ sc9_101 p l e _ s m args below meth c 0 0 G0 1 _ 0 [(0, .ref 0)] [] M
  refine X_aload_n F dX9_init_0 rfl ?_
  refine X_objinit F ⟨(tmem 927 (by decide +kernel) rfl), ob_in, ob_co⟩ ⟨Nat.le_of_ble_eq_true rfl, Nat.le_of_ble_eq_true rfl⟩ (Nat.le_of_ble_eq_true rfl) dX9_init_1 ?_
  refine X_aload_n F dX9_init_4 rfl ?_
  refine X_sipush F dX9_init_5 (v := (960 : Int32)) rfl ?_
  refine N_newa (sh' := sc9_102) (N := 960) (n := 1) F hG rfl rfl ac_int ⟨by decide, by decide, Nat.le_of_ble_eq_true rfl⟩ (by decide +kernel) ⟨Nat.le_of_ble_eq_true rfl, Nat.le_of_ble_eq_true rfl⟩ ⟨Nat.le_of_ble_eq_true rfl, Nat.le_of_ble_eq_true rfl⟩ dX9_init_8 (fun G F hG => ?_)
  refine X_putr F hin (C := RX9) (T := TX9) (N := 56) (ty0 := tyX9) (sh' := sc9_103) (k := 1) (cell := 0) (ci := 9) (tm := [.int 0, .null, .null, .int 0, .int 0, .null, .int 0, .null, .null, .null, .int 0, .int 0, .int 0, .null, .null, .null, .int 0, .int 0, .int 0, .int 0, .int 0, .int 0, .int 0, .int 0, .int 0, .int 0, .int 0, .int 0, .long 0, .int 0, .int 0, .int 0, .null, .null, .null, .int 0, .int 0, .null, .int 0, .null, .int 0, .int 0, .int 0, .int 0, .int 0, .null, .null, .int 0, .int 0, .int 0, .int 0, .int 0, .null, .null, .null, .null]) rfl (by decide) wsIn9 tyX9_ok nmX9 (tmem 932 (by decide +kernel) rfl) ⟨rfl, rfl⟩ (tyX9_ok 1 (by decide)) (fun a => ⟨rfl, rfl⟩) rfl (Nat.le_of_ble_eq_true rfl) rfl dX9_init_10 (fun F => ?_)
  have hG := GEx.put (sh' := sc9_103) hG rfl F.2.2.2.2.2.2.2.1
  refine X_aload_n F dX9_init_13 rfl ?_
  refine X_bipush F dX9_init_14 (v := (6 : Int32)) rfl ?_
  refine N_newa (sh' := sc9_104) (N := 6) (n := 2) F hG rfl rfl ac_int ⟨by decide, by decide, Nat.le_of_ble_eq_true rfl⟩ (by decide +kernel) ⟨Nat.le_of_ble_eq_true rfl, Nat.le_of_ble_eq_true rfl⟩ ⟨Nat.le_of_ble_eq_true rfl, Nat.le_of_ble_eq_true rfl⟩ dX9_init_16 (fun G F hG => ?_)
  refine X_putr F hin (C := RX9) (T := TX9) (N := 56) (ty0 := tyX9) (sh' := sc9_105) (k := 2) (cell := 0) (ci := 9) (tm := [.int 0, .ref 1, .null, .int 0, .int 0, .null, .int 0, .null, .null, .null, .int 0, .int 0, .int 0, .null, .null, .null, .int 0, .int 0, .int 0, .int 0, .int 0, .int 0, .int 0, .int 0, .int 0, .int 0, .int 0, .int 0, .long 0, .int 0, .int 0, .int 0, .null, .null, .null, .int 0, .int 0, .null, .int 0, .null, .int 0, .int 0, .int 0, .int 0, .int 0, .null, .null, .int 0, .int 0, .int 0, .int 0, .int 0, .null, .null, .null, .null]) rfl (by decide) wsIn9 tyX9_ok nmX9 (tmem 933 (by decide +kernel) rfl) ⟨rfl, rfl⟩ (tyX9_ok 2 (by decide)) (fun a => ⟨rfl, rfl⟩) rfl (Nat.le_of_ble_eq_true rfl) rfl dX9_init_18 (fun F => ?_)
  have hG := GEx.put (sh' := sc9_105) hG rfl F.2.2.2.2.2.2.2.1
  refine X_aload_n F dX9_init_21 rfl ?_
  refine X_sipush F dX9_init_22 (v := (160 : Int32)) rfl ?_
  refine N_newa (sh' := sc9_106) (N := 160) (n := 3) F hG rfl rfl ac_int ⟨by decide, by decide, Nat.le_of_ble_eq_true rfl⟩ (by decide +kernel) ⟨Nat.le_of_ble_eq_true rfl, Nat.le_of_ble_eq_true rfl⟩ ⟨Nat.le_of_ble_eq_true rfl, Nat.le_of_ble_eq_true rfl⟩ dX9_init_25 (fun G F hG => ?_)
  refine X_putr F hin (C := RX9) (T := TX9) (N := 56) (ty0 := tyX9) (sh' := sc9_107) (k := 5) (cell := 0) (ci := 9) (tm := [.int 0, .ref 1, .ref 2, .int 0, .int 0, .null, .int 0, .null, .null, .null, .int 0, .int 0, .int 0, .null, .null, .null, .int 0, .int 0, .int 0, .int 0, .int 0, .int 0, .int 0, .int 0, .int 0, .int 0, .int 0, .int 0, .long 0, .int 0, .int 0, .int 0, .null, .null, .null, .int 0, .int 0, .null, .int 0, .null, .int 0, .int 0, .int 0, .int 0, .int 0, .null, .null, .int 0, .int 0, .int 0, .int 0, .int 0, .null, .null, .null, .null]) rfl (by decide) wsIn9 tyX9_ok nmX9 (tmem 936 (by decide +kernel) rfl) ⟨rfl, rfl⟩ (tyX9_ok 5 (by decide)) (fun a => ⟨rfl, rfl⟩) rfl (Nat.le_of_ble_eq_true rfl) rfl dX9_init_27 (fun F => ?_)
  have hG := GEx.put (sh' := sc9_107) hG rfl F.2.2.2.2.2.2.2.1
  refine X_aload_n F dX9_init_30 rfl ?_
  refine X_bipush F dX9_init_31 (v := (8 : Int32)) rfl ?_
  refine N_newa (sh' := sc9_108) (N := 8) (n := 4) F hG rfl rfl ac_int ⟨by decide, by decide, Nat.le_of_ble_eq_true rfl⟩ (by decide +kernel) ⟨Nat.le_of_ble_eq_true rfl, Nat.le_of_ble_eq_true rfl⟩ ⟨Nat.le_of_ble_eq_true rfl, Nat.le_of_ble_eq_true rfl⟩ dX9_init_33 (fun G F hG => ?_)
  refine X_putr F hin (C := RX9) (T := TX9) (N := 56) (ty0 := tyX9) (sh' := sc9_109) (k := 7) (cell := 0) (ci := 9) (tm := [.int 0, .ref 1, .ref 2, .int 0, .int 0, .ref 3, .int 0, .null, .null, .null, .int 0, .int 0, .int 0, .null, .null, .null, .int 0, .int 0, .int 0, .int 0, .int 0, .int 0, .int 0, .int 0, .int 0, .int 0, .int 0, .int 0, .long 0, .int 0, .int 0, .int 0, .null, .null, .null, .int 0, .int 0, .null, .int 0, .null, .int 0, .int 0, .int 0, .int 0, .int 0, .null, .null, .int 0, .int 0, .int 0, .int 0, .int 0, .null, .null, .null, .null]) rfl (by decide) wsIn9 tyX9_ok nmX9 (tmem 938 (by decide +kernel) rfl) ⟨rfl, rfl⟩ (tyX9_ok 7 (by decide)) (fun a => ⟨rfl, rfl⟩) rfl (Nat.le_of_ble_eq_true rfl) rfl dX9_init_35 (fun F => ?_)
  have hG := GEx.put (sh' := sc9_109) hG rfl F.2.2.2.2.2.2.2.1
  refine X_aload_n F dX9_init_38 rfl ?_
  refine X_bipush F dX9_init_39 (v := (8 : Int32)) rfl ?_
  refine N_newa (sh' := sc9_110) (N := 8) (n := 5) F hG rfl rfl ac_int ⟨by decide, by decide, Nat.le_of_ble_eq_true rfl⟩ (by decide +kernel) ⟨Nat.le_of_ble_eq_true rfl, Nat.le_of_ble_eq_true rfl⟩ ⟨Nat.le_of_ble_eq_true rfl, Nat.le_of_ble_eq_true rfl⟩ dX9_init_41 (fun G F hG => ?_)
  refine X_putr F hin (C := RX9) (T := TX9) (N := 56) (ty0 := tyX9) (sh' := sc9_111) (k := 8) (cell := 0) (ci := 9) (tm := [.int 0, .ref 1, .ref 2, .int 0, .int 0, .ref 3, .int 0, .ref 4, .null, .null, .int 0, .int 0, .int 0, .null, .null, .null, .int 0, .int 0, .int 0, .int 0, .int 0, .int 0, .int 0, .int 0, .int 0, .int 0, .int 0, .int 0, .long 0, .int 0, .int 0, .int 0, .null, .null, .null, .int 0, .int 0, .null, .int 0, .null, .int 0, .int 0, .int 0, .int 0, .int 0, .null, .null, .int 0, .int 0, .int 0, .int 0, .int 0, .null, .null, .null, .null]) rfl (by decide) wsIn9 tyX9_ok nmX9 (tmem 939 (by decide +kernel) rfl) ⟨rfl, rfl⟩ (tyX9_ok 8 (by decide)) (fun a => ⟨rfl, rfl⟩) rfl (Nat.le_of_ble_eq_true rfl) rfl dX9_init_43 (fun F => ?_)
  have hG := GEx.put (sh' := sc9_111) hG rfl F.2.2.2.2.2.2.2.1
  refine X_aload_n F dX9_init_46 rfl ?_
  refine X_bipush F dX9_init_47 (v := (8 : Int32)) rfl ?_
  refine N_newa (sh' := sc9_112) (N := 8) (n := 6) F hG rfl rfl ac_int ⟨by decide, by decide, Nat.le_of_ble_eq_true rfl⟩ (by decide +kernel) ⟨Nat.le_of_ble_eq_true rfl, Nat.le_of_ble_eq_true rfl⟩ ⟨Nat.le_of_ble_eq_true rfl, Nat.le_of_ble_eq_true rfl⟩ dX9_init_49 (fun G F hG => ?_)
  refine X_putr F hin (C := RX9) (T := TX9) (N := 56) (ty0 := tyX9) (sh' := sc9_113) (k := 9) (cell := 0) (ci := 9) (tm := [.int 0, .ref 1, .ref 2, .int 0, .int 0, .ref 3, .int 0, .ref 4, .ref 5, .null, .int 0, .int 0, .int 0, .null, .null, .null, .int 0, .int 0, .int 0, .int 0, .int 0, .int 0, .int 0, .int 0, .int 0, .int 0, .int 0, .int 0, .long 0, .int 0, .int 0, .int 0, .null, .null, .null, .int 0, .int 0, .null, .int 0, .null, .int 0, .int 0, .int 0, .int 0, .int 0, .null, .null, .int 0, .int 0, .int 0, .int 0, .int 0, .null, .null, .null, .null]) rfl (by decide) wsIn9 tyX9_ok nmX9 (tmem 940 (by decide +kernel) rfl) ⟨rfl, rfl⟩ (tyX9_ok 9 (by decide)) (fun a => ⟨rfl, rfl⟩) rfl (Nat.le_of_ble_eq_true rfl) rfl dX9_init_51 (fun F => ?_)
  have hG := GEx.put (sh' := sc9_113) hG rfl F.2.2.2.2.2.2.2.1
  refine X_aload_n F dX9_init_54 rfl ?_
  refine X_bipush F dX9_init_55 (v := (6 : Int32)) rfl ?_
  refine N_newa (sh' := sc9_114) (N := 6) (n := 7) F hG rfl rfl ac_int ⟨by decide, by decide, Nat.le_of_ble_eq_true rfl⟩ (by decide +kernel) ⟨Nat.le_of_ble_eq_true rfl, Nat.le_of_ble_eq_true rfl⟩ ⟨Nat.le_of_ble_eq_true rfl, Nat.le_of_ble_eq_true rfl⟩ dX9_init_57 (fun G F hG => ?_)
  refine X_putr F hin (C := RX9) (T := TX9) (N := 56) (ty0 := tyX9) (sh' := sc9_115) (k := 13) (cell := 0) (ci := 9) (tm := [.int 0, .ref 1, .ref 2, .int 0, .int 0, .ref 3, .int 0, .ref 4, .ref 5, .ref 6, .int 0, .int 0, .int 0, .null, .null, .null, .int 0, .int 0, .int 0, .int 0, .int 0, .int 0, .int 0, .int 0, .int 0, .int 0, .int 0, .int 0, .long 0, .int 0, .int 0, .int 0, .null, .null, .null, .int 0, .int 0, .null, .int 0, .null, .int 0, .int 0, .int 0, .int 0, .int 0, .null, .null, .int 0, .int 0, .int 0, .int 0, .int 0, .null, .null, .null, .null]) rfl (by decide) wsIn9 tyX9_ok nmX9 (tmem 944 (by decide +kernel) rfl) ⟨rfl, rfl⟩ (tyX9_ok 13 (by decide)) (fun a => ⟨rfl, rfl⟩) rfl (Nat.le_of_ble_eq_true rfl) rfl dX9_init_59 (fun F => ?_)
  have hG := GEx.put (sh' := sc9_115) hG rfl F.2.2.2.2.2.2.2.1
  refine X_aload_n F dX9_init_62 rfl ?_
  refine X_bipush F dX9_init_63 (v := (6 : Int32)) rfl ?_
  refine N_newa (sh' := sc9_116) (N := 6) (n := 8) F hG rfl rfl ac_int ⟨by decide, by decide, Nat.le_of_ble_eq_true rfl⟩ (by decide +kernel) ⟨Nat.le_of_ble_eq_true rfl, Nat.le_of_ble_eq_true rfl⟩ ⟨Nat.le_of_ble_eq_true rfl, Nat.le_of_ble_eq_true rfl⟩ dX9_init_65 (fun G F hG => ?_)
  refine X_putr F hin (C := RX9) (T := TX9) (N := 56) (ty0 := tyX9) (sh' := sc9_117) (k := 14) (cell := 0) (ci := 9) (tm := [.int 0, .ref 1, .ref 2, .int 0, .int 0, .ref 3, .int 0, .ref 4, .ref 5, .ref 6, .int 0, .int 0, .int 0, .ref 7, .null, .null, .int 0, .int 0, .int 0, .int 0, .int 0, .int 0, .int 0, .int 0, .int 0, .int 0, .int 0, .int 0, .long 0, .int 0, .int 0, .int 0, .null, .null, .null, .int 0, .int 0, .null, .int 0, .null, .int 0, .int 0, .int 0, .int 0, .int 0, .null, .null, .int 0, .int 0, .int 0, .int 0, .int 0, .null, .null, .null, .null]) rfl (by decide) wsIn9 tyX9_ok nmX9 (tmem 945 (by decide +kernel) rfl) ⟨rfl, rfl⟩ (tyX9_ok 14 (by decide)) (fun a => ⟨rfl, rfl⟩) rfl (Nat.le_of_ble_eq_true rfl) rfl dX9_init_67 (fun F => ?_)
  have hG := GEx.put (sh' := sc9_117) hG rfl F.2.2.2.2.2.2.2.1
  refine X_aload_n F dX9_init_70 rfl ?_
  refine X_bipush F dX9_init_71 (v := (6 : Int32)) rfl ?_
  refine N_newa (sh' := sc9_118) (N := 6) (n := 9) F hG rfl rfl ac_int ⟨by decide, by decide, Nat.le_of_ble_eq_true rfl⟩ (by decide +kernel) ⟨Nat.le_of_ble_eq_true rfl, Nat.le_of_ble_eq_true rfl⟩ ⟨Nat.le_of_ble_eq_true rfl, Nat.le_of_ble_eq_true rfl⟩ dX9_init_73 (fun G F hG => ?_)
  refine X_putr F hin (C := RX9) (T := TX9) (N := 56) (ty0 := tyX9) (sh' := sc9_119) (k := 15) (cell := 0) (ci := 9) (tm := [.int 0, .ref 1, .ref 2, .int 0, .int 0, .ref 3, .int 0, .ref 4, .ref 5, .ref 6, .int 0, .int 0, .int 0, .ref 7, .ref 8, .null, .int 0, .int 0, .int 0, .int 0, .int 0, .int 0, .int 0, .int 0, .int 0, .int 0, .int 0, .int 0, .long 0, .int 0, .int 0, .int 0, .null, .null, .null, .int 0, .int 0, .null, .int 0, .null, .int 0, .int 0, .int 0, .int 0, .int 0, .null, .null, .int 0, .int 0, .int 0, .int 0, .int 0, .null, .null, .null, .null]) rfl (by decide) wsIn9 tyX9_ok nmX9 (tmem 946 (by decide +kernel) rfl) ⟨rfl, rfl⟩ (tyX9_ok 15 (by decide)) (fun a => ⟨rfl, rfl⟩) rfl (Nat.le_of_ble_eq_true rfl) rfl dX9_init_75 (fun F => ?_)
  have hG := GEx.put (sh' := sc9_119) hG rfl F.2.2.2.2.2.2.2.1
  refine X_aload_n F dX9_init_78 rfl ?_
  refine X_bipush F dX9_init_79 (v := (8 : Int32)) rfl ?_
  refine N_newa (sh' := sc9_120) (N := 8) (n := 10) F hG rfl rfl ac_int ⟨by decide, by decide, Nat.le_of_ble_eq_true rfl⟩ (by decide +kernel) ⟨Nat.le_of_ble_eq_true rfl, Nat.le_of_ble_eq_true rfl⟩ ⟨Nat.le_of_ble_eq_true rfl, Nat.le_of_ble_eq_true rfl⟩ dX9_init_81 (fun G F hG => ?_)
  refine X_putr F hin (C := RX9) (T := TX9) (N := 56) (ty0 := tyX9) (sh' := sc9_121) (k := 32) (cell := 0) (ci := 9) (tm := [.int 0, .ref 1, .ref 2, .int 0, .int 0, .ref 3, .int 0, .ref 4, .ref 5, .ref 6, .int 0, .int 0, .int 0, .ref 7, .ref 8, .ref 9, .int 0, .int 0, .int 0, .int 0, .int 0, .int 0, .int 0, .int 0, .int 0, .int 0, .int 0, .int 0, .long 0, .int 0, .int 0, .int 0, .null, .null, .null, .int 0, .int 0, .null, .int 0, .null, .int 0, .int 0, .int 0, .int 0, .int 0, .null, .null, .int 0, .int 0, .int 0, .int 0, .int 0, .null, .null, .null, .null]) rfl (by decide) wsIn9 tyX9_ok nmX9 (tmem 963 (by decide +kernel) rfl) ⟨rfl, rfl⟩ (tyX9_ok 32 (by decide)) (fun a => ⟨rfl, rfl⟩) rfl (Nat.le_of_ble_eq_true rfl) rfl dX9_init_83 (fun F => ?_)
  have hG := GEx.put (sh' := sc9_121) hG rfl F.2.2.2.2.2.2.2.1
  refine X_aload_n F dX9_init_86 rfl ?_
  refine X_bipush F dX9_init_87 (v := (8 : Int32)) rfl ?_
  refine N_newa (sh' := sc9_122) (N := 8) (n := 11) F hG rfl rfl ac_int ⟨by decide, by decide, Nat.le_of_ble_eq_true rfl⟩ (by decide +kernel) ⟨Nat.le_of_ble_eq_true rfl, Nat.le_of_ble_eq_true rfl⟩ ⟨Nat.le_of_ble_eq_true rfl, Nat.le_of_ble_eq_true rfl⟩ dX9_init_89 (fun G F hG => ?_)
  refine X_putr F hin (C := RX9) (T := TX9) (N := 56) (ty0 := tyX9) (sh' := sc9_123) (k := 33) (cell := 0) (ci := 9) (tm := [.int 0, .ref 1, .ref 2, .int 0, .int 0, .ref 3, .int 0, .ref 4, .ref 5, .ref 6, .int 0, .int 0, .int 0, .ref 7, .ref 8, .ref 9, .int 0, .int 0, .int 0, .int 0, .int 0, .int 0, .int 0, .int 0, .int 0, .int 0, .int 0, .int 0, .long 0, .int 0, .int 0, .int 0, .ref 10, .null, .null, .int 0, .int 0, .null, .int 0, .null, .int 0, .int 0, .int 0, .int 0, .int 0, .null, .null, .int 0, .int 0, .int 0, .int 0, .int 0, .null, .null, .null, .null]) rfl (by decide) wsIn9 tyX9_ok nmX9 (tmem 964 (by decide +kernel) rfl) ⟨rfl, rfl⟩ (tyX9_ok 33 (by decide)) (fun a => ⟨rfl, rfl⟩) rfl (Nat.le_of_ble_eq_true rfl) rfl dX9_init_91 (fun F => ?_)
  have hG := GEx.put (sh' := sc9_123) hG rfl F.2.2.2.2.2.2.2.1
  refine X_aload_n F dX9_init_94 rfl ?_
  refine X_bipush F dX9_init_95 (v := (7 : Int32)) rfl ?_
  refine N_newa (sh' := sc9_124) (N := 7) (n := 12) F hG rfl rfl ac_int ⟨by decide, by decide, Nat.le_of_ble_eq_true rfl⟩ (by decide +kernel) ⟨Nat.le_of_ble_eq_true rfl, Nat.le_of_ble_eq_true rfl⟩ ⟨Nat.le_of_ble_eq_true rfl, Nat.le_of_ble_eq_true rfl⟩ dX9_init_97 (fun G F hG => ?_)
  refine X_putr F hin (C := RX9) (T := TX9) (N := 56) (ty0 := tyX9) (sh' := sc9_125) (k := 34) (cell := 0) (ci := 9) (tm := [.int 0, .ref 1, .ref 2, .int 0, .int 0, .ref 3, .int 0, .ref 4, .ref 5, .ref 6, .int 0, .int 0, .int 0, .ref 7, .ref 8, .ref 9, .int 0, .int 0, .int 0, .int 0, .int 0, .int 0, .int 0, .int 0, .int 0, .int 0, .int 0, .int 0, .long 0, .int 0, .int 0, .int 0, .ref 10, .ref 11, .null, .int 0, .int 0, .null, .int 0, .null, .int 0, .int 0, .int 0, .int 0, .int 0, .null, .null, .int 0, .int 0, .int 0, .int 0, .int 0, .null, .null, .null, .null]) rfl (by decide) wsIn9 tyX9_ok nmX9 (tmem 965 (by decide +kernel) rfl) ⟨rfl, rfl⟩ (tyX9_ok 34 (by decide)) (fun a => ⟨rfl, rfl⟩) rfl (Nat.le_of_ble_eq_true rfl) rfl dX9_init_99 (fun F => ?_)
  have hG := GEx.put (sh' := sc9_125) hG rfl F.2.2.2.2.2.2.2.1
  refine X_aload_n F dX9_init_102 rfl ?_
  refine X_bipush F dX9_init_103 (v := (6 : Int32)) rfl ?_
  refine N_newa (sh' := sc9_126) (N := 6) (n := 13) F hG rfl rfl ac_int ⟨by decide, by decide, Nat.le_of_ble_eq_true rfl⟩ (by decide +kernel) ⟨Nat.le_of_ble_eq_true rfl, Nat.le_of_ble_eq_true rfl⟩ ⟨Nat.le_of_ble_eq_true rfl, Nat.le_of_ble_eq_true rfl⟩ dX9_init_105 (fun G F hG => ?_)
  refine X_putr F hin (C := RX9) (T := TX9) (N := 56) (ty0 := tyX9) (sh' := sc9_127) (k := 37) (cell := 0) (ci := 9) (tm := [.int 0, .ref 1, .ref 2, .int 0, .int 0, .ref 3, .int 0, .ref 4, .ref 5, .ref 6, .int 0, .int 0, .int 0, .ref 7, .ref 8, .ref 9, .int 0, .int 0, .int 0, .int 0, .int 0, .int 0, .int 0, .int 0, .int 0, .int 0, .int 0, .int 0, .long 0, .int 0, .int 0, .int 0, .ref 10, .ref 11, .ref 12, .int 0, .int 0, .null, .int 0, .null, .int 0, .int 0, .int 0, .int 0, .int 0, .null, .null, .int 0, .int 0, .int 0, .int 0, .int 0, .null, .null, .null, .null]) rfl (by decide) wsIn9 tyX9_ok nmX9 (tmem 968 (by decide +kernel) rfl) ⟨rfl, rfl⟩ (tyX9_ok 37 (by decide)) (fun a => ⟨rfl, rfl⟩) rfl (Nat.le_of_ble_eq_true rfl) rfl dX9_init_107 (fun F => ?_)
  have hG := GEx.put (sh' := sc9_127) hG rfl F.2.2.2.2.2.2.2.1
  refine X_aload_n F dX9_init_110 rfl ?_
  refine X_bipush F dX9_init_111 (v := (6 : Int32)) rfl ?_
  refine N_newa (sh' := sc9_128) (N := 6) (n := 14) F hG rfl rfl ac_int ⟨by decide, by decide, Nat.le_of_ble_eq_true rfl⟩ (by decide +kernel) ⟨Nat.le_of_ble_eq_true rfl, Nat.le_of_ble_eq_true rfl⟩ ⟨Nat.le_of_ble_eq_true rfl, Nat.le_of_ble_eq_true rfl⟩ dX9_init_113 (fun G F hG => ?_)
  refine X_putr F hin (C := RX9) (T := TX9) (N := 56) (ty0 := tyX9) (sh' := sc9_129) (k := 39) (cell := 0) (ci := 9) (tm := [.int 0, .ref 1, .ref 2, .int 0, .int 0, .ref 3, .int 0, .ref 4, .ref 5, .ref 6, .int 0, .int 0, .int 0, .ref 7, .ref 8, .ref 9, .int 0, .int 0, .int 0, .int 0, .int 0, .int 0, .int 0, .int 0, .int 0, .int 0, .int 0, .int 0, .long 0, .int 0, .int 0, .int 0, .ref 10, .ref 11, .ref 12, .int 0, .int 0, .ref 13, .int 0, .null, .int 0, .int 0, .int 0, .int 0, .int 0, .null, .null, .int 0, .int 0, .int 0, .int 0, .int 0, .null, .null, .null, .null]) rfl (by decide) wsIn9 tyX9_ok nmX9 (tmem 970 (by decide +kernel) rfl) ⟨rfl, rfl⟩ (tyX9_ok 39 (by decide)) (fun a => ⟨rfl, rfl⟩) rfl (Nat.le_of_ble_eq_true rfl) rfl dX9_init_115 (fun F => ?_)
  have hG := GEx.put (sh' := sc9_129) hG rfl F.2.2.2.2.2.2.2.1
  refine X_aload_n F dX9_init_118 rfl ?_
  refine X_bipush F dX9_init_119 (v := (16 : Int32)) rfl ?_
  refine N_newa (sh' := sc9_130) (N := 16) (n := 15) F hG rfl rfl ac_int ⟨by decide, by decide, Nat.le_of_ble_eq_true rfl⟩ (by decide +kernel) ⟨Nat.le_of_ble_eq_true rfl, Nat.le_of_ble_eq_true rfl⟩ ⟨Nat.le_of_ble_eq_true rfl, Nat.le_of_ble_eq_true rfl⟩ dX9_init_121 (fun G F hG => ?_)
  refine X_putr F hin (C := RX9) (T := TX9) (N := 56) (ty0 := tyX9) (sh' := sc9_131) (k := 45) (cell := 0) (ci := 9) (tm := [.int 0, .ref 1, .ref 2, .int 0, .int 0, .ref 3, .int 0, .ref 4, .ref 5, .ref 6, .int 0, .int 0, .int 0, .ref 7, .ref 8, .ref 9, .int 0, .int 0, .int 0, .int 0, .int 0, .int 0, .int 0, .int 0, .int 0, .int 0, .int 0, .int 0, .long 0, .int 0, .int 0, .int 0, .ref 10, .ref 11, .ref 12, .int 0, .int 0, .ref 13, .int 0, .ref 14, .int 0, .int 0, .int 0, .int 0, .int 0, .null, .null, .int 0, .int 0, .int 0, .int 0, .int 0, .null, .null, .null, .null]) rfl (by decide) wsIn9 tyX9_ok nmX9 (tmem 976 (by decide +kernel) rfl) ⟨rfl, rfl⟩ (tyX9_ok 45 (by decide)) (fun a => ⟨rfl, rfl⟩) rfl (Nat.le_of_ble_eq_true rfl) rfl dX9_init_123 (fun F => ?_)
  have hG := GEx.put (sh' := sc9_131) hG rfl F.2.2.2.2.2.2.2.1
  refine X_aload_n F dX9_init_126 rfl ?_
  refine X_bipush F dX9_init_127 (v := (18 : Int32)) rfl ?_
  refine N_newa (sh' := sc9_132) (N := 18) (n := 16) F hG rfl rfl ac_int ⟨by decide, by decide, Nat.le_of_ble_eq_true rfl⟩ (by decide +kernel) ⟨Nat.le_of_ble_eq_true rfl, Nat.le_of_ble_eq_true rfl⟩ ⟨Nat.le_of_ble_eq_true rfl, Nat.le_of_ble_eq_true rfl⟩ dX9_init_129 (fun G F hG => ?_)
  refine X_putr F hin (C := RX9) (T := TX9) (N := 56) (ty0 := tyX9) (sh' := sc9_133) (k := 46) (cell := 0) (ci := 9) (tm := [.int 0, .ref 1, .ref 2, .int 0, .int 0, .ref 3, .int 0, .ref 4, .ref 5, .ref 6, .int 0, .int 0, .int 0, .ref 7, .ref 8, .ref 9, .int 0, .int 0, .int 0, .int 0, .int 0, .int 0, .int 0, .int 0, .int 0, .int 0, .int 0, .int 0, .long 0, .int 0, .int 0, .int 0, .ref 10, .ref 11, .ref 12, .int 0, .int 0, .ref 13, .int 0, .ref 14, .int 0, .int 0, .int 0, .int 0, .int 0, .ref 15, .null, .int 0, .int 0, .int 0, .int 0, .int 0, .null, .null, .null, .null]) rfl (by decide) wsIn9 tyX9_ok nmX9 (tmem 977 (by decide +kernel) rfl) ⟨rfl, rfl⟩ (tyX9_ok 46 (by decide)) (fun a => ⟨rfl, rfl⟩) rfl (Nat.le_of_ble_eq_true rfl) rfl dX9_init_131 (fun F => ?_)
  have hG := GEx.put (sh' := sc9_133) hG rfl F.2.2.2.2.2.2.2.1
  refine X_aload_n F dX9_init_134 rfl ?_
  refine X_iconst F dX9_init_135 (v := (-1 : Int32)) rfl ?_
  refine X_puti F ⟨ffRX9_62.1, _, rfl, rfl⟩ fw9_47 (by decide) dX9_init_136 ?_
  refine X_aload_n F dX9_init_139 rfl ?_
  refine X_iconst F dX9_init_140 (v := (4 : Int32)) rfl ?_
  refine N_newz (sh' := sc9_134) (N := 4) (n := 17) F hG rfl rfl ac_bool ⟨by decide, by decide, Nat.le_of_ble_eq_true rfl⟩ (by decide +kernel) ⟨Nat.le_of_ble_eq_true rfl, Nat.le_of_ble_eq_true rfl⟩ ⟨Nat.le_of_ble_eq_true rfl, Nat.le_of_ble_eq_true rfl⟩ dX9_init_141 (fun G F hG => ?_)
  refine X_putr F hin (C := RX9) (T := TX9) (N := 56) (ty0 := tyX9) (sh' := sc9_135) (k := 52) (cell := 0) (ci := 9) (tm := [.int 0, .ref 1, .ref 2, .int 0, .int 0, .ref 3, .int 0, .ref 4, .ref 5, .ref 6, .int 0, .int 0, .int 0, .ref 7, .ref 8, .ref 9, .int 0, .int 0, .int 0, .int 0, .int 0, .int 0, .int 0, .int 0, .int 0, .int 0, .int 0, .int 0, .long 0, .int 0, .int 0, .int 0, .ref 10, .ref 11, .ref 12, .int 0, .int 0, .ref 13, .int 0, .ref 14, .int 0, .int 0, .int 0, .int 0, .int 0, .ref 15, .ref 16, .int 0, .int 0, .int 0, .int 0, .int 0, .null, .null, .null, .null]) rfl (by decide) wsIn9 tyX9_ok nmX9 (tmem 983 (by decide +kernel) rfl) ⟨rfl, rfl⟩ (tyX9_ok 52 (by decide)) (fun a => ⟨rfl, rfl⟩) rfl (Nat.le_of_ble_eq_true rfl) rfl dX9_init_143 (fun F => ?_)
  have hG := GEx.put (sh' := sc9_135) hG rfl F.2.2.2.2.2.2.2.1
  refine X_aload_n F dX9_init_146 rfl ?_
  refine X_iconst F dX9_init_147 (v := (4 : Int32)) rfl ?_
  refine N_newa (sh' := sc9_136) (N := 4) (n := 18) F hG rfl rfl ac_int ⟨by decide, by decide, Nat.le_of_ble_eq_true rfl⟩ (by decide +kernel) ⟨Nat.le_of_ble_eq_true rfl, Nat.le_of_ble_eq_true rfl⟩ ⟨Nat.le_of_ble_eq_true rfl, Nat.le_of_ble_eq_true rfl⟩ dX9_init_148 (fun G F hG => ?_)
  refine X_putr F hin (C := RX9) (T := TX9) (N := 56) (ty0 := tyX9) (sh' := sc9_137) (k := 53) (cell := 0) (ci := 9) (tm := [.int 0, .ref 1, .ref 2, .int 0, .int 0, .ref 3, .int 0, .ref 4, .ref 5, .ref 6, .int 0, .int 0, .int 0, .ref 7, .ref 8, .ref 9, .int 0, .int 0, .int 0, .int 0, .int 0, .int 0, .int 0, .int 0, .int 0, .int 0, .int 0, .int 0, .long 0, .int 0, .int 0, .int 0, .ref 10, .ref 11, .ref 12, .int 0, .int 0, .ref 13, .int 0, .ref 14, .int 0, .int 0, .int 0, .int 0, .int 0, .ref 15, .ref 16, .int 0, .int 0, .int 0, .int 0, .int 0, .ref 17, .null, .null, .null]) rfl (by decide) wsIn9 tyX9_ok nmX9 (tmem 984 (by decide +kernel) rfl) ⟨rfl, rfl⟩ (tyX9_ok 53 (by decide)) (fun a => ⟨rfl, rfl⟩) rfl (Nat.le_of_ble_eq_true rfl) rfl dX9_init_150 (fun F => ?_)
  have hG := GEx.put (sh' := sc9_137) hG rfl F.2.2.2.2.2.2.2.1
  refine X_aload_n F dX9_init_153 rfl ?_
  refine X_iconst F dX9_init_154 (v := (4 : Int32)) rfl ?_
  refine N_newa (sh' := sc9_138) (N := 4) (n := 19) F hG rfl rfl ac_int ⟨by decide, by decide, Nat.le_of_ble_eq_true rfl⟩ (by decide +kernel) ⟨Nat.le_of_ble_eq_true rfl, Nat.le_of_ble_eq_true rfl⟩ ⟨Nat.le_of_ble_eq_true rfl, Nat.le_of_ble_eq_true rfl⟩ dX9_init_155 (fun G F hG => ?_)
  refine X_putr F hin (C := RX9) (T := TX9) (N := 56) (ty0 := tyX9) (sh' := sc9_139) (k := 54) (cell := 0) (ci := 9) (tm := [.int 0, .ref 1, .ref 2, .int 0, .int 0, .ref 3, .int 0, .ref 4, .ref 5, .ref 6, .int 0, .int 0, .int 0, .ref 7, .ref 8, .ref 9, .int 0, .int 0, .int 0, .int 0, .int 0, .int 0, .int 0, .int 0, .int 0, .int 0, .int 0, .int 0, .long 0, .int 0, .int 0, .int 0, .ref 10, .ref 11, .ref 12, .int 0, .int 0, .ref 13, .int 0, .ref 14, .int 0, .int 0, .int 0, .int 0, .int 0, .ref 15, .ref 16, .int 0, .int 0, .int 0, .int 0, .int 0, .ref 17, .ref 18, .null, .null]) rfl (by decide) wsIn9 tyX9_ok nmX9 (tmem 985 (by decide +kernel) rfl) ⟨rfl, rfl⟩ (tyX9_ok 54 (by decide)) (fun a => ⟨rfl, rfl⟩) rfl (Nat.le_of_ble_eq_true rfl) rfl dX9_init_157 (fun F => ?_)
  have hG := GEx.put (sh' := sc9_139) hG rfl F.2.2.2.2.2.2.2.1
  refine X_aload_n F dX9_init_160 rfl ?_
  refine X_sipush F dX9_init_161 (v := (160 : Int32)) rfl ?_
  refine N_newa (sh' := sc9_140) (N := 160) (n := 20) F hG rfl rfl ac_int ⟨by decide, by decide, Nat.le_of_ble_eq_true rfl⟩ (by decide +kernel) ⟨Nat.le_of_ble_eq_true rfl, Nat.le_of_ble_eq_true rfl⟩ ⟨Nat.le_of_ble_eq_true rfl, Nat.le_of_ble_eq_true rfl⟩ dX9_init_164 (fun G F hG => ?_)
  refine X_putr F hin (C := RX9) (T := TX9) (N := 56) (ty0 := tyX9) (sh' := sc9_141) (k := 55) (cell := 0) (ci := 9) (tm := [.int 0, .ref 1, .ref 2, .int 0, .int 0, .ref 3, .int 0, .ref 4, .ref 5, .ref 6, .int 0, .int 0, .int 0, .ref 7, .ref 8, .ref 9, .int 0, .int 0, .int 0, .int 0, .int 0, .int 0, .int 0, .int 0, .int 0, .int 0, .int 0, .int 0, .long 0, .int 0, .int 0, .int 0, .ref 10, .ref 11, .ref 12, .int 0, .int 0, .ref 13, .int 0, .ref 14, .int 0, .int 0, .int 0, .int 0, .int 0, .ref 15, .ref 16, .int 0, .int 0, .int 0, .int 0, .int 0, .ref 17, .ref 18, .ref 19, .null]) rfl (by decide) wsIn9 tyX9_ok nmX9 (tmem 986 (by decide +kernel) rfl) ⟨rfl, rfl⟩ (tyX9_ok 55 (by decide)) (fun a => ⟨rfl, rfl⟩) rfl (Nat.le_of_ble_eq_true rfl) rfl dX9_init_166 (fun F => ?_)
  have hG := GEx.put (sh' := sc9_141) hG rfl F.2.2.2.2.2.2.2.1
  refine X_aload_n F dX9_init_169 rfl ?_
  refine X_iconst F dX9_init_170 (v := (0 : Int32)) rfl ?_
  refine X_bipush F dX9_init_171 (v := (116 : Int32)) rfl ?_
  refine X_bipush F dX9_init_173 (v := (97 : Int32)) rfl ?_
  refine X_bipush F dX9_init_175 (v := (107 : Int32)) rfl ?_
  refine X_bipush F dX9_init_177 (v := (101 : Int32)) rfl ?_
  refine X_bipush F dX9_init_179 (v := (115 : Int32)) rfl ?_
  refine X_bipush F dX9_init_181 (v := (32 : Int32)) rfl ?_
  refine X_bipush F dX9_init_183 (v := (51 : Int32)) rfl ?_
  refine X_bipush F dX9_init_185 (v := (32 : Int32)) rfl ?_
  show XJ _ p l e _ s m args below meth c _ _ G 1 _ 187 _ _ (ms9 M)
  have F : FrP shB G p s m args c RX9 cX9_init 1 := F
  have hG : GEx sc9_101 shB G0 G s.heap.size := hG
  have hsp187 : F9_spell (ms9 M) (0 : Int32) (116 : Int32) (97 : Int32) (107 : Int32) (101 : Int32) (115 : Int32) (32 : Int32) (51 : Int32) (32 : Int32) = some ((0 : Int32), spM (ms9 M) 0 (116 : Int32) (97 : Int32) (107 : Int32) (101 : Int32) (115 : Int32) (32 : Int32) (51 : Int32) (32 : Int32)) := spell_eq (ms9 M) 0 (by decide) (116 : Int32) (97 : Int32) (107 : Int32) (101 : Int32) (115 : Int32) (32 : Int32) (51 : Int32) (32 : Int32)
  refine X_callV (sh := shB) (ci := 0) (As := [.int (0 : Int32), .int (116 : Int32), .int (97 : Int32), .int (107 : Int32), .int (101 : Int32), .int (115 : Int32), .int (32 : Int32), .int (51 : Int32), .int (32 : Int32)]) (rest := []) (r := (none, spM (ms9 M) 0 (116 : Int32) (97 : Int32) (107 : Int32) (101 : Int32) (115 : Int32) (32 : Int32) (51 : Int32) (32 : Int32))) F fkRX9_78 feX9_spell fvX9_spell ⟨_, _, _, rfl, rfl, rfl⟩ (F9_spell_met (D := 2) (r := ((0 : Int32), spM (ms9 M) 0 (116 : Int32) (97 : Int32) (107 : Int32) (101 : Int32) (115 : Int32) (32 : Int32) (51 : Int32) (32 : Int32))) F.2.2.2.2.2.2.2.1 (by decide) hsp187) rfl rfl (Nat.le_of_ble_eq_true rfl) ⟨Nat.le_of_ble_eq_true rfl, Nat.le_of_ble_eq_true rfl, Nat.le_of_ble_eq_true rfl, Nat.le_of_ble_eq_true rfl⟩ dX9_init_187 ?_
  show XJ shB p l e _ s m args below meth c _ _ G 1 _ 190 [(0, .ref 0)] [] (ms10 M)
  refine X_aload_n F dX9_init_190 rfl ?_
  refine X_bipush F dX9_init_191 (v := (8 : Int32)) rfl ?_
  refine X_bipush F dX9_init_193 (v := (59 : Int32)) rfl ?_
  refine X_bipush F dX9_init_195 (v := (32 : Int32)) rfl ?_
  refine X_bipush F dX9_init_197 (v := (108 : Int32)) rfl ?_
  refine X_bipush F dX9_init_199 (v := (101 : Int32)) rfl ?_
  refine X_bipush F dX9_init_201 (v := (116 : Int32)) rfl ?_
  refine X_bipush F dX9_init_203 (v := (115 : Int32)) rfl ?_
  refine X_bipush F dX9_init_205 (v := (32 : Int32)) rfl ?_
  refine X_bipush F dX9_init_207 (v := (49 : Int32)) rfl ?_
  have hsp209 : F9_spell (ms10 M) (8 : Int32) (59 : Int32) (32 : Int32) (108 : Int32) (101 : Int32) (116 : Int32) (115 : Int32) (32 : Int32) (49 : Int32) = some ((0 : Int32), spM (ms10 M) 8 (59 : Int32) (32 : Int32) (108 : Int32) (101 : Int32) (116 : Int32) (115 : Int32) (32 : Int32) (49 : Int32)) := spell_eq (ms10 M) 8 (by decide) (59 : Int32) (32 : Int32) (108 : Int32) (101 : Int32) (116 : Int32) (115 : Int32) (32 : Int32) (49 : Int32)
  refine X_callV (sh := shB) (ci := 0) (As := [.int (8 : Int32), .int (59 : Int32), .int (32 : Int32), .int (108 : Int32), .int (101 : Int32), .int (116 : Int32), .int (115 : Int32), .int (32 : Int32), .int (49 : Int32)]) (rest := []) (r := (none, spM (ms10 M) 8 (59 : Int32) (32 : Int32) (108 : Int32) (101 : Int32) (116 : Int32) (115 : Int32) (32 : Int32) (49 : Int32))) F fkRX9_78 feX9_spell fvX9_spell ⟨_, _, _, rfl, rfl, rfl⟩ (F9_spell_met (D := 2) (r := ((0 : Int32), spM (ms10 M) 8 (59 : Int32) (32 : Int32) (108 : Int32) (101 : Int32) (116 : Int32) (115 : Int32) (32 : Int32) (49 : Int32))) F.2.2.2.2.2.2.2.1 (by decide) hsp209) rfl rfl (Nat.le_of_ble_eq_true rfl) ⟨Nat.le_of_ble_eq_true rfl, Nat.le_of_ble_eq_true rfl, Nat.le_of_ble_eq_true rfl, Nat.le_of_ble_eq_true rfl⟩ dX9_init_209 ?_
  show XJ shB p l e _ s m args below meth c _ _ G 1 _ 212 [(0, .ref 0)] [] (ms11 M)
  refine X_aload_n F dX9_init_212 rfl ?_
  refine X_bipush F dX9_init_213 (v := (16 : Int32)) rfl ?_
  refine X_bipush F dX9_init_215 (v := (48 : Int32)) rfl ?_
  refine X_bipush F dX9_init_217 (v := (32 : Int32)) rfl ?_
  refine X_bipush F dX9_init_219 (v := (43 : Int32)) rfl ?_
  refine X_bipush F dX9_init_221 (v := (32 : Int32)) rfl ?_
  refine X_bipush F dX9_init_223 (v := (119 : Int32)) rfl ?_
  refine X_bipush F dX9_init_225 (v := (97 : Int32)) rfl ?_
  refine X_bipush F dX9_init_227 (v := (105 : Int32)) rfl ?_
  refine X_bipush F dX9_init_229 (v := (116 : Int32)) rfl ?_
  have hsp231 : F9_spell (ms11 M) (16 : Int32) (48 : Int32) (32 : Int32) (43 : Int32) (32 : Int32) (119 : Int32) (97 : Int32) (105 : Int32) (116 : Int32) = some ((0 : Int32), spM (ms11 M) 16 (48 : Int32) (32 : Int32) (43 : Int32) (32 : Int32) (119 : Int32) (97 : Int32) (105 : Int32) (116 : Int32)) := spell_eq (ms11 M) 16 (by decide) (48 : Int32) (32 : Int32) (43 : Int32) (32 : Int32) (119 : Int32) (97 : Int32) (105 : Int32) (116 : Int32)
  refine X_callV (sh := shB) (ci := 0) (As := [.int (16 : Int32), .int (48 : Int32), .int (32 : Int32), .int (43 : Int32), .int (32 : Int32), .int (119 : Int32), .int (97 : Int32), .int (105 : Int32), .int (116 : Int32)]) (rest := []) (r := (none, spM (ms11 M) 16 (48 : Int32) (32 : Int32) (43 : Int32) (32 : Int32) (119 : Int32) (97 : Int32) (105 : Int32) (116 : Int32))) F fkRX9_78 feX9_spell fvX9_spell ⟨_, _, _, rfl, rfl, rfl⟩ (F9_spell_met (D := 2) (r := ((0 : Int32), spM (ms11 M) 16 (48 : Int32) (32 : Int32) (43 : Int32) (32 : Int32) (119 : Int32) (97 : Int32) (105 : Int32) (116 : Int32))) F.2.2.2.2.2.2.2.1 (by decide) hsp231) rfl rfl (Nat.le_of_ble_eq_true rfl) ⟨Nat.le_of_ble_eq_true rfl, Nat.le_of_ble_eq_true rfl, Nat.le_of_ble_eq_true rfl, Nat.le_of_ble_eq_true rfl⟩ dX9_init_231 ?_
  show XJ shB p l e _ s m args below meth c _ _ G 1 _ 234 [(0, .ref 0)] [] (ms12 M)
  refine X_aload_n F dX9_init_234 rfl ?_
  refine X_bipush F dX9_init_235 (v := (24 : Int32)) rfl ?_
  refine X_bipush F dX9_init_237 (v := (32 : Int32)) rfl ?_
  refine X_bipush F dX9_init_239 (v := (42 : Int32)) rfl ?_
  refine X_bipush F dX9_init_241 (v := (32 : Int32)) rfl ?_
  refine X_bipush F dX9_init_243 (v := (53 : Int32)) rfl ?_
  refine X_bipush F dX9_init_245 (v := (32 : Int32)) rfl ?_
  refine X_bipush F dX9_init_247 (v := (59 : Int32)) rfl ?_
  refine X_bipush F dX9_init_249 (v := (32 : Int32)) rfl ?_
  refine X_bipush F dX9_init_251 (v := (119 : Int32)) rfl ?_
  have hsp253 : F9_spell (ms12 M) (24 : Int32) (32 : Int32) (42 : Int32) (32 : Int32) (53 : Int32) (32 : Int32) (59 : Int32) (32 : Int32) (119 : Int32) = some ((0 : Int32), spM (ms12 M) 24 (32 : Int32) (42 : Int32) (32 : Int32) (53 : Int32) (32 : Int32) (59 : Int32) (32 : Int32) (119 : Int32)) := spell_eq (ms12 M) 24 (by decide) (32 : Int32) (42 : Int32) (32 : Int32) (53 : Int32) (32 : Int32) (59 : Int32) (32 : Int32) (119 : Int32)
  refine X_callV (sh := shB) (ci := 0) (As := [.int (24 : Int32), .int (32 : Int32), .int (42 : Int32), .int (32 : Int32), .int (53 : Int32), .int (32 : Int32), .int (59 : Int32), .int (32 : Int32), .int (119 : Int32)]) (rest := []) (r := (none, spM (ms12 M) 24 (32 : Int32) (42 : Int32) (32 : Int32) (53 : Int32) (32 : Int32) (59 : Int32) (32 : Int32) (119 : Int32))) F fkRX9_78 feX9_spell fvX9_spell ⟨_, _, _, rfl, rfl, rfl⟩ (F9_spell_met (D := 2) (r := ((0 : Int32), spM (ms12 M) 24 (32 : Int32) (42 : Int32) (32 : Int32) (53 : Int32) (32 : Int32) (59 : Int32) (32 : Int32) (119 : Int32))) F.2.2.2.2.2.2.2.1 (by decide) hsp253) rfl rfl (Nat.le_of_ble_eq_true rfl) ⟨Nat.le_of_ble_eq_true rfl, Nat.le_of_ble_eq_true rfl, Nat.le_of_ble_eq_true rfl, Nat.le_of_ble_eq_true rfl⟩ dX9_init_253 ?_
  show XJ shB p l e _ s m args below meth c _ _ G 1 _ 256 [(0, .ref 0)] [] (ms13 M)
  refine X_aload_n F dX9_init_256 rfl ?_
  refine X_bipush F dX9_init_257 (v := (32 : Int32)) rfl ?_
  refine X_bipush F dX9_init_259 (v := (97 : Int32)) rfl ?_
  refine X_bipush F dX9_init_261 (v := (108 : Int32)) rfl ?_
  refine X_bipush F dX9_init_263 (v := (107 : Int32)) rfl ?_
  refine X_bipush F dX9_init_265 (v := (115 : Int32)) rfl ?_
  refine X_bipush F dX9_init_267 (v := (32 : Int32)) rfl ?_
  refine X_bipush F dX9_init_269 (v := (50 : Int32)) rfl ?_
  refine X_bipush F dX9_init_271 (v := (32 : Int32)) rfl ?_
  refine X_bipush F dX9_init_273 (v := (43 : Int32)) rfl ?_
  have hsp275 : F9_spell (ms13 M) (32 : Int32) (97 : Int32) (108 : Int32) (107 : Int32) (115 : Int32) (32 : Int32) (50 : Int32) (32 : Int32) (43 : Int32) = some ((0 : Int32), spM (ms13 M) 32 (97 : Int32) (108 : Int32) (107 : Int32) (115 : Int32) (32 : Int32) (50 : Int32) (32 : Int32) (43 : Int32)) := spell_eq (ms13 M) 32 (by decide) (97 : Int32) (108 : Int32) (107 : Int32) (115 : Int32) (32 : Int32) (50 : Int32) (32 : Int32) (43 : Int32)
  refine X_callV (sh := shB) (ci := 0) (As := [.int (32 : Int32), .int (97 : Int32), .int (108 : Int32), .int (107 : Int32), .int (115 : Int32), .int (32 : Int32), .int (50 : Int32), .int (32 : Int32), .int (43 : Int32)]) (rest := []) (r := (none, spM (ms13 M) 32 (97 : Int32) (108 : Int32) (107 : Int32) (115 : Int32) (32 : Int32) (50 : Int32) (32 : Int32) (43 : Int32))) F fkRX9_78 feX9_spell fvX9_spell ⟨_, _, _, rfl, rfl, rfl⟩ (F9_spell_met (D := 2) (r := ((0 : Int32), spM (ms13 M) 32 (97 : Int32) (108 : Int32) (107 : Int32) (115 : Int32) (32 : Int32) (50 : Int32) (32 : Int32) (43 : Int32))) F.2.2.2.2.2.2.2.1 (by decide) hsp275) rfl rfl (Nat.le_of_ble_eq_true rfl) ⟨Nat.le_of_ble_eq_true rfl, Nat.le_of_ble_eq_true rfl, Nat.le_of_ble_eq_true rfl, Nat.le_of_ble_eq_true rfl⟩ dX9_init_275 ?_
  show XJ shB p l e _ s m args below meth c _ _ G 1 _ 278 [(0, .ref 0)] [] (ms14 M)
  refine X_aload_n F dX9_init_278 rfl ?_
  refine X_bipush F dX9_init_279 (v := (40 : Int32)) rfl ?_
  refine X_bipush F dX9_init_281 (v := (32 : Int32)) rfl ?_
  refine X_bipush F dX9_init_283 (v := (105 : Int32)) rfl ?_
  refine X_bipush F dX9_init_285 (v := (116 : Int32)) rfl ?_
  refine X_bipush F dX9_init_287 (v := (101 : Int32)) rfl ?_
  refine X_bipush F dX9_init_289 (v := (109 : Int32)) rfl ?_
  refine X_bipush F dX9_init_291 (v := (115 : Int32)) rfl ?_
  refine X_bipush F dX9_init_293 (v := (32 : Int32)) rfl ?_
  refine X_bipush F dX9_init_295 (v := (59 : Int32)) rfl ?_
  have hsp297 : F9_spell (ms14 M) (40 : Int32) (32 : Int32) (105 : Int32) (116 : Int32) (101 : Int32) (109 : Int32) (115 : Int32) (32 : Int32) (59 : Int32) = some ((0 : Int32), spM (ms14 M) 40 (32 : Int32) (105 : Int32) (116 : Int32) (101 : Int32) (109 : Int32) (115 : Int32) (32 : Int32) (59 : Int32)) := spell_eq (ms14 M) 40 (by decide) (32 : Int32) (105 : Int32) (116 : Int32) (101 : Int32) (109 : Int32) (115 : Int32) (32 : Int32) (59 : Int32)
  refine X_callV (sh := shB) (ci := 0) (As := [.int (40 : Int32), .int (32 : Int32), .int (105 : Int32), .int (116 : Int32), .int (101 : Int32), .int (109 : Int32), .int (115 : Int32), .int (32 : Int32), .int (59 : Int32)]) (rest := []) (r := (none, spM (ms14 M) 40 (32 : Int32) (105 : Int32) (116 : Int32) (101 : Int32) (109 : Int32) (115 : Int32) (32 : Int32) (59 : Int32))) F fkRX9_78 feX9_spell fvX9_spell ⟨_, _, _, rfl, rfl, rfl⟩ (F9_spell_met (D := 2) (r := ((0 : Int32), spM (ms14 M) 40 (32 : Int32) (105 : Int32) (116 : Int32) (101 : Int32) (109 : Int32) (115 : Int32) (32 : Int32) (59 : Int32))) F.2.2.2.2.2.2.2.1 (by decide) hsp297) rfl rfl (Nat.le_of_ble_eq_true rfl) ⟨Nat.le_of_ble_eq_true rfl, Nat.le_of_ble_eq_true rfl, Nat.le_of_ble_eq_true rfl, Nat.le_of_ble_eq_true rfl⟩ dX9_init_297 ?_
  show XJ shB p l e _ s m args below meth c _ _ G 1 _ 300 [(0, .ref 0)] [] (ms15 M)
  refine X_aload_n F dX9_init_300 rfl ?_
  refine X_getr F ⟨ffRX9_17.1, _, rfl, rfl⟩ dX9_init_301 ?_
  refine X_iconst F dX9_init_304 (v := (0 : Int32)) rfl ?_
  refine X_bipush F dX9_init_305 (v := (48 : Int32)) rfl ?_
  refine X_iast (j := 0) F rfl (inbV (n := 6) (by decide)) (by decide) dX9_init_307 ?_
  refine X_aload_n F dX9_init_308 rfl ?_
  refine X_iconst F dX9_init_309 (v := (1 : Int32)) rfl ?_
  refine X_puti F ⟨ffRX9_82.1, _, rfl, rfl⟩ fw9_3 (by decide) dX9_init_310 ?_
  exact X_nret F hr hlk hG dX9_init_313
