/-! CONSTRUCTORS: written by wip/whole/gen/genctor.py -/
def F8_init_l118_b (rec118 : Mem → Int32 → Option (Int32 × Mem)) (M : Mem) (x1 : Int32) : Option (Int32 × Mem) :=
    Option.bind (FJ0_length_8abf5 M 0) fun r1 =>
    if r1.1 ≤ x1 then
      Option.bind (F3_read r1.2) fun r4 =>
      Option.bind (F4_add r4.2) fun r6 =>
      Option.bind (F3_clear r6.2) fun r8 =>
      some ((0 : Int32), r8.2)
    else
      Option.bind (FJ0_charAt_5068e r1.2 0 x1) fun r10 =>
      Option.bind (F3_append r10.2 r10.1) fun r12 =>
      rec118 r12.2 (x1 + (1 : Int32))
def F8_init_l118 : Nat → Mem → Int32 → Option (Int32 × Mem)
  | 0, _, _ => none
  | fu + 1, M, x1 => F8_init_l118_b (F8_init_l118 fu) M x1
def F8_init (M : Mem) : Option (Int32 × Mem) :=
    F8_init_l118 FUEL M (0 : Int32)
set_option maxRecDepth 20000 in
theorem F8_init_l118_bok {p : Program} {l : Launch} {e : Env} {s : State} {m : MethodId} {args : Array Value} {below : List Frame} {meth : Method} {c : Code} {G : GG} {Q : State → Prop} {r : Int32 × Mem} {rec118 : Mem → Int32 → Option (Int32 × Mem)} (F : FrP shA G p s m args c RX8 cX8_init 2) (hret : XJ shA p l e (rmN 100 55 2501) s m args below meth c 55 2501 G 2 Q 173 [] [] r.2) (hrec118 : ∀ (M : Mem) (x1 : Int32), rec118 M x1 = some r → XJ shA p l e (rmN 100 55 2501) s m args below meth c 55 2501 G 2 Q 118 [(0, .ref 0), (1, .int x1)] [] M) {M : Mem} {x1 : Int32} (h : F8_init_l118_b rec118 M x1 = some r) : XJ shA p l e (rmN 100 55 2501) s m args below meth c 55 2501 G 2 Q 118 [(0, .ref 0), (1, .int x1)] [] M := by
  unfold F8_init_l118_b at h
  refine X_iload_n F dX8_init_118 rfl ?_
  refine X_ldcS0 F dX8_init_119 ?_
  obtain ⟨r1, h2, h⟩ := bndS h
  refine X_callT (si := 0) (As := []) (rest := [.int x1]) F fkRX8_73 feJ0_length_8abf5 fvJ0_length_8abf5 (by decide) rfl (FJ0_length_8abf5_met (D := 99) F.2.2.2.2.2.2.2.1 (by decide) (by decide) h2) rfl rfl (Nat.le_of_ble_eq_true rfl) ⟨Nat.le_of_ble_eq_true rfl, Nat.le_of_ble_eq_true rfl, Nat.le_of_ble_eq_true rfl, Nat.le_of_ble_eq_true rfl⟩ dX8_init_121 ?_
  show XJ shA p l e (rmN 100 55 2501) s m args below meth c 55 2501 G 2 Q 124 [(0, .ref 0), (1, .int x1)] [.int r1.1, .int x1] r1.2
  refine X_icmp_ge (tgt := 147) F dX8_init_124 (by decide) (fun q3 => ?_) (fun q3 => ?_)
  · rw [if_pos q3] at h
    refine X_aload_n F dX8_init_147 rfl ?_
    refine X_getr F ffRX8_26 dX8_init_148 ?_
    obtain ⟨r4, h5, h⟩ := bndS h
    refine X_callV (ci := 9) (As := []) (rest := []) F fkRX8_87 feX3_read fvX3_read ⟨_, _, _, rfl, rfl, rfl⟩ (F3_read_met (D := 99) F.2.2.2.2.2.2.2.1 (by decide) h5) rfl rfl (Nat.le_of_ble_eq_true rfl) ⟨Nat.le_of_ble_eq_true rfl, Nat.le_of_ble_eq_true rfl, Nat.le_of_ble_eq_true rfl, Nat.le_of_ble_eq_true rfl⟩ dX8_init_151 ?_
    show XJ shA p l e (rmN 100 55 2501) s m args below meth c 55 2501 G 2 Q 154 [(0, .ref 0), (1, .int x1)] [] r4.2
    refine X_aload_n F dX8_init_154 rfl ?_
    refine X_getr F ffRX8_35 dX8_init_155 ?_
    refine X_aload_n F dX8_init_158 rfl ?_
    refine X_getr F ffRX8_26 dX8_init_159 ?_
    obtain ⟨r6, h7, h⟩ := bndS h
    refine X_callV (ci := 16) (As := [.ref 9]) (rest := []) F fkRX8_90 feX4_add fvX4_add ⟨_, _, _, rfl, rfl, rfl⟩ (F4_add_met (D := 99) F.2.2.2.2.2.2.2.1 (by decide) h7) rfl rfl (Nat.le_of_ble_eq_true rfl) ⟨Nat.le_of_ble_eq_true rfl, Nat.le_of_ble_eq_true rfl, Nat.le_of_ble_eq_true rfl, Nat.le_of_ble_eq_true rfl⟩ dX8_init_162 ?_
    show XJ shA p l e (rmN 100 55 2501) s m args below meth c 55 2501 G 2 Q 165 [(0, .ref 0), (1, .int x1)] [.int r6.1] r6.2
    refine X_pop F dX8_init_165 rfl ?_
    refine X_aload_n F dX8_init_166 rfl ?_
    refine X_getr F ffRX8_26 dX8_init_167 ?_
    obtain ⟨r8, h9, h⟩ := bndS h
    refine X_callV (ci := 9) (As := []) (rest := []) F fkRX8_94 feX3_clear fvX3_clear ⟨_, _, _, rfl, rfl, rfl⟩ (F3_clear_met (D := 99) F.2.2.2.2.2.2.2.1 (by decide) h9) rfl rfl (Nat.le_of_ble_eq_true rfl) ⟨Nat.le_of_ble_eq_true rfl, Nat.le_of_ble_eq_true rfl, Nat.le_of_ble_eq_true rfl, Nat.le_of_ble_eq_true rfl⟩ dX8_init_170 ?_
    show XJ shA p l e (rmN 100 55 2501) s m args below meth c 55 2501 G 2 Q 173 [(0, .ref 0), (1, .int x1)] [] r8.2
    exact X_pick [] rfl (by cases h; exact hret)
  · rw [if_neg q3] at h
    refine X_aload_n F dX8_init_127 rfl ?_
    refine X_getr F ffRX8_26 dX8_init_128 ?_
    refine X_ldcS0 F dX8_init_131 ?_
    refine X_iload_n F dX8_init_133 rfl ?_
    obtain ⟨r10, h11, h⟩ := bndS h
    refine X_callT (si := 0) (As := [.int x1]) (rest := [.ref 9]) F fkRX8_79 feJ0_charAt_5068e fvJ0_charAt_5068e (by decide) rfl (FJ0_charAt_5068e_met (D := 99) F.2.2.2.2.2.2.2.1 (by decide) (by decide) h11) rfl rfl (Nat.le_of_ble_eq_true rfl) ⟨Nat.le_of_ble_eq_true rfl, Nat.le_of_ble_eq_true rfl, Nat.le_of_ble_eq_true rfl, Nat.le_of_ble_eq_true rfl⟩ dX8_init_134 ?_
    show XJ shA p l e (rmN 100 55 2501) s m args below meth c 55 2501 G 2 Q 137 [(0, .ref 0), (1, .int x1)] [.int r10.1, .ref 9] r10.2
    obtain ⟨r12, h13, h⟩ := bndS h
    refine X_callV (ci := 9) (As := [.int r10.1]) (rest := []) F fkRX8_83 feX3_append fvX3_append ⟨_, _, _, rfl, rfl, rfl⟩ (F3_append_met (D := 99) F.2.2.2.2.2.2.2.1 (by decide) h13) rfl rfl (Nat.le_of_ble_eq_true rfl) ⟨Nat.le_of_ble_eq_true rfl, Nat.le_of_ble_eq_true rfl, Nat.le_of_ble_eq_true rfl, Nat.le_of_ble_eq_true rfl⟩ dX8_init_137 ?_
    show XJ shA p l e (rmN 100 55 2501) s m args below meth c 55 2501 G 2 Q 140 [(0, .ref 0), (1, .int x1)] [.int r12.1] r12.2
    refine X_pop F dX8_init_140 rfl ?_
    refine X_iinc F dX8_init_141 rfl (v := (1 : Int32)) rfl (by decide) rfl ?_
    refine X_goto (tgt := 118) F dX8_init_144 (by decide) ?_
    refine X_pick [1, 0] rfl ?_
    exact hrec118 _ _ h
set_option maxRecDepth 20000 in
theorem F8_init_l118_ok {p : Program} {l : Launch} {e : Env} {s : State} {m : MethodId} {args : Array Value} {below : List Frame} {meth : Method} {c : Code} {G : GG} {Q : State → Prop} {r : Int32 × Mem} (F : FrP shA G p s m args c RX8 cX8_init 2) (hret : XJ shA p l e (rmN 100 55 2501) s m args below meth c 55 2501 G 2 Q 173 [] [] r.2) : ∀ (fu : Nat) (M : Mem) (x1 : Int32), F8_init_l118 fu M x1 = some r → XJ shA p l e (rmN 100 55 2501) s m args below meth c 55 2501 G 2 Q 118 [(0, .ref 0), (1, .int x1)] [] M := by
  intro fu
  induction fu with
  | zero => intro M x1 h; cases h
  | succ fu ih => intro M x1 h; exact F8_init_l118_bok F hret (fun M x1 => ih M x1) h
set_option maxRecDepth 20000 in
theorem F8_init_ok {p : Program} {l : Launch} {e : Env} {s : State} {m : MethodId} {args : Array Value} {below : List Frame} {meth : Method} {c : Code} {G : GG} {Q : State → Prop} {r : Int32 × Mem} (F : FrP shA G p s m args c RX8 cX8_init 2) (hret : XJ shA p l e (rmN 100 55 2501) s m args below meth c 55 2501 G 2 Q 173 [] [] r.2) {M : Mem} (h : F8_init M = some r) : XJ shA p l e (rmN 100 55 2501) s m args below meth c 55 2501 G 2 Q 116 [(0, .ref 0)] [] M := by
  unfold F8_init at h
  refine X_iconst F dX8_init_116 (v := (0 : Int32)) rfl ?_
  refine X_istore_n F dX8_init_117 (by decide) rfl ?_
  refine X_pick [1, 0] rfl ?_
  exact F8_init_l118_ok F hret FUEL _ _ h
set_option maxRecDepth 20000 in
set_option maxHeartbeats 1000000 in
theorem N8_init_met {l : Launch} {G0 : GG} {M : Mem} {r : Int32 × Mem} (hI : Inj sc8_76 G0.2.1) (h : F8_init ((mk8_8 M)) = some r) (sz : Nat) : MetN sc8_76 shA l G0 yX8_init cX8_init 2 100 55 2501 [.ref 0] M r.2 sz := by
  refine X_metN hI (by decide +kernel) rfl (Nat.le_of_ble_eq_true rfl) (fun p e s m args below meth c hsz F hr hlk hin => ?_)
  have hG : GEx sc8_76 sc8_76 G0 G0 s.heap.size := GEx.rf hI
  show XJ sc8_76 p l e _ s m args below meth c 0 0 G0 2 _ 0 [(0, .ref 0)] [] M
  refine X_aload_n F dX8_init_0 rfl ?_
  refine X_objinit F ⟨(tmem 23 (by decide +kernel) rfl), ob_in, ob_co⟩ ⟨Nat.le_of_ble_eq_true rfl, Nat.le_of_ble_eq_true rfl⟩ (Nat.le_of_ble_eq_true rfl) dX8_init_1 ?_
  refine X_aload_n F dX8_init_4 rfl ?_
  refine N_new (sh' := sc8_77) (C := RX2) (T := TX2) (ty := tyX2) (tm := [.null, .null, .null, .int 0, .int 0, .int 0]) F hG (n := 1) rfl rfl rfl wsIn2 tyX2_ok ⟨(tmem 26 (by decide +kernel) rfl), (tmem 27 (by decide +kernel) rfl), (tmem 2 (by decide +kernel) rfl)⟩ (by decide +kernel) ⟨rfl, Nat.le_of_ble_eq_true rfl⟩ (by decide +kernel) ⟨Nat.le_of_ble_eq_true rfl, Nat.le_of_ble_eq_true rfl⟩ ⟨Nat.le_of_ble_eq_true rfl, Nat.le_of_ble_eq_true rfl⟩ dX8_init_5 (fun G hq F hG => ?_)
  refine X_dup F dX8_init_8 rfl ?_
  refine N_call (shp := sc8_76) (shN := sc2_6) (n := 1) (k := 4) (sh' := sc8_78) (S0 := .inr (2, [.null, .null, .null, .int 0, .int 0, .int 0])) (ex := []) (ec := 0) (AL := []) (As := []) (rest := [.ref 1, .ref 0]) (ML := fun c => (upA M 1 (fun _ => 0)) (1 + c)) (ML' := mN2 (fun c => (upA M 1 (fun _ => 0)) (1 + c))) (M' := (mk8_1 M)) rfl rfl rfl F fkRX8_9 feX2_init ⟨rfl, (tmem 29 (by decide +kernel) rfl)⟩ (fun sz => N2_init_met (Inj1 (fun _ _ h => by cases h; exact Nat.le_of_ble_eq_true rfl)) sz) rfl rfl ⟨_, _, rfl, rfl⟩ rfl rfl (Nat.le_of_ble_eq_true rfl) ⟨Nat.le_of_ble_eq_true rfl, Nat.le_of_ble_eq_true rfl, Nat.le_of_ble_eq_true rfl, Nat.le_of_ble_eq_true rfl⟩ dX8_init_9 (by decide +kernel) rfl (fun c => rfl) hq hG (Nat.le_of_ble_eq_true rfl) (fun G F hG => ?_)
  refine X_putr F hin (C := RX8) (T := TX8) (N := 8) (ty0 := tyX8) (sh' := sc8_79) (k := 0) (cell := 0) (ci := 8) (tm := [.null, .null, .null, .null, .null, .null, .null, .null]) rfl (by decide) wsIn8 tyX8_ok nmX8 (tmem 532 (by decide +kernel) rfl) ⟨rfl, rfl⟩ (tyX8_ok 0 (by decide)) (fun a => ⟨rfl, rfl⟩) rfl (Nat.le_of_ble_eq_true rfl) rfl dX8_init_12 (fun F => ?_)
  have hG := GEx.put (sh' := sc8_79) hG rfl F.2.2.2.2.2.2.2.1
  refine X_aload_n F dX8_init_15 rfl ?_
  refine N_new (sh' := sc8_80) (C := RX6) (T := TX6) (ty := tyX6) (tm := [.null, .null, .null, .int 0]) F hG (n := 5) rfl rfl rfl wsIn6 tyX6_ok ⟨(tmem 73 (by decide +kernel) rfl), (tmem 74 (by decide +kernel) rfl), (tmem 3 (by decide +kernel) rfl)⟩ (by decide +kernel) ⟨rfl, Nat.le_of_ble_eq_true rfl⟩ (by decide +kernel) ⟨Nat.le_of_ble_eq_true rfl, Nat.le_of_ble_eq_true rfl⟩ ⟨Nat.le_of_ble_eq_true rfl, Nat.le_of_ble_eq_true rfl⟩ dX8_init_16 (fun G hq F hG => ?_)
  refine X_dup F dX8_init_19 rfl ?_
  refine N_call (shp := sc8_79) (shN := sc6_13) (n := 5) (k := 4) (sh' := sc8_81) (S0 := .inr (6, [.null, .null, .null, .int 0])) (ex := []) (ec := 0) (AL := []) (As := []) (rest := [.ref 5, .ref 0]) (ML := fun c => (upA (mk8_1 M) 5 (fun _ => 0)) (5 + c)) (ML' := mN6 (fun c => (upA (mk8_1 M) 5 (fun _ => 0)) (5 + c))) (M' := (mk8_2 M)) rfl rfl rfl F fkRX8_18 feX6_init ⟨rfl, (tmem 76 (by decide +kernel) rfl)⟩ (fun sz => N6_init_met (Inj1 (fun _ _ h => by cases h; exact Nat.le_of_ble_eq_true rfl)) sz) rfl rfl ⟨_, _, rfl, rfl⟩ rfl rfl (Nat.le_of_ble_eq_true rfl) ⟨Nat.le_of_ble_eq_true rfl, Nat.le_of_ble_eq_true rfl, Nat.le_of_ble_eq_true rfl, Nat.le_of_ble_eq_true rfl⟩ dX8_init_20 (by decide +kernel) rfl (fun c => rfl) hq hG (Nat.le_of_ble_eq_true rfl) (fun G F hG => ?_)
  refine X_putr F hin (C := RX8) (T := TX8) (N := 8) (ty0 := tyX8) (sh' := sc8_82) (k := 1) (cell := 0) (ci := 8) (tm := [.ref 1, .null, .null, .null, .null, .null, .null, .null]) rfl (by decide) wsIn8 tyX8_ok nmX8 (tmem 533 (by decide +kernel) rfl) ⟨rfl, rfl⟩ (tyX8_ok 1 (by decide)) (fun a => ⟨rfl, rfl⟩) rfl (Nat.le_of_ble_eq_true rfl) rfl dX8_init_23 (fun F => ?_)
  have hG := GEx.put (sh' := sc8_82) hG rfl F.2.2.2.2.2.2.2.1
  refine X_aload_n F dX8_init_26 rfl ?_
  refine N_new (sh' := sc8_83) (C := RX3) (T := TX3) (ty := tyX3) (tm := [.null, .int 0, .null, .null, .null, .int 0, .int 0, .int 0, .int 0, .null, .int 0, .null]) F hG (n := 9) rfl rfl rfl wsIn3 tyX3_ok ⟨(tmem 102 (by decide +kernel) rfl), (tmem 103 (by decide +kernel) rfl), (tmem 4 (by decide +kernel) rfl)⟩ (by decide +kernel) ⟨rfl, Nat.le_of_ble_eq_true rfl⟩ (by decide +kernel) ⟨Nat.le_of_ble_eq_true rfl, Nat.le_of_ble_eq_true rfl⟩ ⟨Nat.le_of_ble_eq_true rfl, Nat.le_of_ble_eq_true rfl⟩ dX8_init_27 (fun G hq F hG => ?_)
  refine X_dup F dX8_init_30 rfl ?_
  refine N_call (shp := sc8_82) (shN := sc3_26) (n := 9) (k := 7) (sh' := sc8_84) (S0 := .inr (3, [.null, .int 0, .null, .null, .null, .int 0, .int 0, .int 0, .int 0, .null, .int 0, .null])) (ex := []) (ec := 0) (AL := []) (As := []) (rest := [.ref 9, .ref 0]) (ML := fun c => (upA (mk8_2 M) 9 (fun _ => 0)) (9 + c)) (ML' := mN3 (fun c => (upA (mk8_2 M) 9 (fun _ => 0)) (9 + c))) (M' := (mk8_3 M)) rfl rfl rfl F fkRX8_25 feX3_init ⟨rfl, (tmem 105 (by decide +kernel) rfl)⟩ (fun sz => N3_init_met (Inj1 (fun _ _ h => by cases h; exact Nat.le_of_ble_eq_true rfl)) sz) rfl rfl ⟨_, _, rfl, rfl⟩ rfl rfl (Nat.le_of_ble_eq_true rfl) ⟨Nat.le_of_ble_eq_true rfl, Nat.le_of_ble_eq_true rfl, Nat.le_of_ble_eq_true rfl, Nat.le_of_ble_eq_true rfl⟩ dX8_init_31 (by decide +kernel) rfl (fun c => rfl) hq hG (Nat.le_of_ble_eq_true rfl) (fun G F hG => ?_)
  refine X_putr F hin (C := RX8) (T := TX8) (N := 8) (ty0 := tyX8) (sh' := sc8_85) (k := 2) (cell := 0) (ci := 8) (tm := [.ref 1, .ref 5, .null, .null, .null, .null, .null, .null]) rfl (by decide) wsIn8 tyX8_ok nmX8 (tmem 534 (by decide +kernel) rfl) ⟨rfl, rfl⟩ (tyX8_ok 2 (by decide)) (fun a => ⟨rfl, rfl⟩) rfl (Nat.le_of_ble_eq_true rfl) rfl dX8_init_34 (fun F => ?_)
  have hG := GEx.put (sh' := sc8_85) hG rfl F.2.2.2.2.2.2.2.1
  refine X_aload_n F dX8_init_37 rfl ?_
  refine N_new (sh' := sc8_86) (C := RX4) (T := TX4) (ty := tyX4) (tm := [.null, .null, .null, .null, .null, .int 0, .int 0]) F hG (n := 16) rfl rfl rfl wsIn4 tyX4_ok ⟨(tmem 149 (by decide +kernel) rfl), (tmem 150 (by decide +kernel) rfl), (tmem 5 (by decide +kernel) rfl)⟩ (by decide +kernel) ⟨rfl, Nat.le_of_ble_eq_true rfl⟩ (by decide +kernel) ⟨Nat.le_of_ble_eq_true rfl, Nat.le_of_ble_eq_true rfl⟩ ⟨Nat.le_of_ble_eq_true rfl, Nat.le_of_ble_eq_true rfl⟩ dX8_init_38 (fun G hq F hG => ?_)
  refine X_dup F dX8_init_41 rfl ?_
  refine X_aload_n F dX8_init_42 rfl ?_
  refine X_getr F ⟨ffRX8_10.1, _, rfl, rfl⟩ dX8_init_43 ?_
  refine N_call (shp := sc8_85) (shN := sc4_36) (n := 16) (k := 17) (sh' := sc8_87) (S0 := .inr (4, [.null, .null, .null, .null, .null, .int 0, .int 0])) (ex := [1]) (ec := 1) (AL := [.ref 100]) (As := [.ref 1]) (rest := [.ref 16, .ref 0]) (ML := fun c => (upA (mk8_3 M) 16 (fun _ => 0)) (16 + c)) (ML' := mN4 (fun c => (upA (mk8_3 M) 16 (fun _ => 0)) (16 + c))) (M' := (mk8_4 M)) rfl rfl rfl F fkRX8_32 feX4_init ⟨rfl, (tmem 152 (by decide +kernel) rfl)⟩ (fun sz => N4_init_met (Inj1 (fun _ _ h => by cases h; exact Nat.le_of_ble_eq_true rfl)) sz) rfl rfl ⟨_, _, rfl, rfl⟩ rfl rfl (Nat.le_of_ble_eq_true rfl) ⟨Nat.le_of_ble_eq_true rfl, Nat.le_of_ble_eq_true rfl, Nat.le_of_ble_eq_true rfl, Nat.le_of_ble_eq_true rfl⟩ dX8_init_46 (by decide +kernel) rfl (fun c => rfl) hq hG (Nat.le_of_ble_eq_true rfl) (fun G F hG => ?_)
  refine X_putr F hin (C := RX8) (T := TX8) (N := 8) (ty0 := tyX8) (sh' := sc8_88) (k := 3) (cell := 0) (ci := 8) (tm := [.ref 1, .ref 5, .ref 9, .null, .null, .null, .null, .null]) rfl (by decide) wsIn8 tyX8_ok nmX8 (tmem 535 (by decide +kernel) rfl) ⟨rfl, rfl⟩ (tyX8_ok 3 (by decide)) (fun a => ⟨rfl, rfl⟩) rfl (Nat.le_of_ble_eq_true rfl) rfl dX8_init_49 (fun F => ?_)
  have hG := GEx.put (sh' := sc8_88) hG rfl F.2.2.2.2.2.2.2.1
  refine X_aload_n F dX8_init_52 rfl ?_
  refine N_new (sh' := sc8_89) (C := RX7) (T := TX7) (ty := tyX7) (tm := [.null, .null]) F hG (n := 33) rfl rfl rfl wsIn7 tyX7_ok ⟨(tmem 182 (by decide +kernel) rfl), (tmem 183 (by decide +kernel) rfl), (tmem 6 (by decide +kernel) rfl)⟩ (by decide +kernel) ⟨rfl, Nat.le_of_ble_eq_true rfl⟩ (by decide +kernel) ⟨Nat.le_of_ble_eq_true rfl, Nat.le_of_ble_eq_true rfl⟩ ⟨Nat.le_of_ble_eq_true rfl, Nat.le_of_ble_eq_true rfl⟩ dX8_init_53 (fun G hq F hG => ?_)
  refine X_dup F dX8_init_56 rfl ?_
  refine X_aload_n F dX8_init_57 rfl ?_
  refine X_getr F ⟨ffRX8_10.1, _, rfl, rfl⟩ dX8_init_58 ?_
  refine X_aload_n F dX8_init_61 rfl ?_
  refine X_getr F ⟨ffRX8_35.1, _, rfl, rfl⟩ dX8_init_62 ?_
  refine N_call (shp := sc8_88) (shN := sc7_39) (n := 33) (k := 1) (sh' := sc8_90) (S0 := .inr (7, [.null, .null])) (ex := [1, 16]) (ec := 2) (AL := [.ref 100, .ref 101]) (As := [.ref 1, .ref 16]) (rest := [.ref 33, .ref 0]) (ML := fun c => (upA (mk8_4 M) 33 (fun _ => 0)) (33 + c)) (ML' := mN7 (fun c => (upA (mk8_4 M) 33 (fun _ => 0)) (33 + c))) (M' := (mk8_5 M)) rfl rfl rfl F fkRX8_41 feX7_init ⟨rfl, (tmem 185 (by decide +kernel) rfl)⟩ (fun sz => N7_init_met (Inj1 (fun _ _ h => by cases h; exact Nat.le_of_ble_eq_true rfl)) sz) rfl rfl ⟨_, _, rfl, rfl⟩ rfl rfl (Nat.le_of_ble_eq_true rfl) ⟨Nat.le_of_ble_eq_true rfl, Nat.le_of_ble_eq_true rfl, Nat.le_of_ble_eq_true rfl, Nat.le_of_ble_eq_true rfl⟩ dX8_init_65 (by decide +kernel) rfl (fun c => rfl) hq hG (Nat.le_of_ble_eq_true rfl) (fun G F hG => ?_)
  refine X_putr F hin (C := RX8) (T := TX8) (N := 8) (ty0 := tyX8) (sh' := sc8_91) (k := 4) (cell := 0) (ci := 8) (tm := [.ref 1, .ref 5, .ref 9, .ref 16, .null, .null, .null, .null]) rfl (by decide) wsIn8 tyX8_ok nmX8 (tmem 536 (by decide +kernel) rfl) ⟨rfl, rfl⟩ (tyX8_ok 4 (by decide)) (fun a => ⟨rfl, rfl⟩) rfl (Nat.le_of_ble_eq_true rfl) rfl dX8_init_68 (fun F => ?_)
  have hG := GEx.put (sh' := sc8_91) hG rfl F.2.2.2.2.2.2.2.1
  refine X_aload_n F dX8_init_71 rfl ?_
  refine N_new (sh' := sc8_92) (C := RX0) (T := TX0) (ty := tyX0) (tm := [.null, .null, .null, .null, .null, .null, .int 0, .null, .int 0, .null, .null, .null, .int 0, .int 0, .int 0, .int 0]) F hG (n := 34) rfl rfl rfl wsIn0 tyX0_ok ⟨(tmem 195 (by decide +kernel) rfl), (tmem 196 (by decide +kernel) rfl), (tmem 7 (by decide +kernel) rfl)⟩ (by decide +kernel) ⟨rfl, Nat.le_of_ble_eq_true rfl⟩ (by decide +kernel) ⟨Nat.le_of_ble_eq_true rfl, Nat.le_of_ble_eq_true rfl⟩ ⟨Nat.le_of_ble_eq_true rfl, Nat.le_of_ble_eq_true rfl⟩ dX8_init_72 (fun G hq F hG => ?_)
  refine X_dup F dX8_init_75 rfl ?_
  refine X_aload_n F dX8_init_76 rfl ?_
  refine X_getr F ⟨ffRX8_10.1, _, rfl, rfl⟩ dX8_init_77 ?_
  refine X_aload_n F dX8_init_80 rfl ?_
  refine X_getr F ⟨ffRX8_19.1, _, rfl, rfl⟩ dX8_init_81 ?_
  refine X_aload_n F dX8_init_84 rfl ?_
  refine X_getr F ⟨ffRX8_44.1, _, rfl, rfl⟩ dX8_init_85 ?_
  refine N_call (shp := sc8_91) (shN := sc0_57) (n := 34) (k := 8) (sh' := sc8_93) (S0 := .inr (0, [.null, .null, .null, .null, .null, .null, .int 0, .null, .int 0, .null, .null, .null, .int 0, .int 0, .int 0, .int 0])) (ex := [1, 5, 33]) (ec := 3) (AL := [.ref 100, .ref 101, .ref 102]) (As := [.ref 1, .ref 5, .ref 33]) (rest := [.ref 34, .ref 0]) (ML := fun c => (upA (mk8_5 M) 34 (fun _ => 0)) (34 + c)) (ML' := mN0 (fun c => (upA (mk8_5 M) 34 (fun _ => 0)) (34 + c))) (M' := (mk8_6 M)) rfl rfl rfl F fkRX8_50 feX0_init ⟨rfl, (tmem 198 (by decide +kernel) rfl)⟩ (fun sz => N0_init_met (Inj1 (fun _ _ h => by cases h; exact Nat.le_of_ble_eq_true rfl)) sz) rfl rfl ⟨_, _, rfl, rfl⟩ rfl rfl (Nat.le_of_ble_eq_true rfl) ⟨Nat.le_of_ble_eq_true rfl, Nat.le_of_ble_eq_true rfl, Nat.le_of_ble_eq_true rfl, Nat.le_of_ble_eq_true rfl⟩ dX8_init_88 (by decide +kernel) rfl (fun c => rfl) hq hG (Nat.le_of_ble_eq_true rfl) (fun G F hG => ?_)
  refine X_putr F hin (C := RX8) (T := TX8) (N := 8) (ty0 := tyX8) (sh' := sc8_94) (k := 5) (cell := 0) (ci := 8) (tm := [.ref 1, .ref 5, .ref 9, .ref 16, .ref 33, .null, .null, .null]) rfl (by decide) wsIn8 tyX8_ok nmX8 (tmem 537 (by decide +kernel) rfl) ⟨rfl, rfl⟩ (tyX8_ok 5 (by decide)) (fun a => ⟨rfl, rfl⟩) rfl (Nat.le_of_ble_eq_true rfl) rfl dX8_init_91 (fun F => ?_)
  have hG := GEx.put (sh' := sc8_94) hG rfl F.2.2.2.2.2.2.2.1
  refine X_aload_n F dX8_init_94 rfl ?_
  refine N_new (sh' := sc8_95) (C := RX5) (T := TX5) (ty := tyX5) (tm := [.null, .null, .null]) F hG (n := 42) rfl rfl rfl wsIn5 tyX5_ok ⟨(tmem 257 (by decide +kernel) rfl), (tmem 258 (by decide +kernel) rfl), (tmem 8 (by decide +kernel) rfl)⟩ (by decide +kernel) ⟨rfl, Nat.le_of_ble_eq_true rfl⟩ (by decide +kernel) ⟨Nat.le_of_ble_eq_true rfl, Nat.le_of_ble_eq_true rfl⟩ ⟨Nat.le_of_ble_eq_true rfl, Nat.le_of_ble_eq_true rfl⟩ dX8_init_95 (fun G hq F hG => ?_)
  refine X_dup F dX8_init_98 rfl ?_
  refine N_call (shp := sc8_94) (shN := sc5_64) (n := 42) (k := 8) (sh' := sc8_96) (S0 := .inr (5, [.null, .null, .null])) (ex := []) (ec := 0) (AL := []) (As := []) (rest := [.ref 42, .ref 0]) (ML := fun c => (upA (mk8_6 M) 42 (fun _ => 0)) (42 + c)) (ML' := mN5 (fun c => (upA (mk8_6 M) 42 (fun _ => 0)) (42 + c))) (M' := (mk8_7 M)) rfl rfl rfl F fkRX8_59 feX5_init ⟨rfl, (tmem 260 (by decide +kernel) rfl)⟩ (fun sz => N5_init_met (Inj1 (fun _ _ h => by cases h; exact Nat.le_of_ble_eq_true rfl)) sz) rfl rfl ⟨_, _, rfl, rfl⟩ rfl rfl (Nat.le_of_ble_eq_true rfl) ⟨Nat.le_of_ble_eq_true rfl, Nat.le_of_ble_eq_true rfl, Nat.le_of_ble_eq_true rfl, Nat.le_of_ble_eq_true rfl⟩ dX8_init_99 (by decide +kernel) rfl (fun c => rfl) hq hG (Nat.le_of_ble_eq_true rfl) (fun G F hG => ?_)
  refine X_putr F hin (C := RX8) (T := TX8) (N := 8) (ty0 := tyX8) (sh' := sc8_97) (k := 6) (cell := 0) (ci := 8) (tm := [.ref 1, .ref 5, .ref 9, .ref 16, .ref 33, .ref 34, .null, .null]) rfl (by decide) wsIn8 tyX8_ok nmX8 (tmem 538 (by decide +kernel) rfl) ⟨rfl, rfl⟩ (tyX8_ok 6 (by decide)) (fun a => ⟨rfl, rfl⟩) rfl (Nat.le_of_ble_eq_true rfl) rfl dX8_init_102 (fun F => ?_)
  have hG := GEx.put (sh' := sc8_97) hG rfl F.2.2.2.2.2.2.2.1
  refine X_aload_n F dX8_init_105 rfl ?_
  refine N_new (sh' := sc8_98) (C := RX1) (T := TX1) (ty := tyX1) (tm := [.int 0, .int 0, .int 0, .int 0, .int 0, .int 0, .null, .null, .null, .null, .null]) F hG (n := 50) rfl rfl rfl wsIn1 tyX1_ok ⟨(tmem 277 (by decide +kernel) rfl), (tmem 278 (by decide +kernel) rfl), (tmem 9 (by decide +kernel) rfl)⟩ (by decide +kernel) ⟨rfl, Nat.le_of_ble_eq_true rfl⟩ (by decide +kernel) ⟨Nat.le_of_ble_eq_true rfl, Nat.le_of_ble_eq_true rfl⟩ ⟨Nat.le_of_ble_eq_true rfl, Nat.le_of_ble_eq_true rfl⟩ dX8_init_106 (fun G hq F hG => ?_)
  refine X_dup F dX8_init_109 rfl ?_
  refine N_call (shp := sc8_97) (shN := sc1_75) (n := 50) (k := 6) (sh' := sc8_99) (S0 := .inr (1, [.int 0, .int 0, .int 0, .int 0, .int 0, .int 0, .null, .null, .null, .null, .null])) (ex := []) (ec := 0) (AL := []) (As := []) (rest := [.ref 50, .ref 0]) (ML := fun c => (upA (mk8_7 M) 50 (fun _ => 0)) (50 + c)) (ML' := mN1 (fun c => (upA (mk8_7 M) 50 (fun _ => 0)) (50 + c))) (M' := (mk8_8 M)) rfl rfl rfl F fkRX8_66 feX1_init ⟨rfl, (tmem 280 (by decide +kernel) rfl)⟩ (fun sz => N1_init_met (Inj1 (fun _ _ h => by cases h; exact Nat.le_of_ble_eq_true rfl)) sz) rfl rfl ⟨_, _, rfl, rfl⟩ rfl rfl (Nat.le_of_ble_eq_true rfl) ⟨Nat.le_of_ble_eq_true rfl, Nat.le_of_ble_eq_true rfl, Nat.le_of_ble_eq_true rfl, Nat.le_of_ble_eq_true rfl⟩ dX8_init_110 (by decide +kernel) rfl (fun c => rfl) hq hG (Nat.le_of_ble_eq_true rfl) (fun G F hG => ?_)
  refine X_putr F hin (C := RX8) (T := TX8) (N := 8) (ty0 := tyX8) (sh' := sc8_100) (k := 7) (cell := 0) (ci := 8) (tm := [.ref 1, .ref 5, .ref 9, .ref 16, .ref 33, .ref 34, .ref 42, .null]) rfl (by decide) wsIn8 tyX8_ok nmX8 (tmem 539 (by decide +kernel) rfl) ⟨rfl, rfl⟩ (tyX8_ok 7 (by decide)) (fun a => ⟨rfl, rfl⟩) rfl (Nat.le_of_ble_eq_true rfl) rfl dX8_init_113 (fun F => ?_)
  have hG := GEx.put (sh' := sc8_100) hG rfl F.2.2.2.2.2.2.2.1
  have F : FrP shA G p s m args c RX8 cX8_init 2 := F
  have hG : GEx sc8_76 shA G0 G s.heap.size := hG
  show XJ shA p l e (rmN 100 55 2501) s m args below meth c 55 2501 G 2 _ 116 [(0, .ref 0)] [] _
  exact F8_init_ok F (X_nret F hr hlk hG dX8_init_173) h
