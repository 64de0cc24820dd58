/-! written by wip/whole/gen: the pure functions of these methods, read off their bytecode, and the walks that prove them -/
theorem fsRX9_374 : Cond.methodLink RX9 374 yX9_over ∈ TBL := tmem 1409 (by decide +kernel) rfl
theorem feX9_over : CLE yX9_over 1 cX9_over 1 (some .int) := ⟨tmem 17 (by decide +kernel) rfl, tmem 1411 (by decide +kernel) rfl, by decide +kernel, by decide +kernel⟩
theorem ftX9_over : Cond.static yX9_over ∈ TBL := tmem 1410 (by decide +kernel) rfl
theorem dX9_taken_0 : decode cX9_taken 0 = .ok (.iload_n 2, 1) := by decide +kernel
theorem dX9_taken_1 : decode cX9_taken 1 = .ok (.i2l, 1) := by decide +kernel
theorem dX9_taken_2 : decode cX9_taken 2 = .ok (.lconst 0, 1) := by decide +kernel
theorem dX9_taken_3 : decode cX9_taken 3 = .ok (.ldc2_w 95, 3) := by decide +kernel
theorem dX9_taken_6 : decode cX9_taken 6 = .ok (.invokestatic 88, 3) := by decide +kernel
theorem dX9_taken_9 : decode cX9_taken 9 = .ok (.ifCond .ne 6, 3) := by decide +kernel
theorem dX9_taken_12 : decode cX9_taken 12 = .ok (.bipush (-2), 2) := by decide +kernel
theorem dX9_taken_14 : decode cX9_taken 14 = .ok (.ireturn, 1) := by decide +kernel
theorem dX9_taken_15 : decode cX9_taken 15 = .ok (.aload_n 0, 1) := by decide +kernel
theorem dX9_taken_16 : decode cX9_taken 16 = .ok (.iload_n 1, 1) := by decide +kernel
theorem dX9_taken_17 : decode cX9_taken 17 = .ok (.invokevirtual 105, 3) := by decide +kernel
theorem dX9_taken_20 : decode cX9_taken 20 = .ok (.ifCond .ne 6, 3) := by decide +kernel
theorem dX9_taken_23 : decode cX9_taken 23 = .ok (.bipush (-11), 2) := by decide +kernel
theorem dX9_taken_25 : decode cX9_taken 25 = .ok (.ireturn, 1) := by decide +kernel
theorem dX9_taken_26 : decode cX9_taken 26 = .ok (.aload_n 0, 1) := by decide +kernel
theorem dX9_taken_27 : decode cX9_taken 27 = .ok (.getfield 23, 3) := by decide +kernel
theorem dX9_taken_30 : decode cX9_taken 30 = .ok (.iload_n 1, 1) := by decide +kernel
theorem dX9_taken_31 : decode cX9_taken 31 = .ok (.iaload, 1) := by decide +kernel
theorem dX9_taken_32 : decode cX9_taken 32 = .ok (.istore_n 3, 1) := by decide +kernel
theorem dX9_taken_33 : decode cX9_taken 33 = .ok (.iload_n 3, 1) := by decide +kernel
theorem dX9_taken_34 : decode cX9_taken 34 = .ok (.iconst (-1), 1) := by decide +kernel
theorem dX9_taken_35 : decode cX9_taken 35 = .ok (.if_icmp .eq 16, 3) := by decide +kernel
theorem dX9_taken_38 : decode cX9_taken 38 = .ok (.iload_n 3, 1) := by decide +kernel
theorem dX9_taken_39 : decode cX9_taken 39 = .ok (.iload_n 2, 1) := by decide +kernel
theorem dX9_taken_40 : decode cX9_taken 40 = .ok (.if_icmp .eq 11, 3) := by decide +kernel
theorem dX9_taken_43 : decode cX9_taken 43 = .ok (.iload_n 3, 1) := by decide +kernel
theorem dX9_taken_44 : decode cX9_taken 44 = .ok (.invokestatic 374, 3) := by decide +kernel
theorem dX9_taken_47 : decode cX9_taken 47 = .ok (.istore_n 3, 1) := by decide +kernel
theorem dX9_taken_48 : decode cX9_taken 48 = .ok (.goto (-15), 3) := by decide +kernel
theorem dX9_taken_51 : decode cX9_taken 51 = .ok (.iload_n 3, 1) := by decide +kernel
theorem dX9_taken_52 : decode cX9_taken 52 = .ok (.iload_n 2, 1) := by decide +kernel
theorem dX9_taken_53 : decode cX9_taken 53 = .ok (.if_icmp .ne 12, 3) := by decide +kernel
theorem dX9_taken_56 : decode cX9_taken 56 = .ok (.aload_n 0, 1) := by decide +kernel
theorem dX9_taken_57 : decode cX9_taken 57 = .ok (.getfield 29, 3) := by decide +kernel
theorem dX9_taken_60 : decode cX9_taken 60 = .ok (.iload_n 1, 1) := by decide +kernel
theorem dX9_taken_61 : decode cX9_taken 61 = .ok (.iaload, 1) := by decide +kernel
theorem dX9_taken_62 : decode cX9_taken 62 = .ok (.goto 5, 3) := by decide +kernel
theorem dX9_taken_65 : decode cX9_taken 65 = .ok (.bipush (-13), 2) := by decide +kernel
theorem dX9_taken_67 : decode cX9_taken 67 = .ok (.ireturn, 1) := by decide +kernel
-- KeepOurPlaceModel.taken
def F9_taken_j51 (M : Mem) (x1 : Int32) (x2 : Int32) (x3 : Int32) : Option (Int32 × Mem) :=
    if ¬ x3 = x2 then
      some ((-13 : Int32), M)
    else
      if inb x1 8 = true then
      some ((M 6 (Int32.toNatClampNeg x1)), M)
      else none
def F9_taken_l33_b (rec33 : Mem → Int32 → Int32 → Int32 → Option (Int32 × Mem)) (M : Mem) (x1 : Int32) (x2 : Int32) (x3 : Int32) : Option (Int32 × Mem) :=
    if x3 = (-1 : Int32) then
      F9_taken_j51 M x1 x2 x3
    else
      if x3 = x2 then
        F9_taken_j51 M x1 x2 x3
      else
        Option.bind (F9_over M x3) fun r10 =>
        rec33 r10.2 x1 x2 r10.1
def F9_taken_l33 : Nat → Mem → Int32 → Int32 → Int32 → Option (Int32 × Mem)
  | 0, _, _, _, _ => none
  | fu + 1, M, x1, x2, x3 => F9_taken_l33_b (F9_taken_l33 fu) M x1 x2 x3
def F9_taken (M : Mem) (a1 : Int32) (a2 : Int32) : Option (Int32 × Mem) :=
    Option.bind (F9_in M (Int32.toInt64 a2) (0 : Int64) (5 : Int64)) fun r1 =>
    if ¬ r1.1 = 0 then
      Option.bind (F9_isOne r1.2 a1) fun r4 =>
      if ¬ r4.1 = 0 then
        if inb a1 8 = true then
        F9_taken_l33 FUEL r4.2 a1 a2 (r4.2 4 (Int32.toNatClampNeg a1))
        else none
      else
        some ((-11 : Int32), r4.2)
    else
      some ((-2 : Int32), r1.2)
set_option maxRecDepth 20000 in
theorem F9_taken_j51_ok {p : Program} {l : Launch} {e : Env} {s : State} {m : MethodId} {args : Array Value} {below : List Frame} {meth : Method} {c : Code} {G : GG} {D : Nat} {r : Int32 × Mem} (F : FrP shB G p s m args c RX9 cX9_taken 4) (hr : meth.sig.returnType = (some .int)) (hlk : meth.locks = false) (hD : 3 ≤ D) {M : Mem} {x1 : Int32} {x2 : Int32} {x3 : Int32} (h : F9_taken_j51 M x1 x2 x3 = some r) : XJ shB p l e (rmX D) s m args below meth c 0 0 G 4 (MQ below (QcX shB G ((some (.int r.1), r.2) : Option Value × Mem).1 ((some (.int r.1), r.2) : Option Value × Mem).2) args s 0 0 (AW shB G.2.1)) 51 [(0, .ref 0), (1, .int x1), (2, .int x2), (3, .int x3)] [] M := by
  unfold F9_taken_j51 at h
  refine X_iload_n F dX9_taken_51 rfl ?_
  refine X_iload_n F dX9_taken_52 rfl ?_
  refine X_icmp_ne (tgt := 65) F dX9_taken_53 (by decide) (fun q12 => ?_) (fun q12 => ?_)
  · rw [if_pos q12] at h
    refine X_bipush F dX9_taken_65 (v := (-13 : Int32)) rfl ?_
    exact X_iret F hr hlk (retI h) dX9_taken_67
  · rw [if_neg (fun z => z q12)] at h
    refine X_aload_n F dX9_taken_56 rfl ?_
    refine X_getr F ffRX9_29 dX9_taken_57 ?_
    refine X_iload_n F dX9_taken_60 rfl ?_
    obtain ⟨q13, h⟩ := ifS h
    refine X_iald (j := (Int32.toNatClampNeg x1)) (v := (M 6 (Int32.toNatClampNeg x1))) F rfl (inbV q13) rfl rfl dX9_taken_61 ?_
    refine X_goto (tgt := 67) F dX9_taken_62 (by decide) ?_
    exact X_iret F hr hlk (retI h) dX9_taken_67
set_option maxRecDepth 20000 in
theorem F9_taken_l33_bok {p : Program} {l : Launch} {e : Env} {s : State} {m : MethodId} {args : Array Value} {below : List Frame} {meth : Method} {c : Code} {G : GG} {D : Nat} {r : Int32 × Mem} {rec33 : Mem → Int32 → Int32 → Int32 → Option (Int32 × Mem)} (F : FrP shB G p s m args c RX9 cX9_taken 4) (hr : meth.sig.returnType = (some .int)) (hlk : meth.locks = false) (hD : 3 ≤ D) (hrec33 : ∀ (M : Mem) (x1 : Int32) (x2 : Int32) (x3 : Int32), rec33 M x1 x2 x3 = some r → XJ shB p l e (rmX D) s m args below meth c 0 0 G 4 (MQ below (QcX shB G ((some (.int r.1), r.2) : Option Value × Mem).1 ((some (.int r.1), r.2) : Option Value × Mem).2) args s 0 0 (AW shB G.2.1)) 33 [(0, .ref 0), (1, .int x1), (2, .int x2), (3, .int x3)] [] M) {M : Mem} {x1 : Int32} {x2 : Int32} {x3 : Int32} (h : F9_taken_l33_b rec33 M x1 x2 x3 = some r) : XJ shB p l e (rmX D) s m args below meth c 0 0 G 4 (MQ below (QcX shB G ((some (.int r.1), r.2) : Option Value × Mem).1 ((some (.int r.1), r.2) : Option Value × Mem).2) args s 0 0 (AW shB G.2.1)) 33 [(0, .ref 0), (1, .int x1), (2, .int x2), (3, .int x3)] [] M := by
  unfold F9_taken_l33_b at h
  refine X_iload_n F dX9_taken_33 rfl ?_
  refine X_iconst F dX9_taken_34 (v := (-1 : Int32)) rfl ?_
  refine X_icmp_eq (tgt := 51) F dX9_taken_35 (by decide) (fun q8 => ?_) (fun q8 => ?_)
  · rw [if_pos q8] at h
    exact F9_taken_j51_ok F hr hlk hD h
  · rw [if_neg q8] at h
    refine X_iload_n F dX9_taken_38 rfl ?_
    refine X_iload_n F dX9_taken_39 rfl ?_
    refine X_icmp_eq (tgt := 51) F dX9_taken_40 (by decide) (fun q9 => ?_) (fun q9 => ?_)
    · rw [if_pos q9] at h
      exact F9_taken_j51_ok F hr hlk hD h
    · rw [if_neg q9] at h
      refine X_iload_n F dX9_taken_43 rfl ?_
      obtain ⟨r10, h11, h⟩ := bndS h
      refine X_callS (As := [.int x3]) (rest := []) F fsRX9_374 feX9_over ftX9_over (F9_over_met (D := D - 1) F.2.2.2.2.2.2.2.1 (by omega) h11) rfl rfl (Nat.le_of_ble_eq_true rfl) (rm_ok (by omega) (by decide)) dX9_taken_44 ?_
      show XJ shB p l e (rmX D) s m args below meth c 0 0 G 4 (MQ below (QcX shB G ((some (.int r.1), r.2) : Option Value × Mem).1 ((some (.int r.1), r.2) : Option Value × Mem).2) args s 0 0 (AW shB G.2.1)) 47 [(0, .ref 0), (1, .int x1), (2, .int x2), (3, .int x3)] [.int r10.1] r10.2
      refine X_istore_n F dX9_taken_47 (by decide) rfl ?_
      refine X_goto (tgt := 33) F dX9_taken_48 (by decide) ?_
      refine X_pick [1, 2, 3, 0] rfl ?_
      exact hrec33 _ _ _ _ h
set_option maxRecDepth 20000 in
theorem F9_taken_l33_ok {p : Program} {l : Launch} {e : Env} {s : State} {m : MethodId} {args : Array Value} {below : List Frame} {meth : Method} {c : Code} {G : GG} {D : Nat} {r : Int32 × Mem} (F : FrP shB G p s m args c RX9 cX9_taken 4) (hr : meth.sig.returnType = (some .int)) (hlk : meth.locks = false) (hD : 3 ≤ D) : ∀ (fu : Nat) (M : Mem) (x1 : Int32) (x2 : Int32) (x3 : Int32), F9_taken_l33 fu M x1 x2 x3 = some r → XJ shB p l e (rmX D) s m args below meth c 0 0 G 4 (MQ below (QcX shB G ((some (.int r.1), r.2) : Option Value × Mem).1 ((some (.int r.1), r.2) : Option Value × Mem).2) args s 0 0 (AW shB G.2.1)) 33 [(0, .ref 0), (1, .int x1), (2, .int x2), (3, .int x3)] [] M := by
  intro fu
  induction fu with
  | zero => intro M x1 x2 x3 h; cases h
  | succ fu ih => intro M x1 x2 x3 h; exact F9_taken_l33_bok F hr hlk hD (fun M x1 x2 x3 => ih M x1 x2 x3) h
set_option maxRecDepth 20000 in
theorem F9_taken_ok {p : Program} {l : Launch} {e : Env} {s : State} {m : MethodId} {args : Array Value} {below : List Frame} {meth : Method} {c : Code} {G : GG} {D : Nat} {r : Int32 × Mem} (F : FrP shB G p s m args c RX9 cX9_taken 4) (hr : meth.sig.returnType = (some .int)) (hlk : meth.locks = false) (hD : 3 ≤ D) {M : Mem} {a1 : Int32} {a2 : Int32} (h : F9_taken M a1 a2 = some r) : XJ shB p l e (rmX D) s m args below meth c 0 0 G 4 (MQ below (QcX shB G ((some (.int r.1), r.2) : Option Value × Mem).1 ((some (.int r.1), r.2) : Option Value × Mem).2) args s 0 0 (AW shB G.2.1)) 0 [(0, .ref 0), (1, .int a1), (2, .int a2)] [] M := by
  unfold F9_taken at h
  refine X_iload_n F dX9_taken_0 rfl ?_
  refine X_i2l F dX9_taken_1 ?_
  refine X_lconst F dX9_taken_2 (v := (0 : Int64)) rfl ?_
  refine X_ldc2 F fcRX9_95 dX9_taken_3 ?_
  obtain ⟨r1, h2, h⟩ := bndS h
  refine X_callS (As := [.long (Int32.toInt64 a2), .long (0 : Int64), .long (5 : Int64)]) (rest := []) F fsRX9_88 feX9_in ftX9_in (F9_in_met (D := D - 1) F.2.2.2.2.2.2.2.1 (by omega) h2) rfl rfl (Nat.le_of_ble_eq_true rfl) (rm_ok (by omega) (by decide)) dX9_taken_6 ?_
  show XJ shB p l e (rmX D) s m args below meth c 0 0 G 4 (MQ below (QcX shB G ((some (.int r.1), r.2) : Option Value × Mem).1 ((some (.int r.1), r.2) : Option Value × Mem).2) args s 0 0 (AW shB G.2.1)) 9 [(0, .ref 0), (1, .int a1), (2, .int a2)] [.int r1.1] r1.2
  refine X_if_ne (tgt := 15) F dX9_taken_9 (by decide) (fun q3 => ?_) (fun q3 => ?_)
  · rw [if_pos q3] at h
    refine X_aload_n F dX9_taken_15 rfl ?_
    refine X_iload_n F dX9_taken_16 rfl ?_
    obtain ⟨r4, h5, h⟩ := bndS h
    refine X_callV (ci := 0) (As := [.int a1]) (rest := []) F fkRX9_105 feX9_isOne fvX9_isOne ⟨_, _, _, rfl, rfl, rfl⟩ (F9_isOne_met (D := D - 1) F.2.2.2.2.2.2.2.1 (by omega) h5) rfl rfl (Nat.le_of_ble_eq_true rfl) (rm_ok (by omega) (by decide)) dX9_taken_17 ?_
    show XJ shB p l e (rmX D) s m args below meth c 0 0 G 4 (MQ below (QcX shB G ((some (.int r.1), r.2) : Option Value × Mem).1 ((some (.int r.1), r.2) : Option Value × Mem).2) args s 0 0 (AW shB G.2.1)) 20 [(0, .ref 0), (1, .int a1), (2, .int a2)] [.int r4.1] r4.2
    refine X_if_ne (tgt := 26) F dX9_taken_20 (by decide) (fun q6 => ?_) (fun q6 => ?_)
    · rw [if_pos q6] at h
      refine X_aload_n F dX9_taken_26 rfl ?_
      refine X_getr F ffRX9_23 dX9_taken_27 ?_
      refine X_iload_n F dX9_taken_30 rfl ?_
      obtain ⟨q7, h⟩ := ifS h
      refine X_iald (j := (Int32.toNatClampNeg a1)) (v := (r4.2 4 (Int32.toNatClampNeg a1))) F rfl (inbV q7) rfl rfl dX9_taken_31 ?_
      refine X_istore_n F dX9_taken_32 (by decide) rfl ?_
      refine X_pick [1, 2, 3, 0] rfl ?_
      exact F9_taken_l33_ok F hr hlk hD FUEL _ _ _ _ h
    · rw [if_neg (fun z => z q6)] at h
      refine X_bipush F dX9_taken_23 (v := (-11 : Int32)) rfl ?_
      exact X_iret F hr hlk (retI h) dX9_taken_25
  · rw [if_neg (fun z => z q3)] at h
    refine X_bipush F dX9_taken_12 (v := (-2 : Int32)) rfl ?_
    exact X_iret F hr hlk (retI h) dX9_taken_14
set_option maxRecDepth 20000 in
theorem F9_taken_met {l : Launch} {G : GG} {D : Nat} {r : Int32 × Mem} {M : Mem} {a1 : Int32} {a2 : Int32} (hI : Inj shB G.2.1) (hD : 3 ≤ D) (h : F9_taken M a1 a2 = some r) : MetX shB l G yX9_taken cX9_taken 4 (some .int) D [.ref 0, .int a1, .int a2] M (some (.int r.1), r.2) :=
  X_met hI (by decide +kernel) (Nat.le_of_ble_eq_true rfl) (fun p e s m args below meth c F hr hlk => F9_taken_ok F hr hlk hD h)
