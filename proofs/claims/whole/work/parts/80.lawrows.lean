/-! THE LAW: its world, its script, the pieces of a turn -/
def shW : List Shp := shA ++ shB.map (renS 56 [])
theorem shA_0 : shA.map (renS 0 []) = shA := by decide +kernel
def LL (i : Nat) : List (Nat × Value) := [(0, .ref 210), (1, .ref 0), (2, .ref 56), (3, .int (nI i))]
def mB (M : Mem) : Mem := fun c => M (56 + c)
def jA (A M : Mem) : Mem := fun c => if c < 56 then A c else M c
def jB (B M : Mem) : Mem := fun c => if 56 ≤ c ∧ c < 77 then B (c - 56) else M c
theorem mB_jA (A M : Mem) : mB (jA A M) = mB M := by
  funext c
  unfold mB jA
  rw [if_neg (by omega)]
theorem lg_cmp_self (v : Int64) : lg_cmp v v = 0 := by
  unfold lg_cmp
  simp only [gt_iff_lt, Int64.lt_iff_toInt_lt]
  rw [if_neg (by omega)]
  simp
theorem RR.cong {A B A' B' : Mem} (h : RR A B) (ha : ∀ c, c < 56 → A' c = A c) (hb : ∀ c, c < 21 → B' c = B c) : RR A' B' := by
  obtain ⟨n, o, t, z, m, r, hL, hG, hP, hS, hI, hT⟩ := h
  have b0 := hb 0 (by decide)
  refine ⟨n, o, t, z, m, r, hL.cong (ha 1 (by decide)) (ha 2 (by decide)) (ha 3 (by decide)) (ha 4 (by decide)) (by rw [b0]) (by rw [b0]) (by rw [b0]) (hb 4 (by decide)) (hb 5 (by decide)) (hb 6 (by decide)), hG.cong (ha 5 (by decide)) (ha 6 (by decide)) (ha 7 (by decide)) (ha 8 (by decide)) (by rw [b0]) (hb 7 (by decide)) (hb 8 (by decide)) (hb 9 (by decide)), ?_, ?_, ?_, ?_⟩
  · exact hP.cong (by rw [ha 9 (by decide)]) (ha 10 (by decide)) (by rw [b0]) (hb 3 (by decide))
  · exact hS.cong (ha 43 (by decide)) (ha 44 (by decide)) (fun s hs => ha _ (by omega)) (hb 17 (by decide)) (hb 18 (by decide)) (hb 19 (by decide)) (hb 20 (by decide))
  · exact hI.cong (Nat.le_refl _) (fun c _ h => ha c h) (fun k _ _ => by rw [b0]) (hb 15 (by decide)) (hb 16 (by decide))
  · exact hT.cong (by rw [ha 16 (by decide)]) (by rw [ha 16 (by decide)]) (fun c _ h => ha c (by omega)) (by rw [b0]) (by rw [b0]) (hb 1 (by decide)) (hb 2 (by decide))
theorem RR_j {A B M : Mem} (h : RR A B) : RR (jB B (jA A M)) (mB (jB B (jA A M))) := by
  refine h.cong (fun c hc => ?_) (fun c hc => ?_)
  · unfold jB jA
    rw [if_neg (by omega), if_pos hc]
  · unfold mB jB
    rw [if_pos (by omega), Nat.add_sub_cancel_left]
section XLAW
variable {p : Program} {l : Launch} {e : Env} {s : State} {m : MethodId} {below : List Frame} {meth : Method} {c : Code} {b Ls : Nat} {xs : Nat → Int32} {G : GG} {Q : State → Prop}
/-- what a turn of the law rests on -/
def LC (p : Program) (s : State) (m : MethodId) (meth : Method) (c : Code) (b Ls : Nat) (xs : Nat → Int32) (G : GG) : Prop :=
  FrP shW G p s m #[Value.ref b] c R_law code 4 ∧ Inj shA (GL G 0 []).2.1 ∧ Inj shB (GL G 56 []).2.1 ∧ (∀ i, i < shW.length → s.heap.size ≤ G.2.1 i) ∧ va_X b Ls xs s s.heap ∧ b < s.heap.size ∧ G.2.1 210 = b ∧ meth.sig.returnType = ret ∧ meth.locks = false
theorem LC.nb (C : LC p s m meth c b Ls xs G) : ¬ AW shW G.2.1 b := fun ⟨i, hi, hq⟩ => by
  have h1 := C.2.2.2.1 i hi
  have h2 := C.2.2.2.2.2.1
  omega
theorem X_slen {pc : Nat} {L : List (Nat × Value)} {st : List Value} {M : Mem} (C : LC p s m meth c b Ls xs G) (hd : decode code pc = .ok (.arraylength, 1)) (k : XJ shW p l e room_1 s m #[Value.ref b] below meth c 77 3974 G 4 Q (pc + 1) L (.int (Int32.ofNat Ls) :: st) M) : XJ shW p l e room_1 s m #[Value.ref b] below meth c 77 3974 G 4 Q pc L (.ref 210 :: st) M := by
  intro H locs ls hP hS hl
  have h := va_slen C.1.1 C.1.2.1 C.2.2.2.2.1 C.2.2.2.2.2.1 C.nb hS hd (k H locs ls hP hS hl)
  have e : cvs G.2.1 (.ref 210 :: st) = .ref b :: cvs G.2.1 st := by
    show Value.ref (G.2.1 210) :: cvs G.2.1 st = _
    rw [C.2.2.2.2.2.2.1]
  rw [e]
  exact h
theorem X_sld {pc : Nat} {L : List (Nat × Value)} {st : List Value} {M : Mem} {j : Int32} {jn : Nat} (C : LC p s m meth c b Ls xs G) (hin : vp_in j Ls) (hj : j.toNatClampNeg = jn) (hd : decode code pc = .ok (.iaload, 1)) (k : XJ shW p l e room_1 s m #[Value.ref b] below meth c 77 3974 G 4 Q (pc + 1) L (.int (xs jn) :: st) M) : XJ shW p l e room_1 s m #[Value.ref b] below meth c 77 3974 G 4 Q pc L (.int j :: .ref 210 :: st) M := by
  subst hj
  intro H locs ls hP hS hl
  have h := va_sld C.1.1 C.1.2.1 C.2.2.2.2.1 C.2.2.2.2.2.1 C.nb hS hin hd (k H locs ls hP hS hl)
  have e : cvs G.2.1 (.int j :: .ref 210 :: st) = .int j :: .ref b :: cvs G.2.1 st := by
    show Value.int j :: Value.ref (G.2.1 210) :: cvs G.2.1 st = _
    rw [C.2.2.2.2.2.2.1]
  rw [e]
  exact h
theorem X_arg {pc i kn : Nat} {v : Int} {st : List Value} {M : Mem} (C : LC p s m meth c b Ls xs G) (hL : Ls ≤ 3072) (hi : i + kn < Ls) (hv : Int32.ofInt v = nI kn) (d0 : decode code pc = .ok (.aload_n 0, 1)) (d1 : decode code (pc + 1) = .ok (.iload_n 3, 1)) (d2 : decode code (pc + 2) = .ok (.iconst v, 1)) (d3 : decode code (pc + 3) = .ok (.iadd, 1)) (d4 : decode code (pc + 4) = .ok (.iaload, 1)) (k : XJ shW p l e room_1 s m #[Value.ref b] below meth c 77 3974 G 4 Q (pc + 5) (LL i) (.int (xs (i + kn)) :: st) M) : XJ shW p l e room_1 s m #[Value.ref b] below meth c 77 3974 G 4 Q pc (LL i) st M := by
  refine X_aload_n C.1 d0 rfl ?_
  refine X_iload_n C.1 d1 rfl ?_
  refine X_iconst C.1 d2 hv ?_
  refine X_iadd C.1 d3 ?_
  have e : nI i + nI kn = nI (i + kn) := nI_add i kn
  rw [e]
  exact X_sld C (vp_in_nI hi (by omega)) (nI_clamp (by omega)) d4 k
theorem X_lawA {pc : Nat} {L : List (Nat × Value)} {st : List Value} {M : Mem} (C : LC p s m meth c b Ls xs G) {idx na mL : Nat} {y : MethodName} {bytes : ByteArray} {rt : Option FieldType} {is : List Int32} {rest : List Value} {r : Option Value × Mem} (hlk : LNK R_law idx y) (he : CLE y na bytes mL rt) (hv : CLV y) (hlen : is.length = na) (hci : ∃ cj q tm, classes[cj]? = some q ∧ q.1 = y.cls ∧ shA[0]? = some (.inr (cj, tm))) (hM : MetX shA l (GL G 0 []) y bytes mL rt 120 (.ref 0 :: is.map .int) M r) (hres : r.1.map (cv (adL G.2.1 0 [])) = r.1.map (cv G.2.1)) (hst : st = (is.map Value.int).reverse ++ .ref 0 :: rest) (hu : shA.length = 56) (hroom : (rest.map fun v => v.category).sum ≤ 8) (hR : 120 + 1 ≤ room_1.frames ∧ 8 + (mL + 11) + 100 * 120 ≤ room_1.locals ∧ 77 ≤ room_1.cells ∧ 3974 ≤ room_1.slots) (hd : decode code pc = .ok (.invokevirtual idx, 3)) (kk : XJ shW p l e room_1 s m #[Value.ref b] below meth c 77 3974 G 4 Q (pc + 3) L (r.1.toList ++ rest) (jA r.2 M)) : XJ shW p l e room_1 s m #[Value.ref b] below meth c 77 3974 G 4 Q pc L st M :=
  X_callW (shp := []) (shN := shA) (shq := shB.map (renS 56 [])) (n := 0) (k := 56) rfl hu (by rw [shA_0]; rfl) C.1 hlk he hv hci C.2.1 hM (fun j _ => by rw [Nat.zero_add]) hres C.2.2.2.1 hst hlen hroom hR hd (by decide +kernel) (fun c => by
    unfold jA
    by_cases h : c < 56
    · rw [if_pos h, if_pos (by omega), Nat.sub_zero]
    · rw [if_neg h, if_neg (by omega)]) kk
theorem X_lawB {pc : Nat} {L : List (Nat × Value)} {st : List Value} {M : Mem} (C : LC p s m meth c b Ls xs G) {idx na mL : Nat} {y : MethodName} {bytes : ByteArray} {rt : Option FieldType} {is : List Int32} {rest : List Value} {r : Option Value × Mem} (hlk : LNK R_law idx y) (he : CLE y na bytes mL rt) (hv : CLV y) (hlen : is.length = na) (hci : ∃ cj q tm, classes[cj]? = some q ∧ q.1 = y.cls ∧ shB[0]? = some (.inr (cj, tm))) (hM : MetX shB l (GL G 56 []) y bytes mL rt 120 (.ref 0 :: is.map .int) (mB M) r) (hres : r.1.map (cv (adL G.2.1 56 [])) = r.1.map (cv G.2.1)) (hst : st = (is.map Value.int).reverse ++ .ref 56 :: rest) (hu : shB.length = 21) (hroom : (rest.map fun v => v.category).sum ≤ 8) (hR : 120 + 1 ≤ room_1.frames ∧ 8 + (mL + 11) + 100 * 120 ≤ room_1.locals ∧ 77 ≤ room_1.cells ∧ 3974 ≤ room_1.slots) (hd : decode code pc = .ok (.invokevirtual idx, 3)) (kk : XJ shW p l e room_1 s m #[Value.ref b] below meth c 77 3974 G 4 Q (pc + 3) L (r.1.toList ++ rest) (jB r.2 M)) : XJ shW p l e room_1 s m #[Value.ref b] below meth c 77 3974 G 4 Q pc L st M :=
  X_callW (shp := shA) (shN := shB) (shq := []) (n := 56) (k := 21) rfl hu (by rw [List.append_nil]; rfl) C.1 hlk he hv hci C.2.2.1 hM (fun j _ => rfl) hres C.2.2.2.1 hst hlen hroom hR hd (by decide +kernel) (fun c => rfl) kk
end XLAW
