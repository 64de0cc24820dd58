/-! TEXTS: both sides read together -/
section
variable {bs : Nat → Int32} {z t m : Nat}
def RES (bs : Nat → Int32) (z t m : Nat) (A B : Mem) (i o L : Nat) (v : Int32) (A' B' : Mem) : Prop := CFr A A' ∧ MFr B B' ∧ ((∃ i' L', i < i' ∧ CS bs z m A' i' L' ∧ MS bs z t B' i' o ∧ L < L' ∧ L' + i ≤ L + i' ∧ (∀ j, j < L → A' 14 j = A 14 j) ∧ ∀ st, exe (nmB B) (A' 14) (L' - L) L st = some (v :: st)) ∨ ∃ f, CF A' f ∧ MF B' f)
def SIM (bs : Nat → Int32) (z t m fu k o : Nat) : Prop := ∀ i L A B, CS bs z m A i L → MS bs z t B i o → ∃ A' B' v, S1 fu k (nI o) A = some (0, A') ∧ S3 fu k B = some (v, B') ∧ RES bs z t m A B i o L v A' B'
theorem bin {nm : Int32 → Int32} {A1 A3 A4 : Mem} {L0 L1 L3 : Nat} {x y code : Int32} (h1 : L0 ≤ L1) (h2 : L1 ≤ L3) (e1 : ∀ st, exe nm (A1 14) (L1 - L0) L0 st = some (x :: st)) (p1 : ∀ j, j < L1 → A3 14 j = A1 14 j) (e2 : ∀ st, exe nm (A3 14) (L3 - L1) L1 st = some (y :: st)) (p2 : ∀ j, j < L3 → A4 14 j = A3 14 j) (hc : A4 14 L3 = code) (h6 : code < -6) (h7 : ¬ code = -7) (h8 : ¬ code = -8) : ∀ st, exe nm (A4 14) (L3 + 1 - L0) L0 st = some (two code x y :: st) :=
  exe_two h1 h2 (fun st => by rw [exe_cong (f := A4 14) (g := A1 14) _ _ _ (fun j a b => by rw [p2 j (by omega), p1 j (by omega)])]; exact e1 st) (fun st => by rw [exe_cong (f := A4 14) (g := A3 14) _ _ _ (fun j a b => p2 j (by omega))]; exact e2 st) hc h6 h7 h8
theorem loop_sim {fu k2 o : Nat} (hS : SIM bs z t m fu k2 o) (K : Int32 → Bool) (code : Int32 → Int32) (hK : ∀ w, K w = true → ¬ w = -1 ∧ ¬ w = -2 ∧ code w < -6 ∧ ¬ code w = -7 ∧ ¬ code w = -8) (LA : Nat → Mem → Int32 → Option (Int32 × Mem)) (LF : Nat → Mem → Int32 → Option (Int32 × Mem))
    (hA : ∀ g A c, c < 160 → LA (g + 1) A (nI c) = if K (A 9 7) = true then Option.bind (F3_advance A) fun r5 => Option.bind (S1 fu k2 (nI o) r5.2) fun r7 => Option.bind (F3_emit r7.2 (code (A 9 7))) fun r9 => LA g r9.2 (nI (c + 1)) else some (0, A))
    (hA2 : ∀ g A, LA (g + 1) A (nI 160) = some (0, A))
    (hB : ∀ g i B x, MS bs z t B i o → LF (g + 1) B x = if K (kd bs z (plc bs z i)) = true then Option.bind (F9_next B) fun r6 => Option.bind (S3 fu k2 r6.2) fun r8 => LF g r8.2 (two (code (kd bs z (plc bs z i))) x r8.1) else some (x, B))
    (hB2 : ∀ g B x, ¬ B 0 30 = 0 → LF (g + 1) B x = some (x, B)) :
    ∀ r g c i L L0 A B x nm, nm = nmB B → CS bs z m A i L → MS bs z t B i o → L0 < L → (∀ st, exe nm (A 14) (L - L0) L0 st = some (x :: st)) → c ≤ i → m ≤ i + r → r < g → ∃ A' B' v, LA g A (nI c) = some (0, A') ∧ LF g B x = some (v, B') ∧ CFr A A' ∧ MFr B B' ∧ ((∃ i' L', i ≤ i' ∧ CS bs z m A' i' L' ∧ MS bs z t B' i' o ∧ L ≤ L' ∧ L' + i ≤ L + i' ∧ (∀ j, j < L0 → A' 14 j = A 14 j) ∧ ∀ st, exe nm (A' 14) (L' - L0) L0 st = some (v :: st)) ∨ ∃ f, CF A' f ∧ MF B' f) := by
  have faultA : ∀ g A f c, CF A f → c ≤ 160 → LA (g + 1) A (nI c) = some (0, A) := by
    intro g A f c hf hc
    by_cases h : c < 160
    · rw [hA g A c h, if_neg]
      intro hk
      rw [hf.1] at hk
      exact (hK _ hk).2.1 rfl
    · obtain rfl : c = 160 := by omega
      exact hA2 g A
  intro r
  induction r with
  | zero =>
    intro g c i L L0 A B x nm hnm hc hm hL he hci hr hg
    have := hc.2.1
    omega
  | succ r ih =>
    intro g c i L L0 A B x nm hnm hc hm hL he hci hr hg
    obtain ⟨g, rfl⟩ : ∃ f, g = f + 2 := ⟨g - 2, by omega⟩
    have h7 := hc.2.2.2.1
    have hm161 := hc.1.2.2.2.2.1
    have him := hc.2.1
    by_cases hk : K (kd bs z (plc bs z i)) = true
    · obtain ⟨k1, k2', k3, k4, k5⟩ := hK _ hk
      have hl := hc.last k1 k2'
      obtain ⟨A1, a1, a2, a3, a4⟩ := adv hc k1 k2'
      obtain ⟨B1, b1, b2, b3⟩ := nxt hm k1 k2'
      obtain ⟨A2, B2, y, s1, s2, s3, s4, s5⟩ := hS (i + 1) L A1 B1 a2 b2
      have eA : LA (g + 2) A (nI c) = Option.bind (F3_emit A2 (code (kd bs z (plc bs z i)))) fun r9 => LA (g + 1) r9.2 (nI (c + 1)) := by
        rw [hA (g + 1) A c (by omega), h7, if_pos hk, a1, Option.bind_some]
        dsimp only
        rw [s1, Option.bind_some]
      have eB : LF (g + 2) B x = LF (g + 1) B2 (two (code (kd bs z (plc bs z i))) x y) := by
        rw [hB (g + 1) i B x hm, if_pos hk, b1, Option.bind_some]
        dsimp only
        rw [s2, Option.bind_some]
      rw [eA, eB]
      rcases s5 with ⟨i2, L2, q1, q2, q3, q4, q5, q6, q7⟩ | ⟨f, q1, q2⟩
      · have hL2 := hc.2.2.2.2.2.2
        obtain ⟨A3, e1, e2, e3, e4, e5⟩ := q2.emit (show L2 + 1 ≤ i2 by omega) (code (kd bs z (plc bs z i)))
        rw [b3.nm, ← hnm] at q7
        have he2 := bin (nm := nm) (A1 := A) (A3 := A2) (A4 := A3) (code := code (kd bs z (plc bs z i))) (Nat.le_of_lt hL) (show L ≤ L2 by omega) he (fun j hj => by rw [q6 j hj, a4]) q7 e5 e4 k3 k4 k5
        obtain ⟨A4, B4, v, r1, r2, r3, r4, r5⟩ := ih (g + 1) (c + 1) i2 (L2 + 1) L0 A3 B2 (two (code (kd bs z (plc bs z i))) x y) nm (by rw [s4.nm, b3.nm, hnm]) e2 q3 (by omega) he2 (by omega) (by omega) (by omega)
        refine ⟨A4, B4, v, ?_, r2, ((a3.tr s3).tr e3).tr r3, (b3.tr s4).tr r4, ?_⟩
        · rw [e1, Option.bind_some]; exact r1
        · rcases r5 with ⟨i3, L3, w1, w2, w3, w4, w5, w6, w7⟩ | w
          · exact .inl ⟨i3, L3, by omega, w2, w3, by omega, by omega, fun j hj => by rw [w6 j hj, e5 j (by omega), q6 j (by omega), a4], w7⟩
          · exact .inr w
      · obtain ⟨A3, e1, e2, e3, -⟩ := q1.emit (code (kd bs z (plc bs z i)))
        refine ⟨A3, B2, two (code (kd bs z (plc bs z i))) x y, ?_, hB2 g B2 _ q2.bad, (a3.tr s3).tr e3, b3.tr s4, .inr ⟨f, e2, q2⟩⟩
        rw [e1, Option.bind_some]
        exact faultA g A3 f (c + 1) e2 (by omega)
    · refine ⟨A, B, x, ?_, ?_, CFr.rf, MFr.rf, .inl ⟨i, L, Nat.le_refl _, hc, hm, Nat.le_refl _, by omega, fun _ _ => rfl, he⟩⟩
      · by_cases hc160 : c < 160
        · rw [hA (g + 1) A c hc160, h7, if_neg hk]
        · obtain rfl : c = 160 := by omega
          exact hA2 (g + 1) A
      · rw [hB (g + 1) i B x hm, if_neg hk]
theorem list_sim {fu k k2 o : Nat} (hS : SIM bs z t m fu k2 o) (K : Int32 → Bool) (code : Int32 → Int32) (hK : ∀ w, K w = true → ¬ w = -1 ∧ ¬ w = -2 ∧ code w < -6 ∧ ¬ code w = -7 ∧ ¬ code w = -8) (LA : Nat → Mem → Int32 → Option (Int32 × Mem)) (LF : Nat → Mem → Int32 → Option (Int32 × Mem))
    (hA : ∀ g A c, c < 160 → LA (g + 1) A (nI c) = if K (A 9 7) = true then Option.bind (F3_advance A) fun r5 => Option.bind (S1 fu k2 (nI o) r5.2) fun r7 => Option.bind (F3_emit r7.2 (code (A 9 7))) fun r9 => LA g r9.2 (nI (c + 1)) else some (0, A))
    (hA2 : ∀ g A, LA (g + 1) A (nI 160) = some (0, A))
    (hB : ∀ g i B x, MS bs z t B i o → LF (g + 1) B x = if K (kd bs z (plc bs z i)) = true then Option.bind (F9_next B) fun r6 => Option.bind (S3 fu k2 r6.2) fun r8 => LF g r8.2 (two (code (kd bs z (plc bs z i))) x r8.1) else some (x, B))
    (hB2 : ∀ g B x, ¬ B 0 30 = 0 → LF (g + 1) B x = some (x, B))
    (e1 : ∀ A, S1 (fu + 1) k (nI o) A = Option.bind (S1 fu k2 (nI o) A) fun r1 => LA FUEL r1.2 (nI 0))
    (e3 : ∀ B, S3 (fu + 1) k B = Option.bind (S3 fu k2 B) fun r1 => LF FUEL r1.2 r1.1) : SIM bs z t m (fu + 1) k o := by
  intro i L A B hc hm
  obtain ⟨A1, B1, x, s1, s2, s3, s4, s5⟩ := hS i L A B hc hm
  rw [e1, e3, s1, s2, Option.bind_some, Option.bind_some]
  dsimp only
  rcases s5 with ⟨i1, L1, q1, q2, q3, q4, q5, q6, q7⟩ | ⟨f, q1, q2⟩
  · have hm161 := hc.1.2.2.2.2.1
    obtain ⟨A2, B2, v, r1, r2, r3, r4, r5⟩ := loop_sim hS K code hK LA LF hA hA2 hB hB2 m FUEL 0 i1 L1 L A1 B1 x (nmB B) (s4.nm).symm q2 q3 q4 q7 (by omega) (by omega) (by unfold FUEL; omega)
    refine ⟨A2, B2, v, r1, r2, s3.tr r3, s4.tr r4, ?_⟩
    rcases r5 with ⟨i3, L3, w1, w2, w3, w4, w5, w6, w7⟩ | w
    · exact .inl ⟨i3, L3, by omega, w2, w3, by omega, by omega, fun j hj => by rw [w6 j hj, q6 j hj], w7⟩
    · exact .inr w
  · refine ⟨A1, B1, x, ?_, ?_, s3, s4, .inr ⟨f, q1, q2⟩⟩
    · show LA (99999 + 1) A1 (nI 0) = _
      rw [hA 99999 A1 0 (by omega), if_neg]
      intro hk
      rw [q1.1] at hk
      exact (hK _ hk).2.1 rfl
    · show LF (99999 + 1) B1 x = _
      exact hB2 99999 B1 x q2.bad
theorem two_9 (l r : Int32) : two (-9) l r = if ¬ l = 0 then 1 else if r = 0 then 0 else 1 := by
  unfold two
  rw [if_neg (show ¬ (-9 : Int32) = -14 by decide), if_neg (show ¬ (-9 : Int32) = -13 by decide), if_neg (show ¬ (-9 : Int32) = -12 by decide), if_neg (show ¬ (-9 : Int32) = -11 by decide), if_neg (show ¬ (-9 : Int32) = -10 by decide), if_pos rfl]
theorem two_10 (l r : Int32) : two (-10) l r = if l = 0 then 0 else if r = 0 then 0 else 1 := by
  unfold two
  rw [if_neg (show ¬ (-10 : Int32) = -14 by decide), if_neg (show ¬ (-10 : Int32) = -13 by decide), if_neg (show ¬ (-10 : Int32) = -12 by decide), if_neg (show ¬ (-10 : Int32) = -11 by decide), if_pos rfl]
theorem two_11 (l r : Int32) : two (-11) l r = if r ≤ l then 0 else 1 := by
  unfold two
  rw [if_neg (show ¬ (-11 : Int32) = -14 by decide), if_neg (show ¬ (-11 : Int32) = -13 by decide), if_neg (show ¬ (-11 : Int32) = -12 by decide), if_pos rfl]
theorem two_12 (l r : Int32) : two (-12) l r = if ¬ l = r then 0 else 1 := by
  unfold two
  rw [if_neg (show ¬ (-12 : Int32) = -14 by decide), if_neg (show ¬ (-12 : Int32) = -13 by decide), if_pos rfl]
theorem two_13 (l r : Int32) : two (-13) l r = l + r := by
  unfold two
  rw [if_neg (show ¬ (-13 : Int32) = -14 by decide), if_pos rfl]
theorem two_14 (l r : Int32) : two (-14) l r = l - r := by
  unfold two
  rw [if_pos rfl]
theorem two_15 (l r : Int32) : two (-15) l r = l * r := by
  unfold two
  rw [if_neg (show ¬ (-15 : Int32) = -14 by decide), if_neg (show ¬ (-15 : Int32) = -13 by decide), if_neg (show ¬ (-15 : Int32) = -12 by decide), if_neg (show ¬ (-15 : Int32) = -11 by decide), if_neg (show ¬ (-15 : Int32) = -10 by decide), if_neg (show ¬ (-15 : Int32) = -9 by decide)]
theorem or_sim {fu o : Nat} (hS : SIM bs z t m fu 1 o) : SIM bs z t m (fu + 1) 0 o := by
  refine list_sim hS (fun w => decide (w = -14)) (fun _ => -9) (fun w hw => ?_) (fun g A c => F3_readOr_l7 (S1 fu) g A (nI o) c) (fun g B x => F9_either_l5 (S3 fu) g B x) ?_ ?_ ?_ ?_ (fun A => rfl) (fun B => rfl)
  · rw [of_decide_eq_true hw]; decide
  · intro g A c hc
    show F3_readOr_l7_b (S1 fu) _ A (nI o) (nI c) = _
    unfold F3_readOr_l7_b
    rw [if_neg (show ¬ (160 : Int32) ≤ nI c from nI_ge (b := 160) hc (by decide)), nI_1]
    simp only [decide_eq_true_iff]
    by_cases h : A 9 7 = -14
    · rw [if_neg (fun q => q h), if_pos h]
    · rw [if_pos h, if_neg h]
  · intro g A
    show F3_readOr_l7_b (S1 fu) _ A (nI o) (nI 160) = _
    unfold F3_readOr_l7_b
    rw [if_pos (by decide)]
  · intro g i B x hm
    have w : F9_isWord B 111 114 0 0 0 0 0 0 = _ := key_B hm.1 (show 9 < 12 by decide) (by decide)
    rw [show -5 - nI 9 = (-14 : Int32) by decide] at w
    show F9_either_l5_b (S3 fu) _ B x = _
    unfold F9_either_l5_b F9_either_j39 F9_either_j44
    rw [w, Option.bind_some]
    simp only [decide_eq_true_iff]
    by_cases h : kd bs z (plc bs z i) = -14
    · rw [if_pos h, if_neg n10, if_pos h]
      cases F9_next B with
      | none => rfl
      | some r =>
        rw [Option.bind_some, Option.bind_some]
        cases S3 fu 1 r.2 with
        | none => rfl
        | some r8 =>
          rw [Option.bind_some, Option.bind_some]
          rw [two_9]
          by_cases hx : x = 0
          · rw [if_neg (show ¬ ¬ x = 0 from fun q => q hx), if_neg (show ¬ ¬ x = 0 from fun q => q hx)]
            by_cases hy : r8.1 = 0
            · rw [if_pos hy, if_pos hy]
            · rw [if_neg hy, if_neg hy]
          · rw [if_pos hx, if_pos hx]
    · rw [if_neg h, if_pos rfl, if_neg h]
  · intro g B x hb
    show F9_either_l5_b (S3 fu) _ B x = _
    unfold F9_either_l5_b
    rw [word_bad hb]
    rfl
theorem and_sim {fu o : Nat} (hS : SIM bs z t m fu 2 o) : SIM bs z t m (fu + 1) 1 o := by
  refine list_sim hS (fun w => decide (w = -15)) (fun _ => -10) (fun w hw => ?_) (fun g A c => F3_readAnd_l7 (S1 fu) g A (nI o) c) (fun g B x => F9_both_l5 (S3 fu) g B x) ?_ ?_ ?_ ?_ (fun A => rfl) (fun B => rfl)
  · rw [of_decide_eq_true hw]; decide
  · intro g A c hc
    show F3_readAnd_l7_b (S1 fu) _ A (nI o) (nI c) = _
    unfold F3_readAnd_l7_b
    rw [if_neg (show ¬ (160 : Int32) ≤ nI c from nI_ge (b := 160) hc (by decide)), nI_1]
    simp only [decide_eq_true_iff]
    by_cases h : A 9 7 = -15
    · rw [if_neg (fun q => q h), if_pos h]
    · rw [if_pos h, if_neg h]
  · intro g A
    show F3_readAnd_l7_b (S1 fu) _ A (nI o) (nI 160) = _
    unfold F3_readAnd_l7_b
    rw [if_pos (by decide)]
  · intro g i B x hm
    have w : F9_isWord B 97 110 100 0 0 0 0 0 = _ := key_B hm.1 (show 10 < 12 by decide) (by decide)
    rw [show -5 - nI 10 = (-15 : Int32) by decide] at w
    show F9_both_l5_b (S3 fu) _ B x = _
    unfold F9_both_l5_b F9_both_j44 F9_both_j45
    rw [w, Option.bind_some]
    simp only [decide_eq_true_iff]
    by_cases h : kd bs z (plc bs z i) = -15
    · rw [if_pos h, if_neg n10, if_pos h]
      cases F9_next B with
      | none => rfl
      | some r =>
        rw [Option.bind_some, Option.bind_some]
        cases S3 fu 2 r.2 with
        | none => rfl
        | some r8 =>
          rw [Option.bind_some, Option.bind_some]
          rw [two_10]
          by_cases hx : x = 0
          · rw [if_pos hx, if_pos hx]
          · rw [if_neg hx, if_neg hx]
            by_cases hy : r8.1 = 0
            · rw [if_pos hy, if_pos hy]
            · rw [if_neg hy, if_neg hy]
    · rw [if_neg h, if_pos rfl, if_neg h]
  · intro g B x hb
    show F9_both_l5_b (S3 fu) _ B x = _
    unfold F9_both_l5_b
    rw [word_bad hb]
    rfl
theorem term_sim {fu o : Nat} (hS : SIM bs z t m fu 5 o) : SIM bs z t m (fu + 1) 4 o := by
  refine list_sim hS (fun w => decide (w = 42)) (fun _ => -15) (fun w hw => ?_) (fun g A c => F3_readTerm_l7 (S1 fu) g A (nI o) c) (fun g B x => F9_term_l5 (S3 fu) g B x) ?_ ?_ ?_ ?_ (fun A => rfl) (fun B => rfl)
  · rw [of_decide_eq_true hw]; decide
  · intro g A c hc
    show F3_readTerm_l7_b (S1 fu) _ A (nI o) (nI c) = _
    unfold F3_readTerm_l7_b
    rw [if_neg (show ¬ (160 : Int32) ≤ nI c from nI_ge (b := 160) hc (by decide)), nI_1]
    simp only [decide_eq_true_iff]
    by_cases h : A 9 7 = 42
    · rw [if_neg (fun q => q h), if_pos h]
    · rw [if_pos h, if_neg h]
  · intro g A
    show F3_readTerm_l7_b (S1 fu) _ A (nI o) (nI 160) = _
    unfold F3_readTerm_l7_b
    rw [if_pos (by decide)]
  · intro g i B x hm
    show F9_term_l5_b (S3 fu) _ B x = _
    unfold F9_term_l5_b
    rw [sign_B hm.1 (show isG 42 = true by decide), Option.bind_some]
    simp only [decide_eq_true_iff]
    by_cases h : kd bs z (plc bs z i) = 42
    · rw [if_pos h, if_neg n10, if_pos h]
      cases F9_next B with
      | none => rfl
      | some r =>
        rw [Option.bind_some, Option.bind_some]
        cases S3 fu 5 r.2 with
        | none => rfl
        | some r8 =>
          rw [Option.bind_some, Option.bind_some, two_15]
    · rw [if_neg h, if_pos rfl, if_neg h]
  · intro g B x hb
    show F9_term_l5_b (S3 fu) _ B x = _
    unfold F9_term_l5_b
    rw [sign_bad hb]
    rfl
theorem gL_sg {s : Nat} {B : Mem} (h : OKB bs z t B s) {c : Int32} (hc : isG c = true) (hk : kd bs z s = c) : gL B 0 28 = Int32.toInt64 c := by
  obtain ⟨h0, ⟨h27, htb⟩, h30, hsz⟩ := h
  have hp := sg_pos hc
  rcases kd_cases bs z s with ⟨c1, c2⟩ | ⟨c1, c2, c3⟩ | ⟨c1, c2, c3, c4⟩ | ⟨c1, c2, c3, c4, c5⟩ | ⟨c1, c2, c3, c4, c5⟩
  · rw [c2] at hk; rw [← hk] at hp; exact absurd hp (by decide)
  · have := wk_neg (bs := bs) (s := s) (eL bs z s)
    rw [← c3, hk] at this
    omega
  · rw [c4] at hk
    by_cases h4 : eD bs z s - s ≤ 4
    · rw [if_pos h4] at hk; rw [← hk] at hp; exact absurd hp (by decide)
    · rw [if_neg h4] at hk; rw [← hk] at hp; exact absurd hp (by decide)
  · rw [if_pos c1, if_neg (by rw [c2]; exact Bool.false_ne_true), if_neg (by rw [c3]; exact Bool.false_ne_true), if_pos c4] at htb
    rw [htb.2.1, ← c5, hk]
  · rw [c5] at hk; rw [← hk] at hp; exact absurd hp (by decide)
theorem lg_43 : lg_cmp (Int32.toInt64 43) 43 = 0 := by rw [lg0]; decide
theorem lg_45 : ¬ lg_cmp (Int32.toInt64 45) 43 = 0 := by rw [lg0]; decide
theorem lg_60 : lg_cmp (Int32.toInt64 60) 60 = 0 := by rw [lg0]; decide
theorem lg_61 : ¬ lg_cmp (Int32.toInt64 61) 60 = 0 := by rw [lg0]; decide
theorem sum_sim {fu o : Nat} (hS : SIM bs z t m fu 4 o) : SIM bs z t m (fu + 1) 3 o := by
  refine list_sim hS (fun w => decide (w = 43 ∨ w = 45)) (fun w => if w = 43 then -13 else -14) (fun w hw => ?_) (fun g A c => F3_readSum_l7 (S1 fu) g A (nI o) c) (fun g B x => F9_added_l5 (S3 fu) g B x) ?_ ?_ ?_ ?_ (fun A => rfl) (fun B => rfl)
  · rcases of_decide_eq_true hw with h | h <;> rw [h] <;> decide
  · intro g A c hc
    show F3_readSum_l7_b (S1 fu) _ A (nI o) (nI c) = _
    unfold F3_readSum_l7_b F3_readSum_j32 F3_readSum_j48
    rw [if_neg (show ¬ (160 : Int32) ≤ nI c from nI_ge (b := 160) hc (by decide)), nI_1]
    simp only [decide_eq_true_iff]
    by_cases h : A 9 7 = 43
    · rw [if_pos h, if_neg (fun q => q h), if_pos (.inl h), if_pos h]
    · rw [if_neg h]
      by_cases h2 : A 9 7 = 45
      · rw [if_neg (fun q => q h2), if_pos h, if_pos (.inr h2), if_neg h]
      · rw [if_pos h2, if_neg (fun q => q.elim h h2)]
  · intro g A
    show F3_readSum_l7_b (S1 fu) _ A (nI o) (nI 160) = _
    unfold F3_readSum_l7_b
    rw [if_pos (by decide)]
  · intro g i B x hm
    show F9_added_l5_b (S3 fu) _ B x = _
    unfold F9_added_l5_b F9_added_j23 F9_added_j39 F9_added_j62
    rw [sign_B hm.1 (show isG 43 = true by decide), Option.bind_some]
    dsimp only
    rw [sign_B hm.1 (show isG 45 = true by decide), Option.bind_some]
    simp only [decide_eq_true_iff]
    by_cases h : kd bs z (plc bs z i) = 43
    · rw [if_pos h, if_pos n10, gL_sg (c := 43) hm.1 (by decide) h, if_neg (show ¬ ¬ lg_cmp (Int32.toInt64 43) 43 = 0 from fun q => q lg_43), if_pos (.inl h), if_pos h]
      cases F9_next B with
      | none => rfl
      | some r =>
        rw [Option.bind_some, Option.bind_some]
        cases S3 fu 4 r.2 with
        | none => rfl
        | some r8 =>
          rw [Option.bind_some, Option.bind_some, if_neg n10]
          rw [two_13]
    · rw [if_neg h, if_neg (show ¬ ¬ (0 : Int32) = 0 from fun q => q rfl)]
      by_cases h2 : kd bs z (plc bs z i) = 45
      · rw [if_pos h2, if_neg n10, gL_sg (c := 45) hm.1 (by decide) h2, if_pos lg_45, if_pos (.inr h2), if_neg h]
        cases F9_next B with
        | none => rfl
        | some r =>
          rw [Option.bind_some, Option.bind_some]
          cases S3 fu 4 r.2 with
          | none => rfl
          | some r8 =>
            rw [Option.bind_some, Option.bind_some, if_pos trivial]
            rw [two_14]
      · rw [if_neg h2, if_pos rfl, if_neg (fun q => q.elim h h2)]
  · intro g B x hb
    show F9_added_l5_b (S3 fu) _ B x = _
    unfold F9_added_l5_b
    rw [sign_bad hb, Option.bind_some]
    dsimp only
    rw [sign_bad hb]
    rfl
end
