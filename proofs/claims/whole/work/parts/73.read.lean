/-! TEXTS: a text read on both sides -/
section
variable {bs : Nat → Int32} {z t m : Nat}
theorem S1_fault {f o : Nat} {A : Mem} (h : CF A f) : ∀ (n fu k : Nat), k ≤ 5 → 6 - k ≤ n → n ≤ fu → S1 fu k (nI o) A = some (0, A) := by
  intro n
  induction n with
  | zero => intro fu k hk h1 h2; omega
  | succ n ih =>
    intro fu k hk h1 h2
    obtain ⟨fu, rfl⟩ : ∃ f, fu = f + 1 := ⟨fu - 1, by omega⟩
    have ne : ∀ w : Int32, ¬ w = -2 → ¬ A 9 7 = w := fun w hw e => hw (by rw [← e]; exact h.1)
    rcases (show k = 0 ∨ k = 1 ∨ k = 2 ∨ k = 3 ∨ k = 4 ∨ k = 5 by omega) with rfl | rfl | rfl | rfl | rfl | rfl
    · show F3_readOr (S1 fu) A (nI o) = _
      unfold F3_readOr
      rw [ih fu 1 (by omega) (by omega) (by omega), Option.bind_some]
      show F3_readOr_l7_b (S1 fu) _ A (nI o) 0 = _
      unfold F3_readOr_l7_b
      rw [if_neg (by decide), if_pos (ne _ (by decide))]
    · show F3_readAnd (S1 fu) A (nI o) = _
      unfold F3_readAnd
      rw [ih fu 2 (by omega) (by omega) (by omega), Option.bind_some]
      show F3_readAnd_l7_b (S1 fu) _ A (nI o) 0 = _
      unfold F3_readAnd_l7_b
      rw [if_neg (by decide), if_pos (ne _ (by decide))]
    · show F3_readNot (S1 fu) A (nI o) = _
      unfold F3_readNot
      rw [if_pos (ne _ (by decide)), ih fu 3 (by omega) (by omega) (by omega), Option.bind_some, if_neg (ne _ (by decide)), if_pos (ne _ (by decide))]
    · show F3_readSum (S1 fu) A (nI o) = _
      unfold F3_readSum
      rw [ih fu 4 (by omega) (by omega) (by omega), Option.bind_some]
      show F3_readSum_l7_b (S1 fu) _ A (nI o) 0 = _
      unfold F3_readSum_l7_b
      rw [if_neg (by decide), if_neg (ne _ (by decide)), if_pos (ne _ (by decide))]
    · show F3_readTerm (S1 fu) A (nI o) = _
      unfold F3_readTerm
      rw [ih fu 5 (by omega) (by omega) (by omega), Option.bind_some]
      show F3_readTerm_l7_b (S1 fu) _ A (nI o) 0 = _
      unfold F3_readTerm_l7_b
      rw [if_neg (by decide), if_pos (ne _ (by decide))]
    · show F3_readOne (S1 fu) A (nI o) = _
      unfold F3_readOne
      rw [if_neg (ne _ (by decide)), if_pos (ne _ (by decide)), if_pos (ne _ (by decide)), if_pos (ne _ (by decide)), h.fail]
      rfl
theorem CF.exp {A : Mem} {f : Nat} (h : CF A f) {w : Int32} (hw : ¬ w = -2) : F3_expect A w = some (0, A) := by
  unfold F3_expect
  rw [if_pos (fun e => hw (by rw [← e]; exact h.1)), h.fail]
  rfl
theorem CF.up15 {A : Mem} {f k : Nat} {v : Int32} (h : CF A f) : CF (up2 A 15 k v) f := by
  unfold CF at *
  rw [up2_ne (show (9 : Nat) ≠ 15 by decide)]
  exact h
theorem CS.up15 {A : Mem} {i L k : Nat} {v : Int32} (h : CS bs z m A i L) : CS bs z m (up2 A 15 k v) i L := by
  unfold CS LX at *
  rw [up2_ne (show (9 : Nat) ≠ 15 by decide), up2_ne (show (10 : Nat) ≠ 15 by decide), up2_ne (show (11 : Nat) ≠ 15 by decide), up2_ne (show (12 : Nat) ≠ 15 by decide), up2_ne (show (13 : Nat) ≠ 15 by decide)]
  exact h
theorem part_fault {A : Mem} {f p : Nat} (h : CF A f) (hp : p < 4) {w : Int32} (hw : ¬ w = -2) : F3_readPart A (nI p) w = some (0, up2 A 15 p (A 9 10)) := by
  unfold F3_readPart
  rw [if_pos (inb_of hp (by decide)), nI_clamp (by omega), (CF.up15 h).exp hw, Option.bind_some]
  dsimp only
  rw [show S1 80 0 (0 : Int32) (up2 A 15 p (A 9 10)) = some (0, up2 A 15 p (A 9 10)) from S1_fault (o := 0) (CF.up15 h) 6 80 0 (by decide) (by decide) (by decide), Option.bind_some]
  dsimp only
  rw [(CF.up15 h).exp (by decide)]
  rfl
/-- a part of a text on both sides; q: its key -/
theorem part_sim (hz : z ≤ 160) {A B : Mem} {i L p j : Nat} (hp : p < 4) (hj : j < 12) (hj6 : 6 ≤ j) (hc : CS bs z m A i L) (hm : MS bs z t B i 0) : ∃ A' B' v, F3_readPart A (nI p) (-5 - nI j) = some (0, A') ∧ (Option.bind (F9_isWord B (wL j 0) (wL j 1) (wL j 2) (wL j 3) (wL j 4) (wL j 5) (wL j 6) (wL j 7)) fun r4 => F9_part r4.2 r4.1) = some (v, B') ∧ FA [9, 14, 15] A A' ∧ (∀ k, k ≠ 6 → k ≠ 7 → k ≠ 8 → k ≠ 10 → A' 9 k = A 9 k) ∧ A' 15 = up2 A 15 p (nI L) 15 ∧ MFr B B' ∧ ((∃ i' L', CS bs z m A' i' L' ∧ MS bs z t B' i' 0 ∧ L ≤ L' ∧ (∀ j, j < L → A' 14 j = A 14 j) ∧ ∀ st, exe (nmB B) (A' 14) (L' - L) L st = some (v :: st)) ∨ ∃ f, CF A' f ∧ MF B' f) := by
  have hc0 := hc.up15 (k := p) (v := nI L)
  have c10 : A 9 10 = nI L := hc.2.2.2.2.2.1
  obtain ⟨n1, n2, n3, n4⟩ := key_no j hj hj6
  have eA : F3_readPart A (nI p) (-5 - nI j) = Option.bind (F3_expect (up2 A 15 p (nI L)) (-5 - nI j)) fun r2 => Option.bind (S1 80 0 (0 : Int32) r2.2) fun r4 => Option.bind (F3_expect r4.2 (59 : Int32)) fun r6 => some ((0 : Int32), r6.2) := by
    unfold F3_readPart
    rw [if_pos (inb_of hp (by decide)), nI_clamp (by omega), c10]
  have fr : ∀ A', CFr (up2 A 15 p (nI L)) A' → FA [9, 14, 15] A A' ∧ (∀ k, k ≠ 6 → k ≠ 7 → k ≠ 8 → k ≠ 10 → A' 9 k = A 9 k) ∧ A' 15 = up2 A 15 p (nI L) 15 := fun A' f => ⟨fun c hc => by
    simp only [List.mem_cons, List.not_mem_nil, or_false, not_or] at hc
    rw [f.1 c hc.1 hc.2.1, up2_ne hc.2.2], fun k a b c d => by rw [f.2 k a b c d, up2_ne (by decide)], f.1 15 (by decide) (by decide)⟩
  have p14 : up2 A 15 p (nI L) 14 = A 14 := up2_ne (by decide)
  rw [eA, key_B hm.1 hj hj6, Option.bind_some]
  unfold F9_part F9_part_j8 F9_part_j19 F9_part_j34 F9_part_j48
  by_cases hk : kd bs z (plc bs z i) = -5 - nI j
  · have k1 : ¬ kd bs z (plc bs z i) = -1 := by rw [hk]; exact fun e => n1 e.symm
    have k2 : ¬ kd bs z (plc bs z i) = -2 := by rw [hk]; exact fun e => n2 e.symm
    obtain ⟨A1, a1, a2, a3, a4⟩ := adv hc0 k1 k2
    obtain ⟨B1, b1, b2, b3⟩ := nxt hm k1 k2
    obtain ⟨A2, B2, v, s1, s2, s3, s4, s5⟩ := SIM_all (t := t) (m := m) hz 36 80 0 0 (by decide) (by decide) (by decide) (by decide) (i + 1) L A1 B1 a2 b2
    have s1' : S1 80 0 (0 : Int32) A1 = some (0, A2) := s1
    have e1 : F3_expect (up2 A 15 p (nI L)) (-5 - nI j) = some (0, A1) := by
      unfold F3_expect
      rw [if_neg (show ¬ ¬ up2 A 15 p (nI L) 9 7 = -5 - nI j from fun q => q (by rw [hc0.2.2.2.1]; exact hk)), a1]
      rfl
    rw [e1, if_pos hk, if_pos n10, if_neg (show ¬ ¬ B 0 30 = 0 from fun q => q hm.1.2.2.1), b1, Option.bind_some, Option.bind_some]
    dsimp only
    rw [s1', Option.bind_some, if_pos b2.1.2.2.1, s2, Option.bind_some]
    dsimp only
    rcases s5 with ⟨i2, L2, q1, q2, q3, q4, q5, q6, q7⟩ | ⟨f, q1, q2⟩
    · rw [b3.nm] at q7
      rw [sign_B q3.1 (show isG 59 = true by decide)]
      by_cases k59 : kd bs z (plc bs z i2) = 59
      · obtain ⟨A3, g1, g2, g3, g4⟩ := adv q2 (by rw [k59]; decide) (by rw [k59]; decide)
        obtain ⟨B3, g5, g6, g7⟩ := nxt q3 (by rw [k59]; decide) (by rw [k59]; decide)
        have e2 : F3_expect A2 59 = some (0, A3) := by
          unfold F3_expect
          rw [if_neg (show ¬ ¬ A2 9 7 = 59 from fun q => q (by rw [q2.2.2.2.1]; exact k59)), g1]
          rfl
        rw [e2, if_pos k59, Option.bind_some, Option.bind_some, if_pos n10]
        dsimp only
        rw [if_neg (show ¬ ¬ B2 0 30 = 0 from fun q => q q3.1.2.2.1), g5]
        obtain ⟨w1, w2, w3⟩ := fr A3 ((a3.tr s3).tr g3)
        exact ⟨A3, B3, v, rfl, rfl, w1, w2, w3, (b3.tr s4).tr g7, .inl ⟨i2 + 1, L2, g2, g6, by omega, fun j hj => by rw [g4, q6 j hj, a4, p14], fun st => by rw [g4]; exact q7 st⟩⟩
      · obtain ⟨A3, g1, g2, g3, g4⟩ := q2.fail hz
        obtain ⟨g5, g6, g7⟩ := q3.fail
        have e2 : F3_expect A2 59 = some (0, A3) := by
          unfold F3_expect
          rw [if_pos (show ¬ A2 9 7 = 59 by rw [q2.2.2.2.1]; exact k59), g1]
          rfl
        rw [e2, if_neg k59, Option.bind_some, Option.bind_some, if_neg (show ¬ ¬ (0 : Int32) = 0 from fun q => q rfl)]
        dsimp only
        rw [g5, Option.bind_some]
        dsimp only
        rw [if_pos g6.bad]
        obtain ⟨w1, w2, w3⟩ := fr A3 ((a3.tr s3).tr g3)
        exact ⟨A3, _, v, rfl, rfl, w1, w2, w3, (b3.tr s4).tr g7, .inr ⟨_, g2, g6⟩⟩
    · rw [q1.exp (by decide), sign_bad q2.bad, Option.bind_some, Option.bind_some, if_neg (show ¬ ¬ (0 : Int32) = 0 from fun q => q rfl)]
      dsimp only
      rw [fail_bad q2.bad, Option.bind_some]
      dsimp only
      rw [if_pos q2.bad]
      obtain ⟨w1, w2, w3⟩ := fr A2 (a3.tr s3)
      exact ⟨A2, B2, v, rfl, rfl, w1, w2, w3, b3.tr s4, .inr ⟨f, q1, q2⟩⟩
  · obtain ⟨A1, a1, a2, a3, a4⟩ := hc0.fail hz
    obtain ⟨b1, b2, b3⟩ := hm.fail
    have e1 : F3_expect (up2 A 15 p (nI L)) (-5 - nI j) = some (0, A1) := by
      unfold F3_expect
      rw [if_pos (show ¬ up2 A 15 p (nI L) 9 7 = -5 - nI j by rw [hc0.2.2.2.1]; exact hk), a1]
      rfl
    rw [e1, if_neg hk, if_neg (show ¬ ¬ (0 : Int32) = 0 from fun q => q rfl), Option.bind_some]
    dsimp only
    rw [show S1 80 0 (0 : Int32) A1 = some (0, A1) from S1_fault (o := 0) a2 6 80 0 (by decide) (by decide) (by decide), Option.bind_some]
    dsimp only
    rw [a2.exp (by decide), b1, Option.bind_some, Option.bind_some]
    dsimp only
    rw [if_pos b2.bad, if_neg b2.bad, sign_bad b2.bad, Option.bind_some, if_neg (show ¬ ¬ (0 : Int32) = 0 from fun q => q rfl)]
    dsimp only
    rw [fail_bad b2.bad, Option.bind_some]
    dsimp only
    rw [if_pos b2.bad]
    obtain ⟨w1, w2, w3⟩ := fr A1 a3
    exact ⟨A1, failB B, 0, rfl, rfl, w1, w2, w3, b3, .inr ⟨_, a2, b2⟩⟩
end
