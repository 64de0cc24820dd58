/-! AFTER THE CONSTRUCTORS: the first rule's text is read, and both sides say the same -/
def fr48 : List Int32 := [116, 97, 107, 101, 115, 32, 51, 32, 59, 32, 108, 101, 116, 115, 32, 49, 48, 32, 43, 32, 119, 97, 105, 116, 32, 42, 32, 53, 32, 59, 32, 119, 97, 108, 107, 115, 32, 50, 32, 43, 32, 105, 116, 101, 109, 115, 32, 59]
def b48 : Mem := fun c k => if c = 1 then fr48.getD k 0 else if c = 2 then (if k = 0 then 48 else 0) else 0
set_option maxRecDepth 100000 in
theorem read_48 : (F9_read b48 0 0).map (fun r => r.2 0 30) = some 0 := by decide +kernel
theorem len0 (M : Mem) : FJ0_length_8abf5 M 0 = some (nI 48, M) := by
  unfold FJ0_length_8abf5 FJ0_coder_7d493
  rw [if_neg (by decide), Option.bind_some]
  dsimp only
  rw [show Int32.ofNat (sN 0) >>> ((0 : Int32) &&& 31) = nI 48 by decide +kernel]
theorem lt48 {i : Nat} (h : i < 48) : i = 0 ∨ i = 1 ∨ i = 2 ∨ i = 3 ∨ i = 4 ∨ i = 5 ∨ i = 6 ∨ i = 7 ∨ i = 8 ∨ i = 9 ∨ i = 10 ∨ i = 11 ∨ i = 12 ∨ i = 13 ∨ i = 14 ∨ i = 15 ∨ i = 16 ∨ i = 17 ∨ i = 18 ∨ i = 19 ∨ i = 20 ∨ i = 21 ∨ i = 22 ∨ i = 23 ∨ i = 24 ∨ i = 25 ∨ i = 26 ∨ i = 27 ∨ i = 28 ∨ i = 29 ∨ i = 30 ∨ i = 31 ∨ i = 32 ∨ i = 33 ∨ i = 34 ∨ i = 35 ∨ i = 36 ∨ i = 37 ∨ i = 38 ∨ i = 39 ∨ i = 40 ∨ i = 41 ∨ i = 42 ∨ i = 43 ∨ i = 44 ∨ i = 45 ∨ i = 46 ∨ i = 47 := by omega
theorem char0 (M : Mem) {i : Nat} (h : i < 48) : FJ0_charAt_5068e M 0 (nI i) = some (fr48.getD i 0, M) := by
  rcases lt48 h with rfl | rfl | rfl | rfl | rfl | rfl | rfl | rfl | rfl | rfl | rfl | rfl | rfl | rfl | rfl | rfl | rfl | rfl | rfl | rfl | rfl | rfl | rfl | rfl | rfl | rfl | rfl | rfl | rfl | rfl | rfl | rfl | rfl | rfl | rfl | rfl | rfl | rfl | rfl | rfl | rfl | rfl | rfl | rfl | rfl | rfl | rfl | rfl <;> rfl
theorem byt0 {i : Nat} (h : i < 48) : 0 ≤ (fr48.getD i 0).toInt ∧ (fr48.getD i 0).toInt ≤ 255 := by
  rcases lt48 h with rfl | rfl | rfl | rfl | rfl | rfl | rfl | rfl | rfl | rfl | rfl | rfl | rfl | rfl | rfl | rfl | rfl | rfl | rfl | rfl | rfl | rfl | rfl | rfl | rfl | rfl | rfl | rfl | rfl | rfl | rfl | rfl | rfl | rfl | rfl | rfl | rfl | rfl | rfl | rfl | rfl | rfl | rfl | rfl | rfl | rfl | rfl | rfl <;> decide
theorem text0 (N : Mem) {i : Nat} (h : i < 48) : up2 (up2 (ms15 N) 2 0 (48 : Int32)) 0 3 (1 : Int32) 1 i = fr48.getD i 0 := by
  rcases lt48 h with rfl | rfl | rfl | rfl | rfl | rfl | rfl | rfl | rfl | rfl | rfl | rfl | rfl | rfl | rfl | rfl | rfl | rfl | rfl | rfl | rfl | rfl | rfl | rfl | rfl | rfl | rfl | rfl | rfl | rfl | rfl | rfl | rfl | rfl | rfl | rfl | rfl | rfl | rfl | rfl | rfl | rfl | rfl | rfl | rfl | rfl | rfl | rfl <;> rfl
def F8fin (M : Mem) : Option (Int32 × Mem) := Option.bind (F3_read M) fun r4 => Option.bind (F4_add r4.2) fun r6 => Option.bind (F3_clear r6.2) fun r8 => some ((0 : Int32), r8.2)
theorem append_A {M : Mem} {i : Nat} (hi : i < 160) (h : M 9 1 = nI i) (a : Int32) : F3_append M a = some (1, up2 (up2 M 10 i a) 9 1 (nI (i + 1))) := by
  unfold F3_append
  rw [h, if_pos (show nI i < (160 : Int32) from nI_lt (b := 160) hi (by decide)), if_pos (inb_of hi (by decide)), nI_clamp (by omega), nI_1]
theorem init_l : ∀ (k fu i : Nat) (A : Mem), i + k = 48 → k < fu → A 9 1 = nI i → (∀ j, j < i → A 10 j = fr48.getD j 0) → ∃ A2, F8_init_l118 fu A (nI i) = F8fin A2 ∧ A2 9 1 = nI 48 ∧ (∀ j, j < 48 → A2 10 j = fr48.getD j 0) ∧ FA [9, 10] A A2 := by
  intro k
  induction k with
  | zero =>
    intro fu i A hk hf h1 h2
    obtain ⟨fu, rfl⟩ : ∃ f, fu = f + 1 := ⟨fu - 1, by omega⟩
    obtain rfl : i = 48 := by omega
    refine ⟨A, ?_, h1, h2, FA.rf⟩
    show F8_init_l118_b (F8_init_l118 fu) A (nI 48) = _
    unfold F8_init_l118_b
    rw [len0, Option.bind_some]
    dsimp only
    rw [if_pos (show nI 48 ≤ nI 48 from nI_le (Nat.le_refl _) (by decide))]
    rfl
  | succ k ih =>
    intro fu i A hk hf h1 h2
    obtain ⟨fu, rfl⟩ : ∃ f, fu = f + 1 := ⟨fu - 1, by omega⟩
    obtain ⟨A2, e1, e2, e3, e4⟩ := ih fu (i + 1) (up2 (up2 A 10 i (fr48.getD i 0)) 9 1 (nI (i + 1))) (by omega) (by omega) up2_at (fun j hj => by
      rw [up2_ne (by decide)]
      by_cases e : j = i
      · subst e; rw [up2_at]
      · rw [up2_nk e]; exact h2 j (by omega))
    refine ⟨A2, ?_, e2, e3, fun c hc => ?_⟩
    · show F8_init_l118_b (F8_init_l118 fu) A (nI i) = _
      unfold F8_init_l118_b
      rw [len0, Option.bind_some]
      dsimp only
      rw [if_neg (show ¬ nI 48 ≤ nI i from fun q => by
        have q2 := Int32.le_iff_toInt_le.mp q
        rw [nI_toInt (by decide), nI_toInt (by omega)] at q2
        omega), char0 A (by omega), Option.bind_some]
      dsimp only
      rw [append_A (by omega) h1, Option.bind_some]
      dsimp only
      rw [nI_1]
      exact e1
    · have hc' : c ≠ 9 ∧ c ≠ 10 := by simpa using hc
      rw [e4 c hc, up2_ne hc'.1, up2_ne hc'.2]
theorem init_R (M N : Mem) (hN : N 0 = fun _ => 0) : ∃ v A', F8_init (mk8_8 M) = some (v, A') ∧ RR A' (up2 (up2 (ms15 N) 2 0 (48 : Int32)) 0 3 (1 : Int32)) := by
  obtain ⟨A2, e1, e2, e3, e4⟩ := init_l 48 FUEL 0 (mk8_8 M) rfl (by unfold FUEL; omega) (rfl : mk8_8 M 9 1 = 0) (fun j hj => absurd hj (by omega))
  have hby : ∀ i, i < 48 → 0 ≤ (A2 10 i).toInt ∧ (A2 10 i).toInt ≤ 255 := fun i h => by rw [e3 i h]; exact byt0 h
  obtain ⟨A1, B3, v, r1, r2, r3, r4, r5, r6⟩ := read_sim (z := 48) (bs := A2 10) (t := 0) (A := A2) (B := b48) (w := 0) (by decide) hby e2 rfl (by decide) (fun j hj => by rw [e3 j hj, Nat.mul_zero, Nat.zero_add]; rfl) rfl (by decide)
  have hok : A1 9 8 = -1 := by
    rcases r6 with ⟨g1, -, -⟩ | ⟨f, -, -, g, -⟩
    · exact g1
    · have h := read_48
      have r2' : F9_read b48 0 0 = some (v, B3) := r2
      rw [r2'] at h
      have h2 : B3 0 30 = 0 := Option.some.inj h
      rw [g] at h2
      exact absurd h2 (by decide)
  have q16 : A1 16 = mk8_8 M 16 := (r3 16 (by decide)).trans (e4 16 (by decide))
  obtain ⟨A3, s1, s2, s3, s4, s5, s6⟩ := add_A (M := A1) (m := 0) (by decide) (by rw [q16]; rfl)
  have eF : F8_init (mk8_8 M) = some (0, up2 A3 9 1 0) := by
    unfold F8_init
    rw [show (0 : Int32) = nI 0 from rfl, e1]
    unfold F8fin F3_clear
    rw [r1, Option.bind_some]
    dsimp only
    rw [s1, Option.bind_some, Option.bind_some]
    rfl
  have fr : ∀ c, c < 9 ∨ (18 < c ∧ c < 25) ∨ 25 < c → up2 A3 9 1 0 c = mk8_8 M c := fun c hc => by
    rw [up2_ne (by omega), s6 c (by simp; omega), r3 c (by simp; omega), e4 c (by simp; omega)]
  have hTX : TX (up2 A3 9 1 0) (up2 (up2 (ms15 N) 2 0 (48 : Int32)) 0 3 (1 : Int32)) 0 := TX.of (z := 48) (A := A2) (A1 := A1) (by decide) hby e2 r1 hok (by decide) (fun j hj => by rw [Nat.mul_zero, Nat.zero_add, e3 j hj]; exact text0 N hj) rfl (fun j hj => by rw [up2_ne (by decide)]; exact s4 j hj) (fun j hj => by rw [up2_ne (by decide)]; exact s5 j hj)
  have b0 : ∀ k, k ≠ 3 → k ≠ 47 → up2 (up2 (ms15 N) 2 0 (48 : Int32)) 0 3 (1 : Int32) 0 k = 0 := fun k h3 h47 => by
    rw [up2_nk h3, up2_ne (by decide)]
    have h1 : ms15 N 0 k = up2 N 0 47 (-1) 0 k := rfl
    rw [h1, up2_nk h47, hN]
  refine ⟨0, up2 A3 9 1 0, eF, 0, 0, 0, 0, 1, 0, ?_, ?_, ?_, ?_, ?_, ?_⟩
  · refine RL.cong (A := mk8_8 M) (B := fun _ _ => 0) ⟨by decide, by decide, rfl, rfl, rfl, rfl, rfl, fun i hi => ⟨rfl, rfl, rfl, ?_, ?_, ?_⟩⟩ (fr 1 (by omega)) (fr 2 (by omega)) (fr 3 (by omega)) (fr 4 (by omega)) (b0 10 (by decide) (by decide)) (b0 11 (by decide) (by decide)) (b0 12 (by decide) (by decide)) rfl rfl rfl
    · exact (by decide : 0 ≤ (0 : Int32).toInt ∧ (0 : Int32).toInt ≤ 5)
    · exact (by decide : 0 ≤ (0 : Int32).toInt ∧ (0 : Int32).toInt ≤ 40)
    · exact (by decide : 0 ≤ (0 : Int32).toInt ∧ (0 : Int32).toInt ≤ 9)
  · refine RG.cong (A := mk8_8 M) (B := fun _ _ => 0) ⟨by decide, rfl, rfl, fun i hi => ⟨rfl, rfl, rfl, ?_, ?_, ?_⟩⟩ (fr 5 (by omega)) (fr 6 (by omega)) (fr 7 (by omega)) (fr 8 (by omega)) (b0 16 (by decide) (by decide)) rfl rfl rfl
    · exact (by decide : 0 ≤ (0 : Int32).toInt ∧ (0 : Int32).toInt ≤ 99)
    · exact (by decide : 0 ≤ (0 : Int32).toInt ∧ (0 : Int32).toInt ≤ 99)
    · exact (by decide : 0 ≤ (0 : Int32).toInt ∧ (0 : Int32).toInt ≤ 100)
  · exact ⟨by decide, up2_at, b0 6 (by decide) (by decide), fun i hi => absurd hi (by omega)⟩
  · intro s hs
    refine .inl ⟨?_, rfl⟩
    rw [fr 43 (by omega)]
    rcases (show s = 0 ∨ s = 1 ∨ s = 2 ∨ s = 3 by omega) with rfl | rfl | rfl | rfl <;> rfl
  · refine .inl ⟨?_, rfl⟩
    rw [fr 50 (by omega)]
    rfl
  · refine ⟨by decide, by decide, ?_, rfl, ?_, b0 4 (by decide) (by decide), fun t ht => ?_⟩
    · rw [up2_ne (by decide)]; exact s2
    · rw [up2_ne (by decide), s3 6 (by decide), q16]; rfl
    · obtain rfl : t = 0 := by omega
      exact hTX
