theorem back_l6 (B : Mem) : ∀ (k fu i : Nat) (M : Mem), i + k = 6 → k < fu → (∀ c, c ≠ 7 → c ≠ 8 → c ≠ 9 → M c = B c) → (∀ j, j < i → M 7 j = B 16 j ∧ M 8 j = B 16 (6 + j) ∧ M 9 j = B 16 (12 + j)) → ∃ M', F9_back_l65 fu M (nI i) = some (B 0 47, M') ∧ FB [7, 8, 9] [10, 16, 11, 4] B M' ∧ M' 0 10 = B 0 47 ∧ M' 0 16 = B 0 48 ∧ M' 0 11 = B 0 49 ∧ M' 0 4 = B 0 51 ∧ ∀ j, j < 6 → M' 7 j = B 16 j ∧ M' 8 j = B 16 (6 + j) ∧ M' 9 j = B 16 (12 + j) := by
  intro k
  induction k with
  | zero =>
    intro fu i M hk hf hF hlo
    obtain ⟨fu, rfl⟩ : ∃ f, fu = f + 1 := ⟨fu - 1, by omega⟩
    obtain rfl : i = 6 := by omega
    have e0 : M 0 = B 0 := hF 0 (by decide) (by decide) (by decide)
    refine ⟨up2 (up2 (up2 (up2 M 0 10 (B 0 47)) 0 16 (B 0 48)) 0 11 (B 0 49)) 0 4 (B 0 51), show F9_back_l65_b _ M (nI 6) = _ from ?_, ⟨fun c hc h2 => ?_, fun s hs => ?_⟩, ?_, ?_, ?_, ?_, ?_⟩
    · unfold F9_back_l65_b
      rw [if_pos (by decide), e0]
    · simp only [List.mem_cons, List.not_mem_nil, or_false, not_or] at h2
      rw [up2_ne hc, up2_ne hc, up2_ne hc, up2_ne hc]
      exact hF c h2.1 h2.2.1 h2.2.2
    · simp only [List.mem_cons, List.not_mem_nil, or_false, not_or] at hs
      rw [up2_nk (by omega), up2_nk (by omega), up2_nk (by omega), up2_nk (by omega), e0]
    · rw [up2_nk (by decide), up2_nk (by decide), up2_nk (by decide), up2_at]
    · rw [up2_nk (by decide), up2_nk (by decide), up2_at]
    · rw [up2_nk (by decide), up2_at]
    · rw [up2_at]
    · intro j hj
      rw [up2_ne (show (7 : Nat) ≠ 0 by decide), up2_ne (show (7 : Nat) ≠ 0 by decide), up2_ne (show (7 : Nat) ≠ 0 by decide), up2_ne (show (7 : Nat) ≠ 0 by decide), up2_ne (show (8 : Nat) ≠ 0 by decide), up2_ne (show (8 : Nat) ≠ 0 by decide), up2_ne (show (8 : Nat) ≠ 0 by decide), up2_ne (show (8 : Nat) ≠ 0 by decide), up2_ne (show (9 : Nat) ≠ 0 by decide), up2_ne (show (9 : Nat) ≠ 0 by decide), up2_ne (show (9 : Nat) ≠ 0 by decide), up2_ne (show (9 : Nat) ≠ 0 by decide)]
      exact hlo j hj
  | succ k ih =>
    intro fu i M hk hf hF hlo
    obtain ⟨fu, rfl⟩ : ∃ f, fu = f + 1 := ⟨fu - 1, by omega⟩
    have e16 : M 16 = B 16 := hF 16 (by decide) (by decide) (by decide)
    obtain ⟨M', e, hh⟩ := ih fu (i + 1) (up2 (up2 (up2 M 7 i (M 16 i)) 8 i (M 16 (6 + i))) 9 i (M 16 (12 + i))) (by omega) (by omega) (fun c h1 h2 h3 => by rw [up2_ne h3, up2_ne h2, up2_ne h1]; exact hF c h1 h2 h3) (fun j hj => by
      rw [e16, up2_ne (show (7 : Nat) ≠ 9 by decide), up2_ne (show (7 : Nat) ≠ 8 by decide), up2_ne (show (8 : Nat) ≠ 9 by decide)]
      by_cases ej : j = i
      · subst ej
        exact ⟨up2_at, up2_at, up2_at⟩
      · rw [up2_nk ej, up2_nk ej, up2_nk ej, up2_ne (show (8 : Nat) ≠ 7 by decide), up2_ne (show (9 : Nat) ≠ 8 by decide), up2_ne (show (9 : Nat) ≠ 7 by decide)]
        exact hlo j (by omega))
    refine ⟨M', ?_, hh⟩
    show F9_back_l65_b _ M (nI i) = _
    unfold F9_back_l65_b
    rw [show (6 : Int32) = nI 6 from rfl, show (12 : Int32) = nI 12 from rfl, if_neg (nI_ge (by omega) (by omega)), nI_add, nI_add, if_pos (inb_of (by omega) (by decide)), if_pos (inb_of (by omega) (by decide)), if_pos (inb_of (by omega) (by decide)), if_pos (inb_of (by omega) (by decide)), nI_clamp (by omega), nI_clamp (by omega), nI_clamp (by omega), nI_1]
    exact e
theorem back_l8 (B : Mem) : ∀ (k fu i : Nat) (M : Mem), i + k = 8 → k < fu → (∀ c, c ≠ 5 → c ≠ 6 → M c = B c) → (∀ j, j < i → M 5 j = B 15 j ∧ M 6 j = B 15 (8 + j)) → ∃ M', F9_back_l24 fu M (nI i) = some (B 0 47, M') ∧ FB [5, 6, 7, 8, 9] [10, 16, 11, 4] B M' ∧ M' 0 10 = B 0 47 ∧ M' 0 16 = B 0 48 ∧ M' 0 11 = B 0 49 ∧ M' 0 4 = B 0 51 ∧ (∀ j, j < 6 → M' 7 j = B 16 j ∧ M' 8 j = B 16 (6 + j) ∧ M' 9 j = B 16 (12 + j)) ∧ ∀ j, j < 8 → M' 5 j = B 15 j ∧ M' 6 j = B 15 (8 + j) := by
  intro k
  induction k with
  | zero =>
    intro fu i M hk hf hF hlo
    obtain ⟨fu, rfl⟩ : ∃ f, fu = f + 1 := ⟨fu - 1, by omega⟩
    obtain rfl : i = 8 := by omega
    have e0 : M 0 = B 0 := hF 0 (by decide) (by decide)
    have e16 : M 16 = B 16 := hF 16 (by decide) (by decide)
    obtain ⟨M', e, h1, k1, k2, k3, k4, k5⟩ := back_l6 M 6 FUEL 0 M (by omega) (by unfold FUEL; omega) (fun _ _ _ _ => rfl) (fun j hj => absurd hj (by omega))
    rw [e0] at e k1 k2 k3 k4
    rw [e16] at k5
    refine ⟨M', e, ⟨fun c hc h2 => ?_, fun s hs => by rw [h1.2 s hs, e0]⟩, k1, k2, k3, k4, k5, fun j hj => ?_⟩
    · simp only [List.mem_cons, List.not_mem_nil, or_false, not_or] at h2
      rw [h1.1 c hc (by simp only [List.mem_cons, List.not_mem_nil, or_false, not_or]; omega), hF c h2.1 h2.2.1]
    · rw [h1.1 5 (by decide) (by decide), h1.1 6 (by decide) (by decide)]
      exact hlo j hj
  | succ k ih =>
    intro fu i M hk hf hF hlo
    obtain ⟨fu, rfl⟩ : ∃ f, fu = f + 1 := ⟨fu - 1, by omega⟩
    have e15 : M 15 = B 15 := hF 15 (by decide) (by decide)
    obtain ⟨M', e, hh⟩ := ih fu (i + 1) (up2 (up2 M 5 i (M 15 i)) 6 i (M 15 (8 + i))) (by omega) (by omega) (fun c h1 h2 => by rw [up2_ne h2, up2_ne h1]; exact hF c h1 h2) (fun j hj => by
      rw [e15, up2_ne (show (5 : Nat) ≠ 6 by decide)]
      by_cases ej : j = i
      · subst ej
        exact ⟨up2_at, up2_at⟩
      · rw [up2_nk ej, up2_nk ej, up2_ne (show (6 : Nat) ≠ 5 by decide)]
        exact hlo j (by omega))
    refine ⟨M', ?_, hh⟩
    show F9_back_l24_b _ M (nI i) = _
    unfold F9_back_l24_b
    rw [show (8 : Int32) = nI 8 from rfl, if_neg (nI_ge (by omega) (by omega)), nI_add, if_pos (inb_of (by omega) (by decide)), if_pos (inb_of (by omega) (by decide)), if_pos (inb_of (by omega) (by decide)), nI_clamp (by omega), nI_clamp (by omega), nI_1]
    exact e
theorem back_R {m n o t r : Nat} {A B : Mem} (h : RL n o A B) (g : RG t A B) (hI : RI m A B) (hr : A 16 6 = nI r) (hs : B 0 4 = nI r) (hrm : r < m) : ∃ v A' B' n' o' t' r', F8_back A = some (v, A') ∧ F9_back B = some (v, B') ∧ RL n' o' A' B' ∧ RG t' A' B' ∧ A' 16 6 = nI r' ∧ B' 0 4 = nI r' ∧ r' < m ∧ FA [1, 3, 4, 5, 6, 7, 8, 16] A A' ∧ (∀ k, k ≠ 6 → A' 16 k = A 16 k) ∧ FB [5, 6, 7, 8, 9] [10, 16, 11, 4] B B' := by
  have hno : F8_back A = some (-3, A) → F9_back B = some (-3, B) → ∃ v A' B' n' o' t' r', F8_back A = some (v, A') ∧ F9_back B = some (v, B') ∧ RL n' o' A' B' ∧ RG t' A' B' ∧ A' 16 6 = nI r' ∧ B' 0 4 = nI r' ∧ r' < m ∧ FA [1, 3, 4, 5, 6, 7, 8, 16] A A' ∧ (∀ k, k ≠ 6 → A' 16 k = A 16 k) ∧ FB [5, 6, 7, 8, 9] [10, 16, 11, 4] B B' := fun e1 e2 => ⟨-3, A, B, n, o, t, r, e1, e2, h, g, hr, hs, hrm, FA.rf, fun _ _ => rfl, FB.rf⟩
  rcases hI with ⟨i1, i2⟩ | ⟨i0, n', o', t', r', a1, a2, a3, a4, a5, a6, a7, a8, a9, b1, b2, b3, b4, b5, b6⟩
  · refine hno ?_ ?_
    · unfold F8_back; rw [if_pos i1]
    · unfold F9_back; rw [if_pos i2]
  · have hm1 : ¬ B 0 47 = -1 := by rw [a7]; exact nI_m1 (by omega)
    have hz : ¬ A 50 0 = 0 := by rw [i0]; decide
    obtain ⟨h8, hon, hA, hB, hoA, hoB, hg, hi⟩ := h
    by_cases hgo : A 50 1 = A 1 5
    · obtain ⟨B', e, f, k1, k2, k3, k4, k6, k7⟩ := back_l8 B 8 FUEL 0 B (by omega) (by unfold FUEL; omega) (fun _ _ _ => rfl) (fun j hj => absurd hj (by omega))
      rw [a7] at e k1
      rw [b4] at k2
      rw [a9] at k3
      rw [b2] at k4
      have c8 : ∀ (f g : Nat → Int32) (i : Nat), i < 8 → va_cpy f g 0 0 8 i = f i := fun f g i hi => by rw [pk_cpy_in (by omega) (by omega)]; congr 1; omega
      have c6 : ∀ (f g : Nat → Int32) (i : Nat), i < 6 → va_cpy f g 0 0 6 i = f i := fun f g i hi => by rw [pk_cpy_in (by omega) (by omega)]; congr 1; omega
      refine ⟨nI n', upA (upA (upA (upA (upA (up2 (up2 (up2 (up2 A 1 3 (A 50 2)) 1 4 (A 50 3)) 16 6 (A 50 4)) 5 3 (A 50 5)) 3 (va_cpy (A 51) (A 3) 0 0 8)) 4 (va_cpy (A 52) (A 4) 0 0 8)) 6 (va_cpy (A 53) (A 6) 0 0 6)) 7 (va_cpy (A 54) (A 7) 0 0 6)) 8 (va_cpy (A 55) (A 8) 0 0 6), B', n', o', t', r', ?_, ?_, ⟨a1, a2, ?_, k1, ?_, k3, ?_, ?_⟩, ⟨a3, ?_, k2, ?_⟩, ?_, k4, a4, ?_, ?_, f⟩
      · unfold F8_back F1_restore
        rw [if_neg hz, if_pos hgo, Option.bind_some]
        simp [upA, up2, a6]
      · unfold F9_back
        rw [if_neg hm1, if_pos (show B 0 50 = B 0 12 by rw [← a5, hgo, hg])]
        exact e
      · simp [upA, up2]; exact a6
      · simp [upA, up2]; exact a8
      · simp [upA, up2]; rw [hg, f.2 12 (by decide)]
      · intro i hin
        simp only [upA_at, upA_ne (show (2 : Nat) ≠ 3 by decide), upA_ne (show (2 : Nat) ≠ 4 by decide), upA_ne (show (2 : Nat) ≠ 6 by decide), upA_ne (show (2 : Nat) ≠ 7 by decide), upA_ne (show (2 : Nat) ≠ 8 by decide), up2_ne (show (2 : Nat) ≠ 1 by decide), up2_ne (show (2 : Nat) ≠ 5 by decide), up2_ne (show (2 : Nat) ≠ 16 by decide), upA_ne (show (3 : Nat) ≠ 4 by decide), upA_ne (show (3 : Nat) ≠ 6 by decide), upA_ne (show (3 : Nat) ≠ 7 by decide), upA_ne (show (3 : Nat) ≠ 8 by decide), upA_ne (show (4 : Nat) ≠ 6 by decide), upA_ne (show (4 : Nat) ≠ 7 by decide), upA_ne (show (4 : Nat) ≠ 8 by decide), c8 _ _ i hin]
        obtain ⟨p1, p2⟩ := k7 i hin
        obtain ⟨q1, q2, q3, q4⟩ := b5 i hin
        obtain ⟨u1, u2, u3, u4, u5, u6⟩ := hi i hin
        rw [p1, p2, f.1 4 (by decide) (by decide)]
        exact ⟨u1, q1, q2, u4, q3, q4⟩
      · simp [upA, up2]; exact b3
      · intro i hin
        simp only [upA_at, upA_ne (show (6 : Nat) ≠ 7 by decide), upA_ne (show (6 : Nat) ≠ 8 by decide), upA_ne (show (7 : Nat) ≠ 8 by decide), c6 _ _ i hin]
        obtain ⟨p1, p2, p3⟩ := k6 i hin
        obtain ⟨q1, q2, q3, q4⟩ := b6 i hin
        rw [p1, p2, p3]
        exact ⟨q1, q2, q3, q4⟩
      · simp [upA, up2]; exact b1
      · intro c hc
        simp only [List.mem_cons, List.not_mem_nil, or_false, not_or] at hc
        rw [upA_ne (by omega), upA_ne (by omega), upA_ne (by omega), upA_ne (by omega), upA_ne (by omega), up2_ne (by omega), up2_ne (by omega), up2_ne (by omega), up2_ne (by omega)]
      · intro k hk
        rw [upA_ne (by decide), upA_ne (by decide), upA_ne (by decide), upA_ne (by decide), upA_ne (by decide), up2_ne (by decide), up2_nk hk, up2_ne (by decide), up2_ne (by decide)]
    · refine hno ?_ ?_
      · unfold F8_back; rw [if_neg hz, if_neg hgo]
      · unfold F9_back; rw [if_neg hm1, if_neg (show ¬ B 0 50 = B 0 12 by rw [← a5, ← hg]; exact hgo)]
