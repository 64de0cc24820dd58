def RI (m : Nat) (A B : Mem) : Prop := (A 50 0 = 0 ∧ B 0 47 = -1) ∨ (A 50 0 = 1 ∧ ∃ n o t r, n ≤ 8 ∧ o ≤ n ∧ t ≤ 6 ∧ r < m ∧ A 50 1 = B 0 50 ∧ A 50 2 = nI n ∧ B 0 47 = nI n ∧ A 50 3 = nI o ∧ B 0 49 = nI o ∧ A 50 4 = nI r ∧ B 0 51 = nI r ∧ A 50 5 = nI t ∧ B 0 48 = nI t ∧ (∀ i, i < 8 → A 51 i = B 15 i ∧ A 52 i = B 15 (8 + i) ∧ (0 ≤ (A 51 i).toInt ∧ (A 51 i).toInt ≤ 40) ∧ 0 ≤ (A 52 i).toInt ∧ (A 52 i).toInt ≤ 9) ∧ ∀ i, i < 6 → A 53 i = B 16 i ∧ A 54 i = B 16 (6 + i) ∧ A 55 i = B 16 (12 + i) ∧ (0 ≤ (A 53 i).toInt ∧ (A 53 i).toInt ≤ 99) ∧ (0 ≤ (A 54 i).toInt ∧ (A 54 i).toInt ≤ 99) ∧ 0 ≤ (A 55 i).toInt ∧ (A 55 i).toInt ≤ 100)
theorem RI.cong {m m' : Nat} {A A' B B' : Mem} (h : RI m A B) (hm : m ≤ m') (h1 : ∀ c, 50 ≤ c → c < 56 → A' c = A c) (k1 : ∀ k, 47 ≤ k → k < 52 → B' 0 k = B 0 k) (k2 : B' 15 = B 15) (k3 : B' 16 = B 16) : RI m' A' B' := by
  unfold RI at *
  rw [h1 50 (by decide) (by decide), h1 51 (by decide) (by decide), h1 52 (by decide) (by decide), h1 53 (by decide) (by decide), h1 54 (by decide) (by decide), h1 55 (by decide) (by decide), k1 47 (by decide) (by decide), k1 48 (by decide) (by decide), k1 49 (by decide) (by decide), k1 50 (by decide) (by decide), k1 51 (by decide) (by decide), k2, k3]
  rcases h with h | ⟨h0, n, o, t, r, a1, a2, a3, a4, a5⟩
  · exact .inl h
  · exact .inr ⟨h0, n, o, t, r, a1, a2, a3, by omega, a5⟩
theorem image_l6 (B : Mem) : ∀ (k fu i : Nat) (M : Mem), i + k = 6 → k < fu → (∀ c, c ≠ 16 → M c = B c) → (∀ j, j < i → M 16 j = B 7 j ∧ M 16 (6 + j) = B 8 j ∧ M 16 (12 + j) = B 9 j) → ∃ M', F9_image_l43 fu M (nI i) = some (B 0 10, M') ∧ FB [16] [47, 48, 49, 50, 51] B M' ∧ M' 0 47 = B 0 10 ∧ M' 0 48 = B 0 16 ∧ M' 0 49 = B 0 11 ∧ M' 0 50 = B 0 12 ∧ M' 0 51 = B 0 4 ∧ ∀ j, j < 6 → M' 16 j = B 7 j ∧ M' 16 (6 + j) = B 8 j ∧ M' 16 (12 + j) = B 9 j := by
  intro k
  induction k with
  | zero =>
    intro fu i M hk hf hF hlo
    obtain ⟨fu, rfl⟩ : ∃ f, fu = f + 1 := ⟨fu - 1, by omega⟩
    obtain rfl : i = 6 := by omega
    have e0 : M 0 = B 0 := hF 0 (by decide)
    refine ⟨_, show F9_image_l43_b _ M (nI 6) = some (B 0 10, up2 (up2 (up2 (up2 (up2 M 0 47 (B 0 10)) 0 48 (B 0 16)) 0 49 (B 0 11)) 0 50 (B 0 12)) 0 51 (B 0 4)) from ?_, ⟨fun c hc h2 => ?_, fun s hs => ?_⟩, ?_, ?_, ?_, ?_, ?_, ?_⟩
    · unfold F9_image_l43_b
      rw [if_pos (by decide), e0]
    · rw [up2_ne hc, up2_ne hc, up2_ne hc, up2_ne hc, up2_ne hc]
      exact hF c (by simpa using h2)
    · simp only [List.mem_cons, List.not_mem_nil, or_false, not_or] at hs
      rw [up2_nk (by omega), up2_nk (by omega), up2_nk (by omega), up2_nk (by omega), up2_nk (by omega), e0]
    · rw [up2_nk (by decide), up2_nk (by decide), up2_nk (by decide), up2_nk (by decide), up2_at]
    · rw [up2_nk (by decide), up2_nk (by decide), up2_nk (by decide), up2_at]
    · rw [up2_nk (by decide), up2_nk (by decide), up2_at]
    · rw [up2_nk (by decide), up2_at]
    · rw [up2_at]
    · intro j hj
      rw [up2_ne (by decide), up2_ne (by decide), up2_ne (by decide), up2_ne (by decide), up2_ne (by decide)]
      exact hlo j hj
  | succ k ih =>
    intro fu i M hk hf hF hlo
    obtain ⟨fu, rfl⟩ : ∃ f, fu = f + 1 := ⟨fu - 1, by omega⟩
    have e7 : M 7 = B 7 := hF 7 (by decide)
    have e8 : M 8 = B 8 := hF 8 (by decide)
    have e9 : M 9 = B 9 := hF 9 (by decide)
    obtain ⟨M', e, hh⟩ := ih fu (i + 1) (up2 (up2 (up2 M 16 i (M 7 i)) 16 (6 + i) (M 8 i)) 16 (12 + i) (M 9 i)) (by omega) (by omega) (fun c hc => by rw [up2_ne hc, up2_ne hc, up2_ne hc]; exact hF c hc) (fun j hj => by
      rw [e7, e8, e9]
      by_cases ej : j = i
      · subst ej
        exact ⟨by rw [up2_nk (by omega), up2_nk (by omega), up2_at], by rw [up2_nk (by omega), up2_at], up2_at⟩
      · rw [up2_nk (by omega), up2_nk (by omega), up2_nk (by omega), up2_nk (by omega), up2_nk (by omega), up2_nk (by omega), up2_nk (by omega), up2_nk (by omega), up2_nk (by omega)]
        exact hlo j (by omega))
    refine ⟨M', ?_, hh⟩
    show F9_image_l43_b _ M (nI i) = _
    unfold F9_image_l43_b
    rw [show (6 : Int32) = nI 6 from rfl, show (12 : Int32) = nI 12 from rfl, if_neg (nI_ge (by omega) (by omega)), nI_add, nI_add, if_pos (inb_of (by omega) (by decide)), if_pos (inb_of (by omega) (by decide)), if_pos (inb_of (by omega) (by decide)), if_pos (inb_of (by omega) (by decide)), nI_clamp (by omega), nI_clamp (by omega), nI_clamp (by omega), nI_1]
    exact e
theorem image_l8 (B : Mem) : ∀ (k fu i : Nat) (M : Mem), i + k = 8 → k < fu → (∀ c, c ≠ 15 → M c = B c) → (∀ j, j < i → M 15 j = B 5 j ∧ M 15 (8 + j) = B 6 j) → ∃ M', F9_image_l2 fu M (nI i) = some (B 0 10, M') ∧ FB [15, 16] [47, 48, 49, 50, 51] B M' ∧ M' 0 47 = B 0 10 ∧ M' 0 48 = B 0 16 ∧ M' 0 49 = B 0 11 ∧ M' 0 50 = B 0 12 ∧ M' 0 51 = B 0 4 ∧ (∀ j, j < 6 → M' 16 j = B 7 j ∧ M' 16 (6 + j) = B 8 j ∧ M' 16 (12 + j) = B 9 j) ∧ ∀ j, j < 8 → M' 15 j = B 5 j ∧ M' 15 (8 + j) = B 6 j := by
  intro k
  induction k with
  | zero =>
    intro fu i M hk hf hF hlo
    obtain ⟨fu, rfl⟩ : ∃ f, fu = f + 1 := ⟨fu - 1, by omega⟩
    obtain rfl : i = 8 := by omega
    obtain ⟨M', e, h1, k1, k2, k3, k4, k5, k6⟩ := image_l6 M 6 FUEL 0 M (by omega) (by unfold FUEL; omega) (fun _ _ => rfl) (fun j hj => absurd hj (by omega))
    rw [hF 0 (by decide)] at e k1 k2 k3 k4 k5
    rw [hF 7 (by decide), hF 8 (by decide), hF 9 (by decide)] at k6
    refine ⟨M', e, ⟨fun c hc h2 => ?_, fun s hs => by rw [h1.2 s hs, hF 0 (by decide)]⟩, k1, k2, k3, k4, k5, k6, fun j hj => ?_⟩
    · simp only [List.mem_cons, List.not_mem_nil, or_false, not_or] at h2
      rw [h1.1 c hc (by simpa using h2.2), hF c h2.1]
    · rw [h1.1 15 (by decide) (by decide)]
      exact hlo j hj
  | succ k ih =>
    intro fu i M hk hf hF hlo
    obtain ⟨fu, rfl⟩ : ∃ f, fu = f + 1 := ⟨fu - 1, by omega⟩
    have e5 : M 5 = B 5 := hF 5 (by decide)
    have e6 : M 6 = B 6 := hF 6 (by decide)
    obtain ⟨M', e, hh⟩ := ih fu (i + 1) (up2 (up2 M 15 i (M 5 i)) 15 (8 + i) (M 6 i)) (by omega) (by omega) (fun c hc => by rw [up2_ne hc, up2_ne hc]; exact hF c hc) (fun j hj => by
      rw [e5, e6]
      by_cases ej : j = i
      · subst ej
        exact ⟨by rw [up2_nk (by omega), up2_at], up2_at⟩
      · rw [up2_nk (by omega), up2_nk (by omega), up2_nk (by omega), up2_nk (by omega)]
        exact hlo j (by omega))
    refine ⟨M', ?_, hh⟩
    show F9_image_l2_b _ M (nI i) = _
    unfold F9_image_l2_b
    rw [show (8 : Int32) = nI 8 from rfl, if_neg (nI_ge (by omega) (by omega)), nI_add, if_pos (inb_of (by omega) (by decide)), if_pos (inb_of (by omega) (by decide)), if_pos (inb_of (by omega) (by decide)), nI_clamp (by omega), nI_clamp (by omega), nI_1]
    exact e
theorem upA_ne {M : Mem} {c d : Nat} {f : Nat → Int32} (h : d ≠ c) : upA M c f d = M d := by simp [upA, h]
theorem upA_at {M : Mem} {c : Nat} {f : Nat → Int32} : upA M c f c = f := by simp [upA]
theorem image_R {m n o t r : Nat} {A B : Mem} (h : RL n o A B) (g : RG t A B) (hr : A 16 6 = nI r) (hs : B 0 4 = nI r) (hrm : r < m) : ∃ A' B', F8_image A = some (nI n, A') ∧ F9_image B = some (nI n, B') ∧ RI m A' B' ∧ FA [50, 51, 52, 53, 54, 55] A A' ∧ FB [15, 16] [47, 48, 49, 50, 51] B B' := by
  obtain ⟨h8, hon, hA, hB, hoA, hoB, hg, hi⟩ := h
  obtain ⟨h6, gA, gB, gi⟩ := g
  obtain ⟨B', e, f, k1, k2, k3, k4, k5, k6, k7⟩ := image_l8 B 8 FUEL 0 B (by omega) (by unfold FUEL; omega) (fun _ _ => rfl) (fun j hj => absurd hj (by omega))
  rw [hB] at e k1
  refine ⟨upA (upA (upA (upA (upA (up2 (up2 (up2 (up2 (up2 (up2 A 50 0 1) 50 1 (A 1 5)) 50 2 (A 1 3)) 50 3 (A 1 4)) 50 4 (A 16 6)) 50 5 (A 5 3)) 51 (va_cpy (A 3) (A 51) 0 0 8)) 52 (va_cpy (A 4) (A 52) 0 0 8)) 53 (va_cpy (A 6) (A 53) 0 0 6)) 54 (va_cpy (A 7) (A 54) 0 0 6)) 55 (va_cpy (A 8) (A 55) 0 0 6), B', ?_, e, ?_, ?_, f⟩
  · unfold F8_image F1_keep
    rw [Option.bind_some]
    dsimp only
    rw [upA_ne (by decide), upA_ne (by decide), upA_ne (by decide), upA_ne (by decide), upA_ne (by decide), up2_ne (by decide), up2_ne (by decide), up2_ne (by decide), up2_ne (by decide), up2_ne (by decide), up2_ne (by decide), hA]
  · refine .inr ⟨?_, n, o, t, r, h8, hon, h6, hrm, ?_, ?_, k1, ?_, ?_, ?_, ?_, ?_, ?_, ?_, ?_⟩
    · simp [upA, up2]
    · simp [upA, up2]; rw [k4, hg]
    · simp [upA, up2]; exact hA
    · simp [upA, up2]; exact hoA
    · rw [k3, hoB]
    · simp [upA, up2]; exact hr
    · rw [k5, hs]
    · simp [upA, up2]; exact gA
    · rw [k2, gB]
    · intro i hin
      have c1 : ∀ f g : Nat → Int32, va_cpy f g 0 0 8 i = f i := fun f g => by rw [pk_cpy_in (by omega) (by omega)]; congr 1; omega
      simp only [upA_at, upA_ne (show (51 : Nat) ≠ 52 by decide), upA_ne (show (51 : Nat) ≠ 53 by decide), upA_ne (show (51 : Nat) ≠ 54 by decide), upA_ne (show (51 : Nat) ≠ 55 by decide), upA_ne (show (52 : Nat) ≠ 53 by decide), upA_ne (show (52 : Nat) ≠ 54 by decide), upA_ne (show (52 : Nat) ≠ 55 by decide), c1]
      obtain ⟨p1, p2⟩ := k7 i hin
      obtain ⟨q1, q2, q3, q4, q5, q6⟩ := hi i hin
      rw [p1, p2]
      exact ⟨q2, q3, q5, q6⟩
    · intro i hin
      have c1 : ∀ f g : Nat → Int32, va_cpy f g 0 0 6 i = f i := fun f g => by rw [pk_cpy_in (by omega) (by omega)]; congr 1; omega
      simp only [upA_at, upA_ne (show (53 : Nat) ≠ 54 by decide), upA_ne (show (53 : Nat) ≠ 55 by decide), upA_ne (show (54 : Nat) ≠ 55 by decide), c1]
      obtain ⟨p1, p2, p3⟩ := k6 i hin
      obtain ⟨q1, q2, q3, q4, q5, q6⟩ := gi i hin
      rw [p1, p2, p3]
      exact ⟨q1, q2, q3, q4, q5, q6⟩
  · intro c hc
    simp only [List.mem_cons, List.not_mem_nil, or_false, not_or] at hc
    rw [upA_ne (by omega), upA_ne (by omega), upA_ne (by omega), upA_ne (by omega), upA_ne (by omega), up2_ne (by omega), up2_ne (by omega), up2_ne (by omega), up2_ne (by omega), up2_ne (by omega), up2_ne (by omega)]
