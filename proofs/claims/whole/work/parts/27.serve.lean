def RP (z : Nat) (A B : Mem) : Prop := z ≤ 160 ∧ A 9 1 = nI z ∧ B 0 6 = nI z ∧ ∀ i, i < z → A 10 i = B 3 i ∧ 0 ≤ (A 10 i).toInt ∧ (A 10 i).toInt ≤ 255
theorem feed_R {z : Nat} {A B : Mem} (h : RP z A B) (a1 : Int32) : ∃ v A' B' z', F8_feed A a1 = some (v, A') ∧ F9_feed B a1 = some (v, B') ∧ RP z' A' B' ∧ (∀ k, k ≠ 1 → A' 9 k = A 9 k) ∧ FA [9, 10] A A' ∧ FB [3] [6] B B' := by
  have h0 := h
  obtain ⟨hz, hA, hB, hi⟩ := h
  rcases cs a1 256 (by decide) with q | ⟨b, hb, rfl⟩
  · refine ⟨-2, A, B, z, ?_, ?_, h0, fun _ _ => rfl, FA.rf, FB.rf⟩
    · unfold F8_feed
      simp only [ile, ilt, Int32.reduceToInt]
      by_cases h1 : a1.toInt < 0
      · rw [if_pos h1]
      · rw [if_neg h1, if_neg (by omega)]
    · unfold F9_feed
      rw [in_n (by rw [i64t]; simp; omega)]
      rfl
  · have eA : F8_feed A (nI b) = (if z < 160 then some (nI (z + 1), up2 (up2 A 10 z (nI b)) 9 1 (nI (z + 1))) else some (-4, A)) := by
      unfold F8_feed F3_append
      simp only [ile, ilt, Int32.reduceToInt, nI_toInt (show b < 2 ^ 31 by omega), hA, nI_toInt (show z < 2 ^ 31 by omega)]
      rw [if_neg (by omega), if_pos (by omega)]
      by_cases h1 : z < 160
      · rw [if_pos (show (z : Int) < 160 by omega), if_pos (inb_of h1 (by decide)), if_pos h1, Option.bind_some, if_neg n10, nI_clamp (by omega), nI_1]
        dsimp only
        rw [up2_at]
      · rw [if_neg (show ¬ (z : Int) < 160 by omega), if_neg h1, Option.bind_some]
        rfl
    have eB : F9_feed B (nI b) = (if z < 160 then some (nI (z + 1), up2 (up2 B 3 z (nI b)) 0 6 (nI (z + 1))) else some (-4, B)) := by
      unfold F9_feed
      rw [in_y (by rw [i64t, nI_toInt (by omega)]; simp; omega), Option.bind_some, if_pos n10]
      simp only [hB]
      by_cases h1 : z < 160
      · rw [if_pos (fun e => by have := nI_inj (by omega) (by decide) (e.trans (show (160 : Int32) = nI 160 from rfl)); omega), if_pos (inb_of (by omega) (by decide)), if_pos h1, nI_clamp (by omega), nI_1]
      · rw [if_neg (by simp only [Classical.not_not]; rw [show z = 160 by omega]; rfl), if_neg h1]
    by_cases h1 : z < 160
    · rw [eA, eB, if_pos h1, if_pos h1]
      refine ⟨_, _, _, z + 1, rfl, rfl, ⟨by omega, up2_at, up2_at, fun i hin => ?_⟩, fun k hk => ?_, (FA.rf.up (by decide)).up (by decide), (FB.rf.up (by decide) (by decide)).up0 (by decide)⟩
      · rw [up2_ne (show (10 : Nat) ≠ 9 by decide), up2_ne (show (3 : Nat) ≠ 0 by decide)]
        by_cases e : i = z
        · subst e
          rw [up2_at, up2_at, nI_toInt (by omega)]
          exact ⟨rfl, by omega, by omega⟩
        · rw [up2_nk e, up2_nk e]
          exact hi i (by omega)
      · rw [up2_nk hk, up2_ne (by decide)]
    · exact ⟨-4, A, B, z, by rw [eA, if_neg h1], by rw [eB, if_neg h1], h0, fun _ _ => rfl, FA.rf, FB.rf⟩
theorem nI_m1 {i : Nat} (h : i < 2 ^ 31) : ¬ nI i = -1 := by
  intro e
  have h2 : (nI i).toInt = (-1 : Int32).toInt := by rw [e]
  rw [nI_toInt h] at h2
  have h3 : (-1 : Int32).toInt = -1 := by decide
  omega
theorem turn_R {tv : Tv} {n o : Nat} {A B : Mem} (hT : TellA tv A) (hU : TellB tv B) (hO : TvOk tv) (h : RL n o A B) : ∃ v A' B', F8_turn A = some (v, A') ∧ F9_turn B = some (v, B') ∧ ST A A' ∧ GB B B' := by
  obtain ⟨h8, hon, hA, hB, hoA, hoB, hg, hi⟩ := h
  obtain ⟨A', e1, s1⟩ := turn_A hT KA.rf hA h8 hoA hon (-1) (-1) id (fun i hio => ⟨by show i < n; omega, fun e => absurd e (nI_m1 (by omega)), fun _ => rfl⟩)
  obtain ⟨B', e2, s2, t2, -⟩ := gath_B hU hO KB.rf hB h8 hoB hon (fun i hin => by rw [← (hi i (by omega)).1]; exact (hi i (by omega)).2.2.2.1)
  refine ⟨turnW tv A id o, A', B', ?_, ?_, s1, s2⟩
  · unfold F8_turn
    rw [e1]
    rfl
  · unfold F9_turn
    rw [e2, Option.bind_some]
    show some (B' 0 35, B') = _
    rw [t2]
    congr 2
    refine sumI_cong (fun i hio => ?_)
    obtain ⟨a1, a2, a3, -⟩ := hi i (by omega)
    show _ = secV tv (A 2 i) (A 3 i) (A 4 i) (nI i)
    rw [a1, a2, a3]
theorem drop_A (A : Mem) (n : Nat) (hn : n ≤ 8) : ∀ (k fu i : Nat) (M : Mem), 1 ≤ i → i + k = n → k < fu → FA [2, 3, 4] A M → A 1 3 = nI n → (∀ j, j + 1 < i → M 2 j = A 2 (j + 1) ∧ M 3 j = A 3 (j + 1) ∧ M 4 j = A 4 (j + 1)) → (∀ j, i ≤ j + 1 → M 2 j = A 2 j ∧ M 3 j = A 3 j ∧ M 4 j = A 4 j) → ∃ M', F2_dropFirst_l10 fu M (nI i) = some (0, if A 1 4 ≤ 0 then up2 (up2 M' 1 3 (A 1 3 - 1)) 1 5 (A 1 5 + 1) else up2 (up2 (up2 M' 1 3 (A 1 3 - 1)) 1 5 (A 1 5 + 1)) 1 4 (A 1 4 - 1)) ∧ FA [2, 3, 4] A M' ∧ (∀ j, j + 1 < n → M' 2 j = A 2 (j + 1) ∧ M' 3 j = A 3 (j + 1) ∧ M' 4 j = A 4 (j + 1)) ∧ ∀ j, n ≤ j + 1 → M' 2 j = A 2 j ∧ M' 3 j = A 3 j ∧ M' 4 j = A 4 j := by
  intro k
  induction k with
  | zero =>
    intro fu i M h1 hk hf hF hA hlo hhi
    obtain ⟨fu, rfl⟩ : ∃ f, fu = f + 1 := ⟨fu - 1, by omega⟩
    refine ⟨M, ?_, hF, fun j hj => hlo j (by omega), fun j hj => hhi j (by omega)⟩
    show F2_dropFirst_l10_b _ M (nI i) = _
    unfold F2_dropFirst_l10_b
    have e1 : M 1 = A 1 := hF 1 (by decide)
    rw [e1, if_pos (by rw [hA]; exact nI_le (by omega) (by omega))]
    by_cases h : A 1 4 ≤ 0
    · rw [if_pos h, if_pos h]
    · rw [if_neg h, if_neg h]
  | succ k ih =>
    intro fu i M h1 hk hf hF hA hlo hhi
    obtain ⟨fu, rfl⟩ : ∃ f, fu = f + 1 := ⟨fu - 1, by omega⟩
    have e1 : M 1 = A 1 := hF 1 (by decide)
    obtain ⟨M', e, hF', hh⟩ := ih fu (i + 1) (up2 (up2 (up2 M 2 (i - 1) (M 2 i)) 3 (i - 1) (M 3 i)) 4 (i - 1) (M 4 i)) (by omega) (by omega) (by omega) (((hF.up (by decide)).up (by decide)).up (by decide)) hA (by
      intro j hj
      rw [up2_ne (show (2 : Nat) ≠ 4 by decide), up2_ne (show (2 : Nat) ≠ 3 by decide), up2_ne (show (3 : Nat) ≠ 4 by decide)]
      by_cases ej : j = i - 1
      · subst ej
        rw [up2_at, up2_at, up2_at, show i - 1 + 1 = i by omega]
        exact hhi i (by omega)
      · rw [up2_nk ej, up2_nk ej, up2_nk ej, up2_ne (show (3 : Nat) ≠ 2 by decide), up2_ne (show (4 : Nat) ≠ 3 by decide), up2_ne (show (4 : Nat) ≠ 2 by decide)]
        exact hlo j (by omega)) (by
      intro j hj
      rw [up2_ne (show (2 : Nat) ≠ 4 by decide), up2_ne (show (2 : Nat) ≠ 3 by decide), up2_ne (show (3 : Nat) ≠ 4 by decide), up2_nk (by omega), up2_nk (by omega), up2_nk (by omega), up2_ne (show (3 : Nat) ≠ 2 by decide), up2_ne (show (4 : Nat) ≠ 3 by decide), up2_ne (show (4 : Nat) ≠ 2 by decide)]
      exact hhi j (by omega))
    refine ⟨M', ?_, hF', hh⟩
    show F2_dropFirst_l10_b _ M (nI i) = _
    unfold F2_dropFirst_l10_b
    rw [e1, if_neg (by rw [hA]; exact nI_ge (by omega) (by omega)), if_pos (inb_of (by omega) (by decide)), show (1 : Int32) = nI 1 from rfl, pk_sub h1, if_pos (inb_of (by omega) (by decide)), nI_clamp (by omega), nI_clamp (by omega), show nI i + nI 1 = nI (i + 1) from nI_1 i]
    exact e
