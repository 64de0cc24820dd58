theorem drop_B (B : Mem) (n o : Nat) (hn : n ≤ 8) (h0 : 0 < n) (hB : B 0 10 = nI n) (ho : B 0 11 = nI o) (hon : o ≤ n) (v : Int32) : ∀ (k fu i : Nat) (M : Mem), i + k = n - 1 → k < fu → FB [4, 5, 6] [] B M → (∀ j, j < i → M 4 j = B 4 (j + 1) ∧ M 5 j = B 5 (j + 1) ∧ M 6 j = B 6 (j + 1)) → (∀ j, i ≤ j → M 4 j = B 4 j ∧ M 5 j = B 5 j ∧ M 6 j = B 6 j) → ∃ M', F9_serve_l18 fu M v (nI i) = some (v, M') ∧ FB [4, 5, 6] [10, 11, 12] B M' ∧ M' 0 10 = nI (n - 1) ∧ M' 0 11 = nI (o - 1) ∧ M' 0 12 = B 0 12 + 1 ∧ (∀ j, j + 1 < n → M' 4 j = B 4 (j + 1) ∧ M' 5 j = B 5 (j + 1) ∧ M' 6 j = B 6 (j + 1)) ∧ ∀ j, n ≤ j + 1 → M' 4 j = B 4 j ∧ M' 5 j = B 5 j ∧ M' 6 j = B 6 j := by
  have hd : nI n - 1 = nI (n - 1) := pk_sub (b := 1) h0
  intro k
  induction k with
  | zero =>
    intro fu i M hk hf hF hlo hhi
    obtain ⟨fu, rfl⟩ : ∃ f, fu = f + 1 := ⟨fu - 1, by omega⟩
    have e0 : ∀ s, M 0 s = B 0 s := fun s => hF.2 s (by simp)
    have fin : ∀ y : Int32, y = nI (o - 1) → ∃ M', F9_serve_j104 (up2 M 0 10 (nI (n - 1))) v y = some (v, M') ∧ FB [4, 5, 6] [10, 11, 12] B M' ∧ M' 0 10 = nI (n - 1) ∧ M' 0 11 = nI (o - 1) ∧ M' 0 12 = B 0 12 + 1 ∧ (∀ j, j + 1 < n → M' 4 j = B 4 (j + 1) ∧ M' 5 j = B 5 (j + 1) ∧ M' 6 j = B 6 (j + 1)) ∧ ∀ j, n ≤ j + 1 → M' 4 j = B 4 j ∧ M' 5 j = B 5 j ∧ M' 6 j = B 6 j := by
      intro y hy
      refine ⟨_, rfl, ?_, ?_, ?_, ?_, fun j hj => ?_, fun j hj => ?_⟩
      · have hF' : FB [4, 5, 6] [10, 11, 12] B M := ⟨hF.1, fun s _ => e0 s⟩
        exact ((hF'.up0 (by decide)).up0 (by decide)).up0 (by decide)
      · rw [up2_nk (by decide), up2_nk (by decide), up2_at]
      · rw [up2_nk (by decide), up2_at, hy]
      · rw [up2_at, up2_nk (by decide), e0]
      · rw [up2_ne (show (4 : Nat) ≠ 0 by decide), up2_ne (show (4 : Nat) ≠ 0 by decide), up2_ne (show (4 : Nat) ≠ 0 by decide), up2_ne (show (5 : Nat) ≠ 0 by decide), up2_ne (show (5 : Nat) ≠ 0 by decide), up2_ne (show (5 : Nat) ≠ 0 by decide), up2_ne (show (6 : Nat) ≠ 0 by decide), up2_ne (show (6 : Nat) ≠ 0 by decide), up2_ne (show (6 : Nat) ≠ 0 by decide)]
        exact hlo j (by omega)
      · rw [up2_ne (show (4 : Nat) ≠ 0 by decide), up2_ne (show (4 : Nat) ≠ 0 by decide), up2_ne (show (4 : Nat) ≠ 0 by decide), up2_ne (show (5 : Nat) ≠ 0 by decide), up2_ne (show (5 : Nat) ≠ 0 by decide), up2_ne (show (5 : Nat) ≠ 0 by decide), up2_ne (show (6 : Nat) ≠ 0 by decide), up2_ne (show (6 : Nat) ≠ 0 by decide), up2_ne (show (6 : Nat) ≠ 0 by decide)]
        exact hhi j (by omega)
    show ∃ M', F9_serve_l18_b _ M v (nI i) = _ ∧ _
    unfold F9_serve_l18_b
    rw [e0 10, e0 11, hB, hd, ho, if_pos (nI_le (by omega) (by omega))]
    by_cases h : o = 0
    · rw [if_pos (by subst h; decide)]
      exact fin 0 (by rw [h]; rfl)
    · rw [if_neg (by rw [ile, nI_toInt (by omega)]; simp; omega)]
      exact fin _ (pk_sub (b := 1) (by omega))
  | succ k ih =>
    intro fu i M hk hf hF hlo hhi
    obtain ⟨fu, rfl⟩ : ∃ f, fu = f + 1 := ⟨fu - 1, by omega⟩
    have e0 : ∀ s, M 0 s = B 0 s := fun s => hF.2 s (by simp)
    obtain ⟨M', e, hh⟩ := ih fu (i + 1) (up2 (up2 (up2 M 4 i (M 4 (i + 1))) 5 i (M 5 (i + 1))) 6 i (M 6 (i + 1))) (by omega) (by omega) (((hF.up (by decide) (by decide)).up (by decide) (by decide)).up (by decide) (by decide)) (by
      intro j hj
      rw [up2_ne (show (4 : Nat) ≠ 6 by decide), up2_ne (show (4 : Nat) ≠ 5 by decide), up2_ne (show (5 : Nat) ≠ 6 by decide)]
      by_cases ej : j = i
      · subst ej
        rw [up2_at, up2_at, up2_at]
        exact hhi (j + 1) (by omega)
      · rw [up2_nk ej, up2_nk ej, up2_nk ej, up2_ne (show (5 : Nat) ≠ 4 by decide), up2_ne (show (6 : Nat) ≠ 5 by decide), up2_ne (show (6 : Nat) ≠ 4 by decide)]
        exact hlo j (by omega)) (by
      intro j hj
      rw [up2_ne (show (4 : Nat) ≠ 6 by decide), up2_ne (show (4 : Nat) ≠ 5 by decide), up2_ne (show (5 : Nat) ≠ 6 by decide), up2_nk (by omega), up2_nk (by omega), up2_nk (by omega), up2_ne (show (5 : Nat) ≠ 4 by decide), up2_ne (show (6 : Nat) ≠ 5 by decide), up2_ne (show (6 : Nat) ≠ 4 by decide)]
      exact hhi j (by omega))
    refine ⟨M', ?_, hh⟩
    show F9_serve_l18_b _ M v (nI i) = _
    unfold F9_serve_l18_b
    rw [e0 10, hB, hd, if_neg (nI_ge (by omega) (by omega)), nI_1 i, if_pos (inb_of (by omega) (by decide)), if_pos (inb_of (by omega) (by decide)), nI_clamp (by omega), nI_clamp (by omega)]
    exact e
theorem serve_R {tv : Tv} {n o : Nat} {A B : Mem} (hT : TellA tv A) (hU : TellB tv B) (h : RL n o A B) : ∃ v A' B' n' o', F8_serve A = some (v, A') ∧ F9_serve B = some (v, B') ∧ RL n' o' A' B' ∧ FA [1, 2, 3, 4, 31, 32] A A' ∧ (∀ c, c ≠ 0 → c ∉ [4, 5, 6] → B' c = B c) ∧ ∀ k, k < 10 ∨ (12 < k ∧ k < 17) ∨ (31 < k ∧ k < 1000) → B' 0 k = B 0 k := by
  have h0 := h
  obtain ⟨h8, hon, hA, hB, hoA, hoB, hg, hi⟩ := h
  by_cases hn : n = 0
  · refine ⟨-3, A, B, n, o, ?_, ?_, h0, FA.rf, fun _ _ _ => rfl, fun _ _ => rfl⟩
    · unfold F8_serve
      rw [hA, hn]
      rfl
    · unfold F9_serve
      rw [hB, hn]
      rfl
  · obtain ⟨A1, e1, s1⟩ := sec_A (i := 0) hT KA.rf hA h8 (by omega) (A 2 0) (nI 0)
    obtain ⟨B1, e2, s2⟩ := sec_B (i := 0) hU KB.rf (by omega) (by rw [← (hi 0 (by omega)).1]; exact (hi 0 (by omega)).2.2.2.1)
    have f1 : ∀ c, c ≠ 31 → c ≠ 32 → A1 c = A c := s1
    have a1 : A1 1 = A 1 := s1 1 (by decide) (by decide)
    have a2 : A1 2 = A 2 := s1 2 (by decide) (by decide)
    have a3 : A1 3 = A 3 := s1 3 (by decide) (by decide)
    have a4 : A1 4 = A 4 := s1 4 (by decide) (by decide)
    have b4 : B1 4 = B 4 := s2.1 4 (by decide)
    have b5 : B1 5 = B 5 := s2.1 5 (by decide)
    have b6 : B1 6 = B 6 := s2.1 6 (by decide)
    have b10 : B1 0 10 = B 0 10 := s2.2 10 (by decide)
    have b11 : B1 0 11 = B 0 11 := s2.2 11 (by decide)
    have b12 : B1 0 12 = B 0 12 := s2.2 12 (by decide)
    obtain ⟨A2, e3, g3, l3, l3'⟩ := drop_A A1 n h8 (n - 1) FUEL 1 A1 (by decide) (by omega) (by unfold FUEL; omega) FA.rf (by rw [a1]; exact hA) (fun j hj => absurd hj (by omega)) (fun j _ => ⟨rfl, rfl, rfl⟩)
    obtain ⟨B2, e4, g4, k10, k11, k12, l4, l4'⟩ := drop_B B1 n o h8 (by omega) (by rw [b10]; exact hB) (by rw [b11]; exact hoB) hon (secV tv (B 4 0) (B 5 0) (B 6 0) (nI 0)) (n - 1) FUEL 0 B1 (by omega) (by unfold FUEL; omega) FB.rf (fun j hj => absurd hj (by omega)) (fun j _ => ⟨rfl, rfl, rfl⟩)
    have hd : nI n - 1 = nI (n - 1) := pk_sub (b := 1) (by omega)
    have hv : secV tv (A 2 0) (A 3 0) (A 4 0) (nI 0) = secV tv (B 4 0) (B 5 0) (B 6 0) (nI 0) := by
      rw [(hi 0 (by omega)).1, (hi 0 (by omega)).2.1, (hi 0 (by omega)).2.2.1]
    have nz : ¬ nI n = 0 := fun e => hn (nI_inj (by omega) (by decide) (e.trans (show (0 : Int32) = nI 0 from rfl)))
    have tail : ∀ A3, F2_dropFirst A1 = some (0, A3) → A3 1 3 = nI (n - 1) → A3 1 4 = nI (o - 1) → A3 1 5 = A 1 5 + 1 → (∀ c, c ≠ 1 → A3 c = A2 c) → ∃ v A' B' n' o', F8_serve A = some (v, A') ∧ F9_serve B = some (v, B') ∧ RL n' o' A' B' ∧ FA [1, 2, 3, 4, 31, 32] A A' ∧ (∀ c, c ≠ 0 → c ∉ [4, 5, 6] → B' c = B c) ∧ ∀ k, k < 10 ∨ (12 < k ∧ k < 17) ∨ (31 < k ∧ k < 1000) → B' 0 k = B 0 k := by
      intro A3 ee m3 m4 m5 mc
      refine ⟨secV tv (B 4 0) (B 5 0) (B 6 0) (nI 0), A3, B2, n - 1, o - 1, ?_, ?_, ⟨by omega, by omega, m3, k10, m4, k11, ?_, ?_⟩, ?_, ?_, ?_⟩
      · unfold F8_serve
        rw [hA, if_pos nz, show (0 : Int32) = nI 0 from rfl, e1, Option.bind_some]
        dsimp only
        rw [ee, hv]
        rfl
      · unfold F9_serve
        rw [hB, if_pos nz, show (0 : Int32) = nI 0 from rfl, e2, Option.bind_some]
        exact e4
      · rw [m5, k12, b12, hg]
      · intro i hin
        by_cases hin2 : i + 1 < n
        · obtain ⟨x1, x2, x3⟩ := l3 i hin2
          obtain ⟨y1, y2, y3⟩ := l4 i hin2
          rw [mc 2 (by decide), mc 3 (by decide), mc 4 (by decide), x1, x2, x3, y1, y2, y3, a2, a3, a4, b4, b5, b6]
          exact hi (i + 1) (by omega)
        · obtain ⟨x1, x2, x3⟩ := l3' i (by omega)
          obtain ⟨y1, y2, y3⟩ := l4' i (by omega)
          rw [mc 2 (by decide), mc 3 (by decide), mc 4 (by decide), x1, x2, x3, y1, y2, y3, a2, a3, a4, b4, b5, b6]
          exact hi i hin
      · intro c hc
        simp only [List.mem_cons, List.not_mem_nil, or_false, not_or] at hc
        rw [mc c hc.1, g3 c (by simp; omega)]
        exact s1 c hc.2.2.2.2.1 hc.2.2.2.2.2
      · intro c hc h2
        rw [g4.1 c hc h2]
        exact s2.1 c hc
      · intro k hk
        rw [g4.2 k (by simp; omega)]
        exact s2.2 k (by omega)
    have ed : F2_dropFirst A1 = F2_dropFirst_l10 FUEL A1 (nI 1) := by
      unfold F2_dropFirst
      rw [a1, hA, if_pos (by rw [ilt, nI_toInt (by omega)]; simp; omega)]
      rfl
    rw [← ed, a1, hA, hd, hoA] at e3
    have q1 : A2 1 = A1 1 := g3 1 (by decide)
    by_cases ho : o = 0
    · rw [if_pos (by subst ho; decide)] at e3
      refine tail _ e3 ?_ ?_ ?_ ?_
      · rw [up2_nk (by decide), up2_at]
      · rw [up2_nk (by decide), up2_nk (by decide), q1, a1, hoA, ho]
      · rw [up2_at]
      · intro c hc; rw [up2_ne hc, up2_ne hc]
    · rw [if_neg (by rw [ile, nI_toInt (by omega)]; simp; omega)] at e3
      refine tail _ e3 ?_ ?_ ?_ ?_
      · rw [up2_nk (by decide), up2_nk (by decide), up2_at]
      · rw [up2_at]; exact pk_sub (b := 1) (by omega)
      · rw [up2_nk (by decide), up2_at]
      · intro c hc; rw [up2_ne hc, up2_ne hc, up2_ne hc]
