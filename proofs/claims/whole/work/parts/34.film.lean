theorem film_l {tv : Tv} {n o s z : Nat} {A B : Mem} (hT : TellA tv A) (hU : TellB tv B) (hs : s < 4) (hzn : z ≤ n) : ∀ (k fu i : Nat) (M N : Mem) (acc : Int32), i + k = z → k < fu → RL n o M N → RS M N → M 43 s = 2 → M 44 s = nI z → KA A M → KB B N → ∃ M' N', F8_film_l44 fu M (nI s) (nI z) acc (nI i) = some (nI z, M') ∧ F9_film_l37 fu N (nI s) (nI z) acc (nI i) = some (nI z, N') ∧ RS M' N' ∧ FA [31, 32, 46, 47, 48, 49] M M' ∧ (∀ c, c ≠ 0 → c ≠ 20 → N' c = N c) ∧ ∀ k, k < 17 ∨ (31 < k ∧ k < 1000) → N' 0 k = N 0 k := by
  intro k
  induction k with
  | zero =>
    intro fu i M N acc hk hf hL hS h43 h44 hA hB
    obtain ⟨fu, rfl⟩ : ∃ f, fu = f + 1 := ⟨fu - 1, by omega⟩
    have h8 := hL.1
    obtain rfl : i = z := by omega
    refine ⟨M, N, ?_, ?_, hS, FA.rf, fun _ _ _ => rfl, fun _ _ => rfl⟩
    · show F8_film_l44_b _ M (nI s) (nI i) acc (nI i) = _
      unfold F8_film_l44_b
      rw [if_pos (nI_le (by omega) (by omega))]
    · show F9_film_l37_b _ N (nI s) (nI i) acc (nI i) = _
      unfold F9_film_l37_b
      rw [if_pos (nI_le (by omega) (by omega))]
  | succ k ih =>
    intro fu i M N acc hk hf hL hS h43 h44 hA hB
    obtain ⟨fu, rfl⟩ : ∃ f, fu = f + 1 := ⟨fu - 1, by omega⟩
    have hL0 := hL
    obtain ⟨h8, hon, lA, lB, loA, loB, hg, hi⟩ := hL
    obtain ⟨M1, e1, s1⟩ := sec_A (i := i) hT hA lA h8 (by omega) (M 2 i) (nI i)
    obtain ⟨N1, e2, s2⟩ := sec_B (i := i) hU hB (by omega) (by rw [← (hi i (by omega)).1]; exact (hi i (by omega)).2.2.2.1)
    have hv : secV tv (M 2 i) (M 3 i) (M 4 i) (nI i) = secV tv (N 4 i) (N 5 i) (N 6 i) (nI i) := by
      rw [(hi i (by omega)).1, (hi i (by omega)).2.1, (hi i (by omega)).2.2.1]
    generalize hV : secV tv (N 4 i) (N 5 i) (N 6 i) (nI i) = V at e2 hv
    rw [hv] at e1
    have q43 : M1 43 s = 2 := by rw [s1 43 (by decide) (by decide)]; exact h43
    have q44 : M1 44 s = nI z := by rw [s1 44 (by decide) (by decide)]; exact h44
    have hS1 : RS M1 N1 := hS.cong (s1 43 (by decide) (by decide)) (s1 44 (by decide) (by decide)) (fun r hr => s1 _ (by omega) (by omega)) (s2.1 17 (by decide)) (s2.1 18 (by decide)) (s2.1 19 (by decide)) (s2.1 20 (by decide))
    have ew := writeA (A := M1) hs q44 (by omega) (show i < z by omega) (acc + V)
    have en : nar (M1 43 s) (acc + V) = acc + V := by rw [q43]; rfl
    rw [en] at ew
    have hS2 := hS1.put hs (show i < 40 by omega) q44 (acc + V)
    have n46 : ∀ c, c < 46 → up2 M1 (46 + s) i (acc + V) c = M1 c := fun c hc => up2_ne (by omega)
    have hL1 : RL n o (up2 M1 (46 + s) i (acc + V)) (up2 N1 20 (40 * s + i) (acc + V)) := by
      refine hL0.cong ?_ ?_ ?_ ?_ ?_ ?_ ?_ ?_ ?_ ?_
      · rw [n46 1 (by decide)]; exact s1 1 (by decide) (by decide)
      · rw [n46 2 (by decide)]; exact s1 2 (by decide) (by decide)
      · rw [n46 3 (by decide)]; exact s1 3 (by decide) (by decide)
      · rw [n46 4 (by decide)]; exact s1 4 (by decide) (by decide)
      · rw [up2_ne (show (0 : Nat) ≠ 20 by decide)]; exact s2.2 10 (by decide)
      · rw [up2_ne (show (0 : Nat) ≠ 20 by decide)]; exact s2.2 11 (by decide)
      · rw [up2_ne (show (0 : Nat) ≠ 20 by decide)]; exact s2.2 12 (by decide)
      · rw [up2_ne (show (4 : Nat) ≠ 20 by decide)]; exact s2.1 4 (by decide)
      · rw [up2_ne (show (5 : Nat) ≠ 20 by decide)]; exact s2.1 5 (by decide)
      · rw [up2_ne (show (6 : Nat) ≠ 20 by decide)]; exact s2.1 6 (by decide)
    have kA : KA A (up2 M1 (46 + s) i (acc + V)) := (hA.tr s1.ka).tr ⟨by rw [n46 1 (by decide)], by rw [n46 1 (by decide)], by rw [n46 16 (by decide)], by rw [n46 16 (by decide)], fun c c1 c2 => n46 c (by omega)⟩
    have kB : KB B (up2 N1 20 (40 * s + i) (acc + V)) := (hB.tr s2.kb).tr ⟨up2_ne (by decide), up2_ne (by decide), by rw [up2_ne (show (0 : Nat) ≠ 20 by decide)], by rw [up2_ne (show (0 : Nat) ≠ 20 by decide)], by rw [up2_ne (show (0 : Nat) ≠ 20 by decide)]⟩
    obtain ⟨M', N', r1, r2, r3, r4, r5, r6⟩ := ih fu (i + 1) _ _ (acc + V) (by omega) (by omega) hL1 hS2 (by rw [n46 43 (by decide)]; exact q43) (by rw [n46 44 (by decide)]; exact q44) kA kB
    refine ⟨M', N', ?_, ?_, r3, fun c hc => ?_, fun c c1 c2 => ?_, fun j hj => ?_⟩
    · show F8_film_l44_b _ M (nI s) (nI z) acc (nI i) = _
      unfold F8_film_l44_b
      rw [if_neg (nI_ge (by omega) (by omega)), if_pos (inb_of (by omega) (by decide)), nI_clamp (by omega), e1, Option.bind_some]
      dsimp only
      rw [ew, Option.bind_some, nI_1]
      exact r1
    · show F9_film_l37_b _ N (nI s) (nI z) acc (nI i) = _
      unfold F9_film_l37_b
      rw [if_neg (nI_ge (by omega) (by omega)), e2, Option.bind_some, show (40 : Int32) * nI s + nI i = nI (40 * s + i) from by rw [show (40 : Int32) = nI 40 from rfl, pk_mul, nI_add], if_pos (inb_of (by omega) (by decide)), nI_clamp (by omega), nI_1]
      exact r2
    · rw [r4 c hc]
      simp only [List.mem_cons, List.not_mem_nil, or_false, not_or] at hc
      rw [up2_ne (by omega)]
      exact s1 c (by omega) (by omega)
    · rw [r5 c c1 c2, up2_ne c2]
      exact s2.1 c c1
    · rw [r6 j hj, up2_ne (show (0 : Nat) ≠ 20 by decide)]
      exact s2.2 j hj
theorem film_R {tv : Tv} {n o : Nat} {A B : Mem} (hT : TellA tv A) (hU : TellB tv B) (h : RL n o A B) (hS : RS A B) (a1 a2 : Int32) : ∃ v A' B', F8_film A a1 a2 = some (v, A') ∧ F9_film B a1 a2 = some (v, B') ∧ RS A' B' ∧ FA [31, 32, 43, 44, 46, 47, 48, 49] A A' ∧ (∀ c, c ≠ 0 → c ≠ 17 → c ≠ 18 → c ≠ 19 → c ≠ 20 → B' c = B c) ∧ ∀ k, k < 17 ∨ (31 < k ∧ k < 1000) → B' 0 k = B 0 k := by
  have hno : ∀ w : Int32, F8_film A a1 a2 = some (w, A) → F9_film B a1 a2 = some (w, B) → ∃ v A' B', F8_film A a1 a2 = some (v, A') ∧ F9_film B a1 a2 = some (v, B') ∧ RS A' B' ∧ FA [31, 32, 43, 44, 46, 47, 48, 49] A A' ∧ (∀ c, c ≠ 0 → c ≠ 17 → c ≠ 18 → c ≠ 19 → c ≠ 20 → B' c = B c) ∧ ∀ k, k < 17 ∨ (31 < k ∧ k < 1000) → B' 0 k = B 0 k := fun w e1 e2 => ⟨w, A, B, e1, e2, hS, FA.rf, fun _ _ _ _ _ _ => rfl, fun _ _ => rfl⟩
  have h0 := h
  obtain ⟨h8, hon, lA, lB, loA, loB, hg, hi⟩ := h
  rcases cs a1 4 (by decide) with q | ⟨s, hs, rfl⟩
  · refine hno (-2) ?_ ?_
    · unfold F8_film; rw [shA_n q]; rfl
    · unfold F9_film; rw [shB_n q]; rfl
  rcases cs a2 (n + 1) (by omega) with q | ⟨z, hz, rfl⟩
  · refine hno (-2) ?_ ?_
    · unfold F8_film
      rw [shA_y hs, Option.bind_some, if_neg n10]
      by_cases h1 : a2 < 0
      · rw [if_pos h1]
      · rw [if_neg h1, if_neg (show ¬ a2 ≤ A 1 3 by rw [lA, ile, nI_toInt (by omega)]; rw [ilt] at h1; simp at h1; omega)]
    · unfold F9_film
      rw [shB_y hs, Option.bind_some, if_neg n10, in_n (by rw [i64t, i64t]; show ¬ (_ ∧ _ ≤ (B 0 10).toInt); rw [lB, nI_toInt (by omega), show (0 : Int64).toInt = 0 from rfl]; omega)]
      rfl
  · obtain ⟨A1, e1, f1, x1, x2, x3, x4⟩ := lay_A A s z hs (by omega) 2
    obtain ⟨B1, e2, y0, y1, y2, y3, y4, y5, y6⟩ := sheet_B B s z hs (by omega) 2 (by decide)
    have hS1 := hS.lay hs (show z ≤ 40 by omega) (by decide) f1 x1 x2 x3 x4 y1 y2 y3 y4 y5 y6
    have fl : ∀ c, c < 43 → A1 c = A c := fun c hc => f1 c (by simp only [List.mem_cons, List.not_mem_nil, or_false, not_or]; omega)
    have y00 : B1 0 = B 0 := y0 0 (by decide) (by decide) (by decide) (by decide)
    have hL1 : RL n o A1 B1 := h0.cong (fl 1 (by decide)) (fl 2 (by decide)) (fl 3 (by decide)) (fl 4 (by decide)) (by rw [y00]) (by rw [y00]) (by rw [y00]) (y0 4 (by decide) (by decide) (by decide) (by decide)) (y0 5 (by decide) (by decide) (by decide) (by decide)) (y0 6 (by decide) (by decide) (by decide) (by decide))
    obtain ⟨A2, B2, r1, r2, r3, r4, r5, r6⟩ := film_l hT hU hs (show z ≤ n by omega) z FUEL 0 A1 B1 0 (by omega) (by unfold FUEL; omega) hL1 hS1 x1 x2 ⟨by rw [fl 1 (by decide)], by rw [fl 1 (by decide)], by rw [fl 16 (by decide)], by rw [fl 16 (by decide)], fun c _ c2 => fl c (by omega)⟩ ⟨y0 1 (by decide) (by decide) (by decide) (by decide), y0 2 (by decide) (by decide) (by decide) (by decide), by rw [y00], by rw [y00], by rw [y00]⟩
    refine ⟨nI z, A2, B2, ?_, ?_, r3, fun c hc => ?_, fun c c0 c1 c2 c3 c4 => ?_, fun j hj => ?_⟩
    · unfold F8_film
      rw [shA_y hs, Option.bind_some, if_neg n10, if_neg (nI_pos (by omega)), if_pos (show nI z ≤ A 1 3 by rw [lA]; exact nI_le (by omega) (by omega)), e1, Option.bind_some]
      exact r1
    · unfold F9_film
      rw [shB_y hs, Option.bind_some, if_neg n10, in_y (by rw [i64t, i64t]; show _ ∧ _ ≤ (B 0 10).toInt; rw [lB, nI_toInt (by omega), nI_toInt (by omega), show (0 : Int64).toInt = 0 from rfl]; omega), Option.bind_some, if_pos n10]
      dsimp only
      rw [e2, Option.bind_some]
      exact r2
    · simp only [List.mem_cons, List.not_mem_nil, or_false, not_or] at hc
      rw [r4 c (by simp only [List.mem_cons, List.not_mem_nil, or_false, not_or]; omega)]
      exact f1 c (by simp only [List.mem_cons, List.not_mem_nil, or_false, not_or]; omega)
    · rw [r5 c c0 c4]
      exact y0 c c1 c2 c3 c4
    · rw [r6 j hj, y00]
