section
variable {X : EX} {A B : Mem} {n o t : Nat}
theorem cd_A (A : Mem) : ∀ (k fu i a b : Nat), i + k = 20 → k < fu → a + i ≤ 20 → 0 < b → b ≤ 20 → F8_commonDivisor_l7 fu A (nI a) (nI b) (nI i) = some (nI (Nat.gcd a b), A) := by
  have jm : ∀ b, 0 < b → b ≤ 20 → jmax 1 (nI b) = nI b := by
    intro b h1 h2
    unfold jmax
    by_cases h : 1 < b
    · rw [if_pos (show (1 : Int32) < nI b from nI_lt (a := 1) h (by omega))]
    · obtain rfl : b = 1 := by omega
      rfl
  intro k
  induction k with
  | zero =>
    intro fu i a b hi hf ha hb hb2
    obtain ⟨fu, rfl⟩ : ∃ f, fu = f + 1 := ⟨fu - 1, by omega⟩
    obtain rfl : i = 20 := by omega
    obtain rfl : a = 0 := by omega
    show F8_commonDivisor_l7_b _ A (nI 0) (nI b) (nI 20) = _
    unfold F8_commonDivisor_l7_b
    rw [if_pos (by decide), jm b hb hb2, Nat.gcd_zero_left]
  | succ k ih =>
    intro fu i a b hi hf ha hb hb2
    obtain ⟨fu, rfl⟩ : ∃ f, fu = f + 1 := ⟨fu - 1, by omega⟩
    show F8_commonDivisor_l7_b _ A (nI a) (nI b) (nI i) = _
    unfold F8_commonDivisor_l7_b
    rw [if_neg (show ¬ (20 : Int32) ≤ nI i from nI_ge (b := 20) (by omega) (by decide))]
    by_cases h : a = 0
    · subst h
      rw [if_pos (show nI 0 ≤ 0 by decide), jm b hb hb2, Nat.gcd_zero_left]
    · have hr : jrem (nI b) (nI a) = nI (b % a) := by
        unfold jrem
        exact pk_rem (by omega) (by omega) (by omega)
      have hm := Nat.mod_lt b (show a > 0 by omega)
      rw [if_neg (nI_nle (by omega) (by omega)), if_pos (nI_ne0 (by omega) (by omega)), hr, nI_1, ih fu (i + 1) (b % a) a (by omega) (by omega) (by omega) (by omega) (by omega), ← Nat.gcd_rec]
theorem cd_B (B : Mem) (x2 x3 : Int32) (x4 : Int64) : ∀ (fu a b : Nat), b < fu → a < 2 ^ 31 → b < 2 ^ 31 → 0 < Nat.gcd a b → F9_chance_l78 fu B x2 x3 x4 (lN a) (lN b) = if ¬ x3 = 0 then some (Int32.toInt64 x2 / lN (Nat.gcd a b), B) else some (x4 / lN (Nat.gcd a b), B) := by
  intro fu
  induction fu with
  | zero => intro a b h; omega
  | succ fu ih =>
    intro a b hb ha hb2 hg
    have l0 : ∀ c, 0 < c → c < 2 ^ 31 → ¬ lN c = 0 := fun c h1 h2 e => by
      have := (lN_eq (a := c) (b := 0) h2 (by decide)).mp e
      omega
    show F9_chance_l78_b _ B x2 x3 x4 (lN a) (lN b) = _
    unfold F9_chance_l78_b
    by_cases h : b = 0
    · subst h
      rw [Nat.gcd_zero_right] at hg ⊢
      rw [if_pos (show lg_cmp (lN 0) 0 = 0 from lg0.mpr rfl)]
      by_cases h3 : x3 = 0
      · rw [if_neg (fun z => z h3), if_pos (l0 a hg ha), if_neg (fun z => z h3)]
      · rw [if_pos h3, if_pos h3, if_pos (l0 a hg ha)]
    · have hr : jremL (lN a) (lN b) = lN (a % b) := by
        unfold jremL
        exact pk_lRem (by omega) (by omega) (by omega)
      have hm := Nat.mod_lt a (show b > 0 by omega)
      have eg : Nat.gcd b (a % b) = Nat.gcd a b := by
        rw [Nat.gcd_comm b, ← Nat.gcd_rec, Nat.gcd_comm]
      rw [if_neg (fun q => l0 b (by omega) hb2 (lg0.mp q)), if_pos (l0 b (by omega) hb2), hr, ih b (a % b) (by omega) hb2 (by omega) (by rw [eg]; exact hg), eg]
theorem chance_R {tv : Tv} (hT : TellA tv A) (hU : TellB tv B) (hO : TvOk tv) (h : RL n o A B) (g : RG t A B) (a1 a2 a3 : Int32) : ∃ v A' B', F8_chance A a1 a2 a3 = some (v, A') ∧ F9_chance B a1 a2 a3 = some (v, B') ∧ SA A A' ∧ SM B B' := by
  rcases cs a2 21 (by decide) with q | ⟨N, hN, rfl⟩
  · refine ⟨-4611686018427387904, A, B, ?_, ?_, SA.rf, SM.rf⟩
    · unfold F8_chance
      have e1 : (1 : Int32).toInt = 1 := by decide
      have e2 : (20 : Int32).toInt = 20 := by decide
      by_cases h1 : a2 < 1
      · rw [if_pos h1]
      · rw [if_neg h1, if_pos (by rw [ilt, e1] at h1; rw [ilt, e2]; omega)]
    · unfold F9_chance
      rw [in_n (by rw [i64t, show (1 : Int64).toInt = 1 from rfl, show (20 : Int64).toInt = 20 from rfl]; omega)]
      rfl
  by_cases hN0 : N = 0
  · subst hN0
    refine ⟨-4611686018427387904, A, B, ?_, ?_, SA.rf, SM.rf⟩
    · unfold F8_chance
      rw [if_pos (by decide)]
    · unfold F9_chance
      rw [in_n (by decide)]
      rfl
  have f1 : F9_in B (Int32.toInt64 (nI N)) 1 20 = some (1, B) := in_y (by rw [i64t, nI_toInt (by omega), show (1 : Int64).toInt = 1 from rfl, show (20 : Int64).toInt = 20 from rfl]; omega)
  have k1 : ¬ nI N < 1 := nI_nlt (b := 1) (by omega) (by omega)
  have k2 : ¬ (20 : Int32) < nI N := nI_nlt (a := 20) (by omega) (by decide)
  rcases in01 (M := B) a3 1 0 1 rfl rfl (by decide) with ⟨j, hj, rfl, l1, l2, e⟩ | ⟨q, e⟩
  · have hX := OKX_of (t := t) hO h g
    obtain ⟨A2, p1, pA, s2, -⟩ := prep_A (t := t) hT hO h g
    obtain ⟨A3, v1, v2, v3, v4⟩ := sv hX p1 pA
    have sA : SA A A3 := (s2.sa (by decide)).tr (v4.sa (by decide))
    have h8 : A3 8 = A 8 := sA 8 (by decide)
    have key : ∀ (k fu i c : Nat) (M : Mem), i + k = N → k < fu → c ≤ i → SM B M → ∃ v B', F8_chance_l44 fu A3 a1 (nI N) (nI j) (nI c) (nI i) = some (v, A3) ∧ F9_chance_l32 fu M a1 (nI N) (nI j) (lN c) (nI i) = some (v, B') ∧ SM B B' := by
      intro k
      induction k with
      | zero =>
        intro fu i c M hi hf hc hM
        obtain ⟨fu, rfl⟩ : ∃ f, fu = f + 1 := ⟨fu - 1, by omega⟩
        obtain rfl : i = N := by omega
        have hg : 0 < Nat.gcd c i := Nat.gcd_pos_of_pos_right _ (by omega)
        have hg2 : Nat.gcd c i ≤ i := Nat.le_of_dvd (by omega) (Nat.gcd_dvd_right c i)
        have eA : F8_chance_l44 (fu + 1) A3 a1 (nI i) (nI j) (nI c) (nI i) = if ¬ nI j = 0 then F8_chance_j109 A3 (nI i) (nI c) (nI i) else F8_chance_j109 A3 (nI i) (nI c) (nI c) := by
          show F8_chance_l44_b _ A3 a1 (nI i) (nI j) (nI c) (nI i) = _
          unfold F8_chance_l44_b
          rw [if_pos (nI_le (by omega) (by omega))]
        have eB : F9_chance_l32 (fu + 1) M a1 (nI i) (nI j) (lN c) (nI i) = F9_chance_l78 FUEL M (nI i) (nI j) (lN c) (lN c) (lN i) := by
          show F9_chance_l32_b _ M a1 (nI i) (nI j) (lN c) (nI i) = _
          unfold F9_chance_l32_b
          rw [if_pos (nI_le (by omega) (by omega)), nI_l (by omega)]
        have ej : ∀ y, y < 2 ^ 31 → F8_chance_j109 A3 (nI i) (nI c) (nI y) = some (lN (y / Nat.gcd c i), A3) := by
          intro y hy
          have hd := Nat.div_le_self y (Nat.gcd c i)
          unfold F8_chance_j109 F8_commonDivisor
          rw [show (0 : Int32) = nI 0 from rfl, cd_A A3 20 FUEL 0 c i (by omega) (by unfold FUEL; omega) (by omega) (by omega) (by omega), Option.bind_some]
          dsimp only
          rw [if_pos (show ¬ nI (Nat.gcd c i) = nI 0 from nI_ne0 hg (by omega)), pk_div hy hg (by omega), nI_l (by omega)]
        rw [eA, eB, cd_B M (nI i) (nI j) (lN c) FUEL c i (by unfold FUEL; omega) (by omega) (by omega) hg, ej i (by omega), ej c (by omega)]
        by_cases h3 : nI j = 0
        · rw [if_neg (fun z => z h3), if_neg (fun z => z h3), pk_lDiv (by omega) hg (by omega)]
          exact ⟨_, M, rfl, rfl, hM⟩
        · rw [if_pos h3, if_pos h3, nI_l (by omega), pk_lDiv (by omega) hg (by omega)]
          exact ⟨_, M, rfl, rfl, hM⟩
      | succ k ih =>
        intro fu i c M hi hf hc hM
        obtain ⟨fu, rfl⟩ : ∃ f, fu = f + 1 := ⟨fu - 1, by omega⟩
        have hd := draw_A (A := A3) g.1 v2.1 (a1 + nI i)
        rw [h8] at hd
        have hm : drN (A 8) t 0 (a1 + nI i) 0 < 64 := drN_64 (by have := g.1; omega) (by decide)
        obtain ⟨s, r, hs, c1, c2, c3, c4, c5, c6⟩ := chb hX hm v3
        obtain ⟨r', B2, d1, d2, d3, d4⟩ := draws_B hU hO h g hM (a1 + nI i)
        rw [c2] at d1
        cases d1
        have hb := bkX_le hX c3.1 c3.2.2
        have eA : F8_chance_l44 (fu + 1) A3 a1 (nI N) (nI j) (nI c) (nI i) = if ¬ nI (lkX (exO tv A n o t) (bkX (exO tv A n o t) r)) = 0 then F8_chance_l44 fu A3 a1 (nI N) (nI j) (nI c) (nI (i + 1)) else F8_chance_l44 fu A3 a1 (nI N) (nI j) (nI (c + 1)) (nI (i + 1)) := by
          show F8_chance_l44_b _ A3 a1 (nI N) (nI j) (nI c) (nI i) = _
          unfold F8_chance_l44_b F8_chance_j93
          rw [if_neg (nI_ge (by omega) (by omega)), hd, Option.bind_some]
          dsimp only
          rw [c1, Option.bind_some, if_pos (inb_of hs (by decide)), nI_clamp (by omega)]
          dsimp only
          rw [c5, letBy_A hX v2 (by omega), Option.bind_some, nI_1, nI_1]
        have eB : F9_chance_l32 (fu + 1) M a1 (nI N) (nI j) (lN c) (nI i) = if ¬ nI (lkX (exO tv A n o t) (bkX (exO tv A n o t) r)) = 0 then F9_chance_l32 fu B2 a1 (nI N) (nI j) (lN c) (nI (i + 1)) else F9_chance_l32 fu B2 a1 (nI N) (nI j) (lN (c + 1)) (nI (i + 1)) := by
          show F9_chance_l32_b _ M a1 (nI N) (nI j) (lN c) (nI i) = _
          unfold F9_chance_l32_b F9_chance_j61
          rw [if_neg (nI_ge (by omega) (by omega)), d2, Option.bind_some]
          dsimp only
          simp only [d3]
          rw [nI_1, Int64.add_zero, lN_1]
        rw [eA, eB]
        by_cases h0 : nI (lkX (exO tv A n o t) (bkX (exO tv A n o t) r)) = 0
        · rw [if_neg (fun z => z h0), if_neg (fun z => z h0)]
          exact ih fu (i + 1) (c + 1) B2 (by omega) (by omega) (by omega) d4
        · rw [if_pos h0, if_pos h0]
          exact ih fu (i + 1) c B2 (by omega) (by omega) (by omega) d4
    obtain ⟨v, B', r1, r2, r3⟩ := key N FUEL 0 0 B (by omega) (by unfold FUEL; omega) (by omega) SM.rf
    refine ⟨v, A3, B', ?_, ?_, sA, r3⟩
    · unfold F8_chance
      rw [if_neg k1, if_neg k2, if_neg l1, if_pos (show nI j ≤ 1 from l2), show F6_all A = some (nI (2 ^ xt (exO tv A n o t) - 1), A) from all_A hX g.2.1, Option.bind_some]
      dsimp only
      rw [v1, Option.bind_some]
      exact r1
    · unfold F9_chance
      rw [f1, Option.bind_some, if_neg n10, e, Option.bind_some, if_pos n10]
      exact r2
  · refine ⟨-4611686018427387904, A, B, ?_, ?_, SA.rf, SM.rf⟩
    · unfold F8_chance
      rw [if_neg k1, if_neg k2]
      by_cases h1 : a3 < 0
      · rw [if_pos h1]
      · rw [if_neg h1, if_neg]
        rcases q with q | q
        · exact absurd q h1
        · exact q
    · unfold F9_chance
      rw [f1, Option.bind_some, if_neg n10, e]
      rfl
end
