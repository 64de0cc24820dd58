section
variable {X : EX} {A B : Mem} {n o t : Nat}
/-- the gain of the best of all, on both sides -/
theorem top_AB {tv : Tv} (hT : TellA tv A) (hU : TellB tv B) (hO : TvOk tv) (h : RL n o A B) (g : RG t A B) : ∃ v m A1 B1 B2, F6_all A = some (nI m, A) ∧ F0_survey A (nI m) = some (0, A1) ∧ F0_mostGain A1 (nI m) = some (v, A1) ∧ F9_gathers B = some (0, B1) ∧ F9_allThings B1 = some (nI m, B1) ∧ F9_seeks B1 (nI m) = some (v, B2) ∧ SA A A1 ∧ SM B B2 ∧ m = 2 ^ t - 1 := by
  obtain ⟨X, A2, B2, hX, hxt, p1, p2, pA, pB, s2A, s2B, -⟩ := pg (t := t) hT hU hO h g
  obtain ⟨A3, v1, v2, v3, v4⟩ := sv hX p1 pA
  obtain ⟨c, c1, c2⟩ := most_A hX (al64 hX) v3
  obtain ⟨r, f, B3, d1, d2, d3, d4, d5, d6, -, -, d7⟩ := seeks_B hX (al64 hX) pB
  rw [c2] at d1
  cases d1
  exact ⟨gnP X c, 2 ^ xt X - 1, A3, B2, B3, all_A hX (by rw [hxt]; exact g.2.1), v1, c1, p2, all_B hX pB.1, d3, s2A.tr (v4.sa (by decide)), s2B.tr d7, by rw [hxt]⟩
theorem SA.up14 {A M : Mem} {w p : Int32} (h : SA (up2 A 1 4 w) M) : SA (up2 A 1 4 p) (up2 M 1 4 p) := by
  intro c hc
  by_cases e : c = 1
  · subst e
    funext k
    by_cases ek : k = 4
    · subst ek; rw [up2_at, up2_at]
    · rw [up2_nk ek, up2_nk ek, h 1 hc, up2_nk ek]
  · rw [up2_ne e, up2_ne e, h c hc, up2_ne e]
theorem SM.up11 {B N : Mem} {w p : Int32} (h : SM (up2 B 0 11 w) N) : SM (up2 B 0 11 p) (up2 N 0 11 p) := by
  refine ⟨fun c c0 hc => by rw [up2_ne c0, up2_ne c0, h.1 c c0 hc, up2_ne c0], fun k hk => ?_⟩
  by_cases ek : k = 11
  · subst ek; rw [up2_at, up2_at]
  · rw [up2_nk ek, up2_nk ek, h.2 k hk, up2_nk ek]
theorem up_id {A : Mem} {c k : Nat} {v : Int32} (h : A c k = v) : up2 A c k v = A := by
  funext a b
  unfold up2
  by_cases h1 : a = c
  · subst h1
    by_cases h2 : b = k
    · subst h2; simp [h]
    · simp [h2]
  · simp [h1]
theorem stand_R (hTU : ∀ p, p ≤ n → ∃ tv, TvOk tv ∧ TellA tv (up2 A 1 4 (nI p)) ∧ TellB tv (up2 B 0 11 (nI p))) (h : RL n o A B) (g : RG t A B) (a1 : Int32) : ∃ v A' B', F8_stand A a1 = some (v, A') ∧ F9_stand B a1 = some (v, B') ∧ SA A A' ∧ SM B B' := by
  rcases in01 (M := B) a1 1 0 1 rfl rfl (by decide) with ⟨j, hj, rfl, l1, l2, e⟩ | ⟨q, e⟩
  · have h0 := h
    obtain ⟨h8, hon, lA, lB, loA, loB, hg, hi⟩ := h
    have one : ∀ p M N w w', p ≤ n → SA (up2 A 1 4 w) M → SM (up2 B 0 11 w') N → ∃ v M1 N1 N2, F0_survey (up2 M 1 4 (nI p)) (nI (2 ^ t - 1)) = some (0, M1) ∧ F0_mostGain M1 (nI (2 ^ t - 1)) = some (v, M1) ∧ F9_gathers (up2 N 0 11 (nI p)) = some (0, N1) ∧ F9_allThings N1 = some (nI (2 ^ t - 1), N1) ∧ F9_seeks N1 (nI (2 ^ t - 1)) = some (v, N2) ∧ SA (up2 A 1 4 (nI p)) M1 ∧ SM (up2 B 0 11 (nI p)) N2 := by
      intro p M N w w' hp hM hN
      obtain ⟨tv, hO, hT, hU⟩ := hTU p hp
      have hM1 := hM.up14 (p := nI p)
      have hN1 := hN.up11 (p := nI p)
      have uA : ∀ c, c ≠ 1 → up2 A 1 4 (nI p) c = A c := fun c hc => up2_ne hc
      have uB : ∀ c, c ≠ 0 → up2 B 0 11 (nI p) c = B c := fun c hc => up2_ne hc
      have hL : RL n p (up2 A 1 4 (nI p)) (up2 B 0 11 (nI p)) := ⟨h8, hp, by rw [up2_nk (by decide)]; exact lA, by rw [up2_nk (by decide)]; exact lB, up2_at, up2_at, by rw [up2_nk (by decide), up2_nk (by decide)]; exact hg, fun i hi8 => by
        rw [uA 2 (by decide), uA 3 (by decide), uA 4 (by decide), uB 4 (by decide), uB 5 (by decide), uB 6 (by decide)]
        exact hi i hi8⟩
      have hG : RG t (up2 A 1 4 (nI p)) (up2 B 0 11 (nI p)) := g.cong (uA 5 (by decide)) (uA 6 (by decide)) (uA 7 (by decide)) (uA 8 (by decide)) (by rw [up2_nk (by decide)]) (uB 7 (by decide)) (uB 8 (by decide)) (uB 9 (by decide))
      obtain ⟨v, m, A1, B1, B2, r0, r1, r2, r3, r4, r5, r6, r7, rfl⟩ := top_AB (hT.ka hM1.ka) (hU.kb hN1.kb) hO (hL.s hM1 hN1) (hG.s hM1 hN1)
      exact ⟨v, A1, B1, B2, r1, r2, r3, r4, r5, hM1.tr r6, hN1.tr r7⟩
    have bk : ∀ M w, SA (up2 A 1 4 w) M → SA A (up2 M 1 4 (nI o)) := fun M w hM => by
      have := hM.up14 (p := nI o)
      rw [up_id loA] at this
      exact this
    have bkB : ∀ N w, SM (up2 B 0 11 w) N → SM B (up2 N 0 11 (nI o)) := fun N w hN => by
      have := hN.up11 (p := nI o)
      rw [up_id loB] at this
      exact this
    have key : ∀ (k fu i : Nat) (M N : Mem) (w w' pl mo pl' : Int32), i + k = n + 1 → k < fu → 1 ≤ i → SA (up2 A 1 4 w) M → SM (up2 B 0 11 w') N → pl' = pl → (∃ q, q < i ∧ pl = nI q) → ∃ v M' N', F8_stand_l37 fu M (nI j) (nI (2 ^ t - 1)) (nI o) pl mo (nI i) = some (v, M') ∧ F9_stand_l27 fu N (nI j) (nI o) pl' mo (nI i) = some (v, N') ∧ SA A M' ∧ SM B N' := by
      intro k
      induction k with
      | zero =>
        intro fu i M N w w' pl mo pl' hk hf h1 hM hN hpl hq
        subst hpl
        obtain ⟨fu, rfl⟩ : ∃ f, fu = f + 1 := ⟨fu - 1, by omega⟩
        have m3 : M 1 3 = nI n := by rw [hM 1 (by decide), up2_nk (by decide)]; exact lA
        have n10' : N 0 10 = nI n := by rw [hN.2 10 (by decide), up2_nk (by decide)]; exact lB
        have eA : F8_stand_l37 (fu + 1) M (nI j) (nI (2 ^ t - 1)) (nI o) pl' mo (nI i) = if ¬ nI j = 0 then some (mo, up2 M 1 4 (nI o)) else some (pl', up2 M 1 4 (nI o)) := by
          show F8_stand_l37_b _ M _ _ _ _ _ (nI i) = _
          unfold F8_stand_l37_b
          rw [m3, if_pos (nI_lt (by omega) (by omega))]
        have eB : F9_stand_l27 (fu + 1) N (nI j) (nI o) pl' mo (nI i) = if ¬ nI j = 0 then some (mo, up2 N 0 11 (nI o)) else some (pl', up2 N 0 11 (nI o)) := by
          show F9_stand_l27_b _ N _ _ _ _ (nI i) = _
          unfold F9_stand_l27_b
          rw [n10', if_pos (nI_lt (by omega) (by omega))]
        rw [eA, eB]
        by_cases hj0 : nI j = 0
        · rw [if_neg (fun z => z hj0), if_neg (fun z => z hj0)]
          exact ⟨_, _, _, rfl, rfl, bk M w hM, bkB N w' hN⟩
        · rw [if_pos hj0, if_pos hj0]
          exact ⟨_, _, _, rfl, rfl, bk M w hM, bkB N w' hN⟩
      | succ k ih =>
        intro fu i M N w w' pl mo pl' hk hf h1 hM hN hpl hq
        subst hpl
        obtain ⟨fu, rfl⟩ : ∃ f, fu = f + 1 := ⟨fu - 1, by omega⟩
        obtain ⟨v, M1, N1, N2, r1, r2, r3, r4, r5, r6, r7⟩ := one i M N w w' (by omega) hM hN
        have m3 : M 1 3 = nI n := by rw [hM 1 (by decide), up2_nk (by decide)]; exact lA
        have n10' : N 0 10 = nI n := by rw [hN.2 10 (by decide), up2_nk (by decide)]; exact lB
        have pm : ¬ pl' = -1 := by obtain ⟨q, h2, rfl⟩ := hq; exact nI_m1 (by omega)
        have eA : F8_stand_l37 (fu + 1) M (nI j) (nI (2 ^ t - 1)) (nI o) pl' mo (nI i) = if v ≤ mo then F8_stand_l37 fu M1 (nI j) (nI (2 ^ t - 1)) (nI o) pl' mo (nI (i + 1)) else F8_stand_l37 fu M1 (nI j) (nI (2 ^ t - 1)) (nI o) (nI i) v (nI (i + 1)) := by
          show F8_stand_l37_b _ M _ _ _ _ _ (nI i) = _
          unfold F8_stand_l37_b F8_stand_j88 F8_stand_j96
          rw [m3, if_neg (nI_nlt (by omega) (by omega)), r1, Option.bind_some]
          dsimp only
          rw [r2, Option.bind_some, if_neg (nI_ne0 (by omega) (by omega)), nI_1]
        have eB : F9_stand_l27 (fu + 1) N (nI j) (nI o) pl' mo (nI i) = if v ≤ mo then F9_stand_l27 fu N2 (nI j) (nI o) pl' mo (nI (i + 1)) else F9_stand_l27 fu N2 (nI j) (nI o) (nI i) v (nI (i + 1)) := by
          show F9_stand_l27_b _ N _ _ _ _ (nI i) = _
          unfold F9_stand_l27_b F9_stand_j68 F9_stand_j75
          rw [n10', if_neg (nI_nlt (by omega) (by omega)), r3, Option.bind_some]
          dsimp only
          rw [r4, Option.bind_some]
          dsimp only
          rw [r5, Option.bind_some, if_neg pm, nI_1]
        rw [eA, eB]
        by_cases hv : v ≤ mo
        · rw [if_pos hv, if_pos hv]
          exact ih fu (i + 1) M1 N2 (nI i) (nI i) pl' mo pl' (by omega) (by omega) (by omega) r6 r7 rfl (by obtain ⟨q, h2, h3⟩ := hq; exact ⟨q, by omega, h3⟩)
        · rw [if_neg hv, if_neg hv]
          exact ih fu (i + 1) M1 N2 (nI i) (nI i) (nI i) v (nI i) (by omega) (by omega) (by omega) r6 r7 rfl ⟨i, by omega, rfl⟩
    obtain ⟨v, M1, N1, N2, r1, r2, r3, r4, r5, r6, r7⟩ := one 0 A B (nI o) (nI o) (by omega) (by rw [up_id loA]; exact SA.rf) (by rw [up_id loB]; exact SM.rf)
    obtain ⟨u, M', N', q1, q2, q3, q4⟩ := key n (FUEL - 1) 1 M1 N2 (nI 0) (nI 0) (nI 0) v (nI 0) (by omega) (by unfold FUEL; omega) (by omega) r6 r7 rfl ⟨0, by omega, rfl⟩
    refine ⟨u, M', N', ?_, ?_, q3, q4⟩
    · unfold F8_stand
      have ea : F6_all A = some (nI (2 ^ t - 1), A) := by
        unfold F6_all
        rw [g.2.1, bt_all _ (by have := g.1; omega)]
      rw [if_neg l1, if_pos (show nI j ≤ 1 from l2), ea, Option.bind_some]
      dsimp only
      rw [loA]
      show F8_stand_l37_b (F8_stand_l37 (FUEL - 1)) A (nI j) (nI (2 ^ t - 1)) (nI o) 0 0 (nI 0) = _
      unfold F8_stand_l37_b F8_stand_j88 F8_stand_j96
      rw [lA, if_neg (nI_nlt (by omega) (by omega)), r1, Option.bind_some]
      dsimp only
      rw [r2, Option.bind_some, if_pos (show nI 0 = 0 from rfl), nI_1]
      exact q1
    · unfold F9_stand
      rw [e, Option.bind_some, if_pos n10]
      dsimp only
      rw [loB]
      show F9_stand_l27_b (F9_stand_l27 (FUEL - 1)) B (nI j) (nI o) (-1) 0 (nI 0) = _
      unfold F9_stand_l27_b F9_stand_j68 F9_stand_j75
      rw [lB, if_neg (nI_nlt (by omega) (by omega)), r3, Option.bind_some]
      dsimp only
      rw [r4, Option.bind_some]
      dsimp only
      rw [r5, Option.bind_some, if_pos rfl, nI_1]
      exact q2
  · refine ⟨-100000, A, B, ?_, ?_, SA.rf, SM.rf⟩
    · unfold F8_stand
      by_cases h1 : a1 < 0
      · rw [if_pos h1]
      · rw [if_neg h1, if_neg]
        rcases q with q | q
        · exact absurd q h1
        · exact q
    · unfold F9_stand
      rw [e]
      rfl
end
