/-! ERRANDS: the best of all, and what rests on it -/
section
variable {X : EX} {A B : Mem} {n o t : Nat}
theorem al64 (hX : OKX X) : 2 ^ xt X - 1 < 64 := by
  have h6 := hX.1
  generalize xt X = t at h6
  rcases (show t = 0 ∨ t = 1 ∨ t = 2 ∨ t = 3 ∨ t = 4 ∨ t = 5 ∨ t = 6 by omega) with rfl | rfl | rfl | rfl | rfl | rfl | rfl <;> decide
theorem all_A (hX : OKX X) (h : A 5 3 = nI (xt X)) : F6_all A = some (nI (2 ^ xt X - 1), A) := by
  unfold F6_all
  rw [h, bt_all _ (by have := hX.1; omega)]
theorem all_B (hX : OKX X) (h : B 0 16 = nI (xt X)) : F9_allThings B = some (nI (2 ^ xt X - 1), B) := by
  unfold F9_allThings
  rw [h, bt_all _ (by have := hX.1; omega)]
/-- a survey of all lays the table -/
theorem sv (hX : OKX X) {A1 : Mem} (h1 : F0_prepare A = some (0, A1)) (hP : PA X A1) : ∃ A3, F0_survey A (nI (2 ^ xt X - 1)) = some (0, A3) ∧ PA X A3 ∧ (∀ s, s < 64 → tbR X A3 s (tabX X (2 ^ xt X - 1) s)) ∧ FA [34, 39, 40, 41] A1 A3 := by
  obtain ⟨A2, e, p2, f2, m2⟩ := survey_A hX (al64 hX) h1 hP
  have ff := fold_f X (vis (xt X) (2 ^ xt X - 1) 6 []) A2
  refine ⟨_, e, p2.fold _, fun s hs => tbR_fold _ A2 none (m2 s hs) (fun c hc => by cases hc) (fun p hp => (vis_okP hX hp).pl hX), fun c hc => ?_⟩
  rw [ff.1 c hc]
  simp only [List.mem_cons, List.not_mem_nil, or_false, not_or] at hc
  exact f2 c (by simp; omega)
theorem chb (hX : OKX X) {m : Nat} (hm : m < 64) (hT : ∀ s, s < 64 → tbR X A s (tabX X (2 ^ xt X - 1) s)) : ∃ s c, s < 64 ∧ F0_choose A (nI m) = some (nI s, A) ∧ bestX X m = some c ∧ okP X c ∧ A 39 s = nI (plR c) ∧ A 40 s = nI (bkX X c) ∧ A 41 s = gnP X c := by
  obtain ⟨s, c, hs, hsm, hc, e, hall⟩ := choose_A hX hm hT
  have t := hT s hs
  rw [hc] at t
  exact ⟨s, c, hs, e, choose_is hX hm hsm hc hall, vis_okP hX (tabX_mem hX hc).1, t⟩
theorem most_A (hX : OKX X) {m : Nat} (hm : m < 64) (hT : ∀ s, s < 64 → tbR X A s (tabX X (2 ^ xt X - 1) s)) : ∃ c, F0_mostGain A (nI m) = some (gnP X c, A) ∧ bestX X m = some c := by
  obtain ⟨s, c, hs, e, hb, -, -, -, g⟩ := chb hX hm hT
  refine ⟨c, ?_, hb⟩
  unfold F0_mostGain
  rw [e, Option.bind_some, if_pos (inb_of hs (by decide)), nI_clamp (by omega)]
  dsimp only
  rw [g]
theorem pgB {tv : Tv} (hU : TellB tv B) (hO : TvOk tv) (h : RL n o A B) (g : RG t A B) {B1 : Mem} (s : SM B B1) : ∃ B2, F9_gathers B1 = some (0, B2) ∧ PB (exO tv A n o t) n o B2 ∧ SM B B2 := by
  obtain ⟨B2, e, gb, p⟩ := gath_P (t := t) (A := A) (hU.kb s.kb) hO (h.s SA.rf s) (g.s SA.rf s)
  exact ⟨B2, e, p, s.tr gb.sm⟩
theorem best_R {tv : Tv} (hT : TellA tv A) (hU : TellB tv B) (hO : TvOk tv) (h : RL n o A B) (g : RG t A B) (a1 : Int32) : ∃ v A' B', F8_best A a1 = some (v, A') ∧ F9_best B a1 = some (v, B') ∧ SA A A' ∧ SM B B' := by
  rcases in01 (M := B) a1 3 0 3 rfl rfl (by decide) with ⟨j, hj, rfl, l1, l2, e⟩ | ⟨q, e⟩
  · obtain ⟨X, A2, B2, hX, hxt, p1, p2, pA, pB, s2A, s2B, -⟩ := pg (t := t) hT hU hO h g
    obtain ⟨A3, v1, v2, v3, v4⟩ := sv hX p1 pA
    have sA : SA A A3 := s2A.tr (v4.sa (by decide))
    obtain ⟨s, c, hs, c1, c2, c3, c4, c5, c6⟩ := chb hX (al64 hX) v3
    obtain ⟨r, f, B3, d1, d2, d3, d4, d5, d6, -, -, d7⟩ := seeks_B hX (al64 hX) pB
    have hrc : r = c := by rw [c2] at d1; cases d1; rfl
    subst hrc
    have hb := bkX_le hX d2.1 d2.2.2
    have hf : ∀ i, i < r.length → f i < xt X := (okP.ls (X := X) (q := r.length) (f := f) (by rw [d5]; exact d2)).2
    have eA : F8_best A (nI j) = if nI j = 0 then some (nI (plR r), A3) else if nI j = 1 then some (nI (bkX X r), A3) else if nI j = 2 then some (gnP X r, A3) else some (nI (lkX X (bkX X r)), A3) := by
      unfold F8_best
      rw [if_neg l1, if_pos (show nI j ≤ 3 from l2), all_A hX (by rw [hxt]; exact g.2.1), Option.bind_some]
      dsimp only
      rw [v1, Option.bind_some]
      dsimp only
      rw [c1, Option.bind_some]
      dsimp only
      rw [if_pos (inb_of hs (by decide)), if_pos (inb_of hs (by decide)), if_pos (inb_of hs (by decide)), if_pos (inb_of hs (by decide)), nI_clamp (by omega), c4, c5, c6, letBy_A hX v2 (by omega), Option.bind_some]
    have eB : F9_best B (nI j) = if ¬ nI j = 0 then if ¬ nI j = 1 then if ¬ nI j = 2 then some (nI (lkX X (bkX X r)), up2 B3 0 36 (nI (lkX X (bkX X r)))) else some (gnP X r, up2 B3 0 36 (nI (lkX X (bkX X r)))) else some (nI (bkX X r), up2 B3 0 36 (nI (lkX X (bkX X r)))) else some (nI (plR r), B3) := by
      unfold F9_best
      rw [e, Option.bind_some, if_pos n10]
      dsimp only
      rw [p2, Option.bind_some]
      dsimp only
      rw [all_B hX pB.1, Option.bind_some]
      dsimp only
      rw [d3, Option.bind_some]
      dsimp only
      rw [back_B hX d4 d6 hf, digits_B d6, Option.bind_some, Option.bind_some, d5]
      dsimp only
      rw [worth_B hX d4 d6 hf, Option.bind_some, d5]
      dsimp only
      rw [gain_B hX d4 (by omega), Option.bind_some]
      dsimp only
      rw [up2_at]
    rw [eA, eB]
    by_cases h0 : nI j = 0
    · rw [if_pos h0, if_neg (fun z => z h0)]
      exact ⟨_, A3, B3, rfl, rfl, sA, s2B.tr d7⟩
    · rw [if_neg h0, if_pos h0]
      by_cases h1 : nI j = 1
      · rw [if_pos h1, if_neg (fun z => z h1)]
        exact ⟨_, A3, _, rfl, rfl, sA, (s2B.tr d7).tr (SM.up36 _)⟩
      · rw [if_neg h1, if_pos h1]
        by_cases h2 : nI j = 2
        · rw [if_pos h2, if_neg (fun z => z h2)]
          exact ⟨_, A3, _, rfl, rfl, sA, (s2B.tr d7).tr (SM.up36 _)⟩
        · rw [if_neg h2, if_pos h2]
          exact ⟨_, A3, _, rfl, rfl, sA, (s2B.tr d7).tr (SM.up36 _)⟩
  · refine ⟨-100000, A, B, ?_, ?_, SA.rf, SM.rf⟩
    · unfold F8_best
      by_cases h1 : a1 < 0
      · rw [if_pos h1]
      · rw [if_neg h1, if_neg]
        rcases q with q | q
        · exact absurd q h1
        · exact q
    · unfold F9_best
      rw [e]
      rfl
theorem more_R {tv : Tv} (hT : TellA tv A) (hU : TellB tv B) (hO : TvOk tv) (h : RL n o A B) (g : RG t A B) (a1 : Int32) : ∃ v A' B', F8_more A a1 = some (v, A') ∧ F9_more B a1 = some (v, B') ∧ SA A A' ∧ SM B B' := by
  rcases cs a1 t (by have := g.1; omega) with q | ⟨x, hx, rfl⟩
  · refine ⟨-100000, A, B, ?_, ?_, SA.rf, SM.rf⟩
    · unfold F8_more; rw [thgA_n g.2.1 g.1 q]; rfl
    · unfold F9_more; rw [thgB_n g.2.2.1 g.1 q]; rfl
  · obtain ⟨X, A2, B2, hX, hxt, p1, p2, pA, pB, s2A, s2B, -⟩ := pg (t := t) hT hU hO h g
    obtain ⟨A3, v1, v2, v3, v4⟩ := sv hX p1 pA
    have sA : SA A A3 := s2A.tr (v4.sa (by decide))
    have hx6 : x < 6 := by have := g.1; omega
    have hl : ∀ m, m < 64 → ∀ x, x < 6 → m ^^^ (m &&& 2 ^ x) < 64 := by decide +kernel
    have hl2 := hl _ (al64 hX) x hx6
    obtain ⟨c, c1, c2⟩ := most_A hX (al64 hX) v3
    obtain ⟨c', c3, c4⟩ := most_A hX hl2 v3
    obtain ⟨r, f, B3, d1, d2, d3, d4, d5, d6, -, -, d7⟩ := seeks_B hX (al64 hX) pB
    obtain ⟨r', f', B4, e1, e2, e3, e4, e5, e6, -, -, e7⟩ := seeks_B hX hl2 d4
    rw [c2] at d1
    cases d1
    rw [c4] at e1
    cases e1
    refine ⟨gnP X c - gnP X c', A3, B4, ?_, ?_, sA, (s2B.tr d7).tr e7⟩
    · unfold F8_more
      rw [thgA_y g.2.1 g.1 hx, Option.bind_some, if_pos n10]
      dsimp only
      rw [all_A hX (by rw [hxt]; exact g.2.1), Option.bind_some]
      dsimp only
      rw [v1, Option.bind_some]
      dsimp only
      rw [c1, Option.bind_some]
      dsimp only
      rw [bt_less _ (al64 hX) x hx6, c3]
      rfl
    · unfold F9_more
      rw [thgB_y g.2.2.1 g.1 hx, Option.bind_some, if_pos n10]
      dsimp only
      rw [p2, Option.bind_some]
      dsimp only
      rw [all_B hX pB.1, Option.bind_some]
      dsimp only
      rw [d3, Option.bind_some]
      dsimp only
      rw [all_B hX d4.1, Option.bind_some]
      dsimp only
      rw [bt_less _ (al64 hX) x hx6, e3]
      rfl
/-- which things are there by a seed -/
def drN (ch : Nat → Int32) : Nat → Nat → Int32 → Nat → Nat
  | 0, _, _, m => m
  | k + 1, i, z, m => drN ch k (i + 1) (z * 1103515245 + 12345) (if ch i ≤ jrem (jushr (z * 1103515245 + 12345) 9) 100 then m else m ||| 2 ^ i)
theorem drN_64 {ch : Nat → Int32} : ∀ {k i m : Nat} {z : Int32}, i + k ≤ 6 → m < 64 → drN ch k i z m < 64
  | 0, _, _, _, _, h => h
  | k + 1, i, m, z, hi, h => by
    unfold drN
    refine drN_64 (by omega) ?_
    split
    · exact h
    · exact bt_or64 m h i (by omega)
theorem draw_A (ht : t ≤ 6) (hA : A 5 3 = nI t) (z : Int32) : F6_draw A z = some (nI (drN (A 8) t 0 z 0), A) := by
  have key : ∀ (k fu i : Nat) (z : Int32) (m : Nat), i + k = t → k < fu → m < 64 → F6_draw_l7 fu A (nI m) z (nI i) = some (nI (drN (A 8) k i z m), A) := by
    intro k
    induction k with
    | zero =>
      intro fu i z m hi hf hm
      obtain ⟨fu, rfl⟩ : ∃ f, fu = f + 1 := ⟨fu - 1, by omega⟩
      show F6_draw_l7_b _ A (nI m) z (nI i) = _
      unfold F6_draw_l7_b
      rw [hA, if_pos (nI_le (by omega) (by omega))]
      rfl
    | succ k ih =>
      intro fu i z m hi hf hm
      obtain ⟨fu, rfl⟩ : ∃ f, fu = f + 1 := ⟨fu - 1, by omega⟩
      show F6_draw_l7_b _ A (nI m) z (nI i) = _
      unfold F6_draw_l7_b F6_draw_j49 drN
      rw [hA, if_neg (nI_ge (by omega) (by omega)), if_pos (inb_of (by omega) (by decide)), nI_clamp (by omega), nI_1]
      by_cases c : A 8 i ≤ jrem (jushr (z * 1103515245 + 12345) 9) 100
      · rw [if_pos c, if_pos c]
        exact ih fu (i + 1) _ m (by omega) (by omega) hm
      · rw [if_neg c, if_neg c, bt_or m hm i (by omega)]
        exact ih fu (i + 1) _ _ (by omega) (by omega) (bt_or64 m hm i (by omega))
  exact key t FUEL 0 z 0 (by omega) (by unfold FUEL; omega) (by decide)
theorem draws_B {tv : Tv} (hU : TellB tv B) (hO : TvOk tv) (h : RL n o A B) (g : RG t A B) {B1 : Mem} (s : SM B B1) (z : Int32) : ∃ r B2, bestX (exO tv A n o t) (drN (A 8) t 0 z 0) = some r ∧ F9_draws B1 z = some (gnP (exO tv A n o t) r, B2) ∧ B2 0 36 = nI (lkX (exO tv A n o t) (bkX (exO tv A n o t) r)) ∧ SM B B2 := by
  have hX := OKX_of (t := t) hO h g
  obtain ⟨ht, gA, gB, gi⟩ := g
  have h16 : B1 0 16 = nI t := by rw [s.2 16 (by decide)]; exact gB
  have key : ∀ (k fu i : Nat) (z : Int32) (m : Nat), i + k = t → k < fu → m < 64 → ∃ r B2, bestX (exO tv A n o t) (drN (A 8) k i z m) = some r ∧ F9_draws_l7 fu B1 z (nI m) (nI i) = some (gnP (exO tv A n o t) r, B2) ∧ B2 0 36 = nI (lkX (exO tv A n o t) (bkX (exO tv A n o t) r)) ∧ SM B B2 := by
    intro k
    induction k with
    | zero =>
      intro fu i z m hi hf hm
      obtain ⟨fu, rfl⟩ : ∃ f, fu = f + 1 := ⟨fu - 1, by omega⟩
      obtain ⟨B2, e, pB, s2⟩ := pgB hU hO h ⟨ht, gA, gB, gi⟩ s
      obtain ⟨r, f, B3, d1, d2, d3, d4, d5, d6, -, -, d7⟩ := seeks_B hX hm pB
      have hb := bkX_le hX d2.1 d2.2.2
      have hf2 : ∀ i, i < r.length → f i < xt (exO tv A n o t) := (okP.ls (X := exO tv A n o t) (q := r.length) (f := f) (by rw [d5]; exact d2)).2
      refine ⟨r, up2 B3 0 36 (nI (lkX (exO tv A n o t) (bkX (exO tv A n o t) r))), d1, ?_, up2_at, (s2.tr d7).tr (SM.up36 _)⟩
      show F9_draws_l7_b _ B1 z (nI m) (nI i) = _
      unfold F9_draws_l7_b
      rw [h16, if_pos (nI_le (by omega) (by omega)), e, Option.bind_some]
      dsimp only
      rw [d3, Option.bind_some]
      dsimp only
      rw [back_B hX d4 d6 hf2, Option.bind_some, d5]
      dsimp only
      rw [worth_B hX d4 d6 hf2, Option.bind_some, d5]
      dsimp only
      rw [gain_B hX d4 (by omega), Option.bind_some]
    | succ k ih =>
      intro fu i z m hi hf hm
      obtain ⟨fu, rfl⟩ : ∃ f, fu = f + 1 := ⟨fu - 1, by omega⟩
      have h9 : B1 9 i = A 8 i := by rw [s.1 9 (by decide) (by decide)]; exact ((gi i (by omega)).2.2.1).symm
      show ∃ r B2, _ ∧ F9_draws_l7_b (F9_draws_l7 fu) B1 z (nI m) (nI i) = _ ∧ _
      unfold F9_draws_l7_b F9_draws_j49 drN
      rw [h16, if_neg (nI_ge (by omega) (by omega)), if_pos (inb_of (by omega) (by decide)), nI_clamp (by omega), h9, nI_1]
      by_cases c : A 8 i ≤ jrem (jushr (z * 1103515245 + 12345) 9) 100
      · rw [if_pos c, if_pos c]
        have e0 : nI m ||| ((0 : Int32) <<< (nI i &&& 31)) = nI m := by simp
        rw [e0]
        exact ih fu (i + 1) _ m (by omega) (by omega) hm
      · rw [if_neg c, if_neg c, bt_or m hm i (by omega)]
        exact ih fu (i + 1) _ _ (by omega) (by omega) (bt_or64 m hm i (by omega))
  exact key t FUEL 0 z 0 (by omega) (by unfold FUEL; omega) (by decide)
theorem drawn_R {tv : Tv} (hT : TellA tv A) (hU : TellB tv B) (hO : TvOk tv) (h : RL n o A B) (g : RG t A B) (a1 : Int32) : ∃ v A' B', F8_drawn A a1 = some (v, A') ∧ F9_drawn B a1 = some (v, B') ∧ SA A A' ∧ SM B B' := by
  have hX := OKX_of (t := t) hO h g
  obtain ⟨A2, p1, pA, s2, -⟩ := prep_A (t := t) hT hO h g
  obtain ⟨A3, v1, v2, v3, v4⟩ := sv hX p1 pA
  have sA : SA A A3 := (s2.sa (by decide)).tr (v4.sa (by decide))
  have h8 : A3 8 = A 8 := sA 8 (by decide)
  have hd := draw_A (A := A3) g.1 v2.1 a1
  rw [h8] at hd
  have hm : drN (A 8) t 0 a1 0 < 64 := drN_64 (by have := g.1; omega) (by decide)
  obtain ⟨c, c1, c2⟩ := most_A hX hm v3
  obtain ⟨r, B2, d1, d2, -, d4⟩ := draws_B hU hO h g SM.rf a1
  rw [c2] at d1
  cases d1
  refine ⟨gnP (exO tv A n o t) c, A3, B2, ?_, ?_, sA, d4⟩
  · unfold F8_drawn
    rw [show F6_all A = some (nI (2 ^ xt (exO tv A n o t) - 1), A) from all_A hX g.2.1, Option.bind_some]
    dsimp only
    rw [v1, Option.bind_some]
    dsimp only
    rw [hd, Option.bind_some]
    dsimp only
    rw [c1]
    rfl
  · unfold F9_drawn
    rw [d2]
    rfl
end
