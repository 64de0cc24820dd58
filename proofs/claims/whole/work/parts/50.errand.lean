theorem pg {tv : Tv} {n o t : Nat} {A B : Mem} (hT : TellA tv A) (hU : TellB tv B) (hO : TvOk tv) (h : RL n o A B) (g : RG t A B) : ∃ X A2 B2, OKX X ∧ xt X = t ∧ F0_prepare A = some (0, A2) ∧ F9_gathers B = some (0, B2) ∧ PA X A2 ∧ PB X n o B2 ∧ SA A A2 ∧ SM B B2 ∧ (∀ f z, QA f z A → QA f z A2) ∧ (∀ f z, QB f z B → QB f z B2) ∧ ∀ s, s ≠ 6 → A2 34 s = A 34 s := by
  obtain ⟨A2, p1, p2, p3, p4⟩ := prep_A (t := t) hT hO h g
  obtain ⟨B2, g1, g2, g3⟩ := gath_P (t := t) (A := A) hU hO h g
  refine ⟨exO tv A n o t, A2, B2, OKX_of hO h g, rfl, p1, g1, p2, g3, p3.sa (by decide), g2.sm, fun f z q => ?_, fun f z q => ?_, p4⟩
  · unfold QA at *
    rw [p4 8 (by decide), p3 38 (by decide)]
    exact q
  · unfold QB at *
    rw [g2.2 38 (by decide), g2.1 13 (by decide) (by decide) (by decide) (by decide)]
    exact q
theorem rd {t : Nat} {A B : Mem} (g : RG t A B) (hS : RS A B) (a1 : Int32) : (∃ A', F8_readErrand A a1 = some (0, A') ∧ SA A A' ∧ (F9_isSheet B a1 = some (0, B) ∨ ∃ s, s < 4 ∧ a1 = nI s ∧ (B 17 s = 0 ∨ ∃ z B', B 17 s = 1 ∧ B 19 s = nI z ∧ F9_lays B (nI s) (nI z) = some (0, B') ∧ SM B B'))) ∨ ∃ s z f A' B', s < 4 ∧ a1 = nI s ∧ B 17 s = 1 ∧ B 19 s = nI z ∧ F8_readErrand A a1 = some (1, A') ∧ F9_lays B (nI s) (nI z) = some (1, B') ∧ SA A A' ∧ SM B B' ∧ QA f z A' ∧ QB f z B' ∧ (∀ i, i < z → f i < t) ∧ (lst f z).Nodup := by
  rcases cs a1 4 (by decide) with q | ⟨s, hs, rfl⟩
  · refine .inl ⟨A, ?_, SA.rf, .inl (shB_n q)⟩
    unfold F8_readErrand
    rw [shA_n q]
    rfl
  rcases hS s hs with ⟨u1, u2⟩ | ⟨u1, u2, u3, z, u4, u5, u6, u7⟩
  · refine .inl ⟨A, ?_, SA.rf, .inr ⟨s, hs, rfl, .inl u2⟩⟩
    unfold F8_readErrand
    rw [shA_y hs, Option.bind_some, if_neg n10, missA hs, if_pos u1]
    rfl
  have m1 : ¬ A 43 s = -1 := by rcases u1 with e | e | e <;> rw [e] <;> decide
  obtain ⟨b, A', B', r1, r2, f1, f2, f3, hb⟩ := row_AB g.1 g.2.1 g.2.2.1 hs u4 u7
  have eA : F8_readErrand A (nI s) = if b = 0 then some ((0 : Int32), A') else some ((1 : Int32), A') := by
    unfold F8_readErrand
    rw [shA_y hs, Option.bind_some, if_neg n10, missA hs, if_neg m1, Option.bind_some, if_neg (by simp), if_pos (inb_of hs (by decide)), nI_clamp (by omega)]
    dsimp only
    rw [u5, r1, Option.bind_some]
  have sA : SA A A' := f1.sa (by decide)
  have sB : SM B B' := f3.sm (by decide) (by decide)
  rcases hb with rfl | ⟨rfl, f, q1, q2, q3, q4, q5⟩
  · exact .inl ⟨A', by rw [eA, if_pos rfl], sA, .inr ⟨s, hs, rfl, .inr ⟨z, B', u3, u6, r2, sB⟩⟩⟩
  · exact .inr ⟨s, z, f, A', B', hs, rfl, u3, u6, by rw [eA, if_neg n10], r2, sA, sB, q1, q2, q3, q4⟩
theorem errand_R {tv : Tv} {n o t : Nat} {A B : Mem} (hT : TellA tv A) (hU : TellB tv B) (hO : TvOk tv) (h : RL n o A B) (g : RG t A B) (hS : RS A B) (a1 a2 : Int32) : ∃ v A' B', F8_errand A a1 a2 = some (v, A') ∧ F9_errand B a1 a2 = some (v, B') ∧ SA A A' ∧ SM B B' := by
  rcases in01 (M := B) a2 3 0 3 rfl rfl (by decide) with ⟨j, hj, rfl, l1, l2, e⟩ | ⟨q, e⟩
  · have eA : F8_errand A a1 (nI j) = Option.bind (F8_readErrand A a1) fun r3 => if ¬ r3.1 = 0 then Option.bind (F0_prepare r3.2) fun r6 => Option.bind (F0_backWithout r6.2 (-1 : Int32)) fun r8 => if nI j = (0 : Int32) then some (r8.1, r8.2) else if nI j = (1 : Int32) then Option.bind (F0_letBy r8.2 r8.1) fun r12 => some (r12.1, r12.2) else if nI j = (2 : Int32) then Option.bind (F0_gain r8.2) fun r15 => some (r15.1, r15.2) else Option.bind (F0_worth r8.2) fun r17 => some (r17.1, r17.2) else some ((-100000 : Int32), r3.2) := by
      unfold F8_errand
      rw [if_neg l1, if_neg (show ¬ (3 : Int32) < nI j from nI_nlt (a := 3) hj (by decide))]
    rcases rd g hS a1 with ⟨A', r1, sA, c⟩ | ⟨s, z, f, A', B', hs, rfl, u3, u6, r1, r2, sA, sB, qA, qB, hf, hn⟩
    · have hA : F8_errand A a1 (nI j) = some (-100000, A') := by rw [eA, r1]; rfl
      rcases c with c | ⟨s, hs, rfl, c⟩
      · refine ⟨_, A', B, hA, ?_, sA, SM.rf⟩
        unfold F9_errand
        rw [c]
        rfl
      · have eB : F9_errand B (nI s) (nI j) = if B 17 s = 0 then some ((-100000 : Int32), B) else Option.bind (F9_lays B (nI s) (B 19 s)) fun r9 => if ¬ r9.1 = 0 then Option.bind (F9_gathers r9.2) fun r12 => Option.bind (F9_backOf r12.2) fun r14 => Option.bind (F9_worthOf r14.2) fun r16 => Option.bind (F9_gainOf r16.2 r14.1 r16.1) fun r18 => if ¬ nI j = 0 then if ¬ nI j = (1 : Int32) then if ¬ nI j = (2 : Int32) then Option.bind (F9_worthOf r18.2) fun r23 => some (r23.1, r23.2) else some (r18.1, r18.2) else some ((r18.2 0 36), r18.2) else some (r14.1, r18.2) else some ((-100000 : Int32), r9.2) := by
          unfold F9_errand
          rw [shB_y hs, Option.bind_some, if_neg n10, e, Option.bind_some, if_neg n10, if_pos (inb_of hs (by decide)), nI_clamp (by omega)]
        rcases c with c | ⟨z, B', u3, u6, r2, sB⟩
        · exact ⟨_, A', B, hA, by rw [eB, if_pos c], sA, SM.rf⟩
        · exact ⟨_, A', B', hA, by rw [eB, if_neg (by rw [u3]; decide), u6, r2]; rfl, sA, sB⟩
    · obtain ⟨X, A2, B2, hX, hxt, p1, p2, pA, pB, s2A, s2B, kA, kB, -⟩ := pg (t := t) (hT.ka sA.ka) (hU.kb sB.kb) hO (h.s sA sB) (g.s sA sB)
      have qA2 := kA f z qA
      have qB2 := kB f z qB
      rw [← hxt] at hf
      have hb := bkX_le hX (lst_lt hf (Nat.le_refl z)) (by rw [lst_len]; exact qA.2.1)
      have eB : F9_errand B (nI s) (nI j) = if ¬ nI j = 0 then if ¬ nI j = (1 : Int32) then if ¬ nI j = (2 : Int32) then some (nI (woR (xw X) (lst f z)), up2 B2 0 36 (nI (lkX X (bkX X (lst f z))))) else some (gnX X (woR (xw X) (lst f z)) (bkX X (lst f z)), up2 B2 0 36 (nI (lkX X (bkX X (lst f z))))) else some (nI (lkX X (bkX X (lst f z))), up2 B2 0 36 (nI (lkX X (bkX X (lst f z))))) else some (nI (bkX X (lst f z)), up2 B2 0 36 (nI (lkX X (bkX X (lst f z))))) := by
        unfold F9_errand
        rw [shB_y hs, Option.bind_some, if_neg n10, e, Option.bind_some, if_neg n10, if_pos (inb_of hs (by decide)), nI_clamp (by omega)]
        dsimp only
        rw [if_neg (by rw [u3]; decide), u6, r2, Option.bind_some, if_pos n10]
        dsimp only
        rw [p2, Option.bind_some]
        dsimp only
        rw [back_B hX pB qB2 hf, Option.bind_some]
        dsimp only
        rw [worth_B hX pB qB2 hf, Option.bind_some]
        dsimp only
        rw [gain_B hX pB (by omega), Option.bind_some]
        dsimp only
        rw [worth_B hX (pB.up36 _) (qB2.up36 _) hf, Option.bind_some, up2_at]
      rw [eB, eA, r1, Option.bind_some, if_pos n10]
      dsimp only
      rw [p1, Option.bind_some]
      dsimp only
      rw [back_A hX pA qA2 hf, Option.bind_some]
      dsimp only
      rw [letBy_A hX pA (by omega), gain_A hX pA qA2 hf hn, worth_A hX pA qA2 hf hn]
      refine ⟨if nI j = 0 then nI (bkX X (lst f z)) else if nI j = 1 then nI (lkX X (bkX X (lst f z))) else if nI j = 2 then gnX X (woR (xw X) (lst f z)) (bkX X (lst f z)) else nI (woR (xw X) (lst f z)), A2, up2 B2 0 36 (nI (lkX X (bkX X (lst f z)))), ?_, ?_, sA.tr s2A, (sB.tr s2B).tr (SM.up36 _)⟩
      · by_cases h0 : nI j = 0
        · simp only [if_pos h0]
        · simp only [if_neg h0]
          by_cases h1 : nI j = 1
          · simp only [if_pos h1]; rfl
          · simp only [if_neg h1]
            by_cases h2 : nI j = 2
            · simp only [if_pos h2]; rfl
            · simp only [if_neg h2]; rfl
      · by_cases h0 : nI j = 0
        · rw [if_neg (fun z => z h0), if_pos h0]
        · rw [if_pos h0, if_neg h0]
          by_cases h1 : nI j = 1
          · rw [if_neg (fun z => z h1), if_pos h1]
          · rw [if_pos h1, if_neg h1]
            by_cases h2 : nI j = 2
            · rw [if_neg (fun z => z h2), if_pos h2]
            · rw [if_pos h2, if_neg h2]
  · have hA : F8_errand A a1 a2 = some (-100000, A) := by
      unfold F8_errand
      by_cases h1 : a2 < 0
      · rw [if_pos h1]
      · rw [if_neg h1, if_pos]
        rcases q with q | q
        · exact absurd q h1
        · have e3 : (3 : Int32).toInt = 3 := by decide
          rw [ile, nI_toInt (by decide)] at q
          rw [ilt, e3]
          omega
    refine ⟨_, A, B, hA, ?_, SA.rf, SM.rf⟩
    unfold F9_errand
    rw [shB_eq, Option.bind_some]
    by_cases hs : 0 ≤ a1.toInt ∧ a1.toInt < 4
    · rw [if_pos hs, if_neg n10, e]
      rfl
    · rw [if_neg hs]
      rfl
theorem latest_R {tv : Tv} {n o t : Nat} {A B : Mem} (hT : TellA tv A) (hU : TellB tv B) (hO : TvOk tv) (h : RL n o A B) (g : RG t A B) (a1 a2 : Int32) : ∃ v A' B', F8_latest A a1 a2 = some (v, A') ∧ F9_latest B a1 a2 = some (v, B') ∧ SA A A' ∧ SM B B' := by
  obtain ⟨t6, gA, gB, gi⟩ := g
  rcases cs a1 t (by omega) with q | ⟨x, hx, rfl⟩
  · refine ⟨-2, A, B, ?_, ?_, SA.rf, SM.rf⟩
    · unfold F8_latest; rw [thgA_n gA t6 q]; rfl
    · unfold F9_latest; rw [thgB_n gB t6 q]; rfl
  rcases in01 (M := B) a2 6 0 6 rfl rfl (by decide) with ⟨j, hj, rfl, l1, l2, e⟩ | ⟨q, e⟩
  · have hX := OKX_of (t := t) hO h ⟨t6, gA, gB, gi⟩
    obtain ⟨A2, p1, p2⟩ := turn_A hT KA.rf h.2.2.1 h.1 h.2.2.2.2.1 h.2.1 (-1) (-1) id (fun i hio => ⟨by have := h.2.1; show i < n; omega, fun e => absurd e (nI_m1 (by have := h.2.1; have := h.1; omega)), fun _ => rfl⟩)
    have et : turnW tv A id o = nI (xd (exO tv A n o t) 0) := sumI_sm (fun i hio => (RL.sec hO h (i := i) (by have := h.2.1; have := h.1; omega)).1.symm)
    rw [et] at p1
    obtain ⟨B2, g1, g2, g3⟩ := gath_P (t := t) (A := A) hU hO h ⟨t6, gA, gB, gi⟩
    obtain ⟨A3, p3, p4⟩ := pace_A hT p2.ka j
    have ep : tv 2 (nI j) 0 0 0 = nI (xp (exO tv A n o t) j) := (nI_tN (hO 2 (nI j) 0 0 0).1).symm
    rw [ep] at p3
    have s6 : F6_shelfOf A2 (nI x) = some (nI (xs (exO tv A n o t) x), A2) := by
      unfold F6_shelfOf
      rw [thgA_y (by rw [p2 5 (by decide) (by decide)]; exact gA) t6 hx, Option.bind_some, if_neg n10, if_pos (inb_of (by omega) (by decide)), nI_clamp (by omega)]
      dsimp only
      rw [p2 6 (by decide) (by decide)]
      exact congrArg (fun z => some (z, A2)) (nI_tN (gi x (by omega)).2.2.2.1.1).symm
    have s0 : F6_shelfOf A2 (-1) = some (nI 0, A2) := by
      unfold F6_shelfOf
      rw [thgA_n (by rw [p2 5 (by decide) (by decide)]; exact gA) t6 (.inl (by decide)), Option.bind_some]
      rfl
    have hsx := (hX.2.1 x (by omega)).1
    have eA : F8_latest A (nI x) (nI j) = if 0 ≤ (nI (xd (exO tv A n o t) 0) - nI (stN (xs (exO tv A n o t) x) 0) * nI (xp (exO tv A n o t) j)) then some (nI (xd (exO tv A n o t) 0) - nI (stN (xs (exO tv A n o t) x) 0) * nI (xp (exO tv A n o t) j), A3) else some (-1, A3) := by
      unfold F8_latest
      rw [thgA_y gA t6 hx, Option.bind_some, if_neg n10, if_neg l1, if_pos (show nI j ≤ 6 from l2)]
      dsimp only
      rw [p1, Option.bind_some]
      dsimp only
      rw [steps_A s6 s0 hsx (by omega), Option.bind_some]
      dsimp only
      rw [p3, Option.bind_some]
    have eB : F9_latest B (nI x) (nI j) = if 0 ≤ (nI (xd (exO tv A n o t) 0) - nI (stN (xs (exO tv A n o t) x) 0) * nI (xp (exO tv A n o t) j)) then some (nI (xd (exO tv A n o t) 0) - nI (stN (xs (exO tv A n o t) x) 0) * nI (xp (exO tv A n o t) j), B2) else some (-1, B2) := by
      have g7 : B2 7 x = nI (xs (exO tv A n o t) x) := (g3.2.1 x (by omega)).1
      have g35 : B2 0 35 = nI (xd (exO tv A n o t) 0) := g3.2.2.2.2.2.2.2.1
      have g12 : B2 12 j = nI (xp (exO tv A n o t) j) := g3.2.2.1 j (by omega)
      unfold F9_latest
      rw [thgB_y gB t6 hx, Option.bind_some, if_neg n10, e, Option.bind_some, if_pos n10]
      dsimp only
      rw [g1, Option.bind_some, if_pos (inb_of (by omega) (by decide)), nI_clamp (by omega)]
      dsimp only
      rw [g7, show (0 : Int32) = nI 0 from rfl, steps_B hsx (by omega), Option.bind_some, if_pos (inb_of (by omega) (by decide)), nI_clamp (by omega)]
      dsimp only
      simp only [g35, g12]
    rw [eA, eB]
    by_cases hc : 0 ≤ (nI (xd (exO tv A n o t) 0) - nI (stN (xs (exO tv A n o t) x) 0) * nI (xp (exO tv A n o t) j))
    · rw [if_pos hc, if_pos hc]
      exact ⟨_, A3, B2, rfl, rfl, (p2.tr p4).sa, g2.sm⟩
    · rw [if_neg hc, if_neg hc]
      exact ⟨_, A3, B2, rfl, rfl, (p2.tr p4).sa, g2.sm⟩
  · refine ⟨-2, A, B, ?_, ?_, SA.rf, SM.rf⟩
    · unfold F8_latest
      rw [thgA_y gA t6 hx, Option.bind_some, if_neg n10]
      by_cases h1 : a2 < 0
      · rw [if_pos h1]
      · rw [if_neg h1, if_neg]
        rcases q with q | q
        · exact absurd q h1
        · exact q
    · unfold F9_latest
      rw [thgB_y gB t6 hx, Option.bind_some, if_neg n10, e]
      rfl
