theorem slip_R {tv : Tv} {n o t : Nat} {A B : Mem} (hT : TellA tv A) (hU : TellB tv B) (hO : TvOk tv) (h : RL n o A B) (g : RG t A B) (hS : RS A B) (a1 a2 : Int32) : ∃ v A' B', F8_slip A a1 a2 = some (v, A') ∧ F9_slip B a1 a2 = some (v, B') ∧ SA A A' ∧ SM B B' := by
  have hno : ∀ w : Int32, F8_slip A a1 a2 = some (w, A) → F9_slip B a1 a2 = some (w, B) → ∃ v A' B', F8_slip A a1 a2 = some (v, A') ∧ F9_slip B a1 a2 = some (v, B') ∧ SA A A' ∧ SM B B' := fun w e1 e2 => ⟨w, A, B, e1, e2, SA.rf, SM.rf⟩
  rcases cs a1 4 (by decide) with q | ⟨s, hs, rfl⟩
  · refine hno (-2) ?_ ?_
    · unfold F8_slip; rw [shA_n q]; rfl
    · unfold F9_slip; rw [shB_n q]; rfl
  rcases in01 (M := B) a2 1 0 1 rfl rfl (by decide) with ⟨j, hj, rfl, l1, l2, e⟩ | ⟨q, e⟩
  rotate_left
  · refine hno (-2) ?_ ?_
    · unfold F8_slip
      rw [shA_y hs, Option.bind_some, if_neg n10]
      by_cases h1 : a2 < 0
      · rw [if_pos h1]
      · rw [if_neg h1, if_neg]
        rcases q with q | q
        · exact absurd q h1
        · exact q
    · unfold F9_slip
      rw [shB_y hs, Option.bind_some, if_neg n10, e]
      rfl
  rcases hS s hs with ⟨u1, u2⟩ | ⟨u1, u2, u3, z, u4, u5, u6, u7⟩
  · refine hno (-11) ?_ ?_
    · unfold F8_slip
      rw [shA_y hs, Option.bind_some, if_neg n10, if_neg l1, if_pos (show nI j ≤ 1 from l2), missA hs, if_pos u1]
      rfl
    · unfold F9_slip
      rw [shB_y hs, Option.bind_some, if_neg n10, e, Option.bind_some, if_pos n10, if_pos (inb_of hs (by decide)), nI_clamp (by omega)]
      exact if_neg (show ¬ ¬ B 17 s = 0 from fun z => z u2)
  have m1 : ¬ A 43 s = -1 := by rcases u1 with e | e | e <;> rw [e] <;> decide
  by_cases hz0 : z = 0
  · subst hz0
    refine hno (-2) ?_ ?_
    · unfold F8_slip
      rw [shA_y hs, Option.bind_some, if_neg n10, if_neg l1, if_pos (show nI j ≤ 1 from l2), missA hs, if_neg m1, Option.bind_some, if_pos rfl, if_pos (inb_of hs (by decide)), nI_clamp (by omega)]
      dsimp only
      rw [if_pos (show A 44 s - 1 < 0 by rw [u5]; decide)]
    · unfold F9_slip
      rw [shB_y hs, Option.bind_some, if_neg n10, e, Option.bind_some, if_pos n10, if_pos (inb_of hs (by decide)), nI_clamp (by omega)]
      dsimp only
      rw [if_pos (show ¬ B 17 s = 0 by rw [u3]; decide), if_pos (show B 19 s = 0 by rw [u6]; rfl)]
  obtain ⟨q, rfl⟩ : ∃ q, z = q + 1 := ⟨z - 1, by omega⟩
  have ep : nI (q + 1) - 1 = nI q := nI_pred q
  obtain ⟨b, A', B', r1, r2, f1, f2, f3, hb⟩ := row_AB (z := q) g.1 g.2.1 g.2.2.1 hs (by omega) (fun i hi => u7 i (by omega))
  have sA' : SA A A' := f1.sa (by decide)
  have sB' : SM B B' := f3.sm (by decide) (by decide)
  have eA : F8_slip A (nI s) (nI j) = if ¬ b = 0 then Option.bind (F0_seek A' (A' (46 + s) q)) fun r15 => Option.bind (F0_bits r15.2) fun r17 => Option.bind (F0_survey r17.2 r17.1) fun r19 => if ¬ nI j = 0 then some ((r19.2 34 15), r19.2) else some ((r19.2 34 14), r19.2) else some (-2, A') := by
    unfold F8_slip
    rw [shA_y hs, Option.bind_some, if_neg n10, if_neg l1, if_pos (show nI j ≤ 1 from l2), missA hs, if_neg m1, Option.bind_some, if_pos rfl, if_pos (inb_of hs (by decide)), nI_clamp (show s < 2 ^ 31 by omega)]
    dsimp only
    simp only [u5, ep]
    rw [if_neg (nI_pos (by omega)), r1, Option.bind_some, if_pos (inb_of (show q < 40 by omega) (by decide)), nI_clamp (by omega)]
  have eB : F9_slip B (nI s) (nI j) = if ¬ b = 0 then Option.bind (F9_gathers B') fun r13 => F9_slip_l69 FUEL r13.2 (nI s) (nI j) 0 0 else some (-2, B') := by
    unfold F9_slip
    rw [shB_y hs, Option.bind_some, if_neg n10, e, Option.bind_some, if_pos n10, if_pos (inb_of hs (by decide)), nI_clamp (by omega)]
    dsimp only
    rw [if_pos (show ¬ B 17 s = 0 by rw [u3]; decide)]
    simp only [u6, ep]
    rw [if_neg (nI_ne0 (by omega) (by omega)), r2, Option.bind_some]
  rw [eA, eB]
  rcases hb with rfl | ⟨rfl, f, q1, q2, q3, q4, q5⟩
  · rw [if_neg (by decide), if_neg (by decide)]
    exact ⟨-2, A', B', rfl, rfl, sA', sB'⟩
  rw [if_pos n10, if_pos n10]
  -- sought
  have hm0 : stR (lst f q) < 64 := stR_64 (fun x hx => by have := lst_lt q3 (Nat.le_refl q) x hx; have := g.1; omega)
  have hrow : A' (46 + s) q = A (46 + s) q := by rw [f1 (46 + s) (by simp; omega)]
  generalize hv : A (46 + s) q = v at hrow
  rw [hrow]
  have hB20 : B 20 (40 * s + q) = v := by rw [← u7 q (by omega), hv]
  generalize hA1 : up2 (up2 (up2 (up2 A' 34 14 0) 34 15 (-1)) 34 12 (nI (stR (lst f q)))) 34 13 v = A1
  have oA1 : ∀ c, c ≠ 34 → A1 c = A' c := fun c hc => by rw [← hA1, up2_ne hc, up2_ne hc, up2_ne hc, up2_ne hc]
  have kA1 : ∀ k, k ≠ 12 → k ≠ 13 → k ≠ 14 → k ≠ 15 → A1 34 k = A' 34 k := fun k h1 h2 h3 h4 => by rw [← hA1, up2_nk h2, up2_nk h1, up2_nk h4, up2_nk h3]
  have sA1 : SA A A1 := sA'.tr (fun c hc => oA1 c (fun e => hc (by rw [e]; simp)))
  have q1' : QA f q A1 := ⟨by rw [kA1 8 (by decide) (by decide) (by decide) (by decide)]; exact q1.1, q1.2.1, fun i hi => by rw [oA1 38 (by decide)]; exact q1.2.2 i hi⟩
  obtain ⟨X, A2, B2, hX, hxt, p1, p2, pA, pB, s2A, s2B, kA, kB, k34⟩ := pg (t := t) (hT.ka sA1.ka) (hU.kb sB'.kb) hO (h.s sA1 sB') (g.s sA1 sB')
  rw [← hxt] at q3
  have hp : okP X (lst f q) := ⟨lst_lt q3 (Nat.le_refl q), q4, by rw [lst_len]; exact q1.2.1⟩
  have eseek : F0_seek A' v = some (0, A1) := by
    have q0 : QA f q (up2 (up2 A' 34 14 0) 34 15 (-1)) := ⟨by rw [up2_nk (by decide), up2_nk (by decide)]; exact q1.1, q1.2.1, fun i hi => by rw [up2_ne (by decide), up2_ne (by decide)]; exact q1.2.2 i hi⟩
    unfold F0_seek
    rw [bits_A hX q0 q3, Option.bind_some]
    dsimp only
    rw [hA1]
  obtain ⟨A3, v1, v2, v3, v4⟩ := survey_A hX hm0 p1 pA
  have a34 : ∀ k, k ≠ 6 → A3 34 k = A1 34 k := fun k hk => by rw [v3 34 (by decide), k34 k hk]
  obtain ⟨w1, w2⟩ := hit_fold (X := X) (sb := v) hm0 (vis (xt X) (stR (lst f q)) 6 []) A3 (0, -1) (fun p hp => (vis_okP hX hp).st hX) (by rw [a34 12 (by decide), ← hA1, up2_nk (by decide), up2_at]) (by rw [a34 13 (by decide), ← hA1, up2_at]) (by rw [a34 14 (by decide), ← hA1, up2_nk (by decide), up2_nk (by decide), up2_nk (by decide), up2_at]) (by rw [a34 15 (by decide), ← hA1, up2_nk (by decide), up2_nk (by decide), up2_at])
  have ff := fold_f X (vis (xt X) (stR (lst f q)) 6 []) A3
  have sAf : SA A ((vis (xt X) (stR (lst f q)) 6 []).foldl (wghM X) A3) := (sA1.tr s2A).tr ((v3.sa (by decide)).tr (ff.1.sa (by decide)))
  -- the reference
  have q2' := kB f q q2
  have b19 : B2 19 s = nI (q + 1) := by rw [(sB'.tr s2B).1 19 (by decide) (by decide)]; exact u6
  have b20 : B2 20 (40 * s + q) = v := by rw [(sB'.tr s2B).1 20 (by decide) (by decide)]; exact hB20
  have hmt : ∀ i, (stR (lst f q)).testBit i = true → i < xt X := fun i hi => hp.1 i ((stR_bit _).mp hi)
  have u0 : ∀ c, c ≠ 0 → up2 (up2 (up2 B2 0 38 0) 0 43 0) 0 44 (-1) c = B2 c := fun c hc => by rw [up2_ne hc, up2_ne hc, up2_ne hc]
  have uk : ∀ k, k ≠ 38 → k ≠ 43 → k ≠ 44 → up2 (up2 (up2 B2 0 38 0) 0 43 0) 0 44 (-1) 0 k = B2 0 k := fun k h1 h2 h3 => by rw [up2_nk h3, up2_nk h2, up2_nk h1]
  obtain ⟨B3, o1, o2, o3, o4, o5⟩ := ord_B (n := n) (o := o) hX hm0 hmt v 6 9 (fun _ => 0) 0 (up2 (up2 (up2 B2 0 38 0) 0 43 0) 0 44 (-1)) (0, -1) rfl (by decide) (pB.cong (u0 7 (by decide)) (u0 8 (by decide)) (u0 10 (by decide)) (u0 11 (by decide)) (u0 12 (by decide)) (uk 10 (by decide) (by decide) (by decide)) (uk 11 (by decide) (by decide) (by decide)) (uk 16 (by decide) (by decide) (by decide)) (uk 35 (by decide) (by decide) (by decide))) ⟨by rw [up2_nk (by decide), up2_nk (by decide), up2_at]; rfl, by omega, fun i hi => absurd hi (by omega)⟩ ⟨nl_lt, List.nodup_nil, by decide⟩ (fun x hx => absurd hx (by simp [lst])) ⟨by rw [up2_nk (by decide), up2_at], up2_at⟩
  have o1' : S5 9 0 (nI (stR (lst f q))) v (up2 (up2 (up2 B2 0 38 0) 0 43 0) 0 44 (-1)) = some (0, B3) := by
    have : stR (lst f q) ^^^ stR (lst (fun _ => 0) 0) = stR (lst f q) := Nat.xor_zero _
    rw [this] at o1
    exact o1
  have sBf : SM B B3 := ((sB'.tr s2B).tr ⟨fun c c0 _ => u0 c c0, fun k hk => uk k (by omega) (by omega) (by omega)⟩).tr o5
  have loop : ∀ (k fu i : Nat), i + k = q → k < fu → F9_slip_l69 fu B2 (nI s) (nI j) (nI (stR (lst f i))) (nI i) = if ¬ nI j = 0 then some ((B3 0 44), B3) else some ((B3 0 43), B3) := by
    intro k
    induction k with
    | zero =>
      intro fu i hi hfu
      obtain ⟨fu, rfl⟩ : ∃ f, fu = f + 1 := ⟨fu - 1, by omega⟩
      obtain rfl : i = q := by omega
      have ex : (40 : Int32) * nI s + nI (i + 1) - 1 = nI (40 * s + i) := by
        rw [show (40 : Int32) = nI 40 from rfl, pk_mul, nI_add]
        exact nI_pred (40 * s + i)
      show F9_slip_l69_b _ B2 (nI s) (nI j) _ (nI i) = _
      unfold F9_slip_l69_b
      rw [q2'.1, if_pos (nI_le (by omega) (by omega)), if_pos (inb_of hs (by decide)), nI_clamp (by omega), b19, ex, if_pos (inb_of (by omega) (by decide)), nI_clamp (by omega), b20, o1', Option.bind_some]
    | succ k ih =>
      intro fu i hi hfu
      obtain ⟨fu, rfl⟩ : ∃ f, fu = f + 1 := ⟨fu - 1, by omega⟩
      have e1 := ih fu (i + 1) (by omega) (by omega)
      have hq6 := q1.2.1
      have h6 := hX.1
      have hfi := q3 i (by omega)
      have hs6 : stR (lst f i) < 64 := stR_64 (fun x hx => by have := lst_lt q3 (show i ≤ q by omega) x hx; omega)
      show F9_slip_l69_b _ B2 (nI s) (nI j) _ (nI i) = _
      unfold F9_slip_l69_b
      rw [q2'.1, if_neg (nI_ge (by omega) (by omega)), if_pos (inb_of (by omega) (by decide)), nI_clamp (by omega), q2'.2.2 i (by omega), bt_or _ hs6 _ (by omega), nI_1]
      exact e1
  have eloop := loop q FUEL 0 (by omega) (by have := q1.2.1; unfold FUEL; omega)
  have eloop' : F9_slip_l69 FUEL B2 (nI s) (nI j) 0 0 = if ¬ nI j = 0 then some ((B3 0 44), B3) else some ((B3 0 43), B3) := eloop
  rw [eseek, Option.bind_some]
  dsimp only
  rw [bits_A hX q1' q3, Option.bind_some]
  dsimp only
  rw [v1, Option.bind_some]
  dsimp only
  rw [p2, Option.bind_some, eloop', w1, w2, o4.1, o4.2]
  by_cases h0 : nI j = 0
  · rw [if_neg (fun z => z h0), if_neg (fun z => z h0)]
    exact ⟨_, _, B3, rfl, rfl, sAf, sBf⟩
  · rw [if_pos h0, if_pos h0]
    exact ⟨_, _, B3, rfl, rfl, sAf, sBf⟩
