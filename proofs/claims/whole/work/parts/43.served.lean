theorem lg0 {a b : Int64} : lg_cmp a b = 0 ↔ a = b := by
  unfold lg_cmp
  constructor
  · intro h
    by_cases h1 : a > b
    · rw [if_pos h1] at h; exact absurd h (by decide)
    · rw [if_neg h1] at h
      by_cases h2 : a = b
      · exact h2
      · rw [if_neg h2] at h; exact absurd h (by decide)
  · intro e
    subst e
    rw [if_neg (fun h => by rw [gt_iff_lt, Int64.lt_iff_toInt_lt] at h; omega), if_pos rfl]
/-- the kinds by which his seconds would be his own -/
def kb (tv : Tv) (own : Int64) (it nu pl : Int32) : Nat → Nat → Int32 → Int32
  | 0, _, acc => acc
  | k + 1, i, acc => kb tv own it nu pl k (i + 1) (if Int32.toInt64 (secV tv (nI i) it nu pl) = own then acc ||| ((1 : Int32) <<< (nI i &&& 31)) else acc)
theorem kinds_A {tv : Tv} {A : Mem} {n j : Nat} (hT : TellA tv A) (hn : A 1 3 = nI n) (hn8 : n ≤ 8) (hj : j < n) (own : Int64) : ∀ (k fu i : Nat) (M : Mem) (acc : Int32), i + k = 6 → k < fu → ST A M → ∃ M', F8_kindsOf_l6 fu M (nI j) own acc (nI i) = some (kb tv own (A 3 j) (A 4 j) (nI j) k i acc, M') ∧ ST A M' := by
  intro k
  induction k with
  | zero =>
    intro fu i M acc hi hf hs
    obtain ⟨fu, rfl⟩ : ∃ f, fu = f + 1 := ⟨fu - 1, by omega⟩
    obtain rfl : i = 6 := by omega
    refine ⟨M, ?_, hs⟩
    show F8_kindsOf_l6_b _ M (nI j) own acc (nI 6) = _
    unfold F8_kindsOf_l6_b
    rw [if_pos (by decide)]
    rfl
  | succ k ih =>
    intro fu i M acc hi hf hs
    obtain ⟨fu, rfl⟩ : ∃ f, fu = f + 1 := ⟨fu - 1, by omega⟩
    obtain ⟨M1, e1, s1⟩ := sec_A (M1 := M) (i := j) hT hs.ka (by rw [hs 1 (by decide) (by decide)]; exact hn) hn8 hj (nI i) (nI j)
    rw [hs 3 (by decide) (by decide), hs 4 (by decide) (by decide)] at e1
    obtain ⟨M2, e2, s2⟩ := ih fu (i + 1) M1 (if Int32.toInt64 (secV tv (nI i) (A 3 j) (A 4 j) (nI j)) = own then acc ||| ((1 : Int32) <<< (nI i &&& 31)) else acc) (by omega) (by omega) (hs.tr s1)
    refine ⟨M2, ?_, s2⟩
    show F8_kindsOf_l6_b _ M (nI j) own acc (nI i) = _
    unfold F8_kindsOf_l6_b F8_kindsOf_j39
    rw [if_neg (show ¬ (6 : Int32) ≤ nI i from nI_ge (b := 6) (by omega) (by decide)), e1, Option.bind_some]
    dsimp only
    rw [nI_1]
    by_cases h : Int32.toInt64 (secV tv (nI i) (A 3 j) (A 4 j) (nI j)) = own
    · rw [if_neg (fun q => q (lg0.mpr h))]
      rw [if_pos h] at e2
      rw [e2, kb, if_pos h]
    · rw [if_pos (fun q => h (lg0.mp q))]
      rw [if_neg h] at e2
      rw [e2, kb, if_neg h]
theorem kinds_B {tv : Tv} {A B : Mem} {s z j : Nat} (hU : TellB tv B) (hs : s < 4) (hz : z ≤ 40) (hj : j < z) (hj8 : j < 8) (hrow : ∀ j, j < z → A (46 + s) j = B 20 (40 * s + j)) (own : Int64) (hown : F8_ownSeconds A (nI s) (nI j) = some (own, A)) : ∀ (k fu i : Nat) (M : Mem) (acc w : Int32), i + k = 6 → k < fu → SB (up2 B 4 j w) M → ∃ M', F9_served_l117 fu M (nI s) (nI j) (B 4 j) acc (nI i) = some (kb tv own (B 5 j) (B 6 j) (nI j) k i acc, M') ∧ SB B M' := by
  intro k
  induction k with
  | zero =>
    intro fu i M acc w hi hf hS
    obtain ⟨fu, rfl⟩ : ∃ f, fu = f + 1 := ⟨fu - 1, by omega⟩
    obtain rfl : i = 6 := by omega
    refine ⟨up2 M 4 j (B 4 j), ?_, fun c hc => ?_, fun q hq => ?_⟩
    · show F9_served_l117_b _ M (nI s) (nI j) (B 4 j) acc (nI 6) = _
      unfold F9_served_l117_b
      rw [if_pos (by decide), if_pos (inb_of hj8 (by decide)), nI_clamp (by omega)]
      rfl
    · by_cases e : c = 4
      · subst e
        funext r
        by_cases er : r = j
        · subst er; rw [up2_at]
        · rw [up2_nk er, hS.1 4 (by decide), up2_nk er]
      · rw [up2_ne e, hS.1 c hc, up2_ne e]
    · rw [up2_ne (show (0 : Nat) ≠ 4 by decide), hS.2 q hq, up2_ne (show (0 : Nat) ≠ 4 by decide)]
  | succ k ih =>
    intro fu i M acc w hi hf hS
    obtain ⟨fu, rfl⟩ : ∃ f, fu = f + 1 := ⟨fu - 1, by omega⟩
    have f0 : ∀ c, c ≠ 0 → c ≠ 4 → M c = B c := fun c c0 c4 => by rw [hS.1 c c0, up2_ne c4]
    have hk : KB B (up2 M 4 j (nI i)) := ⟨by rw [up2_ne (by decide), f0 1 (by decide) (by decide)], by rw [up2_ne (by decide), f0 2 (by decide) (by decide)], by rw [up2_ne (show (0 : Nat) ≠ 4 by decide), hS.2 4 (by decide), up2_ne (show (0 : Nat) ≠ 4 by decide)], by rw [up2_ne (show (0 : Nat) ≠ 4 by decide), hS.2 10 (by decide), up2_ne (show (0 : Nat) ≠ 4 by decide)], by rw [up2_ne (show (0 : Nat) ≠ 4 by decide), hS.2 11 (by decide), up2_ne (show (0 : Nat) ≠ 4 by decide)]⟩
    obtain ⟨N, e1, s1⟩ := sec_B (M1 := up2 M 4 j (nI i)) (i := j) hU hk hj8 (by rw [up2_at, nI_toInt (by omega)]; omega)
    rw [up2_at, up2_ne (show (5 : Nat) ≠ 4 by decide), up2_ne (show (6 : Nat) ≠ 4 by decide), f0 5 (by decide) (by decide), f0 6 (by decide) (by decide)] at e1
    obtain ⟨v, o1, o2⟩ := own_R (A := A) (B := up2 M 4 j (nI i)) hs hz hj (fun q hq => by rw [up2_ne (show (20 : Nat) ≠ 4 by decide), f0 20 (by decide) (by decide)]; exact hrow q hq)
    rw [hown] at o1
    obtain rfl : own = v := by cases o1; rfl
    have hS2 : SB (up2 B 4 j (nI i)) N := SB.tr ⟨fun c hc => by
      by_cases e : c = 4
      · subst e
        funext r
        by_cases er : r = j
        · subst er; rw [up2_at, up2_at]
        · rw [up2_nk er, up2_nk er, hS.1 4 (by decide), up2_nk er]
      · rw [up2_ne e, up2_ne e, f0 c hc e], fun q hq => by rw [up2_ne (show (0 : Nat) ≠ 4 by decide), hS.2 q hq, up2_ne (show (0 : Nat) ≠ 4 by decide), up2_ne (show (0 : Nat) ≠ 4 by decide)]⟩ s1
    obtain ⟨M2, e2, s2⟩ := ih fu (i + 1) N (if Int32.toInt64 (secV tv (nI i) (B 5 j) (B 6 j) (nI j)) = own then acc ||| ((1 : Int32) <<< (nI i &&& 31)) else acc) (nI i) (by omega) (by omega) hS2
    refine ⟨M2, ?_, s2⟩
    show F9_served_l117_b _ M (nI s) (nI j) (B 4 j) acc (nI i) = _
    unfold F9_served_l117_b F9_served_j154
    rw [if_neg (show ¬ (5 : Int32) < nI i from nI_nlt (b := i) (a := 5) (by omega) (by decide)), if_pos (inb_of hj8 (by decide)), nI_clamp (by omega), o2, Option.bind_some, e1, Option.bind_some, nI_1]
    dsimp only
    by_cases h : Int32.toInt64 (secV tv (nI i) (B 5 j) (B 6 j) (nI j)) = own
    · rw [if_neg (fun q => q (lg0.mpr h.symm))]
      rw [if_pos h] at e2
      rw [e2, kb, if_pos h]
    · rw [if_pos (fun q => h (lg0.mp q).symm)]
      rw [if_neg h] at e2
      rw [kb, if_neg h, ← e2]
      congr 1
      simp
theorem first_l {tv : Tv} {A B : Mem} {n o s z : Nat} (hT : TellA tv A) (hU : TellB tv B) (hL : RL n o A B) (hs : s < 4) (hzn : z ≤ n) (h19 : B 19 s = nI z) (hrow : ∀ j, j < z → A (46 + s) j = B 20 (40 * s + j)) : ∀ (k fu i : Nat) (M N : Mem), i + k = z → k < fu → ST A M → SB B N → ∃ v M' N', F8_served_l82 fu M (nI s) (nI z) (nI i) = some (v, M') ∧ F9_served_l68 fu N (nI s) (nI i) = some (v, N') ∧ ST A M' ∧ SB B N' := by
  obtain ⟨h8, hon, lA, lB, loA, loB, hg, hi⟩ := hL
  intro k
  induction k with
  | zero =>
    intro fu i M N hk hf hA hB
    obtain ⟨fu, rfl⟩ : ∃ f, fu = f + 1 := ⟨fu - 1, by omega⟩
    obtain rfl : i = z := by omega
    refine ⟨-1, M, N, ?_, ?_, hA, hB⟩
    · show F8_served_l82_b _ M (nI s) (nI i) (nI i) = _
      unfold F8_served_l82_b
      rw [if_pos (nI_le (by omega) (by omega))]
    · show F9_served_l68_b _ N (nI s) (nI i) = _
      unfold F9_served_l68_b
      rw [if_pos (inb_of hs (by decide)), nI_clamp (by omega), hB.1 19 (by decide), h19, if_pos (nI_le (by omega) (by omega))]
  | succ k ih =>
    intro fu i M N hk hf hA hB
    obtain ⟨fu, rfl⟩ : ∃ f, fu = f + 1 := ⟨fu - 1, by omega⟩
    obtain ⟨v, o1, o2⟩ := own_R (A := M) (B := N) hs (show z ≤ 40 by omega) (show i < z by omega) (fun q hq => by rw [hA _ (by omega) (by omega), hB.1 20 (by decide)]; exact hrow q hq)
    obtain ⟨M1, e1, s1⟩ := sec_A (M1 := M) (i := i) hT hA.ka (by rw [hA 1 (by decide) (by decide)]; exact lA) h8 (by omega) (A 2 i) (nI i)
    obtain ⟨N1, e2, s2⟩ := sec_B (M1 := N) (i := i) hU hB.kb (by omega) (by rw [hB.1 4 (by decide), ← (hi i (by omega)).1]; exact (hi i (by omega)).2.2.2.1)
    rw [hA 3 (by decide) (by decide), hA 4 (by decide) (by decide)] at e1
    rw [hB.1 4 (by decide), hB.1 5 (by decide), hB.1 6 (by decide), ← (hi i (by omega)).1, ← (hi i (by omega)).2.1, ← (hi i (by omega)).2.2.1] at e2
    generalize secV tv (A 2 i) (A 3 i) (A 4 i) (nI i) = S at e1 e2
    have eA : F8_served_l82 (fu + 1) M (nI s) (nI z) (nI i) = if lg_cmp v (Int32.toInt64 S) = 0 then F8_served_l82 fu M1 (nI s) (nI z) (nI (i + 1)) else some (nI i, M1) := by
      show F8_served_l82_b _ M (nI s) (nI z) (nI i) = _
      unfold F8_served_l82_b
      rw [if_neg (nI_ge (by omega) (by omega)), o1, Option.bind_some, if_pos (inb_of (by omega) (by decide)), nI_clamp (by omega)]
      dsimp only
      rw [hA 2 (by decide) (by decide), e1, Option.bind_some, nI_1]
    have eB : F9_served_l68 (fu + 1) N (nI s) (nI i) = if lg_cmp v (Int32.toInt64 S) = 0 then F9_served_l68 fu N1 (nI s) (nI (i + 1)) else some (nI i, N1) := by
      show F9_served_l68_b _ N (nI s) (nI i) = _
      unfold F9_served_l68_b
      rw [if_pos (inb_of hs (by decide)), nI_clamp (by omega), hB.1 19 (by decide), h19, if_neg (nI_ge (by omega) (by omega)), o2, Option.bind_some]
      dsimp only
      rw [e2, Option.bind_some, nI_1]
    rw [eA, eB]
    by_cases h : lg_cmp v (Int32.toInt64 S) = 0
    · rw [if_pos h, if_pos h]
      exact ih fu (i + 1) M1 N1 (by omega) (by omega) (hA.tr s1) (hB.tr s2)
    · rw [if_neg h, if_neg h]
      exact ⟨nI i, M1, N1, rfl, rfl, hA.tr s1, hB.tr s2⟩
theorem served_R {tv : Tv} {n o : Nat} {A B : Mem} (hT : TellA tv A) (hU : TellB tv B) (hL : RL n o A B) (hS : RS A B) (a1 a2 : Int32) : ∃ v A' B', F8_served A a1 a2 = some (v, A') ∧ F9_served B a1 a2 = some (v, B') ∧ ST A A' ∧ SB B B' := by
  have hL0 := hL
  obtain ⟨h8, hon, lA, lB, loA, loB, hg, hi⟩ := hL
  have hno : ∀ w : Int32, F8_served A a1 a2 = some (w, A) → F9_served B a1 a2 = some (w, B) → ∃ v A' B', F8_served A a1 a2 = some (v, A') ∧ F9_served B a1 a2 = some (v, B') ∧ ST A A' ∧ SB B B' := fun w e1 e2 => ⟨w, A, B, e1, e2, ST.rf, SB.rf⟩
  rcases cs a1 4 (by decide) with q | ⟨s, hs, rfl⟩
  · refine hno (-2) ?_ ?_
    · unfold F8_served; rw [shA_n q]; rfl
    · unfold F9_served; rw [shB_n q]; rfl
  rcases hS s hs with ⟨u1, u2⟩ | ⟨u1, u2, u3, z, u4, u5, u6, u7⟩
  · refine hno (-11) ?_ ?_
    · unfold F8_served
      rw [shA_y hs, Option.bind_some, if_pos n10, missA hs, if_pos u1]
      rfl
    · unfold F9_served
      rw [shB_y hs, Option.bind_some, if_pos n10, if_pos (inb_of hs (by decide)), nI_clamp (by omega)]
      exact if_neg (show ¬ ¬ B 17 s = 0 from fun z => z u2)
  have m1 : ¬ A 43 s = -1 := by rcases u1 with e | e | e <;> rw [e] <;> decide
  have hA0 : F8_served A (nI s) a2 = if (A 1 3) < nI z then some (-2, A) else if a2 < (-1 : Int32) then some (-2, A) else if a2 < nI z then (if a2 = (-1 : Int32) then F8_served_l82 FUEL A (nI s) (nI z) 0 else Option.bind (F8_ownSeconds A (nI s) a2) fun r12 => Option.bind (F8_kindsOf r12.2 a2 r12.1) fun r14 => some (r14.1, r14.2)) else some (-2, A) := by
    unfold F8_served
    rw [shA_y hs, Option.bind_some, if_pos n10, missA hs, if_neg m1, Option.bind_some, if_pos rfl, if_pos (inb_of hs (by decide)), nI_clamp (by omega)]
    simp only [u5]
  have hB0 : F9_served B (nI s) a2 = if (B 0 10) < nI z then some (-2, B) else if a2 = (-1 : Int32) then F9_served_j61 B (nI s) a2 else Option.bind (F9_in B (Int32.toInt64 a2) (0 : Int64) (Int32.toInt64 (nI z - (1 : Int32)))) fun r8 => if ¬ r8.1 = 0 then F9_served_j61 r8.2 (nI s) a2 else some (-2, r8.2) := by
    unfold F9_served
    rw [shB_y hs, Option.bind_some, if_pos n10, if_pos (inb_of hs (by decide)), nI_clamp (by omega)]
    dsimp only
    rw [if_pos (show ¬ B 17 s = 0 by rw [u3]; decide)]
    simp only [u6]
  by_cases hnz : n < z
  · refine hno (-2) ?_ ?_
    · rw [hA0, if_pos (by rw [lA]; exact nI_lt hnz (by omega))]
    · rw [hB0, if_pos (by rw [lB]; exact nI_lt hnz (by omega))]
  rw [if_neg (by rw [lA]; exact nI_nlt (by omega) (by omega))] at hA0
  rw [if_neg (by rw [lB]; exact nI_nlt (by omega) (by omega))] at hB0
  by_cases hm : a2 = -1
  · subst hm
    obtain ⟨v, A', B', e1, e2, r⟩ := first_l hT hU hL0 hs (show z ≤ n by omega) u6 u7 z FUEL 0 A B (by omega) (by unfold FUEL; omega) ST.rf SB.rf
    refine ⟨v, A', B', ?_, ?_, r⟩
    · rw [hA0, if_neg (by decide), if_pos (by rw [ilt, nI_toInt (by omega)]; exact Int.lt_of_lt_of_le (show (-1 : Int32).toInt < 0 by decide) (by omega)), if_pos rfl]
      exact e1
    · rw [hB0, if_pos rfl]
      unfold F9_served_j61
      rw [if_neg (by decide)]
      exact e2
  rw [if_neg hm] at hB0
  rcases cs a2 z (by omega) with q | ⟨j, hj, rfl⟩
  · refine hno (-2) ?_ ?_
    · rw [hA0]
      by_cases h1 : a2 < -1
      · rw [if_pos h1]
      · rw [if_neg h1, if_neg]
        intro h2
        rw [ilt, nI_toInt (by omega)] at h2
        rw [ilt] at h1
        have h3 : ¬ a2.toInt = (-1 : Int32).toInt := fun e => hm (Int32.toInt_inj.mp e)
        have h4 : (-1 : Int32).toInt = -1 := by decide
        omega
    · rw [hB0, in_n]
      · rfl
      · rw [i64t, i64t, show (0 : Int64).toInt = 0 from rfl]
        have h5 : (nI z - 1).toInt = (z : Int) - 1 := pk_sub_toInt (a := z) (b := 1) (by omega) (by decide)
        omega
  · rw [if_neg (show ¬ nI j < -1 by rw [ilt, nI_toInt (by omega)]; have h4 : (-1 : Int32).toInt = -1 := (by decide); omega), if_pos (nI_lt hj (by omega)), if_neg hm] at hA0
    have h5 : (nI z - 1).toInt = (z : Int) - 1 := pk_sub_toInt (a := z) (b := 1) (by omega) (by decide)
    rw [in_y (by rw [i64t, i64t, show (0 : Int64).toInt = 0 from rfl, nI_toInt (by omega)]; omega), Option.bind_some, if_pos n10] at hB0
    obtain ⟨own, o1, o2⟩ := own_R (A := A) (B := B) hs (show z ≤ 40 by omega) hj u7
    obtain ⟨A', e1, s1⟩ := kinds_A hT lA h8 (show j < n by omega) own 6 FUEL 0 A 0 (by omega) (by unfold FUEL; omega) ST.rf
    obtain ⟨B', e2, s2⟩ := kinds_B hU hs (show z ≤ 40 by omega) hj (show j < 8 by omega) u7 own o1 6 FUEL 0 B 0 (B 4 j) (by omega) (by unfold FUEL; omega) (by
      have : up2 B 4 j (B 4 j) = B := by
        funext c r
        by_cases e : c = 4
        · subst e
          by_cases er : r = j
          · subst er; rw [up2_at]
          · rw [up2_nk er]
        · rw [up2_ne e]
      rw [this]; exact SB.rf)
    rw [← (hi j (by omega)).2.1, ← (hi j (by omega)).2.2.1] at e2
    refine ⟨kb tv own (A 3 j) (A 4 j) (nI j) 6 0 0, A', B', ?_, ?_, s1, s2⟩
    · rw [hA0, o1, Option.bind_some]
      unfold F8_kindsOf
      dsimp only
      rw [show (0 : Int32) = nI 0 from rfl] at e1 ⊢
      rw [e1]
      rfl
    · rw [hB0]
      unfold F9_served_j61
      dsimp only
      rw [if_pos hm, if_pos (inb_of (show j < 8 by omega) (by decide)), nI_clamp (by omega)]
      exact e2
