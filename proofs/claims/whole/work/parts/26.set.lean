/-- class: one value of a row changed -/
theorem repl_eq (A : Mem) (c N j m : Nat) (x : Int32) (hN : N < 2 ^ 31) (hj : j < N) (hm : m < 2 ^ 31) : F8_replace A c N (nI j) x (nI m) = (if 0 ≤ x.toInt ∧ x.toInt ≤ m then some (A c j, up2 A c j x) else some (-2, A)) := by
  unfold F8_replace
  simp only [ile, ilt, Int32.reduceToInt, nI_toInt (show j < 2 ^ 31 by omega), nI_toInt hm, show (Int32.ofNat N).toInt = (N : Int) from nI_toInt hN]
  rw [if_neg (by omega), if_neg (by omega)]
  by_cases h : x.toInt < 0
  · rw [if_pos h, if_neg (by omega)]
  · rw [if_neg h]
    by_cases h2 : x.toInt ≤ m
    · rw [if_pos h2, if_pos (inb_of hj hN), if_pos ⟨by omega, h2⟩, nI_clamp (by omega)]
    · rw [if_neg h2, if_neg (fun z => h2 z.2)]
theorem in2 {M : Mem} (x : Int32) (c : Int64) (m : Nat) (hc : c.toInt = m) : F9_in M (Int32.toInt64 x) 0 c = some (if 0 ≤ x.toInt ∧ x.toInt ≤ m then 1 else 0, M) := by
  rw [F9_in_eq, i64t, hc]
  rfl
theorem if10 {p : Prop} [Decidable p] : ((if p then (1 : Int32) else 0) = 0) = ¬ p := by
  by_cases h : p
  · simp [h]
  · simp [h]
theorem set_R {n o t : Nat} {A B : Mem} (h : RL n o A B) (g : RG t A B) (a1 a2 a3 : Int32) : ∃ v A' B' o', F8_set A a1 a2 a3 = some (v, A') ∧ F9_set B a1 a2 a3 = some (v, B') ∧ RL n o' A' B' ∧ RG t A' B' ∧ FA [1, 3, 4, 6, 7, 8] A A' ∧ (∀ k, k ≠ 4 → A' 1 k = A 1 k) ∧ FB [5, 6, 7, 8, 9] [11] B B' := by
  have h0 := h
  have g0 := g
  obtain ⟨h8, hon, hA, hB, hoA, hoB, hg, hi⟩ := h
  obtain ⟨h6, gA, gB, gi⟩ := g
  have hno : ∀ w : Int32, F8_set A a1 a2 a3 = some (w, A) → F9_set B a1 a2 a3 = some (w, B) → ∃ v A' B' o', F8_set A a1 a2 a3 = some (v, A') ∧ F9_set B a1 a2 a3 = some (v, B') ∧ RL n o' A' B' ∧ RG t A' B' ∧ FA [1, 3, 4, 6, 7, 8] A A' ∧ (∀ k, k ≠ 4 → A' 1 k = A 1 k) ∧ FB [5, 6, 7, 8, 9] [11] B B' := fun w e1 e2 => ⟨w, A, B, o, e1, e2, h0, g0, FA.rf, fun _ _ => rfl, FB.rf⟩
  by_cases q : a1.toInt < 0 ∨ (6 : Int) ≤ a1.toInt
  · refine hno (-2) ?_ ?_
    · unfold F8_set
      have ne : ∀ m : Int32, 0 ≤ m.toInt → m.toInt < 6 → ¬ a1 = m := fun m p1 p2 e => by rw [e] at q; omega
      rw [if_neg (ne 0 (by decide) (by decide)), if_neg (ne 1 (by decide) (by decide)), if_neg (ne 2 (by decide) (by decide)), if_neg (ne 3 (by decide) (by decide)), if_neg (ne 4 (by decide) (by decide)), if_neg (ne 5 (by decide) (by decide))]
    · unfold F9_set
      rw [in_n (by rw [i64t]; simp; omega)]
      rfl
  have hs : a1 = 0 ∨ a1 = 1 ∨ a1 = 2 ∨ a1 = 3 ∨ a1 = 4 ∨ a1 = 5 := by
    rcases cs a1 6 (by decide) with q2 | ⟨j, hj, rfl⟩
    · exact absurd q2 q
    · rcases (show j = 0 ∨ j = 1 ∨ j = 2 ∨ j = 3 ∨ j = 4 ∨ j = 5 by omega) with rfl | rfl | rfl | rfl | rfl | rfl <;> decide
  rcases hs with rfl | hs
  · have eA : F8_set A 0 a2 a3 = (if 0 ≤ a3.toInt ∧ a3.toInt ≤ n then some (nI o, up2 A 1 4 a3) else some (-2, A)) := by
      unfold F8_set F2_moveUs
      simp only [ile, ilt, Int32.reduceToInt, hA, hoA, nI_toInt (show n < 2 ^ 31 by omega), if_true]
      by_cases h : a3.toInt < 0
      · rw [if_pos h, if_neg (by omega)]; rfl
      · rw [if_neg h]
        by_cases h2 : a3.toInt ≤ n
        · rw [if_pos h2, if_pos ⟨by omega, h2⟩]; rfl
        · rw [if_neg h2, if_neg (fun z => h2 z.2)]; rfl
    have eB : F9_set B 0 a2 a3 = (if 0 ≤ a3.toInt ∧ a3.toInt ≤ n then some (nI o, up2 B 0 11 a3) else some (-2, B)) := by
      unfold F9_set
      rw [in_y (by decide), Option.bind_some, if_neg n10, in_n (by decide), Option.bind_some, if_pos rfl]
      unfold F9_set_j32 F9_set_j48 F9_set_j99 F9_set_j181
      rw [if_pos (by decide), if_neg (by decide), in2 a3 _ n (by rw [i64t]; show (B 0 10).toInt = _; rw [hB, nI_toInt (by omega)]), Option.bind_some]
      by_cases h : 0 ≤ a3.toInt ∧ a3.toInt ≤ n
      · simp [h, hoB]
      · simp [h]
    by_cases hh : 0 ≤ a3.toInt ∧ a3.toInt ≤ n
    · obtain ⟨w, rfl, hw, -⟩ := nat_of hh.1
      rw [eA, eB, if_pos hh, if_pos hh]
      refine ⟨_, _, _, w, rfl, rfl, ⟨h8, by omega, ?_, ?_, up2_at, up2_at, ?_, ?_⟩, ?_, FA.rf.up (by decide), fun k hk => up2_nk hk, FB.rf.up0 (by decide)⟩
      · rw [up2_nk (by decide)]; exact hA
      · rw [up2_nk (by decide)]; exact hB
      · rw [up2_nk (by decide), up2_nk (by decide)]; exact hg
      · intro i hin
        simp only [up2_ne (show (2 : Nat) ≠ 1 by decide), up2_ne (show (3 : Nat) ≠ 1 by decide), up2_ne (show (4 : Nat) ≠ 1 by decide), up2_ne (show (4 : Nat) ≠ 0 by decide), up2_ne (show (5 : Nat) ≠ 0 by decide), up2_ne (show (6 : Nat) ≠ 0 by decide)]
        exact hi i hin
      · exact g0.cong (up2_ne (by decide)) (up2_ne (by decide)) (up2_ne (by decide)) (up2_ne (by decide)) (up2_nk (by decide)) (up2_ne (by decide)) (up2_ne (by decide)) (up2_ne (by decide))
    · exact hno (-2) (by rw [eA, if_neg hh]) (by rw [eB, if_neg hh])
  · by_cases hc : a1 = 1 ∨ a1 = 2
    · rcases cs a2 n (by omega) with p | ⟨j, hj, rfl⟩
      · refine hno (-2) ?_ ?_
        · unfold F8_set
          rcases hc with rfl | rfl <;> simp [oneA_n hA h8 p]
        · unfold F9_set
          rcases hc with rfl | rfl <;> simp [F9_in_eq, oneB_n hB h8 p]
      · rcases hc with rfl | rfl
        · have eA : F8_set A 1 (nI j) a3 = (if 0 ≤ a3.toInt ∧ a3.toInt ≤ (40 : Nat) then some (A 3 j, up2 A 3 j a3) else some (-2, A)) := by
            unfold F8_set
            rw [if_neg (by decide), if_pos rfl, oneA_y hA h8 hj, Option.bind_some, if_neg n10]
            dsimp only
            rw [show (40 : Int32) = nI 40 from rfl, repl_eq A 3 8 j 40 a3 (by decide) (by omega) (by decide)]
            split <;> rfl
          have eB : F9_set B 1 (nI j) a3 = (if 0 ≤ a3.toInt ∧ a3.toInt ≤ (40 : Nat) then some (B 5 j, up2 B 5 j a3) else some (-2, B)) := by
            unfold F9_set
            rw [in_y (by decide), Option.bind_some, if_neg n10, in_y (by decide), Option.bind_some, if_neg n10, oneB_y hB h8 hj, Option.bind_some, if_neg n10]
            unfold F9_set_j32 F9_set_j48 F9_set_j99 F9_set_j181
            rw [if_pos (by decide), if_pos (by decide), if_neg (by decide), in2 a3 _ 40 rfl, Option.bind_some]
            by_cases h : 0 ≤ a3.toInt ∧ a3.toInt ≤ (40 : Nat)
            · rw [if_pos h]
              simp [inb_of (show j < 8 by omega) (by decide), nI_clamp (show j < 2 ^ 31 by omega)]
              omega
            · rw [if_neg h]
              simp
              omega
          by_cases hh : 0 ≤ a3.toInt ∧ a3.toInt ≤ (40 : Nat)
          · rw [eA, eB, if_pos hh, if_pos hh, (hi j (by omega)).2.1]
            refine ⟨_, _, _, o, rfl, rfl, ⟨h8, hon, ?_, ?_, ?_, ?_, ?_, ?_⟩, ?_, FA.rf.up (by decide), fun k hk => ?_, FB.rf.up (by decide) (by decide)⟩
            · rw [up2_ne (by decide)]; exact hA
            · rw [up2_ne (by decide)]; exact hB
            · rw [up2_ne (by decide)]; exact hoA
            · rw [up2_ne (by decide)]; exact hoB
            · rw [up2_ne (by decide), up2_ne (by decide)]; exact hg
            · intro i hin
              rw [up2_ne (show (2 : Nat) ≠ 3 by decide), up2_ne (show (4 : Nat) ≠ 3 by decide), up2_ne (show (4 : Nat) ≠ 5 by decide), up2_ne (show (6 : Nat) ≠ 5 by decide)]
              by_cases e : i = j
              · subst e
                rw [up2_at, up2_at]
                exact ⟨(hi i hin).1, rfl, (hi i hin).2.2.1, (hi i hin).2.2.2.1, hh, (hi i hin).2.2.2.2.2⟩
              · rw [up2_nk e, up2_nk e]
                exact hi i hin
            · exact g0.cong (up2_ne (by decide)) (up2_ne (by decide)) (up2_ne (by decide)) (up2_ne (by decide)) (by rw [up2_ne (by decide)]) (up2_ne (by decide)) (up2_ne (by decide)) (up2_ne (by decide))
            · rw [up2_ne (by decide)]
          · exact hno (-2) (by rw [eA, if_neg hh]) (by rw [eB, if_neg hh])
        · have eA : F8_set A 2 (nI j) a3 = (if 0 ≤ a3.toInt ∧ a3.toInt ≤ (9 : Nat) then some (A 4 j, up2 A 4 j a3) else some (-2, A)) := by
            unfold F8_set
            rw [if_neg (by decide), if_neg (by decide), if_pos rfl, oneA_y hA h8 hj, Option.bind_some, if_neg n10]
            dsimp only
            rw [show (9 : Int32) = nI 9 from rfl, repl_eq A 4 8 j 9 a3 (by decide) (by omega) (by decide)]
            split <;> rfl
          have eB : F9_set B 2 (nI j) a3 = (if 0 ≤ a3.toInt ∧ a3.toInt ≤ (9 : Nat) then some (B 6 j, up2 B 6 j a3) else some (-2, B)) := by
            unfold F9_set
            rw [in_y (by decide), Option.bind_some, if_neg n10, in_y (by decide), Option.bind_some, if_neg n10, oneB_y hB h8 hj, Option.bind_some, if_neg n10]
            unfold F9_set_j32 F9_set_j48 F9_set_j99 F9_set_j181
            rw [if_pos (by decide), if_pos (by decide), if_pos (by decide), if_neg (by decide), in2 a3 _ 9 rfl, Option.bind_some]
            by_cases h : 0 ≤ a3.toInt ∧ a3.toInt ≤ (9 : Nat)
            · rw [if_pos h]
              simp [inb_of (show j < 8 by omega) (by decide), nI_clamp (show j < 2 ^ 31 by omega)]
              omega
            · rw [if_neg h]
              simp
              omega
          by_cases hh : 0 ≤ a3.toInt ∧ a3.toInt ≤ (9 : Nat)
          · rw [eA, eB, if_pos hh, if_pos hh, (hi j (by omega)).2.2.1]
            refine ⟨_, _, _, o, rfl, rfl, ⟨h8, hon, ?_, ?_, ?_, ?_, ?_, ?_⟩, ?_, FA.rf.up (by decide), fun k hk => ?_, FB.rf.up (by decide) (by decide)⟩
            · rw [up2_ne (by decide)]; exact hA
            · rw [up2_ne (by decide)]; exact hB
            · rw [up2_ne (by decide)]; exact hoA
            · rw [up2_ne (by decide)]; exact hoB
            · rw [up2_ne (by decide), up2_ne (by decide)]; exact hg
            · intro i hin
              rw [up2_ne (show (2 : Nat) ≠ 4 by decide), up2_ne (show (3 : Nat) ≠ 4 by decide), up2_ne (show (4 : Nat) ≠ 6 by decide), up2_ne (show (5 : Nat) ≠ 6 by decide)]
              by_cases e : i = j
              · subst e
                rw [up2_at, up2_at]
                exact ⟨(hi i hin).1, (hi i hin).2.1, rfl, (hi i hin).2.2.2.1, (hi i hin).2.2.2.2.1, hh⟩
              · rw [up2_nk e, up2_nk e]
                exact hi i hin
            · exact g0.cong (up2_ne (by decide)) (up2_ne (by decide)) (up2_ne (by decide)) (up2_ne (by decide)) (by rw [up2_ne (by decide)]) (up2_ne (by decide)) (up2_ne (by decide)) (up2_ne (by decide))
            · rw [up2_ne (by decide)]
          · exact hno (-2) (by rw [eA, if_neg hh]) (by rw [eB, if_neg hh])
    · replace hs : a1 = 3 ∨ a1 = 4 ∨ a1 = 5 := by
        rcases hs with e | e | e
        · exact absurd (.inl e) hc
        · exact absurd (.inr e) hc
        · exact e
      rcases cs a2 t (by omega) with p | ⟨j, hj, rfl⟩
      · refine hno (-2) ?_ ?_
        · unfold F8_set
          rcases hs with rfl | rfl | rfl <;> simp [thgA_n gA h6 p]
        · unfold F9_set F9_set_j32
          rcases hs with rfl | rfl | rfl <;> simp [F9_in_eq, thgB_n gB h6 p]
      · have key : ∀ (c d m : Nat) (a : Int32), (c = 6 ∧ d = 7 ∧ m = 99) ∨ (c = 7 ∧ d = 8 ∧ m = 99) ∨ (c = 8 ∧ d = 9 ∧ m = 100) → F8_set A a (nI j) a3 = (if 0 ≤ a3.toInt ∧ a3.toInt ≤ m then some (A c j, up2 A c j a3) else some (-2, A)) → F9_set B a (nI j) a3 = (if 0 ≤ a3.toInt ∧ a3.toInt ≤ m then some (B d j, up2 B d j a3) else some (-2, B)) → ∃ v A' B' o', F8_set A a (nI j) a3 = some (v, A') ∧ F9_set B a (nI j) a3 = some (v, B') ∧ RL n o' A' B' ∧ RG t A' B' ∧ FA [1, 3, 4, 6, 7, 8] A A' ∧ (∀ k, k ≠ 4 → A' 1 k = A 1 k) ∧ FB [5, 6, 7, 8, 9] [11] B B' := by
          intro c d m a hcd eA eB
          by_cases hh : 0 ≤ a3.toInt ∧ a3.toInt ≤ m
          · rw [eA, eB, if_pos hh, if_pos hh]
            have ev : A c j = B d j := by
              rcases hcd with ⟨rfl, rfl, -⟩ | ⟨rfl, rfl, -⟩ | ⟨rfl, rfl, -⟩
              · exact (gi j (by omega)).1
              · exact (gi j (by omega)).2.1
              · exact (gi j (by omega)).2.2.1
            refine ⟨A c j, up2 A c j a3, up2 B d j a3, o, rfl, by rw [ev], ?_, ?_, ?_, ?_, ?_⟩
            · exact h0.cong (up2_ne (by omega)) (up2_ne (by omega)) (up2_ne (by omega)) (up2_ne (by omega)) (by rw [up2_ne (by omega)]) (by rw [up2_ne (by omega)]) (by rw [up2_ne (by omega)]) (up2_ne (by omega)) (up2_ne (by omega)) (up2_ne (by omega))
            · refine ⟨h6, by rw [up2_ne (by omega)]; exact gA, by rw [up2_ne (by omega)]; exact gB, fun i hin => ?_⟩
              rcases hcd with ⟨rfl, rfl, rfl⟩ | ⟨rfl, rfl, rfl⟩ | ⟨rfl, rfl, rfl⟩
              · rw [up2_ne (show (7 : Nat) ≠ 6 by decide), up2_ne (show (8 : Nat) ≠ 6 by decide), up2_ne (show (8 : Nat) ≠ 7 by decide), up2_ne (show (9 : Nat) ≠ 7 by decide)]
                by_cases e : i = j
                · subst e
                  rw [up2_at, up2_at]
                  exact ⟨rfl, (gi i hin).2.1, (gi i hin).2.2.1, hh, (gi i hin).2.2.2.2⟩
                · rw [up2_nk e, up2_nk e]
                  exact gi i hin
              · rw [up2_ne (show (6 : Nat) ≠ 7 by decide), up2_ne (show (8 : Nat) ≠ 7 by decide), up2_ne (show (7 : Nat) ≠ 8 by decide), up2_ne (show (9 : Nat) ≠ 8 by decide)]
                by_cases e : i = j
                · subst e
                  rw [up2_at, up2_at]
                  exact ⟨(gi i hin).1, rfl, (gi i hin).2.2.1, (gi i hin).2.2.2.1, hh, (gi i hin).2.2.2.2.2⟩
                · rw [up2_nk e, up2_nk e]
                  exact gi i hin
              · rw [up2_ne (show (6 : Nat) ≠ 8 by decide), up2_ne (show (7 : Nat) ≠ 8 by decide), up2_ne (show (7 : Nat) ≠ 9 by decide), up2_ne (show (8 : Nat) ≠ 9 by decide)]
                by_cases e : i = j
                · subst e
                  rw [up2_at, up2_at]
                  exact ⟨(gi i hin).1, (gi i hin).2.1, rfl, (gi i hin).2.2.2.1, (gi i hin).2.2.2.2.1, hh⟩
                · rw [up2_nk e, up2_nk e]
                  exact gi i hin
            · exact FA.rf.up (by rcases hcd with ⟨rfl, -⟩ | ⟨rfl, -⟩ | ⟨rfl, -⟩ <;> decide)
            · intro k hk; rw [up2_ne (by omega)]
            · exact FB.rf.up (by omega) (by rcases hcd with ⟨-, rfl, -⟩ | ⟨-, rfl, -⟩ | ⟨-, rfl, -⟩ <;> decide)
          · exact ⟨-2, A, B, o, by rw [eA, if_neg hh], by rw [eB, if_neg hh], h0, g0, FA.rf, fun _ _ => rfl, FB.rf⟩
        rcases hs with rfl | rfl | rfl
        · refine key 6 7 99 3 (by decide) ?_ ?_
          · unfold F8_set
            rw [if_neg (by decide), if_neg (by decide), if_neg (by decide), if_pos rfl, thgA_y gA h6 hj, Option.bind_some, if_neg n10]
            dsimp only
            rw [show (99 : Int32) = nI 99 from rfl, repl_eq A 6 6 j 99 a3 (by decide) (by omega) (by decide)]
            split <;> rfl
          · unfold F9_set
            rw [in_y (by decide), Option.bind_some, if_neg n10, in_n (by decide), Option.bind_some, if_pos rfl]
            unfold F9_set_j32
            rw [if_neg (by decide), thgB_y gB h6 hj, Option.bind_some, if_pos n10]
            unfold F9_set_j48 F9_set_j99 F9_set_j181
            rw [if_pos (by decide), if_pos (by decide), if_pos (by decide), if_pos (by decide), in2 a3 _ 99 rfl, Option.bind_some]
            by_cases h : 0 ≤ a3.toInt ∧ a3.toInt ≤ (99 : Nat)
            · rw [if_pos h]
              simp [inb_of (show j < 6 by omega) (by decide), nI_clamp (show j < 2 ^ 31 by omega)]
              omega
            · rw [if_neg h]
              simp
              omega
        · refine key 7 8 99 4 (by decide) ?_ ?_
          · unfold F8_set
            rw [if_neg (by decide), if_neg (by decide), if_neg (by decide), if_neg (by decide), if_pos rfl, thgA_y gA h6 hj, Option.bind_some, if_neg n10]
            dsimp only
            rw [show (99 : Int32) = nI 99 from rfl, repl_eq A 7 6 j 99 a3 (by decide) (by omega) (by decide)]
            split <;> rfl
          · unfold F9_set
            rw [in_y (by decide), Option.bind_some, if_neg n10, in_n (by decide), Option.bind_some, if_pos rfl]
            unfold F9_set_j32
            rw [if_neg (by decide), thgB_y gB h6 hj, Option.bind_some, if_pos n10]
            unfold F9_set_j48 F9_set_j99 F9_set_j181
            rw [if_pos (by decide), if_pos (by decide), if_pos (by decide), if_pos (by decide), in2 a3 _ 99 rfl, Option.bind_some]
            by_cases h : 0 ≤ a3.toInt ∧ a3.toInt ≤ (99 : Nat)
            · rw [if_pos h]
              simp [inb_of (show j < 6 by omega) (by decide), nI_clamp (show j < 2 ^ 31 by omega)]
              omega
            · rw [if_neg h]
              simp
              omega
        · refine key 8 9 100 5 (by decide) ?_ ?_
          · unfold F8_set
            rw [if_neg (by decide), if_neg (by decide), if_neg (by decide), if_neg (by decide), if_neg (by decide), if_pos rfl, thgA_y gA h6 hj, Option.bind_some, if_neg n10]
            dsimp only
            rw [show (100 : Int32) = nI 100 from rfl, repl_eq A 8 6 j 100 a3 (by decide) (by omega) (by decide)]
            split <;> rfl
          · unfold F9_set
            rw [in_y (by decide), Option.bind_some, if_neg n10, in_n (by decide), Option.bind_some, if_pos rfl]
            unfold F9_set_j32
            rw [if_neg (by decide), thgB_y gB h6 hj, Option.bind_some, if_pos n10]
            unfold F9_set_j48 F9_set_j99 F9_set_j181
            rw [if_pos (by decide), if_pos (by decide), if_pos (by decide), if_neg (by decide), in2 a3 _ 100 rfl, Option.bind_some]
            by_cases h : 0 ≤ a3.toInt ∧ a3.toInt ≤ (100 : Nat)
            · rw [if_pos h]
              simp [inb_of (show j < 6 by omega) (by decide), nI_clamp (show j < 2 ^ 31 by omega)]
              omega
            · rw [if_neg h]
              simp
              omega

theorem force_R {m r : Nat} {A B : Mem} (hm : m ≤ 6) (hA : A 16 5 = nI m) (hB : B 0 3 = nI m) (hr : A 16 6 = nI r) (hs : B 0 4 = nI r) (hrm : r < m) (a1 : Int32) : ∃ v A' B' r', F8_force A a1 = some (v, A') ∧ F9_force B a1 = some (v, B') ∧ A' 16 6 = nI r' ∧ B' 0 4 = nI r' ∧ r' < m ∧ (∀ k, k ≠ 6 → A' 16 k = A 16 k) ∧ FA [16] A A' ∧ FB [] [4] B B' := by
  have eA : F8_force A a1 = (if 0 ≤ a1.toInt ∧ a1.toInt < m then some (nI r, up2 A 16 6 a1) else some (-2, A)) := by
    unfold F8_force
    simp only [ile, ilt, Int32.reduceToInt, hA, hr, nI_toInt (show m < 2 ^ 31 by omega)]
    by_cases h : a1.toInt < 0
    · rw [if_pos h, if_neg (by omega)]
    · rw [if_neg h]
      by_cases h2 : a1.toInt < m
      · rw [if_pos h2, if_pos ⟨by omega, h2⟩]
      · rw [if_neg h2, if_neg (fun z => h2 z.2)]
  have eB : F9_force B a1 = (if 0 ≤ a1.toInt ∧ a1.toInt < m then some (nI r, up2 B 0 4 a1) else some (-2, B)) := by
    unfold F9_force
    rw [F9_in_eq, i64t, i64t, hB, show (0 : Int64).toInt = 0 from rfl, show (nI m - 1).toInt = (m : Int) - 1 from by rw [show (1 : Int32) = nI 1 from rfl, pk_sub_toInt (by omega) (by decide)]; rfl]
    by_cases h : 0 ≤ a1.toInt ∧ a1.toInt < m
    · rw [if_pos (show 0 ≤ a1.toInt ∧ a1.toInt ≤ (m : Int) - 1 by omega), if_pos h, Option.bind_some, if_pos n10]
      dsimp only
      rw [hs]
    · rw [if_neg (show ¬ (0 ≤ a1.toInt ∧ a1.toInt ≤ (m : Int) - 1) by omega), if_neg h, Option.bind_some]
      rfl
  by_cases hh : 0 ≤ a1.toInt ∧ a1.toInt < m
  · obtain ⟨w, rfl, hw, -⟩ := nat_of hh.1
    rw [eA, eB, if_pos hh, if_pos hh]
    exact ⟨_, _, _, w, rfl, rfl, up2_at, up2_at, by omega, fun k hk => up2_nk hk, FA.rf.up (by decide), FB.rf.up0 (by decide)⟩
  · exact ⟨-2, A, B, r, by rw [eA, if_neg hh], by rw [eB, if_neg hh], hr, hs, hrm, fun _ _ => rfl, FA.rf, FB.rf⟩
theorem count_R {A B : Mem} (h0 : A 1 3 = B 0 10) (h1 : A 5 3 = B 0 16) (h2 : A 1 4 = B 0 11) (h3 : A 16 5 = B 0 3) (h4 : A 9 1 = B 0 6) (h5 : A 16 6 = B 0 4) (h6 : A 1 5 = B 0 12) (a1 : Int32) : ∃ v, F8_count A a1 = some (v, A) ∧ F9_count B a1 = some (v, B) := by
  rcases cs a1 7 (by decide) with q | ⟨j, hj, rfl⟩
  · refine ⟨-2, ?_, ?_⟩
    · unfold F8_count
      have ne : ∀ m : Int32, 0 ≤ m.toInt → m.toInt < 7 → ¬ a1 = m := fun m p1 p2 e => by rw [e] at q; omega
      rw [if_neg (ne 0 (by decide) (by decide)), if_neg (ne 1 (by decide) (by decide)), if_neg (ne 2 (by decide) (by decide)), if_neg (ne 3 (by decide) (by decide)), if_neg (ne 4 (by decide) (by decide)), if_neg (ne 5 (by decide) (by decide)), if_neg (ne 6 (by decide) (by decide))]
    · unfold F9_count
      rw [in_n (by rw [i64t]; simp; omega)]
      rfl
  · unfold F8_count F9_count
    rcases (show j = 0 ∨ j = 1 ∨ j = 2 ∨ j = 3 ∨ j = 4 ∨ j = 5 ∨ j = 6 by omega) with rfl | rfl | rfl | rfl | rfl | rfl | rfl
    · exact ⟨A 1 3, rfl, by rw [in_y (by decide), h0]; rfl⟩
    · exact ⟨A 5 3, rfl, by rw [in_y (by decide), h1]; rfl⟩
    · exact ⟨A 1 4, rfl, by rw [in_y (by decide), h2]; rfl⟩
    · exact ⟨A 16 5, rfl, by rw [in_y (by decide), h3]; rfl⟩
    · exact ⟨A 9 1, rfl, by rw [in_y (by decide), h4]; rfl⟩
    · exact ⟨A 16 6, rfl, by rw [in_y (by decide), h5]; rfl⟩
    · exact ⟨A 1 5, rfl, by rw [in_y (by decide), h6]; rfl⟩
