theorem RL.cong {n o : Nat} {A A' B B' : Mem} (h : RL n o A B) (h1 : A' 1 = A 1) (h2 : A' 2 = A 2) (h3 : A' 3 = A 3) (h4 : A' 4 = A 4) (k1 : B' 0 10 = B 0 10) (k2 : B' 0 11 = B 0 11) (k3 : B' 0 12 = B 0 12) (k4 : B' 4 = B 4) (k5 : B' 5 = B 5) (k6 : B' 6 = B 6) : RL n o A' B' := by
  unfold RL at *
  rw [h1, h2, h3, h4, k1, k2, k3, k4, k5, k6]
  exact h
theorem RG.cong {t : Nat} {A A' B B' : Mem} (h : RG t A B) (h1 : A' 5 = A 5) (h2 : A' 6 = A 6) (h3 : A' 7 = A 7) (h4 : A' 8 = A 8) (k1 : B' 0 16 = B 0 16) (k4 : B' 7 = B 7) (k5 : B' 8 = B 8) (k6 : B' 9 = B 9) : RG t A' B' := by
  unfold RG at *
  rw [h1, h2, h3, h4, k1, k4, k5, k6]
  exact h
/-- in a told or set: the slot's number -/
theorem sl8 {a : Int32} (h1 : ¬ (a.toInt < 0 ∨ (8 : Int) ≤ a.toInt)) : a = 0 ∨ a = 1 ∨ a = 2 ∨ a = 3 ∨ a = 4 ∨ a = 5 ∨ a = 6 ∨ a = 7 := by
  rcases cs a 8 (by decide) with q | ⟨j, hj, rfl⟩
  · exact absurd q h1
  · rcases (show j = 0 ∨ j = 1 ∨ j = 2 ∨ j = 3 ∨ j = 4 ∨ j = 5 ∨ j = 6 ∨ j = 7 by omega) with rfl | rfl | rfl | rfl | rfl | rfl | rfl | rfl <;> decide
theorem told_R {tv : Tv} {n o t : Nat} {A B : Mem} (hT : TellA tv A) (hU : TellB tv B) (hO : TvOk tv) (h : RL n o A B) (g : RG t A B) (a1 a2 : Int32) : ∃ v A' B', F8_told A a1 a2 = some (v, A') ∧ F9_told B a1 a2 = some (v, B') ∧ ST A A' ∧ SB B B' := by
  obtain ⟨h8, hon, hA, hB, hoA, hoB, hg, hi⟩ := h
  obtain ⟨h6, gA, gB, gi⟩ := g
  have hno : ∀ w : Int32, F8_told A a1 a2 = some (w, A) → F9_told B a1 a2 = some (w, B) → ∃ v A' B', F8_told A a1 a2 = some (v, A') ∧ F9_told B a1 a2 = some (v, B') ∧ ST A A' ∧ SB B B' := fun w e1 e2 => ⟨w, A, B, e1, e2, ST.rf, SB.rf⟩
  by_cases q : a2.toInt < 0 ∨ (8 : Int) ≤ a2.toInt
  · refine hno (-2) ?_ ?_
    · unfold F8_told
      have ne : ∀ m : Int32, 0 ≤ m.toInt → m.toInt < 8 → ¬ a2 = m := fun m p1 p2 e => by rw [e] at q; omega
      rw [if_neg (ne 0 (by decide) (by decide)), if_neg (ne 1 (by decide) (by decide)), if_neg (ne 2 (by decide) (by decide)), if_neg (ne 3 (by decide) (by decide)), if_neg (ne 4 (by decide) (by decide)), if_neg (ne 5 (by decide) (by decide)), if_neg (ne 6 (by decide) (by decide)), if_neg (ne 7 (by decide) (by decide))]
    · unfold F9_told
      rw [in_n (by rw [i64t]; simp; omega)]
      rfl
  have hcust : a2 = 0 ∨ a2 = 1 ∨ a2 = 2 ∨ a2 = 6 ∨ a2 = 7 → (∀ j, j < n → a1 = nI j → ∃ v A' B', F8_told A a1 a2 = some (v, A') ∧ F9_told_j48 B a1 a2 = some (v, B') ∧ ST A A' ∧ SB B B') → ∃ v A' B', F8_told A a1 a2 = some (v, A') ∧ F9_told B a1 a2 = some (v, B') ∧ ST A A' ∧ SB B B' := by
    intro e k
    rcases cs a1 n (by omega) with p | ⟨j, hj, ej⟩
    · refine hno (-2) ?_ ?_
      · unfold F8_told
        rcases e with rfl | rfl | rfl | rfl | rfl <;> simp [oneA_n hA h8 p]
      · unfold F9_told
        rcases e with rfl | rfl | rfl | rfl | rfl <;> simp [F9_in_eq, oneB_n hB h8 p]
    · obtain ⟨v, A', B', r1, r2, r3, r4⟩ := k j hj ej
      refine ⟨v, A', B', r1, ?_, r3, r4⟩
      rw [← r2]
      subst ej
      unfold F9_told
      rcases e with rfl | rfl | rfl | rfl | rfl <;> simp [F9_in_eq, oneB_y hB h8 hj]
  have hthg : a2 = 3 ∨ a2 = 4 ∨ a2 = 5 → (∀ j, j < t → a1 = nI j → ∃ v A' B', F8_told A a1 a2 = some (v, A') ∧ F9_told_j48 B a1 a2 = some (v, B') ∧ ST A A' ∧ SB B B') → ∃ v A' B', F8_told A a1 a2 = some (v, A') ∧ F9_told B a1 a2 = some (v, B') ∧ ST A A' ∧ SB B B' := by
    intro e k
    rcases cs a1 t (by omega) with p | ⟨j, hj, ej⟩
    · refine hno (-2) ?_ ?_
      · unfold F8_told
        rcases e with rfl | rfl | rfl <;> simp [thgA_n gA h6 p]
      · unfold F9_told
        rcases e with rfl | rfl | rfl <;> simp [F9_in_eq, thgB_n gB h6 p]
    · obtain ⟨v, A', B', r1, r2, r3, r4⟩ := k j hj ej
      refine ⟨v, A', B', r1, ?_, r3, r4⟩
      rw [← r2]
      subst ej
      unfold F9_told
      rcases e with rfl | rfl | rfl <;> simp [F9_in_eq, thgB_y gB h6 hj]
  rcases sl8 q with rfl | rfl | rfl | rfl | rfl | rfl | rfl | rfl
  · refine hcust (by decide) (fun j hj e => ?_)
    subst e
    refine ⟨A 2 j, A, B, ?_, ?_, ST.rf, SB.rf⟩
    · unfold F8_told
      simp [oneA_y hA h8 hj, inb_of (show j < 8 by omega) (by decide), nI_clamp (show j < 2 ^ 31 by omega)]
    · unfold F9_told_j48
      simp [inb_of (show j < 8 by omega) (by decide), nI_clamp (show j < 2 ^ 31 by omega), (hi j (by omega)).1]
  · refine hcust (by decide) (fun j hj e => ?_)
    subst e
    refine ⟨A 3 j, A, B, ?_, ?_, ST.rf, SB.rf⟩
    · unfold F8_told
      simp [oneA_y hA h8 hj, inb_of (show j < 8 by omega) (by decide), nI_clamp (show j < 2 ^ 31 by omega)]
    · unfold F9_told_j48
      simp [inb_of (show j < 8 by omega) (by decide), nI_clamp (show j < 2 ^ 31 by omega), (hi j (by omega)).2.1]
  · refine hcust (by decide) (fun j hj e => ?_)
    subst e
    refine ⟨A 4 j, A, B, ?_, ?_, ST.rf, SB.rf⟩
    · unfold F8_told
      simp [oneA_y hA h8 hj, inb_of (show j < 8 by omega) (by decide), nI_clamp (show j < 2 ^ 31 by omega)]
    · unfold F9_told_j48
      simp [inb_of (show j < 8 by omega) (by decide), nI_clamp (show j < 2 ^ 31 by omega), (hi j (by omega)).2.2.1]
  · refine hthg (by decide) (fun j hj e => ?_)
    subst e
    refine ⟨A 6 j, A, B, ?_, ?_, ST.rf, SB.rf⟩
    · unfold F8_told
      simp [thgA_y gA h6 hj, inb_of (show j < 6 by omega) (by decide), nI_clamp (show j < 2 ^ 31 by omega)]
    · unfold F9_told_j48
      simp [inb_of (show j < 6 by omega) (by decide), nI_clamp (show j < 2 ^ 31 by omega), (gi j (by omega)).1]
  · refine hthg (by decide) (fun j hj e => ?_)
    subst e
    refine ⟨A 7 j, A, B, ?_, ?_, ST.rf, SB.rf⟩
    · unfold F8_told
      simp [thgA_y gA h6 hj, inb_of (show j < 6 by omega) (by decide), nI_clamp (show j < 2 ^ 31 by omega)]
    · unfold F9_told_j48
      simp [inb_of (show j < 6 by omega) (by decide), nI_clamp (show j < 2 ^ 31 by omega), (gi j (by omega)).2.1]
  · refine hthg (by decide) (fun j hj e => ?_)
    subst e
    refine ⟨A 8 j, A, B, ?_, ?_, ST.rf, SB.rf⟩
    · unfold F8_told
      simp [thgA_y gA h6 hj, inb_of (show j < 6 by omega) (by decide), nI_clamp (show j < 2 ^ 31 by omega)]
    · unfold F9_told_j48
      simp [inb_of (show j < 6 by omega) (by decide), nI_clamp (show j < 2 ^ 31 by omega), (gi j (by omega)).2.2.1]
  · refine hcust (by decide) (fun j hj e => ?_)
    subst e
    obtain ⟨A', e1, s1⟩ := sec_A hT KA.rf hA h8 hj (A 2 j) (nI j)
    obtain ⟨B', e2, s2⟩ := sec_B hU KB.rf (i := j) (by omega) (by rw [← (hi j (by omega)).1]; exact (hi j (by omega)).2.2.2.1)
    refine ⟨secV tv (A 2 j) (A 3 j) (A 4 j) (nI j), A', B', ?_, ?_, s1, s2⟩
    · unfold F8_told
      simp [oneA_y hA h8 hj, inb_of (show j < 8 by omega) (by decide), nI_clamp (show j < 2 ^ 31 by omega), e1]
    · unfold F9_told_j48
      simp [e2, (hi j (by omega)).1, (hi j (by omega)).2.1, (hi j (by omega)).2.2.1]
  · refine hcust (by decide) (fun j hj e => ?_)
    subst e
    obtain ⟨A', e1, s1⟩ := mnd_A hT KA.rf hA h8 hj 0
    obtain ⟨B', e2, s2⟩ := mnd_B hU hO KB.rf (i := j) (by omega) (by rw [← (hi j (by omega)).1]; exact (hi j (by omega)).2.2.2.1) 0
    refine ⟨mndV tv (A 2 j) (A 3 j) (A 4 j) (nI j) 0, A', B', ?_, ?_, s1, s2⟩
    · unfold F8_told
      simp [oneA_y hA h8 hj, e1]
    · unfold F9_told_j48
      simp [e2, (hi j (by omega)).1, (hi j (by omega)).2.1, (hi j (by omega)).2.2.1]
