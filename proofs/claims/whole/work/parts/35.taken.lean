theorem under_eq (M N : Mem) (x : Int32) (k a : Nat) (hk : k < 6) (ha : a < 6) : (F8_isUnder M (nI k) (nI a) = some (1, M) ∧ F9_taken_l33 FUEL N x (nI a) (nI k) = F9_taken_j51 N x (nI a) (nI a)) ∨ (F8_isUnder M (nI k) (nI a) = some (0, M) ∧ F9_taken_l33 FUEL N x (nI a) (nI k) = F9_taken_j51 N x (nI a) (-1)) := by
  rcases (show k = 0 ∨ k = 1 ∨ k = 2 ∨ k = 3 ∨ k = 4 ∨ k = 5 by omega) with rfl | rfl | rfl | rfl | rfl | rfl <;>
    rcases (show a = 0 ∨ a = 1 ∨ a = 2 ∨ a = 3 ∨ a = 4 ∨ a = 5 by omega) with rfl | rfl | rfl | rfl | rfl | rfl <;>
    first | exact .inl ⟨rfl, rfl⟩ | exact .inr ⟨rfl, rfl⟩
theorem taken_R {n o : Nat} {A B : Mem} (h : RL n o A B) (a1 a2 : Int32) : ∃ v, F8_taken A a1 a2 = some (v, A) ∧ F9_taken B a1 a2 = some (v, B) := by
  obtain ⟨h8, hon, lA, lB, loA, loB, hg, hi⟩ := h
  rcases cs a2 6 (by decide) with q | ⟨a, ha, rfl⟩
  · refine ⟨-2, ?_, ?_⟩
    · unfold F8_taken
      by_cases h1 : a2 < 0
      · rw [if_pos h1]
      · rw [if_neg h1, if_neg (show ¬ a2 < 6 by rw [ilt]; rw [ilt] at h1; simp at h1; show ¬ a2.toInt < 6; omega)]
    · unfold F9_taken
      rw [in_n (by rw [i64t, show (0 : Int64).toInt = 0 from rfl, show (5 : Int64).toInt = 5 from rfl]; omega)]
      rfl
  have g1 : ¬ nI a < 0 := nI_pos (by omega)
  have g2 : nI a < 6 := nI_lt (b := 6) ha (by decide)
  have g3 : F9_in B (Int32.toInt64 (nI a)) (0 : Int64) (5 : Int64) = some (1, B) := in_y (by rw [i64t, nI_toInt (by omega), show (0 : Int64).toInt = 0 from rfl, show (5 : Int64).toInt = 5 from rfl]; omega)
  rcases cs a1 n (by omega) with q | ⟨j, hj, rfl⟩
  · refine ⟨-11, ?_, ?_⟩
    · unfold F8_taken
      rw [if_neg g1, if_pos g2, oneA_n lA h8 q]
      rfl
    · unfold F9_taken
      rw [g3, Option.bind_some, if_pos n10, oneB_n lB h8 q]
      rfl
  · obtain ⟨p1, p2, p3, p4, p5, p6⟩ := hi j (by omega)
    obtain ⟨k, ek, hk, -⟩ := nat_of p4.1
    have hk6 : k < 6 := by omega
    have ekB : B 4 j = nI k := by rw [← p1, ek]
    have jA : F8_taken A (nI j) (nI a) = Option.bind (F8_isUnder A (nI k) (nI a)) fun r7 => if r7.1 = 0 then some ((-13 : Int32), r7.2) else some ((r7.2 4 j), r7.2) := by
      unfold F8_taken
      rw [if_neg g1, if_pos g2, oneA_y lA h8 hj, Option.bind_some, if_pos n10, if_pos (inb_of (by omega) (by decide)), nI_clamp (by omega)]
      dsimp only
      rw [ek]
    have jB : F9_taken B (nI j) (nI a) = F9_taken_l33 FUEL B (nI j) (nI a) (nI k) := by
      unfold F9_taken
      rw [g3, Option.bind_some, if_pos n10, oneB_y lB h8 hj, Option.bind_some, if_pos n10, if_pos (inb_of (by omega) (by decide)), nI_clamp (by omega)]
      dsimp only
      rw [ekB]
    rw [jA, jB]
    rcases under_eq A B (nI j) k a hk6 ha with ⟨u1, u2⟩ | ⟨u1, u2⟩
    · refine ⟨A 4 j, ?_, ?_⟩
      · rw [u1]; rfl
      · rw [u2]
        unfold F9_taken_j51
        rw [if_neg (fun z => z rfl), if_pos (inb_of (by omega) (by decide)), nI_clamp (by omega), p3]
    · refine ⟨-13, ?_, ?_⟩
      · rw [u1]; rfl
      · rw [u2]
        unfold F9_taken_j51
        rw [if_pos (fun z => nI_m1 (show a < 2 ^ 31 by omega) z.symm)]
