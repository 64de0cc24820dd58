theorem spansA {A : Mem} {s z : Nat} (hs : s < 4) (hz : A 44 s = nI z) (hz40 : z ≤ 40) (x y : Int32) : F5_spans A (nI s) x y = some (if 0 ≤ x.toInt ∧ 0 ≤ y.toInt ∧ x.toInt + y.toInt ≤ z then 1 else 0, A) := by
  have hsum : (Int32.toInt64 x + Int32.toInt64 y).toInt = x.toInt + y.toInt := by
    have a1 := Int32.toInt_lt x
    have a2 := Int32.le_toInt x
    have a3 := Int32.toInt_lt y
    have a4 := Int32.le_toInt y
    rw [Int64.toInt_add, i64t, i64t]
    apply Int.bmod_eq_of_le <;> omega
  unfold F5_spans
  rw [shA_y hs, Option.bind_some, if_neg n10]
  by_cases h1 : x.toInt < 0
  · rw [if_pos (show x < 0 by rw [ilt]; exact h1), if_neg (by omega)]
  · rw [if_neg (show ¬ x < 0 by rw [ilt]; exact h1)]
    by_cases h2 : y.toInt < 0
    · rw [if_pos (show y < 0 by rw [ilt]; exact h2), if_neg (by omega)]
    · rw [if_neg (show ¬ y < 0 by rw [ilt]; exact h2), if_pos (inb_of hs (by decide)), nI_clamp (by omega)]
      have hzt : (Int32.toInt64 (A 44 s)).toInt = z := by rw [i64t, hz, nI_toInt (by omega)]
      by_cases h3 : x.toInt + y.toInt ≤ z
      · rw [if_pos (show 0 ≤ x.toInt ∧ 0 ≤ y.toInt ∧ x.toInt + y.toInt ≤ z by omega)]
        refine if_neg (show ¬ 0 < lg_cmp _ (Int32.toInt64 (A 44 s)) from ?_)
        unfold lg_cmp
        simp only [gt_iff_lt, Int64.lt_iff_toInt_lt, ← Int64.toInt_inj, hsum, hzt]
        rw [if_neg (by omega)]
        split <;> decide
      · rw [if_neg (show ¬ (0 ≤ x.toInt ∧ 0 ≤ y.toInt ∧ x.toInt + y.toInt ≤ z) by omega)]
        refine if_pos (show 0 < lg_cmp _ (Int32.toInt64 (A 44 s)) from ?_)
        unfold lg_cmp
        simp only [gt_iff_lt, Int64.lt_iff_toInt_lt, ← Int64.toInt_inj, hsum, hzt]
        rw [if_pos (by omega)]
        decide
