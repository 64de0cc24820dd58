theorem own_R {A B : Mem} {s z j : Nat} (hs : s < 4) (hz : z ≤ 40) (hj : j < z) (hrow : ∀ j, j < z → A (46 + s) j = B 20 (40 * s + j)) : ∃ v, F8_ownSeconds A (nI s) (nI j) = some (v, A) ∧ F9_ownOf B (nI s) (nI j) = some (v, B) := by
  have ex : (40 : Int32) * nI s + nI j = nI (40 * s + j) := by rw [show (40 : Int32) = nI 40 from rfl, pk_mul, nI_add]
  by_cases h0 : j = 0
  · subst h0
    refine ⟨Int32.toInt64 (A (46 + s) 0), ?_, ?_⟩
    · unfold F8_ownSeconds
      rw [if_neg (by decide), if_pos (by decide), if_pos (inb_of hs (by decide)), if_pos (inb_of (by decide) (by decide)), if_neg (by decide), nI_clamp (by omega)]
      rfl
    · unfold F9_ownOf
      rw [ex, if_pos (inb_of (by omega) (by decide)), if_neg (by decide), nI_clamp (by omega), hrow 0 hj]
      rw [Int64.sub_zero]
  · refine ⟨Int32.toInt64 (A (46 + s) j) - Int32.toInt64 (A (46 + s) (j - 1)), ?_, ?_⟩
    · unfold F8_ownSeconds
      rw [if_neg (nI_pos (by omega)), if_pos (show nI j < 40 from nI_lt (b := 40) (by omega) (by decide)), if_pos (inb_of hs (by decide)), if_pos (inb_of (by omega) (by decide)), if_pos (nI_ne0 (by omega) (by omega)), show nI j - 1 = nI (j - 1) from pk_sub (b := 1) (by omega), if_pos (inb_of (by omega) (by decide)), nI_clamp (by omega), nI_clamp (by omega), nI_clamp (by omega)]
    · unfold F9_ownOf
      rw [ex, if_pos (inb_of (by omega) (by decide)), if_pos (nI_ne0 (by omega) (by omega)), show nI (40 * s + j) - 1 = nI (40 * s + j - 1) from pk_sub (b := 1) (by omega), if_pos (inb_of (by omega) (by decide)), nI_clamp (by omega), nI_clamp (by omega), hrow j hj, hrow (j - 1) (by omega), show 40 * s + (j - 1) = 40 * s + j - 1 by omega]
