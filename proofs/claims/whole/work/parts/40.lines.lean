theorem lines_lB {tv : Tv} {n o r : Nat} {B : Mem} (hU : TellB tv B) (hn8 : n ≤ 8) (ho : B 0 11 = nI o) (hon : o ≤ n) (hr : r < 2) (hkd : ∀ i, i < 8 → 0 ≤ (B 4 i).toInt ∧ (B 4 i).toInt ≤ 5) : ∀ (k fu i : Nat) (M : Mem), o + 1 ≤ i + k → i ≤ o + 1 → k < fu → i % 2 = r → SB B M → ∃ M', F9_lineOf_l4 fu M (sumP (fun i => secV tv (B 4 i) (B 5 i) (B 6 i) (nI i)) r i) (nI i) = some (sumP (fun i => secV tv (B 4 i) (B 5 i) (B 6 i) (nI i)) r o, M') ∧ SB B M' := by
  have fin : ∀ (fu i : Nat) (M : Mem), o ≤ i → i ≤ o + 1 → i % 2 = r → SB B M → ∃ M', F9_lineOf_l4 (fu + 1) M (sumP (fun i => secV tv (B 4 i) (B 5 i) (B 6 i) (nI i)) r i) (nI i) = some (sumP (fun i => secV tv (B 4 i) (B 5 i) (B 6 i) (nI i)) r o, M') ∧ SB B M' := by
    intro fu i M h1 h2 h3 hs
    refine ⟨M, ?_, hs⟩
    show F9_lineOf_l4_b _ M _ _ = _
    unfold F9_lineOf_l4_b
    rw [hs.2 11 (by decide), ho, if_pos (nI_le (by omega) (by omega))]
    by_cases e : i = o
    · rw [e]
    · obtain rfl : i = o + 1 := by omega
      rw [sumP, if_neg (by omega)]
  intro k
  induction k with
  | zero =>
    intro fu i M hk hi hf hr2 hs
    obtain ⟨fu, rfl⟩ : ∃ f, fu = f + 1 := ⟨fu - 1, by omega⟩
    exact fin fu i M (by omega) hi hr2 hs
  | succ k ih =>
    intro fu i M hk hi hf hr2 hs
    obtain ⟨fu, rfl⟩ : ∃ f, fu = f + 1 := ⟨fu - 1, by omega⟩
    by_cases hio : o ≤ i
    · exact fin fu i M hio hi hr2 hs
    · obtain ⟨M1, e, s1⟩ := sec_B (i := i) hU hs.kb (by omega) (by rw [hs.1 4 (by decide)]; exact hkd i (by omega))
      rw [hs.1 4 (by decide), hs.1 5 (by decide), hs.1 6 (by decide)] at e
      obtain ⟨M', r1, r2⟩ := ih fu (i + 2) M1 (by omega) (by omega) (by omega) (by omega) (hs.tr s1)
      refine ⟨M', ?_, r2⟩
      show F9_lineOf_l4_b _ M _ _ = _
      unfold F9_lineOf_l4_b
      rw [hs.2 11 (by decide), ho, if_neg (nI_ge (by omega) (by omega)), e, Option.bind_some, show nI i + 2 = nI (i + 2) from nI_add i 2]
      rw [sumP, if_neg (by omega), sumP, if_pos hr2] at r1
      exact r1
