section
variable {X : EX} {A B : Mem} {n o t : Nat}
theorem plR_div {f : Nat → Nat} {q : Nat} (hf : ∀ i, i < q → f i < 6) : ∀ j, j ≤ q → plR (lst f q) / 10 ^ j = plR (lst f (q - j))
  | 0, _ => by simp
  | j + 1, h => by
    rw [Nat.pow_succ, ← Nat.div_div_eq_div_mul, plR_div hf j (by omega)]
    obtain ⟨k, hk⟩ : ∃ k, q - j = k + 1 := ⟨q - j - 1, by omega⟩
    have e : plR (lst f (k + 1)) = plR (lst f k) * 10 + (f k + 1) := rfl
    have h1 := hf k (by omega)
    rw [hk, e, show q - (j + 1) = k by omega]
    omega
theorem lst6 (hX : OKX X) {f : Nat → Nat} {q : Nat} (hp : okP X (lst f q)) : ∀ i, i < q → f i < 6 := fun i hi => by
  have := hp.ls.2 i hi
  have := hX.1
  omega
theorem take_A (hX : OKX X) (hA : A 5 3 = nI (xt X)) {f : Nat → Nat} {q : Nat} (hp : okP X (lst f q)) : ∃ A', F0_takePlan A (nI (plR (lst f q))) = some (0, A') ∧ QA f q A' ∧ FA [34, 38] A A' ∧ ∀ k, k ≠ 8 → A' 34 k = A 34 k := by
  obtain ⟨q6, hf⟩ := hp.ls
  have hf6 := lst6 hX hp
  have hpl := hp.pl hX
  have l2 : ∀ (k fu i : Nat) (M : Mem), i + k = q → k + 1 < fu → (∀ j, j < i → M 38 j = nI (f j)) → M 34 8 = nI i → FA [34, 38] A M → (∀ k, k ≠ 8 → M 34 k = A 34 k) → 0 < q → ∃ A', F0_takePlan_l40 fu M (nI (plR (lst f q))) (nI (10 ^ (q - i) / 10)) (nI i) = some (0, A') ∧ QA f q A' ∧ FA [34, 38] A A' ∧ ∀ k, k ≠ 8 → A' 34 k = A 34 k := by
    intro k
    induction k with
    | zero =>
      intro fu i M hi hfu h38 h8 hF hk hq0
      obtain ⟨fu, rfl⟩ : ∃ f, fu = f + 1 := ⟨fu - 1, by omega⟩
      obtain rfl : i = q := by omega
      refine ⟨M, ?_, ⟨h8, q6, h38⟩, hF, hk⟩
      show F0_takePlan_l40_b _ M _ _ (nI i) = _
      unfold F0_takePlan_l40_b
      rw [Nat.sub_self, show nI (10 ^ 0 / 10) = 0 from rfl, if_pos (show (0 : Int32) ≤ 0 by decide), ite_self]
    | succ k ih =>
      intro fu i M hi hfu h38 h8 hF hk hq0
      obtain ⟨fu, rfl⟩ : ∃ f, fu = f + 1 := ⟨fu - 1, by omega⟩
      have hu : 10 ^ (q - i) / 10 = 10 ^ (q - i - 1) := by
        obtain ⟨w, hw⟩ : ∃ w, q - i = w + 1 := ⟨q - i - 1, by omega⟩
        rw [hw, Nat.pow_succ, Nat.mul_div_cancel _ (by decide)]
        rfl
      have hu1 : 0 < 10 ^ (q - i - 1) := Nat.pow_pos (by decide)
      have hu2 : 10 ^ (q - i - 1) ≤ 10 ^ 6 := Nat.pow_le_pow_right (by decide) (by omega)
      have ed : plR (lst f q) / 10 ^ (q - i - 1) = plR (lst f (i + 1)) := by
        rw [plR_div hf6 _ (by omega), show q - (q - i - 1) = i + 1 by omega]
      have em : plR (lst f (i + 1)) % 10 = f i + 1 := by
        have e : plR (lst f (i + 1)) = plR (lst f i) * 10 + (f i + 1) := rfl
        have := hf6 i (by omega)
        rw [e]; omega
      have hle := Nat.div_le_self (plR (lst f q)) (10 ^ (q - i - 1))
      have et : jrem (nI (plR (lst f q)) / nI (10 ^ (q - i - 1))) 10 - 1 = nI (f i) := by
        rw [pk_div (by omega) hu1 (by omega), jrem10 (by omega), ed, em]
        exact nI_pred _
      obtain ⟨A', e, r⟩ := ih fu (i + 1) (up2 (up2 M 38 i (nI (f i))) 34 8 (nI (i + 1))) (by omega) (by omega) (fun j hj => by
        rw [up2_ne (show (38 : Nat) ≠ 34 by decide)]
        by_cases e : j = i
        · subst e; exact up2_at
        · rw [up2_nk e]; exact h38 j (by omega)) up2_at ((hF.up (by decide)).up (by decide)) (fun k hk2 => by rw [up2_nk hk2, up2_ne (by decide)]; exact hk k hk2) hq0
      refine ⟨A', ?_, r⟩
      show F0_takePlan_l40_b _ M _ _ (nI i) = _
      unfold F0_takePlan_l40_b F0_takePlan_j78
      rw [hu, if_neg (show ¬ (6 : Int32) ≤ nI i from nI_ge (b := 6) (by omega) (by decide)), if_neg (nI_nle hu1 (by omega)), if_pos (nI_ne0 hu1 (by omega)), et, thgA_y (n := xt X) (by rw [hF 5 (by decide)]; exact hA) hX.1 (hf i (by omega)), Option.bind_some, if_neg n10]
      dsimp only
      have eg : F0_goTo M (nI (f i)) = some (0, up2 (up2 M 38 i (nI (f i))) 34 8 (nI (i + 1))) := by
        unfold F0_goTo
        rw [h8, if_pos (show nI i < 6 from nI_lt (b := 6) (by omega) (by decide)), if_pos (inb_of (by omega) (by decide)), nI_clamp (by omega), nI_1]
      rw [eg, Option.bind_some]
      dsimp only
      rw [show (10 : Int32) = nI 10 from rfl, pk_div (by omega) (by decide) (by decide), nI_1, ← hu]
      have e3 : 10 ^ (q - i) / 10 / 10 = 10 ^ (q - (i + 1)) / 10 := by
        rw [hu]
        rfl
      rw [e3]
      exact e
  have l1 : ∀ (k fu i : Nat) (M : Mem), i + k = q → k < fu → 1 ≤ i → F0_takePlan_l9 fu M (nI (plR (lst f q))) (nI (10 ^ (i - 1))) (nI i) = F0_takePlan_l40 FUEL M (nI (plR (lst f q))) (nI (10 ^ (q - 1))) 0 := by
    intro k
    induction k with
    | zero =>
      intro fu i M hi hfu h1
      obtain ⟨fu, rfl⟩ : ∃ f, fu = f + 1 := ⟨fu - 1, by omega⟩
      obtain rfl : i = q := by omega
      have hu1 : 0 < 10 ^ (i - 1) := Nat.pow_pos (by decide)
      have hu2 : 10 ^ (i - 1) ≤ 10 ^ 6 := Nat.pow_le_pow_right (by decide) (by omega)
      have ed : plR (lst f i) / 10 ^ (i - 1) = plR (lst f 1) := by
        rw [plR_div hf6 _ (by omega), show i - (i - 1) = 1 by omega]
      have e1 : plR (lst f 1) = 0 * 10 + (f 0 + 1) := rfl
      have := hf6 0 (by omega)
      show F0_takePlan_l9_b _ M _ _ (nI i) = _
      unfold F0_takePlan_l9_b F0_takePlan_j38
      rw [if_neg (nI_nle hu1 (by omega)), if_pos (nI_ne0 hu1 (by omega)), pk_div (by omega) hu1 (by omega), ed, if_pos (show nI (plR (lst f 1)) < 10 from nI_lt (b := 10) (by omega) (by decide)), ite_self]
    | succ k ih =>
      intro fu i M hi hfu h1
      obtain ⟨fu, rfl⟩ : ∃ f, fu = f + 1 := ⟨fu - 1, by omega⟩
      have hu1 : 0 < 10 ^ (i - 1) := Nat.pow_pos (by decide)
      have hu2 : 10 ^ (i - 1) ≤ 10 ^ 6 := Nat.pow_le_pow_right (by decide) (by omega)
      obtain ⟨w, hw⟩ : ∃ w, q - (i - 1) = w + 2 := ⟨q - (i - 1) - 2, by omega⟩
      have ed : plR (lst f q) / 10 ^ (i - 1) = plR (lst f (w + 2)) := by
        rw [plR_div hf6 _ (by omega), hw]
      have e1 : plR (lst f (w + 2)) = (plR (lst f w) * 10 + (f w + 1)) * 10 + (f (w + 1) + 1) := rfl
      have hle := Nat.div_le_self (plR (lst f q)) (10 ^ (i - 1))
      show F0_takePlan_l9_b _ M _ _ (nI i) = _
      unfold F0_takePlan_l9_b
      rw [if_neg (show ¬ (6 : Int32) ≤ nI i from nI_ge (b := 6) (by omega) (by decide)), if_neg (nI_nle hu1 (by omega)), if_pos (nI_ne0 hu1 (by omega)), pk_div (by omega) hu1 (by omega), ed, if_neg (show ¬ nI (plR (lst f (w + 2))) < 10 from nI_nlt (b := 10) (by omega) (by omega)), show (10 : Int32) = nI 10 from rfl, pk_mul, nI_1]
      have e3 : 10 ^ (i - 1) * 10 = 10 ^ (i + 1 - 1) := by
        rw [← Nat.pow_succ]
        exact congrArg (fun z => 10 ^ z) (show (i - 1).succ = i + 1 - 1 by omega)
      rw [e3]
      exact ih fu (i + 1) M (by omega) (by omega) (by omega)
  have u34 : FA [34, 38] A (up2 A 34 8 0) := FA.rf.up (by decide)
  by_cases hq0 : q = 0
  · subst hq0
    refine ⟨up2 A 34 8 0, ?_, ⟨up2_at, by omega, fun i hi => absurd hi (by omega)⟩, u34, fun k hk => up2_nk hk⟩
    have h5 : up2 A 34 8 0 5 3 = nI (xt X) := by rw [up2_ne (by decide)]; exact hA
    show F0_takePlan_l9_b (F0_takePlan_l9 (FUEL - 1)) (up2 A 34 8 0) (nI 0) 1 1 = _
    unfold F0_takePlan_l9_b
    rw [if_neg (by decide), if_neg (by decide), if_pos (by decide), if_pos (by decide)]
    show F0_takePlan_l40_b (F0_takePlan_l40 (FUEL - 1)) (up2 A 34 8 0) (nI 0) 1 0 = _
    unfold F0_takePlan_l40_b F0_takePlan_j78
    rw [if_neg (by decide), if_neg (by decide), if_pos (by decide), thgA_n h5 hX.1 (.inl (by decide)), Option.bind_some, if_pos rfl]
    show F0_takePlan_l40_b (F0_takePlan_l40 (FUEL - 2)) (up2 A 34 8 0) (nI 0) (1 / 10) (0 + 1) = _
    unfold F0_takePlan_l40_b
    rw [if_neg (by decide), if_pos (by decide)]
  · obtain ⟨A', e, r⟩ := l2 q FUEL 0 (up2 A 34 8 0) (by omega) (by unfold FUEL; omega) (fun j hj => absurd hj (by omega)) up2_at u34 (fun k hk => up2_nk hk) (by omega)
    refine ⟨A', ?_, r⟩
    unfold F0_takePlan
    have e1 := l1 (q - 1) FUEL 1 (up2 A 34 8 0) (by omega) (by unfold FUEL; omega) (by omega)
    have e2 : 10 ^ (q - 0) / 10 = 10 ^ (q - 1) := by
      obtain ⟨w, hw⟩ : ∃ w, q = w + 1 := ⟨q - 1, by omega⟩
      rw [Nat.sub_zero, hw, Nat.pow_succ, Nat.mul_div_cancel _ (by decide)]
      rfl
    rw [e2] at e
    exact e1.trans e
end
