def sumP (f : Nat → Int32) (r : Nat) : Nat → Int32
  | 0 => 0
  | n + 1 => if n % 2 = r then sumP f r n + f n else sumP f r n
theorem lines_lA {tv : Tv} {n o : Nat} {A : Mem} (hT : TellA tv A) (hn : A 1 3 = nI n) (hn8 : n ≤ 8) (ho : A 1 4 = nI o) (hon : o ≤ n) (x1 : Int32) : ∀ (k fu i : Nat) (M : Mem), i + k = o → k < fu → ST A M → ∃ M', F8_lines_l19 fu M x1 (sumP (fun i => secV tv (A 2 i) (A 3 i) (A 4 i) (nI i)) 0 i) (sumP (fun i => secV tv (A 2 i) (A 3 i) (A 4 i) (nI i)) 1 i) (nI i) = F8_lines_j92 M' x1 (sumP (fun i => secV tv (A 2 i) (A 3 i) (A 4 i) (nI i)) 0 o) (sumP (fun i => secV tv (A 2 i) (A 3 i) (A 4 i) (nI i)) 1 o) ∧ ST A M' := by
  intro k
  induction k with
  | zero =>
    intro fu i M hk hf hs
    obtain ⟨fu, rfl⟩ : ∃ f, fu = f + 1 := ⟨fu - 1, by omega⟩
    obtain rfl : i = o := by omega
    refine ⟨M, ?_, hs⟩
    show F8_lines_l19_b _ M _ _ _ _ = _
    unfold F8_lines_l19_b
    rw [hs 1 (by decide) (by decide), ho, if_pos (nI_le (by omega) (by omega))]
  | succ k ih =>
    intro fu i M hk hf hs
    obtain ⟨fu, rfl⟩ : ∃ f, fu = f + 1 := ⟨fu - 1, by omega⟩
    have e1 : M 1 = A 1 := hs 1 (by decide) (by decide)
    obtain ⟨M1, e, s1⟩ := sec_A (i := i) hT hs.ka (n := n) (by rw [e1]; exact hn) hn8 (by omega) (M 2 i) (nI i)
    rw [hs 2 (by decide) (by decide), hs 3 (by decide) (by decide), hs 4 (by decide) (by decide)] at e
    obtain ⟨M', r1, r2⟩ := ih fu (i + 1) M1 (by omega) (by omega) (hs.tr s1)
    refine ⟨M', ?_, r2⟩
    rw [← r1]
    show F8_lines_l19_b _ M _ _ _ _ = _
    unfold F8_lines_l19_b F8_lines_j86
    rw [e1, ho, hn, if_neg (nI_ge (by omega) (by omega)), if_neg (nI_ge (by omega) (by omega)), if_pos (inb_of (by omega) (by decide)), nI_clamp (by omega), hs 2 (by decide) (by decide), e, Option.bind_some]
    unfold jrem
    rw [show (2 : Int32) = nI 2 from rfl, pk_rem (by omega) (by decide) (by decide), nI_1]
    rcases Nat.mod_two_eq_zero_or_one i with h | h
    · rw [h, if_neg (by decide)]
      simp only [sumP, h, if_true]
      rfl
    · rw [h, if_pos (by decide)]
      simp only [sumP, h, if_true]
      rfl
