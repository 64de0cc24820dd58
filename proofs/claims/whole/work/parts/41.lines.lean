theorem sumP_cong {f g : Nat → Int32} {r : Nat} : ∀ {n : Nat}, (∀ i, i < n → f i = g i) → sumP f r n = sumP g r n
  | 0, _ => rfl
  | n + 1, h => by rw [sumP, sumP, sumP_cong (fun i hi => h i (by omega)), h n (by omega)]
theorem TellB.sb {tv : Tv} {B B1 : Mem} (h : TellB tv B) (hs : SB B B1) : TellB tv B1 := fun M1 hk => h M1 (hs.kb.tr hk)
theorem lines_R {tv : Tv} {n o : Nat} {A B : Mem} (hT : TellA tv A) (hU : TellB tv B) (h : RL n o A B) (a1 : Int32) : ∃ v A' B', F8_lines A a1 = some (v, A') ∧ F9_lines B a1 = some (v, B') ∧ ST A A' ∧ SB B B' := by
  obtain ⟨h8, hon, lA, lB, loA, loB, hg, hi⟩ := h
  rcases cs a1 3 (by decide) with q | ⟨j, hj, rfl⟩
  · refine ⟨-2, A, B, ?_, ?_, ST.rf, SB.rf⟩
    · unfold F8_lines
      by_cases h1 : a1 < 0
      · rw [if_pos h1]
      · rw [if_neg h1, if_neg (show ¬ a1 ≤ 2 by rw [ile]; rw [ilt] at h1; simp at h1; show ¬ a1.toInt ≤ 2; omega)]
    · unfold F9_lines
      rw [in_n (by rw [i64t, show (0 : Int64).toInt = 0 from rfl, show (2 : Int64).toInt = 2 from rfl]; omega)]
      rfl
  have hkd : ∀ i, i < 8 → 0 ≤ (B 4 i).toInt ∧ (B 4 i).toInt ≤ 5 := fun i hi8 => by rw [← (hi i hi8).1]; exact (hi i hi8).2.2.2.1
  obtain ⟨A', e1, s1⟩ := lines_lA hT lA h8 loA hon (nI j) o FUEL 0 A (by omega) (by unfold FUEL; omega) ST.rf
  have hc : ∀ r, sumP (fun i => secV tv (A 2 i) (A 3 i) (A 4 i) (nI i)) r o = sumP (fun i => secV tv (B 4 i) (B 5 i) (B 6 i) (nI i)) r o := fun r => sumP_cong (fun i hio => by rw [(hi i (by omega)).1, (hi i (by omega)).2.1, (hi i (by omega)).2.2.1])
  rw [hc, hc] at e1
  have lo : ∀ r, r < 2 → ∀ B1, SB B B1 → ∃ B2, F9_lineOf B1 (nI r) = some (sumP (fun i => secV tv (B 4 i) (B 5 i) (B 6 i) (nI i)) r o, B2) ∧ SB B B2 := by
    intro r hr B1 hs
    by_cases hro : r ≤ o + 1
    · obtain ⟨B2, e, s⟩ := lines_lB hU h8 loB hon hr hkd (o + 1) FUEL r B1 (by omega) hro (by unfold FUEL; omega) (by omega) hs
      refine ⟨B2, ?_, s⟩
      unfold F9_lineOf
      rw [← e]
      congr 1
      rcases (show r = 0 ∨ r = 1 by omega) with rfl | rfl
      · rfl
      · simp [sumP]
    · omega
  have g3 : F9_in B (Int32.toInt64 (nI j)) (0 : Int64) (2 : Int64) = some (1, B) := in_y (by rw [i64t, nI_toInt (by omega), show (0 : Int64).toInt = 0 from rfl, show (2 : Int64).toInt = 2 from rfl]; omega)
  have hA : F8_lines A (nI j) = F8_lines_j92 A' (nI j) (sumP (fun i => secV tv (B 4 i) (B 5 i) (B 6 i) (nI i)) 0 o) (sumP (fun i => secV tv (B 4 i) (B 5 i) (B 6 i) (nI i)) 1 o) := by
    unfold F8_lines
    rw [if_neg (nI_pos (by omega)), if_pos (show nI j ≤ 2 from nI_le (b := 2) (by omega) (by decide))]
    exact e1
  rw [hA]
  unfold F8_lines_j92 F9_lines
  rw [g3, Option.bind_some, if_pos n10]
  rcases (show j = 0 ∨ j = 1 ∨ j = 2 by omega) with rfl | rfl | rfl
  · obtain ⟨B2, e2, s2⟩ := lo 0 (by decide) B SB.rf
    refine ⟨_, A', B2, if_neg (by decide), ?_, s1, s2⟩
    rw [if_neg (by decide)]
    dsimp only
    rw [e2]
    rfl
  · obtain ⟨B2, e2, s2⟩ := lo 1 (by decide) B SB.rf
    refine ⟨_, A', B2, (if_pos (by decide)).trans (if_neg (by decide)), ?_, s1, s2⟩
    rw [if_neg (by decide)]
    dsimp only
    rw [e2]
    rfl
  · obtain ⟨B2, e2, s2⟩ := lo 1 (by decide) B SB.rf
    obtain ⟨B3, e3, s3⟩ := lo 0 (by decide) B2 s2
    have e2' : F9_lineOf B (1 : Int32) = some (sumP (fun i => secV tv (B 4 i) (B 5 i) (B 6 i) (nI i)) 1 o, B2) := e2
    have e3' : F9_lineOf B2 (0 : Int32) = some (sumP (fun i => secV tv (B 4 i) (B 5 i) (B 6 i) (nI i)) 0 o, B3) := e3
    by_cases hq : sumP (fun i => secV tv (B 4 i) (B 5 i) (B 6 i) (nI i)) 0 o ≤ sumP (fun i => secV tv (B 4 i) (B 5 i) (B 6 i) (nI i)) 1 o
    · refine ⟨0, A', B3, (if_pos (by decide)).trans ((if_pos (by decide)).trans (if_pos hq)), ?_, s1, s3⟩
      rw [if_pos (by decide)]
      dsimp only
      rw [e2', Option.bind_some]
      dsimp only
      rw [e3', Option.bind_some]
      exact if_pos hq
    · refine ⟨1, A', B3, (if_pos (by decide)).trans ((if_pos (by decide)).trans (if_neg hq)), ?_, s1, s3⟩
      rw [if_pos (by decide)]
      dsimp only
      rw [e2', Option.bind_some]
      dsimp only
      rw [e3', Option.bind_some]
      exact if_neg hq
