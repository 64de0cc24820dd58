/-- the reference's sums -/
def turnB (tv : Tv) (M : Mem) : Nat → Int32 := sumI (fun i => secV tv (M 4 i) (M 5 i) (M 6 i) (nI i))
def GB (M M' : Mem) : Prop := (∀ c, c ≠ 0 → c ≠ 10 → c ≠ 11 → c ≠ 12 → M' c = M c) ∧ ∀ k, k < 17 ∨ (31 < k ∧ k ≠ 35 ∧ k < 1000) → M' 0 k = M 0 k
theorem GB.rf {M : Mem} : GB M M := ⟨fun _ _ _ _ _ => rfl, fun _ _ => rfl⟩
theorem GB.tr {M M' M'' : Mem} (h : GB M M') (h2 : GB M' M'') : GB M M'' := ⟨fun c a b d e => (h2.1 c a b d e).trans (h.1 c a b d e), fun k a => (h2.2 k a).trans (h.2 k a)⟩
theorem SB.gb {M M' : Mem} (h : SB M M') : GB M M' := ⟨fun c a _ _ _ => h.1 c a, fun k a => h.2 k (by omega)⟩
theorem GB.kb {M M' : Mem} (h : GB M M') : KB M M' := ⟨h.1 1 (by decide) (by decide) (by decide) (by decide), h.1 2 (by decide) (by decide) (by decide) (by decide), h.2 4 (by decide), h.2 10 (by decide), h.2 11 (by decide)⟩
theorem up2_ne {M : Mem} {c k d : Nat} {v : Int32} (h : d ≠ c) : up2 M c k v d = M d := by
  funext b
  simp [up2, h]
theorem up2_at {M : Mem} {c k : Nat} {v : Int32} : up2 M c k v c k = v := by simp [up2]
theorem up2_nk {M : Mem} {c k j : Nat} {v : Int32} (h : j ≠ k) : up2 M c k v c j = M c j := by simp [up2, h]
theorem GB.up {M : Mem} {c k : Nat} {v : Int32} (h : c = 10 ∨ c = 11 ∨ c = 12 ∨ (c = 0 ∧ k = 35)) : GB M (up2 M c k v) := by
  refine ⟨fun d a b e f => up2_ne (by omega), fun j hj => ?_⟩
  by_cases e : c = 0
  · subst e
    exact up2_nk (by omega)
  · rw [up2_ne (Ne.symm e)]
theorem gath_walks {tv : Tv} {M M1 : Mem} (hT : TellB tv M) (hk : KB M M1) : ∀ (k fu i : Nat) (M2 : Mem), GB M1 M2 → i + k = 7 → k < fu → (∀ j, j < i → M2 12 j = tv 2 (nI j) 0 0 0) → ∃ M3, F9_gathers_l90 fu M2 (nI i) = some (0, M3) ∧ GB M1 M3 ∧ (∀ j, j < 7 → M3 12 j = tv 2 (nI j) 0 0 0) ∧ M3 10 = M2 10 ∧ M3 11 = M2 11 ∧ M3 0 35 = M2 0 35 := by
  intro k
  induction k with
  | zero =>
    intro fu i M2 hg hi hf hw
    obtain ⟨fu, rfl⟩ : ∃ f, fu = f + 1 := ⟨fu - 1, by omega⟩
    obtain rfl : i = 7 := by omega
    refine ⟨M2, ?_, hg, hw, rfl, rfl, rfl⟩
    show F9_gathers_l90_b _ M2 (nI 7) = _
    unfold F9_gathers_l90_b
    rw [if_pos (by decide)]
  | succ k ih =>
    intro fu i M2 hg hi hf hw
    obtain ⟨fu, rfl⟩ : ∃ f, fu = f + 1 := ⟨fu - 1, by omega⟩
    obtain ⟨M3, h3, hs3⟩ := hT M2 (hk.tr hg.kb) 2 (nI i) 0 0 0 (by decide)
    obtain ⟨M4, h4, g4, w4, t4, u4, v4⟩ := ih fu (i + 1) (up2 M3 12 i (tv 2 (nI i) 0 0 0)) ((hg.tr hs3.gb).tr (GB.up (by simp))) (by omega) (by omega) (fun j hj => by
      by_cases e : j = i
      · subst e; exact up2_at
      · rw [up2_nk e, hs3.1 12 (by decide)]; exact hw j (by omega))
    refine ⟨M4, ?_, g4, w4, ?_, ?_, ?_⟩
    · show F9_gathers_l90_b _ M2 (nI i) = _
      unfold F9_gathers_l90_b
      rw [show (7 : Int32) = nI 7 from rfl, if_neg (nI_ge (by omega) (by omega)), show (2 : Int32) = nI 2 from rfl, h3, Option.bind_some, if_pos (inb_of (by omega) (by decide)), nI_clamp (by omega), nI_1]
      exact h4
    · rw [t4, up2_ne (by decide), hs3.1 10 (by decide)]
    · rw [u4, up2_ne (by decide), hs3.1 11 (by decide)]
    · rw [v4, up2_ne (by decide), hs3.2 35 (by decide)]
/-- what gathers() leaves -/
theorem gath_B {tv : Tv} {M M1 : Mem} (hT : TellB tv M) (hO : TvOk tv) (hk : KB M M1) {n o : Nat} (hn : M1 0 10 = nI n) (hn8 : n ≤ 8) (ho : M1 0 11 = nI o) (hon : o ≤ n) (hkd : ∀ i, i < n → 0 ≤ (M1 4 i).toInt ∧ (M1 4 i).toInt ≤ 5) : ∃ M2, F9_gathers M1 = some (0, M2) ∧ GB M1 M2 ∧ M2 0 35 = turnB tv M1 o ∧ (∀ i, i < n → M2 10 i = secV tv (M1 4 i) (M1 5 i) (M1 6 i) (nI i)) ∧ (∀ i, o ≤ i → i < n → M2 11 i = mndV tv (M1 4 i) (M1 5 i) (M1 6 i) (nI i) (nI (i - o))) ∧ ∀ j, j < 7 → M2 12 j = tv 2 (nI j) 0 0 0 := by
  have key : ∀ (k fu i : Nat) (M2 : Mem), GB M1 M2 → i + k = n → k < fu → M2 0 35 = turnB tv M1 (min i o) → (∀ j, j < i → M2 10 j = secV tv (M1 4 j) (M1 5 j) (M1 6 j) (nI j)) → (∀ j, o ≤ j → j < i → M2 11 j = mndV tv (M1 4 j) (M1 5 j) (M1 6 j) (nI j) (nI (j - o))) → ∃ M3, F9_gathers_l7 fu M2 (nI i) = some (0, M3) ∧ GB M1 M3 ∧ M3 0 35 = turnB tv M1 o ∧ (∀ j, j < n → M3 10 j = secV tv (M1 4 j) (M1 5 j) (M1 6 j) (nI j)) ∧ (∀ j, o ≤ j → j < n → M3 11 j = mndV tv (M1 4 j) (M1 5 j) (M1 6 j) (nI j) (nI (j - o))) ∧ ∀ j, j < 7 → M3 12 j = tv 2 (nI j) 0 0 0 := by
    intro k
    induction k with
    | zero =>
      intro fu i M2 hg hi hf ht hs hm
      obtain ⟨fu, rfl⟩ : ∃ f, fu = f + 1 := ⟨fu - 1, by omega⟩
      obtain rfl : i = n := by omega
      obtain ⟨M3, h3, g3, w3, s3, m3, t3⟩ := gath_walks hT hk 7 FUEL 0 M2 hg (by omega) (by unfold FUEL; omega) (fun j hj => absurd hj (by omega))
      refine ⟨M3, ?_, g3, ?_, ?_, ?_, w3⟩
      · show F9_gathers_l7_b _ M2 (nI i) = _
        unfold F9_gathers_l7_b
        rw [hg.2 10 (by decide), hn, if_pos (nI_le (by omega) (by omega))]
        exact h3
      · rw [t3, ht, Nat.min_eq_right hon]
      · intro j hj; rw [s3]; exact hs j hj
      · intro j h1 h2; rw [m3]; exact hm j h1 h2
    | succ k ih =>
      intro fu i M2 hg hi hf ht hs hm
      obtain ⟨fu, rfl⟩ : ∃ f, fu = f + 1 := ⟨fu - 1, by omega⟩
      have e4 : M2 4 = M1 4 := hg.1 4 (by decide) (by decide) (by decide) (by decide)
      have e5 : M2 5 = M1 5 := hg.1 5 (by decide) (by decide) (by decide) (by decide)
      have e6 : M2 6 = M1 6 := hg.1 6 (by decide) (by decide) (by decide) (by decide)
      obtain ⟨M3, h3, s3⟩ := sec_B hT (hk.tr hg.kb) (i := i) (by omega) (by rw [e4]; exact hkd i (by omega))
      rw [e4, e5, e6] at h3
      have e11 : M3 0 11 = nI o := by rw [s3.2 11 (by decide), hg.2 11 (by decide)]; exact ho
      generalize hS : secV tv (M1 4 i) (M1 5 i) (M1 6 i) (nI i) = S at h3
      have hg3 : GB M1 (up2 M3 10 i S) := (hg.tr s3.gb).tr (GB.up (by simp))
      have hsec : ∀ j, j < i + 1 → up2 M3 10 i S 10 j = secV tv (M1 4 j) (M1 5 j) (M1 6 j) (nI j) := by
        intro j hj
        by_cases e : j = i
        · subst e; rw [up2_at, hS]
        · rw [up2_nk e, s3.1 10 (by decide)]; exact hs j (by omega)
      show ∃ M3, F9_gathers_l7_b (F9_gathers_l7 fu) M2 (nI i) = _ ∧ _
      unfold F9_gathers_l7_b
      rw [hg.2 10 (by decide), hn, if_neg (nI_ge (by omega) (by omega)), h3, Option.bind_some, if_pos (inb_of (show i < 8 by omega) (by decide))]
      dsimp only
      simp only [e11, nI_clamp (show i < 2 ^ 31 by omega)]
      by_cases hio : o ≤ i
      · rw [if_pos (nI_le hio (by omega)), pk_sub hio]
        have f4 : up2 M3 10 i S 4 = M1 4 := by rw [up2_ne (by decide), s3.1 4 (by decide), e4]
        have f5 : up2 M3 10 i S 5 = M1 5 := by rw [up2_ne (by decide), s3.1 5 (by decide), e5]
        have f6 : up2 M3 10 i S 6 = M1 6 := by rw [up2_ne (by decide), s3.1 6 (by decide), e6]
        obtain ⟨M4, h4, s4⟩ := mnd_B hT hO (hk.tr hg3.kb) (i := i) (by omega) (by rw [f4]; exact hkd i (by omega)) (nI (i - o))
        rw [f4, f5, f6] at h4
        rw [h4, Option.bind_some]
        unfold F9_gathers_j54 F9_gathers_j78
        generalize hV : mndV tv (M1 4 i) (M1 5 i) (M1 6 i) (nI i) (nI (i - o)) = V
        rw [if_pos (inb_of (show i < 8 by omega) (by decide)), nI_clamp (by omega)]
        have g11 : M4 0 11 = nI o := by rw [s4.2 11 (by decide), up2_ne (by decide), e11]
        dsimp only
        simp only [g11]
        rw [if_pos (nI_le hio (by omega)), nI_1]
        refine ih fu (i + 1) _ (((hg3.tr s4.gb).tr (GB.up (by simp))).tr (GB.up (by simp))) (by omega) (by omega) ?_ ?_ ?_
        · rw [up2_at, s4.2 35 (by decide), up2_ne (by decide), s3.2 35 (by decide), ht, Int32.add_zero, Nat.min_eq_right hio, Nat.min_eq_right (by omega)]
        · intro j hj
          rw [up2_ne (by decide), up2_ne (by decide), s4.1 10 (by decide)]
          exact hsec j hj
        · intro j h1 h2
          rw [up2_ne (by decide)]
          by_cases e : j = i
          · subst e; rw [up2_at, hV]
          · rw [up2_nk e, s4.1 11 (by decide), up2_ne (by decide), s3.1 11 (by decide)]
            exact hm j h1 (by omega)
      · rw [if_neg (nI_ge (by omega) (by omega))]
        unfold F9_gathers_j54 F9_gathers_j78
        rw [if_pos (inb_of (show i < 8 by omega) (by decide)), nI_clamp (by omega), up2_ne (show 0 ≠ 10 by decide), e11, if_neg (nI_ge (by omega) (by omega)), if_pos (inb_of (show i < 8 by omega) (by decide)), up2_at, nI_1]
        refine ih fu (i + 1) _ ((hg3.tr (GB.up (by simp))).tr (GB.up (by simp))) (by omega) (by omega) ?_ ?_ ?_
        · rw [up2_at, s3.2 35 (by decide), ht, Nat.min_eq_left (by omega), Nat.min_eq_left (by omega)]
          show _ = sumI _ (i + 1)
          rw [sumI, hS]
          rfl
        · intro j hj
          rw [up2_ne (by decide), up2_ne (by decide)]
          exact hsec j hj
        · intro j h1 h2
          omega
  have e0 : GB M1 (up2 M1 0 35 0) := GB.up (by simp)
  obtain ⟨M3, h3, h4⟩ := key n FUEL 0 (up2 M1 0 35 0) e0 (by omega) (by unfold FUEL; omega) (by rw [up2_at, Nat.min_eq_left (by omega)]; rfl) (fun j hj => absurd hj (by omega)) (fun j _ hj => absurd hj (by omega))
  exact ⟨M3, h3, h4⟩
