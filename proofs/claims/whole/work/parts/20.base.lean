/-! PURE SIDE, base: numbers, scratch, and what a rule tells on both sides -/
theorem F9_in_eq (M : Mem) (a b c : Int64) : F9_in M a b c = some (if b.toInt ≤ a.toInt ∧ a.toInt ≤ c.toInt then 1 else 0, M) := by
  unfold F9_in lg_cmp
  simp only [gt_iff_lt, Int64.lt_iff_toInt_lt, ← Int64.toInt_inj]
  by_cases h1 : a.toInt < b.toInt
  · have h2 : ¬ b.toInt < a.toInt := by omega
    have h3 : ¬ a.toInt = b.toInt := by omega
    have h4 : ¬ (b.toInt ≤ a.toInt ∧ a.toInt ≤ c.toInt) := by omega
    simp only [h2, h3, h4, if_false]
    rfl
  · have h5 : ¬ (if b.toInt < a.toInt then (1 : Int32) else if a.toInt = b.toInt then 0 else -1) < 0 := by
      by_cases h2 : b.toInt < a.toInt
      · simp only [h2, if_true]; decide
      · have h3 : a.toInt = b.toInt := by omega
        simp only [h3, Int.lt_irrefl, if_false, if_true]; decide
    rw [if_neg h5]
    by_cases h6 : c.toInt < a.toInt
    · have h4 : ¬ (b.toInt ≤ a.toInt ∧ a.toInt ≤ c.toInt) := by omega
      simp only [h6, h4, if_true, if_false]
      rfl
    · have h4 : b.toInt ≤ a.toInt ∧ a.toInt ≤ c.toInt := by omega
      have h7 : ¬ (0 : Int32) < (if c.toInt < a.toInt then (1 : Int32) else if a.toInt = c.toInt then 0 else -1) := by
        rw [if_neg h6]
        by_cases h3 : a.toInt = c.toInt
        · simp only [h3, if_true]; decide
        · simp only [h3, if_false]; decide
      rw [if_neg h7, if_pos h4]
theorem inb_nI {i n : Nat} (hi : i < 2 ^ 31) : inb (nI i) n = decide (i < n) := by
  unfold inb
  rw [nI_clamp hi]
  have h := nI_pos hi
  by_cases h2 : i < n
  · simp [h2, h]
  · simp [h2]
theorem inb_of {i n : Nat} (hi : i < n) (hn : n < 2 ^ 31) : inb (nI i) n = true := by
  rw [inb_nI (by omega)]
  simp [hi]
/-- an int that isn't below 0 is a natural number -/
theorem nat_of {x : Int32} (h : 0 ≤ x.toInt) : ∃ k : Nat, x = nI k ∧ (k : Int) = x.toInt ∧ k < 2 ^ 31 := by
  obtain ⟨j, hj, e⟩ := nI_of (x := x) (by rw [Int32.lt_iff_toInt_lt]; exact Int.not_lt.mpr h)
  exact ⟨j, e, by rw [e, nI_toInt hj], hj⟩
theorem test1 (a : Int32) (h : ¬ a < 0) (h2 : a ≤ 409) (h3 : ¬ a = 7) : 0 ≤ a.toInt ∧ a.toInt ≤ 409 ∧ a.toInt ≠ 7 := by
  simp only [Int32.lt_iff_toInt_lt, Int32.le_iff_toInt_le, ← Int32.toInt_inj] at h h2 h3
  simp at h h2 h3
  omega
theorem test2 (a : Int32) (h : ¬ a < -5) (h2 : a ≤ 409) (h3 : ¬ a = 7) : -5 ≤ a.toInt ∧ a.toInt ≤ 409 ∧ a.toInt ≠ 7 := by
  simp only [Int32.lt_iff_toInt_lt, Int32.le_iff_toInt_le, ← Int32.toInt_inj, Int32.reduceToInt] at h h2 h3
  omega
def ST (M M' : Mem) : Prop := ∀ c, c ≠ 31 → c ≠ 32 → M' c = M c
theorem ST.rf {M : Mem} : ST M M := fun _ _ _ => rfl
theorem ST.tr {M M' M'' : Mem} (h : ST M M') (h2 : ST M' M'') : ST M M'' := fun c a b => (h2 c a b).trans (h c a b)
def KA (M M' : Mem) : Prop := M' 1 3 = M 1 3 ∧ M' 1 4 = M 1 4 ∧ M' 16 5 = M 16 5 ∧ M' 16 6 = M 16 6 ∧ ∀ c, 17 ≤ c → c < 31 → M' c = M c
theorem KA.rf {M : Mem} : KA M M := ⟨rfl, rfl, rfl, rfl, fun _ _ _ => rfl⟩
theorem KA.tr {M M' M'' : Mem} (h : KA M M') (h2 : KA M' M'') : KA M M'' := ⟨h2.1.trans h.1, h2.2.1.trans h.2.1, h2.2.2.1.trans h.2.2.1, h2.2.2.2.1.trans h.2.2.2.1, fun c a b => (h2.2.2.2.2 c a b).trans (h.2.2.2.2 c a b)⟩
theorem ST.ka {M M' : Mem} (h : ST M M') : KA M M' := ⟨by rw [h 1 (by decide) (by decide)], by rw [h 1 (by decide) (by decide)], by rw [h 16 (by decide) (by decide)], by rw [h 16 (by decide) (by decide)], fun c a b => h c (by omega) (by omega)⟩
def SB (M M' : Mem) : Prop := (∀ c, c ≠ 0 → M' c = M c) ∧ ∀ k, k < 17 ∨ (31 < k ∧ k < 1000) → M' 0 k = M 0 k
theorem SB.rf {M : Mem} : SB M M := ⟨fun _ _ => rfl, fun _ _ => rfl⟩
theorem SB.tr {M M' M'' : Mem} (h : SB M M') (h2 : SB M' M'') : SB M M'' := ⟨fun c a => (h2.1 c a).trans (h.1 c a), fun k a => (h2.2 k a).trans (h.2 k a)⟩
def KB (M M' : Mem) : Prop := M' 1 = M 1 ∧ M' 2 = M 2 ∧ M' 0 4 = M 0 4 ∧ M' 0 10 = M 0 10 ∧ M' 0 11 = M 0 11
theorem KB.rf {M : Mem} : KB M M := ⟨rfl, rfl, rfl, rfl, rfl⟩
theorem KB.tr {M M' M'' : Mem} (h : KB M M') (h2 : KB M' M'') : KB M M'' := ⟨h2.1.trans h.1, h2.2.1.trans h.2.1, h2.2.2.1.trans h.2.2.1, h2.2.2.2.1.trans h.2.2.2.1, h2.2.2.2.2.trans h.2.2.2.2⟩
theorem SB.kb {M M' : Mem} (h : SB M M') : KB M M' := ⟨h.1 1 (by decide), h.1 2 (by decide), h.2 4 (by decide), h.2 10 (by decide), h.2 11 (by decide)⟩
abbrev Tv : Type := Nat → Int32 → Int32 → Int32 → Int32 → Int32
/-- what a part of the rule tells: on both sides the same, from every memory with the same rule, line and place -/
def TellA (tv : Tv) (M : Mem) : Prop := ∀ M1, KA M M1 → ∀ p it nu pl wa, p < 3 → ∃ M2, F4_tell M1 (nI p) it nu pl wa = some (tv p it nu pl wa, M2) ∧ ST M1 M2
def TellB (tv : Tv) (M : Mem) : Prop := ∀ M1, KB M M1 → ∀ p it nu pl wa, p < 3 → ∃ M2, F9_says M1 (nI p) it nu pl wa = some (tv p it nu pl wa, M2) ∧ SB M1 M2
def TvOk (tv : Tv) : Prop := ∀ p it nu pl wa, 0 ≤ (tv p it nu pl wa).toInt ∧ (tv p it nu pl wa).toInt ≤ 99
def secV (tv : Tv) (k it nu pl : Int32) : Int32 :=
  if k = 1 then it * tv 0 it nu pl 0 + 5 * nu
  else if k = 2 then jmin (it * tv 0 it nu pl 0) 60
  else if k = 3 then (if ¬ jrem it 2 = 1 then it * tv 0 it nu pl 0 + 5 * nu else it * tv 0 it nu pl 0 + 5 * nu + 20)
  else if k = 4 then jmin (it * tv 0 it nu pl 0) 60 + nu
  else if k = 5 then it * tv 0 it nu pl 0 / 2
  else it * tv 0 it nu pl 0
theorem holdsA {M : Mem} {n : Nat} (hn : M 1 3 = nI n) (hn8 : n ≤ 8) (x : Int32) : F2_holds M x = some (if 0 ≤ x.toInt ∧ x.toInt < n then 1 else 0, M) := by
  unfold F2_holds
  rw [hn]
  simp only [Int32.lt_iff_toInt_lt, Int32.le_iff_toInt_le, Int32.reduceToInt, nI_toInt (n := n) (by omega)]
  by_cases h1 : x.toInt < 0
  · rw [if_pos h1, if_neg (by omega)]
  · rw [if_neg h1]
    by_cases h2 : (n : Int) ≤ x.toInt
    · rw [if_pos h2, if_neg (by omega)]
    · rw [if_neg h2, if_pos (by omega)]
theorem sec_A {tv : Tv} {M M1 : Mem} (hT : TellA tv M) (hk : KA M M1) {n i : Nat} (hn : M1 1 3 = nI n) (hn8 : n ≤ 8) (hi : i < n) (k pl : Int32) : ∃ M2, F7_seconds M1 k (nI i) pl = some (secV tv k (M1 3 i) (M1 4 i) pl, M2) ∧ ST M1 M2 := by
  obtain ⟨M2, h2, hs⟩ := hT M1 hk 0 (M1 3 i) (M1 4 i) pl 0 (by decide)
  refine ⟨M2, ?_, hs⟩
  rw [nI_0] at h2
  have h1 : F2_holds M1 (nI i) = some (1, M1) := by
    rw [holdsA hn hn8, nI_toInt (by omega), if_pos (by omega)]
  unfold F7_seconds secV
  rw [h1]
  simp only [Option.bind_some, inb_of (show i < 8 by omega) (by decide), nI_clamp (show i < 2 ^ 31 by omega), h2, if_true]
  rw [if_pos (by decide)]
  repeat' split
  all_goals first | rfl | (rw [Int32.add_zero])
theorem sec_B {tv : Tv} {M M1 : Mem} (hT : TellB tv M) (hk : KB M M1) {i : Nat} (hi : i < 8) (hkd : 0 ≤ (M1 4 i).toInt ∧ (M1 4 i).toInt ≤ 5) : ∃ M2, F9_secondsOf M1 (nI i) = some (secV tv (M1 4 i) (M1 5 i) (M1 6 i) (nI i), M2) ∧ SB M1 M2 := by
  obtain ⟨M2, h2, hs⟩ := hT M1 hk 0 (M1 5 i) (M1 6 i) (nI i) 0 (by decide)
  refine ⟨M2, ?_, hs⟩
  rw [nI_0] at h2
  have e5 : M2 5 = M1 5 := hs.1 5 (by decide)
  have e6 : M2 6 = M1 6 := hs.1 6 (by decide)
  unfold F9_secondsOf secV
  simp only [F9_secondsOf_j50, F9_secondsOf_j102, Option.bind_some, inb_of hi (by decide), nI_clamp (show i < 2 ^ 31 by omega), h2, if_true, e5, e6]
  generalize M1 4 i = k at hkd
  obtain ⟨j, rfl, hj, -⟩ := nat_of hkd.1
  have hj5 : j ≤ 5 := by omega
  have hmin : ∀ x : Int32, jmin x 60 = if x ≤ 60 then x else 60 := by
    intro x
    unfold jmin
    simp only [Int32.lt_iff_toInt_lt, Int32.le_iff_toInt_le]
    by_cases h : (60 : Int32).toInt < x.toInt
    · rw [if_pos h, if_neg (by omega)]
    · rw [if_neg h, if_pos (by omega)]
  rcases (show j = 0 ∨ j = 1 ∨ j = 2 ∨ j = 3 ∨ j = 4 ∨ j = 5 by omega) with rfl | rfl | rfl | rfl | rfl | rfl
  · rfl
  · rfl
  · simp only [show nI 2 = (2 : Int32) from rfl, hmin]
    repeat' split
    all_goals first | rfl | contradiction
  · simp only [show nI 3 = (3 : Int32) from rfl]
    repeat' split
    all_goals first | rfl | contradiction
  · simp only [show nI 4 = (4 : Int32) from rfl, hmin]
    repeat' split
    all_goals first | rfl | contradiction
  · simp only [show nI 5 = (5 : Int32) from rfl]
    repeat' split
    all_goals first | rfl | contradiction
