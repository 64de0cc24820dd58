def mndV (tv : Tv) (k it nu pl wa : Int32) : Int32 :=
  if k = 2 then 2 * tv 1 it nu pl wa
  else if k = 3 then 0
  else if k = 4 then jmax 0 (2 * tv 1 it nu pl wa - nu)
  else if k = 5 then tv 1 it nu pl wa + 1
  else tv 1 it nu pl wa
theorem mnd_A {tv : Tv} {M M1 : Mem} (hT : TellA tv M) (hk : KA M M1) {n i : Nat} (hn : M1 1 3 = nI n) (hn8 : n ≤ 8) (hi : i < n) (wa : Int32) : ∃ M2, F7_minds M1 (nI i) wa = some (mndV tv (M1 2 i) (M1 3 i) (M1 4 i) (nI i) wa, M2) ∧ ST M1 M2 := by
  obtain ⟨M2, h2, hs⟩ := hT M1 hk 1 (M1 3 i) (M1 4 i) (nI i) wa (by decide)
  refine ⟨M2, ?_, hs⟩
  have e2 : M2 2 = M1 2 := hs 2 (by decide) (by decide)
  have h1 : F2_holds M1 (nI i) = some (1, M1) := by
    rw [holdsA hn hn8, nI_toInt (by omega), if_pos (by omega)]
  unfold F7_minds mndV
  rw [h1]
  simp only [Option.bind_some, inb_of (show i < 8 by omega) (by decide), nI_clamp (show i < 2 ^ 31 by omega), show (1 : Int32) = nI 1 from rfl, h2, if_true, e2]
  rw [if_pos (by decide)]
  repeat' split
  all_goals rfl
theorem jmax0 (y : Int32) : (if 0 ≤ y then y else 0) = jmax 0 y := by
  unfold jmax
  simp only [Int32.lt_iff_toInt_lt, Int32.le_iff_toInt_le, Int32.reduceToInt]
  by_cases h : 0 < y.toInt
  · rw [if_pos h, if_pos (by omega)]
  · rw [if_neg h]
    by_cases h2 : 0 ≤ y.toInt
    · rw [if_pos h2]
      apply Int32.toInt_inj.mp
      have : y.toInt = 0 := by omega
      rw [this]
      rfl
    · rw [if_neg h2]
theorem jmax0_nn {y : Int32} (h : 0 ≤ y.toInt) : jmax 0 y = y := by
  rw [← jmax0, if_pos (by rw [Int32.le_iff_toInt_le]; exact h)]
theorem mnd_B {tv : Tv} {M M1 : Mem} (hT : TellB tv M) (hO : TvOk tv) (hk : KB M M1) {i : Nat} (hi : i < 8) (hkd : 0 ≤ (M1 4 i).toInt ∧ (M1 4 i).toInt ≤ 5) (wa : Int32) : ∃ M2, F9_mindsOf M1 (nI i) wa = some (mndV tv (M1 4 i) (M1 5 i) (M1 6 i) (nI i) wa, M2) ∧ SB M1 M2 := by
  obtain ⟨M2, h2, hs⟩ := hT M1 hk 1 (M1 5 i) (M1 6 i) (nI i) wa (by decide)
  refine ⟨M2, ?_, hs⟩
  have e6 : M2 6 = M1 6 := hs.1 6 (by decide)
  obtain ⟨o1, o2⟩ := hO 1 (M1 5 i) (M1 6 i) (nI i) wa
  unfold F9_mindsOf mndV
  simp only [F9_mindsOf_j82, Option.bind_some, inb_of hi (by decide), nI_clamp (show i < 2 ^ 31 by omega), show (1 : Int32) = nI 1 from rfl, h2, if_true, e6]
  simp only [show nI 1 = (1 : Int32) from rfl]
  generalize tv 1 (M1 5 i) (M1 6 i) (nI i) wa = t at o1 o2
  obtain ⟨q, rfl, hq, -⟩ := nat_of o1
  have hj : ∀ y : Int32, (if 0 ≤ y then some (y, M2) else some ((0 : Int32), M2)) = some (jmax 0 y, M2) := by
    intro y
    rw [← jmax0]
    split <;> rfl
  simp only [hj]
  have a1 : jmax 0 (nI q) = nI q := jmax0_nn (by rw [nI_toInt (by omega)]; omega)
  have a2 : jmax 0 (nI q + 1) = nI q + 1 := by rw [nI_1]; exact jmax0_nn (by rw [nI_toInt (by omega)]; omega)
  have a3 : jmax 0 (2 * nI q) = 2 * nI q := by
    rw [show (2 : Int32) = nI 2 from rfl, pk_mul]
    exact jmax0_nn (by rw [nI_toInt (by omega)]; omega)
  have a4 : jmax 0 (0 : Int32) = 0 := by decide
  generalize M1 4 i = k at hkd
  obtain ⟨j, rfl, hj2, -⟩ := nat_of hkd.1
  rcases (show j = 0 ∨ j = 1 ∨ j = 2 ∨ j = 3 ∨ j = 4 ∨ j = 5 by omega) with rfl | rfl | rfl | rfl | rfl | rfl
  · simp only [show nI 0 = (0 : Int32) from rfl, a1]; rfl
  · simp only [show nI 1 = (1 : Int32) from rfl, a1]; rfl
  · simp only [show nI 2 = (2 : Int32) from rfl, a3]; rfl
  · simp only [show nI 3 = (3 : Int32) from rfl, a4]; rfl
  · simp only [show nI 4 = (4 : Int32) from rfl]; rfl
  · simp only [show nI 5 = (5 : Int32) from rfl, a2]; rfl
def sumI (f : Nat → Int32) : Nat → Int32
  | 0 => 0
  | n + 1 => sumI f n + f n
theorem sumI_cong {f g : Nat → Int32} : ∀ {n : Nat}, (∀ i, i < n → f i = g i) → sumI f n = sumI g n
  | 0, _ => rfl
  | n + 1, h => by rw [sumI, sumI, sumI_cong (fun i hi => h i (by omega)), h n (by omega)]
theorem nI_inj {a b : Nat} (ha : a < 2 ^ 31) (hb : b < 2 ^ 31) (h : nI a = nI b) : a = b := (nI_eq ha hb).mp h
/-- the class' TURN, where w tells who stands where -/
def turnW (tv : Tv) (M : Mem) (w : Nat → Nat) : Nat → Int32 := sumI (fun i => secV tv (M 2 (w i)) (M 3 (w i)) (M 4 (w i)) (nI i))
theorem turn_A {tv : Tv} {M M1 : Mem} (hT : TellA tv M) (hk : KA M M1) {n o : Nat} (hn : M1 1 3 = nI n) (hn8 : n ≤ 8) (ho : M1 1 4 = nI o) (hon : o ≤ n) (x1 x2 : Int32) (w : Nat → Nat) (hw : ∀ i, i < o → w i < n ∧ (nI i = x1 → x2 = nI (w i)) ∧ (¬ nI i = x1 → w i = i)) : ∃ M2, F7_turnChanged M1 x1 x2 = some (turnW tv M1 w o, M2) ∧ ST M1 M2 := by
  have key : ∀ (k fu i : Nat) (M2 : Mem), ST M1 M2 → i + k = o → k < fu → ∃ M3, F7_turnChanged_l5 fu M2 x1 x2 (turnW tv M1 w i) (nI i) = some (turnW tv M1 w o, M3) ∧ ST M1 M3 := by
    intro k
    induction k with
    | zero =>
      intro fu i M2 hs hi hf
      obtain ⟨fu, rfl⟩ : ∃ f, fu = f + 1 := ⟨fu - 1, by omega⟩
      refine ⟨M2, ?_, hs⟩
      show F7_turnChanged_l5_b _ M2 x1 x2 _ (nI i) = _
      unfold F7_turnChanged_l5_b
      rw [hs 1 (by decide) (by decide), ho, if_pos (nI_le (by omega) (by omega)), show i = o by omega]
    | succ k ih =>
      intro fu i M2 hs hi hf
      obtain ⟨fu, rfl⟩ : ∃ f, fu = f + 1 := ⟨fu - 1, by omega⟩
      have e1 : M2 1 = M1 1 := hs 1 (by decide) (by decide)
      have e2 : M2 2 = M1 2 := hs 2 (by decide) (by decide)
      have e3 : M2 3 = M1 3 := hs 3 (by decide) (by decide)
      have e4 : M2 4 = M1 4 := hs 4 (by decide) (by decide)
      obtain ⟨w1, w2, w3⟩ := hw i (by omega)
      obtain ⟨M3, h3, hs3⟩ := sec_A hT (hk.tr hs.ka) (n := n) (i := w i) (by rw [e1]; exact hn) hn8 w1 (M2 2 (w i)) (nI i)
      have hj : F7_turnChanged_j52 (F7_turnChanged_l5 fu) M2 x1 x2 (turnW tv M1 w i) (nI i) (nI (w i)) = F7_turnChanged_l5 fu M3 x1 x2 (turnW tv M1 w (i + 1)) (nI (i + 1)) := by
        unfold F7_turnChanged_j52
        rw [if_pos (inb_of (by omega) (by decide)), nI_clamp (by omega), h3, Option.bind_some, nI_1, e2, e3, e4]
        rfl
      obtain ⟨M4, h4, hs4⟩ := ih fu (i + 1) M3 (hs.tr hs3) (by omega) (by omega)
      refine ⟨M4, ?_, hs4⟩
      show F7_turnChanged_l5_b _ M2 x1 x2 _ (nI i) = _
      unfold F7_turnChanged_l5_b
      rw [e1, ho, hn, if_neg (nI_ge (by omega) (by omega)), if_neg (nI_ge (by omega) (by omega))]
      by_cases hx : nI i = x1
      · rw [if_neg (fun z => z hx), w2 hx, holdsA (M := M2) (by rw [e1]; exact hn) hn8, Option.bind_some, nI_toInt (by omega)]
        have hh : (if (0 : Int) ≤ (w i : Int) ∧ (w i : Int) < (n : Int) then (1 : Int32) else 0) = 1 := if_pos (by omega)
        rw [hh]
        dsimp only
        rw [if_neg (by decide)]
        rw [w2 hx] at hj h4
        rw [hj]
        exact h4
      · rw [if_pos hx]
        unfold F7_turnChanged_j50
        have := w3 hx
        rw [this] at hj
        rw [hj]
        exact h4
  obtain ⟨M3, h3, hs3⟩ := key o FUEL 0 M1 ST.rf (by omega) (by unfold FUEL; omega)
  exact ⟨M3, h3, hs3⟩
