theorem thing_R {t : Nat} {A B : Mem} (h : RG t A B) (a1 a2 : Int32) : ∃ v A' B' t', F8_thing A a1 a2 = some (v, A') ∧ F9_thing B a1 a2 = some (v, B') ∧ RG t' A' B' ∧ FA [5, 6, 7, 8] A A' ∧ FB [7, 8, 9] [16] B B' := by
  obtain ⟨h6, hA, hB, hi⟩ := h
  have hno : ∀ w : Int32, F8_thing A a1 a2 = some (w, A) → F9_thing B a1 a2 = some (w, B) → ∃ v A' B' t', F8_thing A a1 a2 = some (v, A') ∧ F9_thing B a1 a2 = some (v, B') ∧ RG t' A' B' ∧ FA [5, 6, 7, 8] A A' ∧ FB [7, 8, 9] [16] B B' := fun w e1 e2 => ⟨w, A, B, t, e1, e2, ⟨h6, hA, hB, hi⟩, FA.rf, FB.rf⟩
  rcases cs a1 100 (by decide) with q | ⟨k, hk, rfl⟩
  · refine hno (-2) ?_ ?_
    · unfold F8_thing F6_lay
      simp only [ile, ilt, Int32.reduceToInt]
      by_cases h1 : a1.toInt < 0
      · rw [if_pos h1]; rfl
      · rw [if_neg h1, if_pos (by omega)]; rfl
    · unfold F9_thing
      rw [in_n (by rw [i64t]; simp; omega)]
      rfl
  by_cases hx0 : a2.toInt < 0
  · refine hno (-2) ?_ ?_
    · unfold F8_thing F6_lay
      simp only [ile, ilt, Int32.reduceToInt, nI_toInt (show k < 2 ^ 31 by omega)]
      rw [if_neg (by omega), if_neg (by omega), if_neg (by omega)]
      rfl
    · unfold F9_thing
      rw [in_y (by rw [i64t, nI_toInt (by omega)]; simp; omega), Option.bind_some, if_neg n10, in_n (by rw [i64t]; simp; omega)]
      rfl
  obtain ⟨x, rfl, -, hx⟩ := nat_of (x := a2) (by omega)
  have eA : F8_thing A (nI k) (nI x) = (if x / 1000 ≤ 99 ∧ x % 1000 ≤ 100 then (if t < 6 then some (nI t, (up2 (up2 (up2 (up2 A 6 t (nI k)) 7 t (nI (x / 1000))) 8 t (nI (x % 1000))) 5 3 (nI (t + 1)))) else some (-4, A)) else some (-2, A)) := by
    unfold F8_thing F6_lay jrem
    rw [show (1000 : Int32) = nI 1000 from rfl, pk_rem (by omega) (by decide) (by decide), pk_div (by omega) (by decide) (by decide)]
    simp only [ile, ilt, Int32.reduceToInt, nI_toInt (show k < 2 ^ 31 by omega), nI_toInt (show x < 2 ^ 31 by omega), nI_toInt (show x / 1000 < 2 ^ 31 by omega), nI_toInt (show x % 1000 < 2 ^ 31 by omega), hA, nI_toInt (show t < 2 ^ 31 by omega)]
    rw [if_neg (by omega), if_neg (by omega), if_pos (by omega)]
    by_cases g1 : x / 1000 ≤ 99
    · rw [if_neg (by omega)]
      by_cases g2 : x % 1000 ≤ 100
      · rw [if_pos (by omega)]
        by_cases h1 : t < 6
        · rw [if_pos (by omega), if_pos (inb_of (by omega) (by decide)), if_pos ⟨g1, g2⟩, if_pos h1, nI_clamp (by omega), Int32.add_sub_cancel, nI_1]
          rfl
        · rw [if_neg (by omega), if_pos ⟨g1, g2⟩, if_neg h1]
          rfl
      · rw [if_neg (by omega), if_neg (fun z => g2 z.2)]
        rfl
    · rw [if_pos (by omega), if_neg (fun z => g1 z.1)]
      rfl
  have eB : F9_thing B (nI k) (nI x) = (if x / 1000 ≤ 99 ∧ x % 1000 ≤ 100 then (if t < 6 then some (nI t, (up2 (up2 (up2 (up2 B 7 t (nI k)) 8 t (nI (x / 1000))) 9 t (nI (x % 1000))) 0 16 (nI (t + 1)))) else some (-4, B)) else some (-2, B)) := by
    unfold F9_thing jrem
    rw [in_y (by rw [i64t, nI_toInt (by omega)]; simp; omega), Option.bind_some, if_neg n10]
    by_cases g0 : x ≤ 99100
    · rw [in_y (by rw [i64t, nI_toInt (by omega)]; simp; omega), Option.bind_some, if_neg n10]
      rw [show (1000 : Int32) = nI 1000 from rfl, pk_rem (by omega) (by decide) (by decide), pk_div (by omega) (by decide) (by decide)]
      simp only [hB]
      by_cases g2 : x % 1000 ≤ 100
      · rw [if_pos (by rw [ile, nI_toInt (by omega)]; simp; omega)]
        have g12 : x / 1000 ≤ 99 ∧ x % 1000 ≤ 100 := ⟨by omega, g2⟩
        by_cases h1 : t < 6
        · rw [if_pos (fun e => by have := nI_inj (by omega) (by decide) (e.trans (show (6 : Int32) = nI 6 from rfl)); omega), if_pos (inb_of (by omega) (by decide)), if_pos g12, if_pos h1, nI_clamp (by omega), Int32.add_sub_cancel, nI_1]
        · rw [if_neg (by simp only [Classical.not_not]; rw [show t = 6 by omega]; rfl), if_pos g12, if_neg h1]
      · rw [if_neg (by rw [ile, nI_toInt (by omega)]; simp; omega), if_neg (fun z => g2 z.2)]
    · rw [in_n (by rw [i64t, nI_toInt (by omega)]; simp; omega), if_neg (by omega)]
      rfl
  by_cases gg : x / 1000 ≤ 99 ∧ x % 1000 ≤ 100
  · by_cases h1 : t < 6
    · rw [eA, eB, if_pos gg, if_pos gg, if_pos h1, if_pos h1]
      refine ⟨_, _, _, t + 1, rfl, rfl, ⟨by omega, up2_at, up2_at, ?_⟩, ?_, ?_⟩
      · intro i hin
        simp only [up2_ne (show (6 : Nat) ≠ 5 by decide), up2_ne (show (6 : Nat) ≠ 7 by decide), up2_ne (show (6 : Nat) ≠ 8 by decide), up2_ne (show (7 : Nat) ≠ 5 by decide), up2_ne (show (7 : Nat) ≠ 6 by decide), up2_ne (show (7 : Nat) ≠ 8 by decide), up2_ne (show (8 : Nat) ≠ 5 by decide), up2_ne (show (8 : Nat) ≠ 6 by decide), up2_ne (show (8 : Nat) ≠ 7 by decide), up2_ne (show (7 : Nat) ≠ 0 by decide), up2_ne (show (8 : Nat) ≠ 0 by decide), up2_ne (show (9 : Nat) ≠ 0 by decide), up2_ne (show (7 : Nat) ≠ 9 by decide), up2_ne (show (8 : Nat) ≠ 9 by decide), up2_ne (show (9 : Nat) ≠ 7 by decide), up2_ne (show (9 : Nat) ≠ 8 by decide)]
        by_cases e : i = t
        · subst e
          simp only [up2_at, nI_toInt (show k < 2 ^ 31 by omega), nI_toInt (show x / 1000 < 2 ^ 31 by omega), nI_toInt (show x % 1000 < 2 ^ 31 by omega)]
          refine ⟨trivial, trivial, trivial, ?_, ?_, ?_⟩ <;> omega
        · simp only [up2_nk e]
          exact hi i (by omega)
      · exact (((FA.rf.up (by decide)).up (by decide)).up (by decide)).up (by decide)
      · exact (((FB.rf.up (by decide) (by decide)).up (by decide) (by decide)).up (by decide) (by decide)).up0 (by decide)
    · exact hno (-4) (by rw [eA, if_pos gg, if_neg h1]) (by rw [eB, if_pos gg, if_neg h1])
  · exact hno (-2) (by rw [eA, if_neg gg]) (by rw [eB, if_neg gg])
/-- which customer, which thing -/
theorem oneB {B : Mem} {n : Nat} (hB : B 0 10 = nI n) (hn : n ≤ 8) (x : Int32) : F9_isOne B x = some (if 0 ≤ x.toInt ∧ x.toInt < n then 1 else 0, B) := by
  unfold F9_isOne
  rw [F9_in_eq, i64t, i64t, hB, show (0 : Int64).toInt = 0 from rfl, show (nI n - 1).toInt = (n : Int) - 1 from by rw [show (1 : Int32) = nI 1 from rfl, pk_sub_toInt (by omega) (by decide)]; rfl]
  by_cases h : 0 ≤ x.toInt ∧ x.toInt < n
  · rw [if_pos h, if_pos (by omega)]; rfl
  · rw [if_neg h, if_neg (by omega)]; rfl
theorem thgB {B : Mem} {n : Nat} (hB : B 0 16 = nI n) (hn : n ≤ 6) (x : Int32) : F9_isThing B x = some (if 0 ≤ x.toInt ∧ x.toInt < n then 1 else 0, B) := by
  unfold F9_isThing
  rw [F9_in_eq, i64t, i64t, hB, show (0 : Int64).toInt = 0 from rfl, show (nI n - 1).toInt = (n : Int) - 1 from by rw [show (1 : Int32) = nI 1 from rfl, pk_sub_toInt (by omega) (by decide)]; rfl]
  by_cases h : 0 ≤ x.toInt ∧ x.toInt < n
  · rw [if_pos h, if_pos (by omega)]; rfl
  · rw [if_neg h, if_neg (by omega)]; rfl
theorem thgA {M : Mem} {n : Nat} (hn : M 5 3 = nI n) (hn8 : n ≤ 6) (x : Int32) : F6_holds M x = some (if 0 ≤ x.toInt ∧ x.toInt < n then 1 else 0, M) := by
  unfold F6_holds
  rw [hn]
  simp only [Int32.lt_iff_toInt_lt, Int32.le_iff_toInt_le, Int32.reduceToInt, nI_toInt (n := n) (by omega)]
  by_cases h1 : x.toInt < 0
  · rw [if_pos h1, if_neg (by omega)]
  · rw [if_neg h1]
    by_cases h2 : (n : Int) ≤ x.toInt
    · rw [if_pos h2, if_neg (by omega)]
    · rw [if_neg h2, if_pos (by omega)]
theorem oneA_y {A : Mem} {n j : Nat} (hA : A 1 3 = nI n) (hn : n ≤ 8) (hj : j < n) : F2_holds A (nI j) = some (1, A) := by rw [holdsA hA hn, nI_toInt (by omega), if_pos (by omega)]
theorem oneB_y {A : Mem} {n j : Nat} (hA : A 0 10 = nI n) (hn : n ≤ 8) (hj : j < n) : F9_isOne A (nI j) = some (1, A) := by rw [oneB hA hn, nI_toInt (by omega), if_pos (by omega)]
theorem thgA_y {A : Mem} {n j : Nat} (hA : A 5 3 = nI n) (hn : n ≤ 6) (hj : j < n) : F6_holds A (nI j) = some (1, A) := by rw [thgA hA hn, nI_toInt (by omega), if_pos (by omega)]
theorem thgB_y {A : Mem} {n j : Nat} (hA : A 0 16 = nI n) (hn : n ≤ 6) (hj : j < n) : F9_isThing A (nI j) = some (1, A) := by rw [thgB hA hn, nI_toInt (by omega), if_pos (by omega)]
theorem oneA_n {A : Mem} {n : Nat} {x : Int32} (hA : A 1 3 = nI n) (hn : n ≤ 8) (hj : x.toInt < 0 ∨ (n : Int) ≤ x.toInt) : F2_holds A x = some (0, A) := by rw [holdsA hA hn, if_neg (by omega)]
theorem oneB_n {A : Mem} {n : Nat} {x : Int32} (hA : A 0 10 = nI n) (hn : n ≤ 8) (hj : x.toInt < 0 ∨ (n : Int) ≤ x.toInt) : F9_isOne A x = some (0, A) := by rw [oneB hA hn, if_neg (by omega)]
theorem thgA_n {A : Mem} {n : Nat} {x : Int32} (hA : A 5 3 = nI n) (hn : n ≤ 6) (hj : x.toInt < 0 ∨ (n : Int) ≤ x.toInt) : F6_holds A x = some (0, A) := by rw [thgA hA hn, if_neg (by omega)]
theorem thgB_n {A : Mem} {n : Nat} {x : Int32} (hA : A 0 16 = nI n) (hn : n ≤ 6) (hj : x.toInt < 0 ∨ (n : Int) ≤ x.toInt) : F9_isThing A x = some (0, A) := by rw [thgB hA hn, if_neg (by omega)]
