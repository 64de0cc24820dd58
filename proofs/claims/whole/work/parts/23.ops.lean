/-! PURE SIDE: the line and the things -/
theorem cs (x : Int32) (n : Nat) (hn : n < 2 ^ 31) : (x.toInt < 0 ∨ (n : Int) ≤ x.toInt) ∨ ∃ j : Nat, j < n ∧ x = nI j := by
  by_cases h : 0 ≤ x.toInt
  · obtain ⟨k, e, h2, h3⟩ := nat_of h
    by_cases hk : k < n
    · exact .inr ⟨k, hk, e⟩
    · exact .inl (.inr (by omega))
  · exact .inl (.inl (by omega))
theorem n10 : ¬ (1 : Int32) = 0 := by decide
theorem in_y {M : Mem} {a b c : Int64} (h : b.toInt ≤ a.toInt ∧ a.toInt ≤ c.toInt) : F9_in M a b c = some (1, M) := by rw [F9_in_eq, if_pos h]
theorem in_n {M : Mem} {a b c : Int64} (h : ¬ (b.toInt ≤ a.toInt ∧ a.toInt ≤ c.toInt)) : F9_in M a b c = some (0, M) := by rw [F9_in_eq, if_neg h]
theorem i64t (x : Int32) : (Int32.toInt64 x).toInt = x.toInt := Int32.toInt_toInt64 x
theorem inI {M : Mem} (x y : Int32) (b : Int64) (c : Nat) (hb : b.toInt = 0) (hy : y.toInt = (c : Int)) : F9_in M (Int32.toInt64 x) b (Int32.toInt64 y) = some (if 0 ≤ x.toInt ∧ x.toInt ≤ (c : Int) then 1 else 0, M) := by
  rw [F9_in_eq, i64t, i64t, hb, hy]
theorem ile {x y : Int32} : x ≤ y ↔ x.toInt ≤ y.toInt := Int32.le_iff_toInt_le
theorem ilt {x y : Int32} : x < y ↔ x.toInt < y.toInt := Int32.lt_iff_toInt_lt
def RL (n o : Nat) (A B : Mem) : Prop := n ≤ 8 ∧ o ≤ n ∧ A 1 3 = nI n ∧ B 0 10 = nI n ∧ A 1 4 = nI o ∧ B 0 11 = nI o ∧ A 1 5 = B 0 12 ∧ ∀ i, i < 8 → A 2 i = B 4 i ∧ A 3 i = B 5 i ∧ A 4 i = B 6 i ∧ (0 ≤ (A 2 i).toInt ∧ (A 2 i).toInt ≤ 5) ∧ (0 ≤ (A 3 i).toInt ∧ (A 3 i).toInt ≤ 40) ∧ 0 ≤ (A 4 i).toInt ∧ (A 4 i).toInt ≤ 9
def RG (t : Nat) (A B : Mem) : Prop := t ≤ 6 ∧ A 5 3 = nI t ∧ B 0 16 = nI t ∧ ∀ i, i < 6 → A 6 i = B 7 i ∧ A 7 i = B 8 i ∧ A 8 i = B 9 i ∧ (0 ≤ (A 6 i).toInt ∧ (A 6 i).toInt ≤ 99) ∧ (0 ≤ (A 7 i).toInt ∧ (A 7 i).toInt ≤ 99) ∧ 0 ≤ (A 8 i).toInt ∧ (A 8 i).toInt ≤ 100
/-- only these cells changed -/
def FA (cs : List Nat) (A A' : Mem) : Prop := ∀ c, c ∉ cs → A' c = A c
/-- only these cells, and of the object only these slots -/
def FB (cs ks : List Nat) (B B' : Mem) : Prop := (∀ c, c ≠ 0 → c ∉ cs → B' c = B c) ∧ ∀ k, k ∉ ks → B' 0 k = B 0 k
theorem FA.rf {cs : List Nat} {A : Mem} : FA cs A A := fun _ _ => rfl
theorem FB.rf {cs ks : List Nat} {A : Mem} : FB cs ks A A := ⟨fun _ _ _ => rfl, fun _ _ => rfl⟩
theorem FA.up {cs : List Nat} {A A' : Mem} {c k : Nat} {v : Int32} (h : FA cs A A') (hc : c ∈ cs) : FA cs A (up2 A' c k v) := fun d hd => (up2_ne (fun e => hd (by rw [e]; exact hc))).trans (h d hd)
theorem FB.up {cs ks : List Nat} {A A' : Mem} {c k : Nat} {v : Int32} (h : FB cs ks A A') (h0 : c ≠ 0) (hc : c ∈ cs) : FB cs ks A (up2 A' c k v) := ⟨fun d hd h2 => (up2_ne (fun e => h2 (by rw [e]; exact hc))).trans (h.1 d hd h2), fun j hj => by rw [up2_ne (Ne.symm h0)]; exact h.2 j hj⟩
theorem FB.up0 {cs ks : List Nat} {A A' : Mem} {k : Nat} {v : Int32} (h : FB cs ks A A') (hc : k ∈ ks) : FB cs ks A (up2 A' 0 k v) := ⟨fun d hd h2 => (up2_ne hd).trans (h.1 d hd h2), fun j hj => by rw [up2_nk (fun e => hj (by rw [e]; exact hc))]; exact h.2 j hj⟩
theorem customer_R {n o : Nat} {A B : Mem} (h : RL n o A B) (a1 a2 : Int32) : ∃ v A' B' n', F8_customer A a1 a2 = some (v, A') ∧ F9_customer B a1 a2 = some (v, B') ∧ RL n' o A' B' ∧ FA [1, 2, 3, 4] A A' ∧ FB [4, 5, 6] [10] B B' := by
  obtain ⟨h8, hon, hA, hB, hoA, hoB, hg, hi⟩ := h
  have hno : ∀ w : Int32, F8_customer A a1 a2 = some (w, A) → F9_customer B a1 a2 = some (w, B) → ∃ v A' B' n', F8_customer A a1 a2 = some (v, A') ∧ F9_customer B a1 a2 = some (v, B') ∧ RL n' o A' B' ∧ FA [1, 2, 3, 4] A A' ∧ FB [4, 5, 6] [10] B B' := fun w e1 e2 => ⟨w, A, B, n, e1, e2, ⟨h8, hon, hA, hB, hoA, hoB, hg, hi⟩, FA.rf, FB.rf⟩
  rcases cs a1 6 (by decide) with q | ⟨k, hk, rfl⟩
  · refine hno (-2) ?_ ?_
    · unfold F8_customer F2_join
      simp only [ile, ilt, Int32.reduceToInt]
      by_cases h1 : a1.toInt < 0
      · rw [if_pos h1]; rfl
      · rw [if_neg h1, if_pos (by omega)]; rfl
    · unfold F9_customer
      rw [in_n (by rw [i64t]; simp; omega)]
      rfl
  rcases cs a2 410 (by decide) with q | ⟨x, hx, rfl⟩
  · refine hno (-2) ?_ ?_
    · unfold F8_customer F2_join
      simp only [ile, ilt, Int32.reduceToInt, nI_toInt (show k < 2 ^ 31 by omega)]
      rw [if_neg (by omega), if_neg (by omega)]
      by_cases h1 : a2.toInt < 0
      · rw [if_pos h1]; rfl
      · rw [if_neg h1, if_neg (by omega)]; rfl
    · unfold F9_customer
      rw [in_y (by rw [i64t, nI_toInt (by omega)]; simp; omega), Option.bind_some, if_neg n10, in_n (by rw [i64t]; simp; omega)]
      rfl
  have eA : F8_customer A (nI k) (nI x) = (if n < 8 then some (nI n, (up2 (up2 (up2 (up2 A 2 n (nI k)) 3 n (nI (x / 10))) 4 n (nI (x % 10))) 1 3 (nI (n + 1)))) else some (-4, A)) := by
    unfold F8_customer F2_join
    simp only [ile, ilt, Int32.reduceToInt, nI_toInt (show k < 2 ^ 31 by omega), nI_toInt (show x < 2 ^ 31 by omega), hA, nI_toInt (show n < 2 ^ 31 by omega)]
    rw [if_neg (by omega), if_neg (by omega), if_neg (by omega), if_pos (by omega)]
    by_cases h1 : n < 8
    · rw [if_pos (by omega), if_pos (inb_of (by omega) (by decide)), if_pos h1, nI_clamp (by omega), Int32.add_sub_cancel, nI_1, show (10 : Int32) = nI 10 from rfl, pk_div (by omega) (by decide) (by decide)]
      unfold jrem
      rw [pk_rem (by omega) (by decide) (by decide)]
      rfl
    · rw [if_neg (by omega), if_neg h1]
      rfl
  have eB : F9_customer B (nI k) (nI x) = (if n < 8 then some (nI n, (up2 (up2 (up2 (up2 B 4 n (nI k)) 5 n (nI (x / 10))) 6 n (nI (x % 10))) 0 10 (nI (n + 1)))) else some (-4, B)) := by
    unfold F9_customer
    rw [in_y (by rw [i64t, nI_toInt (by omega)]; simp; omega), Option.bind_some, if_neg n10, in_y (by rw [i64t, nI_toInt (by omega)]; simp; omega), Option.bind_some, if_pos n10]
    simp only [hB]
    by_cases h1 : n < 8
    · rw [if_pos (fun e => by have := nI_inj (by omega) (by decide) (e.trans (show (8 : Int32) = nI 8 from rfl)); omega), if_pos (inb_of (by omega) (by decide)), if_pos h1, nI_clamp (by omega), Int32.add_sub_cancel, nI_1, show (10 : Int32) = nI 10 from rfl, pk_div (by omega) (by decide) (by decide)]
      unfold jrem
      rw [pk_rem (by omega) (by decide) (by decide)]
    · rw [if_neg (by simp only [Classical.not_not]; rw [show n = 8 by omega]; rfl), if_neg h1]
  by_cases h1 : n < 8
  · rw [eA, eB, if_pos h1, if_pos h1]
    refine ⟨_, _, _, n + 1, rfl, rfl, ⟨by omega, by omega, up2_at, up2_at, ?_, ?_, ?_, ?_⟩, ?_, ?_⟩
    · rw [up2_nk (by decide), up2_ne (by decide), up2_ne (by decide), up2_ne (by decide)]; exact hoA
    · rw [up2_nk (by decide), up2_ne (by decide), up2_ne (by decide), up2_ne (by decide)]; exact hoB
    · rw [up2_nk (by decide), up2_ne (by decide), up2_ne (by decide), up2_ne (by decide), up2_nk (by decide), up2_ne (by decide), up2_ne (by decide), up2_ne (by decide)]; exact hg
    · intro i hin
      simp only [up2_ne (show (2 : Nat) ≠ 1 by decide), up2_ne (show (2 : Nat) ≠ 3 by decide), up2_ne (show (2 : Nat) ≠ 4 by decide), up2_ne (show (3 : Nat) ≠ 1 by decide), up2_ne (show (3 : Nat) ≠ 2 by decide), up2_ne (show (3 : Nat) ≠ 4 by decide), up2_ne (show (4 : Nat) ≠ 1 by decide), up2_ne (show (4 : Nat) ≠ 2 by decide), up2_ne (show (4 : Nat) ≠ 3 by decide), up2_ne (show (4 : Nat) ≠ 0 by decide), up2_ne (show (5 : Nat) ≠ 0 by decide), up2_ne (show (6 : Nat) ≠ 0 by decide), up2_ne (show (4 : Nat) ≠ 5 by decide), up2_ne (show (4 : Nat) ≠ 6 by decide), up2_ne (show (5 : Nat) ≠ 4 by decide), up2_ne (show (5 : Nat) ≠ 6 by decide), up2_ne (show (6 : Nat) ≠ 4 by decide), up2_ne (show (6 : Nat) ≠ 5 by decide)]
      by_cases e : i = n
      · subst e
        simp only [up2_at, nI_toInt (show k < 2 ^ 31 by omega), nI_toInt (show x / 10 < 2 ^ 31 by omega), nI_toInt (show x % 10 < 2 ^ 31 by omega)]
        refine ⟨trivial, trivial, trivial, ?_, ?_, ?_⟩ <;> omega
      · simp only [up2_nk e]
        exact hi i (by omega)
    · exact (((FA.rf.up (by decide)).up (by decide)).up (by decide)).up (by decide)
    · exact (((FB.rf.up (by decide) (by decide)).up (by decide) (by decide)).up (by decide) (by decide)).up0 (by decide)
  · exact hno (-4) (by rw [eA, if_neg h1]) (by rw [eB, if_neg h1])
