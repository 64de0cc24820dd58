theorem bm32 {x : Int} (h : -2147483648 ≤ x) (h2 : x < 2147483648) : x.bmod (2 ^ 32) = x := by
  have e : ((2 ^ 32 : Nat) : Int) = 4294967296 := by decide
  unfold Int.bmod
  rw [e]
  dsimp only
  split <;> omega
theorem iadd {a b : Int32} (h : -2147483648 ≤ a.toInt + b.toInt) (h2 : a.toInt + b.toInt < 2147483648) : (a + b).toInt = a.toInt + b.toInt := by
  rw [Int32.toInt_add]; exact bm32 h h2
theorem isub {a b : Int32} (h : -2147483648 ≤ a.toInt - b.toInt) (h2 : a.toInt - b.toInt < 2147483648) : (a - b).toInt = a.toInt - b.toInt := by
  rw [Int32.toInt_sub]; exact bm32 h h2
theorem imul {a b : Int32} (h : -2147483648 ≤ a.toInt * b.toInt) (h2 : a.toInt * b.toInt < 2147483648) : (a * b).toInt = a.toInt * b.toInt := by
  rw [Int32.toInt_mul]; exact bm32 h h2
theorem ineg {a : Int32} (h : -2147483648 < a.toInt) : (-a).toInt = -a.toInt := by
  have := Int32.toInt_lt a
  rw [Int32.toInt_neg]; exact bm32 (by omega) (by omega)
theorem lgl {a b : Int64} : lg_cmp a b < 0 ↔ a < b := by
  unfold lg_cmp
  constructor
  · intro h
    by_cases h1 : a > b
    · rw [if_pos h1] at h; exact absurd h (by decide)
    · rw [if_neg h1] at h
      by_cases h2 : a = b
      · rw [if_pos h2] at h; exact absurd h (by decide)
      · rw [gt_iff_lt, Int64.lt_iff_toInt_lt] at h1
        rw [Int64.lt_iff_toInt_lt]
        have : ¬ a.toInt = b.toInt := fun e => h2 (Int64.toInt_inj.mp e)
        omega
  · intro h
    rw [Int64.lt_iff_toInt_lt] at h
    rw [if_neg (fun h1 => by rw [gt_iff_lt, Int64.lt_iff_toInt_lt] at h1; omega), if_neg (fun e => by rw [e] at h; omega)]
    decide
theorem cust_l {n o s z j q : Nat} (hs : s < 4) (hj : j < 2 ^ 31) (hq : q ≤ 8) : ∀ (k fu i n : Nat) (A B : Mem) (acc : Int32), RL n o A B → RS A B → A 44 s = nI z → B 19 s = nI z → (∀ j, j < z → A (46 + s) j = B 20 (40 * s + j)) → z ≤ 40 → i + k = q → k < fu → ∃ v A' B' n', F8_customers_l71 fu A (nI s) (nI j) (nI q) acc (nI i) = some (v, A') ∧ F9_customers_l75 fu B (nI s) (nI j) (nI q) acc (nI i) = some (v, B') ∧ RL n' o A' B' ∧ FA [1, 2, 3, 4] A A' ∧ FB [4, 5, 6] [10] B B' := by
  intro k
  induction k with
  | zero =>
    intro fu i n A B acc hL hS h44 h19 hrow hz hi hf
    obtain ⟨fu, rfl⟩ : ∃ f, fu = f + 1 := ⟨fu - 1, by omega⟩
    obtain rfl : i = q := by omega
    refine ⟨acc, A, B, n, ?_, ?_, hL, FA.rf, FB.rf⟩
    · show F8_customers_l71_b _ A (nI s) (nI j) (nI i) acc (nI i) = _
      unfold F8_customers_l71_b
      rw [if_pos (nI_le (by omega) (by omega))]
    · show F9_customers_l75_b _ B (nI s) (nI j) (nI i) acc (nI i) = _
      unfold F9_customers_l75_b
      rw [if_pos (nI_le (by omega) (by omega))]
  | succ k ih =>
    intro fu i n A B acc hL hS h44 h19 hrow hz hi hf
    obtain ⟨fu, rfl⟩ : ∃ f, fu = f + 1 := ⟨fu - 1, by omega⟩
    have eL : (Int32.toInt64 (nI j)) + ((2 : Int64) * (Int32.toInt64 (nI i))) = lN (j + 2 * i) := by
      rw [nI_l hj, nI_l (by omega), show (2 : Int64) = lN 2 from rfl, lN_mul, lN_add]
    have eM : (nI z - (2 : Int32) * nI i - (2 : Int32)).toInt = (z : Int) - 2 * i - 2 := by
      have e1 : (nI z - (2 : Int32) * nI i).toInt = (z : Int) - (2 * i : Nat) := by
        rw [show (2 : Int32) = nI 2 from rfl, pk_mul]
        exact pk_sub_toInt (by omega) (by omega)
      have e2 : (2 : Int32).toInt = 2 := by decide
      rw [isub (by rw [e1, e2]; omega) (by rw [e1, e2]; omega), e1, e2]
      omega
    by_cases hin : j + 2 * i + 1 < z
    · have eA : F8_customers_l71 (fu + 1) A (nI s) (nI j) (nI q) acc (nI i) = Option.bind (F8_customer A (A (46 + s) (j + 2 * i)) (A (46 + s) (j + 2 * i + 1))) fun r19 => if r19.1 < 0 then F8_customers_l71 fu r19.2 (nI s) (nI j) (nI q) acc (nI (i + 1)) else F8_customers_l71 fu r19.2 (nI s) (nI j) (nI q) (acc + 1) (nI (i + 1)) := by
        show F8_customers_l71_b _ A (nI s) (nI j) (nI q) acc (nI i) = _
        unfold F8_customers_l71_b F8_customers_j162
        rw [eL, if_neg (nI_ge (by omega) (by omega)), if_neg (by rw [lgl, show (0 : Int64) = lN 0 from rfl, pk_lLT (by omega) (by omega)]; omega), if_pos (inb_of hs (by decide)), nI_clamp (show s < 2 ^ 31 by omega), h44, nI_l (show z < 2 ^ 31 by omega), lN_1, if_pos (by rw [lgl, pk_lLT (by omega) (by omega)]; exact hin), lN_i, if_pos (inb_of (by omega) (by decide)), nI_1 (j + 2 * i), if_pos (inb_of (by omega) (by decide)), nI_clamp (by omega), nI_clamp (by omega), nI_1 i]
        unfold F8_customer
        cases F2_join A (A (46 + s) (j + 2 * i)) (A (46 + s) (j + 2 * i + 1)) <;> rfl
      have eB : F9_customers_l75 (fu + 1) B (nI s) (nI j) (nI q) acc (nI i) = Option.bind (F9_customer B (B 20 (40 * s + (j + 2 * i))) (B 20 (40 * s + (j + 2 * i + 1)))) fun r19 => if r19.1 < 0 then F9_customers_l75 fu r19.2 (nI s) (nI j) (nI q) acc (nI (i + 1)) else F9_customers_l75 fu r19.2 (nI s) (nI j) (nI q) (acc + 1) (nI (i + 1)) := by
        show F9_customers_l75_b _ B (nI s) (nI j) (nI q) acc (nI i) = _
        have ex : (40 : Int32) * nI s + nI j + (2 : Int32) * nI i = nI (40 * s + (j + 2 * i)) := by
          rw [show (40 : Int32) = nI 40 from rfl, show (2 : Int32) = nI 2 from rfl, pk_mul, pk_mul, nI_add, nI_add, Nat.add_assoc]
        unfold F9_customers_l75_b F9_customers_j149
        rw [if_neg (nI_ge (by omega) (by omega)), if_neg (nI_pos hj), if_pos (inb_of hs (by decide)), nI_clamp (show s < 2 ^ 31 by omega), h19, if_pos (by rw [ile, eM, nI_toInt hj]; omega), ex, if_pos (inb_of (by omega) (by decide)), nI_1 (40 * s + (j + 2 * i)), if_pos (inb_of (by omega) (by decide)), nI_clamp (by omega), nI_clamp (by omega), nI_1 i]
        simp only [Int32.add_zero]
        rfl
      obtain ⟨v, A1, B1, n1, r1, r2, r3, r4, r5⟩ := customer_R hL (A (46 + s) (j + 2 * i)) (A (46 + s) (j + 2 * i + 1))
      rw [eA, eB, r1, ← hrow _ (by omega), ← hrow _ hin, r2, Option.bind_some, Option.bind_some]
      dsimp only
      have f43 : ∀ c, 10 ≤ c → A1 c = A c := fun c hc => r4 c (by simp only [List.mem_cons, List.not_mem_nil, or_false]; omega)
      have g17 : ∀ c, 10 ≤ c → B1 c = B c := fun c hc => r5.1 c (by omega) (by simp only [List.mem_cons, List.not_mem_nil, or_false]; omega)
      have hS1 : RS A1 B1 := hS.cong (f43 43 (by decide)) (f43 44 (by decide)) (fun r _ => f43 _ (by omega)) (g17 17 (by decide)) (g17 18 (by decide)) (g17 19 (by decide)) (g17 20 (by decide))
      have key : ∀ acc, ∃ v A' B' n', F8_customers_l71 fu A1 (nI s) (nI j) (nI q) acc (nI (i + 1)) = some (v, A') ∧ F9_customers_l75 fu B1 (nI s) (nI j) (nI q) acc (nI (i + 1)) = some (v, B') ∧ RL n' o A' B' ∧ FA [1, 2, 3, 4] A A' ∧ FB [4, 5, 6] [10] B B' := by
        intro acc
        obtain ⟨v, A2, B2, n2, t1, t2, t3, t4, t5⟩ := ih fu (i + 1) n1 A1 B1 acc r3 hS1 (by rw [f43 44 (by decide)]; exact h44) (by rw [g17 19 (by decide)]; exact h19) (fun r hr => by rw [f43 _ (by omega), g17 20 (by decide)]; exact hrow r hr) hz (by omega) (by omega)
        exact ⟨v, A2, B2, n2, t1, t2, t3, fun c hc => (t4 c hc).trans (r4 c hc), fun c c0 hc => (t5.1 c c0 hc).trans (r5.1 c c0 hc), fun c hc => (t5.2 c hc).trans (r5.2 c hc)⟩
      by_cases h : v < 0
      · rw [if_pos h, if_pos h]; exact key acc
      · rw [if_neg h, if_neg h]; exact key (acc + 1)
    · refine ⟨-12, A, B, n, ?_, ?_, hL, FA.rf, FB.rf⟩
      · show F8_customers_l71_b _ A (nI s) (nI j) (nI q) acc (nI i) = _
        unfold F8_customers_l71_b
        rw [eL, if_neg (nI_ge (by omega) (by omega)), if_neg (by rw [lgl, show (0 : Int64) = lN 0 from rfl, pk_lLT (by omega) (by omega)]; omega), if_pos (inb_of hs (by decide)), nI_clamp (show s < 2 ^ 31 by omega), h44, nI_l (show z < 2 ^ 31 by omega), lN_1, if_neg (by rw [lgl, pk_lLT (by omega) (by omega)]; exact hin)]
      · show F9_customers_l75_b _ B (nI s) (nI j) (nI q) acc (nI i) = _
        unfold F9_customers_l75_b
        rw [if_neg (nI_ge (by omega) (by omega)), if_neg (nI_pos hj), if_pos (inb_of hs (by decide)), nI_clamp (show s < 2 ^ 31 by omega), h19, if_neg (by rw [ile, eM, nI_toInt hj]; omega)]
theorem customers_R {n o : Nat} {A B : Mem} (hL : RL n o A B) (hS : RS A B) (a1 a2 a3 a4 : Int32) : ∃ v A' B' n', F8_customers A a1 a2 a3 a4 = some (v, A') ∧ F9_customers B a1 a2 a3 a4 = some (v, B') ∧ RL n' o A' B' ∧ FA [1, 2, 3, 4] A A' ∧ FB [4, 5, 6] [10] B B' := by
  have hno : ∀ w : Int32, F8_customers A a1 a2 a3 a4 = some (w, A) → F9_customers B a1 a2 a3 a4 = some (w, B) → ∃ v A' B' n', F8_customers A a1 a2 a3 a4 = some (v, A') ∧ F9_customers B a1 a2 a3 a4 = some (v, B') ∧ RL n' o A' B' ∧ FA [1, 2, 3, 4] A A' ∧ FB [4, 5, 6] [10] B B' := fun w e1 e2 => ⟨w, A, B, n, e1, e2, hL, FA.rf, FB.rf⟩
  rcases cs a1 4 (by decide) with q | ⟨s, hs, rfl⟩
  · refine hno (-2) ?_ ?_
    · unfold F8_customers; rw [shA_n q]; rfl
    · unfold F9_customers; rw [shB_n q]; rfl
  rcases in01 (M := B) a2 2 0 2 rfl rfl (by decide) with ⟨x, hx, rfl, l1, l2, e⟩ | ⟨q, e⟩
  rotate_left
  · refine hno (-2) ?_ ?_
    · unfold F8_customers
      rw [shA_y hs, Option.bind_some, if_neg n10]
      by_cases h : a2 < 0
      · rw [if_pos h]
      · rw [if_neg h, if_pos]
        rcases q with q | q
        · exact absurd q h
        · have e2 : (2 : Int32).toInt = 2 := by decide
          rw [ile, nI_toInt (by decide)] at q
          rw [ilt, e2]
          omega
    · unfold F9_customers
      rw [shB_y hs, Option.bind_some, if_neg n10, e]
      rfl
  rcases in01 (M := B) a4 8 0 8 rfl rfl (by decide) with ⟨y, hy, rfl, k1, k2, f⟩ | ⟨q, f⟩
  rotate_left
  · refine hno (-2) ?_ ?_
    · unfold F8_customers
      rw [shA_y hs, Option.bind_some, if_neg n10, if_neg l1, if_neg (show ¬ (2 : Int32) < nI x from nI_nlt (a := 2) hx (by decide))]
      by_cases h : a4 < 0
      · rw [if_pos h]
      · rw [if_neg h, if_neg]
        rcases q with q | q
        · exact absurd q h
        · exact q
    · unfold F9_customers
      rw [shB_y hs, Option.bind_some, if_neg n10, e, Option.bind_some, if_neg n10, f]
      rfl
  have hA0 : F8_customers A (nI s) (nI x) a3 (nI y) = if A 43 s = -1 then some (-11, A) else if A 43 s = nI x then F8_customers_l71 FUEL A (nI s) a3 (nI y) 0 0 else some (-13, A) := by
    unfold F8_customers
    rw [shA_y hs, Option.bind_some, if_neg n10, if_neg l1, if_neg (show ¬ (2 : Int32) < nI x from nI_nlt (a := 2) hx (by decide)), if_neg k1, if_pos (show nI y ≤ 8 from k2), missA hs, Option.bind_some, nI_clamp (by omega)]
    by_cases h : A 43 s = -1
    · rw [if_pos h, if_neg n10, if_pos h]
    · rw [if_neg h, if_pos rfl, if_pos (inb_of hs (by decide)), if_neg h]
  have hB0 : F9_customers B (nI s) (nI x) a3 (nI y) = if B 17 s = 0 then F9_customers_j57 B (nI s) a3 (nI y) else if B 18 s = nI x then F9_customers_j57 B (nI s) a3 (nI y) else some (-13, B) := by
    unfold F9_customers
    rw [shB_y hs, Option.bind_some, if_neg n10, e, Option.bind_some, if_neg n10, f, Option.bind_some, if_pos n10, if_pos (inb_of hs (by decide)), nI_clamp (by omega)]
  rcases hS s hs with ⟨u1, u2⟩ | ⟨u1, u2, u3, z, u4, u5, u6, u7⟩
  · refine hno (-11) ?_ ?_
    · rw [hA0, if_pos u1]
    · rw [hB0, if_pos u2]
      unfold F9_customers_j57
      rw [if_pos (inb_of hs (by decide)), nI_clamp (by omega), if_neg (show ¬ ¬ B 17 s = 0 from fun z => z u2)]
  have m1 : ¬ A 43 s = -1 := by rcases u1 with e | e | e <;> rw [e] <;> decide
  rw [if_neg m1] at hA0
  rw [if_neg (by rw [u3]; decide), ← u2] at hB0
  by_cases hx2 : A 43 s = nI x
  rotate_left
  · exact hno (-13) (by rw [hA0, if_neg hx2]) (by rw [hB0, if_neg hx2])
  rw [if_pos hx2] at hA0 hB0
  have hB1 : F9_customers_j57 B (nI s) a3 (nI y) = F9_customers_l75 FUEL B (nI s) a3 (nI y) 0 0 := by
    unfold F9_customers_j57
    rw [if_pos (inb_of hs (by decide)), nI_clamp (by omega), if_pos (show ¬ B 17 s = 0 by rw [u3]; decide)]
  rw [hB1] at hB0
  by_cases h3 : 0 ≤ a3.toInt
  · obtain ⟨j, rfl, -, hj⟩ := nat_of h3
    obtain ⟨v, A', B', n', r1, r2, r3⟩ := cust_l (n := n) hs hj hy y FUEL 0 n A B 0 hL hS u5 u6 u7 u4 (by omega) (by unfold FUEL; omega)
    exact ⟨v, A', B', n', hA0.trans r1, hB0.trans r2, r3⟩
  · by_cases hy0 : y = 0
    · subst hy0
      exact hno 0 (by rw [hA0]; rfl) (by rw [hB0]; rfl)
    · refine hno (-12) ?_ ?_
      · rw [hA0]
        show F8_customers_l71_b _ A (nI s) a3 (nI y) 0 (nI 0) = _
        unfold F8_customers_l71_b
        rw [if_neg (nI_ge (by omega) (by omega)), if_pos]
        rw [lgl, Int64.lt_iff_toInt_lt]
        have e0 : Int32.toInt64 a3 + (2 : Int64) * Int32.toInt64 (nI 0) = Int32.toInt64 a3 := by
          rw [show (2 : Int64) * Int32.toInt64 (nI 0) = 0 from rfl, Int64.add_zero]
        rw [e0, i64t, show (0 : Int64).toInt = 0 from rfl]
        omega
      · rw [hB0]
        show F9_customers_l75_b _ B (nI s) a3 (nI y) 0 (nI 0) = _
        unfold F9_customers_l75_b
        rw [if_neg (nI_ge (by omega) (by omega)), if_pos]
        rw [ilt, show (0 : Int32).toInt = 0 from rfl]
        omega
