def sw (N : Mem) (a b : Nat) : Mem := up2 (up2 (up2 (up2 (up2 (up2 N 4 a (N 4 b)) 4 b (N 4 a)) 5 a (N 5 b)) 5 b (N 5 a)) 6 a (N 6 b)) 6 b (N 6 a)
theorem sw_eq {N : Mem} {a b : Nat} (ha : a < 8) (hb : b < 8) : F9_swaps N (nI a) (nI b) = some (0, sw N a b) := by
  unfold F9_swaps sw
  rw [if_pos (inb_of ha (by decide)), if_pos (inb_of hb (by decide)), nI_clamp (by omega), nI_clamp (by omega)]
theorem sw_o {N : Mem} {a b c : Nat} (h4 : c ≠ 4) (h5 : c ≠ 5) (h6 : c ≠ 6) : sw N a b c = N c := by
  unfold sw
  rw [up2_ne h6, up2_ne h6, up2_ne h5, up2_ne h5, up2_ne h4, up2_ne h4]
theorem sw_i {N : Mem} {a b c : Nat} (hab : a ≠ b) (hc : c = 4 ∨ c = 5 ∨ c = 6) (i : Nat) : sw N a b c i = if i = b then N c a else if i = a then N c b else N c i := by
  unfold sw up2
  rcases hc with rfl | rfl | rfl
  · simp
  · simp
  · simp
theorem turn_c {tv : Tv} {n o : Nat} {A B M N : Mem} (hT : TellA tv A) (hU : TellB tv B) (hO : TvOk tv) (hL : RL n o A B) {a b : Nat} (ha : a < o) (hb : o ≤ b) (hbn : b < n) (hA : ST A M) (hB : GB B N) : ∃ v M' N', F7_turnChanged M (nI a) (nI b) = some (v, M') ∧ (Option.bind (F9_swaps N (nI a) (nI b)) fun r9 => Option.bind (F9_turn r9.2) fun r11 => Option.bind (F9_swaps r11.2 (nI a) (nI b)) fun r13 => some (r11.1, r13.2)) = some (v, N') ∧ ST A M' ∧ GB B N' := by
  obtain ⟨h8, hon, lA, lB, loA, loB, hg, hi⟩ := hL
  have e1 : M 1 = A 1 := hA 1 (by decide) (by decide)
  obtain ⟨M', t1, s1⟩ := turn_A hT hA.ka (n := n) (o := o) (by rw [e1]; exact lA) h8 (by rw [e1]; exact loA) hon (nI a) (nI b) (fun i => if i = a then b else i) (fun i hio => by
    refine ⟨?_, ?_, ?_⟩
    · by_cases e : i = a
      · rw [if_pos e]; exact hbn
      · rw [if_neg e]; omega
    · intro e
      have := nI_inj (by omega) (by omega) e
      rw [if_pos this]
    · intro e
      rw [if_neg (fun q => e (by rw [q]))])
  have hab : a ≠ b := by omega
  have f4 : ∀ c, c = 4 ∨ c = 5 ∨ c = 6 → N c = B c := fun c hc => hB.1 c (by omega) (by omega) (by omega) (by omega)
  have h0 : sw N a b 0 = N 0 := sw_o (by decide) (by decide) (by decide)
  have hk : KB B (sw N a b) := ⟨by rw [sw_o (by decide) (by decide) (by decide), hB.1 1 (by decide) (by decide) (by decide) (by decide)], by rw [sw_o (by decide) (by decide) (by decide), hB.1 2 (by decide) (by decide) (by decide) (by decide)], by rw [h0, hB.2 4 (by decide)], by rw [h0, hB.2 10 (by decide)], by rw [h0, hB.2 11 (by decide)]⟩
  obtain ⟨N1, g1, g2, g3, -⟩ := gath_B hU hO hk (n := n) (o := o) (by rw [h0, hB.2 10 (by decide)]; exact lB) h8 (by rw [h0, hB.2 11 (by decide)]; exact loB) hon (fun i hin => by
    rw [sw_i hab (.inl rfl), f4 4 (.inl rfl)]
    have k : ∀ j, j < n → 0 ≤ (B 4 j).toInt ∧ (B 4 j).toInt ≤ 5 := fun j hj => by rw [← (hi j (by omega)).1]; exact (hi j (by omega)).2.2.2.1
    by_cases q : i = b
    · rw [if_pos q]; exact k a (by omega)
    · rw [if_neg q]
      by_cases q2 : i = a
      · rw [if_pos q2]; exact k b (by omega)
      · rw [if_neg q2]; exact k i hin)
  refine ⟨turnW tv M (fun i => if i = a then b else i) o, M', sw N1 a b, t1, ?_, hA.tr s1, ?_, ?_⟩
  · rw [sw_eq (by omega) (by omega), Option.bind_some]
    unfold F9_turn
    dsimp only
    rw [g1, Option.bind_some, Option.bind_some]
    dsimp only
    rw [sw_eq (by omega) (by omega), Option.bind_some, g3]
    congr 2
    refine sumI_cong (fun i hio => ?_)
    rw [hA 2 (by decide) (by decide), hA 3 (by decide) (by decide), hA 4 (by decide) (by decide), sw_i hab (.inl rfl), sw_i hab (.inr (.inl rfl)), sw_i hab (.inr (.inr rfl))]
    simp only [if_neg (show ¬ i = b by omega), f4 4 (.inl rfl), f4 5 (.inr (.inl rfl)), f4 6 (.inr (.inr rfl))]
    by_cases e : i = a
    · simp only [if_pos e]
      rw [(hi b (by omega)).1, (hi b (by omega)).2.1, (hi b (by omega)).2.2.1]
    · simp only [if_neg e]
      rw [(hi i (by omega)).1, (hi i (by omega)).2.1, (hi i (by omega)).2.2.1]
  · intro c c0 c10 c11 c12
    by_cases q : c = 4 ∨ c = 5 ∨ c = 6
    · funext i
      have hc : N1 c = sw N a b c := g2.1 c c0 c10 c11 c12
      rw [sw_i hab q, hc, sw_i hab q, sw_i hab q, sw_i hab q, f4 c q]
      by_cases q1 : i = b
      · subst q1
        rw [if_pos rfl, if_neg hab, if_pos rfl]
      · rw [if_neg q1]
        by_cases q2 : i = a
        · subst q2
          rw [if_pos rfl, if_pos rfl]
        · rw [if_neg q2, if_neg q1, if_neg q2]
    · rw [sw_o (by omega) (by omega) (by omega), g2.1 c c0 c10 c11 c12, sw_o (by omega) (by omega) (by omega), hB.1 c c0 c10 c11 c12]
  · intro k hk2
    rw [sw_o (by decide) (by decide) (by decide), g2.2 k hk2, h0, hB.2 k hk2]
theorem change_l {tv : Tv} {n o : Nat} {A B : Mem} (hT : TellA tv A) (hU : TellB tv B) (hO : TvOk tv) (hL : RL n o A B) (x1 : Int32) : ∀ (k fu a : Nat) (M N : Mem) (x2 x3 : Int32), a + k = o → k < fu → ST A M → GB B N → ∃ v M' N', F8_change_l27 fu M x1 x2 x3 (nI a) = some (v, M') ∧ F9_change_l23 fu N x1 x3 x2 (nI a) = some (v, N') ∧ ST A M' ∧ GB B N' := by
  have hL0 := hL
  obtain ⟨h8, hon, lA, lB, loA, loB, hg, hi⟩ := hL
  intro k
  induction k with
  | zero =>
    intro fu a M N x2 x3 hk hf hA hB
    obtain ⟨fu, rfl⟩ : ∃ f, fu = f + 1 := ⟨fu - 1, by omega⟩
    obtain rfl : a = o := by omega
    have eA : F8_change_l27 (fu + 1) M x1 x2 x3 (nI a) = if ¬ x1 = 0 then some (x3, M) else some (x2, M) := by
      show F8_change_l27_b _ M x1 x2 x3 (nI a) = _
      unfold F8_change_l27_b
      rw [if_pos (by rw [hA 1 (by decide) (by decide), loA]; exact nI_le (by omega) (by omega))]
    have eB : F9_change_l23 (fu + 1) N x1 x3 x2 (nI a) = if ¬ x1 = 0 then some (x3, N) else some (x2, N) := by
      show F9_change_l23_b _ N x1 x3 x2 (nI a) = _
      unfold F9_change_l23_b
      rw [if_pos (by rw [hB.2 11 (by decide), loB]; exact nI_le (by omega) (by omega))]
    by_cases h : x1 = 0
    · exact ⟨x2, M, N, by rw [eA, if_neg (fun z => z h)], by rw [eB, if_neg (fun z => z h)], hA, hB⟩
    · exact ⟨x3, M, N, by rw [eA, if_pos h], by rw [eB, if_pos h], hA, hB⟩
  | succ k ih =>
    intro fu a M N x2 x3 hk hf hA hB
    obtain ⟨fu, rfl⟩ : ∃ f, fu = f + 1 := ⟨fu - 1, by omega⟩
    have inner : ∀ (q fi b : Nat) (M N : Mem) (x2 x3 : Int32), b + q = n → o ≤ b → q < fi → ST A M → GB B N → ∃ v M' N', F8_change_l48 (F8_change_l27 fu) fi M x1 x2 x3 (nI a) (nI b) = some (v, M') ∧ F9_change_l38 (F9_change_l23 fu) fi N x1 x3 x2 (nI a) (nI b) = some (v, N') ∧ ST A M' ∧ GB B N' := by
      intro q
      induction q with
      | zero =>
        intro fi b M N x2 x3 hq hob hfi hA hB
        obtain ⟨fi, rfl⟩ : ∃ f, fi = f + 1 := ⟨fi - 1, by omega⟩
        obtain rfl : b = n := by omega
        obtain ⟨v, M', N', r1, r2, r3⟩ := ih fu (a + 1) M N x2 x3 (by omega) (by omega) hA hB
        refine ⟨v, M', N', ?_, ?_, r3⟩
        · show F8_change_l48_b _ _ M x1 x2 x3 (nI a) (nI b) = _
          unfold F8_change_l48_b
          rw [if_pos (by rw [hA 1 (by decide) (by decide), lA]; exact nI_le (by omega) (by omega)), nI_1]
          exact r1
        · show F9_change_l38_b _ _ N x1 x3 x2 (nI a) (nI b) = _
          unfold F9_change_l38_b
          rw [if_pos (by rw [hB.2 10 (by decide), lB]; exact nI_le (by omega) (by omega)), nI_1]
          exact r2
      | succ q ihq =>
        intro fi b M N x2 x3 hq hob hfi hA hB
        obtain ⟨fi, rfl⟩ : ∃ f, fi = f + 1 := ⟨fi - 1, by omega⟩
        obtain ⟨w, M1, N1, t1, t2, sA, sB⟩ := turn_c hT hU hO hL0 (show a < o by omega) hob (show b < n by omega) hA hB
        obtain ⟨⟨z9, N9⟩, t3, t4⟩ := Option.bind_eq_some_iff.mp t2
        obtain ⟨⟨z11, N11⟩, t5, t6⟩ := Option.bind_eq_some_iff.mp t4
        obtain ⟨⟨z13, N13⟩, t7, t8⟩ := Option.bind_eq_some_iff.mp t6
        have t9 : z11 = w ∧ N13 = N1 := by cases t8; exact ⟨rfl, rfl⟩
        obtain ⟨rfl, rfl⟩ := t9
        dsimp only at t5 t7
        have eA : F8_change_l48 (F8_change_l27 fu) (fi + 1) M x1 x2 x3 (nI a) (nI b) = if x3 ≤ z11 then F8_change_l48 (F8_change_l27 fu) fi M1 x1 x2 x3 (nI a) (nI (b + 1)) else F8_change_l48 (F8_change_l27 fu) fi M1 x1 ((10 : Int32) * nI a + nI b) z11 (nI a) (nI (b + 1)) := by
          show F8_change_l48_b _ _ M x1 x2 x3 (nI a) (nI b) = _
          unfold F8_change_l48_b F8_change_j91
          rw [if_neg (by rw [hA 1 (by decide) (by decide), lA]; exact nI_ge (by omega) (by omega)), t1, Option.bind_some, nI_1]
        have eB : F9_change_l38 (F9_change_l23 fu) (fi + 1) N x1 x3 x2 (nI a) (nI b) = if x3 ≤ z11 then F9_change_l38 (F9_change_l23 fu) fi N13 x1 x3 x2 (nI a) (nI (b + 1)) else F9_change_l38 (F9_change_l23 fu) fi N13 x1 z11 ((10 : Int32) * nI a + nI b) (nI a) (nI (b + 1)) := by
          show F9_change_l38_b _ _ N x1 x3 x2 (nI a) (nI b) = _
          unfold F9_change_l38_b F9_change_j87
          rw [if_neg (by rw [hB.2 10 (by decide), lB]; exact nI_ge (by omega) (by omega)), t3, Option.bind_some]
          dsimp only
          rw [t5, Option.bind_some]
          dsimp only
          rw [t7, Option.bind_some, nI_1]
        rw [eA, eB]
        by_cases h : x3 ≤ z11
        · rw [if_pos h, if_pos h]
          exact ihq fi (b + 1) M1 N13 x2 x3 (by omega) (by omega) (by omega) sA sB
        · rw [if_neg h, if_neg h]
          exact ihq fi (b + 1) M1 N13 _ _ (by omega) (by omega) (by omega) sA sB
    obtain ⟨v, M', N', r1, r2, r3⟩ := inner (n - o) FUEL o M N x2 x3 (by omega) (by omega) (by unfold FUEL; omega) hA hB
    refine ⟨v, M', N', ?_, ?_, r3⟩
    · show F8_change_l27_b _ M x1 x2 x3 (nI a) = _
      unfold F8_change_l27_b
      rw [hA 1 (by decide) (by decide), loA, if_neg (nI_ge (by omega) (by omega))]
      exact r1
    · show F9_change_l23_b _ N x1 x3 x2 (nI a) = _
      unfold F9_change_l23_b
      rw [hB.2 11 (by decide), loB, if_neg (nI_ge (by omega) (by omega))]
      exact r2
theorem in01 {M : Mem} (x : Int32) (k : Nat) (b c : Int64) (hb : b.toInt = 0) (hc : c.toInt = (k : Int)) (hk : k + 1 < 2 ^ 31) : (∃ j, j ≤ k ∧ x = nI j ∧ ¬ x < 0 ∧ x ≤ nI k ∧ F9_in M (Int32.toInt64 x) b c = some (1, M)) ∨ ((x < 0 ∨ ¬ x ≤ nI k) ∧ F9_in M (Int32.toInt64 x) b c = some (0, M)) := by
  rcases cs x (k + 1) (by omega) with q | ⟨j, hj, rfl⟩
  · refine .inr ⟨?_, in_n (by rw [i64t, hb, hc]; omega)⟩
    rw [ilt, ile, nI_toInt (by omega)]
    rcases q with q | q
    · exact .inl q
    · exact .inr (by omega)
  · exact .inl ⟨j, by omega, rfl, nI_pos (by omega), nI_le (by omega) (by omega), in_y (by rw [i64t, hb, hc, nI_toInt (by omega)]; omega)⟩
theorem change_R {tv : Tv} {n o : Nat} {A B : Mem} (hT : TellA tv A) (hU : TellB tv B) (hO : TvOk tv) (hL : RL n o A B) (a1 : Int32) : ∃ v A' B', F8_change A a1 = some (v, A') ∧ F9_change B a1 = some (v, B') ∧ ST A A' ∧ GB B B' := by
  rcases in01 (M := B) a1 1 0 1 rfl rfl (by decide) with ⟨j, hj, rfl, l1, l2, e⟩ | ⟨q, e⟩
  · obtain ⟨v, A1, B1, t1, t2, sA, sB⟩ := turn_R hT hU hO hL
    obtain ⟨w, A2, B2, r1, r2, r3⟩ := change_l hT hU hO hL (nI j) o FUEL 0 A1 B1 (-1) v (by omega) (by have := hL.1; have := hL.2.1; unfold FUEL; omega) sA sB
    refine ⟨w, A2, B2, ?_, ?_, r3⟩
    · unfold F8_change
      unfold F8_turn at t1
      rw [if_neg l1, if_pos (show nI j ≤ 1 from l2)]
      obtain ⟨⟨z, Z⟩, y1, y2⟩ := Option.bind_eq_some_iff.mp t1
      cases y2
      rw [y1, Option.bind_some]
      exact r1
    · unfold F9_change
      rw [e, Option.bind_some, if_pos n10]
      dsimp only
      rw [t2, Option.bind_some]
      exact r2
  · refine ⟨-2, A, B, ?_, ?_, ST.rf, GB.rf⟩
    · unfold F8_change
      rcases q with q | q
      · rw [if_pos q]
      · by_cases h : a1 < 0
        · rw [if_pos h]
        · rw [if_neg h, if_neg (show ¬ a1 ≤ 1 from q)]
    · unfold F9_change
      rw [e]
      rfl
