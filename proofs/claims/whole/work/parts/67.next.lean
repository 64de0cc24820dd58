/-! TEXTS: the reference's tokens -/
theorem gL_nk {M : Mem} {c k j : Nat} {v : Int32} (h1 : j ≠ k) (h2 : j ≠ k + 1000) : gL (up2 M c j v) c k = gL M c k := by
  unfold gL
  rw [up2_nk (Ne.symm h1), up2_nk (Ne.symm h2)]
theorem sL_nk {M : Mem} {c k j : Nat} {v : Int64} (h1 : j ≠ k) (h2 : j ≠ k + 1000) : sL M c k v c j = M c j := by
  unfold sL
  rw [up2_nk h2, up2_nk h1]
theorem sL_ne {M : Mem} {c k d : Nat} {v : Int64} (h : d ≠ c) : sL M c k v d = M d := by
  unfold sL
  rw [up2_ne h, up2_ne h]
def MB0 (bs : Nat → Int32) (z t : Nat) (B : Mem) : Prop := B 0 23 = nI (160 * t) ∧ B 0 24 = nI z ∧ (∀ j, j < z → B 1 (160 * t + j) = bs j) ∧ t < 6 ∧ z ≤ 160 ∧ ∀ i, i < z → 0 ≤ (bs i).toInt ∧ (bs i).toInt ≤ 255
/-- only tokens' slots change -/
def NFr (B B' : Mem) : Prop := (∀ c, c ≠ 0 → B' c = B c) ∧ ∀ k, k < 25 ∨ (28 < k ∧ k ≠ 1028) → B' 0 k = B 0 k
theorem NFr.rf {B : Mem} : NFr B B := ⟨fun _ _ => rfl, fun _ _ => rfl⟩
theorem NFr.tr {B B' B'' : Mem} (h : NFr B B') (h2 : NFr B' B'') : NFr B B'' := ⟨fun c a => (h2.1 c a).trans (h.1 c a), fun k a => (h2.2 k a).trans (h.2 k a)⟩
theorem NFr.up {B B' : Mem} (h : NFr B B') {k : Nat} {v : Int32} (hk : k = 25 ∨ k = 26 ∨ k = 27 ∨ k = 28 ∨ k = 1028) : NFr B (up2 B' 0 k v) := ⟨fun c a => by rw [up2_ne a]; exact h.1 c a, fun j hj => by rw [up2_nk (by omega)]; exact h.2 j hj⟩
theorem NFr.sl {B B' : Mem} (h : NFr B B') {v : Int64} : NFr B (sL B' 0 28 v) := (h.up (.inr (.inr (.inr (.inl rfl))))).up (.inr (.inr (.inr (.inr rfl))))
theorem MB0.n {bs : Nat → Int32} {z t : Nat} {B B' : Mem} (h : MB0 bs z t B) (f : NFr B B') : MB0 bs z t B' := ⟨by rw [f.2 23 (by decide)]; exact h.1, by rw [f.2 24 (by decide)]; exact h.2.1, fun j hj => by rw [f.1 1 (by decide)]; exact h.2.2.1 j hj, h.2.2.2⟩
section
variable {bs : Nat → Int32} {z t : Nat} {B : Mem}
theorem byte_B (h : MB0 bs z t B) {i : Nat} (hi : i < 2 ^ 30) : F9_byteAt B (nI i) = some (if i < z then bs i else -1, B) := by
  obtain ⟨h1, h2, h3, h4, h5, h6⟩ := h
  unfold F9_byteAt
  rw [h2]
  by_cases hz : i < z
  · rw [if_neg (nI_ge hz (by omega)), h1, nI_add, if_pos (inb_of (by omega) (by decide)), nI_clamp (by omega), h3 i hz, if_pos hz]
  · rw [if_pos (nI_le (by omega) (by omega)), if_neg hz]
theorem in_L (M : Mem) (c : Int32) : F9_in M (Int32.toInt64 c) 97 122 = some (if isL c = true then 1 else 0, M) := by
  rw [F9_in_eq, i64t, show (97 : Int64).toInt = 97 from rfl, show (122 : Int64).toInt = 122 from rfl]
  unfold isL
  simp only [decide_eq_true_iff]
theorem in_D (M : Mem) (c : Int32) : F9_in M (Int32.toInt64 c) 48 57 = some (if isD c = true then 1 else 0, M) := by
  rw [F9_in_eq, i64t, show (48 : Int64).toInt = 48 from rfl, show (57 : Int64).toInt = 57 from rfl]
  unfold isD
  simp only [decide_eq_true_iff]
theorem chain {α : Type} (b : Int32) (X Y : α) : (if b = 40 then X else if b = 41 then X else if b = 59 then X else if b = 43 then X else if b = 45 then X else if b = 42 then X else if b = 60 then X else if ¬ b = 61 then Y else X) = if isG b = true then X else Y := by
  unfold isG
  simp only [decide_eq_true_iff]
  by_cases h1 : b = 40
  · simp [h1]
  by_cases h2 : b = 41
  · simp [h2]
  by_cases h3 : b = 59
  · simp [h3]
  by_cases h4 : b = 43
  · simp [h4]
  by_cases h5 : b = 45
  · simp [h5]
  by_cases h6 : b = 42
  · simp [h6]
  by_cases h7 : b = 60
  · simp [h7]
  by_cases h8 : b = 61
  · simp [h8]
  simp [h1, h2, h3, h4, h5, h6, h7, h8]
/-- the reference stands at a token -/
def TB (bs : Nat → Int32) (z : Nat) (B : Mem) (s : Nat) : Prop := B 0 27 = nI s ∧ if s < z then (if isL (bs s) = true then B 0 26 = 1 ∧ B 0 25 = nI (eL bs z s) else if isD (bs s) = true then (if eD bs z s - s ≤ 4 then B 0 26 = 2 ∧ Int64.toInt32 (gL B 0 28) = nI (dv bs s (eD bs z s - s) s 0) ∧ B 0 25 = nI (eD bs z s) else B 0 26 = 4) else if isG (bs s) = true then B 0 26 = 3 ∧ gL B 0 28 = Int32.toInt64 (bs s) ∧ B 0 25 = nI (s + 1) else B 0 26 = 4) else B 0 26 = 0
theorem word_B : ∀ (r fu i : Nat) (B : Mem), MB0 bs z t B → i + r = z → r < fu → B 0 25 = nI i → ∃ B', F9_next_l100 fu B = some (0, B') ∧ NFr B B' ∧ B' 0 25 = nI (runE isL bs (z - i) i) ∧ B' 0 26 = B 0 26 ∧ B' 0 27 = B 0 27 := by
  intro r
  induction r with
  | zero =>
    intro fu i B h hi hf h25
    obtain ⟨fu, rfl⟩ : ∃ f, fu = f + 1 := ⟨fu - 1, by omega⟩
    have hz := h.2.2.2.2.1
    refine ⟨B, ?_, NFr.rf, by rw [h25, runE_z (by omega)], rfl, rfl⟩
    show F9_next_l100_b _ B = _
    unfold F9_next_l100_b
    rw [h25, byte_B h (by omega), Option.bind_some]
    dsimp only
    rw [if_neg (show ¬ i < z by omega), in_L, Option.bind_some, if_neg (show ¬ isL (-1) = true by decide), if_pos rfl]
  | succ r ih =>
    intro fu i B h hi hf h25
    obtain ⟨fu, rfl⟩ : ∃ f, fu = f + 1 := ⟨fu - 1, by omega⟩
    have hz := h.2.2.2.2.1
    show ∃ B', F9_next_l100_b (F9_next_l100 fu) B = some (0, B') ∧ _
    unfold F9_next_l100_b
    rw [h25, byte_B h (by omega), Option.bind_some]
    dsimp only
    rw [if_pos (show i < z by omega), in_L, Option.bind_some]
    cases hl : isL (bs i) with
    | false =>
      rw [if_neg Bool.false_ne_true, if_pos rfl]
      exact ⟨B, rfl, NFr.rf, by rw [h25, runE_n hl], rfl, rfl⟩
    | true =>
      have f1 : NFr B (up2 B 0 25 (nI (i + 1))) := NFr.rf.up (.inl rfl)
      obtain ⟨B', e, f, r1, r2, r3⟩ := ih fu (i + 1) (up2 B 0 25 (nI (i + 1))) (h.n f1) (by omega) (by omega) up2_at
      rw [if_pos rfl, if_neg n10]
      dsimp only
      rw [h25, nI_1]
      refine ⟨B', e, f1.tr f, by rw [r1, runE_y (by omega) hl], ?_, ?_⟩
      · rw [r2, up2_nk (by decide)]
      · rw [r3, up2_nk (by decide)]
theorem numb_B {s : Nat} : ∀ (r fu i acc : Nat) (B : Mem), MB0 bs z t B → i + r = z → r < fu → s ≤ i → B 0 25 = nI i → gL B 0 28 = lN acc → ∃ B', F9_next_l160 fu B (nI (i - s)) = some (0, B') ∧ NFr B B' ∧ B' 0 25 = nI (runE isD bs (z - i) i) ∧ B' 0 26 = (if runE isD bs (z - i) i - s ≤ 4 then 2 else 4) ∧ B' 0 27 = B 0 27 ∧ gL B' 0 28 = lN (dv bs s (runE isD bs (z - i) i - i) i acc) := by
  have fin : ∀ (i acc : Nat) (B : Mem), MB0 bs z t B → s ≤ i → i ≤ z → B 0 25 = nI i → gL B 0 28 = lN acc → ∃ B', (if nI (i - s) ≤ (4 : Int32) then some ((0 : Int32), (up2 B 0 26 (2 : Int32))) else some ((0 : Int32), (up2 B 0 26 (4 : Int32)))) = some (0, B') ∧ NFr B B' ∧ B' 0 25 = nI i ∧ B' 0 26 = (if i - s ≤ 4 then 2 else 4) ∧ B' 0 27 = B 0 27 ∧ gL B' 0 28 = lN acc := by
    intro i acc B h his hiz h25 hg
    have hz := h.2.2.2.2.1
    by_cases h4 : i - s ≤ 4
    · rw [if_pos (show nI (i - s) ≤ 4 from nI_le (b := 4) h4 (by decide)), if_pos h4]
      exact ⟨_, rfl, NFr.rf.up (.inr (.inl rfl)), by rw [up2_nk (by decide)]; exact h25, up2_at, up2_nk (by decide), by rw [gL_nk (by decide) (by decide)]; exact hg⟩
    · rw [if_neg (show ¬ nI (i - s) ≤ 4 from nI_ge (a := 4) (by omega) (by omega)), if_neg h4]
      exact ⟨_, rfl, NFr.rf.up (.inr (.inl rfl)), by rw [up2_nk (by decide)]; exact h25, up2_at, up2_nk (by decide), by rw [gL_nk (by decide) (by decide)]; exact hg⟩
  intro r
  induction r with
  | zero =>
    intro fu i acc B h hi hf his h25 hg
    obtain ⟨fu, rfl⟩ : ∃ f, fu = f + 1 := ⟨fu - 1, by omega⟩
    have hz := h.2.2.2.2.1
    show ∃ B', F9_next_l160_b (F9_next_l160 fu) B (nI (i - s)) = some (0, B') ∧ _
    unfold F9_next_l160_b
    rw [h25, byte_B h (by omega), Option.bind_some]
    dsimp only
    rw [if_neg (show ¬ i < z by omega), in_D, Option.bind_some, if_neg (show ¬ isD (-1) = true by decide), if_pos rfl, runE_z (by omega), show i - i = 0 by omega]
    exact fin i acc B h his (by omega) h25 hg
  | succ r ih =>
    intro fu i acc B h hi hf his h25 hg
    obtain ⟨fu, rfl⟩ : ∃ f, fu = f + 1 := ⟨fu - 1, by omega⟩
    have hz := h.2.2.2.2.1
    show ∃ B', F9_next_l160_b (F9_next_l160 fu) B (nI (i - s)) = some (0, B') ∧ _
    unfold F9_next_l160_b F9_next_j216
    rw [h25, byte_B h (by omega), Option.bind_some]
    dsimp only
    rw [if_pos (show i < z by omega), in_D, Option.bind_some]
    cases hd : isD (bs i) with
    | false =>
      rw [if_neg Bool.false_ne_true, if_pos rfl, runE_n hd, show i - i = 0 by omega]
      exact fin i acc B h his (by omega) h25 hg
    | true =>
      have hle := runE_le (p := isD) (bs := bs) (z - (i + 1)) (i + 1)
      have hd2 : 48 ≤ (bs i).toInt ∧ (bs i).toInt ≤ 57 := of_decide_eq_true hd
      rw [if_pos rfl, if_neg n10]
      dsimp only
      rw [h25, byte_B h (by omega), Option.bind_some]
      dsimp only
      rw [if_pos (show i < z by omega), h25, hg, nI_1, nI_1]
      have eb : (10 : Int64) * lN acc + Int32.toInt64 (bs i) - 48 = lN (acc * 10 + ((bs i).toInt.toNat - 48)) := by
        have h1 := nI_tN (x := bs i) (by omega)
        rw [← h1, nI_l (by omega), show (10 : Int64) = lN 10 from rfl, lN_mul, lN_add, show (48 : Int64) = lN 48 from rfl, lN_sub (by omega), nI_toInt (by omega)]
        congr 1
        omega
      rw [eb]
      obtain ⟨q, hq⟩ : ∃ q, runE isD bs (z - (i + 1)) (i + 1) - i = q + 1 := ⟨runE isD bs (z - (i + 1)) (i + 1) - i - 1, by omega⟩
      have go : ∀ w, w = (if i < s + 4 then acc * 10 + ((bs i).toInt.toNat - 48) else acc) → ∃ B', F9_next_l160 fu (up2 (sL B 0 28 (lN w)) 0 25 (nI (i + 1))) (nI (i - s + 1)) = some (0, B') ∧ NFr B B' ∧ B' 0 25 = nI (runE isD bs (z - i) i) ∧ B' 0 26 = (if runE isD bs (z - i) i - s ≤ 4 then 2 else 4) ∧ B' 0 27 = B 0 27 ∧ gL B' 0 28 = lN (dv bs s (runE isD bs (z - i) i - i) i acc) := by
        intro w hw
        have f1 : NFr B (up2 (sL B 0 28 (lN w)) 0 25 (nI (i + 1))) := NFr.rf.sl.up (.inl rfl)
        obtain ⟨B', e, f, r1, r2, r3, r4⟩ := ih fu (i + 1) w (up2 (sL B 0 28 (lN w)) 0 25 (nI (i + 1))) (h.n f1) (by omega) (by omega) (by omega) up2_at (by rw [gL_nk (by decide) (by decide), gL_sL])
        rw [show i + 1 - s = i - s + 1 by omega] at e
        refine ⟨B', e, f1.tr f, ?_, ?_, ?_, ?_⟩
        · rw [r1, runE_y (by omega) hd]
        · rw [r2, runE_y (by omega) hd]
        · rw [r3, up2_nk (by decide), sL_nk (by decide) (by decide)]
        · rw [r4, runE_y (by omega) hd, hq, show runE isD bs (z - (i + 1)) (i + 1) - (i + 1) = q by omega]
          show _ = lN (dv bs s q (i + 1) _)
          rw [hw]
      by_cases h4 : i < s + 4
      · rw [if_neg (show ¬ (4 : Int32) ≤ nI (i - s) from nI_ge (b := 4) (by omega) (by decide))]
        exact go _ (by rw [if_pos h4])
      · rw [if_pos (show (4 : Int32) ≤ nI (i - s) from nI_le (a := 4) (by omega) (by omega))]
        exact go _ (by rw [if_neg h4])
theorem next_B (h : MB0 bs z t B) {a : Nat} (ha : a ≤ z) (h25 : B 0 25 = nI a) : ∃ B', F9_next B = some (0, B') ∧ NFr B B' ∧ TB bs z B' (sk bs z a) := by
  have key : ∀ (r fu a : Nat) (B : Mem), MB0 bs z t B → a + r = z → r < fu → B 0 25 = nI a → ∃ B', F9_next_l0 fu B = some (0, B') ∧ NFr B B' ∧ TB bs z B' (sk bs z a) := by
    intro r
    induction r with
    | zero =>
      intro fu a B h hi hf h25
      obtain ⟨fu, rfl⟩ : ∃ f, fu = f + 1 := ⟨fu - 1, by omega⟩
      obtain rfl : a = z := by omega
      have hz := h.2.2.2.2.1
      have f1 : NFr B (up2 B 0 27 (nI a)) := NFr.rf.up (.inr (.inr (.inl rfl)))
      refine ⟨up2 (up2 (up2 (up2 B 0 27 (nI a)) 0 26 4) 0 26 0) 0 27 (nI a), ?_, ((f1.up (.inr (.inl rfl))).up (.inr (.inl rfl))).up (.inr (.inr (.inl rfl))), ?_⟩
      · show F9_next_l0_b _ B = _
        unfold F9_next_l0_b
        rw [h25, byte_B h (by omega), Option.bind_some]
        dsimp only
        rw [if_neg (Nat.lt_irrefl a), if_neg (by decide), h25, byte_B h (by omega), Option.bind_some]
        dsimp only
        rw [if_neg (Nat.lt_irrefl a), if_pos (by decide), h25, byte_B (h.n f1) (by omega), Option.bind_some]
        dsimp only
        rw [if_neg (Nat.lt_irrefl a), if_neg (by decide), up2_nk (by decide), h.2.1]
      · have es : sk bs a a = a := runE_z (Nat.le_refl _)
        rw [es]
        refine ⟨up2_at, ?_⟩
        rw [if_neg (Nat.lt_irrefl a), up2_nk (by decide), up2_at]
    | succ r ih =>
      intro fu a B h hi hf h25
      obtain ⟨fu, rfl⟩ : ∃ f, fu = f + 1 := ⟨fu - 1, by omega⟩
      have hz := h.2.2.2.2.1
      have haz : a < z := by omega
      show ∃ B', F9_next_l0_b (F9_next_l0 fu) B = some (0, B') ∧ _
      unfold F9_next_l0_b F9_next_j26
      rw [h25, byte_B h (by omega), Option.bind_some]
      dsimp only
      rw [if_pos haz, h25, byte_B h (by omega), Option.bind_some]
      dsimp only
      rw [if_pos haz, h25, nI_1]
      have blank : isB (bs a) = true → ∃ B', F9_next_l0 fu (up2 B 0 25 (nI (a + 1))) = some (0, B') ∧ NFr B B' ∧ TB bs z B' (sk bs z a) := by
        intro hb
        have f1 : NFr B (up2 B 0 25 (nI (a + 1))) := NFr.rf.up (.inl rfl)
        obtain ⟨B', e, f, tb⟩ := ih fu (a + 1) (up2 B 0 25 (nI (a + 1))) (h.n f1) (by omega) (by omega) up2_at
        have es : sk bs z a = sk bs z (a + 1) := runE_y haz hb
        rw [es]
        exact ⟨B', e, f1.tr f, tb⟩
      by_cases c1 : bs a = 32
      · rw [if_pos c1]
        exact blank (decide_eq_true (.inl c1))
      · rw [if_neg c1]
        by_cases c2 : bs a = 10
        · rw [if_neg (fun q => q c2)]
          exact blank (decide_eq_true (.inr c2))
        · have hnb : isB (bs a) = false := decide_eq_false (fun q => q.elim c1 c2)
          have es : sk bs z a = a := runE_n hnb
          have hby := h.2.2.2.2.2 a haz
          have f1 : NFr B (up2 B 0 27 (nI a)) := NFr.rf.up (.inr (.inr (.inl rfl)))
          have f2 : NFr B (up2 (up2 B 0 27 (nI a)) 0 26 4) := f1.up (.inr (.inl rfl))
          rw [es, if_pos c2, byte_B (h.n f1) (by omega), Option.bind_some]
          dsimp only
          rw [if_pos haz, if_pos (show 0 ≤ bs a by rw [ile]; exact hby.1), in_L, Option.bind_some]
          dsimp only
          cases hl : isL (bs a) with
          | true =>
            rw [if_pos rfl, if_neg n10]
            have f3 : NFr B (up2 (up2 (up2 B 0 27 (nI a)) 0 26 4) 0 26 1) := f2.up (.inr (.inl rfl))
            obtain ⟨B', e, f, r1, r2, r3⟩ := word_B (z - a) FUEL a (up2 (up2 (up2 B 0 27 (nI a)) 0 26 4) 0 26 1) (h.n f3) (by omega) (by unfold FUEL; omega) (by rw [up2_nk (by decide), up2_nk (by decide), up2_nk (by decide)]; exact h25)
            refine ⟨B', e, f3.tr f, by rw [r3, up2_nk (by decide), up2_nk (by decide), up2_at], ?_⟩
            rw [if_pos haz, if_pos hl]
            exact ⟨by rw [r2, up2_at], r1⟩
          | false =>
            rw [if_neg Bool.false_ne_true, if_pos rfl, in_D, Option.bind_some]
            dsimp only
            cases hd : isD (bs a) with
            | true =>
              rw [if_pos rfl, if_neg n10]
              have f3 : NFr B (sL (up2 (up2 (up2 B 0 27 (nI a)) 0 26 4) 0 26 2) 0 28 0) := (f2.up (.inr (.inl rfl))).sl
              obtain ⟨B', e, f, r1, r2, r3, r4⟩ := numb_B (s := a) (z - a) FUEL a 0 (sL (up2 (up2 (up2 B 0 27 (nI a)) 0 26 4) 0 26 2) 0 28 0) (h.n f3) (by omega) (by unfold FUEL; omega) (Nat.le_refl _) (by rw [sL_nk (by decide) (by decide), up2_nk (by decide), up2_nk (by decide), up2_nk (by decide)]; exact h25) gL_sL
              rw [show a - a = 0 by omega] at e
              refine ⟨B', e, f3.tr f, by rw [r3, sL_nk (by decide) (by decide), up2_nk (by decide), up2_nk (by decide), up2_at], ?_⟩
              rw [if_pos haz, if_neg (by rw [hl]; exact Bool.false_ne_true), if_pos hd]
              have r2' : B' 0 26 = if eD bs z a - a ≤ 4 then 2 else 4 := r2
              by_cases h4 : eD bs z a - a ≤ 4
              · rw [if_pos h4] at r2' ⊢
                refine ⟨r2', ?_, r1⟩
                rw [r4, lN_i]
                rfl
              · rw [if_neg h4] at r2' ⊢
                exact r2'
            | false =>
              rw [if_neg Bool.false_ne_true, if_pos rfl, chain]
              unfold F9_next_j300
              by_cases hg : isG (bs a) = true
              · rw [if_pos hg]
                refine ⟨_, rfl, ((f2.up (.inr (.inl rfl))).sl).up (.inl rfl), ?_, ?_⟩
                · rw [up2_nk (by decide), sL_nk (by decide) (by decide), up2_nk (by decide), up2_nk (by decide), up2_at]
                · rw [if_pos haz, if_neg (by rw [hl]; exact Bool.false_ne_true), if_neg (by rw [hd]; exact Bool.false_ne_true), if_pos hg]
                  refine ⟨?_, ?_, ?_⟩
                  · rw [up2_nk (by decide), sL_nk (by decide) (by decide), up2_at]
                  · rw [gL_nk (by decide) (by decide), gL_sL]
                  · rw [up2_at, up2_nk (by decide), up2_nk (by decide), h25, nI_1]
              · rw [if_neg hg]
                refine ⟨_, rfl, f2, by rw [up2_nk (by decide), up2_at], ?_⟩
                rw [if_pos haz, if_neg (by rw [hl]; exact Bool.false_ne_true), if_neg (by rw [hd]; exact Bool.false_ne_true), if_neg hg, up2_at]
  exact key (z - a) FUEL a B h (by omega) (by have := h.2.2.2.2.1; unfold FUEL; omega) h25
end
