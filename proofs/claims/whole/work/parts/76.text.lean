/-! TEXTS: one more -/
theorem copy_l {A B : Mem} {z m : Nat} (hz : z ≤ 160) (hm : m < 6) (h6 : B 0 6 = nI z) (h3 : B 0 3 = nI m) : ∀ (k fu i : Nat) (M : Mem), i + k = z → k < fu → (∀ c, c ≠ 1 → M c = B c) → (∀ q, q < 160 * m ∨ 160 * m + 160 ≤ q → M 1 q = B 1 q) → (∀ j, j < i → M 1 (160 * m + j) = B 3 j) → ∃ M', F9_text_l14 fu M (nI i) = F9_text_l14_b (F9_text_l14 0) M' (nI z) ∧ (∀ c, c ≠ 1 → M' c = B c) ∧ (∀ q, q < 160 * m ∨ 160 * m + 160 ≤ q → M' 1 q = B 1 q) ∧ ∀ j, j < z → M' 1 (160 * m + j) = B 3 j := by
  intro k
  induction k with
  | zero =>
    intro fu i M hi hf hM h1 hj
    obtain ⟨fu, rfl⟩ : ∃ f, fu = f + 1 := ⟨fu - 1, by omega⟩
    obtain rfl : i = z := by omega
    refine ⟨M, ?_, hM, h1, hj⟩
    show F9_text_l14_b _ M (nI i) = _
    unfold F9_text_l14_b
    have e6 : M 0 6 = nI i := by rw [hM 0 (by decide)]; exact h6
    rw [if_pos (show M 0 6 ≤ nI i by rw [e6]; exact nI_le (Nat.le_refl _) (by omega)), if_pos (show M 0 6 ≤ nI i by rw [e6]; exact nI_le (Nat.le_refl _) (by omega))]
  | succ k ih =>
    intro fu i M hi hf hM h1 hj
    obtain ⟨fu, rfl⟩ : ∃ f, fu = f + 1 := ⟨fu - 1, by omega⟩
    have e6 : M 0 6 = nI z := by rw [hM 0 (by decide)]; exact h6
    have e3 : M 0 3 = nI m := by rw [hM 0 (by decide)]; exact h3
    obtain ⟨M', e, r⟩ := ih fu (i + 1) (up2 M 1 (160 * m + i) (B 3 i)) (by omega) (by omega) (fun c hc => by rw [up2_ne hc]; exact hM c hc) (fun q hq => by rw [up2_nk (by omega)]; exact h1 q hq) (fun j hj2 => by
      by_cases e : j = i
      · subst e; exact up2_at
      · rw [up2_nk (by omega)]; exact hj j (by omega))
    refine ⟨M', ?_, r⟩
    show F9_text_l14_b (F9_text_l14 fu) M (nI i) = _
    have ex : (160 : Int32) * nI m + nI i = nI (160 * m + i) := by rw [show (160 : Int32) = nI 160 from rfl, pk_mul, nI_add]
    have hb : F9_text_l14_b (F9_text_l14 fu) M (nI i) = F9_text_l14 fu (up2 M 1 (160 * m + i) (B 3 i)) (nI (i + 1)) := by
      unfold F9_text_l14_b
      rw [if_neg (show ¬ M 0 6 ≤ nI i by rw [e6]; exact nI_ge (by omega) (by omega)), if_pos (inb_of (by omega) (by decide)), e3, ex, if_pos (inb_of (by omega) (by decide)), nI_clamp (by omega), nI_clamp (by omega), hM 3 (by decide), nI_1]
    rw [hb]
    exact e
theorem TX.cong {A A' B B' : Mem} {t : Nat} (h : TX A B t) (h18 : A' (18 + t) = A (18 + t)) (h25 : A' (25 + t) = A (25 + t)) (b1 : ∀ j, j < 160 → B' 1 (160 * t + j) = B 1 (160 * t + j)) (b2 : B' 2 t = B 2 t) : TX A' B' t := by
  obtain ⟨s, s0, s01, s12, s23, s3, hs, hB⟩ := h
  refine ⟨s, s0, s01, s12, s23, s3, fun p hp => by rw [h25]; exact hs p hp, fun B2 h1 h2 w hw => ?_⟩
  rw [h18]
  exact hB B2 (fun j hj => by rw [h1 j hj, b1 j hj]) (by rw [h2, b2]) w hw
theorem cpy160 {f g : Nat → Int32} {j : Nat} (h : j < 160) : va_cpy f g 0 0 160 j = f j := by
  rw [pk_cpy_in (Nat.zero_le _) (by omega), Nat.zero_add, Nat.sub_zero]
theorem cpy4 {f g : Nat → Int32} {j : Nat} (h : j < 4) : va_cpy f g 0 0 4 j = f j := by
  rw [pk_cpy_in (Nat.zero_le _) (by omega), Nat.zero_add, Nat.sub_zero]
/-- out of a text that was read: what it tells, ever -/
theorem TX.of {A A1 A' B : Mem} {z t : Nat} (hz : z ≤ 160) (hby : ∀ i, i < z → 0 ≤ (A 10 i).toInt ∧ (A 10 i).toInt ≤ 255) (hs : A 9 1 = nI z) (hr : F3_read A = some (0, A1)) (hok : A1 9 8 = -1) (ht : t < 6) (hB1 : ∀ j, j < z → B 1 (160 * t + j) = A 10 j) (hB2 : B 2 t = nI z) (h14 : ∀ j, j < 160 → A' (18 + t) j = A1 14 j) (h15 : ∀ j, j < 4 → A' (25 + t) j = A1 15 j) : TX A' B t := by
  have run : ∀ B2 : Mem, (∀ j, j < 160 → B2 1 (160 * t + j) = B 1 (160 * t + j)) → B2 2 t = B 2 t → ∀ w, w < 3 → ∃ B3 v, F9_read B2 (nI t) (nI w) = some (v, B3) ∧ RFr B2 B3 ∧ B3 0 30 = 0 ∧ RD (nmB B2) A1 w v := by
    intro B2 h1 h2 w hw
    obtain ⟨A2, B3, v, e1, e2, -, -, e5, e6⟩ := read_sim (bs := A 10) (t := t) (B := B2) (w := w) hz hby hs rfl ht (fun j hj => by rw [h1 j (by omega), hB1 j hj]) (by rw [h2, hB2]) hw
    rw [hr] at e1
    cases e1
    rcases e6 with ⟨c1, c2, c3⟩ | ⟨f, c1, c2, -⟩
    · exact ⟨B3, v, e2, e5, c2, c3⟩
    · rw [hok] at c2
      exact absurd c2.symm (nI_m1 (by omega))
  obtain ⟨-, -, -, -, -, s1, s2, s3, l1, l2, l3, q0, q1, q2, q3, -⟩ := run B (fun _ _ => rfl) rfl 0 (by decide)
  refine ⟨fun p => if p = 0 then 0 else if p = 1 then s1 else if p = 2 then s2 else s3, rfl, Nat.zero_le _, l1, l2, l3, fun p hp => ?_, fun B2 h1 h2 w hw => ?_⟩
  · rw [h15 p hp]
    rcases (show p = 0 ∨ p = 1 ∨ p = 2 ∨ p = 3 by omega) with rfl | rfl | rfl | rfl
    · exact q0
    · exact q1
    · exact q2
    · exact q3
  · obtain ⟨B3, v, e1, e2, e3, s1', s2', s3', l1', l2', l3', q0', q1', q2', q3', v0, v1, v2, x0, x1, x2, hv⟩ := run B2 h1 h2 w hw
    obtain rfl : s1' = s1 := nI_inj (by omega) (by omega) (q1'.symm.trans q1)
    obtain rfl : s2' = s2 := nI_inj (by omega) (by omega) (q2'.symm.trans q2)
    obtain rfl : s3' = s3 := nI_inj (by omega) (by omega) (q3'.symm.trans q3)
    refine ⟨B3, v, e1, e2, e3, ?_⟩
    have cg : ∀ k a, a + k ≤ 160 → exe (nmB B2) (A' (18 + t)) k a [] = exe (nmB B2) (A1 14) k a [] := fun k a hka => exe_cong _ _ _ (fun j h1 h2 => h14 j (by omega))
    rcases (show w = 0 ∨ w = 1 ∨ w = 2 by omega) with rfl | rfl | rfl
    · rw [hv]
      show exe (nmB B2) (A' (18 + t)) (s1' - 0) 0 [] = _
      rw [Nat.sub_zero, cg _ _ (by omega)]
      exact x0
    · rw [hv]
      show exe (nmB B2) (A' (18 + t)) (s2' - s1') s1' [] = _
      rw [cg _ _ (by omega)]
      exact x1
    · rw [hv]
      show exe (nmB B2) (A' (18 + t)) (s3' - s2') s2' [] = _
      rw [cg _ _ (by omega)]
      exact x2
theorem add_A {M : Mem} {m : Nat} (hm : m < 6) (h5 : M 16 5 = nI m) : ∃ A', F4_add M = some (nI m, A') ∧ A' 16 5 = nI (m + 1) ∧ (∀ k, k ≠ 5 → A' 16 k = M 16 k) ∧ (∀ j, j < 160 → A' (18 + m) j = M 14 j) ∧ (∀ j, j < 4 → A' (25 + m) j = M 15 j) ∧ FA [16, 18 + m, 25 + m] M A' := by
  have e1 : upA M (18 + m) (va_cpy (M 14) (M (18 + m)) 0 0 160) 16 5 = nI m := by rw [upA_ne (by omega)]; exact h5
  refine ⟨up2 (upA (upA M (18 + m) (va_cpy (M 14) (M (18 + m)) 0 0 160)) (25 + m) (va_cpy (upA M (18 + m) (va_cpy (M 14) (M (18 + m)) 0 0 160) 15) (upA M (18 + m) (va_cpy (M 14) (M (18 + m)) 0 0 160) (25 + m)) 0 0 4)) 16 5 (nI (m + 1)), ?_, up2_at, fun k hk => ?_, fun j hj => ?_, fun j hj => ?_, fun c hc => ?_⟩
  · unfold F4_add
    have e2 : ∀ f, upA (upA M (18 + m) (va_cpy (M 14) (M (18 + m)) 0 0 160)) (25 + m) f 16 5 = nI m := fun f => by rw [upA_ne (by omega), upA_ne (by omega)]; exact h5
    simp only [h5, nI_clamp (show m < 2 ^ 31 by omega), e1, e2, nI_1, show nI (m + 1) - 1 = nI m from nI_pred m]
    rw [if_pos (show nI m < 6 from nI_lt (b := 6) hm (by decide)), if_pos (inb_of hm (by decide)), if_pos (inb_of hm (by decide))]
  · rw [up2_nk hk, upA_ne (by omega), upA_ne (by omega)]
  · rw [up2_ne (by omega), upA_ne (by omega), upA_at, cpy160 hj]
  · rw [up2_ne (by omega), upA_at, cpy4 hj, upA_ne (by omega)]
  · simp only [List.mem_cons, List.not_mem_nil, or_false, not_or] at hc
    rw [up2_ne hc.1, upA_ne hc.2.2, upA_ne hc.2.1]
theorem text_R {z m r : Nat} {A B : Mem} (hP : RP z A B) (hT : RT m r A B) : ∃ v A' B' z' m', F8_text A = some (v, A') ∧ F9_text B = some (v, B') ∧ RP z' A' B' ∧ RT m' r A' B' ∧ m ≤ m' ∧ (∀ c, (c < 9 ∨ 30 < c) → A' c = A c) ∧ (∀ c, c ≠ 0 → c ≠ 1 → c ≠ 2 → B' c = B c) ∧ ∀ k, (6 < k ∧ k < 17) ∨ (31 < k ∧ k < 1000) → B' 0 k = B 0 k := by
  have hP0 := hP
  have hT0 := hT
  obtain ⟨hz, pA, pB, hi⟩ := hP
  obtain ⟨m6, rm, a5, b3, a6, b4, hX⟩ := hT
  by_cases hm : m = 6
  · subst hm
    refine ⟨-4, A, B, z, 6, ?_, ?_, hP0, hT0, Nat.le_refl _, fun _ _ => rfl, fun _ _ _ _ => rfl, fun _ _ => rfl⟩
    · unfold F8_text
      rw [a5, if_neg (by decide)]
    · unfold F9_text
      rw [b3, if_neg (by decide)]
  have hm6 : m < 6 := by omega
  obtain ⟨B1, c1, c2, c3, c4⟩ := copy_l (A := A) hz hm6 pB b3 z FUEL 0 B (by omega) (by unfold FUEL; omega) (fun _ _ => rfl) (fun _ _ => rfl) (fun j hj => absurd hj (by omega))
  have hby : ∀ i, i < z → 0 ≤ (A 10 i).toInt ∧ (A 10 i).toInt ≤ 255 := fun i h => (hi i h).2
  have k0 : ∀ k, k ≠ 6 → up2 (up2 B1 2 m (nI z)) 0 6 0 0 k = B 0 k := fun k hk => by rw [up2_nk hk, up2_ne (by decide), c2 0 (by decide)]
  have kc : ∀ c, c ≠ 0 → c ≠ 1 → c ≠ 2 → up2 (up2 B1 2 m (nI z)) 0 6 0 c = B c := fun c h0 h1 h2 => by rw [up2_ne h0, up2_ne h2, c2 c h1]
  have k1 : up2 (up2 B1 2 m (nI z)) 0 6 0 1 = B1 1 := by rw [up2_ne (by decide), up2_ne (by decide)]
  have k2 : ∀ t, t ≠ m → up2 (up2 B1 2 m (nI z)) 0 6 0 2 t = B 2 t := fun t ht => by rw [up2_ne (by decide), up2_nk ht, c2 2 (by decide)]
  have k2m : up2 (up2 B1 2 m (nI z)) 0 6 0 2 m = nI z := by rw [up2_ne (by decide), up2_at]
  generalize hB2 : up2 (up2 B1 2 m (nI z)) 0 6 0 = B2 at k0 kc k1 k2 k2m
  have hB1 : ∀ j, j < z → B2 1 (160 * m + j) = A 10 j := fun j hj => by rw [k1, c4 j hj, (hi j hj).1]
  obtain ⟨A1, B3, v, e1, e2, e3, e4, e5, e6⟩ := read_sim (bs := A 10) (t := m) (B := B2) (w := 0) hz hby pA rfl hm6 hB1 k2m (by decide)
  have b306 : B2 0 6 = 0 := by rw [← hB2, up2_at]
  have q16 : A1 16 = A 16 := e3 16 (by decide)
  have eB : F9_text B = if (B3 0 30) = 0 then some (nI m, up2 B3 0 3 (nI (m + 1))) else some ((-100 : Int32) - (B3 0 31), B3) := by
    unfold F9_text
    rw [if_pos (show ¬ B 0 3 = 6 by rw [b3]; exact fun q => hm (nI_inj (by omega) (by decide) (q.trans (show (6 : Int32) = nI 6 from rfl)))), show (0 : Int32) = nI 0 from rfl, c1]
    unfold F9_text_l14_b
    have b36 : B1 0 6 = nI z := by rw [c2 0 (by decide)]; exact pB
    have b33 : B1 0 3 = nI m := by rw [c2 0 (by decide)]; exact b3
    rw [if_pos (show B1 0 6 ≤ nI z by rw [b36]; exact nI_le (Nat.le_refl _) (by omega)), if_pos (show inb (B1 0 3) 6 = true by rw [b33]; exact inb_of hm6 (by decide)), b33, b36, nI_clamp (by omega)]
    have e2' : F9_read (up2 (up2 B1 2 m (nI z)) 0 6 (0 : Int32)) (nI m) (0 : Int32) = some (v, B3) := by
      rw [hB2]
      exact e2
    rw [e2', Option.bind_some]
    dsimp only
    rw [e5.2 3 (by decide), k0 3 (by decide), b3, nI_1, show nI (m + 1) - 1 = nI m from nI_pred m]
    rfl
  have eA : F8_text A = if ¬ (A1 9 8) = (-1 : Int32) then some ((-100 : Int32) - (A1 9 8), up2 A1 9 1 0) else Option.bind (F4_add A1) fun r5 => some (r5.1, up2 r5.2 9 1 0) := by
    unfold F8_text F8_text_j57 F3_clear
    rw [a5, if_pos (show nI m < 6 from nI_lt (b := 6) hm6 (by decide)), e1, Option.bind_some]
    rfl
  rw [eA, eB]
  rcases e6 with ⟨g1, g2, g3⟩ | ⟨f, g1, g2, g3, g4⟩
  · obtain ⟨A2, s1, s2, s3, s4, s5, s6⟩ := add_A (M := A1) hm6 (by rw [q16]; exact a5)
    rw [if_neg (show ¬ ¬ A1 9 8 = -1 from fun q => q g1), s1, Option.bind_some, if_pos g2]
    have o2 : ∀ c, c ≠ 9 → c ≠ 16 → c ≠ 18 + m → c ≠ 25 + m → up2 A2 9 1 0 c = A1 c := fun c h9 h16 h18 h25 => by rw [up2_ne h9, s6 c (by simp; omega)]
    have hTm : TX (up2 A2 9 1 0) (up2 B3 0 3 (nI (m + 1))) m := TX.of hz hby pA e1 g1 hm6 (fun j hj => by rw [up2_ne (by decide), e5.1 1 (by decide)]; exact hB1 j hj) (by rw [up2_ne (by decide), e5.1 2 (by decide)]; exact k2m) (fun j hj => by rw [up2_ne (by omega)]; exact s4 j hj) (fun j hj => by rw [up2_ne (by omega)]; exact s5 j hj)
    refine ⟨nI m, up2 A2 9 1 0, up2 B3 0 3 (nI (m + 1)), 0, m + 1, rfl, rfl, ⟨by omega, up2_at, ?_, fun i hi => absurd hi (by omega)⟩, ⟨by omega, by omega, ?_, up2_at, ?_, ?_, fun t ht => ?_⟩, by omega, fun c hc => ?_, fun c h0 h1 h2 => ?_, fun k hk => ?_⟩
    · rw [up2_nk (by decide), e5.2 6 (by decide), b306]; rfl
    · rw [up2_ne (by decide)]; exact s2
    · rw [up2_ne (by decide), s3 6 (by decide), q16]; exact a6
    · rw [up2_nk (by decide), e5.2 4 (by decide), k0 4 (by decide)]; exact b4
    · by_cases e : t = m
      · subst e; exact hTm
      · refine (hX t (by omega)).cong ?_ ?_ (fun j hj => ?_) ?_
        · rw [o2 _ (by omega) (by omega) (by omega) (by omega), e3 _ (by simp; omega)]
        · rw [o2 _ (by omega) (by omega) (by omega) (by omega), e3 _ (by simp; omega)]
        · rw [up2_ne (by decide), e5.1 1 (by decide), k1, c3 _ (by omega)]
        · rw [up2_ne (by decide), e5.1 2 (by decide), k2 t e]
    · rw [o2 c (by omega) (by omega) (by omega) (by omega), e3 c (by simp; omega)]
    · rw [up2_ne h0, e5.1 c h0, kc c h0 h1 h2]
    · rw [up2_nk (by omega), e5.2 k (by omega), k0 k (by omega)]
  · rw [g2, if_pos (show ¬ nI f = -1 from nI_m1 (by omega)), if_neg (by rw [g3]; decide), g4]
    refine ⟨-100 - nI f, up2 A1 9 1 0, B3, 0, m, rfl, rfl, ⟨by omega, up2_at, ?_, fun i hi => absurd hi (by omega)⟩, ⟨m6, rm, ?_, ?_, ?_, ?_, fun t ht => ?_⟩, Nat.le_refl _, fun c hc => ?_, fun c h0 h1 h2 => ?_, fun k hk => ?_⟩
    · rw [e5.2 6 (by decide), b306]; rfl
    · rw [up2_ne (by decide), q16]; exact a5
    · rw [e5.2 3 (by decide), k0 3 (by decide)]; exact b3
    · rw [up2_ne (by decide), q16]; exact a6
    · rw [e5.2 4 (by decide), k0 4 (by decide)]; exact b4
    · refine (hX t ht).cong ?_ ?_ (fun j hj => ?_) ?_
      · rw [up2_ne (by omega), e3 _ (by simp; omega)]
      · rw [up2_ne (by omega), e3 _ (by simp; omega)]
      · rw [e5.1 1 (by decide), k1, c3 _ (by omega)]
      · rw [e5.1 2 (by decide), k2 t (by omega)]
    · rw [up2_ne (by omega), e3 c (by simp; omega)]
    · rw [e5.1 c h0, kc c h0 h1 h2]
    · rw [e5.2 k (by omega), k0 k (by omega)]
