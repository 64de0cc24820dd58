section
variable {bs : Nat → Int32} {z t : Nat}
/-- what the class' steps of a text tell -/
def RD (nm : Int32 → Int32) (A : Mem) (w : Nat) (v : Int32) : Prop := ∃ s1 s2 s3, s1 ≤ s2 ∧ s2 ≤ s3 ∧ s3 ≤ 160 ∧ A 15 0 = nI 0 ∧ A 15 1 = nI s1 ∧ A 15 2 = nI s2 ∧ A 15 3 = nI s3 ∧ ∃ v0 v1 v2, exe nm (A 14) s1 0 [] = some [v0] ∧ exe nm (A 14) (s2 - s1) s1 [] = some [v1] ∧ exe nm (A 14) (s3 - s2) s2 [] = some [v2] ∧ v = if w = 0 then v0 else if w = 1 then v1 else v2
theorem j145_eq (M : Mem) (w : Nat) (hw : w < 3) (a b c : Int32) : F9_read_j145 M (nI w) a b c = some (if w = 0 then a else if w = 1 then b else c, M) := by
  unfold F9_read_j145
  rcases (show w = 0 ∨ w = 1 ∨ w = 2 by omega) with rfl | rfl | rfl
  · rw [if_neg (by decide), if_pos rfl]
  · rw [if_pos (by decide), if_neg (by decide), if_neg (by decide), if_pos rfl]
  · rw [if_pos (by decide), if_pos (by decide), if_neg (by decide), if_neg (by decide)]
theorem j125_bad {M : Mem} (h : ¬ M 0 30 = 0) (w : Nat) (hw : w < 3) (a b c : Int32) : F9_read_j125 M (nI w) a b c = some (if w = 0 then a else if w = 1 then b else c, M) := by
  unfold F9_read_j125
  rw [if_pos h, j145_eq M w hw]
theorem j91_bad {M : Mem} (h : ¬ M 0 30 = 0) (w : Nat) (hw : w < 3) (a b : Int32) : F9_read_j91 M (nI w) a b = some (if w = 0 then a else if w = 1 then b else 0, M) := by
  unfold F9_read_j91
  rw [if_neg h, j125_bad h w hw]
theorem end_tok {s : Nat} {B : Mem} (h : OKB bs z t B s) : B 0 26 = 0 ↔ kd bs z s = -1 := by
  obtain ⟨h0, ⟨h27, htb⟩, h30, hsz⟩ := h
  have neg : ∀ x y : Int32, ¬ x = 0 → ¬ y = -1 → B 0 26 = x → kd bs z s = y → (B 0 26 = 0 ↔ kd bs z s = -1) := fun x y h1 h2 h3 h4 => by
    rw [h3, h4]
    exact ⟨fun q => absurd q h1, fun q => absurd q h2⟩
  rcases kd_cases bs z s with ⟨c1, c2⟩ | ⟨c1, c2, c3⟩ | ⟨c1, c2, c3, c4⟩ | ⟨c1, c2, c3, c4, c5⟩ | ⟨c1, c2, c3, c4, c5⟩
  · rw [if_neg (show ¬ s < z by omega)] at htb
    exact ⟨fun _ => c2, fun _ => htb⟩
  · rw [if_pos c1, if_pos c2] at htb
    refine neg 1 _ (by decide) ?_ htb.1 c3
    rcases wi_val (bs := bs) (s := s) (e := eL bs z s) with w | ⟨j, hj, w⟩
    · rw [w]; decide
    · rw [w]; exact (wk_ok j hj).2.2.2.2.2.1
  · rw [if_pos c1, if_neg (by rw [c2]; exact Bool.false_ne_true), if_pos c3] at htb
    by_cases h4 : eD bs z s - s ≤ 4
    · rw [if_pos h4] at htb c4
      exact neg 2 (-3) (by decide) (by decide) htb.1 c4
    · rw [if_neg h4] at htb c4
      exact neg 4 (-2) (by decide) (by decide) htb c4
  · rw [if_pos c1, if_neg (by rw [c2]; exact Bool.false_ne_true), if_neg (by rw [c3]; exact Bool.false_ne_true), if_pos c4] at htb
    refine neg 3 _ (by decide) ?_ htb.1 c5
    intro e
    have := sg_pos c4
    rw [e] at this
    exact absurd this (by decide)
  · rw [if_pos c1, if_neg (by rw [c2]; exact Bool.false_ne_true), if_neg (by rw [c3]; exact Bool.false_ne_true), if_neg (by rw [c4]; exact Bool.false_ne_true)] at htb
    exact neg 4 (-2) (by decide) (by decide) htb c5
def RFr (B B' : Mem) : Prop := (∀ c, c ≠ 0 → B' c = B c) ∧ ∀ k, k < 23 ∨ (31 < k ∧ k < 1000) → B' 0 k = B 0 k
theorem MFr.r {B B1 B2 : Mem} (h : RFr B B1) (h2 : MFr B1 B2) : RFr B B2 := ⟨fun c a => (h2.1 c a).trans (h.1 c a), fun k a => (h2.2 k (by omega)).trans (h.2 k a)⟩
theorem RFr.nm {B B' : Mem} (h : RFr B B') : nmB B' = nmB B := by
  funext c
  unfold nmB
  exact h.2 _ (by omega)
theorem read_sim {A B : Mem} {w : Nat} (hz : z ≤ 160) (hby : ∀ i, i < z → 0 ≤ (bs i).toInt ∧ (bs i).toInt ≤ 255) (hs : A 9 1 = nI z) (hb : A 10 = bs) (ht : t < 6) (hB1 : ∀ j, j < z → B 1 (160 * t + j) = bs j) (hB2 : B 2 t = nI z) (hw : w < 3) : ∃ A' B' v, F3_read A = some (0, A') ∧ F9_read B (nI t) (nI w) = some (v, B') ∧ FA [9, 11, 12, 13, 14, 15] A A' ∧ A' 9 1 = A 9 1 ∧ RFr B B' ∧ ((A' 9 8 = -1 ∧ B' 0 30 = 0 ∧ RD (nmB B) A' w v) ∨ ∃ f, f ≤ 160 ∧ A' 9 8 = nI f ∧ B' 0 30 = 1 ∧ B' 0 31 = nI f) := by
  obtain ⟨m, A1, sc, lx, f1, k1⟩ := scan_eq hz hby hs hb
  -- the class' start
  have fx : CFr A1 (up2 (up2 (up2 (up2 A1 9 6 0) 9 7 (A1 11 0)) 9 8 (-1)) 9 10 0) := (((CFr.up9 (.inl rfl)).tr (CFr.up9 (.inr (.inl rfl)))).tr (CFr.up9 (.inr (.inr (.inl rfl))))).tr (CFr.up9 (.inr (.inr (.inr rfl))))
  generalize hA2 : up2 (up2 (up2 (up2 A1 9 6 0) 9 7 (A1 11 0)) 9 8 (-1)) 9 10 0 = A2 at fx
  have cs : CS bs z m A2 0 0 := by
    refine ⟨lx.c fx, lx.2.2.2.1, ?_, ?_, ?_, ?_, Nat.le_refl _⟩
    · rw [← hA2, up2_nk (by decide), up2_nk (by decide), up2_nk (by decide), up2_at]; rfl
    · rw [← hA2, up2_nk (by decide), up2_nk (by decide), up2_at]; exact (lx.2.2.2.2.2.1 0 lx.2.2.2.1).1
    · rw [← hA2, up2_nk (by decide), up2_at]
    · rw [← hA2, up2_at]; rfl
  have gA2 : FA [9, 11, 12, 13, 14, 15] A A2 ∧ A2 9 1 = A 9 1 := ⟨fun c hc => by
    simp only [List.mem_cons, List.not_mem_nil, or_false, not_or] at hc
    rw [fx.1 c (by omega) (by omega)]
    exact f1 c (by simp; omega), by rw [fx.2 1 (by decide) (by decide) (by decide) (by decide), k1 1 (by decide)]⟩
  -- the reference's start
  have fb : RFr B (up2 (up2 (up2 (up2 (up2 B 0 23 ((160 : Int32) * nI t)) 0 24 (nI z)) 0 25 0) 0 29 0) 0 30 0) := ⟨fun c c0 => by rw [up2_ne c0, up2_ne c0, up2_ne c0, up2_ne c0, up2_ne c0], fun k hk => by rw [up2_nk (by omega), up2_nk (by omega), up2_nk (by omega), up2_nk (by omega), up2_nk (by omega)]⟩
  generalize hB0 : up2 (up2 (up2 (up2 (up2 B 0 23 ((160 : Int32) * nI t)) 0 24 (nI z)) 0 25 0) 0 29 0) 0 30 0 = B0 at fb
  have mb : MB0 bs z t B0 := by
    refine ⟨?_, ?_, fun j hj => by rw [fb.1 1 (by decide)]; exact hB1 j hj, ht, hz, hby⟩
    · rw [← hB0, up2_nk (by decide), up2_nk (by decide), up2_nk (by decide), up2_nk (by decide), up2_at, show (160 : Int32) = nI 160 from rfl, pk_mul]
    · rw [← hB0, up2_nk (by decide), up2_nk (by decide), up2_nk (by decide), up2_at]
  obtain ⟨B1, n1, n2, n3⟩ := next_B mb (Nat.zero_le z) (show B0 0 25 = nI 0 by rw [← hB0, up2_nk (by decide), up2_nk (by decide), up2_at]; rfl)
  have ms : MS bs z t B1 0 0 := ⟨⟨mb.n n2, n3, by rw [n2.2 30 (by decide), ← hB0, up2_at], (sk_le (Nat.zero_le z)).2⟩, by rw [n2.2 29 (by decide), ← hB0, up2_nk (by decide), up2_at]; rfl⟩
  have fB1 : RFr B B1 := MFr.r fb n2.m
  have eA : F3_read A = Option.bind (F3_readPart A2 (nI 0) (-5 - nI 6)) fun r3 => Option.bind (F3_readPart r3.2 (nI 1) (-5 - nI 7)) fun r5 => Option.bind (F3_readPart r5.2 (nI 2) (-5 - nI 8)) fun r7 => if (r7.2 9 7) = (-1 : Int32) then some ((0 : Int32), (up2 r7.2 15 3 (r7.2 9 10))) else Option.bind (F3_fail (up2 r7.2 15 3 (r7.2 9 10))) fun r10 => some ((0 : Int32), r10.2) := by
    unfold F3_read
    rw [sc, Option.bind_some]
    dsimp only
    rw [hA2]
    rfl
  have eB : F9_read B (nI t) (nI w) = Option.bind (Option.bind (F9_isWord B1 (wL 6 0) (wL 6 1) (wL 6 2) (wL 6 3) (wL 6 4) (wL 6 5) (wL 6 6) (wL 6 7)) fun r4 => F9_part r4.2 r4.1) fun r6 => if (r6.2 0 30) = 0 then Option.bind (Option.bind (F9_isWord r6.2 (wL 7 0) (wL 7 1) (wL 7 2) (wL 7 3) (wL 7 4) (wL 7 5) (wL 7 6) (wL 7 7)) fun r9 => F9_part r9.2 r9.1) fun r11 => F9_read_j91 r11.2 (nI w) r6.1 r11.1 else F9_read_j91 r6.2 (nI w) r6.1 0 := by
    unfold F9_read
    rw [if_pos (inb_of ht (by decide)), nI_clamp (by omega), hB2, hB0, n1, Option.bind_some]
    simp only [Option.bind_assoc]
    rfl
  have e91 : ∀ M x y, F9_read_j91 M (nI w) x y = if (M 0 30) = 0 then Option.bind (Option.bind (F9_isWord M (wL 8 0) (wL 8 1) (wL 8 2) (wL 8 3) (wL 8 4) (wL 8 5) (wL 8 6) (wL 8 7)) fun r14 => F9_part r14.2 r14.1) fun r16 => F9_read_j125 r16.2 (nI w) x y r16.1 else F9_read_j125 M (nI w) x y 0 := by
    intro M x y
    unfold F9_read_j91
    simp only [Option.bind_assoc]
    rfl
  have kn : ∀ j, j < 12 → 6 ≤ j → ¬ (-5 - nI j) = -2 := fun j h1 h2 e => (key_no j h1 h2).2.1 e.symm
  -- the class after a fault
  have fin : ∀ (M : Mem) (f : Nat), CF M f → (if (M 9 7) = (-1 : Int32) then some ((0 : Int32), (up2 M 15 3 (M 9 10))) else Option.bind (F3_fail (up2 M 15 3 (M 9 10))) fun r10 => some ((0 : Int32), r10.2)) = some (0, up2 M 15 3 (M 9 10)) := by
    intro M f h
    rw [if_neg (show ¬ M 9 7 = -1 by rw [h.1]; decide), (CF.up15 h).fail]
    rfl
  obtain ⟨A3, B3, v0, a1, a2, a3, a4, a5, a6, a7⟩ := part_sim (p := 0) (j := 6) hz (by decide) (by decide) (by decide) cs ms
  have gA3 : FA [9, 11, 12, 13, 14, 15] A A3 ∧ A3 9 1 = A 9 1 := ⟨fun c hc => by
    simp only [List.mem_cons, List.not_mem_nil, or_false, not_or] at hc
    rw [a3 c (by simp; omega)]
    exact gA2.1 c (by simp; omega), by rw [a4 1 (by decide) (by decide) (by decide) (by decide)]; exact gA2.2⟩
  have fB3 : RFr B B3 := MFr.r fB1 a6
  have u15 : ∀ (M : Mem) (k : Nat) (v : Int32), (FA [9, 11, 12, 13, 14, 15] A M ∧ M 9 1 = A 9 1) → FA [9, 11, 12, 13, 14, 15] A (up2 M 15 k v) ∧ up2 M 15 k v 9 1 = A 9 1 := fun M k v h => ⟨h.1.up (by decide), by rw [up2_ne (by decide)]; exact h.2⟩
  rw [eA, eB, a1, a2, Option.bind_some, Option.bind_some]
  dsimp only
  rcases a7 with ⟨i1, L1, c1, m1, l1, p1, x1⟩ | ⟨f, q1, q2⟩
  rotate_left
  · rw [part_fault q1 (by decide) (kn 7 (by decide) (by decide)), Option.bind_some]
    dsimp only
    rw [part_fault (CF.up15 q1) (by decide) (kn 8 (by decide) (by decide)), Option.bind_some]
    dsimp only
    rw [fin _ f (CF.up15 (CF.up15 q1)), if_neg q2.bad, j91_bad q2.bad w hw]
    obtain ⟨g1, g2⟩ := u15 _ 3 (up2 (up2 A3 15 1 (A3 9 10)) 15 2 (up2 A3 15 1 (A3 9 10) 9 10) 9 10) (u15 _ 2 (up2 A3 15 1 (A3 9 10) 9 10) (u15 _ 1 (A3 9 10) gA3))
    exact ⟨_, B3, _, rfl, rfl, g1, g2, fB3, .inr ⟨f, q1.2.2.1, (CF.up15 (CF.up15 (CF.up15 q1))).2.1, q2.1, q2.2⟩⟩
  rw [if_pos m1.1.2.2.1]
  obtain ⟨A4, B4, v1, b1, b2, b3, b4, b5, b6, b7⟩ := part_sim (p := 1) (j := 7) hz (by decide) (by decide) (by decide) c1 m1
  have gA4 : FA [9, 11, 12, 13, 14, 15] A A4 ∧ A4 9 1 = A 9 1 := ⟨fun c hc => by
    simp only [List.mem_cons, List.not_mem_nil, or_false, not_or] at hc
    rw [b3 c (by simp; omega)]
    exact gA3.1 c (by simp; omega), by rw [b4 1 (by decide) (by decide) (by decide) (by decide)]; exact gA3.2⟩
  have fB4 : RFr B B4 := MFr.r fB3 b6
  rw [b1, b2, Option.bind_some, Option.bind_some]
  dsimp only
  rcases b7 with ⟨i2, L2, c2, m2, l2, p2, x2⟩ | ⟨f, q1, q2⟩
  rotate_left
  · rw [part_fault q1 (by decide) (kn 8 (by decide) (by decide)), Option.bind_some]
    dsimp only
    rw [fin _ f (CF.up15 q1), j91_bad q2.bad w hw]
    obtain ⟨g1, g2⟩ := u15 _ 3 (up2 A4 15 2 (A4 9 10) 9 10) (u15 _ 2 (A4 9 10) gA4)
    exact ⟨_, B4, _, rfl, rfl, g1, g2, fB4, .inr ⟨f, q1.2.2.1, (CF.up15 (CF.up15 q1)).2.1, q2.1, q2.2⟩⟩
  rw [e91, if_pos m2.1.2.2.1]
  obtain ⟨A5, B5, v2, d1, d2, d3, d4, d5, d6, d7⟩ := part_sim (p := 2) (j := 8) hz (by decide) (by decide) (by decide) c2 m2
  have gA5 : FA [9, 11, 12, 13, 14, 15] A A5 ∧ A5 9 1 = A 9 1 := ⟨fun c hc => by
    simp only [List.mem_cons, List.not_mem_nil, or_false, not_or] at hc
    rw [d3 c (by simp; omega)]
    exact gA4.1 c (by simp; omega), by rw [d4 1 (by decide) (by decide) (by decide) (by decide)]; exact gA4.2⟩
  have fB5 : RFr B B5 := MFr.r fB4 d6
  rw [d1, d2, Option.bind_some, Option.bind_some]
  dsimp only
  rcases d7 with ⟨i3, L3, c3, m3, l3, p3, x3⟩ | ⟨f, q1, q2⟩
  rotate_left
  · rw [fin _ f q1, j125_bad q2.bad w hw]
    obtain ⟨g1, g2⟩ := u15 _ 3 (A5 9 10) gA5
    exact ⟨_, B5, _, rfl, rfl, g1, g2, fB5, .inr ⟨f, q1.2.2.1, (CF.up15 q1).2.1, q2.1, q2.2⟩⟩
  have hend := end_tok m3.1
  unfold F9_read_j125
  rw [if_neg (show ¬ ¬ B5 0 30 = 0 from fun q => q m3.1.2.2.1)]
  by_cases ke : kd bs z (plc bs z i3) = -1
  · rw [if_pos (show A5 9 7 = -1 by rw [c3.2.2.2.1]; exact ke), if_pos (hend.mpr ke), j145_eq B5 w hw]
    obtain ⟨g1, g2⟩ := u15 _ 3 (A5 9 10) gA5
    have c10 : A5 9 10 = nI L3 := c3.2.2.2.2.2.1
    have hL3 : L3 ≤ 160 := by
      have h1 := c3.2.2.2.2.2.2
      have h2 := c3.2.1
      have h3 := c3.1.2.2.2.2.1
      omega
    refine ⟨_, B5, _, rfl, rfl, g1, g2, fB5, .inl ⟨by rw [up2_ne (by decide)]; exact c3.2.2.2.2.1, m3.1.2.2.1, L1, L2, L3, l2, l3, hL3, ?_, ?_, ?_, ?_, v0, v1, v2, ?_, ?_, ?_, rfl⟩⟩
    · rw [up2_nk (by decide), d5, up2_nk (by decide), b5, up2_nk (by decide), a5, up2_at]
    · rw [up2_nk (by decide), d5, up2_nk (by decide), b5, up2_at]
    · rw [up2_nk (by decide), d5, up2_at]
    · rw [up2_at, c10]
    · rw [up2_ne (by decide)]
      have e0 := x1 []
      rw [Nat.sub_zero, fB1.nm] at e0
      rw [exe_cong (f := A5 14) (g := A3 14) _ _ _ (fun j h1 h2 => by rw [p3 j (by omega), p2 j (by omega)])]
      exact e0
    · rw [up2_ne (by decide)]
      have e0 := x2 []
      rw [fB3.nm] at e0
      rw [exe_cong (f := A5 14) (g := A4 14) _ _ _ (fun j h1 h2 => p3 j (by omega))]
      exact e0
    · rw [up2_ne (by decide)]
      have e0 := x3 []
      rw [fB4.nm] at e0
      exact e0
  · have c15 := c3.up15 (k := 3) (v := A5 9 10)
    obtain ⟨A6, h1, h2, h3, h4⟩ := c15.fail hz
    obtain ⟨h5, h6, h7⟩ := m3.fail
    rw [if_neg (show ¬ A5 9 7 = -1 by rw [c3.2.2.2.1]; exact ke), h1, if_neg (fun q => ke (hend.mp q)), h5, Option.bind_some, Option.bind_some]
    dsimp only
    rw [j145_eq _ w hw]
    obtain ⟨g1, g2⟩ := u15 _ 3 (A5 9 10) gA5
    refine ⟨A6, failB B5, _, rfl, rfl, fun c hc => ?_, ?_, MFr.r fB5 h7, .inr ⟨_, h2.2.2.1, h2.2.1, h6.1, h6.2⟩⟩
    · simp only [List.mem_cons, List.not_mem_nil, or_false, not_or] at hc
      rw [h3.1 c (by omega) (by omega)]
      exact g1 c (by simp; omega)
    · rw [h3.2 1 (by decide) (by decide) (by decide) (by decide)]
      exact g2
end
