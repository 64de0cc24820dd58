theorem sheet_B (B : Mem) (s z : Nat) (hs : s < 4) (hz : z ≤ 40) (x : Int32) (hx : x = 0 ∨ x = 1 ∨ x = 2) : ∃ B', F9_sheet B (nI s) x (nI z) = some (1, B') ∧ (∀ c, c ≠ 17 → c ≠ 18 → c ≠ 19 → c ≠ 20 → B' c = B c) ∧ B' 17 s = 1 ∧ B' 18 s = x ∧ B' 19 s = nI z ∧ (∀ r, r ≠ s → B' 17 r = B 17 r ∧ B' 18 r = B 18 r ∧ B' 19 r = B 19 r) ∧ (∀ r, r < 40 * s ∨ 40 * s + 40 ≤ r → B' 20 r = B 20 r) ∧ ∀ j, j < z → B' 20 (40 * s + j) = 0 := by
  have hx0 : ¬ x < 0 := by rcases hx with rfl | rfl | rfl <;> decide
  obtain ⟨B', e, h1, h2, h3⟩ := sheet_l s z hs hz x hx0 z FUEL 0 (up2 (up2 (up2 B 17 s 1) 18 s x) 19 s (nI z)) (by omega) (by unfold FUEL; omega) (fun j hj => absurd hj (by omega))
  have e17 : B' 17 = up2 B 17 s 1 17 := by rw [h1 17 (by decide), up2_ne (by decide), up2_ne (by decide)]
  have e18 : B' 18 = up2 (up2 B 17 s 1) 18 s x 18 := by rw [h1 18 (by decide), up2_ne (by decide)]
  have e19 : B' 19 = up2 (up2 (up2 B 17 s 1) 18 s x) 19 s (nI z) 19 := h1 19 (by decide)
  refine ⟨B', ?_, fun c c1 c2 c3 c4 => ?_, ?_, ?_, ?_, fun r hr => ⟨?_, ?_, ?_⟩, fun r hr => ?_, h3⟩
  · unfold F9_sheet
    rw [shB_y hs, Option.bind_some, if_neg n10, in_y (by rcases hx with rfl | rfl | rfl <;> decide), Option.bind_some, if_neg n10, if_neg hx0, if_pos (by rw [ile, nI_toInt (by omega)]; simp; omega)]
    unfold F9_sheet_j34 F9_sheet_j45 F9_sheet_j59
    rw [if_neg hx0, if_pos (by rw [ile, nI_toInt (by omega)]; simp), if_neg hx0, if_pos (inb_of hs (by decide)), if_pos (inb_of hs (by decide)), nI_clamp (by omega)]
    exact e
  · rw [h1 c c4, up2_ne c3, up2_ne c2, up2_ne c1]
  · rw [e17, up2_at]
  · rw [e18, up2_at]
  · rw [e19, up2_at]
  · rw [e17, up2_nk hr]
  · rw [e18, up2_nk hr, up2_ne (by decide)]
  · rw [e19, up2_nk hr, up2_ne (by decide), up2_ne (by decide)]
  · rw [h2 r hr, up2_ne (by decide), up2_ne (by decide), up2_ne (by decide)]
/-- a sheet laid on both sides -/
theorem RS.lay {A A' B B' : Mem} (h : RS A B) {s z : Nat} {x : Int32} (hs : s < 4) (hz : z ≤ 40) (hx : x = 0 ∨ x = 1 ∨ x = 2) (f : FA [43, 44, 46 + s] A A') (a1 : A' 43 s = x) (a2 : A' 44 s = nI z) (a3 : ∀ r, r ≠ s → A' 43 r = A 43 r ∧ A' 44 r = A 44 r) (a4 : ∀ j, j < 40 → A' (46 + s) j = 0) (b1 : B' 17 s = 1) (b2 : B' 18 s = x) (b3 : B' 19 s = nI z) (b4 : ∀ r, r ≠ s → B' 17 r = B 17 r ∧ B' 18 r = B 18 r ∧ B' 19 r = B 19 r) (b5 : ∀ r, r < 40 * s ∨ 40 * s + 40 ≤ r → B' 20 r = B 20 r) (b6 : ∀ j, j < z → B' 20 (40 * s + j) = 0) : RS A' B' := by
  intro r hr
  by_cases e : r = s
  · subst e
    exact .inr ⟨by rw [a1]; exact hx, by rw [a1, b2], b1, z, hz, a2, b3, fun j hj => by rw [a4 j (by omega), b6 j hj]⟩
  · obtain ⟨p1, p2⟩ := a3 r e
    obtain ⟨q1, q2, q3⟩ := b4 r e
    have er : A' (46 + r) = A (46 + r) := f (46 + r) (by simp; omega)
    have := h r hr
    unfold RS1 at *
    rw [p1, p2, q1, q2, q3, er]
    rcases this with ⟨u1, u2⟩ | ⟨u1, u2, u3, y, u4, u5, u6, u7⟩
    · exact .inl ⟨u1, u2⟩
    · exact .inr ⟨u1, u2, u3, y, u4, u5, u6, fun j hj => by rw [b5 (40 * r + j) (by omega)]; exact u7 j hj⟩
theorem sheet_R {A B : Mem} (h : RS A B) (a1 a2 a3 : Int32) : ∃ v A' B', F8_sheet A a1 a2 a3 = some (v, A') ∧ F9_sheet B a1 a2 a3 = some (v, B') ∧ RS A' B' ∧ FA [43, 44, 46, 47, 48, 49] A A' ∧ ∀ c, c ≠ 17 → c ≠ 18 → c ≠ 19 → c ≠ 20 → B' c = B c := by
  have hno : ∀ w : Int32, F8_sheet A a1 a2 a3 = some (w, A) → F9_sheet B a1 a2 a3 = some (w, B) → ∃ v A' B', F8_sheet A a1 a2 a3 = some (v, A') ∧ F9_sheet B a1 a2 a3 = some (v, B') ∧ RS A' B' ∧ FA [43, 44, 46, 47, 48, 49] A A' ∧ ∀ c, c ≠ 17 → c ≠ 18 → c ≠ 19 → c ≠ 20 → B' c = B c := fun w e1 e2 => ⟨w, A, B, e1, e2, h, FA.rf, fun _ _ _ _ _ => rfl⟩
  rcases cs a1 4 (by decide) with q | ⟨s, hs, rfl⟩
  · refine hno (-2) ?_ ?_
    · unfold F8_sheet; rw [shA_n q]; rfl
    · unfold F9_sheet; rw [shB_n q]; rfl
  have fsub : ∀ A' : Mem, FA [43, 44, 46 + s] A A' → FA [43, 44, 46, 47, 48, 49] A A' := fun A' f c hc => f c (by simp only [List.mem_cons, List.not_mem_nil, or_false, not_or] at *; omega)
  by_cases e1 : a2 = -1
  · subst e1
    obtain ⟨A', e, f, x1, x2, x3, x4⟩ := lay_A A s 0 hs (by decide) (-1)
    refine ⟨1, A', up2 (up2 (up2 B 17 s 0) 18 s (-1)) 19 s a3, ?_, ?_, ?_, fsub A' f, fun c c1 c2 c3 c4 => by rw [up2_ne c3, up2_ne c2, up2_ne c1]⟩
    · unfold F8_sheet
      rw [shA_y hs, Option.bind_some, if_neg n10, if_neg (by decide), if_pos (by decide), if_neg (by decide), show (0 : Int32) = nI 0 from rfl, e]
      rfl
    · unfold F9_sheet
      rw [shB_y hs, Option.bind_some, if_neg n10, in_y (by decide), Option.bind_some, if_neg n10, if_pos (by decide)]
      unfold F9_sheet_j34 F9_sheet_j45 F9_sheet_j59
      rw [if_pos (by decide), if_pos (by decide), if_pos (inb_of hs (by decide)), if_pos (inb_of hs (by decide)), nI_clamp (by omega)]
      show F9_sheet_l77_b _ _ _ _ _ _ = _
      unfold F9_sheet_l77_b
      by_cases h3 : a3 ≤ 0
      · rw [if_pos h3]; rfl
      · rw [if_neg h3, if_pos (by decide)]; rfl
    · intro r hr
      by_cases e2 : r = s
      · subst e2
        refine .inl ⟨x1, ?_⟩
        rw [up2_ne (by decide), up2_ne (by decide), up2_at]
      · obtain ⟨p1, p2⟩ := x3 r e2
        have er : A' (46 + r) = A (46 + r) := f (46 + r) (by simp; omega)
        have := h r hr
        unfold RS1 at *
        rw [p1, p2, er, up2_ne (show (17 : Nat) ≠ 19 by decide), up2_ne (show (17 : Nat) ≠ 18 by decide), up2_nk e2, up2_ne (show (18 : Nat) ≠ 19 by decide), up2_nk e2, up2_ne (show (18 : Nat) ≠ 17 by decide), up2_nk e2, up2_ne (show (19 : Nat) ≠ 18 by decide), up2_ne (show (19 : Nat) ≠ 17 by decide), up2_ne (show (20 : Nat) ≠ 19 by decide), up2_ne (show (20 : Nat) ≠ 18 by decide), up2_ne (show (20 : Nat) ≠ 17 by decide)]
        exact this
  by_cases hx : a2 = 0 ∨ a2 = 1 ∨ a2 = 2
  · have hx0 : ¬ a2 < 0 := by rcases hx with rfl | rfl | rfl <;> decide
    have g1 : ¬ a2 < -1 := by rcases hx with rfl | rfl | rfl <;> decide
    have g2 : a2 ≤ 2 := by rcases hx with rfl | rfl | rfl <;> decide
    have g3 : F9_in B (Int32.toInt64 a2) (-1 : Int64) (2 : Int64) = some (1, B) := in_y (by rcases hx with rfl | rfl | rfl <;> decide)
    by_cases q1 : a3 ≤ 40
    · by_cases q2 : 0 ≤ a3
      · obtain ⟨z, rfl, hz, hzz⟩ := nat_of (x := a3) (by rw [ile] at q2; exact q2)
        have hz40 : z ≤ 40 := (nI_leI hzz (by decide)).mp q1
        obtain ⟨A', e, f, x1, x2, x3, x4⟩ := lay_A A s z hs hz40 a2
        obtain ⟨B', e', y0, y1, y2, y3, y4, y5, y6⟩ := sheet_B B s z hs hz40 a2 hx
        refine ⟨1, A', B', ?_, e', h.lay hs hz40 hx f x1 x2 x3 x4 y1 y2 y3 y4 y5 y6, fsub A' f, y0⟩
        unfold F8_sheet
        rw [shA_y hs, Option.bind_some, if_neg n10, if_neg g1, if_pos g2, if_pos e1, if_pos q1, if_pos q2, e]
        rfl
      · refine hno (-14) ?_ ?_
        · unfold F8_sheet
          rw [shA_y hs, Option.bind_some, if_neg n10, if_neg g1, if_pos g2, if_pos e1, if_pos q1, if_neg q2]
        · unfold F9_sheet
          rw [shB_y hs, Option.bind_some, if_neg n10, g3, Option.bind_some, if_neg n10, if_neg hx0, if_pos q1]
          unfold F9_sheet_j34
          rw [if_neg hx0, if_neg q2]
    · refine hno (-2) ?_ ?_
      · unfold F8_sheet
        rw [shA_y hs, Option.bind_some, if_neg n10, if_neg g1, if_pos g2, if_pos e1, if_neg q1]
      · unfold F9_sheet
        rw [shB_y hs, Option.bind_some, if_neg n10, g3, Option.bind_some, if_neg n10, if_neg hx0, if_neg q1]
  · have hout : a2.toInt < -1 ∨ 2 < a2.toInt := by
      rcases cs a2 3 (by decide) with q | ⟨j, hj, rfl⟩
      · by_cases hm : a2.toInt = -1
        · exact absurd (Int32.toInt_inj.mp (hm.trans (show (-1 : Int) = (-1 : Int32).toInt by decide))) e1
        · omega
      · exact absurd (show nI j = 0 ∨ nI j = 1 ∨ nI j = 2 by rcases (show j = 0 ∨ j = 1 ∨ j = 2 by omega) with rfl | rfl | rfl <;> decide) hx
    refine hno (-2) ?_ ?_
    · unfold F8_sheet
      rw [shA_y hs, Option.bind_some, if_neg n10]
      simp only [ile, ilt, show (-1 : Int32).toInt = -1 from by decide, show (2 : Int32).toInt = 2 from by decide]
      by_cases h1 : a2.toInt < -1
      · rw [if_pos h1]
      · rw [if_neg h1, if_neg (by omega)]
    · unfold F9_sheet
      rw [shB_y hs, Option.bind_some, if_neg n10, in_n (by rw [i64t, show (-1 : Int64).toInt = -1 from by decide, show (2 : Int64).toInt = 2 from by decide]; omega)]
      rfl
