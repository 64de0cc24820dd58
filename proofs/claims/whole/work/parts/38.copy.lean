theorem i32sub {x y : Int32} (h1 : -2147483648 ≤ x.toInt - y.toInt) (h2 : x.toInt - y.toInt ≤ 2147483647) : (x - y).toInt = x.toInt - y.toInt := by
  rw [Int32.toInt_sub]
  apply Int.bmod_eq_of_le <;> omega
theorem copy_R {A B : Mem} (h : RS A B) (a1 a2 a3 a4 a5 : Int32) : ∃ v A' B', F8_copy A a1 a2 a3 a4 a5 = some (v, A') ∧ F9_copy B a1 a2 a3 a4 a5 = some (v, B') ∧ RS A' B' ∧ FA [46, 47, 48, 49] A A' ∧ ∀ c, c ≠ 20 → B' c = B c := by
  have hno : ∀ w : Int32, F8_copy A a1 a2 a3 a4 a5 = some (w, A) → F9_copy B a1 a2 a3 a4 a5 = some (w, B) → ∃ v A' B', F8_copy A a1 a2 a3 a4 a5 = some (v, A') ∧ F9_copy B a1 a2 a3 a4 a5 = some (v, B') ∧ RS A' B' ∧ FA [46, 47, 48, 49] A A' ∧ ∀ c, c ≠ 20 → B' c = B c := fun w e1 e2 => ⟨w, A, B, e1, e2, h, FA.rf, fun _ _ => rfl⟩
  rcases cs a1 4 (by decide) with q | ⟨s, hs, rfl⟩
  · refine hno (-2) ?_ ?_
    · unfold F8_copy; rw [shA_n q]; rfl
    · unfold F9_copy; rw [shB_n q]; rfl
  rcases cs a3 4 (by decide) with q | ⟨d, hd, rfl⟩
  · refine hno (-2) ?_ ?_
    · unfold F8_copy; rw [shA_y hs, Option.bind_some, if_neg n10, shA_n q]; rfl
    · unfold F9_copy; rw [shB_y hs, Option.bind_some, if_neg n10, shB_n q]; rfl
  have jA : ∀ v A', (Option.bind (F5_isMissing A (nI s)) fun r7 => _) = some (v, A') → F8_copy A (nI s) a2 (nI d) a4 a5 = some (v, A') := fun v A' e => by
    unfold F8_copy
    rw [shA_y hs, Option.bind_some, if_neg n10, shA_y hd, Option.bind_some, if_pos n10]
    exact e
  rcases h s hs with ⟨u1, u2⟩ | ⟨u1, u2, u3, y, u4, u5, u6, u7⟩
  · refine hno (-11) ?_ ?_
    · refine jA _ _ ?_
      rw [missA hs, if_pos u1]
      rfl
    · unfold F9_copy
      rw [shB_y hs, Option.bind_some, if_neg n10, shB_y hd, Option.bind_some, if_pos n10, if_pos (inb_of hs (by decide)), nI_clamp (by omega), if_pos (show B 17 s = 0 from u2)]
  have m1 : ¬ A 43 s = -1 := by rcases u1 with e | e | e <;> rw [e] <;> decide
  rcases h d hd with ⟨w1, w2⟩ | ⟨w1, w2, w3, z, w4, w5, w6, w7⟩
  · refine hno (-11) ?_ ?_
    · refine jA _ _ ?_
      rw [missA hs, if_neg m1, Option.bind_some, if_neg (fun z => z rfl)]
      dsimp only
      rw [missA hd, if_pos w1]
      rfl
    · unfold F9_copy
      rw [shB_y hs, Option.bind_some, if_neg n10, shB_y hd, Option.bind_some, if_pos n10, if_pos (inb_of hs (by decide)), nI_clamp (by omega), if_neg (show ¬ B 17 s = 0 by rw [u3]; decide), if_pos (inb_of hd (by decide)), nI_clamp (by omega), if_neg (show ¬ ¬ B 17 d = 0 from fun z => z w2)]
  have m2 : ¬ A 43 d = -1 := by rcases w1 with e | e | e <;> rw [e] <;> decide
  by_cases hso : ¬ A 43 s = A 43 d
  · refine hno (-13) ?_ ?_
    · refine jA _ _ ?_
      rw [missA hs, if_neg m1, Option.bind_some, if_neg (fun z => z rfl)]
      dsimp only
      rw [missA hd, if_neg m2, Option.bind_some, if_pos rfl, if_pos (inb_of hs (by decide)), if_pos (inb_of hd (by decide)), nI_clamp (by omega), nI_clamp (by omega)]
      exact if_neg hso
    · unfold F9_copy
      rw [shB_y hs, Option.bind_some, if_neg n10, shB_y hd, Option.bind_some, if_pos n10, if_pos (inb_of hs (by decide)), nI_clamp (by omega), if_neg (show ¬ B 17 s = 0 by rw [u3]; decide), if_pos (inb_of hd (by decide)), nI_clamp (by omega), if_pos (show ¬ B 17 d = 0 by rw [w3]; decide)]
      exact if_neg (show ¬ B 18 s = B 18 d by rw [← u2, ← w2]; exact hso)
  replace hso := Classical.not_not.mp hso
  have e18 : B 18 s = B 18 d := by rw [← u2, ← w2]; exact hso
  have jB : ∀ v B', (if a5 < 0 then some ((-12 : Int32), B) else if a2 < 0 then some ((-12 : Int32), B) else if a4 < 0 then some ((-12 : Int32), B) else if ((B 19 s) - a5) < a2 then some ((-12 : Int32), B) else if a4 ≤ ((B 19 d) - a5) then (if ¬ nI s = nI d then F9_copy_j115 B (nI s) a2 (nI d) a4 a5 else if a4 ≤ a2 then F9_copy_j115 B (nI s) a2 (nI d) a4 a5 else F9_copy_j116 B (nI s) a2 (nI d) a4 a5 (1 : Int32)) else some ((-12 : Int32), B)) = some (v, B') → F9_copy B (nI s) a2 (nI d) a4 a5 = some (v, B') := fun v B' e => by
    unfold F9_copy
    rw [shB_y hs, Option.bind_some, if_neg n10, shB_y hd, Option.bind_some, if_pos n10, if_pos (inb_of hs (by decide)), nI_clamp (by omega), if_neg (show ¬ B 17 s = 0 by rw [u3]; decide), if_pos (inb_of hd (by decide)), nI_clamp (by omega), if_pos (show ¬ B 17 d = 0 by rw [w3]; decide), if_pos (show B 18 s = B 18 d from e18)]
    exact e
  have jC : ∀ v A', (Option.bind (F5_spans A (nI s) a2 a5) fun r16 => if r16.1 = 0 then some ((-12 : Int32), r16.2) else Option.bind (F5_spans r16.2 (nI d) a4 a5) fun r19 => if ¬ r19.1 = 0 then (if (¬ a2 < 0 ∧ ¬ a4 < 0 ∧ ¬ a5 < 0 ∧ (Int32.toNatClampNeg a2) + (Int32.toNatClampNeg a5) ≤ 40 ∧ (Int32.toNatClampNeg a4) + (Int32.toNatClampNeg a5) ≤ 40) then some (a5, (upA r19.2 (46 + d) (va_cpy (r19.2 (46 + s)) (r19.2 (46 + d)) (Int32.toNatClampNeg a2) (Int32.toNatClampNeg a4) (Int32.toNatClampNeg a5)))) else none) else some ((-12 : Int32), r19.2)) = some (v, A') → F8_copy A (nI s) a2 (nI d) a4 a5 = some (v, A') := fun v A' e => by
    refine jA _ _ ?_
    rw [missA hs, if_neg m1, Option.bind_some, if_neg (fun z => z rfl)]
    dsimp only
    rw [missA hd, if_neg m2, Option.bind_some, if_pos rfl, if_pos (inb_of hs (by decide)), if_pos (inb_of hd (by decide)), nI_clamp (by omega), nI_clamp (by omega)]
    exact (if_pos hso).trans e
  rw [spansA hs u5 u4] at jC
  have b2 := Int32.toInt_lt a2
  have b4 := Int32.toInt_lt a4
  have b5 := Int32.toInt_lt a5
  by_cases ok : 0 ≤ a2.toInt ∧ 0 ≤ a4.toInt ∧ 0 ≤ a5.toInt ∧ a2.toInt + a5.toInt ≤ y ∧ a4.toInt + a5.toInt ≤ z
  · obtain ⟨i, rfl, hi, hi2⟩ := nat_of ok.1
    obtain ⟨j, rfl, hj, hj2⟩ := nat_of ok.2.1
    obtain ⟨w, rfl, hw, hw2⟩ := nat_of ok.2.2.1
    have k1 : i + w ≤ y := by omega
    have k2 : j + w ≤ z := by omega
    have sy : (nI y - nI w).toInt = (y : Int) - w := pk_sub_toInt (by omega) (by omega)
    have sz : (nI z - nI w).toInt = (z : Int) - w := pk_sub_toInt (by omega) (by omega)
    have fin : ∀ N', (∀ c, c ≠ 20 → N' c = B c) → (∀ r, r < 40 * d + j ∨ 40 * d + j + w ≤ r → N' 20 r = B 20 r) → (∀ t, t < w → N' 20 (40 * d + j + t) = B 20 (40 * s + i + t)) → F9_copy B (nI s) (nI i) (nI d) (nI j) (nI w) = some (nI w, N') → ∃ v A' B', F8_copy A (nI s) (nI i) (nI d) (nI j) (nI w) = some (v, A') ∧ F9_copy B (nI s) (nI i) (nI d) (nI j) (nI w) = some (v, B') ∧ RS A' B' ∧ FA [46, 47, 48, 49] A A' ∧ ∀ c, c ≠ 20 → B' c = B c := by
      intro N' g1 g2 g3 e
      refine ⟨nI w, upA A (46 + d) (va_cpy (A (46 + s)) (A (46 + d)) i j w), N', jC _ _ ?_, e, ?_, fun c hc => upA_ne (by simp only [List.mem_cons, List.not_mem_nil, or_false, not_or] at hc; omega), g1⟩
      · rw [if_pos (by omega), Option.bind_some, if_neg n10]
        dsimp only
        rw [spansA hd w5 w4, if_pos (by omega), Option.bind_some, if_pos n10, nI_clamp (by omega), nI_clamp (by omega), nI_clamp (by omega), if_pos ⟨nI_pos (by omega), nI_pos (by omega), nI_pos (by omega), by omega, by omega⟩]
      · intro r hr
        have hold := h r hr
        unfold RS1 at *
        rw [upA_ne (show 43 ≠ 46 + d by omega), upA_ne (show 44 ≠ 46 + d by omega), g1 17 (by decide), g1 18 (by decide), g1 19 (by decide)]
        rcases hold with q | ⟨q1, q2, q3, y2, q4, q5, q6, q7⟩
        · exact .inl q
        · refine .inr ⟨q1, q2, q3, y2, q4, q5, q6, fun x hx => ?_⟩
          by_cases e2 : r = d
          · subst e2
            rw [upA_at]
            by_cases hin : j ≤ x ∧ x < j + w
            · rw [pk_cpy_in hin.1 hin.2, u7 _ (by omega)]
              have := g3 (x - j) (by omega)
              rw [show 40 * r + j + (x - j) = 40 * r + x by omega] at this
              rw [this]
              congr 1
              omega
            · rw [pk_cpy_out (by omega), g2 _ (by omega)]
              exact q7 x hx
          · rw [upA_ne (by omega), g2 _ (by omega)]
            exact q7 x hx
    have jD : ∀ v B', (if ¬ nI s = nI d then F9_copy_j115 B (nI s) (nI i) (nI d) (nI j) (nI w) else if nI j ≤ nI i then F9_copy_j115 B (nI s) (nI i) (nI d) (nI j) (nI w) else F9_copy_j116 B (nI s) (nI i) (nI d) (nI j) (nI w) (1 : Int32)) = some (v, B') → F9_copy B (nI s) (nI i) (nI d) (nI j) (nI w) = some (v, B') := fun v B' e => by
      refine jB _ _ ?_
      rw [if_neg (nI_pos (by omega)), if_neg (nI_pos (by omega)), if_neg (nI_pos (by omega)), if_neg (show ¬ B 19 s - nI w < nI i by rw [u6, ilt, sy, nI_toInt (by omega)]; omega), if_pos (show nI j ≤ B 19 d - nI w by rw [w6, ile, sz, nI_toInt (by omega)]; omega)]
      exact e
    by_cases dn : s = d ∧ i < j
    · obtain ⟨N', e, g1, g2, g3⟩ := copy_dn B s i d j (40 * s + i) (40 * d + j) w rfl rfl (by omega) (by omega) (by omega) w FUEL 0 B (by omega) (by unfold FUEL; omega) (fun _ _ => rfl) (fun _ _ => rfl) (fun t h1 h2 => absurd h1 (by omega))
      refine fin N' g1 g2 g3 (jD _ _ ?_)
      rw [if_neg (by simp [dn.1]), if_neg (nI_ge dn.2 (by omega))]
      exact e
    · obtain ⟨N', e, g1, g2, g3⟩ := copy_up B s i d j (40 * s + i) (40 * d + j) w rfl rfl (by omega) (by omega) (fun a t h1 h2 => by omega) w FUEL 0 B (by omega) (by unfold FUEL; omega) (fun _ _ => rfl) (fun _ _ => rfl) (fun t ht => absurd ht (by omega))
      refine fin N' g1 g2 g3 (jD _ _ ?_)
      by_cases hsd : s = d
      · rw [if_neg (by simp [hsd]), if_pos (nI_le (by omega) (by omega))]
        exact e
      · rw [if_pos (fun z => hsd (nI_inj (by omega) (by omega) z))]
        exact e
  · refine hno (-12) (jC _ _ ?_) (jB _ _ ?_)
    · by_cases c1 : 0 ≤ a2.toInt ∧ 0 ≤ a5.toInt ∧ a2.toInt + a5.toInt ≤ y
      · rw [if_pos c1, Option.bind_some, if_neg n10]
        dsimp only
        rw [spansA hd w5 w4, if_neg (by omega)]
        rfl
      · rw [if_neg c1]
        rfl
    · by_cases c5 : a5 < 0
      · rw [if_pos c5]
      · rw [if_neg c5]
        by_cases c2 : a2 < 0
        · rw [if_pos c2]
        · rw [if_neg c2]
          by_cases c4 : a4 < 0
          · rw [if_pos c4]
          · rw [if_neg c4]
            rw [ilt] at c5 c2 c4
            have z0 : (0 : Int32).toInt = 0 := rfl
            have sy : (nI y - a5).toInt = (y : Int) - a5.toInt := by rw [i32sub (by rw [nI_toInt (by omega)]; omega) (by rw [nI_toInt (by omega)]; omega), nI_toInt (by omega)]
            have sz : (nI z - a5).toInt = (z : Int) - a5.toInt := by rw [i32sub (by rw [nI_toInt (by omega)]; omega) (by rw [nI_toInt (by omega)]; omega), nI_toInt (by omega)]
            by_cases c6 : B 19 s - a5 < a2
            · rw [if_pos c6]
            · rw [if_neg c6, if_neg (show ¬ a4 ≤ B 19 d - a5 by rw [u6, ilt, sy] at c6; rw [w6, ile, sz]; omega)]
