def nar (x v : Int32) : Int32 := if x = 0 then Int8.toInt32 (Int32.toInt8 v) else if x = 2 then v else Int16.toInt32 (Int32.toInt16 v)
theorem narA (A : Mem) (x v : Int32) : F5_narrow A x v = some (nar x v, A) := by
  unfold F5_narrow nar
  by_cases h : x = 0
  · rw [if_neg (fun z => z h), if_pos h]
  · rw [if_pos h, if_neg h]
    by_cases h2 : x = 2
    · rw [if_neg (fun z => z h2), if_pos h2]
    · rw [if_pos h2, if_neg h2]
theorem missA {A : Mem} {s : Nat} (hs : s < 4) : F5_isMissing A (nI s) = some (if A 43 s = -1 then 1 else 0, A) := by
  unfold F5_isMissing
  rw [shA_y hs, Option.bind_some, if_neg n10, if_pos (inb_of hs (by decide)), nI_clamp (by omega)]
  by_cases h : A 43 s = -1
  · rw [if_pos h]
    show (if ¬ A 43 s = -1 then _ else _) = _
    rw [if_neg (fun z => z h)]
  · rw [if_neg h]
    show (if ¬ A 43 s = -1 then _ else _) = _
    rw [if_pos h]
/-- one value written -/
theorem RS.put {A B : Mem} (h : RS A B) {s j z : Nat} (hs : s < 4) (hj : j < 40) (hz : A 44 s = nI z) (v : Int32) : RS (up2 A (46 + s) j v) (up2 B 20 (40 * s + j) v) := by
  intro r hr
  have := h r hr
  unfold RS1 at *
  rw [up2_ne (show 43 ≠ 46 + s by omega), up2_ne (show 44 ≠ 46 + s by omega), up2_ne (show (17 : Nat) ≠ 20 by decide), up2_ne (show (18 : Nat) ≠ 20 by decide), up2_ne (show (19 : Nat) ≠ 20 by decide)]
  rcases this with u | ⟨u1, u2, u3, y, u4, u5, u6, u7⟩
  · exact .inl u
  · refine .inr ⟨u1, u2, u3, y, u4, u5, u6, fun i hi => ?_⟩
    by_cases e : r = s
    · subst e
      by_cases e2 : i = j
      · subst e2; rw [up2_at, up2_at]
      · rw [up2_nk e2, up2_nk (by omega)]; exact u7 i hi
    · rw [up2_ne (by omega), up2_nk (by omega)]; exact u7 i hi
theorem writeA {A : Mem} {s j z : Nat} (hs : s < 4) (hz : A 44 s = nI z) (hz40 : z ≤ 40) (hj : j < z) (v : Int32) : F5_write A (nI s) (nI j) v = some (1, up2 A (46 + s) j (nar (A 43 s) v)) := by
  unfold F5_write
  rw [shA_y hs, Option.bind_some, if_neg n10, if_neg (by rw [ilt, nI_toInt (by omega)]; simp), if_pos (inb_of hs (by decide)), nI_clamp (by omega)]
  dsimp only
  rw [if_pos (show nI j < A 44 s by rw [hz]; exact nI_lt hj (by omega)), narA, Option.bind_some, if_pos (inb_of (by omega) (by decide)), nI_clamp (by omega)]
theorem cell_R {A B : Mem} (h : RS A B) (a1 a2 a3 : Int32) : ∃ v A' B', F8_cell A a1 a2 a3 = some (v, A') ∧ F9_cell B a1 a2 a3 = some (v, B') ∧ RS A' B' ∧ FA [46, 47, 48, 49] A A' ∧ ∀ c, c ≠ 20 → B' c = B c := by
  have hno : ∀ w : Int32, F8_cell A a1 a2 a3 = some (w, A) → F9_cell B a1 a2 a3 = some (w, B) → ∃ v A' B', F8_cell A a1 a2 a3 = some (v, A') ∧ F9_cell B a1 a2 a3 = some (v, B') ∧ RS A' B' ∧ FA [46, 47, 48, 49] A A' ∧ ∀ c, c ≠ 20 → B' c = B c := fun w e1 e2 => ⟨w, A, B, e1, e2, h, FA.rf, fun _ _ => rfl⟩
  rcases cs a1 4 (by decide) with q | ⟨s, hs, rfl⟩
  · refine hno (-2) ?_ ?_
    · unfold F8_cell; rw [shA_n q]; rfl
    · unfold F9_cell; rw [shB_n q]; rfl
  rcases h s hs with ⟨u1, u2⟩ | ⟨u1, u2, u3, z, u4, u5, u6, u7⟩
  · refine hno (-11) ?_ ?_
    · unfold F8_cell
      rw [shA_y hs, Option.bind_some, if_pos n10, missA hs, if_pos u1]
      rfl
    · unfold F9_cell
      rw [shB_y hs, Option.bind_some, if_pos n10, if_pos (inb_of hs (by decide)), nI_clamp (by omega)]
      exact if_neg (show ¬ ¬ B 17 s = 0 from fun z => z u2)
  · have m1 : ¬ A 43 s = -1 := by rcases u1 with e | e | e <;> rw [e] <;> decide
    rcases cs a2 z (by omega) with q | ⟨j, hj, rfl⟩
    · refine hno (-12) ?_ ?_
      · unfold F8_cell
        rw [shA_y hs, Option.bind_some, if_pos n10, missA hs, if_neg m1, Option.bind_some, if_pos rfl]
        unfold F5_write
        dsimp only
        rw [shA_y hs, Option.bind_some, if_neg n10]
        by_cases h1 : a2 < 0
        · rw [if_pos h1]; rfl
        · rw [if_neg h1, if_pos (inb_of hs (by decide)), nI_clamp (by omega)]
          dsimp only
          rw [if_neg (show ¬ a2 < A 44 s by rw [u5, ilt, nI_toInt (by omega)]; rw [ilt] at h1; simp at h1; omega)]
          rfl
      · unfold F9_cell
        rw [shB_y hs, Option.bind_some, if_pos n10, if_pos (inb_of hs (by decide)), nI_clamp (by omega)]
        dsimp only
        rw [if_pos (show ¬ B 17 s = 0 by rw [u3]; decide), in_n (by rw [i64t, i64t, u6, show (0 : Int64).toInt = 0 from rfl, show (nI z - 1).toInt = (z : Int) - 1 from by rw [show (1 : Int32) = nI 1 from rfl, pk_sub_toInt (by omega) (by decide)]; rfl]; omega)]
        rfl
    · refine ⟨1, up2 A (46 + s) j (nar (A 43 s) a3), up2 B 20 (40 * s + j) (nar (A 43 s) a3), ?_, ?_, h.put hs (by omega) u5 _, FA.rf.up (by simp only [List.mem_cons, List.not_mem_nil, or_false]; omega), fun c hc => up2_ne hc⟩
      · unfold F8_cell
        rw [shA_y hs, Option.bind_some, if_pos n10, missA hs, if_neg m1, Option.bind_some, if_pos rfl]
        dsimp only
        rw [writeA hs u5 u4 hj]
        rfl
      · unfold F9_cell
        rw [shB_y hs, Option.bind_some, if_pos n10, if_pos (inb_of hs (by decide)), nI_clamp (by omega)]
        dsimp only
        rw [if_pos (show ¬ B 17 s = 0 by rw [u3]; decide), in_y (by rw [i64t, i64t, u6, show (0 : Int64).toInt = 0 from rfl, show (nI z - 1).toInt = (z : Int) - 1 from by rw [show (1 : Int32) = nI 1 from rfl, pk_sub_toInt (by omega) (by decide)]; rfl, nI_toInt (by omega)]; omega), Option.bind_some, if_pos n10]
        dsimp only
        rw [show (40 : Int32) * nI s + nI j = nI (40 * s + j) from by rw [show (40 : Int32) = nI 40 from rfl, pk_mul, nI_add], nI_clamp (by omega)]
        unfold nar
        have hin : inb (nI (40 * s + j)) 160 = true := inb_of (by omega) (by decide)
        rcases u1 with e | e | e
        · rw [if_neg (show ¬ ¬ B 18 s = 0 by rw [← u2, e]; decide), if_pos hin, if_pos e]
        · rw [if_pos (show ¬ B 18 s = 0 by rw [← u2, e]; decide), if_neg (show ¬ ¬ B 18 s = 1 by rw [← u2, e]; decide), if_pos hin, if_neg (by rw [e]; decide), if_neg (by rw [e]; decide)]
        · rw [if_pos (show ¬ B 18 s = 0 by rw [← u2, e]; decide), if_pos (show ¬ B 18 s = 1 by rw [← u2, e]; decide), if_pos hin, if_neg (by rw [e]; decide), if_pos e]
