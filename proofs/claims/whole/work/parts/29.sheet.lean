/-- one sheet on both sides -/
def RS1 (s : Nat) (A B : Mem) : Prop := (A 43 s = -1 ∧ B 17 s = 0) ∨ ((A 43 s = 0 ∨ A 43 s = 1 ∨ A 43 s = 2) ∧ A 43 s = B 18 s ∧ B 17 s = 1 ∧ ∃ z, z ≤ 40 ∧ A 44 s = nI z ∧ B 19 s = nI z ∧ ∀ j, j < z → A (46 + s) j = B 20 (40 * s + j))
def RS (A B : Mem) : Prop := ∀ s, s < 4 → RS1 s A B
theorem RS.cong {A A' B B' : Mem} (h : RS A B) (h1 : A' 43 = A 43) (h2 : A' 44 = A 44) (h3 : ∀ s, s < 4 → A' (46 + s) = A (46 + s)) (k1 : B' 17 = B 17) (k2 : B' 18 = B 18) (k3 : B' 19 = B 19) (k4 : B' 20 = B 20) : RS A' B' := by
  intro s hs
  have := h s hs
  unfold RS1 at *
  rw [h1, h2, h3 s hs, k1, k2, k3, k4]
  exact this
theorem shA_eq (A : Mem) (x : Int32) : F5_holds A x = some (if 0 ≤ x.toInt ∧ x.toInt < 4 then 1 else 0, A) := by
  unfold F5_holds
  simp only [ile, ilt, Int32.reduceToInt]
  by_cases h1 : x.toInt < 0
  · rw [if_pos h1, if_neg (by omega)]
  · rw [if_neg h1]
    by_cases h2 : (4 : Int) ≤ x.toInt
    · rw [if_pos h2, if_neg (by omega)]
    · rw [if_neg h2, if_pos (by omega)]
theorem shB_eq (B : Mem) (x : Int32) : F9_isSheet B x = some (if 0 ≤ x.toInt ∧ x.toInt < 4 then 1 else 0, B) := by
  unfold F9_isSheet
  rw [F9_in_eq, i64t, show (0 : Int64).toInt = 0 from rfl, show (3 : Int64).toInt = 3 from rfl]
  by_cases h : 0 ≤ x.toInt ∧ x.toInt < 4
  · rw [if_pos h, if_pos (by omega)]; rfl
  · rw [if_neg h, if_neg (by omega)]; rfl
theorem shA_y {A : Mem} {s : Nat} (h : s < 4) : F5_holds A (nI s) = some (1, A) := by rw [shA_eq, nI_toInt (by omega), if_pos (by omega)]
theorem shB_y {A : Mem} {s : Nat} (h : s < 4) : F9_isSheet A (nI s) = some (1, A) := by rw [shB_eq, nI_toInt (by omega), if_pos (by omega)]
theorem shA_n {A : Mem} {x : Int32} (h : x.toInt < 0 ∨ (4 : Int) ≤ x.toInt) : F5_holds A x = some (0, A) := by rw [shA_eq, if_neg (by omega)]
theorem shB_n {A : Mem} {x : Int32} (h : x.toInt < 0 ∨ (4 : Int) ≤ x.toInt) : F9_isSheet A x = some (0, A) := by rw [shB_eq, if_neg (by omega)]
theorem lay_l (s : Nat) (hs : s < 4) : ∀ (k fu i : Nat) (M : Mem), i + k = 40 → k < fu → (∀ j, j < i → M (46 + s) j = 0) → ∃ M', F5_lay_l36 fu M (nI s) (nI i) = some (0, M') ∧ FA [46 + s] M M' ∧ ∀ j, j < 40 → M' (46 + s) j = 0 := by
  intro k
  induction k with
  | zero =>
    intro fu i M hk hf hlo
    obtain ⟨fu, rfl⟩ : ∃ f, fu = f + 1 := ⟨fu - 1, by omega⟩
    obtain rfl : i = 40 := by omega
    exact ⟨M, rfl, FA.rf, hlo⟩
  | succ k ih =>
    intro fu i M hk hf hlo
    obtain ⟨fu, rfl⟩ : ∃ f, fu = f + 1 := ⟨fu - 1, by omega⟩
    obtain ⟨M', e, hF, hh⟩ := ih fu (i + 1) (up2 M (46 + s) i 0) (by omega) (by omega) (fun j hj => by
      by_cases ej : j = i
      · subst ej; exact up2_at
      · rw [up2_nk ej]; exact hlo j (by omega))
    refine ⟨M', ?_, fun c hc => ?_, hh⟩
    · show F5_lay_l36_b _ M (nI s) (nI i) = _
      unfold F5_lay_l36_b
      rw [show (40 : Int32) = nI 40 from rfl, if_neg (nI_ge (by omega) (by omega)), if_pos (inb_of hs (by decide)), if_pos (inb_of (by omega) (by decide)), nI_clamp (by omega), nI_clamp (by omega), nI_1]
      exact e
    · rw [hF c hc, up2_ne (by simpa using hc)]
theorem lay_A (A : Mem) (s z : Nat) (hs : s < 4) (hz : z ≤ 40) (x : Int32) : ∃ A', F5_lay A (nI s) x (nI z) = some (0, A') ∧ FA [43, 44, 46 + s] A A' ∧ A' 43 s = x ∧ A' 44 s = nI z ∧ (∀ r, r ≠ s → A' 43 r = A 43 r ∧ A' 44 r = A 44 r) ∧ ∀ j, j < 40 → A' (46 + s) j = 0 := by
  obtain ⟨A', e, hF, hh⟩ := lay_l s hs 40 FUEL 0 (up2 (up2 A 43 s x) 44 s (nI z)) (by omega) (by unfold FUEL; omega) (fun j hj => absurd hj (by omega))
  have e43 : A' 43 = up2 A 43 s x 43 := by rw [hF 43 (by simp; omega), up2_ne (by decide)]
  have e44 : A' 44 = up2 (up2 A 43 s x) 44 s (nI z) 44 := hF 44 (by simp; omega)
  refine ⟨A', ?_, fun c hc => ?_, ?_, ?_, fun r hr => ⟨?_, ?_⟩, hh⟩
  · unfold F5_lay
    rw [shA_y hs, Option.bind_some, if_neg n10, if_neg (by rw [ilt, nI_toInt (by omega)]; simp), if_pos (by rw [ile, nI_toInt (by omega)]; simp; omega), if_pos (inb_of hs (by decide)), nI_clamp (by omega)]
    exact e
  · simp only [List.mem_cons, List.not_mem_nil, or_false, not_or] at hc
    rw [hF c (by simpa using hc.2.2), up2_ne hc.2.1, up2_ne hc.1]
  · rw [e43, up2_at]
  · rw [e44, up2_at]
  · rw [e43, up2_nk hr]
  · rw [e44, up2_nk hr, up2_ne (by decide)]
theorem sheet_l (s z : Nat) (hs : s < 4) (hz : z ≤ 40) (x : Int32) (hx : ¬ x < 0) : ∀ (k fu i : Nat) (M : Mem), i + k = z → k < fu → (∀ j, j < i → M 20 (40 * s + j) = 0) → ∃ M', F9_sheet_l77 fu M (nI s) x (nI z) (nI i) = some (1, M') ∧ (∀ c, c ≠ 20 → M' c = M c) ∧ (∀ r, r < 40 * s ∨ 40 * s + 40 ≤ r → M' 20 r = M 20 r) ∧ ∀ j, j < z → M' 20 (40 * s + j) = 0 := by
  intro k
  induction k with
  | zero =>
    intro fu i M hk hf hlo
    obtain ⟨fu, rfl⟩ : ∃ f, fu = f + 1 := ⟨fu - 1, by omega⟩
    obtain rfl : i = z := by omega
    refine ⟨M, ?_, fun _ _ => rfl, fun _ _ => rfl, hlo⟩
    show F9_sheet_l77_b _ M (nI s) x (nI i) (nI i) = _
    unfold F9_sheet_l77_b
    rw [if_pos (nI_le (by omega) (by omega))]
  | succ k ih =>
    intro fu i M hk hf hlo
    obtain ⟨fu, rfl⟩ : ∃ f, fu = f + 1 := ⟨fu - 1, by omega⟩
    obtain ⟨M', e, h1, h2, h3⟩ := ih fu (i + 1) (up2 M 20 (40 * s + i) 0) (by omega) (by omega) (fun j hj => by
      by_cases ej : j = i
      · subst ej; exact up2_at
      · rw [up2_nk (by omega)]; exact hlo j (by omega))
    refine ⟨M', ?_, fun c hc => by rw [h1 c hc, up2_ne hc], fun r hr => by rw [h2 r hr, up2_nk (by omega)], h3⟩
    show F9_sheet_l77_b _ M (nI s) x (nI z) (nI i) = _
    unfold F9_sheet_l77_b
    rw [if_neg (nI_ge (by omega) (by omega)), if_neg hx, show (40 : Int32) * nI s + nI i = nI (40 * s + i) from by rw [show (40 : Int32) = nI 40 from rfl, pk_mul, nI_add], if_pos (inb_of (by omega) (by decide)), nI_clamp (by omega), nI_1]
    exact e
