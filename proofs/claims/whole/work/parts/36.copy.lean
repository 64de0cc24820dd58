/-- the reference's copying, upwards -/
theorem copy_up (N0 : Mem) (x1 x2 x3 x4 src dst w : Nat) (hsrc : src = 40 * x1 + x2) (hdst : dst = 40 * x3 + x4) (h1 : src + w ≤ 160) (h2 : dst + w ≤ 160) (hC : ∀ i t, t < i → i < w → src + i ≠ dst + t) : ∀ (k fu i : Nat) (N : Mem), i + k = w → k < fu → (∀ c, c ≠ 20 → N c = N0 c) → (∀ r, r < dst ∨ dst + i ≤ r → N 20 r = N0 20 r) → (∀ t, t < i → N 20 (dst + t) = N0 20 (src + t)) → ∃ N', F9_copy_l121 fu N (nI x1) (nI x2) (nI x3) (nI x4) (nI w) 0 (nI i) = some (nI w, N') ∧ (∀ c, c ≠ 20 → N' c = N0 c) ∧ (∀ r, r < dst ∨ dst + w ≤ r → N' 20 r = N0 20 r) ∧ ∀ t, t < w → N' 20 (dst + t) = N0 20 (src + t) := by
  intro k
  induction k with
  | zero =>
    intro fu i N hk hf hc ho hd
    obtain ⟨fu, rfl⟩ : ∃ f, fu = f + 1 := ⟨fu - 1, by omega⟩
    obtain rfl : i = w := by omega
    refine ⟨N, ?_, hc, ho, hd⟩
    show F9_copy_l121_b _ N _ _ _ _ (nI i) 0 (nI i) = _
    unfold F9_copy_l121_b
    rw [if_pos (nI_le (by omega) (by omega))]
  | succ k ih =>
    intro fu i N hk hf hc ho hd
    obtain ⟨fu, rfl⟩ : ∃ f, fu = f + 1 := ⟨fu - 1, by omega⟩
    have es : N 20 (src + i) = N0 20 (src + i) := by
      by_cases hin : src + i < dst ∨ dst + i ≤ src + i
      · exact ho _ hin
      · exact absurd (show src + i = dst + (src + i - dst) by omega) (hC i (src + i - dst) (by omega) (by omega))
    obtain ⟨N', e, hh⟩ := ih fu (i + 1) (up2 N 20 (dst + i) (N 20 (src + i))) (by omega) (by omega) (fun c h => by rw [up2_ne h]; exact hc c h) (fun r hr => by rw [up2_nk (by omega)]; exact ho r (by omega)) (fun t ht => by
      by_cases et : t = i
      · subst et; rw [up2_at, es]
      · rw [up2_nk (by omega)]; exact hd t (by omega))
    refine ⟨N', ?_, hh⟩
    show F9_copy_l121_b _ N _ _ _ _ (nI w) 0 (nI i) = _
    unfold F9_copy_l121_b F9_copy_j145
    rw [if_neg (nI_ge (by omega) (by omega)), if_pos rfl, show ((40 : Int32) * nI x1 + nI x2) + nI i = nI (src + i) from by rw [show (40 : Int32) = nI 40 from rfl, pk_mul, nI_add, nI_add, hsrc], show ((40 : Int32) * nI x3 + nI x4) + nI i = nI (dst + i) from by rw [show (40 : Int32) = nI 40 from rfl, pk_mul, nI_add, nI_add, hdst], if_pos (inb_of (by omega) (by decide)), if_pos (inb_of (by omega) (by decide)), nI_clamp (by omega), nI_clamp (by omega), nI_1]
    exact e
/-- the reference's copying, downwards -/
theorem copy_dn (N0 : Mem) (x1 x2 x3 x4 src dst w : Nat) (hsrc : src = 40 * x1 + x2) (hdst : dst = 40 * x3 + x4) (h1 : src + w ≤ 160) (h2 : dst + w ≤ 160) (hC : src < dst) : ∀ (k fu i : Nat) (N : Mem), i + k = w → k < fu → (∀ c, c ≠ 20 → N c = N0 c) → (∀ r, r < dst + k ∨ dst + w ≤ r → N 20 r = N0 20 r) → (∀ t, k ≤ t → t < w → N 20 (dst + t) = N0 20 (src + t)) → ∃ N', F9_copy_l121 fu N (nI x1) (nI x2) (nI x3) (nI x4) (nI w) 1 (nI i) = some (nI w, N') ∧ (∀ c, c ≠ 20 → N' c = N0 c) ∧ (∀ r, r < dst ∨ dst + w ≤ r → N' 20 r = N0 20 r) ∧ ∀ t, t < w → N' 20 (dst + t) = N0 20 (src + t) := by
  intro k
  induction k with
  | zero =>
    intro fu i N hk hf hc ho hd
    obtain ⟨fu, rfl⟩ : ∃ f, fu = f + 1 := ⟨fu - 1, by omega⟩
    obtain rfl : i = w := by omega
    refine ⟨N, ?_, hc, fun r hr => ho r (by omega), fun t ht => hd t (by omega) ht⟩
    show F9_copy_l121_b _ N _ _ _ _ (nI i) 1 (nI i) = _
    unfold F9_copy_l121_b
    rw [if_pos (nI_le (by omega) (by omega))]
  | succ k ih =>
    intro fu i N hk hf hc ho hd
    obtain ⟨fu, rfl⟩ : ∃ f, fu = f + 1 := ⟨fu - 1, by omega⟩
    have es : N 20 (src + k) = N0 20 (src + k) := ho _ (by omega)
    obtain ⟨N', e, hh⟩ := ih fu (i + 1) (up2 N 20 (dst + k) (N 20 (src + k))) (by omega) (by omega) (fun c h => by rw [up2_ne h]; exact hc c h) (fun r hr => by rw [up2_nk (by omega)]; exact ho r (by omega)) (fun t ht ht2 => by
      by_cases et : t = k
      · subst et; rw [up2_at, es]
      · rw [up2_nk (by omega)]; exact hd t (by omega) ht2)
    refine ⟨N', ?_, hh⟩
    have ek : (nI w - 1) - nI i = nI k := by
      rw [show (1 : Int32) = nI 1 from rfl, pk_sub (by omega), pk_sub (by omega), show w - 1 - i = k by omega]
    show F9_copy_l121_b _ N _ _ _ _ (nI w) 1 (nI i) = _
    unfold F9_copy_l121_b F9_copy_j145
    rw [if_neg (nI_ge (by omega) (by omega)), if_neg n10, ek, show ((40 : Int32) * nI x1 + nI x2) + nI k = nI (src + k) from by rw [show (40 : Int32) = nI 40 from rfl, pk_mul, nI_add, nI_add, hsrc], show ((40 : Int32) * nI x3 + nI x4) + nI k = nI (dst + k) from by rw [show (40 : Int32) = nI 40 from rfl, pk_mul, nI_add, nI_add, hdst], if_pos (inb_of (by omega) (by decide)), if_pos (inb_of (by omega) (by decide)), nI_clamp (by omega), nI_clamp (by omega), nI_1]
    exact e
