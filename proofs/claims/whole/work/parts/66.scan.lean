def noteM (M : Mem) (k : Nat) (a b c : Int32) : Mem := up2 (up2 (up2 (up2 M 11 k a) 12 k b) 13 k c) 9 5 (nI (k + 1))
theorem note_eq {M : Mem} {k : Nat} (h : M 9 5 = nI k) (hk : k < 161) (a b c : Int32) : F3_note M a b c = some (0, noteM M k a b c) := by
  unfold F3_note noteM
  rw [h, if_pos (show nI k < 161 from nI_lt (b := 161) hk (by decide)), if_pos (inb_of hk (by decide)), nI_clamp (by omega), nI_1]
theorem noteM_o {M : Mem} {k : Nat} {a b c : Int32} {d : Nat} (h9 : d ≠ 9) (h11 : d ≠ 11) (h12 : d ≠ 12) (h13 : d ≠ 13) : noteM M k a b c d = M d := by
  unfold noteM
  rw [up2_ne h9, up2_ne h13, up2_ne h12, up2_ne h11]
theorem noteM_9 {M : Mem} {k : Nat} {a b c : Int32} {j : Nat} (h : j ≠ 5) : noteM M k a b c 9 j = M 9 j := by
  unfold noteM
  rw [up2_nk h, up2_ne (by decide), up2_ne (by decide), up2_ne (by decide)]
theorem noteM_5 {M : Mem} {k : Nat} {a b c : Int32} : noteM M k a b c 9 5 = nI (k + 1) := up2_at
theorem noteM_r {M : Mem} {k : Nat} {a b c : Int32} (j : Nat) : noteM M k a b c 11 j = (if j = k then a else M 11 j) ∧ noteM M k a b c 12 j = (if j = k then b else M 12 j) ∧ noteM M k a b c 13 j = if j = k then c else M 13 j := by
  unfold noteM up2
  simp
section
variable {bs : Nat → Int32} {z : Nat} {M : Mem}
theorem num_eq (hz : z ≤ 160) (hs : M 9 1 = nI z) (hb : M 10 = bs) {k : Nat} (h5 : M 9 5 = nI k) (hk : k < 161) {s : Nat} (hsz : s < z) : F3_scanNumber M (nI s) = some (nI (eD bs z s), noteM M k (if eD bs z s - s ≤ 4 then -3 else -2) (nI s) (nI (dv bs s (eD bs z s - s) s 0))) := by
  have fin : ∀ e acc, s ≤ e → e ≤ z → F3_scanNumber_j64 M (nI s) (nI acc) (nI e) = some (nI e, noteM M k (if e - s ≤ 4 then -3 else -2) (nI s) (nI acc)) := by
    intro e acc h1 h2
    unfold F3_scanNumber_j64 F3_scanNumber_j79
    rw [pk_sub h1, note_eq h5 hk, note_eq h5 hk, Option.bind_some, Option.bind_some]
    by_cases h : e - s ≤ 4
    · rw [if_pos (show nI (e - s) ≤ 4 from nI_le (b := 4) h (by decide)), if_pos h]
    · rw [if_neg (show ¬ nI (e - s) ≤ 4 from nI_ge (a := 4) (by omega) (by omega)), if_neg h]
  have key : ∀ (r fu i acc : Nat), i + r = z → r < fu → s ≤ i → F3_scanNumber_l7 fu M (nI s) (nI acc) (nI i) (nI i) = some (nI (runE isD bs (z - i) i), noteM M k (if runE isD bs (z - i) i - s ≤ 4 then -3 else -2) (nI s) (nI (dv bs s (runE isD bs (z - i) i - i) i acc))) := by
    intro r
    induction r with
    | zero =>
      intro fu i acc hi hf his
      obtain ⟨fu, rfl⟩ : ∃ f, fu = f + 1 := ⟨fu - 1, by omega⟩
      obtain rfl : i = z := by omega
      show F3_scanNumber_l7_b _ M _ _ _ (nI i) = _
      unfold F3_scanNumber_l7_b
      rw [hs, if_pos (nI_le (by omega) (by omega)), fin i acc his (Nat.le_refl _), runE_z (Nat.le_refl _), show i - i = 0 by omega]
      rfl
    | succ r ih =>
      intro fu i acc hi hf his
      obtain ⟨fu, rfl⟩ : ∃ f, fu = f + 1 := ⟨fu - 1, by omega⟩
      have hle := runE_le (p := isD) (bs := bs) (z - (i + 1)) (i + 1)
      show F3_scanNumber_l7_b _ M _ _ _ (nI i) = _
      unfold F3_scanNumber_l7_b F3_scanNumber_j53
      rw [hs, if_neg (nI_ge (by omega) (by omega)), if_pos (inb_of (by omega) (by decide)), nI_clamp (by omega), hb, isD_eq, Option.bind_some]
      cases hd : isD (bs i) with
      | false =>
        rw [if_neg Bool.false_ne_true, if_pos rfl, fin i acc his (by omega), runE_n hd, show i - i = 0 by omega]
        rfl
      | true =>
        rw [if_pos rfl, if_neg n10, runE_y (by omega) hd, nI_1]
        dsimp only
        rw [hb]
        obtain ⟨q, hq⟩ : ∃ q, runE isD bs (z - (i + 1)) (i + 1) - i = q + 1 := ⟨runE isD bs (z - (i + 1)) (i + 1) - i - 1, by omega⟩
        have hd2 : 48 ≤ (bs i).toInt ∧ (bs i).toInt ≤ 57 := of_decide_eq_true hd
        have e := ih fu (i + 1) (if i < s + 4 then acc * 10 + ((bs i).toInt.toNat - 48) else acc) (by omega) (by omega) (by omega)
        rw [show runE isD bs (z - (i + 1)) (i + 1) - (i + 1) = q by omega] at e
        rw [hq]
        show _ = some (_, noteM M k _ (nI s) (nI (dv bs s q (i + 1) (if i < s + 4 then acc * 10 + ((bs i).toInt.toNat - 48) else acc))))
        rw [← e, show (4 : Int32) = nI 4 from rfl, nI_add]
        by_cases h4 : i < s + 4
        · rw [if_neg (nI_ge h4 (by omega)), if_pos h4]
          have eb : nI acc * 10 + bs i - 48 = nI (acc * 10 + ((bs i).toInt.toNat - 48)) := by
            have h1 := nI_tN (x := bs i) (by omega)
            rw [show (10 : Int32) = nI 10 from rfl, pk_mul]
            conv => lhs; rw [← h1]
            rw [nI_add, show (48 : Int32) = nI 48 from rfl, pk_sub (by omega)]
            congr 1
            omega
          rw [eb]
        · rw [if_pos (nI_le (by omega) (by omega)), if_neg h4]
  exact key (z - s) FUEL s 0 (by omega) (by unfold FUEL; omega) (Nat.le_refl _)
theorem wrd_eq (hz : z ≤ 160) (hs : M 9 1 = nI z) (hb : M 10 = bs) {k : Nat} (h5 : M 9 5 = nI k) (hk : k < 161) {s : Nat} (hsz : s < z) : F3_scanWord M (nI s) = some (nI (eL bs z s), noteM M k (wk (wi bs s (eL bs z s) 12 0)) (nI s) (wv (wi bs s (eL bs z s) 12 0))) := by
  have fin : ∀ e, s ≤ e → e ≤ z → F3_scanWord_j34 M (nI s) (nI e) = some (nI e, noteM M k (wk (wi bs s e 12 0)) (nI s) (wv (wi bs s e 12 0))) := by
    intro e h1 h2
    unfold F3_scanWord_j34 wk wv
    rw [word_1 hz hs h1 h2, hb, Option.bind_some]
    dsimp only
    rw [note_eq h5 hk, note_eq h5 hk, note_eq h5 hk, Option.bind_some, Option.bind_some, Option.bind_some]
    by_cases c1 : wi bs s e 12 0 = -1
    · simp only [c1, if_true, not_true, if_false]
    · simp only [c1, if_false, not_false_iff, if_true]
      by_cases c2 : (6 : Int32) ≤ wi bs s e 12 0
      · simp only [c2, if_true]
      · simp only [c2, if_false]
  have key : ∀ (r fu i : Nat), i + r = z → r < fu → s ≤ i → F3_scanWord_l4 fu M (nI s) (nI i) (nI i) = F3_scanWord_j34 M (nI s) (nI (runE isL bs (z - i) i)) := by
    intro r
    induction r with
    | zero =>
      intro fu i hi hf his
      obtain ⟨fu, rfl⟩ : ∃ f, fu = f + 1 := ⟨fu - 1, by omega⟩
      obtain rfl : i = z := by omega
      show F3_scanWord_l4_b _ M _ _ (nI i) = _
      unfold F3_scanWord_l4_b
      rw [hs, if_pos (nI_le (by omega) (by omega)), runE_z (Nat.le_refl _)]
    | succ r ih =>
      intro fu i hi hf his
      obtain ⟨fu, rfl⟩ : ∃ f, fu = f + 1 := ⟨fu - 1, by omega⟩
      show F3_scanWord_l4_b _ M _ _ (nI i) = _
      unfold F3_scanWord_l4_b
      rw [hs, if_neg (nI_ge (by omega) (by omega)), if_pos (inb_of (by omega) (by decide)), nI_clamp (by omega), hb, isL_eq, Option.bind_some]
      cases hd : isL (bs i) with
      | false =>
        rw [if_neg Bool.false_ne_true, if_pos rfl, runE_n hd]
      | true =>
        rw [if_pos rfl, if_neg n10, runE_y (by omega) hd, nI_1]
        exact ih fu (i + 1) (by omega) (by omega) (by omega)
  have e := key (z - s) FUEL s (by omega) (by unfold FUEL; omega) (Nat.le_refl _)
  have hle := runE_le (p := isL) (bs := bs) (z - s) s
  exact e.trans (fin _ hle.1 (by omega))
def fi8 (x : Int32) : Nat → Nat → Int32
  | 0, _ => -1
  | k + 1, i => if sB 2 i = x then nI i else fi8 x k (i + 1)
theorem ioc (M : Mem) (x : Int32) : ∀ (k fu i : Nat), i + k = 8 → k < fu → FJ1_indexOfChar_4cfef_l7 2 fu M (nI 8) x (nI i) = some (fi8 x k i, M) := by
  intro k
  induction k with
  | zero =>
    intro fu i hi hf
    obtain ⟨fu, rfl⟩ : ∃ f, fu = f + 1 := ⟨fu - 1, by omega⟩
    obtain rfl : i = 8 := by omega
    show FJ1_indexOfChar_4cfef_l7_b 2 _ M _ x (nI 8) = _
    unfold FJ1_indexOfChar_4cfef_l7_b
    rw [if_pos (by decide)]
    rfl
  | succ k ih =>
    intro fu i hi hf
    obtain ⟨fu, rfl⟩ : ∃ f, fu = f + 1 := ⟨fu - 1, by omega⟩
    show FJ1_indexOfChar_4cfef_l7_b 2 _ M _ x (nI i) = _
    unfold FJ1_indexOfChar_4cfef_l7_b fi8
    rw [if_neg (nI_ge (by omega) (by decide)), if_pos (show inb (nI i) (sN 2) = true from inb_of (n := 8) (by omega) (by decide)), nI_clamp (by omega), nI_1]
    by_cases h : sB 2 i = x
    · rw [if_neg (fun q => q h), if_pos h]
    · rw [if_pos h, if_neg h]
      exact ih fu (i + 1) (by omega) (by omega)
theorem sg_ok : ∀ b, b < 256 → jchar (nI b) = nI b ∧ (isG (nI b) = true ↔ ¬ fi8 (Int8.toInt32 (Int32.toInt8 (nI b))) 8 0 < 0) := by decide +kernel
theorem sign_1 (M : Mem) {b : Nat} (hb : b < 256) : FJ0_indexOf_0f7a4 M 2 (jchar (nI b)) = some (fi8 (Int8.toInt32 (Int32.toInt8 (nI b))) 8 0, M) := by
  have e8 : FJ0_length_8abf5 M 2 = some (nI 8, M) := by
    unfold FJ0_length_8abf5 FJ0_coder_7d493
    rw [if_neg (by decide), Option.bind_some, show Int32.ofNat (sN 2) >>> ((0 : Int32) &&& 31) = nI 8 by decide]
  unfold FJ0_indexOf_0f7a4 FJ0_indexOf_7cf53 FJ0_isLatin1_aae02 FJ1_indexOf_4cfef FJ1_canEncode_9a6ad FJ1_indexOfChar_4cfef
  rw [(sg_ok b hb).1, if_neg (show ¬ (1 : Int32) = 0 by decide), if_neg (show ¬ ¬ (0 : Int32) = 0 by decide), Option.bind_some, if_neg (show ¬ (1 : Int32) = 0 by decide)]
  dsimp only
  rw [e8, Option.bind_some, if_neg (nI_pos (by omega)), if_neg (show ¬ (255 : Int32) < nI b from nI_nlt (a := 255) (by omega) (by decide)), Option.bind_some, if_pos n10]
  dsimp only
  rw [show jmax (0 : Int32) 0 = nI 0 by decide, show jmin (nI 8) (Int32.ofNat (sN 2)) = nI 8 by decide, if_pos (by decide), ioc M _ 8 FUEL 0 rfl (by unfold FUEL; omega)]
  rfl
theorem tok_eq (hz : z ≤ 160) (hs : M 9 1 = nI z) (hb : M 10 = bs) {k : Nat} (h5 : M 9 5 = nI k) (hk : k < 161) {s : Nat} (hsz : s < z) (hby : 0 ≤ (bs s).toInt ∧ (bs s).toInt ≤ 255) : F3_scanToken M (nI s) (bs s) = some (nI (te bs z s), noteM M k (kd bs z s) (nI s) (vl bs z s)) := by
  unfold F3_scanToken F3_scanToken_j43 kd vl te
  rw [isL_eq, Option.bind_some, if_pos hsz, if_pos hsz]
  cases hl : isL (bs s) with
  | true =>
    rw [if_pos rfl, if_neg n10]
    dsimp only
    rw [wrd_eq hz hs hb h5 hk hsz, Option.bind_some, if_pos rfl, if_pos rfl, if_pos rfl]
  | false =>
    rw [if_neg Bool.false_ne_true, if_pos rfl]
    dsimp only
    rw [isD_eq, Option.bind_some, if_neg Bool.false_ne_true, if_neg Bool.false_ne_true, if_neg Bool.false_ne_true]
    cases hd : isD (bs s) with
    | true =>
      rw [if_pos rfl, if_neg n10]
      dsimp only
      rw [num_eq hz hs hb h5 hk hsz, Option.bind_some, if_pos rfl, if_pos rfl, if_pos rfl]
    | false =>
      rw [if_neg Bool.false_ne_true, if_pos rfl]
      dsimp only
      rw [if_neg Bool.false_ne_true, if_neg Bool.false_ne_true, if_neg Bool.false_ne_true]
      obtain ⟨b, hbe, hb1, -⟩ := nat_of hby.1
      have hg := (sg_ok b (by omega)).2
      rw [hbe, sign_1 M (by omega), Option.bind_some, note_eq h5 hk, note_eq h5 hk, Option.bind_some, Option.bind_some, nI_1]
      by_cases h : isG (nI b) = true
      · rw [if_neg (hg.mp h), if_pos h]
      · rw [if_pos (show fi8 (Int8.toInt32 (Int32.toInt8 (nI b))) 8 0 < 0 from Classical.byContradiction (fun q => h (hg.mpr q))), if_neg h]
end
/-- the class' tokens -/
def LX (bs : Nat → Int32) (z m : Nat) (A : Mem) : Prop := A 9 1 = nI z ∧ A 10 = bs ∧ A 9 5 = nI m ∧ 1 ≤ m ∧ m ≤ 161 ∧ (∀ i, i < m → A 11 i = kd bs z (plc bs z i) ∧ A 12 i = nI (plc bs z i) ∧ A 13 i = vl bs z (plc bs z i)) ∧ (∀ i, i + 1 < m → plc bs z i < z ∧ ¬ kd bs z (plc bs z i) = -2) ∧ (plc bs z (m - 1) = z ∨ (plc bs z (m - 1) < z ∧ kd bs z (plc bs z (m - 1)) = -2))
theorem scan_eq {bs : Nat → Int32} {z : Nat} (hz : z ≤ 160) (hby : ∀ i, i < z → 0 ≤ (bs i).toInt ∧ (bs i).toInt ≤ 255) {A : Mem} (hs : A 9 1 = nI z) (hb : A 10 = bs) : ∃ m A', F3_scan A = some (0, A') ∧ LX bs z m A' ∧ FA [9, 11, 12, 13] A A' ∧ ∀ k, k ≠ 5 → A' 9 k = A 9 k := by
  have fin : ∀ (fu i k : Nat) (M : Mem), k ≤ z → FA [9, 11, 12, 13] A M → (∀ q, q ≠ 5 → M 9 q = A 9 q) → M 9 5 = nI k → plc bs z k = z → (∀ j, j < k → (M 11 j = kd bs z (plc bs z j) ∧ M 12 j = nI (plc bs z j) ∧ M 13 j = vl bs z (plc bs z j)) ∧ plc bs z j < z ∧ ¬ kd bs z (plc bs z j) = -2) → ∃ m A', F3_scan_l9 (fu + 1) M (nI z) (nI i) = some (0, A') ∧ LX bs z m A' ∧ FA [9, 11, 12, 13] A A' ∧ ∀ k, k ≠ 5 → A' 9 k = A 9 k := by
    intro fu i k M hka hF h9 h5 hpz hpre
    have hs2 : M 9 1 = nI z := by rw [h9 1 (by decide)]; exact hs
    have e86 : F3_scan_j86 M = some (0, noteM M k (-1) (nI z) 0) := by
      unfold F3_scan_j86
      rw [hs2, note_eq h5 (by omega)]
      rfl
    refine ⟨k + 1, noteM M k (-1) (nI z) 0, ?_, ⟨?_, ?_, noteM_5, by omega, by omega, fun j hj => ?_, fun j hj => (hpre j (by omega)).2, .inl hpz⟩, fun c hc => ?_, fun q hq => ?_⟩
    · show F3_scan_l9_b _ M (nI z) (nI i) = _
      unfold F3_scan_l9_b
      rw [hs2, if_pos (show nI z ≤ nI z from nI_le (Nat.le_refl _) (by omega)), ite_self]
      exact e86
    · rw [noteM_9 (by decide)]; exact hs2
    · rw [noteM_o (by decide) (by decide) (by decide) (by decide), hF 10 (by decide)]; exact hb
    · obtain ⟨n1, n2, n3⟩ := noteM_r (M := M) (k := k) (a := -1) (b := nI z) (c := 0) j
      rw [n1, n2, n3]
      by_cases e : j = k
      · subst e
        rw [if_pos rfl, if_pos rfl, if_pos rfl, hpz]
        unfold kd vl
        rw [if_neg (Nat.lt_irrefl _), if_neg (Nat.lt_irrefl _)]
        exact ⟨rfl, rfl, rfl⟩
      · rw [if_neg e, if_neg e, if_neg e]
        exact (hpre j (by omega)).1
    · simp only [List.mem_cons, List.not_mem_nil, or_false, not_or] at hc
      rw [noteM_o (by omega) (by omega) (by omega) (by omega)]
      exact hF c (by simp; omega)
    · rw [noteM_9 hq]; exact h9 q hq
  have key : ∀ (r fu a i k : Nat) (M : Mem), z ≤ a + r → a ≤ z → r < fu → i ≤ a → k ≤ a → FA [9, 11, 12, 13] A M → (∀ q, q ≠ 5 → M 9 q = A 9 q) → M 9 5 = nI k → plc bs z k = sk bs z a → (∀ j, j < k → (M 11 j = kd bs z (plc bs z j) ∧ M 12 j = nI (plc bs z j) ∧ M 13 j = vl bs z (plc bs z j)) ∧ plc bs z j < z ∧ ¬ kd bs z (plc bs z j) = -2) → ∃ m A', F3_scan_l9 fu M (nI a) (nI i) = some (0, A') ∧ LX bs z m A' ∧ FA [9, 11, 12, 13] A A' ∧ ∀ k, k ≠ 5 → A' 9 k = A 9 k := by
    intro r
    induction r with
    | zero =>
      intro fu a i k M ha haz hf hia hka hF h9 h5 hp hpre
      obtain ⟨fu, rfl⟩ : ∃ f, fu = f + 1 := ⟨fu - 1, by omega⟩
      obtain rfl : a = z := by omega
      exact fin fu i k M hka hF h9 h5 (by rw [hp]; exact runE_z (Nat.le_refl _)) hpre
    | succ r ih =>
      intro fu a i k M ha haz hf hia hka hF h9 h5 hp hpre
      obtain ⟨fu, rfl⟩ : ∃ f, fu = f + 1 := ⟨fu - 1, by omega⟩
      by_cases haz2 : a = z
      · subst haz2
        exact fin fu i k M hka hF h9 h5 (by rw [hp]; exact runE_z (Nat.le_refl _)) hpre
      have hlt : a < z := by omega
      have hs2 : M 9 1 = nI z := by rw [h9 1 (by decide)]; exact hs
      have hb2 : M 10 = bs := by rw [hF 10 (by decide)]; exact hb
      show ∃ m A', F3_scan_l9_b (F3_scan_l9 fu) M (nI a) (nI i) = some (0, A') ∧ _
      unfold F3_scan_l9_b F3_scan_j43 F3_scan_j80
      rw [hs2, if_neg (show ¬ (160 : Int32) ≤ nI i from nI_ge (b := 160) (by omega) (by decide)), if_neg (nI_ge hlt (by omega)), if_pos (inb_of (by omega) (by decide)), nI_clamp (by omega), hb2, nI_1, nI_1]
      have blank : isB (bs a) = true → ∃ m A', F3_scan_l9 fu M (nI (a + 1)) (nI (i + 1)) = some (0, A') ∧ LX bs z m A' ∧ FA [9, 11, 12, 13] A A' ∧ ∀ k, k ≠ 5 → A' 9 k = A 9 k := fun hbl => ih fu (a + 1) (i + 1) k M (by omega) (by omega) (by omega) (by omega) (by omega) hF h9 h5 (by rw [hp]; exact runE_y hlt hbl) hpre
      by_cases c1 : bs a = 32
      · rw [if_pos c1]
        exact blank (decide_eq_true (.inl c1))
      · rw [if_neg c1]
        by_cases c2 : bs a = 10
        · rw [if_neg (fun q => q c2)]
          exact blank (decide_eq_true (.inr c2))
        · have hnb : isB (bs a) = false := decide_eq_false (fun q => q.elim c1 c2)
          have hpa : plc bs z k = a := by rw [hp]; exact runE_n hnb
          have ht := te_le (bs := bs) hlt
          rw [if_pos c2, tok_eq hz hs2 hb2 h5 (by omega) hlt (hby a hlt), Option.bind_some]
          dsimp only
          have hr := fun j => noteM_r (M := M) (k := k) (a := kd bs z a) (b := nI a) (c := vl bs z a) j
          have hF2 : FA [9, 11, 12, 13] A (noteM M k (kd bs z a) (nI a) (vl bs z a)) := fun c hc => by
            simp only [List.mem_cons, List.not_mem_nil, or_false, not_or] at hc
            rw [noteM_o (by omega) (by omega) (by omega) (by omega)]
            exact hF c (by simp; omega)
          have h92 : ∀ q, q ≠ 5 → noteM M k (kd bs z a) (nI a) (vl bs z a) 9 q = A 9 q := fun q hq => by rw [noteM_9 hq]; exact h9 q hq
          have hrow : ∀ j, j < k + 1 → noteM M k (kd bs z a) (nI a) (vl bs z a) 11 j = kd bs z (plc bs z j) ∧ noteM M k (kd bs z a) (nI a) (vl bs z a) 12 j = nI (plc bs z j) ∧ noteM M k (kd bs z a) (nI a) (vl bs z a) 13 j = vl bs z (plc bs z j) := fun j hj => by
            obtain ⟨n1, n2, n3⟩ := hr j
            rw [n1, n2, n3]
            by_cases e : j = k
            · subst e
              rw [if_pos rfl, if_pos rfl, if_pos rfl, hpa]
              exact ⟨rfl, rfl, rfl⟩
            · rw [if_neg e, if_neg e, if_neg e]
              exact (hpre j (by omega)).1
          simp only [noteM_5, show nI (k + 1) - 1 = nI k from nI_pred k]
          rw [if_neg (nI_nle (by omega) (by omega)), if_pos (inb_of (by omega) (by decide)), nI_clamp (by omega)]
          simp only [(hrow k (by omega)).1, hpa]
          by_cases c3 : kd bs z a = -2
          · rw [if_neg (fun q => q c3)]
            refine ⟨k + 1, _, rfl, ⟨?_, ?_, noteM_5, by omega, by omega, hrow, fun j hj => (hpre j (by omega)).2, .inr ⟨by rw [Nat.add_sub_cancel, hpa]; exact hlt, by rw [Nat.add_sub_cancel, hpa]; exact c3⟩⟩, hF2, h92⟩
            · rw [noteM_9 (by decide)]; exact hs2
            · rw [noteM_o (by decide) (by decide) (by decide) (by decide)]; exact hb2
          · rw [if_pos c3]
            refine ih fu (te bs z a) (i + 1) (k + 1) _ (by omega) ht.2 (by omega) (by omega) (by omega) hF2 h92 noteM_5 (by show sk bs z (te bs z (plc bs z k)) = _; rw [hpa]) (fun j hj => ⟨hrow j hj, ?_⟩)
            by_cases e : j = k
            · subst e; rw [hpa]; exact ⟨hlt, c3⟩
            · exact (hpre j (by omega)).2
  obtain ⟨m, A', e, r⟩ := key z FUEL 0 0 0 (up2 A 9 5 0) (by omega) (by omega) (by unfold FUEL; omega) (by omega) (by omega) (FA.rf.up (by decide)) (fun q hq => up2_nk hq) up2_at rfl (fun j hj => absurd hj (by omega))
  exact ⟨m, A', e, r⟩
