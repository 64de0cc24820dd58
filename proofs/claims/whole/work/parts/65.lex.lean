/-! TEXTS: tokens, and how the class scans them -/
def runE (p : Int32 → Bool) (bs : Nat → Int32) : Nat → Nat → Nat
  | 0, a => a
  | k + 1, a => if p (bs a) = true then runE p bs k (a + 1) else a
def isL (c : Int32) : Bool := decide (97 ≤ c.toInt ∧ c.toInt ≤ 122)
def isD (c : Int32) : Bool := decide (48 ≤ c.toInt ∧ c.toInt ≤ 57)
def isB (c : Int32) : Bool := decide (c = 32 ∨ c = 10)
def isG (c : Int32) : Bool := decide (c = 40 ∨ c = 41 ∨ c = 59 ∨ c = 43 ∨ c = 45 ∨ c = 42 ∨ c = 60 ∨ c = 61)
def dv (bs : Nat → Int32) (s : Nat) : Nat → Nat → Nat → Nat
  | 0, _, acc => acc
  | k + 1, i, acc => dv bs s k (i + 1) (if i < s + 4 then acc * 10 + ((bs i).toInt.toNat - 48) else acc)
def wlL : List Nat := [5, 6, 5, 4, 4, 4, 5, 4, 5, 2, 3, 3]
def wfL : List Nat := [0, 6, 13, 19, 24, 29, 34, 40, 45, 51, 54, 58]
def wln (j : Nat) : Nat := wlL.getD j 0
def wfr (j : Nat) : Nat := wfL.getD j 0
def eqs (bs : Nat → Int32) : Nat → Nat → Nat → Bool
  | 0, _, _ => true
  | k + 1, s, fr => decide (sB 1 fr = bs s) && eqs bs k (s + 1) (fr + 1)
def wm (bs : Nat → Int32) (s e j : Nat) : Bool := decide (e - s = wln j) && eqs bs (wln j) s (wfr j)
def wi (bs : Nat → Int32) (s e : Nat) : Nat → Nat → Int32
  | 0, _ => -1
  | k + 1, j => if wm bs s e j = true then nI j else wi bs s e k (j + 1)
section
variable (bs : Nat → Int32) (z : Nat)
def sk (h : Nat) : Nat := runE isB bs (z - h) h
def eL (s : Nat) : Nat := runE isL bs (z - s) s
def eD (s : Nat) : Nat := runE isD bs (z - s) s
def te (s : Nat) : Nat := if isL (bs s) = true then eL bs z s else if isD (bs s) = true then eD bs z s else s + 1
def wk (w : Int32) : Int32 := if w = -1 then -2 else if (6 : Int32) ≤ w then -5 - w else -4
def wv (w : Int32) : Int32 := if w = -1 then 0 else if (6 : Int32) ≤ w then 0 else -1 - w
def kd (s : Nat) : Int32 := if s < z then (if isL (bs s) = true then wk (wi bs s (eL bs z s) 12 0) else if isD (bs s) = true then (if eD bs z s - s ≤ 4 then -3 else -2) else if isG (bs s) = true then bs s else -2) else -1
def vl (s : Nat) : Int32 := if s < z then (if isL (bs s) = true then wv (wi bs s (eL bs z s) 12 0) else if isD (bs s) = true then nI (dv bs s (eD bs z s - s) s 0) else 0) else 0
def plc : Nat → Nat
  | 0 => sk bs z 0
  | i + 1 => sk bs z (te bs z (plc i))
end
theorem runE_le {p : Int32 → Bool} {bs : Nat → Int32} : ∀ (k a : Nat), a ≤ runE p bs k a ∧ runE p bs k a ≤ a + k
  | 0, a => ⟨Nat.le_refl _, Nat.le_refl _⟩
  | k + 1, a => by
    unfold runE
    have := runE_le (p := p) (bs := bs) k (a + 1)
    split <;> omega
theorem runE_in {p : Int32 → Bool} {bs : Nat → Int32} : ∀ {k a x : Nat}, a ≤ x → x < runE p bs k a → p (bs x) = true
  | 0, a, x, h1, h2 => by unfold runE at h2; omega
  | k + 1, a, x, h1, h2 => by
    unfold runE at h2
    by_cases h : p (bs a) = true
    · rw [if_pos h] at h2
      by_cases e : x = a
      · rw [e]; exact h
      · exact runE_in (k := k) (a := a + 1) (by omega) h2
    · rw [if_neg h] at h2
      omega
theorem runE_y {p : Int32 → Bool} {bs : Nat → Int32} {z a : Nat} (ha : a < z) (h : p (bs a) = true) : runE p bs (z - a) a = runE p bs (z - (a + 1)) (a + 1) := by
  obtain ⟨k, hk⟩ : ∃ k, z - a = k + 1 := ⟨z - a - 1, by omega⟩
  rw [hk, show z - (a + 1) = k by omega]
  show (if p (bs a) = true then _ else _) = _
  rw [if_pos h]
theorem runE_n {p : Int32 → Bool} {bs : Nat → Int32} {k a : Nat} (h : p (bs a) = false) : runE p bs k a = a := by
  cases k with
  | zero => rfl
  | succ k =>
    show (if p (bs a) = true then _ else _) = _
    rw [if_neg (by rw [h]; exact Bool.false_ne_true)]
theorem runE_z {p : Int32 → Bool} {bs : Nat → Int32} {z a : Nat} (h : z ≤ a) : runE p bs (z - a) a = a := by
  rw [show z - a = 0 by omega]
  rfl
theorem sk_le {bs : Nat → Int32} {z h : Nat} (hz : h ≤ z) : h ≤ sk bs z h ∧ sk bs z h ≤ z := by
  have := runE_le (p := isB) (bs := bs) (z - h) h
  unfold sk
  omega
theorem te_le {bs : Nat → Int32} {z s : Nat} (hz : s < z) : s < te bs z s ∧ te bs z s ≤ z := by
  unfold te eL eD
  split
  · rename_i h
    have := runE_le (p := isL) (bs := bs) (z - (s + 1)) (s + 1)
    rw [runE_y hz h]
    omega
  · split
    · rename_i h
      have := runE_le (p := isD) (bs := bs) (z - (s + 1)) (s + 1)
      rw [runE_y hz h]
      omega
    · omega
theorem plc_le {bs : Nat → Int32} {z i : Nat} (h : ∀ j, j < i → plc bs z j < z) : plc bs z i ≤ z ∧ i ≤ plc bs z i := by
  induction i with
  | zero => exact ⟨(sk_le (Nat.zero_le _)).2, Nat.zero_le _⟩
  | succ i ih =>
    have h1 := ih (fun j hj => h j (by omega))
    have h2 := te_le (bs := bs) (h i (by omega))
    have h3 := sk_le (bs := bs) h2.2
    show sk bs z (te bs z (plc bs z i)) ≤ z ∧ _ ≤ sk bs z (te bs z (plc bs z i))
    omega
theorem isL_eq (M : Mem) (c : Int32) : F3_isLetter M c = some (if isL c = true then 1 else 0, M) := by
  have e1 : (97 : Int32).toInt = 97 := by decide
  have e2 : (122 : Int32).toInt = 122 := by decide
  unfold F3_isLetter isL
  simp only [decide_eq_true_iff]
  by_cases h1 : c < 97
  · rw [if_pos h1, if_neg (by rw [ilt, e1] at h1; omega)]
  · rw [if_neg h1]
    by_cases h2 : 122 < c
    · rw [if_pos h2, if_neg (by rw [ilt, e2] at h2; omega)]
    · rw [if_neg h2, if_pos (by rw [ilt, e1] at h1; rw [ilt, e2] at h2; omega)]
theorem isD_eq (M : Mem) (c : Int32) : F3_isDigit M c = some (if isD c = true then 1 else 0, M) := by
  have e1 : (48 : Int32).toInt = 48 := by decide
  have e2 : (57 : Int32).toInt = 57 := by decide
  unfold F3_isDigit isD
  simp only [decide_eq_true_iff]
  by_cases h1 : c < 48
  · rw [if_pos h1, if_neg (by rw [ilt, e1] at h1; omega)]
  · rw [if_neg h1]
    by_cases h2 : 57 < c
    · rw [if_pos h2, if_neg (by rw [ilt, e2] at h2; omega)]
    · rw [if_neg h2, if_pos (by rw [ilt, e1] at h1; rw [ilt, e2] at h2; omega)]
theorem chr_ok : ∀ i, i < 62 → jchar (sB 1 i &&& (255 : Int32)) = sB 1 i ∧ cch (sB 1 i) = true := by decide +kernel
theorem len_1 (M : Mem) : FJ0_length_8abf5 M 1 = some (nI 62, M) := by
  unfold FJ0_length_8abf5 FJ0_coder_7d493
  rw [if_neg (by decide), Option.bind_some, show Int32.ofNat (sN 1) >>> ((0 : Int32) &&& 31) = nI 62 by decide]
theorem chr_1 (M : Mem) {i : Nat} (hi : i < 62) : FJ0_charAt_5068e M 1 (nI i) = some (sB 1 i, M) := by
  have h := chr_ok i hi
  unfold FJ0_charAt_5068e FJ0_isLatin1_aae02 FJ1_charAt_3b067 FJ0_checkIndex_df160 FJ3_checkIndex_8e157
  rw [if_neg (show ¬ (1 : Int32) = 0 by decide), if_neg (show ¬ ¬ (0 : Int32) = 0 by decide), Option.bind_some, if_neg (show ¬ (1 : Int32) = 0 by decide), if_neg (nI_pos (by omega)), if_pos (show nI i < Int32.ofNat (sN 1) from nI_lt (b := 62) hi (by decide)), Option.bind_some, Option.bind_some, if_pos (show inb (nI i) (sN 1) = true from inb_of hi (by decide)), nI_clamp (by omega), h.1, Option.bind_some, if_pos h.2]
theorem same_1 {M : Mem} {z : Nat} (hz : z ≤ 160) (hs : M 9 1 = nI z) {s fr n : Nat} (hn : fr + n ≤ 61) (hsn : s + n ≤ z) : F3_isSame M (nI fr) (nI (fr + n)) (nI s) = some (if eqs (M 10) n s fr = true then 1 else 0, M) := by
  have key : ∀ (k fu i : Nat), i + k = n → k < fu → F3_isSame_l3 fu M (nI fr) (nI (fr + n)) (nI s) (nI (fr + i)) = some (if eqs (M 10) k (s + i) (fr + i) = true then 1 else 0, M) := by
    intro k
    induction k with
    | zero =>
      intro fu i hi hf
      obtain ⟨fu, rfl⟩ : ∃ f, fu = f + 1 := ⟨fu - 1, by omega⟩
      show F3_isSame_l3_b _ M _ _ _ _ = _
      unfold F3_isSame_l3_b
      rw [if_pos (nI_le (by omega) (by omega))]
      rfl
    | succ k ih =>
      intro fu i hi hf
      obtain ⟨fu, rfl⟩ : ∃ f, fu = f + 1 := ⟨fu - 1, by omega⟩
      have ep : nI s + nI (fr + i) - nI fr = nI (s + i) := by
        rw [nI_add, pk_sub (by omega)]
        congr 1
        omega
      show F3_isSame_l3_b _ M _ _ _ _ = _
      unfold F3_isSame_l3_b
      rw [if_neg (nI_ge (by omega) (by omega)), len_1, Option.bind_some, if_neg (nI_ge (by omega) (by decide)), ep, if_neg (nI_pos (by omega))]
      dsimp only
      rw [if_neg (show ¬ M 9 1 ≤ nI (s + i) by rw [hs]; exact nI_ge (by omega) (by omega)), chr_1 M (by omega), Option.bind_some, if_pos (inb_of (by omega) (by decide)), nI_clamp (by omega), nI_1]
      have e := ih fu (i + 1) (by omega) (by omega)
      show _ = some (if (decide (sB 1 (fr + i) = M 10 (s + i)) && eqs (M 10) k (s + i + 1) (fr + i + 1)) = true then 1 else 0, M)
      dsimp only
      by_cases h : sB 1 (fr + i) = M 10 (s + i)
      · rw [if_pos h, show decide (sB 1 (fr + i) = M 10 (s + i)) = true from decide_eq_true h, Bool.true_and]
        exact e
      · rw [if_neg h, show decide (sB 1 (fr + i) = M 10 (s + i)) = false from decide_eq_false h, Bool.false_and, if_neg Bool.false_ne_true]
  have e := key n FUEL 0 (by omega) (by unfold FUEL; omega)
  exact e
theorem w_ok : ∀ j, j < 12 → wfr j + wln j < 62 ∧ wln j ≤ 6 ∧ sB 1 (wfr j + wln j) = 32 ∧ (j + 1 < 12 → wfr (j + 1) = wfr j + wln j + 1) ∧ (j = 11 → wfr j + wln j + 1 = 62) ∧ ∀ i, i < wln j → ¬ sB 1 (wfr j + i) = 32 ∧ ¬ sB 1 (wfr j + i) = 0 := by decide +kernel
theorem word_1 {M : Mem} {z : Nat} (hz : z ≤ 160) (hs : M 9 1 = nI z) {s e : Nat} (hse : s ≤ e) (hez : e ≤ z) : F3_wordOf M (nI s) (nI e) = some (wi (M 10) s e 12 0, M) := by
  have go : ∀ (k fu i w fr : Nat), i + k ≤ 62 → (∀ x, i ≤ x → x < i + k → ¬ sB 1 x = 32) → F3_wordOf_l8 (fu + k) M (nI s) (nI e) (nI w) (nI fr) (nI i) = F3_wordOf_l8 fu M (nI s) (nI e) (nI w) (nI fr) (nI (i + k)) := by
    intro k
    induction k with
    | zero => intro fu i w fr _ _; rfl
    | succ k ih =>
      intro fu i w fr hi hx
      have e1 := ih fu (i + 1) w fr (by omega) (fun x h1 h2 => hx x (by omega) (by omega))
      rw [show i + 1 + k = i + (k + 1) by omega] at e1
      rw [← e1]
      show F3_wordOf_l8_b (F3_wordOf_l8 (fu + k)) M _ _ _ _ _ = _
      unfold F3_wordOf_l8_b F3_wordOf_j64
      rw [len_1, Option.bind_some, if_neg (nI_ge (by omega) (by decide)), chr_1 M (by omega), Option.bind_some, if_pos (hx i (by omega) (by omega)), nI_1]
  have key : ∀ (k j fu : Nat), j + k = 12 → 62 < fu + wfr j → F3_wordOf_l8 fu M (nI s) (nI e) (nI j) (nI (wfr j)) (nI (wfr j)) = some (wi (M 10) s e k j, M) ∨ k = 0 := by
    intro k
    induction k with
    | zero => intro j fu _ _; exact .inr rfl
    | succ k ih =>
      intro j fu hj hf
      refine .inl ?_
      obtain ⟨w1, w2, w3, w4, w5, w6⟩ := w_ok j (by omega)
      obtain ⟨f0, rfl⟩ : ∃ f0, fu = f0 + 1 + wln j := ⟨fu - 1 - wln j, by omega⟩
      rw [go (wln j) (f0 + 1) (wfr j) j (wfr j) (by omega) (fun x h1 h2 => by
        have := (w6 (x - wfr j) (by omega)).1
        rw [show wfr j + (x - wfr j) = x by omega] at this
        exact this)]
      have next : F3_wordOf_l8 f0 M (nI s) (nI e) (nI (j + 1)) (nI (wfr j + wln j + 1)) (nI (wfr j + wln j + 1)) = some (wi (M 10) s e k (j + 1), M) := by
        by_cases hj2 : j + 1 < 12
        · rcases ih (j + 1) f0 (by omega) (by rw [w4 hj2]; omega) with h | h
          · rw [w4 hj2] at h
            exact h
          · omega
        · obtain rfl : k = 0 := by omega
          obtain rfl : j = 11 := by omega
          have h62 := w5 rfl
          obtain ⟨f1, rfl⟩ : ∃ f1, f0 = f1 + 1 := ⟨f0 - 1, by omega⟩
          rw [h62]
          show F3_wordOf_l8_b _ M _ _ _ _ (nI 62) = _
          unfold F3_wordOf_l8_b
          rw [len_1, Option.bind_some, if_pos (nI_le (by omega) (by decide))]
          rfl
      show F3_wordOf_l8_b (F3_wordOf_l8 f0) M _ _ _ _ _ = _
      unfold F3_wordOf_l8_b F3_wordOf_j55 F3_wordOf_j64
      rw [len_1, Option.bind_some, if_neg (nI_ge w1 (by decide)), chr_1 M w1, Option.bind_some]
      dsimp only
      rw [w3, if_neg (fun q => q rfl), nI_1, nI_1, next]
      have e1 : nI (wfr j + wln j) - nI (wfr j) = nI (wln j) := by rw [pk_sub (by omega)]; congr 1; omega
      have e2 : nI e - nI s = nI (e - s) := pk_sub hse
      rw [e1, e2]
      have ew : wi (M 10) s e (k + 1) j = if (decide (e - s = wln j) && eqs (M 10) (wln j) s (wfr j)) = true then nI j else wi (M 10) s e k (j + 1) := rfl
      rw [ew]
      by_cases hl : e - s = wln j
      · rw [if_neg (fun q => q (by rw [hl])), same_1 hz hs (by omega) (by omega), Option.bind_some, show decide (e - s = wln j) = true from decide_eq_true hl, Bool.true_and]
        cases eqs (M 10) (wln j) s (wfr j) with
        | true => rfl
        | false => exact (if_pos rfl).trans next
      · rw [if_pos (fun q => hl ((nI_inj (by omega) (by omega) q).symm)), show decide (e - s = wln j) = false from decide_eq_false hl, Bool.false_and, if_neg Bool.false_ne_true]
  rcases key 12 0 FUEL (by omega) (by unfold FUEL; omega) with h | h
  · exact h
  · omega
