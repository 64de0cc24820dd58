/-! ERRANDS: an errand at hand on both sides -/
def lst (f : Nat → Nat) : Nat → List Nat
  | 0 => []
  | i + 1 => f i :: lst f i
theorem lst_len {f : Nat → Nat} : ∀ n, (lst f n).length = n
  | 0 => rfl
  | n + 1 => by rw [lst, List.length_cons, lst_len n]
theorem lst_cong {f g : Nat → Nat} : ∀ {n : Nat}, (∀ i, i < n → f i = g i) → lst f n = lst g n
  | 0, _ => rfl
  | n + 1, h => by rw [lst, lst, h n (by omega), lst_cong (fun i hi => h i (by omega))]
theorem skp_lst {f : Nat → Nat} {k : Nat} : ∀ {n : Nat}, n ≤ k → skp f k n = lst f n
  | 0, _ => rfl
  | n + 1, h => by rw [skp, lst, if_neg (by omega), skp_lst (by omega)]
theorem skp_mem {f : Nat → Nat} {k x : Nat} : ∀ {n : Nat}, x ∈ skp f k n → ∃ i, i < n ∧ x = f i
  | 0, h => by simp [skp] at h
  | n + 1, h => by
    unfold skp at h
    by_cases e : n = k
    · rw [if_pos e] at h
      obtain ⟨i, h1, h2⟩ := skp_mem h
      exact ⟨i, by omega, h2⟩
    · rw [if_neg e] at h
      rcases List.mem_cons.mp h with h | h
      · exact ⟨n, by omega, h⟩
      · obtain ⟨i, h1, h2⟩ := skp_mem h
        exact ⟨i, by omega, h2⟩
theorem lst_mem {f : Nat → Nat} {x n : Nat} (h : x ∈ lst f n) : ∃ i, i < n ∧ x = f i := by
  rw [← skp_lst (Nat.le_refl n)] at h
  exact skp_mem h
theorem skp_len {f : Nat → Nat} {k : Nat} : ∀ n : Nat, (skp f k n).length ≤ n
  | 0 => Nat.le_refl _
  | n + 1 => by
    have := skp_len (f := f) (k := k) n
    unfold skp
    split
    · omega
    · rw [List.length_cons]; omega
theorem stR_bit {x : Nat} : ∀ r : List Nat, (stR r).testBit x = true ↔ x ∈ r
  | [] => by simp [stR]
  | y :: r => by
    rw [stR, Nat.testBit_or, Nat.testBit_two_pow, Bool.or_eq_true, stR_bit r, List.mem_cons, decide_eq_true_iff]
    constructor
    · rintro (h | h)
      · exact .inr h
      · exact .inl h.symm
    · rintro (h | h)
      · exact .inr h.symm
      · exact .inl h
theorem stR_64 : ∀ {r : List Nat}, (∀ x ∈ r, x < 6) → stR r < 64
  | [], _ => by decide
  | y :: r, h => bt_or64 _ (stR_64 fun x hx => h x (List.mem_cons_of_mem _ hx)) y (h y List.mem_cons_self)
theorem wsN_or {wo : Nat → Nat} {m x : Nat} (hm : m.testBit x = false) : ∀ i, wsN wo (m ||| 2 ^ x) i = wsN wo m i + if x < i then wo x else 0
  | 0 => rfl
  | i + 1 => by
    rw [wsN, wsN, wsN_or hm i, Nat.testBit_or, Nat.testBit_two_pow]
    by_cases e : x = i
    · subst e
      simp [hm]
    · rw [show decide (x = i) = false from decide_eq_false e, Bool.or_false]
      by_cases h1 : x < i
      · rw [if_pos h1, if_pos (show x < i + 1 by omega)]; omega
      · rw [if_neg h1, if_neg (show ¬ x < i + 1 by omega)]; omega
theorem ws_st {wo : Nat → Nat} {t : Nat} : ∀ {r : List Nat}, (∀ x ∈ r, x < t) → r.Nodup → wsN wo (stR r) t = woR wo r
  | [], _, _ => by
    have : ∀ i, wsN wo 0 i = 0 := by
      intro i
      induction i with
      | zero => rfl
      | succ i ih => rw [wsN, ih]; simp
    exact this t
  | y :: r, h, hn => by
    have hy : (stR r).testBit y = false := by
      cases hb : (stR r).testBit y with
      | false => rfl
      | true => exact absurd ((stR_bit r).mp hb) (List.nodup_cons.mp hn).1
    rw [stR, wsN_or hy, if_pos (h y List.mem_cons_self), ws_st (fun x hx => h x (List.mem_cons_of_mem _ hx)) (List.nodup_cons.mp hn).2]
    rfl
section
variable {X : EX} {A B : Mem} {n o : Nat}
theorem tmX_le (hX : OKX X) : ∀ {r : List Nat}, (∀ x ∈ r, x < xt X) → r.length ≤ 7 → tmX X r ≤ 1782 * r.length
  | [], _, _ => Nat.le_refl _
  | y :: r, h, hl => by
    rw [List.length_cons] at hl
    have h1 := tmX_le hX (r := r) (fun x hx => h x (List.mem_cons_of_mem _ hx)) (by omega)
    have hy := h y List.mem_cons_self
    have h2 := stN_le (shH_le hX (r := r) (fun x hx => h x (List.mem_cons_of_mem _ hx))) (hX.2.1 y (by have := hX.1; omega)).1
    have h3 := hX.2.2.1 r.length (by omega)
    have h4 : stN (shH (xs X) r) (xs X y) * xp X r.length ≤ 18 * 99 := Nat.mul_le_mul h2 h3
    unfold tmX tmR
    unfold tmX at h1
    rw [List.length_cons]
    omega
theorem bkX_le (hX : OKX X) {r : List Nat} (h : ∀ x ∈ r, x < xt X) (hl : r.length ≤ 6) : bkX X r ≤ 13000 := by
  have h1 := tmX_le hX h (by omega)
  have h2 := stN_le (shH_le hX h) (show 0 ≤ 99 by omega)
  have h3 := hX.2.2.1 r.length (by omega)
  have h4 : stN (shH (xs X) r) 0 * xp X r.length ≤ 18 * 99 := Nat.mul_le_mul h2 h3
  unfold bkX bkR
  unfold tmX at h1
  omega
def QA (f : Nat → Nat) (q : Nat) (A : Mem) : Prop := A 34 8 = nI q ∧ q ≤ 6 ∧ ∀ i, i < q → A 38 i = nI (f i)
def QB (f : Nat → Nat) (q : Nat) (B : Mem) : Prop := B 0 38 = nI q ∧ q ≤ 6 ∧ ∀ i, i < q → B 13 i = nI (f i)
theorem skp_lt {f : Nat → Nat} {q k t : Nat} (hf : ∀ i, i < q → f i < t) {i : Nat} (hi : i ≤ q) : ∀ x ∈ skp f k i, x < t := by
  intro x hx
  obtain ⟨j, h1, rfl⟩ := skp_mem hx
  exact hf j (by omega)
theorem lst_lt {f : Nat → Nat} {q t : Nat} (hf : ∀ i, i < q → f i < t) {i : Nat} (hi : i ≤ q) : ∀ x ∈ lst f i, x < t := by
  intro x hx
  obtain ⟨j, h1, rfl⟩ := lst_mem hx
  exact hf j (by omega)
theorem backWo_A (hX : OKX X) (hP : PA X A) {f : Nat → Nat} {q : Nat} (hQ : QA f q A) (hf : ∀ i, i < q → f i < xt X) {x1 : Int32} {k : Nat} (hk : ∀ i, i < q → (nI i = x1 ↔ i = k)) : F0_backWithout A x1 = some (nI (bkX X (skp f k q)), A) := by
  obtain ⟨q1, q2, q3⟩ := hQ
  have h6 := hX.1
  have key : ∀ (r fu i : Nat), i + r = q → r < fu → F0_backWithout_l10 fu A x1 (hdI (skp f k i)) (nI (tmX X (skp f k i))) (nI (skp f k i).length) (nI i) = some (nI (bkX X (skp f k q)), A) := by
    intro r
    induction r with
    | zero =>
      intro fu i hi hf2
      obtain ⟨fu, rfl⟩ : ∃ g, fu = g + 1 := ⟨fu - 1, by omega⟩
      obtain rfl : i = q := by omega
      have hs := skp_lt (k := k) hf (Nat.le_refl i)
      have hl := skp_len (f := f) (k := k) i
      show F0_backWithout_l10_b _ A x1 _ _ _ (nI i) = _
      unfold F0_backWithout_l10_b
      rw [q1, if_pos (nI_le (by omega) (by omega)), leg_A hP (shelf_h hX hP hs) (shelf_0 hX hP) (shH_le hX hs) (by omega) (by omega), Option.bind_some, nI_add]
      rfl
    | succ r ih =>
      intro fu i hi hf2
      obtain ⟨fu, rfl⟩ : ∃ g, fu = g + 1 := ⟨fu - 1, by omega⟩
      have hs := skp_lt (k := k) hf (show i ≤ q by omega)
      have hl := skp_len (f := f) (k := k) i
      have e := ih fu (i + 1) (by omega) (by omega)
      have hfi := hf i (by omega)
      show F0_backWithout_l10_b _ A x1 _ _ _ (nI i) = _
      unfold F0_backWithout_l10_b F0_backWithout_j56
      rw [q1, if_neg (nI_ge (by omega) (by omega)), nI_1 i]
      have es : skp f k (i + 1) = if i = k then skp f k i else f i :: skp f k i := rfl
      rw [es] at e
      by_cases hik : i = k
      · rw [if_neg (fun z => z ((hk i (by omega)).mpr hik))]
        rw [if_pos hik] at e
        exact e
      · rw [if_pos (fun z => hik ((hk i (by omega)).mp z)), if_pos (inb_of (by omega) (by decide)), nI_clamp (by omega), q3 i (by omega), leg_A hP (shelf_h hX hP hs) (shelf_A hX hP hfi) (shH_le hX hs) (hX.2.1 _ (by omega)).1 (by omega), Option.bind_some]
        dsimp only
        rw [q3 i (by omega), nI_add, nI_1]
        rw [if_neg hik] at e
        exact e
  exact key q FUEL 0 (by omega) (by unfold FUEL; omega)
theorem back_A (hX : OKX X) (hP : PA X A) {f : Nat → Nat} {q : Nat} (hQ : QA f q A) (hf : ∀ i, i < q → f i < xt X) : F0_backWithout A (-1) = some (nI (bkX X (lst f q)), A) := by
  have h := backWo_A hX hP hQ hf (x1 := -1) (k := q) (fun i hi => ⟨fun e => absurd e (nI_m1 (by have := hQ.2.1; omega)), fun e => by omega⟩)
  rw [skp_lst (Nat.le_refl q)] at h
  exact h
theorem bits_A (hX : OKX X) {f : Nat → Nat} {q : Nat} (hQ : QA f q A) (hf : ∀ i, i < q → f i < xt X) : F0_bits A = some (nI (stR (lst f q)), A) := by
  obtain ⟨q1, q2, q3⟩ := hQ
  have h6 := hX.1
  have key : ∀ (r fu i : Nat), i + r = q → r < fu → F0_bits_l4 fu A (nI (stR (lst f i))) (nI i) = some (nI (stR (lst f q)), A) := by
    intro r
    induction r with
    | zero =>
      intro fu i hi hf2
      obtain ⟨fu, rfl⟩ : ∃ g, fu = g + 1 := ⟨fu - 1, by omega⟩
      obtain rfl : i = q := by omega
      show F0_bits_l4_b _ A _ (nI i) = _
      unfold F0_bits_l4_b
      rw [q1, if_pos (nI_le (by omega) (by omega))]
    | succ r ih =>
      intro fu i hi hf2
      obtain ⟨fu, rfl⟩ : ∃ g, fu = g + 1 := ⟨fu - 1, by omega⟩
      have e := ih fu (i + 1) (by omega) (by omega)
      have hs := lst_lt hf (show i ≤ q by omega)
      have hfi := hf i (by omega)
      show F0_bits_l4_b _ A _ (nI i) = _
      unfold F0_bits_l4_b
      rw [q1, if_neg (nI_ge (by omega) (by omega)), if_pos (inb_of (by omega) (by decide)), nI_clamp (by omega), q3 i (by omega), bt_or _ (stR_64 fun x hx => by have := hs x hx; omega) _ (by omega), nI_1]
      exact e
  exact key q FUEL 0 (by omega) (by unfold FUEL; omega)
theorem digits_A {f : Nat → Nat} {q : Nat} (hQ : QA f q A) : F0_digits A = some (nI (plR (lst f q)), A) := by
  obtain ⟨q1, q2, q3⟩ := hQ
  have key : ∀ (r fu i : Nat), i + r = q → r < fu → F0_digits_l4 fu A (nI (plR (lst f i))) (nI i) = some (nI (plR (lst f q)), A) := by
    intro r
    induction r with
    | zero =>
      intro fu i hi hf2
      obtain ⟨fu, rfl⟩ : ∃ g, fu = g + 1 := ⟨fu - 1, by omega⟩
      obtain rfl : i = q := by omega
      show F0_digits_l4_b _ A _ (nI i) = _
      unfold F0_digits_l4_b
      rw [q1, if_pos (nI_le (by omega) (by omega))]
    | succ r ih =>
      intro fu i hi hf2
      obtain ⟨fu, rfl⟩ : ∃ g, fu = g + 1 := ⟨fu - 1, by omega⟩
      have e := ih fu (i + 1) (by omega) (by omega)
      show F0_digits_l4_b _ A _ (nI i) = _
      unfold F0_digits_l4_b
      rw [q1, if_neg (nI_ge (by omega) (by omega)), if_pos (inb_of (by omega) (by decide)), nI_clamp (by omega), q3 i (by omega), show (10 : Int32) = nI 10 from rfl, pk_mul, nI_add, nI_1, nI_1]
      exact e
  exact key q FUEL 0 (by omega) (by unfold FUEL; omega)
theorem worth_A (hX : OKX X) (hP : PA X A) {f : Nat → Nat} {q : Nat} (hQ : QA f q A) (hf : ∀ i, i < q → f i < xt X) (hn : (lst f q).Nodup) : F0_worth A = some (nI (woR (xw X) (lst f q)), A) := by
  have h6 := hX.1
  have hs := lst_lt hf (Nat.le_refl q)
  unfold F0_worth
  rw [bits_A hX hQ hf, Option.bind_some]
  dsimp only
  rw [worthOf_A hX hP (stR_64 fun x hx => by have := hs x hx; omega), Option.bind_some, ws_st hs hn]
theorem gain_A (hX : OKX X) (hP : PA X A) {f : Nat → Nat} {q : Nat} (hQ : QA f q A) (hf : ∀ i, i < q → f i < xt X) (hn : (lst f q).Nodup) : F0_gain A = some (gnX X (woR (xw X) (lst f q)) (bkX X (lst f q)), A) := by
  have hb := bkX_le hX (lst_lt hf (Nat.le_refl q)) (by rw [lst_len]; exact hQ.2.1)
  unfold F0_gain
  rw [worth_A hX hP hQ hf hn, Option.bind_some]
  dsimp only
  rw [back_A hX hP hQ hf, Option.bind_some]
  dsimp only
  rw [loss_A hX hP (by omega), Option.bind_some]
  rfl
theorem back_B (hX : OKX X) (hP : PB X n o B) {f : Nat → Nat} {q : Nat} (hQ : QB f q B) (hf : ∀ i, i < q → f i < xt X) : F9_backOf B = some (nI (bkX X (lst f q)), B) := by
  obtain ⟨q1, q2, q3⟩ := hQ
  have h6 := hX.1
  have key : ∀ (r fu i : Nat), i + r = q → r < fu → F9_backOf_l6 fu B (nI (shH (xs X) (lst f i))) (nI (tmX X (lst f i))) (nI i) = some (nI (bkX X (lst f q)), B) := by
    intro r
    induction r with
    | zero =>
      intro fu i hi hf2
      obtain ⟨fu, rfl⟩ : ∃ g, fu = g + 1 := ⟨fu - 1, by omega⟩
      obtain rfl : i = q := by omega
      have hs := lst_lt hf (Nat.le_refl i)
      show F9_backOf_l6_b _ B _ _ (nI i) = _
      unfold F9_backOf_l6_b
      rw [q1, if_pos (nI_le (by omega) (by omega)), show (0 : Int32) = nI 0 from rfl, steps_B (shH_le hX hs) (by omega), Option.bind_some]
      dsimp only
      rw [if_pos (show inb (B 0 38) 7 = true by rw [q1]; exact inb_of (by omega) (by decide)), q1, nI_clamp (by omega), hP.2.2.1 i (by omega), pk_mul, nI_add]
      unfold bkX bkR
      rw [lst_len]
      rfl
    | succ r ih =>
      intro fu i hi hf2
      obtain ⟨fu, rfl⟩ : ∃ g, fu = g + 1 := ⟨fu - 1, by omega⟩
      have hs := lst_lt hf (show i ≤ q by omega)
      have e := ih fu (i + 1) (by omega) (by omega)
      have hfi := hf i (by omega)
      show F9_backOf_l6_b _ B _ _ (nI i) = _
      unfold F9_backOf_l6_b
      rw [q1, if_neg (nI_ge (by omega) (by omega)), if_pos (inb_of (by omega) (by decide)), nI_clamp (by omega), q3 i (by omega), if_pos (inb_of (by omega) (by decide)), nI_clamp (by omega), (hP.2.1 (f i) (by omega)).1, steps_B (shH_le hX hs) (hX.2.1 _ (by omega)).1, Option.bind_some]
      dsimp only
      rw [if_pos (inb_of (show i < 7 by omega) (by decide)), if_pos (show inb (B 13 i) 6 = true by rw [q3 i (by omega)]; exact inb_of (by omega) (by decide)), q3 i (by omega), nI_clamp (by omega), (hP.2.1 (f i) (by omega)).1, hP.2.2.1 i (by omega), pk_mul, nI_add, nI_1]
      have es : tmX X (lst f (i + 1)) = tmX X (lst f i) + stN (shH (xs X) (lst f i)) (xs X (f i)) * xp X i := by
        have := lst_len (f := f) i
        show tmR _ _ _ + _ * xp X (lst f i).length = _
        rw [this]
        rfl
      rw [es] at e
      exact e
  exact key q FUEL 0 (by omega) (by unfold FUEL; omega)
theorem worth_B (hX : OKX X) (hP : PB X n o B) {f : Nat → Nat} {q : Nat} (hQ : QB f q B) (hf : ∀ i, i < q → f i < xt X) : F9_worthOf B = some (nI (woR (xw X) (lst f q)), B) := by
  obtain ⟨q1, q2, q3⟩ := hQ
  have h6 := hX.1
  have key : ∀ (r fu i : Nat), i + r = q → r < fu → F9_worthOf_l4 fu B (nI (woR (xw X) (lst f i))) (nI i) = some (nI (woR (xw X) (lst f q)), B) := by
    intro r
    induction r with
    | zero =>
      intro fu i hi hf2
      obtain ⟨fu, rfl⟩ : ∃ g, fu = g + 1 := ⟨fu - 1, by omega⟩
      obtain rfl : i = q := by omega
      show F9_worthOf_l4_b _ B _ (nI i) = _
      unfold F9_worthOf_l4_b
      rw [q1, if_pos (nI_le (by omega) (by omega))]
    | succ r ih =>
      intro fu i hi hf2
      obtain ⟨fu, rfl⟩ : ∃ g, fu = g + 1 := ⟨fu - 1, by omega⟩
      have e := ih fu (i + 1) (by omega) (by omega)
      have hfi := hf i (by omega)
      show F9_worthOf_l4_b _ B _ (nI i) = _
      unfold F9_worthOf_l4_b
      rw [q1, if_neg (nI_ge (by omega) (by omega)), if_pos (inb_of (by omega) (by decide)), nI_clamp (by omega), q3 i (by omega), if_pos (inb_of (by omega) (by decide)), nI_clamp (by omega), (hP.2.1 (f i) (by omega)).2, nI_add, nI_1]
      exact e
  exact key q FUEL 0 (by omega) (by unfold FUEL; omega)
theorem digits_B {f : Nat → Nat} {q : Nat} (hQ : QB f q B) : F9_digitsOf B = some (nI (plR (lst f q)), B) := by
  obtain ⟨q1, q2, q3⟩ := hQ
  have key : ∀ (r fu i : Nat), i + r = q → r < fu → F9_digitsOf_l4 fu B (nI (plR (lst f i))) (nI i) = some (nI (plR (lst f q)), B) := by
    intro r
    induction r with
    | zero =>
      intro fu i hi hf2
      obtain ⟨fu, rfl⟩ : ∃ g, fu = g + 1 := ⟨fu - 1, by omega⟩
      obtain rfl : i = q := by omega
      show F9_digitsOf_l4_b _ B _ (nI i) = _
      unfold F9_digitsOf_l4_b
      rw [q1, if_pos (nI_le (by omega) (by omega))]
    | succ r ih =>
      intro fu i hi hf2
      obtain ⟨fu, rfl⟩ : ∃ g, fu = g + 1 := ⟨fu - 1, by omega⟩
      have e := ih fu (i + 1) (by omega) (by omega)
      show F9_digitsOf_l4_b _ B _ (nI i) = _
      unfold F9_digitsOf_l4_b
      rw [q1, if_neg (nI_ge (by omega) (by omega)), if_pos (inb_of (by omega) (by decide)), nI_clamp (by omega), q3 i (by omega), show (10 : Int32) = nI 10 from rfl, pk_mul, nI_add, nI_1, nI_1, Nat.mul_comm, Nat.add_assoc]
      exact e
  exact key q FUEL 0 (by omega) (by unfold FUEL; omega)
end
