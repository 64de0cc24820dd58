/-! ERRANDS: what a survey rests on; a path is a list, its last THING first -/
def stN (a b : Nat) : Nat := (a % 10 - b % 10) + (b % 10 - a % 10) + ((a / 10 - b / 10) + (b / 10 - a / 10))
def shH (sh : Nat → Nat) : List Nat → Nat
  | [] => 0
  | x :: _ => sh x
def tmR (sh pc : Nat → Nat) : List Nat → Nat
  | [] => 0
  | x :: r => tmR sh pc r + stN (shH sh r) (sh x) * pc r.length
def bkR (sh pc : Nat → Nat) (r : List Nat) : Nat := tmR sh pc r + stN (shH sh r) 0 * pc r.length
def plR : List Nat → Nat
  | [] => 0
  | x :: r => plR r * 10 + (x + 1)
def stR : List Nat → Nat
  | [] => 0
  | x :: r => stR r ||| 2 ^ x
def woR (wo : Nat → Nat) : List Nat → Nat
  | [] => 0
  | x :: r => woR wo r + wo x
def lkR (due : Nat → Nat) (b : Nat) : Nat → Nat → Nat
  | 0, k => k
  | r + 1, k => if b ≤ due k then k else lkR due b r (k + 1)
/-- an errand's things, by their places in it, one of them left out -/
def skp (f : Nat → Nat) (k : Nat) : Nat → List Nat
  | 0 => []
  | i + 1 => if i = k then skp f k i else f i :: skp f k i
def hdI : List Nat → Int32
  | [] => -1
  | x :: _ => nI x
/-- a set's worth -/
def wsN (wo : Nat → Nat) (m : Nat) : Nat → Nat
  | 0 => 0
  | i + 1 => wsN wo m i + if m.testBit i then wo i else 0
abbrev EX : Type := Nat × (Nat → Nat) × (Nat → Nat) × (Nat → Nat) × (Nat → Nat) × (Nat → Int32) × Nat
def xt (X : EX) : Nat := X.1
def xs (X : EX) : Nat → Nat := X.2.1
def xw (X : EX) : Nat → Nat := X.2.2.1
def xp (X : EX) : Nat → Nat := X.2.2.2.1
def xd (X : EX) : Nat → Nat := X.2.2.2.2.1
def xg (X : EX) : Nat → Int32 := X.2.2.2.2.2.1
def xb (X : EX) : Nat := X.2.2.2.2.2.2
def lkX (X : EX) (b : Nat) : Nat := lkR (xd X) b (xb X) 0
def gnX (X : EX) (w b : Nat) : Int32 := nI w - (xg X (lkX X b) + nI (b - xd X (lkX X b)))
def bkX (X : EX) (r : List Nat) : Nat := bkR (xs X) (xp X) r
def tmX (X : EX) (r : List Nat) : Nat := tmR (xs X) (xp X) r
def OKX (X : EX) : Prop := xt X ≤ 6 ∧ (∀ i, i < 6 → xs X i ≤ 99 ∧ xw X i ≤ 99) ∧ (∀ j, j < 7 → xp X j ≤ 99) ∧ (∀ k, k ≤ xb X → xd X k ≤ 100000) ∧ xb X ≤ 8
/-- the class is prepared -/
def PA (X : EX) (A : Mem) : Prop := A 5 3 = nI (xt X) ∧ (∀ i, i < 6 → A 6 i = nI (xs X i) ∧ A 7 i = nI (xw X i)) ∧ (∀ j, j < 7 → A 35 j = nI (xp X j)) ∧ A 34 6 = nI (xb X) ∧ ∀ k, k ≤ xb X → A 36 k = nI (xd X k) ∧ A 37 k = xg X k
/-- the reference has gathered -/
def PB (X : EX) (n o : Nat) (B : Mem) : Prop := B 0 16 = nI (xt X) ∧ (∀ i, i < 6 → B 7 i = nI (xs X i) ∧ B 8 i = nI (xw X i)) ∧ (∀ j, j < 7 → B 12 j = nI (xp X j)) ∧ B 0 10 = nI n ∧ B 0 11 = nI o ∧ n = o + xb X ∧ n ≤ 8 ∧ B 0 35 = nI (xd X 0) ∧ xg X 0 = 0 ∧ ∀ k, k < xb X → nI (xd X (k + 1)) = nI (xd X k) + B 10 (o + k) ∧ xg X (k + 1) = xg X k + B 11 (o + k)
theorem bt_and : ∀ m, m < 64 → ∀ x, x < 6 → ((nI m &&& ((1 : Int32) <<< (nI x &&& 31))) = 0 ↔ m.testBit x = false) := by decide +kernel
theorem bt_or : ∀ m, m < 64 → ∀ x, x < 6 → (nI m ||| ((1 : Int32) <<< (nI x &&& 31))) = nI (m ||| 2 ^ x) := by decide +kernel
theorem bt_sh : ∀ m, m < 64 → ∀ x, x < 6 → ((nI m >>> (nI x &&& 31)) &&& (1 : Int32)) = if m.testBit x then 1 else 0 := by decide +kernel
theorem bt_or64 : ∀ m, m < 64 → ∀ x, x < 6 → m ||| 2 ^ x < 64 := by decide +kernel
theorem bt_all : ∀ t, t < 7 → (((1 : Int32) <<< (nI t &&& 31)) - (1 : Int32)) = nI (2 ^ t - 1) := by decide +kernel
theorem bt_less : ∀ m, m < 64 → ∀ x, x < 6 → (nI m &&& (((1 : Int32) <<< (nI x &&& 31)) ^^^ (-1 : Int32))) = nI (m ^^^ (m &&& 2 ^ x)) := by decide +kernel
theorem bt_sub : ∀ s, s < 64 → ∀ m, m < 64 → ((nI s &&& (nI m ^^^ (-1 : Int32))) = 0 ↔ s &&& m = s) := by decide +kernel
theorem jabs_sub {a b : Nat} (ha : a < 2 ^ 30) (hb : b < 2 ^ 30) : jabs (nI a - nI b) = nI ((a - b) + (b - a)) := by
  have e := pk_sub_toInt ha hb
  have e0 : (0 : Int32).toInt = 0 := rfl
  unfold jabs
  by_cases h : b ≤ a
  · rw [if_pos (by rw [ile, e, e0]; omega), pk_sub h]
    congr 1
    omega
  · rw [if_neg (by rw [ile, e, e0]; omega)]
    apply Int32.toInt_inj.mp
    rw [isub (by rw [e, e0]; omega) (by rw [e, e0]; omega), e, nI_toInt (by omega), e0]
    omega
theorem jmax_sub {a b : Nat} (ha : a < 2 ^ 30) (hb : b < 2 ^ 30) : jmax (0 : Int32) (nI a - nI b) = nI (a - b) := by
  have e := pk_sub_toInt ha hb
  have e0 : (0 : Int32).toInt = 0 := rfl
  unfold jmax
  by_cases h : b < a
  · rw [if_pos (by rw [ilt, e, e0]; omega), pk_sub (by omega)]
  · rw [if_neg (by rw [ilt, e, e0]; omega), show a - b = 0 by omega]
    rfl
theorem jrem10 {a : Nat} (ha : a < 2 ^ 31) : jrem (nI a) 10 = nI (a % 10) := by
  unfold jrem
  exact pk_rem (d := 10) ha (by decide) (by decide)
theorem jdiv10 {a : Nat} (ha : a < 2 ^ 31) : nI a / (10 : Int32) = nI (a / 10) := pk_div (d := 10) ha (by decide) (by decide)
theorem stN_le {a b : Nat} (ha : a ≤ 99) (hb : b ≤ 99) : stN a b ≤ 18 := by
  unfold stN
  omega
theorem steps32 {a b : Nat} (ha : a ≤ 99) (hb : b ≤ 99) : jabs (jrem (nI a) 10 - jrem (nI b) 10) + jabs (nI a / 10 - nI b / 10) = nI (stN a b) := by
  rw [jrem10 (by omega), jrem10 (by omega), jdiv10 (by omega), jdiv10 (by omega), jabs_sub (by omega) (by omega), jabs_sub (by omega) (by omega), nI_add]
  rfl
section
variable {X : EX} {A B : Mem} {n o : Nat}
theorem shelf_A (hX : OKX X) (hP : PA X A) {x : Nat} (hx : x < xt X) : F6_shelfOf A (nI x) = some (nI (xs X x), A) := by
  have h6 := hX.1
  unfold F6_shelfOf
  rw [thgA_y hP.1 h6 hx, Option.bind_some, if_neg n10, if_pos (inb_of (by omega) (by decide)), nI_clamp (by omega)]
  dsimp only
  rw [(hP.2.1 x (by omega)).1]
theorem shelf_0 (hX : OKX X) (hP : PA X A) : F6_shelfOf A (-1) = some (nI 0, A) := by
  unfold F6_shelfOf
  rw [thgA_n hP.1 hX.1 (.inl (by decide)), Option.bind_some]
  rfl
theorem shelf_h (hX : OKX X) (hP : PA X A) {r : List Nat} (hr : ∀ x ∈ r, x < xt X) : F6_shelfOf A (hdI r) = some (nI (shH (xs X) r), A) := by
  cases r with
  | nil => exact shelf_0 hX hP
  | cons x r => exact shelf_A hX hP (hr x List.mem_cons_self)
theorem shH_le (hX : OKX X) {r : List Nat} (hr : ∀ x ∈ r, x < xt X) : shH (xs X) r ≤ 99 := by
  cases r with
  | nil => exact Nat.zero_le _
  | cons x r => exact (hX.2.1 x (by have := hr x List.mem_cons_self; have := hX.1; omega)).1
theorem steps_A {u v : Int32} {a b : Nat} (hu : F6_shelfOf A u = some (nI a, A)) (hv : F6_shelfOf A v = some (nI b, A)) (ha : a ≤ 99) (hb : b ≤ 99) : F6_steps A u v = some (nI (stN a b), A) := by
  unfold F6_steps
  rw [hu, Option.bind_some, hv, Option.bind_some, steps32 ha hb]
theorem leg_A (hP : PA X A) {u v : Int32} {a b h : Nat} (hu : F6_shelfOf A u = some (nI a, A)) (hv : F6_shelfOf A v = some (nI b, A)) (ha : a ≤ 99) (hb : b ≤ 99) (hh : h ≤ 6) : F0_leg A u v (nI h) = some (nI (stN a b * xp X h), A) := by
  unfold F0_leg
  rw [if_neg (nI_pos (by omega)), if_pos (show nI h ≤ 6 from nI_le (b := 6) hh (by decide)), steps_A hu hv ha hb, Option.bind_some, if_pos (inb_of (by omega) (by decide)), nI_clamp (by omega)]
  dsimp only
  rw [hP.2.2.1 h (by omega), pk_mul]
theorem steps_B {a b : Nat} (ha : a ≤ 99) (hb : b ≤ 99) : F9_steps B (nI a) (nI b) = some (nI (stN a b), B) := by
  have key : ∀ u v : Int32, (if 0 ≤ u then F9_steps_j30 B v u else F9_steps_j30 B v (-u)) = some (jabs u + jabs v, B) := by
    intro u v
    have hz : ∀ w : Int32, -w = 0 - w := fun w => by rw [Int32.zero_sub]
    unfold F9_steps_j30 jabs
    simp only [hz]
    by_cases h1 : 0 ≤ u <;> by_cases h2 : 0 ≤ v <;> simp [h1, h2]
  unfold F9_steps
  rw [key, steps32 ha hb]
theorem lkR_le {due : Nat → Nat} {b : Nat} : ∀ (r k : Nat), k ≤ lkR due b r k ∧ lkR due b r k ≤ k + r
  | 0, k => ⟨Nat.le_refl _, Nat.le_refl _⟩
  | r + 1, k => by
    unfold lkR
    have := lkR_le (due := due) (b := b) r (k + 1)
    split <;> omega
theorem lkX_le {b : Nat} : lkX X b ≤ xb X := by
  have := lkR_le (due := xd X) (b := b) (xb X) 0
  unfold lkX
  omega
theorem letBy_A (hX : OKX X) (hP : PA X A) {b : Nat} (hb : b < 2 ^ 30) : F0_letBy A (nI b) = some (nI (lkX X b), A) := by
  have h8 := hX.2.2.2.2
  have key : ∀ (r fu k : Nat), k + r = xb X → r < fu → F0_letBy_l2 fu A (nI b) (nI k) = some (nI (lkR (xd X) b r k), A) := by
    intro r
    induction r with
    | zero =>
      intro fu k hk hf
      obtain ⟨fu, rfl⟩ : ∃ f, fu = f + 1 := ⟨fu - 1, by omega⟩
      show F0_letBy_l2_b _ A (nI b) (nI k) = _
      unfold F0_letBy_l2_b
      rw [hP.2.2.2.1, if_pos (nI_le (by omega) (by omega))]
      rfl
    | succ r ih =>
      intro fu k hk hf
      obtain ⟨fu, rfl⟩ : ∃ f, fu = f + 1 := ⟨fu - 1, by omega⟩
      have hd := hX.2.2.2.1 k (by omega)
      show F0_letBy_l2_b _ A (nI b) (nI k) = _
      unfold F0_letBy_l2_b lkR
      rw [hP.2.2.2.1, if_neg (nI_ge (by omega) (by omega)), if_neg (show ¬ (8 : Int32) ≤ nI k from nI_ge (b := 8) (by omega) (by decide)), if_pos (inb_of (by omega) (by decide)), nI_clamp (by omega), (hP.2.2.2.2 k (by omega)).1]
      by_cases h : b ≤ xd X k
      · rw [if_pos (nI_le h (by omega)), if_pos h]
      · rw [if_neg (nI_ge (by omega) (by omega)), if_neg h, nI_1]
        exact ih fu (k + 1) (by omega) (by omega)
  exact key (xb X) FUEL 0 (by omega) (by unfold FUEL; omega)
theorem loss_A (hX : OKX X) (hP : PA X A) {b : Nat} (hb : b < 2 ^ 30) : F0_loss A (nI b) = some (xg X (lkX X b) + nI (b - xd X (lkX X b)), A) := by
  have h8 := hX.2.2.2.2
  have hl := lkX_le (X := X) (b := b)
  have hd := hX.2.2.2.1 _ hl
  unfold F0_loss
  rw [letBy_A hX hP hb, Option.bind_some, if_pos (inb_of (by omega) (by decide)), nI_clamp (by omega)]
  dsimp only
  rw [(hP.2.2.2.2 _ hl).1, (hP.2.2.2.2 _ hl).2, jmax_sub hb (by omega)]
theorem worthOf_A (hX : OKX X) (hP : PA X A) {m : Nat} (hm : m < 64) : F0_worthOf A (nI m) = some (nI (wsN (xw X) m (xt X)), A) := by
  have h6 := hX.1
  have key : ∀ (k fu i : Nat), i + k = xt X → k < fu → F0_worthOf_l4 fu A (nI m) (nI (wsN (xw X) m i)) (nI i) = some (nI (wsN (xw X) m (xt X)), A) := by
    intro k
    induction k with
    | zero =>
      intro fu i hi hf
      obtain ⟨fu, rfl⟩ : ∃ f, fu = f + 1 := ⟨fu - 1, by omega⟩
      show F0_worthOf_l4_b _ A (nI m) _ (nI i) = _
      unfold F0_worthOf_l4_b
      rw [hP.1, if_pos (nI_le (by omega) (by omega)), show i = xt X by omega]
    | succ k ih =>
      intro fu i hi hf
      obtain ⟨fu, rfl⟩ : ∃ f, fu = f + 1 := ⟨fu - 1, by omega⟩
      have e := ih fu (i + 1) (by omega) (by omega)
      have ew : wsN (xw X) m (i + 1) = wsN (xw X) m i + if m.testBit i then xw X i else 0 := rfl
      rw [ew] at e
      show F0_worthOf_l4_b _ A (nI m) _ (nI i) = _
      unfold F0_worthOf_l4_b F0_worthOf_j35
      rw [hP.1, if_neg (nI_ge (by omega) (by omega)), nI_1]
      cases hb : m.testBit i with
      | false =>
        rw [hb, if_neg Bool.false_ne_true, Nat.add_zero] at e
        rw [if_pos ((bt_and m hm i (by omega)).mpr hb)]
        exact e
      | true =>
        rw [hb, if_pos rfl] at e
        rw [if_neg (fun q => by rw [bt_and m hm i (by omega), hb] at q; cases q), if_pos (inb_of (by omega) (by decide)), nI_clamp (by omega), (hP.2.1 i (by omega)).2, nI_add]
        exact e
  exact key (xt X) FUEL 0 (by omega) (by unfold FUEL; omega)
theorem gain_B (hX : OKX X) (hP : PB X n o B) {b w : Nat} (hb : b < 2 ^ 30) : F9_gainOf B (nI b) (nI w) = some (gnX X w b, up2 B 0 36 (nI (lkX X b))) := by
  have h8 := hX.2.2.2.2
  obtain ⟨p1, p2, p3, p4, p5, p6, p7, p8, p9, p10⟩ := hP
  have fin : ∀ (k : Nat) (M : Mem), k ≤ xb X → F9_gainOf_j83 M (nI b) (nI (xd X k)) (nI w - xg X k) = some (nI w - (xg X k + nI (b - xd X k)), M) := by
    intro k M hk
    have hd := hX.2.2.2.1 k hk
    have ring : ∀ x y z : Int32, x - y - z = x - (y + z) := by
      intro x y z
      rw [Int32.sub_eq_add_neg, Int32.sub_eq_add_neg, Int32.sub_eq_add_neg, Int32.neg_add, Int32.add_assoc, Int32.sub_eq_add_neg]
    unfold F9_gainOf_j83
    by_cases h : b ≤ xd X k
    · rw [if_pos (nI_le h (by omega)), show b - xd X k = 0 by omega, nI_0, Int32.add_zero]
    · rw [if_neg (nI_ge (by omega) (by omega)), pk_sub (by omega), ring]
  have key : ∀ (r fu k : Nat) (M : Mem), k + r = xb X → r < fu → M = up2 B 0 36 (nI k) → F9_gainOf_l13 fu M (nI b) (nI (xd X k)) (nI w - xg X k) = some (nI w - (xg X (lkR (xd X) b r k) + nI (b - xd X (lkR (xd X) b r k))), up2 B 0 36 (nI (lkR (xd X) b r k))) := by
    intro r
    induction r with
    | zero =>
      intro fu k M hk hf hM
      obtain ⟨fu, rfl⟩ : ∃ f, fu = f + 1 := ⟨fu - 1, by omega⟩
      subst hM
      show F9_gainOf_l13_b _ _ (nI b) _ _ = _
      unfold F9_gainOf_l13_b
      rw [fin k _ (by omega), up2_nk (show (10 : Nat) ≠ 36 by decide), up2_nk (show (11 : Nat) ≠ 36 by decide), up2_at, p4, p5, nI_add, if_pos (show nI n ≤ nI (o + k) from nI_le (by omega) (by omega)), ite_self]
      rfl
    | succ r ih =>
      intro fu k M hk hf hM
      obtain ⟨fu, rfl⟩ : ∃ f, fu = f + 1 := ⟨fu - 1, by omega⟩
      have hd := hX.2.2.2.1 k (by omega)
      obtain ⟨q1, q2⟩ := p10 k (by omega)
      have e := ih fu (k + 1) (up2 B 0 36 (nI (k + 1))) (by omega) (by omega) rfl
      subst hM
      show F9_gainOf_l13_b _ _ (nI b) _ _ = _
      unfold F9_gainOf_l13_b
      rw [fin k _ (by omega), up2_nk (show (10 : Nat) ≠ 36 by decide), up2_nk (show (11 : Nat) ≠ 36 by decide), up2_at, p4, p5, nI_add, if_neg (show ¬ nI n ≤ nI (o + k) from nI_ge (by omega) (by omega)), if_pos (inb_of (by omega) (by decide)), nI_clamp (by omega), up2_ne (show (10 : Nat) ≠ 0 by decide), up2_ne (show (11 : Nat) ≠ 0 by decide), nI_1]
      unfold lkR
      by_cases h : b ≤ xd X k
      · rw [if_pos (nI_le h (by omega)), if_pos h]
      · rw [if_neg (nI_ge (by omega) (by omega)), if_neg h]
        have e36 : up2 (up2 B 0 36 (nI k)) 0 36 (nI (k + 1)) = up2 B 0 36 (nI (k + 1)) := by
          funext c j
          unfold up2
          by_cases h1 : c = 0 <;> by_cases h2 : j = 36 <;> simp [h1, h2]
        have ring : ∀ x y z : Int32, x - y - z = x - (y + z) := by
          intro x y z
          rw [Int32.sub_eq_add_neg, Int32.sub_eq_add_neg, Int32.sub_eq_add_neg, Int32.neg_add, Int32.add_assoc, Int32.sub_eq_add_neg]
        rw [e36, ring, ← q1, ← q2]
        exact e
  have e := key (xb X) FUEL 0 (up2 B 0 36 (nI 0)) (by omega) (by unfold FUEL; omega) rfl
  rw [p9] at e
  unfold F9_gainOf gnX lkX
  rw [p8]
  rw [show nI w - (0 : Int32) = nI w from Int32.sub_zero _] at e
  exact e
end
