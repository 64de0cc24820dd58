/-! ERRANDS: all of them, in the order in which both sides go through them -/
def chv (vd : List Nat → List (List Nat)) (m : Nat) (p : List Nat) : Nat → Nat → List (List Nat)
  | 0, _ => []
  | k + 1, i => (if m.testBit i = true ∧ (stR p).testBit i = false then vd (i :: p) else []) ++ chv vd m p k (i + 1)
def vis (t m : Nat) : Nat → List Nat → List (List Nat)
  | 0, p => [p]
  | d + 1, p => p :: chv (vis t m d) m p t 0
theorem mem_chv {vd : List Nat → List (List Nat)} {m : Nat} {p q : List Nat} : ∀ {k i : Nat}, q ∈ chv vd m p k i ↔ ∃ x, i ≤ x ∧ x < i + k ∧ m.testBit x = true ∧ (stR p).testBit x = false ∧ q ∈ vd (x :: p)
  | 0, i => by
    unfold chv
    constructor
    · intro h; cases h
    · rintro ⟨x, h1, h2, -⟩; omega
  | k + 1, i => by
    unfold chv
    rw [List.mem_append, mem_chv (k := k)]
    constructor
    · rintro (h | ⟨x, h1, h2, h3⟩)
      · by_cases c : m.testBit i = true ∧ (stR p).testBit i = false
        · rw [if_pos c] at h
          exact ⟨i, by omega, by omega, c.1, c.2, h⟩
        · rw [if_neg c] at h
          cases h
      · exact ⟨x, by omega, by omega, h3⟩
    · rintro ⟨x, h1, h2, h3, h4, h5⟩
      by_cases e : x = i
      · subst e
        exact .inl (by rw [if_pos ⟨h3, h4⟩]; exact h5)
      · exact .inr ⟨x, by omega, by omega, h3, h4, h5⟩
theorem mem_vis {t m d : Nat} {p q : List Nat} : q ∈ vis t m (d + 1) p ↔ q = p ∨ ∃ x, x < t ∧ m.testBit x = true ∧ (stR p).testBit x = false ∧ q ∈ vis t m d (x :: p) := by
  show q ∈ p :: chv (vis t m d) m p t 0 ↔ _
  rw [List.mem_cons, mem_chv]
  constructor
  · rintro (h | ⟨x, -, h2, h3⟩)
    · exact .inl h
    · exact .inr ⟨x, by omega, h3⟩
  · rintro (h | ⟨x, h2, h3⟩)
    · exact .inl h
    · exact .inr ⟨x, by omega, by omega, h3⟩
theorem vis_self {t m d : Nat} {p : List Nat} : p ∈ vis t m d p := by
  cases d with
  | zero => exact List.mem_singleton.mpr rfl
  | succ d => exact mem_vis.mpr (.inl rfl)
theorem vis_sub {t m : Nat} : ∀ {d : Nat} {p q : List Nat}, q ∈ vis t m d p → ∀ x ∈ p, x ∈ q
  | 0, p, q, h, x, hx => by
    rw [List.mem_singleton.mp h]; exact hx
  | d + 1, p, q, h, x, hx => by
    rcases mem_vis.mp h with rfl | ⟨y, -, -, -, h5⟩
    · exact hx
    · exact vis_sub h5 x (List.mem_cons_of_mem _ hx)
theorem vis_ok {t m : Nat} : ∀ {d : Nat} {p q : List Nat}, q ∈ vis t m d p → (∀ x ∈ p, x < t) → p.Nodup → (∀ x ∈ q, x < t) ∧ q.Nodup ∧ q.length ≤ p.length + d
  | 0, p, q, h, h1, h2 => by
    rw [List.mem_singleton.mp h]; exact ⟨h1, h2, Nat.le_refl _⟩
  | d + 1, p, q, h, h1, h2 => by
    rcases mem_vis.mp h with rfl | ⟨y, hy, -, h4, h5⟩
    · exact ⟨h1, h2, by omega⟩
    · have := vis_ok h5 (fun x hx => by
        rcases List.mem_cons.mp hx with rfl | hx
        · exact hy
        · exact h1 x hx) (List.nodup_cons.mpr ⟨fun hm => Bool.false_ne_true (h4.symm.trans ((stR_bit _).mpr hm)), h2⟩)
      refine ⟨this.1, this.2.1, ?_⟩
      have h6 := this.2.2
      rw [List.length_cons] at h6
      omega
/-- fewer things allowed: those errands that have no other -/
theorem vis_iff {t m a : Nat} (ha : ∀ x, x < t → a.testBit x = true) {q : List Nat} : ∀ {d : Nat} {p : List Nat}, (∀ x ∈ p, m.testBit x = true) → (q ∈ vis t m d p ↔ q ∈ vis t a d p ∧ ∀ x ∈ q, m.testBit x = true)
  | 0, p, h => by
    unfold vis
    rw [List.mem_singleton]
    constructor
    · rintro rfl; exact ⟨rfl, h⟩
    · rintro ⟨h1, -⟩; exact h1
  | d + 1, p, h => by
    have hc : ∀ x, m.testBit x = true → ∀ y ∈ x :: p, m.testBit y = true := fun x hx y hy => by
      rcases List.mem_cons.mp hy with rfl | hy
      · exact hx
      · exact h y hy
    rw [mem_vis, mem_vis]
    constructor
    · rintro (rfl | ⟨x, h1, h2, h3, h4⟩)
      · exact ⟨.inl rfl, h⟩
      · have := (vis_iff ha (hc x h2)).mp h4
        exact ⟨.inr ⟨x, h1, ha x h1, h3, this.1⟩, this.2⟩
    · rintro ⟨rfl | ⟨x, h1, h2, h3, h4⟩, h5⟩
      · exact .inl rfl
      · have hx := h5 x (vis_sub h4 x List.mem_cons_self)
        exact .inr ⟨x, h1, hx, h3, (vis_iff ha (hc x hx)).mpr ⟨h4, h5⟩⟩
theorem vis_pl {t m : Nat} (ht : t ≤ 6) : ∀ {d : Nat} {p q : List Nat}, q ∈ vis t m d p → ∃ j, q.length = p.length + j ∧ plR p * 10 ^ j ≤ plR q ∧ plR q < (plR p + 1) * 10 ^ j
  | 0, p, q, h => by
    rw [List.mem_singleton.mp h]; exact ⟨0, rfl, by omega, by omega⟩
  | d + 1, p, q, h => by
    rcases mem_vis.mp h with rfl | ⟨x, hx, -, -, h5⟩
    · exact ⟨0, rfl, by omega, by omega⟩
    · obtain ⟨j, h1, h2, h3⟩ := vis_pl ht h5
      refine ⟨j + 1, by rw [h1, List.length_cons]; omega, ?_, ?_⟩
      · refine Nat.le_trans ?_ h2
        rw [Nat.pow_succ, Nat.mul_comm (10 ^ j) 10, ← Nat.mul_assoc]
        exact Nat.mul_le_mul_right _ (by have : plR (x :: p) = plR p * 10 + (x + 1) := rfl; omega)
      · refine Nat.lt_of_lt_of_le h3 ?_
        rw [Nat.pow_succ, Nat.mul_comm (10 ^ j) 10, ← Nat.mul_assoc]
        exact Nat.mul_le_mul_right _ (by have : plR (x :: p) = plR p * 10 + (x + 1) := rfl; omega)
def RP1 (a b : List Nat) : Prop := a.length = b.length → plR a < plR b
theorem vis_pw {t m : Nat} (ht : t ≤ 6) : ∀ (d : Nat) (p : List Nat), List.Pairwise RP1 (vis t m d p)
  | 0, p => List.pairwise_singleton _ _
  | d + 1, p => by
    have key : ∀ k i, i + k ≤ t → List.Pairwise RP1 (chv (vis t m d) m p k i) := by
      intro k
      induction k with
      | zero => intro i _; exact List.Pairwise.nil
      | succ k ih =>
        intro i hik
        unfold chv
        refine List.pairwise_append.mpr ⟨?_, ih (i + 1) (by omega), ?_⟩
        · by_cases c : m.testBit i = true ∧ (stR p).testBit i = false
          · rw [if_pos c]; exact vis_pw ht d (i :: p)
          · rw [if_neg c]; exact List.Pairwise.nil
        · intro q1 h1 q2 h2
          obtain ⟨x, hx1, hx2, -, -, hx5⟩ := mem_chv.mp h2
          by_cases c : m.testBit i = true ∧ (stR p).testBit i = false
          · rw [if_pos c] at h1
            obtain ⟨j1, l1, -, b1⟩ := vis_pl ht h1
            obtain ⟨j2, l2, b2, -⟩ := vis_pl ht hx5
            intro hl
            rw [List.length_cons] at l1 l2
            obtain rfl : j1 = j2 := by omega
            have e1 : plR (i :: p) = plR p * 10 + (i + 1) := rfl
            have e2 : plR (x :: p) = plR p * 10 + (x + 1) := rfl
            exact Nat.lt_of_lt_of_le b1 (Nat.le_trans (Nat.mul_le_mul_right _ (by omega)) b2)
          · rw [if_neg c] at h1
            cases h1
    unfold vis
    refine List.pairwise_cons.mpr ⟨fun q hq hl => ?_, key t 0 (by omega)⟩
    obtain ⟨x, -, -, -, -, h5⟩ := mem_chv.mp hq
    obtain ⟨j, h1, -⟩ := vis_pl ht h5
    rw [List.length_cons] at h1
    omega
theorem plR_up : ∀ {r : List Nat}, (∀ x ∈ r, x < 6) → plR r < 10 ^ r.length
  | [], _ => by decide
  | x :: r, h => by
    have h1 := plR_up (r := r) (fun y hy => h y (List.mem_cons_of_mem _ hy))
    have h2 := h x List.mem_cons_self
    have e : plR (x :: r) = plR r * 10 + (x + 1) := rfl
    rw [List.length_cons, Nat.pow_succ, e]
    omega
theorem plR_lo : ∀ {x : Nat} {r : List Nat}, 10 ^ r.length ≤ plR (x :: r)
  | x, [] => by
    have e : plR [x] = 0 * 10 + (x + 1) := rfl
    rw [e]
    simp
  | x, y :: r => by
    have h1 := plR_lo (x := y) (r := r)
    have e : plR (x :: y :: r) = plR (y :: r) * 10 + (x + 1) := rfl
    rw [List.length_cons, Nat.pow_succ, e]
    omega
theorem plR_len {p q : List Nat} (hp : ∀ x ∈ p, x < 6) (h : p.length < q.length) : plR p < plR q := by
  cases q with
  | nil => rw [List.length_nil] at h; omega
  | cons y q =>
    rw [List.length_cons] at h
    exact Nat.lt_of_lt_of_le (plR_up hp) (Nat.le_trans (Nat.pow_le_pow_right (by decide) (by omega)) plR_lo)
theorem plR_m {r : List Nat} (hr : ∀ x ∈ r, x < 6) (hl : r.length ≤ 6) : plR r < 1000000 := Nat.lt_of_lt_of_le (plR_up hr) (Nat.le_trans (Nat.pow_le_pow_right (by decide) hl) (by decide))
def gnP (X : EX) (p : List Nat) : Int32 := gnX X (woR (xw X) p) (bkX X p)
/-- better: more gain; of like ones the lesser plan -/
def btr (X : EX) (p q : List Nat) : Prop := gnP X q < gnP X p ∨ (gnP X p = gnP X q ∧ plR p < plR q)
theorem btr_tr {X : EX} {p q r : List Nat} (h : btr X p q) (h2 : btr X q r) : btr X p r := by
  unfold btr at *
  rw [ilt, ← Int32.toInt_inj] at *
  omega
theorem btr_ir {X : EX} {p : List Nat} : ¬ btr X p p := by
  unfold btr
  rw [ilt]
  omega
theorem btr_tri {X : EX} {p q : List Nat} (h : plR p ≠ plR q) : btr X p q ∨ btr X q p := by
  unfold btr
  rw [ilt, ilt, ← Int32.toInt_inj, ← Int32.toInt_inj]
  omega
/-- the best of a list, one after the other; c: is the new one better -/
def pick (c : List Nat → List Nat → Bool) (st : Option (List Nat)) (p : List Nat) : Option (List Nat) :=
  match st with
  | none => some p
  | some q => if c p q = true then some p else some q
theorem pick_best {X : EX} {c : List Nat → List Nat → Bool} : ∀ {L : List (List Nat)} {q : List Nat}, (∀ p ∈ L, c p q = true ↔ btr X p q) → List.Pairwise (fun a b => (c b a = true ↔ btr X b a) ∧ plR a ≠ plR b) L → (∀ p ∈ L, plR q ≠ plR p) → ∃ r, L.foldl (pick c) (some q) = some r ∧ (r = q ∨ r ∈ L) ∧ (r = q ∨ btr X r q) ∧ ∀ p ∈ L, p = r ∨ btr X r p
  | [], q, _, _, _ => ⟨q, rfl, .inl rfl, .inl rfl, fun p hp => by cases hp⟩
  | x :: L, q, h1, h2, h3 => by
    obtain ⟨h4, h5⟩ := List.pairwise_cons.mp h2
    by_cases hb : c x q = true
    · have hb2 := (h1 x List.mem_cons_self).mp hb
      obtain ⟨r, e, m, b, a⟩ := pick_best (X := X) (c := c) (L := L) (q := x) (fun p hp => (h4 p hp).1) h5 (fun p hp => (h4 p hp).2)
      refine ⟨r, ?_, .inr ?_, .inr ?_, fun p hp => ?_⟩
      · rw [List.foldl_cons, show pick c (some q) x = some x from if_pos hb]; exact e
      · rcases m with rfl | m
        · exact List.mem_cons_self
        · exact List.mem_cons_of_mem _ m
      · rcases b with rfl | b
        · exact hb2
        · exact btr_tr b hb2
      · rcases List.mem_cons.mp hp with rfl | hp
        · rcases b with rfl | b
          · exact .inl rfl
          · exact .inr b
        · exact a p hp
    · have hb2 : btr X q x := by
        rcases btr_tri (X := X) (h3 x List.mem_cons_self) with h | h
        · exact h
        · exact absurd ((h1 x List.mem_cons_self).mpr h) hb
      obtain ⟨r, e, m, b, a⟩ := pick_best (X := X) (c := c) (L := L) (q := q) (fun p hp => h1 p (List.mem_cons_of_mem _ hp)) h5 (fun p hp => h3 p (List.mem_cons_of_mem _ hp))
      refine ⟨r, ?_, ?_, b, fun p hp => ?_⟩
      · rw [List.foldl_cons, show pick c (some q) x = some q from if_neg hb]; exact e
      · rcases m with rfl | m
        · exact .inl rfl
        · exact .inr (List.mem_cons_of_mem _ m)
      · rcases List.mem_cons.mp hp with rfl | hp
        · rcases b with rfl | b
          · exact .inr hb2
          · exact .inr (btr_tr b hb2)
        · exact a p hp
theorem pick_top {X : EX} {c : List Nat → List Nat → Bool} {L : List (List Nat)} (h2 : List.Pairwise (fun a b => (c b a = true ↔ btr X b a) ∧ plR a ≠ plR b) L) (hne : L ≠ []) : ∃ r, L.foldl (pick c) none = some r ∧ r ∈ L ∧ ∀ p ∈ L, p = r ∨ btr X r p := by
  cases L with
  | nil => exact absurd rfl hne
  | cons x L =>
    obtain ⟨h4, h5⟩ := List.pairwise_cons.mp h2
    obtain ⟨r, e, m, b, a⟩ := pick_best (X := X) (c := c) (L := L) (q := x) (fun p hp => (h4 p hp).1) h5 (fun p hp => (h4 p hp).2)
    refine ⟨r, e, ?_, fun p hp => ?_⟩
    · rcases m with rfl | m
      · exact List.mem_cons_self
      · exact List.mem_cons_of_mem _ m
    · rcases List.mem_cons.mp hp with rfl | hp
      · rcases b with rfl | b
        · exact .inl rfl
        · exact .inr b
      · exact a p hp
/-- the reference's comparison -/
def cmB (X : EX) (p q : List Nat) : Bool := decide (gnP X q < gnP X p ∨ (gnP X p = gnP X q ∧ p.length < q.length))
/-- the class' comparison, among errands of one set -/
def cmA (X : EX) (p q : List Nat) : Bool := decide (gnP X q < gnP X p)
theorem top_B {X : EX} (ht : xt X ≤ 6) (m : Nat) : ∃ r, (vis (xt X) m 6 []).foldl (pick (cmB X)) none = some r ∧ r ∈ vis (xt X) m 6 [] ∧ ∀ p ∈ vis (xt X) m 6 [], p = r ∨ btr X r p := by
  refine pick_top ?_ (fun e => by have := vis_self (t := xt X) (m := m) (d := 6) (p := []); rw [e] at this; cases this)
  have hok : ∀ p ∈ vis (xt X) m 6 [], ∀ x ∈ p, x < 6 := fun p hp x hx => by
    have := (vis_ok hp (fun x hx => by cases hx) List.nodup_nil).1 x hx
    omega
  refine List.Pairwise.imp_of_mem ?_ (vis_pw ht 6 [])
  intro a b ha hb hab
  have hne : plR a ≠ plR b := by
    rcases Nat.lt_trichotomy a.length b.length with h | h | h
    · have := plR_len (hok a ha) h; omega
    · have := hab h; omega
    · have := plR_len (hok b hb) h; omega
  refine ⟨?_, hne⟩
  unfold cmB btr
  rw [decide_eq_true_iff]
  have : b.length < a.length ↔ plR b < plR a := by
    rcases Nat.lt_trichotomy a.length b.length with h | h | h
    · have := plR_len (hok a ha) h; omega
    · have := hab h; omega
    · have := plR_len (hok b hb) h; omega
  rw [this]
theorem woR_one : ∀ r : List Nat, woR (fun _ => 1) r = r.length
  | [] => rfl
  | x :: r => by rw [woR, woR_one r, List.length_cons]
theorem len_st {a b : List Nat} (ha : ∀ x ∈ a, x < 6) (hb : ∀ x ∈ b, x < 6) (na : a.Nodup) (nb : b.Nodup) (h : stR a = stR b) : a.length = b.length := by
  rw [← woR_one, ← woR_one, ← ws_st ha na, ← ws_st hb nb, h]
theorem top_A {X : EX} (ht : xt X ≤ 6) (m s : Nat) {q : List Nat} (hq : q ∈ vis (xt X) m 6 []) (hs : stR q = s) : ∃ r, ((vis (xt X) m 6 []).filter (fun p => stR p == s)).foldl (pick (cmA X)) none = some r ∧ r ∈ vis (xt X) m 6 [] ∧ stR r = s ∧ ∀ p ∈ vis (xt X) m 6 [], stR p = s → p = r ∨ btr X r p := by
  have hok : ∀ p ∈ vis (xt X) m 6 [], (∀ x ∈ p, x < 6) ∧ p.Nodup := fun p hp => by
    have := vis_ok hp (fun x hx => by cases hx) List.nodup_nil
    exact ⟨fun x hx => by have := this.1 x hx; omega, this.2.1⟩
  obtain ⟨r, e, h1, h2⟩ := pick_top (X := X) (c := cmA X) (L := (vis (xt X) m 6 []).filter (fun p => stR p == s)) (by
    refine List.Pairwise.imp_of_mem ?_ ((vis_pw ht 6 []).filter _)
    intro a b ha hb hab
    obtain ⟨a1, a2⟩ := List.mem_filter.mp ha
    obtain ⟨b1, b2⟩ := List.mem_filter.mp hb
    have a3 := hok a a1
    have b3 := hok b b1
    have hl := hab (len_st a3.1 b3.1 a3.2 b3.2 ((beq_iff_eq.mp a2).trans (beq_iff_eq.mp b2).symm))
    refine ⟨?_, by omega⟩
    unfold cmA btr
    rw [decide_eq_true_iff]
    constructor
    · exact .inl
    · rintro (h | ⟨-, h⟩)
      · exact h
      · omega) (fun e => by
    have : q ∈ (vis (xt X) m 6 []).filter (fun p => stR p == s) := List.mem_filter.mpr ⟨hq, beq_iff_eq.mpr hs⟩
    rw [e] at this
    cases this)
  obtain ⟨h3, h4⟩ := List.mem_filter.mp h1
  exact ⟨r, e, h3, beq_iff_eq.mp h4, fun p hp hps => h2 p (List.mem_filter.mpr ⟨hp, beq_iff_eq.mpr hps⟩)⟩
