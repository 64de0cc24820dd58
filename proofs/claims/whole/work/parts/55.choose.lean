/-! ERRANDS: the class' choice, and the reference's search -/
section
variable {X : EX} {A B : Mem} {n o : Nat}
/-- the table that a survey of all leaves -/
def tabX (X : EX) (m s : Nat) : Option (List Nat) := ((vis (xt X) m 6 []).filter (fun p => stR p == s)).foldl (pick (cmA X)) none
theorem nl_lt {a : Nat} : ∀ x ∈ ([] : List Nat), x < a := fun x hx => absurd hx (by simp)
theorem vis_okP (hX : OKX X) {m : Nat} {q : List Nat} (h : q ∈ vis (xt X) m 6 []) : okP X q := by
  have := vis_ok h nl_lt List.nodup_nil
  exact ⟨this.1, this.2.1, by have := this.2.2; rw [List.length_nil] at this; omega⟩
theorem okP.pl (hX : OKX X) {q : List Nat} (h : okP X q) : plR q < 1000000 := plR_m (fun x hx => by have := h.1 x hx; have := hX.1; omega) h.2.2
theorem okP.st (hX : OKX X) {q : List Nat} (h : okP X q) : stR q < 64 := stR_64 (fun x hx => by have := h.1 x hx; have := hX.1; omega)
theorem tabX_mem (hX : OKX X) {m s : Nat} {c : List Nat} (h : tabX X m s = some c) : c ∈ vis (xt X) m 6 [] ∧ stR c = s := by
  cases hf : (vis (xt X) m 6 []).filter (fun p => stR p == s) with
  | nil => unfold tabX at h; rw [hf] at h; cases h
  | cons q L =>
    have hq : q ∈ (vis (xt X) m 6 []).filter (fun p => stR p == s) := by rw [hf]; exact List.mem_cons_self
    obtain ⟨h1, h2⟩ := List.mem_filter.mp hq
    obtain ⟨r, e, r1, r2, -⟩ := top_A hX.1 m s h1 (beq_iff_eq.mp h2)
    have e2 : tabX X m s = some r := e
    rw [h] at e2
    cases e2
    exact ⟨r1, r2⟩
theorem tabX_top (hX : OKX X) {m : Nat} {q : List Nat} (h : q ∈ vis (xt X) m 6 []) : ∃ c, tabX X m (stR q) = some c ∧ (q = c ∨ btr X c q) := by
  obtain ⟨r, e, r1, r2, r3⟩ := top_A hX.1 m (stR q) h rfl
  exact ⟨r, e, r3 q h rfl⟩
theorem choose_A (hX : OKX X) {a m : Nat} (hm : m < 64) (hT : ∀ s, s < 64 → tbR X A s (tabX X a s)) : ∃ s c, s < 64 ∧ s &&& m = s ∧ tabX X a s = some c ∧ F0_choose A (nI m) = some (nI s, A) ∧ ∀ j x, j < 64 → j &&& m = j → tabX X a j = some x → ¬ btr X x c := by
  obtain ⟨c0, hc0, -⟩ := tabX_top hX (vis_self (t := xt X) (m := a) (d := 6) (p := []))
  have h63 : ∀ s c, tabX X a s = some c → plR c < 1000000 := fun s c h => (vis_okP hX (tabX_mem hX h).1).pl hX
  have better : ∀ i s x c, i < 64 → s < 64 → tabX X a i = some x → tabX X a s = some c → (btr X x c ∧ F0_isBetter A (nI i) (nI s) = some (1, A)) ∨ (¬ btr X x c ∧ F0_isBetter A (nI i) (nI s) = some (0, A)) := by
    intro i s x c hi hs hx hc
    have t1 := hT i hi
    have t2 := hT s hs
    rw [hx] at t1
    rw [hc] at t2
    obtain ⟨x1, x2, x3⟩ := t1
    obtain ⟨c1, c2, c3⟩ := t2
    have px := h63 i x hx
    have pc := h63 s c hc
    unfold F0_isBetter btr
    rw [if_pos (inb_of hi (by decide)), if_pos (inb_of hs (by decide)), nI_clamp (by omega), nI_clamp (by omega), x3, c3, x1, c1]
    by_cases g1 : gnP X c < gnP X x
    · rw [if_pos g1]
      exact .inl ⟨.inl g1, rfl⟩
    · rw [if_neg g1]
      by_cases g2 : gnP X x = gnP X c
      · rw [if_neg (fun z => z g2)]
        by_cases g3 : plR c ≤ plR x
        · rw [if_pos (nI_le g3 (by omega))]
          refine .inr ⟨?_, rfl⟩
          rintro (h | ⟨-, h⟩)
          · exact g1 h
          · omega
        · rw [if_neg (nI_ge (by omega) (by omega))]
          exact .inl ⟨.inr ⟨g2, by omega⟩, rfl⟩
      · rw [if_pos g2]
        refine .inr ⟨?_, rfl⟩
        rintro (h | ⟨h, -⟩)
        · exact g1 h
        · exact g2 h
  have key : ∀ (k fu i s : Nat) (c : List Nat), i + k = 64 → k < fu → s < 64 → s &&& m = s → tabX X a s = some c → (∀ j x, j < i → j &&& m = j → tabX X a j = some x → ¬ btr X x c) → ∃ s' c', s' < 64 ∧ s' &&& m = s' ∧ tabX X a s' = some c' ∧ F0_choose_l4 fu A (nI m) (nI s) (nI i) = some (nI s', A) ∧ ∀ j x, j < 64 → j &&& m = j → tabX X a j = some x → ¬ btr X x c' := by
    intro k
    induction k with
    | zero =>
      intro fu i s c hi hf hs hsm hc hall
      obtain ⟨fu, rfl⟩ : ∃ f, fu = f + 1 := ⟨fu - 1, by omega⟩
      obtain rfl : i = 64 := by omega
      refine ⟨s, c, hs, hsm, hc, ?_, hall⟩
      show F0_choose_l4_b _ A (nI m) (nI s) (nI 64) = _
      unfold F0_choose_l4_b
      rw [if_pos (by decide)]
    | succ k ih =>
      intro fu i s c hi hf hs hsm hc hall
      obtain ⟨fu, rfl⟩ : ∃ f, fu = f + 1 := ⟨fu - 1, by omega⟩
      have hi64 : i < 64 := by omega
      show ∃ s' c', s' < 64 ∧ s' &&& m = s' ∧ tabX X a s' = some c' ∧ F0_choose_l4_b (F0_choose_l4 fu) A (nI m) (nI s) (nI i) = some (nI s', A) ∧ _
      unfold F0_choose_l4_b F0_choose_j39
      rw [if_neg (show ¬ (64 : Int32) ≤ nI i from nI_ge (b := 64) hi64 (by decide)), nI_1]
      by_cases c1 : i &&& m = i
      · rw [if_neg (fun z => z ((bt_sub i hi64 m hm).mpr c1)), if_pos (inb_of hi64 (by decide)), nI_clamp (by omega)]
        have t1 := hT i hi64
        cases hx : tabX X a i with
        | none =>
          rw [hx] at t1
          rw [if_pos (show A 39 i = -1 from t1)]
          refine ih fu (i + 1) s c (by omega) (by omega) hs hsm hc (fun j x hj hjm hjx => ?_)
          by_cases e : j = i
          · subst e; rw [hx] at hjx; cases hjx
          · exact hall j x (by omega) hjm hjx
        | some x =>
          rw [hx] at t1
          have px := h63 i x hx
          rw [if_neg (show ¬ A 39 i = -1 by rw [t1.1]; exact nI_m1 (by omega))]
          rcases better i s x c hi64 hs hx hc with ⟨b1, b2⟩ | ⟨b1, b2⟩
          · rw [b2, Option.bind_some, if_neg n10]
            refine ih fu (i + 1) i x (by omega) (by omega) hi64 c1 hx (fun j y hj hjm hjy => ?_)
            by_cases e : j = i
            · subst e; rw [hx] at hjy; cases hjy; exact btr_ir
            · exact fun hb => hall j y (by omega) hjm hjy (btr_tr hb b1)
          · rw [b2, Option.bind_some, if_pos rfl]
            refine ih fu (i + 1) s c (by omega) (by omega) hs hsm hc (fun j y hj hjm hjy => ?_)
            by_cases e : j = i
            · subst e; rw [hx] at hjy; cases hjy; exact b1
            · exact hall j y (by omega) hjm hjy
      · rw [if_pos (fun z => c1 ((bt_sub i hi64 m hm).mp z))]
        refine ih fu (i + 1) s c (by omega) (by omega) hs hsm hc (fun j x hj hjm hjx => ?_)
        by_cases e : j = i
        · subst e; exact absurd hjm c1
        · exact hall j x (by omega) hjm hjx
  obtain ⟨s', c', r1, r2, r3, r4, r5⟩ := key 63 FUEL 1 0 c0 (by omega) (by unfold FUEL; omega) (by omega) (by simp) hc0 (fun j x hj hjm hjx => by
    obtain rfl : j = 0 := by omega
    have : tabX X a 0 = some c0 := hc0
    rw [this] at hjx
    cases hjx
    exact btr_ir)
  exact ⟨s', c', r1, r2, r3, r4, r5⟩
/-- the best by the things m, where all of a were surveyed -/
def bestX (X : EX) (m : Nat) : Option (List Nat) := (vis (xt X) m 6 []).foldl (pick (cmB X)) none
theorem st_sub {m : Nat} {q : List Nat} (h : stR q &&& m = stR q) : ∀ x ∈ q, m.testBit x = true := by
  intro x hx
  have h1 := (stR_bit q).mpr hx
  rw [← h, Nat.testBit_and, Bool.and_eq_true] at h1
  exact h1.2
theorem sub_st {m : Nat} {q : List Nat} (h : ∀ x ∈ q, m.testBit x = true) : stR q &&& m = stR q := by
  apply Nat.eq_of_testBit_eq
  intro i
  rw [Nat.testBit_and]
  cases hb : (stR q).testBit i with
  | false => rfl
  | true => rw [h i ((stR_bit q).mp hb)]; rfl
theorem all_bit {t x : Nat} (h : x < t) : (2 ^ t - 1).testBit x = true := by
  rw [Nat.testBit_two_pow_sub_one]
  exact decide_eq_true h
theorem choose_is (hX : OKX X) {m : Nat} (hm : m < 64) {s : Nat} {c : List Nat} (hsm : s &&& m = s) (hc : tabX X (2 ^ xt X - 1) s = some c) (hall : ∀ j x, j < 64 → j &&& m = j → tabX X (2 ^ xt X - 1) j = some x → ¬ btr X x c) : bestX X m = some c := by
  obtain ⟨r, e, r1, r2⟩ := top_B (X := X) hX.1 m
  obtain ⟨c1, c2⟩ := tabX_mem hX hc
  have hb : ∀ x, x < xt X → (2 ^ xt X - 1).testBit x = true := fun x hx => all_bit hx
  have hcm : c ∈ vis (xt X) m 6 [] := (vis_iff hb (fun x hx => absurd hx (by simp))).mpr ⟨c1, st_sub (by rw [c2]; exact hsm)⟩
  rcases r2 c hcm with rfl | h
  · exact e
  · obtain ⟨h1, h2⟩ := (vis_iff hb (fun x hx => absurd hx (by simp))).mp r1
    obtain ⟨x, hx, hx2⟩ := tabX_top hX h1
    have h3 := hall (stR r) x ((vis_okP hX r1).st hX) (sub_st h2) hx
    rcases hx2 with rfl | hx2
    · exact absurd h h3
    · exact absurd (btr_tr hx2 h) h3
end
