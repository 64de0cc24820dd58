/-! TEXTS: what a rule tells -/
def SK (M : Mem) : List Int32 → Prop
  | [] => True
  | v :: r => M 32 r.length = v ∧ SK M r
theorem SK.up {M : Mem} {k : Nat} {v : Int32} : ∀ {st : List Int32}, SK M st → st.length ≤ k → SK (up2 M 32 k v) st
  | [], _, _ => trivial
  | w :: r, h, hk => by
    rw [List.length_cons] at hk
    exact ⟨by rw [up2_nk (by omega)]; exact h.1, SK.up h.2 (by omega)⟩
def clI (v : Int32) : Int32 := jmax 0 (jmin 99 v)
def nmL (l : List Int32) (c : Int32) : Int32 := l.getD (min (-1 - c).toInt.toNat 5) 0
theorem two_eq (M : Mem) (c l r : Int32) : F4_ofTwo M c l r = some (two c l r, M) := by
  unfold F4_ofTwo two
  repeat' split
  all_goals first | rfl | contradiction
theorem clI_ok (v : Int32) : 0 ≤ (clI v).toInt ∧ (clI v).toInt ≤ 99 := by
  have e9 : (99 : Int32).toInt = 99 := by decide
  have e0 : (0 : Int32).toInt = 0 := by decide
  unfold clI jmax jmin
  by_cases h : v < 99
  · rw [if_pos h]
    rw [ilt, e9] at h
    by_cases h2 : 0 < v
    · rw [if_pos h2]
      rw [ilt, e0] at h2
      omega
    · rw [if_neg h2]
      omega
  · rw [if_neg h, if_pos (by decide)]
    omega
theorem within_eq (M : Mem) (v : Int32) : F9_within M v 0 99 = some (clI v, M) := by
  have e9 : (99 : Int32).toInt = 99 := by decide
  have e0 : (0 : Int32).toInt = 0 := by decide
  unfold F9_within clI jmax jmin
  by_cases h1 : 0 ≤ v
  · rw [if_pos h1]
    rw [ile, e0] at h1
    by_cases h2 : v ≤ 99
    · rw [if_pos h2]
      rw [ile, e9] at h2
      by_cases h3 : v < 99
      · rw [if_pos h3]
        by_cases h4 : 0 < v
        · rw [if_pos h4]
        · rw [if_neg h4]
          rw [ilt, e0] at h4
          have : v = 0 := Int32.toInt_inj.mp (by omega)
          rw [this]
      · rw [if_neg h3, if_pos (by decide)]
        rw [ilt, e9] at h3
        have : v = 99 := Int32.toInt_inj.mp (by omega)
        rw [this]
    · rw [if_neg h2]
      rw [ile, e9] at h2
      rw [if_neg (show ¬ v < 99 by rw [ilt, e9]; omega), if_pos (show (0 : Int32) < 99 by decide)]
  · rw [if_neg h1]
    rw [ile, e0] at h1
    rw [if_pos (show v < 99 by rw [ilt, e9]; omega), if_neg (show ¬ 0 < v by rw [ilt, e0]; omega)]
theorem nam6 {c : Int32} (h1 : ¬ c < -6) (h2 : c < 0) : ∃ j, j < 6 ∧ -1 - c = nI j ∧ (-1 - c).toInt.toNat = j := by
  have e6 : (-6 : Int32).toInt = -6 := by decide
  have e0 : (0 : Int32).toInt = 0 := by decide
  have e1 : (-1 : Int32).toInt = -1 := by decide
  rw [ilt, e6] at h1
  rw [ilt, e0] at h2
  have h3 : (-1 - c).toInt = -1 - c.toInt := by rw [isub (by rw [e1]; omega) (by rw [e1]; omega), e1]
  obtain ⟨j, hj, hj2, -⟩ := nat_of (x := -1 - c) (by rw [h3]; omega)
  exact ⟨j, by omega, hj, by omega⟩
theorem tell_l {cell : Nat} (hcell : cell ≠ 32 ∧ cell ≠ 31) {l : List Int32} : ∀ (k fu i : Nat) (M : Mem) (st : List Int32) (v : Int32), i + k ≤ 160 → k < fu → SK M st → st.length ≤ i → (∀ j, j < 6 → M 31 j = l.getD j 0) → exe (nmL l) (M cell) k i st = some [v] → ∃ M', F4_tell_l137 fu M cell (nI (i + k)) (nI st.length) (nI i) = some (clI v, M') ∧ FA [32] M M' := by
  intro k
  induction k with
  | zero =>
    intro fu i M st v hi hf hS hl hn he
    obtain ⟨fu, rfl⟩ : ∃ f, fu = f + 1 := ⟨fu - 1, by omega⟩
    have he2 : st = [v] := by
      have : some st = some [v] := he
      cases this
      rfl
    subst he2
    refine ⟨M, ?_, FA.rf⟩
    show F4_tell_l137_b _ M cell (nI (i + 0)) (nI 1) (nI i) = _
    unfold F4_tell_l137_b
    rw [if_pos (show nI (i + 0) ≤ nI i from nI_le (Nat.le_refl _) (by omega)), if_pos (show (1 : Int32) ≤ nI 1 by decide), if_pos (show inb (nI 1 - 1) 160 = true by decide)]
    have h0 : M 32 0 = v := hS.1
    show some (jmax 0 (jmin 99 (M 32 0)), M) = _
    rw [h0]
    rfl
  | succ k ih =>
    intro fu i M st v hi hf hS hl hn he
    obtain ⟨fu, rfl⟩ : ∃ f, fu = f + 1 := ⟨fu - 1, by omega⟩
    have he2 : Option.bind (stp (nmL l) (M cell i) st) (fun st' => exe (nmL l) (M cell) k (i + 1) st') = some [v] := he
    obtain ⟨st', h1, h2⟩ := Option.bind_eq_some_iff.mp he2
    -- going on
    have go : ∀ (j : Nat) (w : Int32) (r : List Int32), st' = w :: r → SK M r → r.length = j → r.length ≤ i → ∃ M', F4_tell_l137 fu (up2 M 32 j w) cell (nI (i + (k + 1))) (nI (j + 1)) (nI (i + 1)) = some (clI v, M') ∧ FA [32] M M' := by
      intro j w r hst hr hj hri
      subst hj
      have u : up2 M 32 r.length w cell = M cell := up2_ne hcell.1
      obtain ⟨M', e, f⟩ := ih fu (i + 1) (up2 M 32 r.length w) (w :: r) v (by omega) (by omega) ⟨up2_at, hr.up (Nat.le_refl _)⟩ (by rw [List.length_cons]; omega) (fun j hj => by rw [up2_ne (by decide)]; exact hn j hj) (by rw [u, ← hst]; exact h2)
      rw [show i + 1 + k = i + (k + 1) by omega] at e
      exact ⟨M', e, fun c hc => (f c hc).trans (up2_ne (by simpa using hc))⟩
    show ∃ M', F4_tell_l137_b (F4_tell_l137 fu) M cell (nI (i + (k + 1))) (nI st.length) (nI i) = _ ∧ _
    unfold F4_tell_l137_b F4_tell_j216 F4_tell_j266 F4_tell_j195 F4_tell_j311
    rw [if_neg (nI_ge (by omega) (by omega)), if_pos (inb_of (by omega) (by decide)), nI_clamp (show i < 2 ^ 31 by omega), nI_1 i]
    unfold stp at h1
    by_cases c6 : M cell i < -6
    · rw [if_pos c6] at h1 ⊢
      by_cases c7 : M cell i = -7
      · rw [if_pos c7] at h1
        rw [if_pos c7]
        cases st with
        | nil => cases h1
        | cons x r =>
          cases h1
          rw [List.length_cons] at hl
          have e1 : nI (r.length + 1) - 1 = nI r.length := nI_pred _
          have h0 : M 32 r.length = x := hS.1
          rw [List.length_cons, if_pos (show (1 : Int32) ≤ nI (r.length + 1) from nI_le (a := 1) (by omega) (by omega)), e1, if_pos (inb_of (by omega) (by decide)), if_neg (show ¬ ¬ M cell i = -7 from fun q => q c7), if_pos (inb_of (by omega) (by decide)), nI_clamp (by omega), h0]
          exact go r.length (-x) r rfl hS.2 rfl (by omega)
      · rw [if_neg c7] at h1
        rw [if_neg c7]
        by_cases c8 : M cell i = -8
        · rw [if_pos c8] at h1
          rw [if_neg (show ¬ ¬ M cell i = -8 from fun q => q c8)]
          cases st with
          | nil => cases h1
          | cons x r =>
            cases h1
            rw [List.length_cons] at hl
            have e1 : nI (r.length + 1) - 1 = nI r.length := nI_pred _
            have h0 : M 32 r.length = x := hS.1
            rw [List.length_cons, if_pos (show (1 : Int32) ≤ nI (r.length + 1) from nI_le (a := 1) (by omega) (by omega)), e1, if_pos (inb_of (by omega) (by decide)), if_pos c7, if_pos (inb_of (by omega) (by decide)), if_pos (inb_of (by omega) (by decide)), nI_clamp (by omega)]
            by_cases hx : x = 0
            · rw [if_neg (show ¬ ¬ M 32 r.length = 0 from fun q => q (by rw [h0]; exact hx))]
              exact go r.length 1 r (by rw [if_neg (fun q => q hx)]) hS.2 rfl (by omega)
            · rw [if_pos (show ¬ M 32 r.length = 0 by rw [h0]; exact hx)]
              exact go r.length 0 r (by rw [if_pos hx]) hS.2 rfl (by omega)
        · rw [if_neg c8] at h1
          rw [if_pos c8]
          match st, h1, hS, hl with
          | [], h1, _, _ => cases h1
          | [_], h1, _, _ => cases h1
          | b :: a :: r, h1, hS, hl =>
            cases h1
            rw [List.length_cons, List.length_cons] at hl
            have e0 : nI (r.length + 1 + 1) + -1 = nI (r.length + 1) := pk_m1 _
            have e1 : nI (r.length + 1) - 1 = nI r.length := nI_pred _
            have hb : M 32 (r.length + 1) = b := hS.1
            have ha : M 32 r.length = a := hS.2.1
            rw [List.length_cons, List.length_cons, if_pos (show (2 : Int32) ≤ nI (r.length + 1 + 1) from nI_le (a := 2) (by omega) (by omega)), e0, e1, if_pos (inb_of (by omega) (by decide)), if_pos (inb_of (by omega) (by decide)), nI_clamp (by omega), nI_clamp (by omega), ha, hb, two_eq, Option.bind_some]
            dsimp only
            exact go r.length _ r rfl hS.2.2 rfl (by omega)
    · rw [if_neg c6] at h1 ⊢
      cases h1
      rw [if_pos (show nI st.length < 160 from nI_lt (b := 160) (by omega) (by decide)), nI_1]
      by_cases c0 : M cell i < 0
      · obtain ⟨j, hj, hj2, hj3⟩ := nam6 c6 c0
        rw [if_pos c0, hj2, if_pos (inb_of hj (by decide)), nI_clamp (by omega), if_pos (inb_of (by omega) (by decide)), nI_clamp (by omega)]
        refine go st.length (M 31 j) st ?_ hS rfl (by omega)
        rw [if_pos c0, hn j hj]
        unfold nmL
        rw [hj3, Nat.min_eq_left (by omega)]
      · rw [if_neg c0, if_pos (inb_of (by omega) (by decide)), nI_clamp (by omega)]
        exact go st.length _ st (by rw [if_neg c0]) hS rfl (by omega)
/-- one text on both sides -/
def TX (A B : Mem) (t : Nat) : Prop := ∃ s : Nat → Nat, s 0 = 0 ∧ s 0 ≤ s 1 ∧ s 1 ≤ s 2 ∧ s 2 ≤ s 3 ∧ s 3 ≤ 160 ∧ (∀ p, p < 4 → A (25 + t) p = nI (s p)) ∧ ∀ B2 : Mem, (∀ j, j < 160 → B2 1 (160 * t + j) = B 1 (160 * t + j)) → B2 2 t = B 2 t → ∀ w, w < 3 → ∃ B3 v, F9_read B2 (nI t) (nI w) = some (v, B3) ∧ RFr B2 B3 ∧ B3 0 30 = 0 ∧ exe (nmB B2) (A (18 + t)) (s (w + 1) - s w) (s w) [] = some [v]
def RT (m r : Nat) (A B : Mem) : Prop := m ≤ 6 ∧ r < m ∧ A 16 5 = nI m ∧ B 0 3 = nI m ∧ A 16 6 = nI r ∧ B 0 4 = nI r ∧ ∀ t, t < m → TX A B t
def valO : Option (List Int32) → Int32
  | some (v :: _) => v
  | _ => 0
theorem RT.tell {m r n o : Nat} {A B : Mem} (h : RT m r A B) (h3 : A 1 3 = nI n) (h10 : B 0 10 = nI n) (h4 : A 1 4 = nI o) (h11 : B 0 11 = nI o) : ∃ tv, TellA tv A ∧ TellB tv B ∧ TvOk tv := by
  obtain ⟨m6, rm, a5, b3, a6, b4, hT⟩ := h
  obtain ⟨s, s0, s01, s12, s23, s3, hs, hB⟩ := hT r rm
  have smono : ∀ p, p < 3 → s p ≤ s (p + 1) ∧ s (p + 1) ≤ 160 := fun p hp => by
    rcases (show p = 0 ∨ p = 1 ∨ p = 2 by omega) with rfl | rfl | rfl
    · exact ⟨s01, by show s 1 ≤ 160; omega⟩
    · exact ⟨s12, by show s 2 ≤ 160; omega⟩
    · exact ⟨s23, s3⟩
  have nms : ∀ (M : Mem) (it nu pl ou wa ma : Int32), nmB (up2 (up2 (up2 (up2 (up2 (up2 M 0 17 it) 0 18 nu) 0 19 pl) 0 20 ou) 0 21 wa) 0 22 ma) = nmL [it, nu, pl, ou, wa, ma] := by
    intro M it nu pl ou wa ma
    funext c
    unfold nmB nmL
    have h5 : min (-1 - c).toInt.toNat 5 ≤ 5 := Nat.min_le_right _ _
    generalize min (-1 - c).toInt.toNat 5 = q at h5
    rcases (show q = 0 ∨ q = 1 ∨ q = 2 ∨ q = 3 ∨ q = 4 ∨ q = 5 by omega) with rfl | rfl | rfl | rfl | rfl | rfl <;> simp [up2]
  have u1 : ∀ (M : Mem) (it nu pl ou wa ma : Int32), ∀ c, c ≠ 0 → up2 (up2 (up2 (up2 (up2 (up2 M 0 17 it) 0 18 nu) 0 19 pl) 0 20 ou) 0 21 wa) 0 22 ma c = M c := fun M it nu pl ou wa ma c hc => by
    rw [up2_ne hc, up2_ne hc, up2_ne hc, up2_ne hc, up2_ne hc, up2_ne hc]
  have uk : ∀ (M : Mem) (it nu pl ou wa ma : Int32), ∀ k, k < 17 ∨ 22 < k → up2 (up2 (up2 (up2 (up2 (up2 M 0 17 it) 0 18 nu) 0 19 pl) 0 20 ou) 0 21 wa) 0 22 ma 0 k = M 0 k := fun M it nu pl ou wa ma k hk => by
    rw [up2_nk (by omega), up2_nk (by omega), up2_nk (by omega), up2_nk (by omega), up2_nk (by omega), up2_nk (by omega)]
  refine ⟨fun p it nu pl wa => clI (valO (exe (nmL [it, nu, pl, nI o, wa, nI n]) (A (18 + r)) (s (p + 1) - s p) (s p) [])), ?_, ?_, fun p it nu pl wa => clI_ok _⟩
  · intro M1 hk p it nu pl wa hp
    obtain ⟨k1, k2, k3, k4, k5⟩ := hk
    obtain ⟨B3, v, -, -, -, he⟩ := hB (up2 (up2 (up2 (up2 (up2 (up2 B 0 17 it) 0 18 nu) 0 19 pl) 0 20 (nI o)) 0 21 wa) 0 22 (nI n)) (fun j _ => by rw [u1 _ _ _ _ _ _ _ 1 (by decide)]) (by rw [u1 _ _ _ _ _ _ _ 2 (by decide)]) p hp
    rw [nms] at he
    have hm := smono p hp
    have n31 : ∀ c, c ≠ 31 → up2 (up2 (up2 (up2 (up2 (up2 M1 31 0 it) 31 1 nu) 31 2 pl) 31 3 (M1 1 4)) 31 4 wa) 31 5 (M1 1 3) c = M1 c := fun c hc => by
      rw [up2_ne hc, up2_ne hc, up2_ne hc, up2_ne hc, up2_ne hc, up2_ne hc]
    have x31 : ∀ j, j < 6 → up2 (up2 (up2 (up2 (up2 (up2 M1 31 0 it) 31 1 nu) 31 2 pl) 31 3 (M1 1 4)) 31 4 wa) 31 5 (M1 1 3) 31 j = [it, nu, pl, nI o, wa, nI n].getD j 0 := fun j hj => by
      rw [k1, k2, h3, h4]
      rcases (show j = 0 ∨ j = 1 ∨ j = 2 ∨ j = 3 ∨ j = 4 ∨ j = 5 by omega) with rfl | rfl | rfl | rfl | rfl | rfl <;> simp [up2]
    obtain ⟨M', e, f⟩ := tell_l (cell := 18 + r) ⟨by omega, by omega⟩ (l := [it, nu, pl, nI o, wa, nI n]) (s (p + 1) - s p) FUEL (s p) (up2 (up2 (up2 (up2 (up2 (up2 M1 31 0 it) 31 1 nu) 31 2 pl) 31 3 (M1 1 4)) 31 4 wa) 31 5 (M1 1 3)) [] v (by omega) (by unfold FUEL; omega) trivial (Nat.zero_le _) x31 (by rw [n31 _ (by omega), k5 (18 + r) (by omega) (by omega)]; exact he)
    refine ⟨M', ?_, fun c c31 c32 => by rw [f c (by simpa using c32), n31 c c31]⟩
    have g : ∀ q, q < 4 → up2 (up2 (up2 (up2 (up2 (up2 M1 31 0 it) 31 1 nu) 31 2 pl) 31 3 (M1 1 4)) 31 4 wa) 31 5 (M1 1 3) (25 + r) q = nI (s q) := fun q hq => by
      rw [n31 _ (by omega), k5 (25 + r) (by omega) (by omega)]
      exact hs q hq
    unfold F4_tell
    rw [k4, k3, a6, a5, if_neg (nI_pos (by omega)), if_neg (nI_ge rm (by omega)), if_neg (nI_pos (by omega)), if_pos (show nI p < 3 from nI_lt (b := 3) hp (by decide)), if_pos (inb_of (by omega) (by decide)), nI_1, if_pos (inb_of (by omega) (by decide)), if_pos (inb_of (by omega) (by decide)), nI_clamp (by omega), nI_clamp (by omega), nI_clamp (by omega), g (p + 1) (by omega), g p (by omega)]
    have ej : jmin (160 : Int32) (nI (s (p + 1))) = nI (s (p + 1)) := by
      rw [show (160 : Int32) = nI 160 from rfl, jmin_nI (by decide) (by omega), Nat.min_eq_right hm.2]
    have ex : jmax (0 : Int32) (nI (s p)) = nI (s p) := jmax0_nn (by rw [nI_toInt (by omega)]; omega)
    rw [ej, ex]
    rw [show s p + (s (p + 1) - s p) = s (p + 1) by omega] at e
    dsimp only
    rw [he]
    exact e
  · intro M1 hk p it nu pl wa hp
    obtain ⟨k1, k2, k3, k4, k5⟩ := hk
    obtain ⟨B3, v, e1, e2, -, he⟩ := hB (up2 (up2 (up2 (up2 (up2 (up2 M1 0 17 it) 0 18 nu) 0 19 pl) 0 20 (nI o)) 0 21 wa) 0 22 (nI n)) (fun j _ => by rw [u1 _ _ _ _ _ _ _ 1 (by decide), k1]) (by rw [u1 _ _ _ _ _ _ _ 2 (by decide), k2]) p hp
    rw [nms] at he
    refine ⟨B3, ?_, fun c hc => by rw [e2.1 c hc, u1 _ _ _ _ _ _ _ c hc], fun k hk => by rw [e2.2 k (by omega), uk _ _ _ _ _ _ _ k (by omega)]⟩
    unfold F9_says
    rw [k4, k5, h11, h10, k3, b4, e1, Option.bind_some]
    dsimp only
    rw [within_eq, Option.bind_some, he]
    rfl
