section
variable {X : EX} {A B : Mem} {n o t : Nat}
/-- a slip's count, and the first -/
def hsP (X : EX) (sb : Int32) (st : Int32 × Int32) (p : List Nat) : Int32 × Int32 := if nI (bkX X p) = sb then (st.1 + 1, if st.1 = 0 then nI (plR p) else st.2) else st
theorem hit_step {m : Nat} {sb : Int32} {st : Int32 × Int32} {p : List Nat} (hm : m < 64) (hp : stR p < 64) (h12 : A 34 12 = nI m) (h13 : A 34 13 = sb) (h14 : A 34 14 = st.1) (h15 : A 34 15 = st.2) : wghM X A p 34 14 = (if stR p = m then hsP X sb st p else st).1 ∧ wghM X A p 34 15 = (if stR p = m then hsP X sb st p else st).2 := by
  have et : tabM A (stR p) (nI (plR p)) (nI (bkX X p)) (gnP X p) 34 = A 34 := tabM_f A _ _ _ _ 34 (by decide)
  unfold wghM hitM
  rw [et, h12, h13, h14]
  by_cases e : stR p = m
  · rw [if_pos e, if_neg (show ¬ ¬ nI (stR p) = nI m from fun z => z (by rw [e]))]
    unfold hsP
    by_cases e2 : nI (bkX X p) = sb
    · rw [if_pos e2, if_neg (show ¬ ¬ nI (bkX X p) = sb from fun z => z e2)]
      by_cases e3 : st.1 = 0
      · rw [if_neg (show ¬ ¬ st.1 = 0 from fun z => z e3), if_pos e3]
        exact ⟨up2_at, by rw [up2_nk (by decide), up2_at]⟩
      · rw [if_pos e3, if_neg e3]
        exact ⟨up2_at, by rw [up2_nk (by decide), et]; exact h15⟩
    · rw [if_neg e2, if_pos e2, et]
      exact ⟨h14, h15⟩
  · rw [if_neg e, if_pos (show ¬ nI (stR p) = nI m from fun z => e (nI_inj (by omega) (by omega) z)), et]
    exact ⟨h14, h15⟩
theorem hit_fold {m : Nat} {sb : Int32} (hm : m < 64) : ∀ (L : List (List Nat)) (A : Mem) (st : Int32 × Int32), (∀ p ∈ L, stR p < 64) → A 34 12 = nI m → A 34 13 = sb → A 34 14 = st.1 → A 34 15 = st.2 → L.foldl (wghM X) A 34 14 = ((L.filter (fun p => stR p == m)).foldl (hsP X sb) st).1 ∧ L.foldl (wghM X) A 34 15 = ((L.filter (fun p => stR p == m)).foldl (hsP X sb) st).2
  | [], A, st, _, _, _, h14, h15 => ⟨h14, h15⟩
  | p :: L, A, st, hL, h12, h13, h14, h15 => by
    have hp := hL p List.mem_cons_self
    obtain ⟨s1, s2⟩ := hit_step (X := X) hm hp h12 h13 h14 h15
    have ff := wghM_f X A p
    have h := hit_fold (sb := sb) hm L (wghM X A p) (if stR p = m then hsP X sb st p else st) (fun q hq => hL q (List.mem_cons_of_mem _ hq)) (by rw [ff.2 12 (by decide) (by decide)]; exact h12) (by rw [ff.2 13 (by decide) (by decide)]; exact h13) s1 s2
    rw [List.foldl_cons]
    by_cases e : stR p = m
    · rw [List.filter_cons_of_pos (by simp [e]), List.foldl_cons]
      rw [if_pos e] at h
      exact h
    · rw [List.filter_cons_of_neg (by simp [e])]
      rw [if_neg e] at h
      exact h
def HSt (M : Mem) (st : Int32 × Int32) : Prop := M 0 43 = st.1 ∧ M 0 44 = st.2
theorem xor_go {m s i : Nat} (h : m.testBit i = true) : (m ^^^ s) ^^^ ((m ^^^ s) &&& 2 ^ i) = m ^^^ (s ||| 2 ^ i) := by
  apply Nat.eq_of_testBit_eq
  intro j
  simp only [Nat.testBit_xor, Nat.testBit_and, Nat.testBit_or, Nat.testBit_two_pow]
  by_cases e : i = j
  · subst e
    rw [h]
    cases s.testBit i <;> simp
  · rw [show decide (i = j) = false from decide_eq_false e]
    cases m.testBit j <;> cases s.testBit j <;> rfl
theorem xor_0 {m s : Nat} : m ^^^ s = 0 ↔ s = m := by
  constructor
  · intro h
    apply Nat.eq_of_testBit_eq
    intro j
    have h1 : (m ^^^ s).testBit j = false := by rw [h]; exact Nat.zero_testBit j
    rw [Nat.testBit_xor] at h1
    cases h2 : m.testBit j <;> cases h3 : s.testBit j <;> rw [h2, h3] at h1 <;> first | rfl | cases h1
  · rintro rfl
    exact Nat.xor_self s
theorem xor_64 : ∀ m, m < 64 → ∀ s, s < 64 → m ^^^ s < 64 := by decide +kernel
theorem chv_full {vd : List Nat → List (List Nat)} {m : Nat} {p : List Nat} (h : stR p = m) : ∀ {k i : Nat}, chv vd m p k i = []
  | 0, _ => rfl
  | k + 1, i => by
    unfold chv
    rw [chv_full h, if_neg (fun z => by rw [h, z.1] at z; exact Bool.false_ne_true z.2.symm)]
    rfl
theorem ord_l (hX : OKX X) {m : Nat} (hm : m < 64) {f : Nat → Nat} {q : Nat} (hp : okP X (lst f q)) (hsub : ∀ x ∈ lst f q, m.testBit x = true) (sb : Int32) (rc : Nat → Int32 → Int32 → Mem → Option (Int32 × Mem)) (vd : List Nat → List (List Nat)) (hrec : ∀ i M st, i < xt X → m.testBit i = true → (stR (lst f q)).testBit i = false → PB X n o M → QB (fup f q i) (q + 1) M → HSt M st → ∃ M', rc 0 (nI (m ^^^ stR (i :: lst f q))) sb M = some (0, M') ∧ PB X n o M' ∧ QB (fup f q i) (q + 1) M' ∧ HSt M' (((vd (i :: lst f q)).filter (fun p => stR p == m)).foldl (hsP X sb) st) ∧ SM M M') : ∀ (k g i : Nat) (M : Mem) (st : Int32 × Int32), i + k = xt X → k < g → PB X n o M → QB f q M → HSt M st → ∃ M', F9_orders_l48 rc g M (nI (m ^^^ stR (lst f q))) sb (nI i) = some (0, M') ∧ PB X n o M' ∧ QB f q M' ∧ HSt M' (((chv vd m (lst f q) k i).filter (fun p => stR p == m)).foldl (hsP X sb) st) ∧ SM M M' := by
  have h6 := hX.1
  have s64 := hp.st hX
  have x64 := xor_64 m hm _ s64
  intro k
  induction k with
  | zero =>
    intro g i M st hi hg hP hQ hS
    obtain ⟨g, rfl⟩ : ∃ f, g = f + 1 := ⟨g - 1, by omega⟩
    refine ⟨M, ?_, hP, hQ, hS, SM.rf⟩
    show F9_orders_l48_b rc _ M _ sb (nI i) = _
    unfold F9_orders_l48_b
    rw [hP.1, if_pos (nI_le (by omega) (by omega))]
  | succ k ih =>
    intro g i M st hi hg hP hQ hS
    obtain ⟨g, rfl⟩ : ∃ f, g = f + 1 := ⟨g - 1, by omega⟩
    have hi6 : i < xt X := by omega
    show ∃ M', F9_orders_l48_b rc (F9_orders_l48 rc g) M _ sb (nI i) = _ ∧ _
    unfold F9_orders_l48_b F9_orders_j107 chv
    rw [hP.1, if_neg (nI_ge (by omega) (by omega)), nI_1, bt_sh _ x64 i (by omega), Nat.testBit_xor]
    cases c1 : m.testBit i with
    | false =>
      have c2 : (stR (lst f q)).testBit i = false := by
        cases hb : (stR (lst f q)).testBit i with
        | false => rfl
        | true => have := hsub i ((stR_bit _).mp hb); rw [c1] at this; cases this
      rw [c2, if_pos (by simp), if_neg (fun z => Bool.false_ne_true z.1)]
      exact ih g (i + 1) M st (by omega) (by omega) hP hQ hS
    | true =>
      cases c2 : (stR (lst f q)).testBit i with
      | true =>
        rw [if_pos (by simp), if_neg (fun z => Bool.false_ne_true z.2.symm)]
        exact ih g (i + 1) M st (by omega) (by omega) hP hQ hS
      | false =>
        have hp2 := hp.cons hX hi6 c2
        have hq6 : q + 1 ≤ 6 := by
          have := hp2.2.2
          rw [List.length_cons, lst_len] at this
          exact this
        have eQ := QB.go (x := i) hQ (show q < 6 by omega)
        have hS0 : HSt (up2 (up2 M 13 q (nI i)) 0 38 (nI (q + 1))) st := ⟨by rw [up2_nk (by decide), up2_ne (by decide)]; exact hS.1, by rw [up2_nk (by decide), up2_ne (by decide)]; exact hS.2⟩
        obtain ⟨M1, e1, hP1, hQ1, hS1, hM1⟩ := hrec i (up2 (up2 M 13 q (nI i)) 0 38 (nI (q + 1))) st hi6 c1 c2 hP.go eQ hS0
        have hP2 : PB X n o (up2 M1 0 38 (nI q)) := hP1.cong (up2_ne (by decide)) (up2_ne (by decide)) (up2_ne (by decide)) (up2_ne (by decide)) (up2_ne (by decide)) (up2_nk (by decide)) (up2_nk (by decide)) (up2_nk (by decide)) (up2_nk (by decide))
        have hQ2 : QB f q (up2 M1 0 38 (nI q)) := ⟨up2_at, by omega, fun j hj => by
          rw [up2_ne (show (13 : Nat) ≠ 0 by decide), hQ1.2.2 j (by omega)]
          unfold fup
          rw [if_neg (by omega)]⟩
        obtain ⟨M2, e2, hP3, hQ3, hS3, hM3⟩ := ih g (i + 1) (up2 M1 0 38 (nI q)) (((vd (i :: lst f q)).filter (fun p => stR p == m)).foldl (hsP X sb) st) (by omega) (by omega) hP2 hQ2 ⟨by rw [up2_nk (by decide)]; exact hS1.1, by rw [up2_nk (by decide)]; exact hS1.2⟩
        refine ⟨M2, ?_, hP3, hQ3, ?_, (SM.go.tr hM1).tr ((show SM M1 (up2 M1 0 38 (nI q)) from ⟨fun c c0 _ => up2_ne c0, fun k hk => up2_nk (by omega)⟩).tr hM3)⟩
        · rw [if_neg (by simp), if_pos (show inb (M 0 38) 6 = true by rw [hQ.1]; exact inb_of (by omega) (by decide)), hQ.1, nI_clamp (by omega), bt_less _ x64 i (by omega), xor_go c1, nI_1]
          have e1' : rc 0 (nI (m ^^^ (stR (lst f q) ||| 2 ^ i))) sb (up2 (up2 M 13 q (nI i)) 0 38 (nI (q + 1))) = some (0, M1) := e1
          rw [e1', Option.bind_some]
          dsimp only
          rw [hQ1.1, show nI (q + 1) - 1 = nI q from nI_pred q]
          exact e2
        · rw [if_pos ⟨rfl, rfl⟩, List.filter_append, List.foldl_append]
          exact hS3
theorem ord_B (hX : OKX X) {m : Nat} (hm : m < 64) (hmt : ∀ i, m.testBit i = true → i < xt X) (sb : Int32) : ∀ (d fu : Nat) (f : Nat → Nat) (q : Nat) (B : Mem) (st : Int32 × Int32), q + d = 6 → d < fu → PB X n o B → QB f q B → okP X (lst f q) → (∀ x ∈ lst f q, m.testBit x = true) → HSt B st → ∃ B', S5 fu 0 (nI (m ^^^ stR (lst f q))) sb B = some (0, B') ∧ PB X n o B' ∧ QB f q B' ∧ HSt B' (((vis (xt X) m d (lst f q)).filter (fun p => stR p == m)).foldl (hsP X sb) st) ∧ SM B B' := by
  intro d
  have leaf : ∀ (fu : Nat) (f : Nat → Nat) (q : Nat) (B : Mem) (st : Int32 × Int32) (L : List (List Nat)), PB X n o B → QB f q B → okP X (lst f q) → HSt B st → stR (lst f q) = m → L = [lst f q] → ∃ B', S5 (fu + 1) 0 (nI (m ^^^ stR (lst f q))) sb B = some (0, B') ∧ PB X n o B' ∧ QB f q B' ∧ HSt B' ((L.filter (fun p => stR p == m)).foldl (hsP X sb) st) ∧ SM B B' := by
    intro fu f q B st L hP hQ hp hS hst hL
    subst hL
    rw [List.filter_cons_of_pos (by simp [hst]), List.filter_nil]
    show ∃ B', F9_orders (S5 fu) B _ sb = _ ∧ PB X n o B' ∧ QB f q B' ∧ HSt B' (hsP X sb st (lst f q)) ∧ _
    unfold F9_orders hsP
    rw [xor_0.mpr hst, if_neg (by decide), back_B hX hP hQ hp.ls.2, Option.bind_some]
    dsimp only
    by_cases e : nI (bkX X (lst f q)) = sb
    · rw [if_neg (fun z => z e), if_pos e]
      simp only [hS.1, hS.2]
      by_cases e2 : st.1 = 0
      · rw [if_pos e2, if_neg (show ¬ ¬ st.1 + 1 = 1 from fun z => z (by rw [e2]; rfl))]
        have hP1 : PB X n o (up2 B 0 43 (st.1 + 1)) := hP.cong (up2_ne (by decide)) (up2_ne (by decide)) (up2_ne (by decide)) (up2_ne (by decide)) (up2_ne (by decide)) (up2_nk (by decide)) (up2_nk (by decide)) (up2_nk (by decide)) (up2_nk (by decide))
        have hQ1 : QB f q (up2 B 0 43 (st.1 + 1)) := ⟨by rw [up2_nk (by decide)]; exact hQ.1, hQ.2.1, fun j hj => by rw [up2_ne (by decide)]; exact hQ.2.2 j hj⟩
        rw [digits_B hQ1, Option.bind_some]
        refine ⟨up2 (up2 B 0 43 (st.1 + 1)) 0 44 (nI (plR (lst f q))), rfl, hP1.cong (up2_ne (by decide)) (up2_ne (by decide)) (up2_ne (by decide)) (up2_ne (by decide)) (up2_ne (by decide)) (up2_nk (by decide)) (up2_nk (by decide)) (up2_nk (by decide)) (up2_nk (by decide)), ⟨by rw [up2_nk (by decide)]; exact hQ1.1, hQ.2.1, fun j hj => by rw [up2_ne (by decide)]; exact hQ1.2.2 j hj⟩, ⟨?_, up2_at⟩, ⟨fun c c0 _ => by rw [up2_ne c0, up2_ne c0], fun k hk => by rw [up2_nk (by omega), up2_nk (by omega)]⟩⟩
        rw [up2_nk (by decide), up2_at]
      · have e3 : ¬ st.1 + 1 = 1 := fun z => e2 (by
          have := congrArg (fun w => w - 1) z
          rw [Int32.add_sub_cancel] at this
          exact this)
        rw [if_neg e2, if_pos e3]
        refine ⟨_, rfl, hP.cong (by rw [up2_ne (by decide), up2_ne (by decide)]) (by rw [up2_ne (by decide), up2_ne (by decide)]) (by rw [up2_ne (by decide), up2_ne (by decide)]) (by rw [up2_ne (by decide), up2_ne (by decide)]) (by rw [up2_ne (by decide), up2_ne (by decide)]) (by rw [up2_nk (by decide), up2_nk (by decide)]) (by rw [up2_nk (by decide), up2_nk (by decide)]) (by rw [up2_nk (by decide), up2_nk (by decide)]) (by rw [up2_nk (by decide), up2_nk (by decide)]), ⟨by rw [up2_nk (by decide), up2_nk (by decide)]; exact hQ.1, hQ.2.1, fun j hj => by rw [up2_ne (by decide), up2_ne (by decide)]; exact hQ.2.2 j hj⟩, ⟨?_, up2_at⟩, ⟨fun c c0 _ => by rw [up2_ne c0, up2_ne c0], fun k hk => by rw [up2_nk (by omega), up2_nk (by omega)]⟩⟩
        rw [up2_nk (by decide), up2_at]
    · rw [if_pos e, if_neg e]
      exact ⟨B, rfl, hP, hQ, hS, SM.rf⟩
  induction d with
  | zero =>
    intro fu f q B st hd hfu hP hQ hp hsub hS
    obtain ⟨fu, rfl⟩ : ∃ f, fu = f + 1 := ⟨fu - 1, by omega⟩
    have hst : stR (lst f q) = m := by
      apply Nat.eq_of_testBit_eq
      intro i
      cases hb : (stR (lst f q)).testBit i with
      | true => exact (hsub i ((stR_bit _).mp hb)).symm
      | false =>
        cases hc : m.testBit i with
        | false => rfl
        | true =>
          have h1 := (hp.cons hX (hmt i hc) hb).2.2
          rw [List.length_cons, lst_len] at h1
          omega
    exact leaf fu f q B st _ hP hQ hp hS hst rfl
  | succ d ih =>
    intro fu f q B st hd hfu hP hQ hp hsub hS
    obtain ⟨fu, rfl⟩ : ∃ f, fu = f + 1 := ⟨fu - 1, by omega⟩
    by_cases hst : stR (lst f q) = m
    · exact leaf fu f q B st _ hP hQ hp hS hst (by unfold vis; rw [chv_full hst])
    · obtain ⟨B2, e2, hP2, hQ2, hS2, hM2⟩ := ord_l hX hm hp hsub sb (S5 fu) (vis (xt X) m d) (fun i M st hi hmi hb hPM hQM hSM => by
        have h1 := ih fu (fup f q i) (q + 1) M st (by omega) (by omega) hPM hQM (by rw [fup_lst]; exact hp.cons hX hi hb) (by
          rw [fup_lst]
          intro x hx
          rcases List.mem_cons.mp hx with rfl | hx
          · exact hmi
          · exact hsub x hx) hSM
        rw [fup_lst] at h1
        exact h1) (xt X) FUEL 0 B st (by omega) (by have := hX.1; unfold FUEL; omega) hP hQ hS
      refine ⟨B2, ?_, hP2, hQ2, ?_, hM2⟩
      · show F9_orders (S5 fu) B _ sb = _
        unfold F9_orders
        have x64 := xor_64 m hm _ (hp.st hX)
        rw [if_pos (show ¬ nI (m ^^^ stR (lst f q)) = 0 from nI_ne0 (Nat.pos_of_ne_zero (fun z => hst (xor_0.mp z))) (by omega))]
        exact e2
      · unfold vis
        rw [List.filter_cons_of_neg (by simp [hst])]
        exact hS2
end
