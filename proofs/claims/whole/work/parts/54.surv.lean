/-! ERRANDS: the class' survey -/
def tabM (M : Mem) (s : Nat) (pl bk g : Int32) : Mem := if M 39 s = -1 then up2 (up2 (up2 M 39 s pl) 40 s bk) 41 s g else if g ≤ M 41 s then M else up2 (up2 (up2 M 39 s pl) 40 s bk) 41 s g
def hitM (M : Mem) (x1 x2 x3 : Int32) : Mem := if ¬ x1 = M 34 12 then M else if ¬ x3 = M 34 13 then M else if ¬ M 34 14 = 0 then up2 M 34 14 (M 34 14 + 1) else up2 (up2 M 34 15 x2) 34 14 (M 34 14 + 1)
def wghM (X : EX) (M : Mem) (p : List Nat) : Mem := hitM (tabM M (stR p) (nI (plR p)) (nI (bkX X p)) (gnP X p)) (nI (stR p)) (nI (plR p)) (nI (bkX X p))
def okP (X : EX) (p : List Nat) : Prop := (∀ x ∈ p, x < xt X) ∧ p.Nodup ∧ p.length ≤ 6
theorem tabM_f (M : Mem) (s : Nat) (pl bk g : Int32) : FA [39, 40, 41] M (tabM M s pl bk g) := by
  unfold tabM
  split
  · exact ((FA.rf.up (by decide)).up (by decide)).up (by decide)
  · split
    · exact FA.rf
    · exact ((FA.rf.up (by decide)).up (by decide)).up (by decide)
theorem hitM_f (M : Mem) (x1 x2 x3 : Int32) : FA [34] M (hitM M x1 x2 x3) ∧ ∀ k, k ≠ 14 → k ≠ 15 → hitM M x1 x2 x3 34 k = M 34 k := by
  unfold hitM
  split
  · exact ⟨FA.rf, fun _ _ _ => rfl⟩
  · split
    · exact ⟨FA.rf, fun _ _ _ => rfl⟩
    · split
      · exact ⟨FA.rf.up (by decide), fun k h1 h2 => up2_nk h1⟩
      · exact ⟨(FA.rf.up (by decide)).up (by decide), fun k h1 h2 => by rw [up2_nk h1, up2_nk h2]⟩
theorem wghM_f (X : EX) (M : Mem) (p : List Nat) : FA [34, 39, 40, 41] M (wghM X M p) ∧ ∀ k, k ≠ 14 → k ≠ 15 → wghM X M p 34 k = M 34 k := by
  have h1 := tabM_f M (stR p) (nI (plR p)) (nI (bkX X p)) (gnP X p)
  have h2 := hitM_f (tabM M (stR p) (nI (plR p)) (nI (bkX X p)) (gnP X p)) (nI (stR p)) (nI (plR p)) (nI (bkX X p))
  refine ⟨fun c hc => ?_, fun k a b => ?_⟩
  · simp only [List.mem_cons, List.not_mem_nil, or_false, not_or] at hc
    exact (h2.1 c (by simp; omega)).trans (h1 c (by simp; omega))
  · exact (h2.2 k a b).trans (by rw [h1 34 (by decide)])
theorem fold_f (X : EX) : ∀ (L : List (List Nat)) (M : Mem), FA [34, 39, 40, 41] M (L.foldl (wghM X) M) ∧ ∀ k, k ≠ 14 → k ≠ 15 → L.foldl (wghM X) M 34 k = M 34 k
  | [], M => ⟨FA.rf, fun _ _ _ => rfl⟩
  | p :: L, M => by
    have h1 := wghM_f X M p
    have h2 := fold_f X L (wghM X M p)
    exact ⟨fun c hc => (h2.1 c hc).trans (h1.1 c hc), fun k a b => (h2.2 k a b).trans (h1.2 k a b)⟩
theorem PA.fold {X : EX} {A : Mem} (h : PA X A) (L : List (List Nat)) : PA X (L.foldl (wghM X) A) := by
  have f := fold_f X L A
  exact h.cong (f.1 5 (by decide)) (f.1 6 (by decide)) (f.1 7 (by decide)) (f.1 35 (by decide)) (f.1 36 (by decide)) (f.1 37 (by decide)) (f.2 6 (by decide) (by decide))
section
variable {X : EX} {A B : Mem} {n o : Nat}
theorem weigh_A (hX : OKX X) (hP : PA X A) {p : List Nat} (hp : okP X p) : F0_weigh A (nI (stR p)) (nI (plR p)) (nI (bkX X p)) = some (0, wghM X A p) := by
  have h6 := hX.1
  have s64 : stR p < 64 := stR_64 (fun x hx => by have := hp.1 x hx; omega)
  have hb := bkX_le hX hp.1 hp.2.2
  have j67 : ∀ M x1 x2 x3, F0_weigh_j67 M x1 x2 x3 = some (0, hitM M x1 x2 x3) := by
    intro M x1 x2 x3
    unfold F0_weigh_j67 hitM F0_weigh_j95
    split
    · rfl
    · split
      · rfl
      · split
        · rfl
        · rw [up2_nk (show (14 : Nat) ≠ 15 by decide)]
  have eg : nI (wsN (xw X) (stR p) (xt X)) - (xg X (lkX X (bkX X p)) + nI (bkX X p - xd X (lkX X (bkX X p)))) = gnP X p := by
    rw [ws_st hp.1 hp.2.1]
    rfl
  unfold F0_weigh F0_weigh_j45
  rw [if_neg (nI_pos (by omega)), if_pos (show nI (stR p) < 64 from nI_lt (b := 64) s64 (by decide)), worthOf_A hX hP s64, Option.bind_some]
  dsimp only
  rw [loss_A hX hP (by omega), Option.bind_some, if_pos (inb_of s64 (by decide)), nI_clamp (by omega)]
  simp only [eg, j67]
  rw [if_pos (inb_of s64 (by decide))]
  unfold wghM tabM
  by_cases h1 : A 39 (stR p) = -1
  · rw [if_pos h1, if_pos h1]
  · rw [if_neg h1, if_neg h1]
    by_cases h2 : gnP X p ≤ A 41 (stR p)
    · rw [if_pos h2, if_pos h2]
    · rw [if_neg h2, if_neg h2]
theorem okP.cons (hX : OKX X) {p : List Nat} (hp : okP X p) {x : Nat} (hx : x < xt X) (hb : (stR p).testBit x = false) : okP X (x :: p) := by
  have h1 : ∀ y ∈ x :: p, y < xt X := fun y hy => by
    rcases List.mem_cons.mp hy with rfl | hy
    · exact hx
    · exact hp.1 y hy
  have h2 : (x :: p).Nodup := List.nodup_cons.mpr ⟨fun hm => Bool.false_ne_true (hb.symm.trans ((stR_bit _).mpr hm)), hp.2.1⟩
  exact ⟨h1, h2, Nat.le_trans (nodup_len h2 h1) hX.1⟩
theorem tmX_cons {x : Nat} {p : List Nat} : tmX X (x :: p) = tmX X p + stN (shH (xs X) p) (xs X x) * xp X p.length := rfl
theorem bkX_eq {p : List Nat} : bkX X p = tmX X p + stN (shH (xs X) p) 0 * xp X p.length := rfl
theorem visit_A (hX : OKX X) {m : Nat} (hm : m < 64) : ∀ (d fu : Nat) (p : List Nat) (A : Mem), p.length + d = 6 → d < fu → PA X A → okP X p → S2 fu 0 (nI m) (hdI p) (nI (tmX X p)) (nI (stR p)) (nI (plR p)) (nI p.length) A = some (0, (vis (xt X) m d p).foldl (wghM X) A) := by
  have h6 := hX.1
  intro d
  induction d with
  | zero =>
    intro fu p A hd hf hP hp
    obtain ⟨fu, rfl⟩ : ∃ f, fu = f + 1 := ⟨fu - 1, by omega⟩
    show F0_visit _ A _ _ _ _ _ _ = _
    unfold F0_visit
    rw [leg_A hP (shelf_h hX hP hp.1) (shelf_0 hX hP) (shH_le hX hp.1) (by omega) (by omega), Option.bind_some]
    dsimp only
    rw [nI_add, ← bkX_eq, weigh_A hX hP hp, Option.bind_some, if_neg (show ¬ nI p.length < 6 from nI_nlt (b := 6) (by omega) (by omega))]
    rfl
  | succ d ih =>
    intro fu p A hd hf hP hp
    obtain ⟨fu, rfl⟩ : ∃ f, fu = f + 1 := ⟨fu - 1, by omega⟩
    have s64 : stR p < 64 := stR_64 (fun x hx => by have := hp.1 x hx; omega)
    have key : ∀ (k g i : Nat) (M : Mem), i + k = xt X → k < g → PA X M → F0_visit_l29 (S2 fu) g M (nI m) (hdI p) (nI (tmX X p)) (nI (stR p)) (nI (plR p)) (nI p.length) (nI i) = some (0, (chv (vis (xt X) m d) m p k i).foldl (wghM X) M) := by
      intro k
      induction k with
      | zero =>
        intro g i M hi hg hM
        obtain ⟨g, rfl⟩ : ∃ f, g = f + 1 := ⟨g - 1, by omega⟩
        show F0_visit_l29_b _ _ M _ _ _ _ _ _ (nI i) = _
        unfold F0_visit_l29_b
        rw [hM.1, if_pos (nI_le (by omega) (by omega))]
        rfl
      | succ k ihk =>
        intro g i M hi hg hM
        obtain ⟨g, rfl⟩ : ∃ f, g = f + 1 := ⟨g - 1, by omega⟩
        show F0_visit_l29_b _ _ M _ _ _ _ _ _ (nI i) = _
        unfold F0_visit_l29_b F0_visit_j99 chv
        rw [hM.1, if_neg (nI_ge (by omega) (by omega)), nI_1]
        by_cases c1 : m.testBit i = true
        · rw [if_neg (fun q => by rw [bt_and m hm i (by omega), c1] at q; cases q)]
          by_cases c2 : (stR p).testBit i = false
          · rw [if_neg (fun q => q ((bt_and _ s64 i (by omega)).mpr c2)), if_pos ⟨c1, c2⟩]
            have hi6 : i < xt X := by omega
            have e := ih fu (i :: p) M (by rw [List.length_cons]; omega) (by omega) hM (hp.cons hX hi6 c2)
            rw [leg_A hM (shelf_h hX hM hp.1) (shelf_A hX hM hi6) (shH_le hX hp.1) (hX.2.1 i (by omega)).1 (by omega), Option.bind_some]
            dsimp only
            rw [nI_add, ← tmX_cons, bt_or _ s64 i (by omega), show (10 : Int32) = nI 10 from rfl, pk_mul, nI_add, nI_1, nI_1]
            have e2 : S2 fu 0 (nI m) (nI i) (nI (tmX X (i :: p))) (nI (stR p ||| 2 ^ i)) (nI (plR p * 10 + i + 1)) (nI (p.length + 1)) M = some (0, (vis (xt X) m d (i :: p)).foldl (wghM X) M) := e
            rw [e2, Option.bind_some, List.foldl_append]
            exact ihk g (i + 1) _ (by omega) (by omega) (hM.fold _)
          · rw [if_pos (fun q => c2 ((bt_and _ s64 i (by omega)).mp q)), if_neg (fun q => c2 q.2)]
            exact ihk g (i + 1) M (by omega) (by omega) hM
        · have c3 : m.testBit i = false := by cases h : m.testBit i with
            | false => rfl
            | true => exact absurd h c1
          rw [if_pos ((bt_and m hm i (by omega)).mpr c3), if_neg (fun q => c1 q.1)]
          exact ihk g (i + 1) M (by omega) (by omega) hM
    show F0_visit _ A _ _ _ _ _ _ = _
    unfold F0_visit
    rw [leg_A hP (shelf_h hX hP hp.1) (shelf_0 hX hP) (shH_le hX hp.1) (by omega) (by omega), Option.bind_some]
    dsimp only
    rw [nI_add, ← bkX_eq, weigh_A hX hP hp, Option.bind_some, if_pos (show nI p.length < 6 from nI_lt (b := 6) (by omega) (by omega))]
    exact key (xt X) FUEL 0 _ (by omega) (by unfold FUEL; omega) (hP.fold [p])
theorem survey_A (hX : OKX X) {m : Nat} (hm : m < 64) {A1 : Mem} (h1 : F0_prepare A = some (0, A1)) (hP : PA X A1) : ∃ A2, F0_survey A (nI m) = some (0, (vis (xt X) m 6 []).foldl (wghM X) A2) ∧ PA X A2 ∧ FA [39] A1 A2 ∧ ∀ s, s < 64 → A2 39 s = -1 := by
  have key : ∀ (k fu i : Nat) (M : Mem), i + k = 64 → k < fu → FA [39] A1 M → (∀ s, s < i → M 39 s = -1) → ∃ A2, F0_survey_l6 fu M (nI m) (nI i) = some (0, (vis (xt X) m 6 []).foldl (wghM X) A2) ∧ PA X A2 ∧ FA [39] A1 A2 ∧ ∀ s, s < 64 → A2 39 s = -1 := by
    intro k
    induction k with
    | zero =>
      intro fu i M hi hf hF hs
      obtain ⟨fu, rfl⟩ : ∃ f, fu = f + 1 := ⟨fu - 1, by omega⟩
      obtain rfl : i = 64 := by omega
      have hM : PA X M := hP.cong (hF 5 (by decide)) (hF 6 (by decide)) (hF 7 (by decide)) (hF 35 (by decide)) (hF 36 (by decide)) (hF 37 (by decide)) (by rw [hF 34 (by decide)])
      refine ⟨M, ?_, hM, hF, hs⟩
      show F0_survey_l6_b _ M (nI m) (nI 64) = _
      unfold F0_survey_l6_b
      have e : S2 9 0 (nI m) (-1) 0 0 0 0 M = some (0, (vis (xt X) m 6 []).foldl (wghM X) M) := visit_A hX hm 6 9 [] M rfl (by decide) hM ⟨fun x hx => absurd hx (by simp), List.nodup_nil, by decide⟩
      rw [if_pos (by decide), e]
      rfl
    | succ k ih =>
      intro fu i M hi hf hF hs
      obtain ⟨fu, rfl⟩ : ∃ f, fu = f + 1 := ⟨fu - 1, by omega⟩
      obtain ⟨A2, e, r⟩ := ih fu (i + 1) (up2 M 39 i (-1)) (by omega) (by omega) (hF.up (by decide)) (fun s hs2 => by
        by_cases e : s = i
        · subst e; exact up2_at
        · rw [up2_nk e]; exact hs s (by omega))
      refine ⟨A2, ?_, r⟩
      show F0_survey_l6_b _ M (nI m) (nI i) = _
      unfold F0_survey_l6_b
      rw [if_neg (show ¬ (64 : Int32) ≤ nI i from nI_ge (b := 64) (by omega) (by decide)), if_pos (inb_of (by omega) (by decide)), nI_clamp (by omega), nI_1]
      exact e
  obtain ⟨A2, e, r⟩ := key 64 FUEL 0 A1 (by omega) (by unfold FUEL; omega) FA.rf (fun s hs => absurd hs (by omega))
  refine ⟨A2, ?_, r⟩
  unfold F0_survey
  rw [h1, Option.bind_some]
  exact e
/-- a set's row of the table -/
def tbR (X : EX) (A : Mem) (s : Nat) (st : Option (List Nat)) : Prop :=
  match st with
  | none => A 39 s = -1
  | some c => A 39 s = nI (plR c) ∧ A 40 s = nI (bkX X c) ∧ A 41 s = gnP X c
theorem tbR_step {p : List Nat} {s : Nat} {st : Option (List Nat)} (h : tbR X A s st) (hs : ∀ c, st = some c → plR c < 1000000) : tbR X (wghM X A p) s (if stR p = s then pick (cmA X) st p else st) := by
  have hf := hitM_f (tabM A (stR p) (nI (plR p)) (nI (bkX X p)) (gnP X p)) (nI (stR p)) (nI (plR p)) (nI (bkX X p))
  have e : ∀ c, c = 39 ∨ c = 40 ∨ c = 41 → wghM X A p c = tabM A (stR p) (nI (plR p)) (nI (bkX X p)) (gnP X p) c := fun c hc => hf.1 c (by simp; omega)
  have up : ∀ _ : Nat, tbR X (up2 (up2 (up2 A 39 (stR p) (nI (plR p))) 40 (stR p) (nI (bkX X p))) 41 (stR p) (gnP X p)) (stR p) (some p) := by
    intro _
    refine ⟨?_, ?_, up2_at⟩
    · rw [up2_ne (by decide), up2_ne (by decide), up2_at]
    · rw [up2_ne (by decide), up2_at]
  have tr : ∀ st', tbR X (tabM A (stR p) (nI (plR p)) (nI (bkX X p)) (gnP X p)) s st' → tbR X (wghM X A p) s st' := by
    intro st' h'
    unfold tbR at *
    rw [e 39 (.inl rfl), e 40 (.inr (.inl rfl)), e 41 (.inr (.inr rfl))]
    exact h'
  apply tr
  by_cases hsp : stR p = s
  · subst hsp
    rw [if_pos rfl]
    unfold tabM
    cases st with
    | none =>
      rw [if_pos (show A 39 (stR p) = -1 from h)]
      exact up 0
    | some c =>
      obtain ⟨h1, h2, h3⟩ := h
      have hc := hs c rfl
      rw [if_neg (by rw [h1]; exact nI_m1 (by omega)), h3]
      unfold pick cmA
      dsimp only
      by_cases hg : gnP X c < gnP X p
      · rw [if_neg (show ¬ gnP X p ≤ gnP X c by rw [ile]; rw [ilt] at hg; omega), if_pos (show decide (gnP X c < gnP X p) = true from decide_eq_true hg)]
        exact up 0
      · rw [if_pos (show gnP X p ≤ gnP X c by rw [ile]; rw [ilt] at hg; omega), if_neg (show ¬ decide (gnP X c < gnP X p) = true by rw [decide_eq_true_iff]; exact hg)]
        exact ⟨h1, h2, h3⟩
  · rw [if_neg hsp]
    have nk : ∀ M c v, c = 39 ∨ c = 40 ∨ c = 41 → ∀ c', up2 M c (stR p) v c' s = M c' s := fun M c v _ c' => by
      by_cases e : c' = c
      · subst e; exact up2_nk (fun q => hsp q.symm)
      · rw [up2_ne e]
    have un : ∀ c', tabM A (stR p) (nI (plR p)) (nI (bkX X p)) (gnP X p) c' s = A c' s := by
      intro c'
      unfold tabM
      split
      · rw [nk _ _ _ (.inr (.inr rfl)), nk _ _ _ (.inr (.inl rfl)), nk _ _ _ (.inl rfl)]
      · split
        · rfl
        · rw [nk _ _ _ (.inr (.inr rfl)), nk _ _ _ (.inr (.inl rfl)), nk _ _ _ (.inl rfl)]
    unfold tbR at *
    rw [un, un, un]
    exact h
theorem tbR_fold {s : Nat} : ∀ (L : List (List Nat)) (A : Mem) (st : Option (List Nat)), tbR X A s st → (∀ c, st = some c → plR c < 1000000) → (∀ p ∈ L, plR p < 1000000) → tbR X (L.foldl (wghM X) A) s ((L.filter (fun p => stR p == s)).foldl (pick (cmA X)) st)
  | [], A, st, h, _, _ => h
  | p :: L, A, st, h, hs, hL => by
    have hp := hL p List.mem_cons_self
    have h1 := tbR_step (p := p) h hs
    have h2 := tbR_fold L (wghM X A p) (if stR p = s then pick (cmA X) st p else st) h1 (fun c hc => by
      by_cases e : stR p = s
      · rw [if_pos e] at hc
        cases st with
        | none => cases hc; exact hp
        | some q =>
          unfold pick at hc
          dsimp only at hc
          by_cases e2 : cmA X p q = true
          · rw [if_pos e2] at hc; cases hc; exact hp
          · rw [if_neg e2] at hc; exact hs c hc
      · rw [if_neg e] at hc; exact hs c hc) (fun q hq => hL q (List.mem_cons_of_mem _ hq))
    rw [List.foldl_cons]
    by_cases e : stR p = s
    · rw [List.filter_cons_of_pos (by simp [e]), List.foldl_cons]
      rw [if_pos e] at h2
      exact h2
    · rw [List.filter_cons_of_neg (by simp [e])]
      rw [if_neg e] at h2
      exact h2
end
