def NF (M : Mem) (x1 : Int32) : Option (Int32 × Mem) :=
  if ¬ x1 = 0 then
    if ¬ x1 = (1 : Int32) then
      Option.bind (F9_backOf M) fun r9 =>
      Option.bind (F9_worthOf r9.2) fun r11 =>
      Option.bind (F9_gainOf r11.2 r9.1 r11.1) fun r13 =>
      some (r13.1, r13.2)
    else
      Option.bind (F9_backOf M) fun r15 =>
      some (r15.1, r15.2)
  else
    Option.bind (F9_digitsOf M) fun r17 =>
    some (r17.1, r17.2)
theorem NF_eq (fu : Nat) (M : Mem) (x1 x2 x3 : Int32) : F9_nearest_l32 (fu + 1) M x1 x2 x3 0 = NF M x1 := by
  show F9_nearest_l32_b _ M x1 x2 x3 0 = _
  unfold F9_nearest_l32_b NF
  rw [if_pos rfl]
theorem PA.cong {X : EX} {A A' : Mem} (h : PA X A) (h5 : A' 5 = A 5) (h6 : A' 6 = A 6) (h7 : A' 7 = A 7) (h35 : A' 35 = A 35) (h36 : A' 36 = A 36) (h37 : A' 37 = A 37) (s6 : A' 34 6 = A 34 6) : PA X A' := by
  unfold PA at *
  rw [h5, h6, h7, h35, h36, h37, s6]
  exact h
/-- a THING more -/
def fup (f : Nat → Nat) (q x : Nat) : Nat → Nat := fun j => if j = q then x else f j
theorem fup_lst {f : Nat → Nat} {q x : Nat} : lst (fup f q x) (q + 1) = x :: lst f q := by
  show fup f q x q :: lst (fup f q x) q = _
  rw [lst_cong (f := fup f q x) (g := f) (fun j hj => by unfold fup; rw [if_neg (by omega)])]
  unfold fup
  rw [if_pos rfl]
theorem fup_lt {f : Nat → Nat} {q x t : Nat} (h : ∀ i, i < q → f i < t) (hx : x < t) : ∀ i, i < q + 1 → fup f q x i < t := by
  intro i hi
  unfold fup
  by_cases e : i = q
  · rw [if_pos e]; exact hx
  · rw [if_neg e]; exact h i (by omega)
theorem QA.go {f : Nat → Nat} {q x : Nat} {A : Mem} (h : QA f q A) (hq : q < 6) : F0_goTo A (nI x) = some (0, up2 (up2 A 38 q (nI x)) 34 8 (nI (q + 1))) ∧ QA (fup f q x) (q + 1) (up2 (up2 A 38 q (nI x)) 34 8 (nI (q + 1))) := by
  constructor
  · unfold F0_goTo
    rw [h.1, if_pos (show nI q < 6 from nI_lt (b := 6) hq (by decide)), if_pos (inb_of hq (by decide)), nI_clamp (by omega), nI_1]
  · refine ⟨up2_at, by omega, fun i hi => ?_⟩
    rw [up2_ne (show (38 : Nat) ≠ 34 by decide)]
    unfold fup
    by_cases e : i = q
    · subst e; rw [up2_at, if_pos rfl]
    · rw [up2_nk e, if_neg e]; exact h.2.2 i (by omega)
theorem QB.go {f : Nat → Nat} {q x : Nat} {B : Mem} (h : QB f q B) (hq : q < 6) : QB (fup f q x) (q + 1) (up2 (up2 B 13 q (nI x)) 0 38 (nI (q + 1))) := by
  refine ⟨up2_at, by omega, fun i hi => ?_⟩
  rw [up2_ne (show (13 : Nat) ≠ 0 by decide)]
  unfold fup
  by_cases e : i = q
  · subst e; rw [up2_at, if_pos rfl]
  · rw [up2_nk e, if_neg e]; exact h.2.2 i (by omega)
theorem PA.go {X : EX} {A : Mem} {q : Nat} {v w : Int32} (h : PA X A) : PA X (up2 (up2 A 38 q v) 34 8 w) := by
  have e : ∀ c, c ≠ 34 → c ≠ 38 → up2 (up2 A 38 q v) 34 8 w c = A c := fun c h1 h2 => by rw [up2_ne h1, up2_ne h2]
  exact h.cong (e 5 (by decide) (by decide)) (e 6 (by decide) (by decide)) (e 7 (by decide) (by decide)) (e 35 (by decide) (by decide)) (e 36 (by decide) (by decide)) (e 37 (by decide) (by decide)) (by rw [up2_nk (by decide), up2_ne (by decide)])
theorem PB.go {X : EX} {n o : Nat} {B : Mem} {q : Nat} {v w : Int32} (h : PB X n o B) : PB X n o (up2 (up2 B 13 q v) 0 38 w) := by
  have e : ∀ c, c ≠ 0 → c ≠ 13 → up2 (up2 B 13 q v) 0 38 w c = B c := fun c h1 h2 => by rw [up2_ne h1, up2_ne h2]
  have s : ∀ k, k ≠ 38 → up2 (up2 B 13 q v) 0 38 w 0 k = B 0 k := fun k hk => by rw [up2_nk hk, up2_ne (by decide)]
  exact h.cong (e 7 (by decide) (by decide)) (e 8 (by decide) (by decide)) (e 10 (by decide) (by decide)) (e 11 (by decide) (by decide)) (e 12 (by decide) (by decide)) (s 10 (by decide)) (s 11 (by decide)) (s 16 (by decide)) (s 35 (by decide))
theorem SA.go {A : Mem} {q : Nat} {v w : Int32} : SA A (up2 (up2 A 38 q v) 34 8 w) := fun c hc => by
  simp only [List.mem_cons, List.not_mem_nil, or_false, not_or] at hc
  rw [up2_ne (by omega), up2_ne (by omega)]
theorem SM.go {B : Mem} {q : Nat} {v w : Int32} : SM B (up2 (up2 B 13 q v) 0 38 w) := ⟨fun c c0 hc => by
  simp only [List.mem_cons, List.not_mem_nil, or_false, not_or] at hc
  rw [up2_ne c0, up2_ne (by omega)], fun k hk => by rw [up2_nk (by omega), up2_ne (by decide)]⟩
theorem near_l {X : EX} {n o : Nat} (hX : OKX X) (x1 : Int32) : ∀ (k fu g i : Nat) (f : Nat → Nat) (A B : Mem), i + k = xt X → k < fu → k + 1 < g → PA X A → QA f i A → PB X n o B → QB f i B → (∀ j, j < i → f j < xt X) → (lst f i).Nodup → ∃ f' q A' B', F0_takeNearest_l14 fu A (hdI (lst f i)) (nI (tmX X (lst f i))) (nI (stR (lst f i))) (nI i) = some (0, A') ∧ F9_nearest_l32 g B x1 (nI (shH (xs X) (lst f i))) (nI (stR (lst f i))) 1 = NF B' x1 ∧ PA X A' ∧ QA f' q A' ∧ PB X n o B' ∧ QB f' q B' ∧ (∀ j, j < q → f' j < xt X) ∧ (lst f' q).Nodup ∧ SA A A' ∧ SM B B' := by
  have h6 := hX.1
  intro k
  induction k with
  | zero =>
    intro fu g i f A B hi hf hg pA qA pB qB hlt hn
    obtain ⟨fu, rfl⟩ : ∃ f, fu = f + 1 := ⟨fu - 1, by omega⟩
    obtain ⟨g, rfl⟩ : ∃ f, g = f + 2 := ⟨g - 2, by omega⟩
    have hr := lst_lt hlt (Nat.le_refl i)
    have m6 : stR (lst f i) < 64 := stR_64 (fun x hx => by have := hr x hx; omega)
    have hnone : nsF X (shH (xs X) (lst f i)) (stR (lst f i)) (xt X) = none := by
      cases hs : nsF X (shH (xs X) (lst f i)) (stR (lst f i)) (xt X) with
      | none => rfl
      | some x =>
        have h1 := nsF_lt hs
        have h2 := nodup_len (t := xt X) (r := x :: lst f i) (List.nodup_cons.mpr ⟨fun hm => Bool.false_ne_true (h1.2.symm.trans ((stR_bit _).mpr hm)), hn⟩) (fun y hy => by
          rcases List.mem_cons.mp hy with rfl | hy
          · exact h1.1
          · exact hr y hy)
        rw [List.length_cons, lst_len] at h2
        omega
    refine ⟨f, i, A, B, ?_, ?_, pA, qA, pB, qB, hlt, hn, SA.rf, SM.rf⟩
    · show F0_takeNearest_l14_b _ A _ _ _ (nI i) = _
      unfold F0_takeNearest_l14_b
      rw [pA.1, if_pos (nI_le (by omega) (by omega))]
    · show F9_nearest_l32_b _ B x1 _ _ 1 = _
      unfold F9_nearest_l32_b
      rw [if_neg n10, near_B hX pB (shH_le hX hr) m6, hnone]
      unfold F9_nearest_j113 F9_nearest_j183
      rw [if_pos rfl, if_pos rfl]
      exact NF_eq g B x1 _ _
  | succ k ih =>
    intro fu g i f A B hi hf hg pA qA pB qB hlt hn
    obtain ⟨fu, rfl⟩ : ∃ f, fu = f + 1 := ⟨fu - 1, by omega⟩
    obtain ⟨g, rfl⟩ : ∃ f, g = f + 2 := ⟨g - 2, by omega⟩
    have hr := lst_lt hlt (Nat.le_refl i)
    have m6 : stR (lst f i) < 64 := stR_64 (fun x hx => by have := hr x hx; omega)
    have sh := shelf_h hX pA hr
    have shl := shH_le hX hr
    have eA : F0_takeNearest_l14 (fu + 1) A (hdI (lst f i)) (nI (tmX X (lst f i))) (nI (stR (lst f i))) (nI i) = if ¬ oI (nsF X (shH (xs X) (lst f i)) (stR (lst f i)) (xt X)) = (-1 : Int32) then Option.bind (F0_leg A (hdI (lst f i)) (oI (nsF X (shH (xs X) (lst f i)) (stR (lst f i)) (xt X))) (nI i)) fun r5 => Option.bind (F0_leg r5.2 (oI (nsF X (shH (xs X) (lst f i)) (stR (lst f i)) (xt X))) (-1 : Int32) ((r5.2 34 8) + (1 : Int32))) fun r7 => if ((nI (tmX X (lst f i)) + r5.1) + r7.1) ≤ (r7.2 36 0) then Option.bind (F0_goTo r7.2 (oI (nsF X (shH (xs X) (lst f i)) (stR (lst f i)) (xt X)))) fun r10 => F0_takeNearest_l14 fu r10.2 (oI (nsF X (shH (xs X) (lst f i)) (stR (lst f i)) (xt X))) (nI (tmX X (lst f i)) + r5.1) (nI (stR (lst f i)) ||| ((1 : Int32) <<< (oI (nsF X (shH (xs X) (lst f i)) (stR (lst f i)) (xt X)) &&& 31))) (nI (i + 1)) else some ((0 : Int32), r7.2) else some ((0 : Int32), A) := by
      show F0_takeNearest_l14_b _ A _ _ _ (nI i) = _
      unfold F0_takeNearest_l14_b
      rw [pA.1, if_neg (nI_ge (by omega) (by omega)), near_A hX pA sh shl m6, Option.bind_some, nI_1]
      dsimp only
      rw [qA.1]
    have eB : F9_nearest_l32 (g + 2) B x1 (nI (shH (xs X) (lst f i))) (nI (stR (lst f i))) 1 = F9_nearest_j113 (F9_nearest_l32 (g + 1)) B x1 (nI (shH (xs X) (lst f i))) (nI (stR (lst f i))) (oI (nsF X (shH (xs X) (lst f i)) (stR (lst f i)) (xt X))) (if nsF X (shH (xs X) (lst f i)) (stR (lst f i)) (xt X) = none then 0 else 1) := by
      show F9_nearest_l32_b _ B x1 _ _ 1 = _
      unfold F9_nearest_l32_b
      rw [if_neg n10, near_B hX pB shl m6]
    rw [eA, eB]
    cases hs : nsF X (shH (xs X) (lst f i)) (stR (lst f i)) (xt X) with
    | none =>
      refine ⟨f, i, A, B, ?_, ?_, pA, qA, pB, qB, hlt, hn, SA.rf, SM.rf⟩
      · rw [if_neg (show ¬ ¬ oI none = -1 from fun z => z rfl)]
      · unfold F9_nearest_j113 F9_nearest_j183
        rw [if_pos rfl, if_pos rfl]
        exact NF_eq g B x1 _ _
    | some x =>
      obtain ⟨hx, hxb⟩ := nsF_lt hs
      have hn2 : (x :: lst f i).Nodup := List.nodup_cons.mpr ⟨fun hm => Bool.false_ne_true (hxb.symm.trans ((stR_bit _).mpr hm)), hn⟩
      have sx := shelf_A hX pA hx
      have sxl := (hX.2.1 x (by omega)).1
      have el := fup_lst (f := f) (q := i) (x := x)
      have hlt2 := fup_lt hlt hx
      have hb := bkX_le hX (r := x :: lst f i) (by rw [← el]; exact lst_lt hlt2 (Nat.le_refl _)) (by rw [List.length_cons, lst_len]; omega)
      have tc : tmX X (x :: lst f i) = tmX X (lst f i) + stN (shH (xs X) (lst f i)) (xs X x) * xp X i := by
        show tmR _ _ _ + _ * xp X (lst f i).length = _
        rw [lst_len]
        rfl
      have bc : bkX X (x :: lst f i) = tmX X (x :: lst f i) + stN (xs X x) 0 * xp X (i + 1) := by
        show tmX X (x :: lst f i) + stN (xs X x) 0 * xp X ((lst f i).length + 1) = _
        rw [lst_len]
      have ebk : nI (tmX X (lst f i)) + nI (stN (shH (xs X) (lst f i)) (xs X x) * xp X i) + nI (stN (xs X x) 0 * xp X (i + 1)) = nI (bkX X (x :: lst f i)) := by
        rw [nI_add, nI_add, bc, tc]
      have etm : nI (tmX X (lst f i)) + nI (stN (shH (xs X) (lst f i)) (xs X x) * xp X i) = nI (tmX X (x :: lst f i)) := by
        rw [nI_add, tc]
      have d0 : A 36 0 = nI (xd X 0) := (pA.2.2.2.2 0 (Nat.zero_le _)).1
      have hd0 := hX.2.2.2.1 0 (Nat.zero_le _)
      rw [if_pos (show ¬ oI (some x) = -1 from nI_m1 (by omega)), show oI (some x) = nI x from rfl, leg_A pA sh sx shl sxl (by omega), Option.bind_some]
      dsimp only
      rw [qA.1, nI_1, leg_A pA sx (shelf_0 hX pA) sxl (by omega) (by omega), Option.bind_some]
      dsimp only
      simp only [ebk, d0]
      simp only [etm]
      have eB2 : F9_nearest_j113 (F9_nearest_l32 (g + 1)) B x1 (nI (shH (xs X) (lst f i))) (nI (stR (lst f i))) (nI x) 1 = if nI (xd X 0) < nI (bkX X (x :: lst f i)) then F9_nearest_l32 (g + 1) (up2 (up2 (up2 B 13 i (nI x)) 0 38 (nI (i + 1))) 0 38 (nI i)) x1 (nI (shH (xs X) (lst f i))) (nI (stR (lst f i))) 0 else F9_nearest_l32 (g + 1) (up2 (up2 B 13 i (nI x)) 0 38 (nI (i + 1))) x1 (nI (xs X x)) (nI (stR (lst f i)) ||| ((1 : Int32) <<< (nI x &&& 31))) 1 := by
        have pB2 : PB X n o (up2 (up2 B 13 i (nI x)) 0 38 (nI (i + 1))) := pB.go
        have e35 : up2 (up2 B 13 i (nI x)) 0 38 (nI (i + 1)) 0 35 = nI (xd X 0) := pB2.2.2.2.2.2.2.2.1
        have e7 : up2 (up2 B 13 i (nI x)) 0 38 (nI (i + 1)) 7 x = nI (xs X x) := (pB2.2.1 x (by omega)).1
        unfold F9_nearest_j113 F9_nearest_j183
        rw [if_neg n10, qB.1, if_pos (inb_of (by omega) (by decide)), nI_clamp (by omega), nI_1, back_B hX pB2 (QB.go qB (by omega)) hlt2, Option.bind_some, el]
        dsimp only
        simp only [e35]
        rw [up2_at, if_pos (inb_of (show x < 6 by omega) (by decide)), nI_clamp (by omega), e7, show nI (i + 1) - 1 = nI i from nI_pred i]
      rw [if_neg (show ¬ some x = none from fun z => by cases z), eB2]
      by_cases hc : bkX X (x :: lst f i) ≤ xd X 0
      · obtain ⟨ga, gq⟩ := QA.go (x := x) qA (show i < 6 by omega)
        rw [if_pos (nI_le hc (by omega)), if_neg (nI_nlt hc (by omega)), ga, Option.bind_some, bt_or _ m6 x (by omega)]
        obtain ⟨f', q, A', B', r1, r2, r3, r4, r5, r6, r7, r8, r9, r10⟩ := ih fu (g + 1) (i + 1) (fup f i x) (up2 (up2 A 38 i (nI x)) 34 8 (nI (i + 1))) (up2 (up2 B 13 i (nI x)) 0 38 (nI (i + 1))) (by omega) (by omega) (by omega) pA.go gq pB.go (QB.go qB (by omega)) hlt2 (by rw [el]; exact hn2)
        rw [el] at r1 r2
        exact ⟨f', q, A', B', r1, r2, r3, r4, r5, r6, r7, r8, SA.go.tr r9, SM.go.tr r10⟩
      · rw [if_neg (nI_ge (by omega) (by omega)), if_pos (nI_lt (by omega) (by omega)), NF_eq]
        have s38 : up2 (up2 (up2 B 13 i (nI x)) 0 38 (nI (i + 1))) 0 38 (nI i) = up2 (up2 B 13 i (nI x)) 0 38 (nI i) := by
          funext c j
          unfold up2
          by_cases h1 : c = 0 <;> by_cases h2 : j = 38 <;> simp [h1, h2]
        rw [s38]
        refine ⟨f, i, A, up2 (up2 B 13 i (nI x)) 0 38 (nI i), rfl, rfl, pA, qA, pB.go, ⟨up2_at, qB.2.1, fun j hj => ?_⟩, hlt, hn, SA.rf, SM.go⟩
        rw [up2_ne (show (13 : Nat) ≠ 0 by decide), up2_nk (by omega)]
        exact qB.2.2 j hj
theorem nearest_R {tv : Tv} {n o t : Nat} {A B : Mem} (hT : TellA tv A) (hU : TellB tv B) (hO : TvOk tv) (h : RL n o A B) (g : RG t A B) (a1 : Int32) : ∃ v A' B', F8_nearest A a1 = some (v, A') ∧ F9_nearest B a1 = some (v, B') ∧ SA A A' ∧ SM B B' := by
  rcases in01 (M := B) a1 2 0 2 rfl rfl (by decide) with ⟨j, hj, rfl, l1, l2, e⟩ | ⟨q, e⟩
  · obtain ⟨X, A2, B2, hX, hxt, p1, p2, pA, pB, s2A, s2B, -⟩ := pg (t := t) hT hU hO h g
    have pA3 : PA X (up2 A2 34 8 0) := pA.cong (up2_ne (by decide)) (up2_ne (by decide)) (up2_ne (by decide)) (up2_ne (by decide)) (up2_ne (by decide)) (up2_ne (by decide)) (up2_nk (by decide))
    have pB3 : PB X n o (up2 B2 0 38 0) := pB.cong (up2_ne (by decide)) (up2_ne (by decide)) (up2_ne (by decide)) (up2_ne (by decide)) (up2_ne (by decide)) (up2_nk (by decide)) (up2_nk (by decide)) (up2_nk (by decide)) (up2_nk (by decide))
    obtain ⟨f, q, A3, B3, r1, r2, r3, r4, r5, r6, r7, r8, r9, r10⟩ := near_l hX (nI j) (xt X) FUEL FUEL 0 (fun _ => 0) (up2 A2 34 8 0) (up2 B2 0 38 0) (by omega) (by have := hX.1; unfold FUEL; omega) (by have := hX.1; unfold FUEL; omega) pA3 ⟨up2_at, by omega, fun i hi => absurd hi (by omega)⟩ pB3 ⟨up2_at, by omega, fun i hi => absurd hi (by omega)⟩ (fun i hi => absurd hi (by omega)) List.nodup_nil
    have sA : SA A A3 := (s2A.tr (fun c hc => up2_ne (fun e => hc (by rw [e]; simp)))).tr r9
    have sB : SM B B3 := (s2B.tr ⟨fun c c0 _ => up2_ne c0, fun k hk => up2_nk (by omega)⟩).tr r10
    have eA : F8_nearest A (nI j) = if nI j = (0 : Int32) then some (nI (plR (lst f q)), A3) else if nI j = (1 : Int32) then some (nI (bkX X (lst f q)), A3) else some (gnX X (woR (xw X) (lst f q)) (bkX X (lst f q)), A3) := by
      unfold F8_nearest F0_takeNearest
      rw [if_neg l1, if_pos (show nI j ≤ 2 from l2), p1, Option.bind_some]
      dsimp only
      rw [show F0_takeNearest_l14 FUEL (up2 A2 34 8 0) (-1) 0 0 0 = some (0, A3) from r1, Option.bind_some]
      dsimp only
      rw [digits_A r4, back_A hX r3 r4 r7, gain_A hX r3 r4 r7 r8, Option.bind_some, Option.bind_some, Option.bind_some]
    have hb := bkX_le hX (lst_lt r7 (Nat.le_refl q)) (by rw [lst_len]; exact r4.2.1)
    have eB : F9_nearest B (nI j) = if ¬ nI j = 0 then if ¬ nI j = (1 : Int32) then some (gnX X (woR (xw X) (lst f q)) (bkX X (lst f q)), up2 B3 0 36 (nI (lkX X (bkX X (lst f q))))) else some (nI (bkX X (lst f q)), B3) else some (nI (plR (lst f q)), B3) := by
      unfold F9_nearest
      rw [e, Option.bind_some, if_pos n10]
      dsimp only
      rw [p2, Option.bind_some]
      dsimp only
      rw [show F9_nearest_l32 FUEL (up2 B2 0 38 0) (nI j) 0 0 1 = NF B3 (nI j) from r2]
      unfold NF
      rw [back_B hX r5 r6 r7, digits_B r6, Option.bind_some, Option.bind_some, Option.bind_some]
      dsimp only
      rw [worth_B hX r5 r6 r7, Option.bind_some]
      dsimp only
      rw [gain_B hX r5 (by omega), Option.bind_some]
    rw [eA, eB]
    by_cases h0 : nI j = 0
    · rw [if_pos h0, if_neg (fun z => z h0)]
      exact ⟨_, A3, B3, rfl, rfl, sA, sB⟩
    · rw [if_neg h0, if_pos h0]
      by_cases h1 : nI j = 1
      · rw [if_pos h1, if_neg (fun z => z h1)]
        exact ⟨_, A3, B3, rfl, rfl, sA, sB⟩
      · rw [if_neg h1, if_pos h1]
        exact ⟨_, A3, _, rfl, rfl, sA, sB.tr (SM.up36 _)⟩
  · refine ⟨-100000, A, B, ?_, ?_, SA.rf, SM.rf⟩
    · unfold F8_nearest
      by_cases h1 : a1 < 0
      · rw [if_pos h1]
      · rw [if_neg h1, if_neg]
        rcases q with q | q
        · exact absurd q h1
        · exact q
    · unfold F9_nearest
      rw [e]
      rfl
