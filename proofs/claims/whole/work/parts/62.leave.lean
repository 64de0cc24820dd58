section
variable {X : EX} {A B : Mem} {n o t : Nat}
def LB (X : EX) (n o : Nat) (f : Nat → Nat) (q : Nat) (B M : Mem) : Prop := PB X n o M ∧ M 0 40 = nI q ∧ (∀ i, i < q → M 14 i = nI (f i)) ∧ SM B M
theorem leave_in (hX : OKX X) {f : Nat → Nat} {q k : Nat} (hp : okP X (lst f q)) (hk : k < q) (rec19 : Mem → Int32 → Int32 → Int32 → Option (Int32 × Mem)) (x1 x2 : Int32) : ∀ (j fu i : Nat) (M : Mem) (g : Nat → Nat) (l : Nat), i + j = q → j < fu → LB X n o f q B M → QB g l M → lst g l = skp f k i → l ≤ i → (k < i → l < i) → ∃ M', LB X n o f q B M' ∧ F9_leave_l35 rec19 fu M x1 x2 (nI k) (nI i) = if x1 = (-1 : Int32) then F9_leave_j99 rec19 M' (nI k) (nI (bkX X (skp f k q))) else if x2 ≤ nI (bkX X (skp f k q)) then F9_leave_j109 rec19 M' x1 x2 (nI k) else F9_leave_j99 rec19 M' (nI k) (nI (bkX X (skp f k q))) := by
  obtain ⟨q6, hf⟩ := hp.ls
  have h6 := hX.1
  intro j
  induction j with
  | zero =>
    intro fu i M g l hi hfu hM hQ hg hl hl2
    obtain ⟨fu, rfl⟩ : ∃ f, fu = f + 1 := ⟨fu - 1, by omega⟩
    obtain rfl : i = q := by omega
    have hgl : ∀ w, w < l → g w < xt X := fun w hw => by
      have h1 : g w ∈ skp f k i := by rw [← hg]; exact lst_in hw
      obtain ⟨w2, h2, h3⟩ := skp_mem h1
      rw [h3]
      exact hf w2 h2
    refine ⟨M, hM, ?_⟩
    show F9_leave_l35_b rec19 _ M x1 x2 (nI k) (nI i) = _
    unfold F9_leave_l35_b
    rw [hM.2.1, if_pos (nI_le (by omega) (by omega)), back_B hX hM.1 hQ hgl, Option.bind_some, hg]
  | succ j ih =>
    intro fu i M g l hi hfu hM hQ hg hl hl2
    obtain ⟨fu, rfl⟩ : ∃ f, fu = f + 1 := ⟨fu - 1, by omega⟩
    have es : skp f k (i + 1) = if i = k then skp f k i else f i :: skp f k i := rfl
    show ∃ M', _ ∧ F9_leave_l35_b rec19 (F9_leave_l35 rec19 fu) M x1 x2 (nI k) (nI i) = _
    unfold F9_leave_l35_b F9_leave_j76
    rw [hM.2.1, if_neg (nI_ge (by omega) (by omega)), nI_1]
    by_cases e : i = k
    · rw [if_pos (show nI i = nI k by rw [e])]
      exact ih fu (i + 1) M g l (by omega) (by omega) hM hQ (by rw [es, if_pos e]; exact hg) (by omega) (fun _ => by omega)
    · have hl6 : l < 6 := by omega
      rw [if_neg (fun z => e (nI_inj (by omega) (by omega) z)), if_pos (inb_of (by omega) (by decide)), if_pos (show inb (M 0 38) 6 = true by rw [hQ.1]; exact inb_of hl6 (by decide)), hQ.1, nI_clamp (by omega), nI_clamp (by omega), hM.2.2.1 i (by omega), nI_1]
      exact ih fu (i + 1) (up2 (up2 M 13 l (nI (f i))) 0 38 (nI (l + 1))) (fup g l (f i)) (l + 1) (by omega) (by omega) ⟨hM.1.go, by rw [up2_nk (by decide), up2_ne (by decide)]; exact hM.2.1, fun w hw => by rw [up2_ne (by decide), up2_ne (by decide)]; exact hM.2.2.1 w hw, hM.2.2.2.tr SM.go⟩ (QB.go hQ hl6) (by rw [fup_lst, es, if_neg e, hg]) (by omega) (fun h => by have := hl2 (by omega); omega)
theorem leave_R {tv : Tv} (hT : TellA tv A) (hU : TellB tv B) (hO : TvOk tv) (h : RL n o A B) (g : RG t A B) : ∃ v A' B', F8_leave A = some (v, A') ∧ F9_leave B = some (v, B') ∧ SA A A' ∧ SM B B' := by
  obtain ⟨X, A2, B2, hX, hxt, p1, p2, pA, pB, s2A, s2B, -⟩ := pg (t := t) hT hU hO h g
  obtain ⟨A3, v1, v2, v3, v4⟩ := sv hX p1 pA
  have sA : SA A A3 := s2A.tr (v4.sa (by decide))
  obtain ⟨s, c, hs, c1, c2, c3, c4, c5, c6⟩ := chb hX (al64 hX) v3
  obtain ⟨r, f, B3, d1, d2, d3, d4, d5, d6, d8, d9, d7⟩ := seeks_B hX (al64 hX) pB
  have hrc : r = c := by rw [c2] at d1; cases d1; rfl
  subst hrc
  have hp : okP X (lst f r.length) := by rw [d5]; exact d2
  obtain ⟨q6, hf⟩ := hp.ls
  have h6 := hX.1
  obtain ⟨A4, t1, t2, t3, t4⟩ := take_A hX v2.1 hp
  rw [d5] at t1
  have pA4 : PA X A4 := v2.cong (t3 5 (by decide)) (t3 6 (by decide)) (t3 7 (by decide)) (t3 35 (by decide)) (t3 36 (by decide)) (t3 37 (by decide)) (t4 6 (by decide))
  have sA4 : SA A A4 := sA.tr (t3.sa (by decide))
  have key : ∀ (k fu i : Nat) (found least : Int32) (N : Mem), i + k = r.length → k < fu → LB X n o f r.length B N → ∃ v N', F8_leave_l46 fu A4 found least (nI i) = some (v, A4) ∧ F9_leave_l19 fu N found least (nI i) = some (v, N') ∧ SM B N' := by
    intro k
    induction k with
    | zero =>
      intro fu i found least N hi hfu hN
      obtain ⟨fu, rfl⟩ : ∃ f, fu = f + 1 := ⟨fu - 1, by omega⟩
      refine ⟨found, N, ?_, ?_, hN.2.2.2⟩
      · show F8_leave_l46_b _ A4 found least (nI i) = _
        unfold F8_leave_l46_b
        rw [t2.1, if_pos (nI_le (by omega) (by omega))]
      · show F9_leave_l19_b _ N found least (nI i) = _
        unfold F9_leave_l19_b
        rw [hN.2.1, if_pos (nI_le (by omega) (by omega))]
    | succ k ih =>
      intro fu i found least N hi hfu hN
      obtain ⟨fu, rfl⟩ : ∃ f, fu = f + 1 := ⟨fu - 1, by omega⟩
      have hir : i < r.length := by omega
      have hN0 : LB X n o f r.length B (up2 N 0 38 0) := ⟨hN.1.cong (up2_ne (by decide)) (up2_ne (by decide)) (up2_ne (by decide)) (up2_ne (by decide)) (up2_ne (by decide)) (up2_nk (by decide)) (up2_nk (by decide)) (up2_nk (by decide)) (up2_nk (by decide)), by rw [up2_nk (by decide)]; exact hN.2.1, fun w hw => by rw [up2_ne (by decide)]; exact hN.2.2.1 w hw, hN.2.2.2.tr ⟨fun c c0 _ => up2_ne c0, fun k hk => up2_nk (by omega)⟩⟩
      obtain ⟨N1, hN1, e1⟩ := leave_in hX hp hir (F9_leave_l19 fu) found least r.length FUEL 0 (up2 N 0 38 0) (fun _ => 0) 0 (by omega) (by unfold FUEL; omega) hN0 ⟨up2_at, by omega, fun w hw => absurd hw (by omega)⟩ rfl (by omega) (fun h => by omega)
      have eB : F9_leave_l19 (fu + 1) N found least (nI i) = if found = (-1 : Int32) then F9_leave_l19 fu N1 (nI (f i)) (nI (bkX X (skp f i r.length))) (nI (i + 1)) else if least ≤ nI (bkX X (skp f i r.length)) then F9_leave_l19 fu N1 found least (nI (i + 1)) else F9_leave_l19 fu N1 (nI (f i)) (nI (bkX X (skp f i r.length))) (nI (i + 1)) := by
        show F9_leave_l19_b _ N found least (nI i) = _
        unfold F9_leave_l19_b
        rw [hN.2.1, if_neg (nI_ge (by omega) (by omega)), show (0 : Int32) = nI 0 from rfl]
        rw [show up2 N 0 38 (nI 0) = up2 N 0 38 0 from rfl, e1]
        unfold F9_leave_j99 F9_leave_j109
        rw [if_pos (inb_of (by omega) (by decide)), nI_clamp (by omega), hN1.2.2.1 i hir, nI_1]
      have eA : F8_leave_l46 (fu + 1) A4 found least (nI i) = if found = (-1 : Int32) then F8_leave_l46 fu A4 (nI (f i)) (nI (bkX X (skp f i r.length))) (nI (i + 1)) else if least ≤ nI (bkX X (skp f i r.length)) then F8_leave_l46 fu A4 found least (nI (i + 1)) else F8_leave_l46 fu A4 (nI (f i)) (nI (bkX X (skp f i r.length))) (nI (i + 1)) := by
        show F8_leave_l46_b _ A4 found least (nI i) = _
        unfold F8_leave_l46_b F8_leave_j80 F8_leave_j94
        rw [t2.1, if_neg (nI_ge (by omega) (by omega)), backWo_A hX pA4 t2 hf (x1 := nI i) (k := i) (fun w hw => ⟨fun e => nI_inj (by omega) (by omega) e, fun e => by rw [e]⟩), Option.bind_some, if_pos (inb_of (by omega) (by decide)), nI_clamp (by omega), nI_1]
        dsimp only
        rw [t2.2.2 i hir]
      rw [eA, eB]
      by_cases c1 : found = -1
      · rw [if_pos c1, if_pos c1]
        exact ih fu (i + 1) _ _ N1 (by omega) (by omega) hN1
      · rw [if_neg c1, if_neg c1]
        by_cases c2 : least ≤ nI (bkX X (skp f i r.length))
        · rw [if_pos c2, if_pos c2]
          exact ih fu (i + 1) _ _ N1 (by omega) (by omega) hN1
        · rw [if_neg c2, if_neg c2]
          exact ih fu (i + 1) _ _ N1 (by omega) (by omega) hN1
  obtain ⟨v, N', r1, r2, r3⟩ := key r.length FUEL 0 (-1) 0 B3 (by omega) (by unfold FUEL; omega) ⟨d4, d8, d9, s2B.tr d7⟩
  refine ⟨v, A4, N', ?_, ?_, sA4, r3⟩
  · unfold F8_leave
    rw [all_A hX (by rw [hxt]; exact g.2.1), Option.bind_some]
    dsimp only
    rw [v1, Option.bind_some]
    dsimp only
    rw [c1, Option.bind_some, if_pos (inb_of hs (by decide)), nI_clamp (by omega)]
    dsimp only
    rw [c4, t1, Option.bind_some]
    exact r1
  · unfold F9_leave
    rw [p2, Option.bind_some]
    dsimp only
    rw [all_B hX pB.1, Option.bind_some]
    dsimp only
    rw [d3, Option.bind_some]
    exact r2
end
