/-! ERRANDS: prepared, gathered -/
theorem nI_tN {x : Int32} (h : 0 ≤ x.toInt) : nI x.toInt.toNat = x := by
  apply Int32.toInt_inj.mp
  have := Int32.toInt_lt x
  rw [nI_toInt (by omega)]
  omega
theorem jmin_nI {a b : Nat} (ha : a < 2 ^ 31) (hb : b < 2 ^ 31) : jmin (nI a) (nI b) = nI (min a b) := by
  unfold jmin
  by_cases h : b < a
  · rw [if_pos (nI_lt h ha), Nat.min_eq_right (by omega)]
  · rw [if_neg (nI_nlt (by omega) hb), Nat.min_eq_left (by omega)]
theorem secV_bd {tv : Tv} (hO : TvOk tv) (k pl : Int32) {it nu : Int32} (hi : 0 ≤ it.toInt ∧ it.toInt ≤ 40) (hn : 0 ≤ nu.toInt ∧ nu.toInt ≤ 9) : 0 ≤ (secV tv k it nu pl).toInt ∧ (secV tv k it nu pl).toInt ≤ 4100 := by
  obtain ⟨o1, o2⟩ := hO 0 it nu pl 0
  unfold secV
  generalize tv 0 it nu pl 0 = c at o1 o2
  obtain ⟨a, rfl, ha, -⟩ := nat_of hi.1
  obtain ⟨b, rfl, hb, -⟩ := nat_of hn.1
  obtain ⟨d, rfl, hd, -⟩ := nat_of o1
  have hm : a * d ≤ 40 * 99 := Nat.mul_le_mul (by omega) (by omega)
  have key : ∀ q : Nat, q ≤ 4100 → 0 ≤ (nI q).toInt ∧ (nI q).toInt ≤ 4100 := fun q hq => by rw [nI_toInt (by omega)]; omega
  rw [pk_mul, show (5 : Int32) = nI 5 from rfl, pk_mul, show (60 : Int32) = nI 60 from rfl, jmin_nI (by omega) (by decide), nI_add, show (20 : Int32) = nI 20 from rfl, nI_add, nI_add, show (2 : Int32) = nI 2 from rfl, pk_div (by omega) (by decide) (by decide)]
  repeat' split
  all_goals exact key _ (by omega)
def secN (tv : Tv) (A : Mem) (i : Nat) : Nat := (secV tv (A 2 i) (A 3 i) (A 4 i) (nI i)).toInt.toNat
def smN (f : Nat → Nat) : Nat → Nat
  | 0 => 0
  | n + 1 => smN f n + f n
theorem smN_le {f : Nat → Nat} {b : Nat} : ∀ {n : Nat}, (∀ i, i < n → f i ≤ b) → smN f n ≤ b * n
  | 0, _ => by simp [smN]
  | n + 1, h => by
    have h1 := smN_le (f := f) (b := b) (n := n) (fun i hi => h i (by omega))
    have h2 := h n (by omega)
    rw [smN, Nat.mul_succ]
    omega
theorem sumI_sm {f : Nat → Int32} {g : Nat → Nat} : ∀ {n : Nat}, (∀ i, i < n → f i = nI (g i)) → sumI f n = nI (smN g n)
  | 0, _ => rfl
  | n + 1, h => by rw [sumI, smN, sumI_sm (fun i hi => h i (by omega)), h n (by omega), nI_add]
def exO (tv : Tv) (A : Mem) (n o t : Nat) : EX := (t, fun i => (A 6 i).toInt.toNat, fun i => (A 7 i).toInt.toNat, fun j => (tv 2 (nI j) 0 0 0).toInt.toNat, fun k => smN (secN tv A) (o + k), sumI (fun j => mndV tv (A 2 (o + j)) (A 3 (o + j)) (A 4 (o + j)) (nI (o + j)) (nI j)), n - o)
section
variable {tv : Tv} {n o t : Nat} {A B : Mem}
theorem RL.sec {i : Nat} (hO : TvOk tv) (h : RL n o A B) (hi : i < 8) : nI (secN tv A i) = secV tv (A 2 i) (A 3 i) (A 4 i) (nI i) ∧ secN tv A i ≤ 4100 := by
  obtain ⟨-, -, -, b1, b2, b3⟩ := h.2.2.2.2.2.2.2 i hi
  have := secV_bd hO (A 2 i) (nI i) b2 b3
  refine ⟨nI_tN this.1, ?_⟩
  unfold secN
  omega
theorem OKX_of (hO : TvOk tv) (h : RL n o A B) (g : RG t A B) : OKX (exO tv A n o t) := by
  have h8 := h.1
  have hon := h.2.1
  refine ⟨g.1, fun i hi => ?_, fun j hj => ?_, fun k hk => ?_, ?_⟩
  · obtain ⟨-, -, -, b1, b2, b3⟩ := g.2.2.2 i hi
    show (A 6 i).toInt.toNat ≤ 99 ∧ (A 7 i).toInt.toNat ≤ 99
    omega
  · have := hO 2 (nI j) 0 0 0
    show (tv 2 (nI j) 0 0 0).toInt.toNat ≤ 99
    omega
  · have hk2 : k ≤ n - o := hk
    have := smN_le (f := secN tv A) (b := 4100) (n := o + k) (fun i hi => (RL.sec hO h (by omega)).2)
    show smN (secN tv A) (o + k) ≤ 100000
    omega
  · show n - o ≤ 8
    omega
theorem FA.ka {cs : List Nat} {A A' : Mem} (h : FA cs A A') (hc : ∀ c, c < 31 → c ∉ cs) : KA A A' := ⟨by rw [h 1 (hc 1 (by decide))], by rw [h 1 (hc 1 (by decide))], by rw [h 16 (hc 16 (by decide))], by rw [h 16 (hc 16 (by decide))], fun c a b => h c (hc c (by omega))⟩
theorem pace_A (hT : TellA tv A) {M : Mem} (hk : KA A M) (j : Nat) : ∃ M', F7_pace M (nI j) = some (tv 2 (nI j) 0 0 0, M') ∧ ST M M' := by
  obtain ⟨M', e, s⟩ := hT M hk 2 (nI j) 0 0 0 (by decide)
  refine ⟨M', ?_, s⟩
  unfold F7_pace
  rw [show (2 : Int32) = nI 2 from rfl, e]
  rfl
theorem prep_75 (hT : TellA tv A) (hO : TvOk tv) (h : RL n o A B) : ∀ (k fu i : Nat) (M : Mem), i + k = n - o → k < fu → FA [31, 32, 34, 35, 36, 37] A M → M 34 6 = nI (n - o) → (∀ j, j ≤ i → M 36 j = nI (xd (exO tv A n o t) j) ∧ M 37 j = xg (exO tv A n o t) j) → ∃ M', F0_prepare_l75 fu M (nI i) = some (0, M') ∧ FA [31, 32, 36, 37] M M' ∧ ∀ j, j ≤ n - o → M' 36 j = nI (xd (exO tv A n o t) j) ∧ M' 37 j = xg (exO tv A n o t) j := by
  have h0 := h
  obtain ⟨h8, hon, lA, lB, loA, loB, hg, hi⟩ := h
  intro k
  induction k with
  | zero =>
    intro fu i M hik hf hF h6 hd
    obtain ⟨fu, rfl⟩ : ∃ f, fu = f + 1 := ⟨fu - 1, by omega⟩
    obtain rfl : i = n - o := by omega
    refine ⟨M, ?_, FA.rf, hd⟩
    show F0_prepare_l75_b _ M (nI (n - o)) = _
    unfold F0_prepare_l75_b
    rw [h6, if_pos (nI_le (by omega) (by omega))]
  | succ k ih =>
    intro fu i M hik hf hF h6 hd
    obtain ⟨fu, rfl⟩ : ∃ f, fu = f + 1 := ⟨fu - 1, by omega⟩
    have e1 : M 1 = A 1 := hF 1 (by decide)
    have e2 : M 2 = A 2 := hF 2 (by decide)
    have e3 : M 3 = A 3 := hF 3 (by decide)
    have e4 : M 4 = A 4 := hF 4 (by decide)
    have kM : KA A M := hF.ka (fun c hc => by simp only [List.mem_cons, List.not_mem_nil, or_false]; omega)
    obtain ⟨M1, r1, s1⟩ := sec_A (i := o + i) hT kM (by rw [e1]; exact lA) h8 (by omega) (M 2 (o + i)) (nI (o + i))
    rw [e2, e3, e4, ← (RL.sec hO h0 (i := o + i) (by omega)).1] at r1
    have d36 : nI (xd (exO tv A n o t) i) + nI (secN tv A (o + i)) = nI (xd (exO tv A n o t) (i + 1)) := nI_add _ _
    have m36 : M 36 i = nI (xd (exO tv A n o t) i) := (hd i (by omega)).1
    have kM1 : KA A (up2 M1 36 (i + 1) (nI (xd (exO tv A n o t) (i + 1)))) := (kM.tr s1.ka).tr ⟨by rw [up2_ne (by decide)], by rw [up2_ne (by decide)], by rw [up2_ne (by decide)], by rw [up2_ne (by decide)], fun c a b => up2_ne (by omega)⟩
    have f36 : ∀ c, c ≠ 36 → up2 M1 36 (i + 1) (nI (xd (exO tv A n o t) (i + 1))) c = M1 c := fun c hc => up2_ne hc
    obtain ⟨M2, r2, s2⟩ := mnd_A (i := o + i) hT kM1 (by rw [f36 1 (by decide), s1 1 (by decide) (by decide), e1]; exact lA) h8 (by omega) (nI i)
    rw [f36 2 (by decide), f36 3 (by decide), f36 4 (by decide), s1 2 (by decide) (by decide), s1 3 (by decide) (by decide), s1 4 (by decide) (by decide), e2, e3, e4] at r2
    have d37 : xg (exO tv A n o t) i + mndV tv (A 2 (o + i)) (A 3 (o + i)) (A 4 (o + i)) (nI (o + i)) (nI i) = xg (exO tv A n o t) (i + 1) := rfl
    have m37 : M1 37 i = xg (exO tv A n o t) i := by rw [s1 37 (by decide) (by decide)]; exact (hd i (by omega)).2
    have f1 : FA [31, 32, 36, 37] M (up2 M2 37 (i + 1) (xg (exO tv A n o t) (i + 1))) := by
      intro c hc
      simp only [List.mem_cons, List.not_mem_nil, or_false, not_or] at hc
      rw [up2_ne (by omega), s2 c (by omega) (by omega), f36 c (by omega), s1 c (by omega) (by omega)]
    obtain ⟨M3, r3, f3, d3⟩ := ih fu (i + 1) (up2 M2 37 (i + 1) (xg (exO tv A n o t) (i + 1))) (by omega) (by omega) (fun c hc => by
      simp only [List.mem_cons, List.not_mem_nil, or_false, not_or] at hc
      rw [f1 c (by simp only [List.mem_cons, List.not_mem_nil, or_false, not_or]; omega)]
      exact hF c (by simp only [List.mem_cons, List.not_mem_nil, or_false, not_or]; omega)) (by rw [f1 34 (by decide)]; exact h6) (fun j hj => by
      by_cases e : j = i + 1
      · subst e
        rw [up2_at, up2_ne (show (36 : Nat) ≠ 37 by decide), s2 36 (by decide) (by decide), up2_at]
        exact ⟨rfl, rfl⟩
      · rw [up2_nk e, up2_ne (show (36 : Nat) ≠ 37 by decide), s2 36 (by decide) (by decide), s2 37 (by decide) (by decide), up2_nk e, up2_ne (show (37 : Nat) ≠ 36 by decide), s1 36 (by decide) (by decide), s1 37 (by decide) (by decide)]
        exact hd j (by omega))
    refine ⟨M3, ?_, fun c hc => (f3 c hc).trans (f1 c hc), d3⟩
    show F0_prepare_l75_b _ M (nI i) = _
    unfold F0_prepare_l75_b
    rw [h6, if_neg (nI_ge (by omega) (by omega)), if_neg (show ¬ (8 : Int32) ≤ nI i from nI_ge (b := 8) (by omega) (by decide)), if_pos (inb_of (by omega) (by decide)), e1, loA, nI_add, if_pos (inb_of (by omega) (by decide)), nI_clamp (by omega), e2, r1, Option.bind_some, nI_1, if_pos (inb_of (by omega) (by decide)), nI_clamp (by omega), nI_clamp (by omega), m36]
    dsimp only
    rw [d36, r2, Option.bind_some, m37]
    dsimp only
    rw [d37]
    exact r3
theorem prep_A (hT : TellA tv A) (hO : TvOk tv) (h : RL n o A B) (g : RG t A B) : ∃ A', F0_prepare A = some (0, A') ∧ PA (exO tv A n o t) A' ∧ FA [31, 32, 34, 35, 36, 37] A A' ∧ ∀ s, s ≠ 6 → A' 34 s = A 34 s := by
  have h0 := h
  obtain ⟨h8, hon, lA, lB, loA, loB, hg, hi⟩ := h
  have key : ∀ (k fu i : Nat) (M : Mem), i + k = 7 → k < fu → FA [31, 32, 35] A M → (∀ j, j < i → M 35 j = nI (xp (exO tv A n o t) j)) → ∃ M', F0_prepare_l2 fu M (nI i) = some (0, M') ∧ PA (exO tv A n o t) M' ∧ FA [31, 32, 34, 35, 36, 37] A M' ∧ ∀ s, s ≠ 6 → M' 34 s = A 34 s := by
    intro k
    induction k with
    | zero =>
      intro fu i M hik hf hF hp
      obtain ⟨fu, rfl⟩ : ∃ f, fu = f + 1 := ⟨fu - 1, by omega⟩
      obtain rfl : i = 7 := by omega
      have e1 : M 1 = A 1 := hF 1 (by decide)
      have hj : jmax (0 : Int32) (nI n - nI o) = nI (n - o) := jmax_sub (by omega) (by omega)
      have u34 : ∀ c, c ≠ 34 → up2 M 34 6 (nI (n - o)) c = M c := fun c hc => up2_ne hc
      have kM : KA A (up2 M 34 6 (nI (n - o))) := ⟨by rw [u34 1 (by decide), e1], by rw [u34 1 (by decide), e1], by rw [u34 16 (by decide), hF 16 (by decide)], by rw [u34 16 (by decide), hF 16 (by decide)], fun c a b => by rw [u34 c (by omega), hF c (by simp only [List.mem_cons, List.not_mem_nil, or_false]; omega)]⟩
      obtain ⟨M1, r1, s1⟩ := turn_A hT kM (n := n) (o := o) (by rw [u34 1 (by decide), e1]; exact lA) h8 (by rw [u34 1 (by decide), e1]; exact loA) hon (-1) (-1) id (fun i hio => ⟨by show i < n; omega, fun e => absurd e (nI_m1 (by omega)), fun _ => rfl⟩)
      have et : turnW tv (up2 M 34 6 (nI (n - o))) id o = nI (xd (exO tv A n o t) 0) := by
        refine sumI_sm (fun i hio => ?_)
        rw [u34 2 (by decide), u34 3 (by decide), u34 4 (by decide), hF 2 (by decide), hF 3 (by decide), hF 4 (by decide)]
        exact (RL.sec hO h0 (i := i) (by omega)).1.symm
      rw [et] at r1
      have fM2 : FA [31, 32, 34, 35, 36, 37] A (up2 (up2 M1 36 0 (nI (xd (exO tv A n o t) 0))) 37 0 0) := by
        intro c hc
        simp only [List.mem_cons, List.not_mem_nil, or_false, not_or] at hc
        rw [up2_ne (by omega), up2_ne (by omega), s1 c (by omega) (by omega), u34 c (by omega)]
        exact hF c (by simp only [List.mem_cons, List.not_mem_nil, or_false, not_or]; omega)
      have m34 : up2 (up2 M1 36 0 (nI (xd (exO tv A n o t) 0))) 37 0 0 34 = up2 M 34 6 (nI (n - o)) 34 := by
        rw [up2_ne (by decide), up2_ne (by decide), s1 34 (by decide) (by decide)]
      obtain ⟨M3, r3, f3, d3⟩ := prep_75 (t := t) hT hO h0 (n - o) FUEL 0 (up2 (up2 M1 36 0 (nI (xd (exO tv A n o t) 0))) 37 0 0) (by omega) (by unfold FUEL; omega) fM2 (by rw [m34, up2_at]) (fun j hj => by
        obtain rfl : j = 0 := by omega
        rw [up2_at, up2_ne (show (36 : Nat) ≠ 37 by decide), up2_at]
        exact ⟨rfl, rfl⟩)
      have fA3 : FA [31, 32, 34, 35, 36, 37] A M3 := fun c hc => by
        rw [f3 c (by simp only [List.mem_cons, List.not_mem_nil, or_false, not_or] at hc ⊢; omega)]
        exact fM2 c hc
      have m35 : M3 35 = M 35 := by
        rw [f3 35 (by decide), up2_ne (by decide), up2_ne (by decide), s1 35 (by decide) (by decide), u34 35 (by decide)]
      refine ⟨M3, ?_, ⟨by rw [fA3 5 (by decide)]; exact g.2.1, fun i hi6 => ?_, fun j hj7 => by rw [m35]; exact hp j hj7, by rw [f3 34 (by decide), m34, up2_at]; rfl, d3⟩, fA3, fun s hs => by rw [f3 34 (by decide), m34, up2_nk hs, hF 34 (by decide)]⟩
      · show F0_prepare_l2_b _ M (nI 7) = _
        unfold F0_prepare_l2_b
        rw [if_pos (by decide), e1, lA, loA, hj, r1, Option.bind_some]
        exact r3
      · rw [fA3 6 (by decide), fA3 7 (by decide)]
        obtain ⟨-, -, -, b1, b2, b3⟩ := g.2.2.2 i hi6
        exact ⟨(nI_tN b1.1).symm, (nI_tN b2.1).symm⟩
    | succ k ih =>
      intro fu i M hik hf hF hp
      obtain ⟨fu, rfl⟩ : ∃ f, fu = f + 1 := ⟨fu - 1, by omega⟩
      obtain ⟨M1, r1, s1⟩ := pace_A hT (hF.ka (fun c hc => by simp only [List.mem_cons, List.not_mem_nil, or_false]; omega)) i
      have ep : tv 2 (nI i) 0 0 0 = nI (xp (exO tv A n o t) i) := (nI_tN (hO 2 (nI i) 0 0 0).1).symm
      rw [ep] at r1
      obtain ⟨M2, r2, p2, f2⟩ := ih fu (i + 1) (up2 M1 35 i (nI (xp (exO tv A n o t) i))) (by omega) (by omega) (fun c hc => by
        simp only [List.mem_cons, List.not_mem_nil, or_false, not_or] at hc
        rw [up2_ne (by omega), s1 c (by omega) (by omega)]
        exact hF c (by simp only [List.mem_cons, List.not_mem_nil, or_false, not_or]; omega)) (fun j hj => by
        by_cases e : j = i
        · subst e; exact up2_at
        · rw [up2_nk e, s1 35 (by decide) (by decide)]; exact hp j (by omega))
      refine ⟨M2, ?_, p2, f2⟩
      show F0_prepare_l2_b _ M (nI i) = _
      unfold F0_prepare_l2_b
      rw [if_neg (show ¬ (6 : Int32) < nI i from nI_nlt (a := 6) (by omega) (by decide)), r1, Option.bind_some, if_pos (inb_of (by omega) (by decide)), nI_clamp (by omega), nI_1]
      exact r2
  exact key 7 FUEL 0 A (by omega) (by unfold FUEL; omega) FA.rf (fun j hj => absurd hj (by omega))
theorem gath_P (hU : TellB tv B) (hO : TvOk tv) (h : RL n o A B) (g : RG t A B) : ∃ B', F9_gathers B = some (0, B') ∧ GB B B' ∧ PB (exO tv A n o t) n o B' := by
  have h0 := h
  obtain ⟨h8, hon, lA, lB, loA, loB, hg, hi⟩ := h
  obtain ⟨B', e, gb, t1, s1, m1, w1⟩ := gath_B hU hO KB.rf lB h8 loB hon (fun i hin => by rw [← (hi i (by omega)).1]; exact (hi i (by omega)).2.2.2.1)
  have fb : ∀ c, c ≠ 0 → c ≠ 10 → c ≠ 11 → c ≠ 12 → B' c = B c := gb.1
  refine ⟨B', e, gb, ?_, fun i hi6 => ?_, fun j hj => ?_, ?_, ?_, ?_, h8, ?_, rfl, fun k hk => ⟨?_, ?_⟩⟩
  · rw [gb.2 16 (by decide)]; exact g.2.2.1
  · rw [fb 7 (by decide) (by decide) (by decide) (by decide), fb 8 (by decide) (by decide) (by decide) (by decide)]
    obtain ⟨a1, a2, -, b1, b2, b3⟩ := g.2.2.2 i hi6
    rw [← a1, ← a2]
    exact ⟨(nI_tN b1.1).symm, (nI_tN b2.1).symm⟩
  · rw [w1 j hj]
    exact (nI_tN (hO 2 (nI j) 0 0 0).1).symm
  · rw [gb.2 10 (by decide)]; exact lB
  · rw [gb.2 11 (by decide)]; exact loB
  · show n = o + (n - o)
    omega
  · rw [t1]
    refine sumI_sm (fun i hio => ?_)
    rw [← (hi i (by omega)).1, ← (hi i (by omega)).2.1, ← (hi i (by omega)).2.2.1]
    exact (RL.sec hO h0 (i := i) (by omega)).1.symm
  · have hk2 : k < n - o := hk
    rw [s1 (o + k) (by omega), ← (hi _ (by omega)).1, ← (hi _ (by omega)).2.1, ← (hi _ (by omega)).2.2.1, ← (RL.sec hO h0 (i := o + k) (by omega)).1, nI_add]
    rfl
  · have hk2 : k < n - o := hk
    rw [m1 (o + k) (by omega) (by omega), ← (hi _ (by omega)).1, ← (hi _ (by omega)).2.1, ← (hi _ (by omega)).2.2.1, show o + k - o = k by omega]
    rfl
end
