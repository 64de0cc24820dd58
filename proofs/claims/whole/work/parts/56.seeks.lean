/-! ERRANDS: the reference's search -/
section
variable {X : EX} {A B : Mem} {n o : Nat}
def BSt (X : EX) (M : Mem) (st : Option (List Nat)) : Prop :=
  match st with
  | none => M 0 42 = 0
  | some q => M 0 42 = 1 ∧ M 0 41 = gnP X q ∧ M 0 40 = nI q.length ∧ q.length ≤ 6 ∧ ∃ f, q = lst f q.length ∧ ∀ i, i < q.length → M 14 i = nI (f i)
theorem BSt.cong {M M' : Mem} {st : Option (List Nat)} (h : BSt X M st) (h14 : M' 14 = M 14) (s40 : M' 0 40 = M 0 40) (s41 : M' 0 41 = M 0 41) (s42 : M' 0 42 = M 0 42) : BSt X M' st := by
  unfold BSt at *
  rw [h14, s40, s41, s42]
  exact h
theorem lst_in {f : Nat → Nat} {i : Nat} : ∀ {q : Nat}, i < q → f i ∈ lst f q
  | 0, h => by omega
  | q + 1, h => by
    by_cases e : i = q
    · subst e; exact List.mem_cons_self
    · exact List.mem_cons_of_mem _ (lst_in (by omega))
theorem okP.ls {f : Nat → Nat} {q : Nat} (h : okP X (lst f q)) : q ≤ 6 ∧ ∀ i, i < q → f i < xt X := by
  have h1 := h.2.2
  rw [lst_len] at h1
  exact ⟨h1, fun i hi => h.1 _ (lst_in hi)⟩
/-- a search's first step: weighed, and kept if better -/
theorem keep_B (hX : OKX X) (hP : PB X n o B) {f : Nat → Nat} {q : Nat} (hQ : QB f q B) (hp : okP X (lst f q)) {st : Option (List Nat)} (hS : BSt X B st) (rc : Nat → Int32 → Int32 → Int32 → Int32 → Int32 → Mem → Option (Int32 × Mem)) (a5 : Int32) : ∃ B', F9_goesOn rc B (nI (shH (xs X) (lst f q))) (nI (stR (lst f q))) (nI (tmX X (lst f q))) (nI (woR (xw X) (lst f q))) a5 = F9_goesOn_l115 rc FUEL B' (nI (shH (xs X) (lst f q))) (nI (stR (lst f q))) (nI (tmX X (lst f q))) (nI (woR (xw X) (lst f q))) a5 0 ∧ PB X n o B' ∧ QB f q B' ∧ BSt X B' (pick (cmB X) st (lst f q)) ∧ SM B B' := by
  obtain ⟨q6, hf⟩ := hp.ls
  have hb := bkX_le hX hp.1 hp.2.2
  have hbk : tmX X (lst f q) + stN (shH (xs X) (lst f q)) 0 * xp X q = bkX X (lst f q) := by
    rw [bkX_eq, lst_len]
  have hP1 : PB X n o (up2 B 0 36 (nI (lkX X (bkX X (lst f q))))) := hP.up36 _
  have hQ1 : QB f q (up2 B 0 36 (nI (lkX X (bkX X (lst f q))))) := hQ.up36 _
  generalize hB1 : up2 B 0 36 (nI (lkX X (bkX X (lst f q)))) = B1 at hP1 hQ1
  have hS1 : BSt X B1 st := by
    subst hB1
    exact hS.cong (up2_ne (by decide)) (up2_nk (by decide)) (up2_nk (by decide)) (up2_nk (by decide))
  have hM1 : SM B B1 := by
    subst hB1
    exact SM.up36 _
  have e0 : F9_goesOn rc B (nI (shH (xs X) (lst f q))) (nI (stR (lst f q))) (nI (tmX X (lst f q))) (nI (woR (xw X) (lst f q))) a5 = if (B1 0 42) = 0 then F9_goesOn_j61 rc B1 (nI (shH (xs X) (lst f q))) (nI (stR (lst f q))) (nI (tmX X (lst f q))) (nI (woR (xw X) (lst f q))) a5 (gnP X (lst f q)) else if (B1 0 41) < gnP X (lst f q) then F9_goesOn_j61 rc B1 (nI (shH (xs X) (lst f q))) (nI (stR (lst f q))) (nI (tmX X (lst f q))) (nI (woR (xw X) (lst f q))) a5 (gnP X (lst f q)) else if ¬ gnP X (lst f q) = (B1 0 41) then F9_goesOn_j112 rc B1 (nI (shH (xs X) (lst f q))) (nI (stR (lst f q))) (nI (tmX X (lst f q))) (nI (woR (xw X) (lst f q))) a5 else if (B1 0 40) ≤ (B1 0 38) then F9_goesOn_j112 rc B1 (nI (shH (xs X) (lst f q))) (nI (stR (lst f q))) (nI (tmX X (lst f q))) (nI (woR (xw X) (lst f q))) a5 else F9_goesOn_j61 rc B1 (nI (shH (xs X) (lst f q))) (nI (stR (lst f q))) (nI (tmX X (lst f q))) (nI (woR (xw X) (lst f q))) a5 (gnP X (lst f q)) := by
    unfold F9_goesOn
    rw [show (0 : Int32) = nI 0 from rfl, steps_B (shH_le hX hp.1) (by omega), Option.bind_some]
    dsimp only
    rw [if_pos (show inb (B 0 38) 7 = true by rw [hQ.1]; exact inb_of (by omega) (by decide)), hQ.1, nI_clamp (by omega), hP.2.2.1 q (by omega), pk_mul, nI_add, hbk, gain_B hX hP (by omega), Option.bind_some, hB1]
    rfl
  have copy : ∀ (k fu i : Nat) (M : Mem), i + k = q → k < fu → QB f q M → (∀ c, c ≠ 14 → M c = up2 (up2 (up2 B1 0 42 1) 0 41 (gnP X (lst f q))) 0 40 (nI q) c) → (∀ j, j < i → M 14 j = nI (f j)) → ∃ B', F9_goesOn_l83 rc fu M (nI (shH (xs X) (lst f q))) (nI (stR (lst f q))) (nI (tmX X (lst f q))) (nI (woR (xw X) (lst f q))) a5 (nI i) = F9_goesOn_j112 rc B' (nI (shH (xs X) (lst f q))) (nI (stR (lst f q))) (nI (tmX X (lst f q))) (nI (woR (xw X) (lst f q))) a5 ∧ (∀ c, c ≠ 14 → B' c = up2 (up2 (up2 B1 0 42 1) 0 41 (gnP X (lst f q))) 0 40 (nI q) c) ∧ ∀ j, j < q → B' 14 j = nI (f j) := by
    intro k
    induction k with
    | zero =>
      intro fu i M hi hfu hQM hM h14
      obtain ⟨fu, rfl⟩ : ∃ f, fu = f + 1 := ⟨fu - 1, by omega⟩
      obtain rfl : i = q := by omega
      refine ⟨M, ?_, hM, h14⟩
      show F9_goesOn_l83_b rc _ M _ _ _ _ _ (nI i) = _
      unfold F9_goesOn_l83_b
      rw [hQM.1, if_pos (nI_le (by omega) (by omega))]
    | succ k ih =>
      intro fu i M hi hfu hQM hM h14
      obtain ⟨fu, rfl⟩ : ∃ f, fu = f + 1 := ⟨fu - 1, by omega⟩
      obtain ⟨B', e, r⟩ := ih fu (i + 1) (up2 M 14 i (nI (f i))) (by omega) (by omega) ⟨by rw [up2_ne (by decide)]; exact hQM.1, hQM.2.1, fun j hj => by rw [up2_ne (by decide)]; exact hQM.2.2 j hj⟩ (fun c hc => by rw [up2_ne hc]; exact hM c hc) (fun j hj => by
        by_cases e : j = i
        · subst e; exact up2_at
        · rw [up2_nk e]; exact h14 j (by omega))
      refine ⟨B', ?_, r⟩
      show F9_goesOn_l83_b rc _ M _ _ _ _ _ (nI i) = _
      unfold F9_goesOn_l83_b
      rw [hQM.1, if_neg (nI_ge (by omega) (by omega)), if_pos (inb_of (by omega) (by decide)), nI_clamp (by omega), hQM.2.2 i (by omega), nI_1]
      exact e
  have take : ∃ B', F9_goesOn_j61 rc B1 (nI (shH (xs X) (lst f q))) (nI (stR (lst f q))) (nI (tmX X (lst f q))) (nI (woR (xw X) (lst f q))) a5 (gnP X (lst f q)) = F9_goesOn_j112 rc B' (nI (shH (xs X) (lst f q))) (nI (stR (lst f q))) (nI (tmX X (lst f q))) (nI (woR (xw X) (lst f q))) a5 ∧ PB X n o B' ∧ QB f q B' ∧ BSt X B' (some (lst f q)) ∧ SM B B' := by
    have u0 : ∀ c, c ≠ 0 → up2 (up2 (up2 B1 0 42 1) 0 41 (gnP X (lst f q))) 0 40 (nI q) c = B1 c := fun c hc => by rw [up2_ne hc, up2_ne hc, up2_ne hc]
    have uk : ∀ k, k ≠ 40 → k ≠ 41 → k ≠ 42 → up2 (up2 (up2 B1 0 42 1) 0 41 (gnP X (lst f q))) 0 40 (nI q) 0 k = B1 0 k := fun k h1 h2 h3 => by rw [up2_nk h1, up2_nk h2, up2_nk h3]
    obtain ⟨B', e, h1, h2⟩ := copy q FUEL 0 (up2 (up2 (up2 B1 0 42 1) 0 41 (gnP X (lst f q))) 0 40 (nI q)) (by omega) (by unfold FUEL; omega) ⟨by rw [uk 38 (by decide) (by decide) (by decide)]; exact hQ1.1, q6, fun j hj => by rw [u0 13 (by decide)]; exact hQ1.2.2 j hj⟩ (fun c hc => rfl) (fun j hj => absurd hj (by omega))
    have b0 : ∀ k, B' 0 k = up2 (up2 (up2 B1 0 42 1) 0 41 (gnP X (lst f q))) 0 40 (nI q) 0 k := fun k => by rw [h1 0 (by decide)]
    have bc : ∀ c, c ≠ 0 → c ≠ 14 → B' c = B1 c := fun c c0 c14 => by rw [h1 c c14, u0 c c0]
    refine ⟨B', ?_, hP1.cong (bc 7 (by decide) (by decide)) (bc 8 (by decide) (by decide)) (bc 10 (by decide) (by decide)) (bc 11 (by decide) (by decide)) (bc 12 (by decide) (by decide)) (by rw [b0, uk 10 (by decide) (by decide) (by decide)]) (by rw [b0, uk 11 (by decide) (by decide) (by decide)]) (by rw [b0, uk 16 (by decide) (by decide) (by decide)]) (by rw [b0, uk 35 (by decide) (by decide) (by decide)]), ⟨by rw [b0, uk 38 (by decide) (by decide) (by decide)]; exact hQ1.1, q6, fun j hj => by rw [bc 13 (by decide) (by decide)]; exact hQ1.2.2 j hj⟩, ⟨?_, ?_, ?_, hp.2.2, f, ?_, ?_⟩, hM1.tr ⟨fun c c0 hc => ?_, fun k hk => ?_⟩⟩
    · unfold F9_goesOn_j61
      rw [hQ1.1]
      exact e
    · rw [b0, up2_nk (by decide), up2_nk (by decide), up2_at]
    · rw [b0, up2_nk (by decide), up2_at]
    · rw [b0, up2_at, lst_len]
    · rw [lst_len]
    · rw [lst_len]; exact h2
    · simp only [List.mem_cons, List.not_mem_nil, or_false, not_or] at hc
      exact bc c c0 (by omega)
    · rw [b0, uk k (by omega) (by omega) (by omega)]
  have leave : ∃ B', F9_goesOn_j112 rc B1 (nI (shH (xs X) (lst f q))) (nI (stR (lst f q))) (nI (tmX X (lst f q))) (nI (woR (xw X) (lst f q))) a5 = F9_goesOn_j112 rc B' (nI (shH (xs X) (lst f q))) (nI (stR (lst f q))) (nI (tmX X (lst f q))) (nI (woR (xw X) (lst f q))) a5 ∧ PB X n o B' ∧ QB f q B' ∧ BSt X B' st ∧ SM B B' := ⟨B1, rfl, hP1, hQ1, hS1, hM1⟩
  rw [e0]
  cases st with
  | none =>
    rw [if_pos (show B1 0 42 = 0 from hS1)]
    exact take
  | some c =>
    obtain ⟨s1, s2, s3, s4, -⟩ := hS1
    have epk : pick (cmB X) (some c) (lst f q) = if cmB X (lst f q) c = true then some (lst f q) else some c := rfl
    rw [if_neg (by rw [s1]; decide), s2, s3, hQ1.1, epk]
    unfold cmB
    rw [lst_len]
    by_cases g1 : gnP X c < gnP X (lst f q)
    · rw [if_pos g1, if_pos (decide_eq_true (.inl g1))]
      exact take
    · rw [if_neg g1]
      by_cases g2 : gnP X (lst f q) = gnP X c
      · rw [if_neg (fun z => z g2)]
        by_cases g3 : c.length ≤ q
        · rw [if_pos (nI_le g3 (by omega)), if_neg (show ¬ decide (gnP X c < gnP X (lst f q) ∨ gnP X (lst f q) = gnP X c ∧ q < c.length) = true by rw [decide_eq_true_iff]; rintro (h | ⟨-, h⟩); exact g1 h; omega)]
          exact leave
        · rw [if_neg (nI_ge (by omega) (by omega)), if_pos (show decide (gnP X c < gnP X (lst f q) ∨ gnP X (lst f q) = gnP X c ∧ q < c.length) = true from decide_eq_true (.inr ⟨g2, by omega⟩))]
          exact take
      · rw [if_pos g2, if_neg (show ¬ decide (gnP X c < gnP X (lst f q) ∨ gnP X (lst f q) = gnP X c ∧ q < c.length) = true by rw [decide_eq_true_iff]; rintro (h | ⟨h, -⟩); exact g1 h; exact g2 h)]
        exact leave
end
