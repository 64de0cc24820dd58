section
variable {X : EX} {A B : Mem} {n o : Nat}
theorem chv_nil {m : Nat} {p : List Nat} : ∀ {k i : Nat}, chv (fun _ => []) m p k i = []
  | 0, _ => rfl
  | k + 1, i => by
    unfold chv
    rw [chv_nil, ite_self]
    rfl
theorem goes_l (hX : OKX X) {m : Nat} (hm : m < 64) {f : Nat → Nat} {q : Nat} (hp : okP X (lst f q)) (rc : Nat → Int32 → Int32 → Int32 → Int32 → Int32 → Mem → Option (Int32 × Mem)) (vd : List Nat → List (List Nat)) (hrec : ∀ i M st, i < xt X → (stR (lst f q)).testBit i = false → PB X n o M → QB (fup f q i) (q + 1) M → BSt X M st → ∃ M', rc 0 (nI (xs X i)) (nI (stR (i :: lst f q))) (nI (tmX X (i :: lst f q))) (nI (woR (xw X) (i :: lst f q))) (nI m) M = some (0, M') ∧ PB X n o M' ∧ QB (fup f q i) (q + 1) M' ∧ BSt X M' ((vd (i :: lst f q)).foldl (pick (cmB X)) st) ∧ SM M M') : ∀ (k g i : Nat) (M : Mem) (st : Option (List Nat)), i + k = xt X → k < g → PB X n o M → QB f q M → BSt X M st → ∃ M', F9_goesOn_l115 rc g M (nI (shH (xs X) (lst f q))) (nI (stR (lst f q))) (nI (tmX X (lst f q))) (nI (woR (xw X) (lst f q))) (nI m) (nI i) = some (0, M') ∧ PB X n o M' ∧ QB f q M' ∧ BSt X M' ((chv vd m (lst f q) k i).foldl (pick (cmB X)) st) ∧ SM M M' := by
  have h6 := hX.1
  have s64 := hp.st hX
  intro k
  induction k with
  | zero =>
    intro g i M st hi hg hP hQ hS
    obtain ⟨g, rfl⟩ : ∃ f, g = f + 1 := ⟨g - 1, by omega⟩
    refine ⟨M, ?_, hP, hQ, hS, SM.rf⟩
    show F9_goesOn_l115_b rc _ M _ _ _ _ _ (nI i) = _
    unfold F9_goesOn_l115_b
    rw [hP.1, if_pos (nI_le (by omega) (by omega))]
  | succ k ih =>
    intro g i M st hi hg hP hQ hS
    obtain ⟨g, rfl⟩ : ∃ f, g = f + 1 := ⟨g - 1, by omega⟩
    have hi6 : i < xt X := by omega
    show ∃ M', F9_goesOn_l115_b rc (F9_goesOn_l115 rc g) M _ _ _ _ _ (nI i) = _ ∧ _
    unfold F9_goesOn_l115_b F9_goesOn_j231 chv
    rw [hP.1, if_neg (nI_ge (by omega) (by omega)), nI_1, bt_sh _ s64 i (by omega), bt_sh _ hm i (by omega)]
    cases c2 : (stR (lst f q)).testBit i with
    | true =>
      rw [if_pos (by simp), if_neg (fun z => Bool.false_ne_true z.2.symm)]
      exact ih g (i + 1) M st (by omega) (by omega) hP hQ hS
    | false =>
      rw [if_neg (by simp)]
      cases c1 : m.testBit i with
      | false =>
        rw [if_pos (by simp), if_neg (fun z => Bool.false_ne_true z.1)]
        exact ih g (i + 1) M st (by omega) (by omega) hP hQ hS
      | true =>
        have hp2 := hp.cons hX hi6 c2
        have hq6 : q + 1 ≤ 6 := by
          have := hp2.2.2
          rw [List.length_cons, lst_len] at this
          exact this
        have eQ := QB.go (x := i) hQ (show q < 6 by omega)
        obtain ⟨M1, e1, hP1, hQ1, hS1, hM1⟩ := hrec i (up2 (up2 M 13 q (nI i)) 0 38 (nI (q + 1))) st hi6 c2 hP.go eQ (hS.cong (by rw [up2_ne (by decide), up2_ne (by decide)]) (by rw [up2_nk (by decide), up2_ne (by decide)]) (by rw [up2_nk (by decide), up2_ne (by decide)]) (by rw [up2_nk (by decide), up2_ne (by decide)]))
        have hP2 : PB X n o (up2 M1 0 38 (nI q)) := hP1.cong (up2_ne (by decide)) (up2_ne (by decide)) (up2_ne (by decide)) (up2_ne (by decide)) (up2_ne (by decide)) (up2_nk (by decide)) (up2_nk (by decide)) (up2_nk (by decide)) (up2_nk (by decide))
        have hQ2 : QB f q (up2 M1 0 38 (nI q)) := ⟨up2_at, by omega, fun j hj => by
          rw [up2_ne (show (13 : Nat) ≠ 0 by decide), hQ1.2.2 j (by omega)]
          unfold fup
          rw [if_neg (by omega)]⟩
        have hS2 := hS1.cong (M' := up2 M1 0 38 (nI q)) (up2_ne (by decide)) (up2_nk (by decide)) (up2_nk (by decide)) (up2_nk (by decide))
        obtain ⟨M2, e2, hP3, hQ3, hS3, hM3⟩ := ih g (i + 1) (up2 M1 0 38 (nI q)) ((vd (i :: lst f q)).foldl (pick (cmB X)) st) (by omega) (by omega) hP2 hQ2 hS2
        refine ⟨M2, ?_, hP3, hQ3, ?_, (SM.go.tr hM1).tr ((show SM M1 (up2 M1 0 38 (nI q)) from ⟨fun c c0 _ => up2_ne c0, fun k hk => up2_nk (by omega)⟩).tr hM3)⟩
        · rw [if_neg (by simp), if_pos (inb_of (by omega) (by decide)), nI_clamp (by omega), (hP.2.1 i (by omega)).1, steps_B (shH_le hX hp.1) (hX.2.1 i (by omega)).1, Option.bind_some]
          dsimp only
          rw [if_pos (show inb (M 0 38) 7 = true by rw [hQ.1]; exact inb_of (by omega) (by decide)), if_pos (show inb (M 0 38) 6 = true by rw [hQ.1]; exact inb_of (by omega) (by decide)), hQ.1, nI_clamp (by omega), (hP.2.1 i (by omega)).1, (hP.2.1 i (by omega)).2, hP.2.2.1 q (by omega), pk_mul, nI_add, nI_add, bt_or _ s64 i (by omega), nI_1]
          have et : tmX X (lst f q) + stN (shH (xs X) (lst f q)) (xs X i) * xp X q = tmX X (i :: lst f q) := by rw [tmX_cons, lst_len]
          rw [et]
          have e1' : rc 0 (nI (xs X i)) (nI (stR (lst f q) ||| 2 ^ i)) (nI (tmX X (i :: lst f q))) (nI (woR (xw X) (lst f q) + xw X i)) (nI m) (up2 (up2 M 13 q (nI i)) 0 38 (nI (q + 1))) = some (0, M1) := e1
          rw [e1', Option.bind_some]
          dsimp only
          rw [hQ1.1, show nI (q + 1) - 1 = nI q from nI_pred q]
          exact e2
        · rw [if_pos ⟨rfl, rfl⟩, List.foldl_append]
          exact hS3
theorem goes_B (hX : OKX X) {m : Nat} (hm : m < 64) : ∀ (d fu : Nat) (f : Nat → Nat) (q : Nat) (B : Mem) (st : Option (List Nat)), q + d = 6 → d < fu → PB X n o B → QB f q B → okP X (lst f q) → BSt X B st → ∃ B', S4 fu 0 (nI (shH (xs X) (lst f q))) (nI (stR (lst f q))) (nI (tmX X (lst f q))) (nI (woR (xw X) (lst f q))) (nI m) B = some (0, B') ∧ PB X n o B' ∧ QB f q B' ∧ BSt X B' ((vis (xt X) m d (lst f q)).foldl (pick (cmB X)) st) ∧ SM B B' := by
  intro d
  induction d with
  | zero =>
    intro fu f q B st hd hfu hP hQ hp hS
    obtain ⟨fu, rfl⟩ : ∃ f, fu = f + 1 := ⟨fu - 1, by omega⟩
    obtain ⟨B1, e1, hP1, hQ1, hS1, hM1⟩ := keep_B hX hP hQ hp hS (S4 fu) (nI m)
    obtain ⟨B2, e2, hP2, hQ2, hS2, hM2⟩ := goes_l hX hm hp (S4 fu) (fun _ => []) (fun i M st hi hb => by
      have h1 := (hp.cons hX hi hb).2.2
      rw [List.length_cons, lst_len] at h1
      omega) (xt X) FUEL 0 B1 (pick (cmB X) st (lst f q)) (by omega) (by have := hX.1; unfold FUEL; omega) hP1 hQ1 hS1
    refine ⟨B2, ?_, hP2, hQ2, ?_, hM1.tr hM2⟩
    · show F9_goesOn (S4 fu) B _ _ _ _ _ = _
      rw [e1]
      exact e2
    · rw [chv_nil] at hS2
      exact hS2
  | succ d ih =>
    intro fu f q B st hd hfu hP hQ hp hS
    obtain ⟨fu, rfl⟩ : ∃ f, fu = f + 1 := ⟨fu - 1, by omega⟩
    obtain ⟨B1, e1, hP1, hQ1, hS1, hM1⟩ := keep_B hX hP hQ hp hS (S4 fu) (nI m)
    obtain ⟨B2, e2, hP2, hQ2, hS2, hM2⟩ := goes_l hX hm hp (S4 fu) (vis (xt X) m d) (fun i M st hi hb hPM hQM hSM => by
      have h1 := ih fu (fup f q i) (q + 1) M st (by omega) (by omega) hPM hQM (by rw [fup_lst]; exact hp.cons hX hi hb) hSM
      rw [fup_lst] at h1
      exact h1) (xt X) FUEL 0 B1 (pick (cmB X) st (lst f q)) (by omega) (by have := hX.1; unfold FUEL; omega) hP1 hQ1 hS1
    refine ⟨B2, ?_, hP2, hQ2, hS2, hM1.tr hM2⟩
    show F9_goesOn (S4 fu) B _ _ _ _ _ = _
    rw [e1]
    exact e2
theorem seeks_B (hX : OKX X) {m : Nat} (hm : m < 64) (hP : PB X n o B) : ∃ r f B', bestX X m = some r ∧ okP X r ∧ F9_seeks B (nI m) = some (gnP X r, B') ∧ PB X n o B' ∧ lst f r.length = r ∧ QB f r.length B' ∧ B' 0 40 = nI r.length ∧ (∀ i, i < r.length → B' 14 i = nI (f i)) ∧ SM B B' := by
  obtain ⟨r, hr, r1, -⟩ := top_B (X := X) hX.1 m
  have hok := vis_okP hX r1
  have hP0 : PB X n o (up2 (up2 B 0 42 0) 0 38 0) := hP.cong (by rw [up2_ne (by decide), up2_ne (by decide)]) (by rw [up2_ne (by decide), up2_ne (by decide)]) (by rw [up2_ne (by decide), up2_ne (by decide)]) (by rw [up2_ne (by decide), up2_ne (by decide)]) (by rw [up2_ne (by decide), up2_ne (by decide)]) (by rw [up2_nk (by decide), up2_nk (by decide)]) (by rw [up2_nk (by decide), up2_nk (by decide)]) (by rw [up2_nk (by decide), up2_nk (by decide)]) (by rw [up2_nk (by decide), up2_nk (by decide)])
  have hM0 : SM B (up2 (up2 B 0 42 0) 0 38 0) := ⟨fun c c0 _ => by rw [up2_ne c0, up2_ne c0], fun k hk => by rw [up2_nk (by omega), up2_nk (by omega)]⟩
  obtain ⟨B1, e1, hP1, hQ1, hS1, hM1⟩ := goes_B (o := o) (n := n) hX hm 6 9 (fun _ => 0) 0 (up2 (up2 B 0 42 0) 0 38 0) none rfl (by decide) hP0 ⟨up2_at, by omega, fun i hi => absurd hi (by omega)⟩ ⟨nl_lt, List.nodup_nil, by decide⟩ (show up2 (up2 B 0 42 0) 0 38 0 0 42 = 0 by rw [up2_nk (by decide), up2_at])
  have hS1' : BSt X B1 (some r) := by
    have : (vis (xt X) m 6 (lst (fun _ => 0) 0)).foldl (pick (cmB X)) none = some r := hr
    rw [this] at hS1
    exact hS1
  obtain ⟨s1, s2, s3, s4, f, hf, s5⟩ := hS1'
  have copy : ∀ (k fu i : Nat) (M : Mem), i + k = r.length → k < fu → (∀ c, c ≠ 13 → M c = up2 B1 0 38 (nI r.length) c) → (∀ j, j < i → M 13 j = nI (f j)) → ∃ B', F9_seeks_l29 fu M (nI i) = some (gnP X r, B') ∧ (∀ c, c ≠ 13 → B' c = up2 B1 0 38 (nI r.length) c) ∧ ∀ j, j < r.length → B' 13 j = nI (f j) := by
    intro k
    induction k with
    | zero =>
      intro fu i M hi hfu hM h13
      obtain ⟨fu, rfl⟩ : ∃ f, fu = f + 1 := ⟨fu - 1, by omega⟩
      obtain rfl : i = r.length := by omega
      refine ⟨M, ?_, hM, h13⟩
      show F9_seeks_l29_b _ M (nI r.length) = _
      unfold F9_seeks_l29_b
      rw [hM 0 (by decide), up2_nk (by decide), s3, if_pos (nI_le (by omega) (by omega)), up2_nk (by decide), s2]
    | succ k ih =>
      intro fu i M hi hfu hM h13
      obtain ⟨fu, rfl⟩ : ∃ f, fu = f + 1 := ⟨fu - 1, by omega⟩
      obtain ⟨B', e, q⟩ := ih fu (i + 1) (up2 M 13 i (nI (f i))) (by omega) (by omega) (fun c hc => by rw [up2_ne hc]; exact hM c hc) (fun j hj => by
        by_cases e : j = i
        · subst e; exact up2_at
        · rw [up2_nk e]; exact h13 j (by omega))
      refine ⟨B', ?_, q⟩
      show F9_seeks_l29_b _ M (nI i) = _
      unfold F9_seeks_l29_b
      rw [hM 0 (by decide), up2_nk (by decide), s3, if_neg (nI_ge (by omega) (by omega)), if_pos (inb_of (by omega) (by decide)), nI_clamp (by omega), hM 14 (by decide), up2_ne (by decide), s5 i (by omega), nI_1]
      exact e
  obtain ⟨B2, e2, b1, b2⟩ := copy r.length FUEL 0 (up2 B1 0 38 (nI r.length)) (by omega) (by unfold FUEL; omega) (fun c hc => rfl) (fun j hj => absurd hj (by omega))
  have bc : ∀ c, c ≠ 0 → c ≠ 13 → B2 c = B1 c := fun c c0 c13 => by rw [b1 c c13, up2_ne c0]
  have bk : ∀ k, k ≠ 38 → B2 0 k = B1 0 k := fun k hk => by rw [b1 0 (by decide), up2_nk hk]
  refine ⟨r, f, B2, hr, hok, ?_, hP1.cong (bc 7 (by decide) (by decide)) (bc 8 (by decide) (by decide)) (bc 10 (by decide) (by decide)) (bc 11 (by decide) (by decide)) (bc 12 (by decide) (by decide)) (bk 10 (by decide)) (bk 11 (by decide)) (bk 16 (by decide)) (bk 35 (by decide)), hf.symm, ⟨by rw [b1 0 (by decide), up2_at], s4, b2⟩, by rw [bk 40 (by decide)]; exact s3, fun i hi => by rw [bc 14 (by decide) (by decide)]; exact s5 i hi, (hM0.tr hM1).tr ⟨fun c c0 hc => ?_, fun k hk => bk k (by omega)⟩⟩
  · unfold F9_seeks
    have e1' : S4 9 0 0 0 0 0 (nI m) (up2 (up2 B 0 42 0) 0 38 0) = some (0, B1) := e1
    rw [e1', Option.bind_some]
    dsimp only
    rw [s3]
    exact e2
  · simp only [List.mem_cons, List.not_mem_nil, or_false, not_or] at hc
    exact bc c c0 (by omega)
end
