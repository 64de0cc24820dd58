/-! ERRANDS: one that a sheet tells -/
def SA (A A' : Mem) : Prop := FA [31, 32, 34, 35, 36, 37, 38, 39, 40, 41] A A'
def SM (B B' : Mem) : Prop := (∀ c, c ≠ 0 → c ∉ [10, 11, 12, 13, 14] → B' c = B c) ∧ ∀ k, k < 17 ∨ (44 < k ∧ k < 1000) → B' 0 k = B 0 k
theorem SA.rf {A : Mem} : SA A A := fun _ _ => rfl
theorem SM.rf {A : Mem} : SM A A := ⟨fun _ _ _ => rfl, fun _ _ => rfl⟩
theorem SA.tr {A A' A'' : Mem} (h : SA A A') (h2 : SA A' A'') : SA A A'' := fun c hc => (h2 c hc).trans (h c hc)
theorem SM.tr {A A' A'' : Mem} (h : SM A A') (h2 : SM A' A'') : SM A A'' := ⟨fun c a b => (h2.1 c a b).trans (h.1 c a b), fun k a => (h2.2 k a).trans (h.2 k a)⟩
theorem FA.sa {cs : List Nat} {A A' : Mem} (h : FA cs A A') (hc : ∀ c, c ∈ cs → c ∈ [31, 32, 34, 35, 36, 37, 38, 39, 40, 41]) : SA A A' := fun c h1 => h c (fun h2 => h1 (hc c h2))
theorem ST.sa {A A' : Mem} (h : ST A A') : SA A A' := fun c hc => h c (fun e => hc (by rw [e]; simp)) (fun e => hc (by rw [e]; simp))
theorem GB.sm {A A' : Mem} (h : GB A A') : SM A A' := ⟨fun c c0 hc => h.1 c c0 (fun e => hc (by rw [e]; simp)) (fun e => hc (by rw [e]; simp)) (fun e => hc (by rw [e]; simp)), fun k hk => h.2 k (by omega)⟩
theorem FB.sm {cs ks : List Nat} {A A' : Mem} (h : FB cs ks A A') (hc : ∀ c, c ∈ cs → c ∈ [10, 11, 12, 13, 14]) (hk : ∀ k, k ∈ ks → 17 ≤ k ∧ k ≤ 44) : SM A A' := ⟨fun c c0 h1 => h.1 c c0 (fun h2 => h1 (hc c h2)), fun k h1 => h.2 k (fun h2 => by have := hk k h2; omega)⟩
theorem SA.ka {A A' : Mem} (h : SA A A') : KA A A' := FA.ka h (fun c hc => by simp only [List.mem_cons, List.not_mem_nil, or_false]; omega)
theorem SM.kb {A A' : Mem} (h : SM A A') : KB A A' := ⟨h.1 1 (by decide) (by decide), h.1 2 (by decide) (by decide), h.2 4 (by decide), h.2 10 (by decide), h.2 11 (by decide)⟩
theorem TellA.ka {tv : Tv} {A A1 : Mem} (h : TellA tv A) (hs : KA A A1) : TellA tv A1 := fun M1 hk => h M1 (hs.tr hk)
theorem TellB.kb {tv : Tv} {B B1 : Mem} (h : TellB tv B) (hs : KB B B1) : TellB tv B1 := fun M1 hk => h M1 (hs.tr hk)
theorem RL.s {n o : Nat} {A B A' B' : Mem} (h : RL n o A B) (a : SA A A') (b : SM B B') : RL n o A' B' := h.cong (a 1 (by decide)) (a 2 (by decide)) (a 3 (by decide)) (a 4 (by decide)) (b.2 10 (by decide)) (b.2 11 (by decide)) (b.2 12 (by decide)) (b.1 4 (by decide) (by decide)) (b.1 5 (by decide) (by decide)) (b.1 6 (by decide) (by decide))
theorem RG.s {t : Nat} {A B A' B' : Mem} (h : RG t A B) (a : SA A A') (b : SM B B') : RG t A' B' := h.cong (a 5 (by decide)) (a 6 (by decide)) (a 7 (by decide)) (a 8 (by decide)) (b.2 16 (by decide)) (b.1 7 (by decide) (by decide)) (b.1 8 (by decide) (by decide)) (b.1 9 (by decide) (by decide))
theorem PB.cong {X : EX} {n o : Nat} {B B' : Mem} (h : PB X n o B) (h7 : B' 7 = B 7) (h8 : B' 8 = B 8) (h10 : B' 10 = B 10) (h11 : B' 11 = B 11) (h12 : B' 12 = B 12) (s10 : B' 0 10 = B 0 10) (s11 : B' 0 11 = B 0 11) (s16 : B' 0 16 = B 0 16) (s35 : B' 0 35 = B 0 35) : PB X n o B' := by
  unfold PB at *
  rw [h7, h8, h10, h11, h12, s10, s11, s16, s35]
  exact h
theorem PB.up36 {X : EX} {n o : Nat} {B : Mem} (h : PB X n o B) (v : Int32) : PB X n o (up2 B 0 36 v) :=
  h.cong (up2_ne (by decide)) (up2_ne (by decide)) (up2_ne (by decide)) (up2_ne (by decide)) (up2_ne (by decide)) (up2_nk (by decide)) (up2_nk (by decide)) (up2_nk (by decide)) (up2_nk (by decide))
theorem QB.up36 {f : Nat → Nat} {q : Nat} {B : Mem} (h : QB f q B) (v : Int32) : QB f q (up2 B 0 36 v) := by
  unfold QB at *
  rw [up2_nk (show (38 : Nat) ≠ 36 by decide), up2_ne (show (13 : Nat) ≠ 0 by decide)]
  exact h
theorem SM.up36 {B : Mem} (v : Int32) : SM B (up2 B 0 36 v) := ⟨fun c c0 _ => up2_ne c0, fun k hk => up2_nk (by omega)⟩
theorem row_AB {t s z : Nat} {A B : Mem} (ht : t ≤ 6) (hA : A 5 3 = nI t) (hB : B 0 16 = nI t) (hs : s < 4) (hz : z ≤ 40) (hrow : ∀ j, j < z → A (46 + s) j = B 20 (40 * s + j)) : ∃ b A' B', F0_takeRow A (46 + s) 40 (nI z) = some (b, A') ∧ F9_lays B (nI s) (nI z) = some (b, B') ∧ FA [34, 38] A A' ∧ (∀ k, k ≠ 8 → A' 34 k = A 34 k) ∧ FB [13] [38] B B' ∧ (b = 0 ∨ (b = 1 ∧ ∃ f, QA f z A' ∧ QB f z B' ∧ (∀ i, i < z → f i < t) ∧ (lst f z).Nodup ∧ ∀ i, i < z → A (46 + s) i = nI (f i))) := by
  have fin : F0_takeRow A (46 + s) 40 (nI z) = if nI z ≤ (6 : Int32) then F0_takeRow_l28 40 FUEL (up2 A 34 8 0) (46 + s) (nI z) 0 0 else some (0, up2 A 34 8 0) := by
    unfold F0_takeRow
    rw [if_neg (nI_pos (by omega)), if_neg (show ¬ Int32.ofNat 40 < nI z from nI_nlt (a := 40) hz (by decide))]
  have finB : F9_lays B (nI s) (nI z) = if nI z ≤ (6 : Int32) then F9_lays_l13 FUEL B (nI s) (nI z) 0 0 else some (0, B) := rfl
  have u34 : FA [34, 38] A (up2 A 34 8 0) := FA.rf.up (by decide)
  by_cases hz6 : z ≤ 6
  · have g6 : nI z ≤ (6 : Int32) := nI_le (b := 6) hz6 (by decide)
    rw [fin, finB, if_pos g6, if_pos g6]
    have key : ∀ (k fu i : Nat) (f : Nat → Nat) (M N : Mem), i + k = z → k < fu → FA [34, 38] A M → (∀ k, k ≠ 8 → M 34 k = A 34 k) → FB [13] [] B N → M 34 8 = nI i → (∀ j, j < i → M 38 j = nI (f j) ∧ N 13 j = nI (f j) ∧ f j < t ∧ A (46 + s) j = nI (f j)) → (lst f i).Nodup → ∃ b A' B', F0_takeRow_l28 40 fu M (46 + s) (nI z) (nI (stR (lst f i))) (nI i) = some (b, A') ∧ F9_lays_l13 fu N (nI s) (nI z) (nI (stR (lst f i))) (nI i) = some (b, B') ∧ FA [34, 38] A A' ∧ (∀ k, k ≠ 8 → A' 34 k = A 34 k) ∧ FB [13] [38] B B' ∧ (b = 0 ∨ (b = 1 ∧ ∃ f, QA f z A' ∧ QB f z B' ∧ (∀ i, i < z → f i < t) ∧ (lst f z).Nodup ∧ ∀ i, i < z → A (46 + s) i = nI (f i))) := by
      intro k
      induction k with
      | zero =>
        intro fu i f M N hi hf hM hM8 hN h8 hpre hnd
        obtain ⟨fu, rfl⟩ : ∃ f, fu = f + 1 := ⟨fu - 1, by omega⟩
        obtain rfl : i = z := by omega
        refine ⟨1, M, up2 N 0 38 (nI i), ?_, ?_, hM, hM8, ⟨fun c c0 hc => by rw [up2_ne c0, hN.1 c c0 hc], fun k hk => by rw [up2_nk (by simpa using hk), hN.2 k (by simp)]⟩, .inr ⟨rfl, f, ⟨h8, hz6, fun j hj => (hpre j hj).1⟩, ⟨up2_at, hz6, fun j hj => by rw [up2_ne (show (13 : Nat) ≠ 0 by decide)]; exact (hpre j hj).2.1⟩, fun j hj => (hpre j hj).2.2.1, hnd, fun j hj => (hpre j hj).2.2.2⟩⟩
        · show F0_takeRow_l28_b 40 _ M (46 + s) (nI i) _ (nI i) = _
          unfold F0_takeRow_l28_b
          rw [if_pos (nI_le (by omega) (by omega))]
        · show F9_lays_l13_b _ N (nI s) (nI i) _ (nI i) = _
          unfold F9_lays_l13_b
          rw [if_pos (nI_le (by omega) (by omega))]
      | succ k ih =>
        intro fu i f M N hi hf hM hM8 hN h8 hpre hnd
        obtain ⟨fu, rfl⟩ : ∃ f, fu = f + 1 := ⟨fu - 1, by omega⟩
        have rA : M (46 + s) i = A (46 + s) i := by rw [hM (46 + s) (by simp; omega)]
        have rB : N 20 (40 * s + i) = A (46 + s) i := by rw [hN.1 20 (by decide) (by decide), hrow i (by omega)]
        have ex : (40 : Int32) * nI s + nI i = nI (40 * s + i) := by rw [show (40 : Int32) = nI 40 from rfl, pk_mul, nI_add]
        have tA : M 5 3 = nI t := by rw [hM 5 (by decide)]; exact hA
        have tB : N 0 16 = nI t := by rw [hN.2 16 (by decide)]; exact hB
        have m6 : stR (lst f i) < 64 := stR_64 (fun x hx => by obtain ⟨j, h1, rfl⟩ := lst_mem hx; have := (hpre j h1).2.2.1; omega)
        have eA : F0_takeRow_l28 40 (fu + 1) M (46 + s) (nI z) (nI (stR (lst f i))) (nI i) = Option.bind (F6_holds M (A (46 + s) i)) fun r6 => if r6.1 = 0 then some ((0 : Int32), r6.2) else if (nI (stR (lst f i)) &&& ((1 : Int32) <<< (A (46 + s) i &&& 31))) = 0 then Option.bind (F0_goTo r6.2 (A (46 + s) i)) fun r10 => F0_takeRow_l28 40 fu r10.2 (46 + s) (nI z) (nI (stR (lst f i)) ||| ((1 : Int32) <<< (A (46 + s) i &&& 31))) (nI (i + 1)) else some ((0 : Int32), r6.2) := by
          show F0_takeRow_l28_b 40 _ M (46 + s) (nI z) _ (nI i) = _
          unfold F0_takeRow_l28_b
          rw [if_neg (nI_ge (by omega) (by omega)), if_pos (inb_of (by omega) (by decide)), nI_clamp (by omega), rA, nI_1]
        have eB : F9_lays_l13 (fu + 1) N (nI s) (nI z) (nI (stR (lst f i))) (nI i) = Option.bind (F9_isThing N (A (46 + s) i)) fun r4 => if r4.1 = 0 then some ((0 : Int32), r4.2) else if ¬ ((nI (stR (lst f i)) >>> ((A (46 + s) i) &&& 31)) &&& (1 : Int32)) = (1 : Int32) then F9_lays_l13 fu (up2 r4.2 13 i (A (46 + s) i)) (nI s) (nI z) (nI (stR (lst f i)) ||| ((1 : Int32) <<< (A (46 + s) i &&& 31))) (nI (i + 1)) else some ((0 : Int32), r4.2) := by
          show F9_lays_l13_b _ N (nI s) (nI z) _ (nI i) = _
          unfold F9_lays_l13_b
          rw [if_neg (nI_ge (by omega) (by omega)), ex, if_pos (inb_of (by omega) (by decide)), nI_clamp (by omega), rB]
          simp only [inb_of (show i < 6 by omega) (show 6 < 2 ^ 31 by decide), if_true, nI_clamp (show i < 2 ^ 31 by omega), nI_1]
        have hno : ∃ b A' B', some ((0 : Int32), M) = some (b, A') ∧ some ((0 : Int32), N) = some (b, B') ∧ FA [34, 38] A A' ∧ (∀ k, k ≠ 8 → A' 34 k = A 34 k) ∧ FB [13] [38] B B' ∧ (b = 0 ∨ (b = 1 ∧ ∃ f, QA f z A' ∧ QB f z B' ∧ (∀ i, i < z → f i < t) ∧ (lst f z).Nodup ∧ ∀ i, i < z → A (46 + s) i = nI (f i))) := ⟨0, M, N, rfl, rfl, hM, hM8, ⟨hN.1, fun k hk => hN.2 k (by simp)⟩, .inl rfl⟩
        rw [eA, eB]
        rcases cs (A (46 + s) i) t (by omega) with q | ⟨x, hx, hxe⟩
        · rw [thgA_n tA ht q, thgB_n tB ht q]
          exact hno
        · rw [hxe, thgA_y tA ht hx, thgB_y tB ht hx, Option.bind_some, Option.bind_some, if_neg n10, if_neg n10]
          dsimp only
          rw [bt_sh _ m6 x (by omega)]
          cases hb : (stR (lst f i)).testBit x with
          | true =>
            rw [if_neg (fun q => by rw [bt_and _ m6 x (by omega), hb] at q; cases q), if_neg (by simp)]
            exact hno
          | false =>
            rw [if_pos ((bt_and _ m6 x (by omega)).mpr hb), if_pos (by simp), bt_or _ m6 x (by omega)]
            have eg : F0_goTo M (nI x) = some (0, up2 (up2 M 38 i (nI x)) 34 8 (nI (i + 1))) := by
              unfold F0_goTo
              rw [h8, if_pos (show nI i < 6 from nI_lt (b := 6) (by omega) (by decide)), if_pos (inb_of (by omega) (by decide)), nI_clamp (by omega), nI_1]
            have el : lst (fun j => if j = i then x else f j) i = lst f i := lst_cong (fun j hj => if_neg (by omega))
            have el2 : lst (fun j => if j = i then x else f j) (i + 1) = x :: lst f i := by
              show (if i = i then x else f i) :: lst _ i = _
              rw [el, if_pos rfl]
            rw [eg, Option.bind_some]
            have h1 := ih fu (i + 1) (fun j => if j = i then x else f j) (up2 (up2 M 38 i (nI x)) 34 8 (nI (i + 1))) (up2 N 13 i (nI x)) (by omega) (by omega) ((hM.up (by decide)).up (by decide)) (fun k hk => by rw [up2_nk hk, up2_ne (by decide)]; exact hM8 k hk) (hN.up (by decide) (by decide)) up2_at (fun j hj => by
              rw [up2_ne (show (38 : Nat) ≠ 34 by decide)]
              by_cases e : j = i
              · subst e
                rw [up2_at, up2_at]
                simp only [if_true]
                exact ⟨trivial, trivial, hx, hxe⟩
              · rw [up2_nk e, up2_nk e]
                simp only [if_neg e]
                exact hpre j (by omega)) (by
              rw [el2]
              exact List.nodup_cons.mpr ⟨fun hm => Bool.false_ne_true (hb.symm.trans ((stR_bit _).mpr hm)), hnd⟩)
            rw [el2] at h1
            exact h1
    exact key z FUEL 0 (fun _ => 0) (up2 A 34 8 0) B (by omega) (by unfold FUEL; omega) u34 (fun k hk => up2_nk hk) FB.rf up2_at (fun j hj => absurd hj (by omega)) List.nodup_nil
  · have g6 : ¬ nI z ≤ (6 : Int32) := nI_ge (a := 6) (by omega) (by omega)
    rw [fin, finB, if_neg g6, if_neg g6]
    exact ⟨0, up2 A 34 8 0, B, rfl, rfl, u34, fun k hk => up2_nk hk, FB.rf, .inl rfl⟩
