theorem likely_R {tv : Tv} {n o t : Nat} {A B : Mem} (hT : TellA tv A) (hU : TellB tv B) (hO : TvOk tv) (h : RL n o A B) (g : RG t A B) (hS : RS A B) (a1 : Int32) : ∃ v A' B', F8_likely A a1 = some (v, A') ∧ F9_likely B a1 = some (v, B') ∧ SA A A' ∧ SM B B' := by
  rcases rd g hS a1 with ⟨A', r1, sA, c⟩ | ⟨s, z, f, A', B', hs, rfl, u3, u6, r1, r2, sA, sB, qA, qB, hf, hn⟩
  · have hA : F8_likely A a1 = some (-4611686018427387904, A') := by unfold F8_likely; rw [r1]; rfl
    rcases c with c | ⟨s, hs, rfl, c⟩
    · refine ⟨_, A', B, hA, ?_, sA, SM.rf⟩
      unfold F9_likely
      rw [c]
      rfl
    · rcases c with c | ⟨z, B', u3, u6, r2, sB⟩
      · refine ⟨_, A', B, hA, ?_, sA, SM.rf⟩
        unfold F9_likely
        rw [shB_y hs, Option.bind_some, if_neg n10, if_pos (inb_of hs (by decide)), nI_clamp (by omega)]
        exact if_pos c
      · refine ⟨_, A', B', hA, ?_, sA, sB⟩
        unfold F9_likely
        rw [shB_y hs, Option.bind_some, if_neg n10, if_pos (inb_of hs (by decide)), nI_clamp (by omega)]
        dsimp only
        rw [if_neg (by rw [u3]; decide), u6, r2]
        rfl
  · obtain ⟨X, A2, B2, hX, hxt, p1, p2, pA, pB, s2A, s2B, kA, kB, -⟩ := pg (t := t) (hT.ka sA.ka) (hU.kb sB.kb) hO (h.s sA sB) (g.s sA sB)
    have qA2 := kA f z qA
    have qB2 := kB f z qB
    have g2 := (g.s sA sB).s s2A s2B
    rw [← hxt] at hf
    have h6 := hX.1
    have hb := bkX_le hX (lst_lt hf (Nat.le_refl z)) (by rw [lst_len]; exact qA.2.1)
    have key : ∀ (k fu i : Nat) (acc : Int64), i + k = z → k < fu → ∃ v, F8_likely_l24 fu A2 acc (nI i) = some (v, A2) ∧ F9_likely_l43 fu B2 acc (nI i) = some (v, up2 B2 0 36 (nI (lkX X (bkX X (lst f z))))) := by
      intro k
      induction k with
      | zero =>
        intro fu i acc hi hfu
        obtain ⟨fu, rfl⟩ : ∃ f, fu = f + 1 := ⟨fu - 1, by omega⟩
        obtain rfl : i = z := by omega
        have hi6 := qA.2.1
        refine ⟨acc - ((100 : Int64) * (Int32.toInt64 (nI (woR (xw X) (lst f i)) - gnX X (woR (xw X) (lst f i)) (bkX X (lst f i))))), ?_, ?_⟩
        · show F8_likely_l24_b _ A2 acc (nI i) = _
          unfold F8_likely_l24_b
          rw [qA2.1, if_pos (nI_le (by omega) (by omega)), worth_A hX pA qA2 hf hn, Option.bind_some]
          dsimp only
          rw [gain_A hX pA qA2 hf hn]
          rfl
        · show F9_likely_l43_b _ B2 acc (nI i) = _
          unfold F9_likely_l43_b
          rw [qB2.1, if_pos (nI_le (by omega) (by omega)), worth_B hX pB qB2 hf, Option.bind_some]
          dsimp only
          rw [back_B hX pB qB2 hf, Option.bind_some]
          dsimp only
          rw [worth_B hX pB qB2 hf, Option.bind_some]
          dsimp only
          rw [gain_B hX pB (by omega)]
          rfl
      | succ k ih =>
        intro fu i acc hi hfu
        obtain ⟨fu, rfl⟩ : ∃ f, fu = f + 1 := ⟨fu - 1, by omega⟩
        have hi6 := qA.2.1
        have hfi := hf i (by omega)
        obtain ⟨a1, a2, a3, b1, b2, b3⟩ := g2.2.2.2 (f i) (by omega)
        obtain ⟨w, hw, hw2, -⟩ := nat_of b2.1
        obtain ⟨c, hc, hc2, -⟩ := nat_of b3.1
        have hwc : w * c ≤ 99 * 100 := Nat.mul_le_mul (by omega) (by omega)
        obtain ⟨v, e1, e2⟩ := ih fu (i + 1) (acc + lN (w * c)) (by omega) (by omega)
        refine ⟨v, ?_, ?_⟩
        · show F8_likely_l24_b _ A2 acc (nI i) = _
          unfold F8_likely_l24_b
          rw [qA2.1, if_neg (nI_ge (by omega) (by omega)), if_pos (inb_of (by omega) (by decide)), nI_clamp (by omega), qA2.2.2 i (by omega), if_pos (inb_of (by omega) (by decide)), nI_clamp (by omega), hw, hc, pk_mul, nI_l (by omega), nI_1]
          exact e1
        · show F9_likely_l43_b _ B2 acc (nI i) = _
          unfold F9_likely_l43_b
          rw [qB2.1, if_neg (nI_ge (by omega) (by omega)), if_pos (inb_of (by omega) (by decide)), nI_clamp (by omega), qB2.2.2 i (by omega), if_pos (inb_of (by omega) (by decide)), nI_clamp (by omega), ← a2, ← a3, hw, hc, nI_l (by omega), nI_l (by omega), lN_mul, nI_1]
          exact e2
    obtain ⟨v, e1, e2⟩ := key z FUEL 0 0 (by omega) (by have := qA.2.1; unfold FUEL; omega)
    refine ⟨v, A2, up2 B2 0 36 (nI (lkX X (bkX X (lst f z)))), ?_, ?_, sA.tr s2A, (sB.tr s2B).tr (SM.up36 _)⟩
    · unfold F8_likely
      rw [r1, Option.bind_some, if_pos n10]
      dsimp only
      rw [p1, Option.bind_some]
      exact e1
    · unfold F9_likely
      rw [shB_y hs, Option.bind_some, if_neg n10, if_pos (inb_of hs (by decide)), nI_clamp (by omega)]
      dsimp only
      rw [if_neg (by rw [u3]; decide), u6, r2, Option.bind_some, if_pos n10]
      dsimp only
      rw [p2, Option.bind_some]
      exact e2
/-- the nearest of those that she hasn't been to -/
def nsF (X : EX) (a m : Nat) : Nat → Option Nat
  | 0 => none
  | i + 1 => if m.testBit i then nsF X a m i else match nsF X a m i with
    | none => some i
    | some q => if stN a (xs X q) ≤ stN a (xs X i) then some q else some i
def oI : Option Nat → Int32
  | none => -1
  | some x => nI x
theorem nsF_lt {X : EX} {a m : Nat} : ∀ {i x : Nat}, nsF X a m i = some x → x < i ∧ m.testBit x = false
  | 0, x, h => by cases h
  | i + 1, x, h => by
    unfold nsF at h
    cases hb : m.testBit i with
    | true =>
      rw [hb, if_pos rfl] at h
      have := nsF_lt h
      exact ⟨by omega, this.2⟩
    | false =>
      rw [hb, if_neg Bool.false_ne_true] at h
      cases hn : nsF X a m i with
      | none => rw [hn] at h; cases h; exact ⟨by omega, hb⟩
      | some q =>
        rw [hn] at h
        dsimp only at h
        by_cases hc : stN a (xs X q) ≤ stN a (xs X i)
        · rw [if_pos hc] at h
          cases h
          have := nsF_lt hn
          exact ⟨by omega, this.2⟩
        · rw [if_neg hc] at h
          cases h
          exact ⟨by omega, hb⟩
theorem nodup_len : ∀ {t : Nat} {r : List Nat}, r.Nodup → (∀ x ∈ r, x < t) → r.length ≤ t
  | 0, r, _, h => by
    cases r with
    | nil => exact Nat.le_refl _
    | cons x r => exact absurd (h x List.mem_cons_self) (by omega)
  | t + 1, r, hn, h => by
    by_cases ht : t ∈ r
    · have h1 := nodup_len (t := t) (r := r.erase t) (hn.erase t) (fun x hx => by
        have h2 := (List.Nodup.mem_erase_iff hn).mp hx
        have h3 := h x h2.2
        have h4 := h2.1
        omega)
      rw [List.length_erase_of_mem ht] at h1
      omega
    · have h1 := nodup_len (t := t) hn (fun x hx => by
        have h3 := h x hx
        have : x ≠ t := fun e => ht (e ▸ hx)
        omega)
      omega
section
variable {X : EX} {A B : Mem} {n o : Nat}
theorem near_A (hX : OKX X) (hP : PA X A) {u : Int32} {a m : Nat} (hu : F6_shelfOf A u = some (nI a, A)) (ha : a ≤ 99) (hm : m < 64) : F0_nearestOf A u (nI m) = some (oI (nsF X a m (xt X)), A) := by
  have h6 := hX.1
  have key : ∀ (k fu i : Nat), i + k = xt X → k < fu → F0_nearestOf_l5 fu A u (nI m) (oI (nsF X a m i)) (nI i) = some (oI (nsF X a m (xt X)), A) := by
    intro k
    induction k with
    | zero =>
      intro fu i hi hf
      obtain ⟨fu, rfl⟩ : ∃ f, fu = f + 1 := ⟨fu - 1, by omega⟩
      show F0_nearestOf_l5_b _ A u (nI m) _ (nI i) = _
      unfold F0_nearestOf_l5_b
      rw [hP.1, if_pos (nI_le (by omega) (by omega)), show i = xt X by omega]
    | succ k ih =>
      intro fu i hi hf
      obtain ⟨fu, rfl⟩ : ∃ f, fu = f + 1 := ⟨fu - 1, by omega⟩
      have e := ih fu (i + 1) (by omega) (by omega)
      have es : nsF X a m (i + 1) = if m.testBit i then nsF X a m i else match nsF X a m i with
        | none => some i
        | some q => if stN a (xs X q) ≤ stN a (xs X i) then some q else some i := rfl
      rw [es] at e
      show F0_nearestOf_l5_b _ A u (nI m) _ (nI i) = _
      unfold F0_nearestOf_l5_b F0_nearestOf_j31 F0_nearestOf_j65 F0_nearestOf_j68
      rw [hP.1, if_neg (nI_ge (by omega) (by omega)), nI_1]
      cases hb : m.testBit i with
      | true =>
        rw [hb, if_pos rfl] at e
        rw [if_pos (fun q => by rw [bt_and m hm i (by omega), hb] at q; cases q), if_pos rfl]
        exact e
      | false =>
        rw [hb, if_neg Bool.false_ne_true] at e
        rw [if_neg (fun q => q ((bt_and m hm i (by omega)).mpr hb)), if_neg n10]
        cases hn : nsF X a m i with
        | none =>
          rw [hn] at e
          rw [if_pos (show oI none = -1 from rfl)]
          exact e
        | some q =>
          rw [hn] at e
          have hq := nsF_lt hn
          have si := (hX.2.1 i (by omega)).1
          have sq := (hX.2.1 q (by omega)).1
          have li := stN_le ha si
          have lq := stN_le ha sq
          rw [if_neg (show ¬ oI (some q) = -1 from nI_m1 (by omega)), steps_A hu (shelf_A hX hP (show i < xt X by omega)) ha si, Option.bind_some]
          dsimp only
          rw [show oI (some q) = nI q from rfl, steps_A hu (shelf_A hX hP (show q < xt X by omega)) ha sq, Option.bind_some]
          dsimp only at e ⊢
          by_cases hc : stN a (xs X q) ≤ stN a (xs X i)
          · rw [if_pos hc] at e
            rw [if_pos (nI_le hc (by omega))]
            exact e
          · rw [if_neg hc] at e
            rw [if_neg (nI_ge (by omega) (by omega))]
            exact e
  exact key (xt X) FUEL 0 (by omega) (by unfold FUEL; omega)
theorem near_B (hX : OKX X) (hP : PB X n o B) {a m : Nat} (ha : a ≤ 99) (hm : m < 64) (rec32 : Mem → Int32 → Int32 → Int32 → Int32 → Option (Int32 × Mem)) (x1 : Int32) : F9_nearest_l43 rec32 FUEL B x1 (nI a) (nI m) (-1) 0 = F9_nearest_j113 rec32 B x1 (nI a) (nI m) (oI (nsF X a m (xt X))) (if nsF X a m (xt X) = none then 0 else 1) := by
  have h6 := hX.1
  have key : ∀ (k fu i : Nat), i + k = xt X → k < fu → F9_nearest_l43 rec32 fu B x1 (nI a) (nI m) (oI (nsF X a m i)) (nI i) = F9_nearest_j113 rec32 B x1 (nI a) (nI m) (oI (nsF X a m (xt X))) (if nsF X a m (xt X) = none then 0 else 1) := by
    intro k
    induction k with
    | zero =>
      intro fu i hi hf
      obtain ⟨fu, rfl⟩ : ∃ f, fu = f + 1 := ⟨fu - 1, by omega⟩
      obtain rfl : i = xt X := by omega
      show F9_nearest_l43_b rec32 _ B x1 (nI a) (nI m) _ (nI (xt X)) = _
      unfold F9_nearest_l43_b
      rw [hP.1, if_pos (nI_le (by omega) (by omega))]
      cases hn : nsF X a m (xt X) with
      | none => rw [if_pos (show oI none = -1 from rfl), if_pos rfl]
      | some q =>
        have hq := nsF_lt hn
        rw [if_neg (show ¬ oI (some q) = -1 from nI_m1 (by omega)), if_neg (by simp)]
    | succ k ih =>
      intro fu i hi hf
      obtain ⟨fu, rfl⟩ : ∃ f, fu = f + 1 := ⟨fu - 1, by omega⟩
      have e := ih fu (i + 1) (by omega) (by omega)
      have es : nsF X a m (i + 1) = if m.testBit i then nsF X a m i else match nsF X a m i with
        | none => some i
        | some q => if stN a (xs X q) ≤ stN a (xs X i) then some q else some i := rfl
      rw [es] at e
      show F9_nearest_l43_b rec32 _ B x1 (nI a) (nI m) _ (nI i) = _
      unfold F9_nearest_l43_b F9_nearest_j92 F9_nearest_j96
      rw [hP.1, if_neg (nI_ge (by omega) (by omega)), nI_1, bt_sh m hm i (by omega)]
      cases hb : m.testBit i with
      | true =>
        rw [hb, if_pos rfl] at e
        rw [if_pos (by simp)]
        exact e
      | false =>
        rw [hb, if_neg Bool.false_ne_true] at e
        rw [if_neg (by simp)]
        cases hn : nsF X a m i with
        | none =>
          rw [hn] at e
          rw [if_pos (show oI none = -1 from rfl)]
          exact e
        | some q =>
          rw [hn] at e
          have hq := nsF_lt hn
          have si := (hX.2.1 i (by omega)).1
          have sq := (hX.2.1 q (by omega)).1
          have li := stN_le ha si
          have lq := stN_le ha sq
          rw [if_neg (show ¬ oI (some q) = -1 from nI_m1 (by omega)), if_pos (inb_of (by omega) (by decide)), nI_clamp (by omega), (hP.2.1 i (by omega)).1, steps_B ha si, Option.bind_some]
          dsimp only
          rw [show oI (some q) = nI q from rfl, if_pos (inb_of (by omega) (by decide)), nI_clamp (by omega), (hP.2.1 q (by omega)).1, steps_B ha sq, Option.bind_some]
          dsimp only at e ⊢
          by_cases hc : stN a (xs X q) ≤ stN a (xs X i)
          · rw [if_pos hc] at e
            rw [if_pos (nI_le hc (by omega))]
            exact e
          · rw [if_neg hc] at e
            rw [if_neg (nI_ge (by omega) (by omega))]
            exact e
  exact key (xt X) FUEL 0 (by omega) (by unfold FUEL; omega)
end
