section
variable {bs : Nat → Int32} {z t m : Nat}
theorem open_A {i L o : Nat} {A : Mem} (h : CS bs z m A i L) (ho : o < 5) (h1 : ¬ kd bs z (plc bs z i) = -1) (h2 : ¬ kd bs z (plc bs z i) = -2) : ∃ A', F3_mayOpen A (nI o) = some (1, A') ∧ CS bs z m A' (i + 1) L ∧ CFr A A' ∧ A' 14 = A 14 := by
  obtain ⟨A', e, r⟩ := adv h h1 h2
  refine ⟨A', ?_, r⟩
  unfold F3_mayOpen
  rw [if_pos (show nI o < 5 from nI_lt (b := 5) ho (by decide)), e]
  rfl
theorem shut_A (hz : z ≤ 160) {i L : Nat} {A : Mem} (h : CS bs z m A i L) : ∃ A', F3_mayOpen A (nI 5) = some (0, A') ∧ CF A' (plc bs z i) ∧ CFr A A' := by
  obtain ⟨A', e, r1, r2, r3⟩ := h.fail hz
  refine ⟨A', ?_, r1, r2⟩
  unfold F3_mayOpen
  rw [if_neg (show ¬ nI 5 < 5 by decide), e]
  rfl
theorem shut_B {i : Nat} {B : Mem} (h : MS bs z t B i 5) : F9_opens B = some (0, failB B) ∧ MF (failB B) (plc bs z i) ∧ MFr B (failB B) := by
  obtain ⟨e, r⟩ := h.fail
  refine ⟨?_, r⟩
  unfold F9_opens
  rw [h.2, if_neg (show ¬ ¬ nI 5 = 5 from fun q => q rfl), e]
  rfl
theorem stp_8 {nm : Int32 → Int32} (v : Int32) (st : List Int32) : stp nm (-8) (v :: st) = some ((if ¬ v = 0 then 0 else 1) :: st) := by
  unfold stp
  rw [if_pos (show (-8 : Int32) < -6 by decide), if_neg (show ¬ (-8 : Int32) = -7 by decide), if_pos rfl]
theorem stp_7 {nm : Int32 → Int32} (v : Int32) (st : List Int32) : stp nm (-7) (v :: st) = some (-v :: st) := by
  unfold stp
  rw [if_pos (show (-7 : Int32) < -6 by decide), if_pos rfl]
/-- a step for one behind what was read deeper -/
theorem deep {fu i L o o2 k : Nat} {A B A1 B1 A2 B2 : Mem} {x y code : Int32} (hs : ∀ st, stp (nmB B) code (x :: st) = some (y :: st)) (a3 : CFr A A1) (a4 : A1 14 = A 14) (b3 : MFr B B1) (hL : L ≤ i) (r : RES bs z t m A1 B1 (i + 1) o2 L x A2 B2) : ∃ A3, F3_emit A2 code = some (0, A3) ∧ RES bs z t m A B i o L y A3 (up2 B2 0 29 (nI o)) := by
  obtain ⟨s3, s4, s5⟩ := r
  have f29 : MFr B2 (up2 B2 0 29 (nI o)) := MFr.up (by decide)
  rcases s5 with ⟨i2, L2, q1, q2, q3, q4, q5, q6, q7⟩ | ⟨f, q1, q2⟩
  · obtain ⟨A3, e1, e2, e3, e4, e5⟩ := q2.emit (show L2 + 1 ≤ i2 by omega) code
    rw [b3.nm] at q7
    refine ⟨A3, e1, (a3.tr s3).tr e3, (b3.tr s4).tr f29, .inl ⟨i2, L2 + 1, by omega, e2, q3.up29 o, by omega, by omega, fun j hj => by rw [e5 j (by omega), q6 j hj, a4], ?_⟩⟩
    exact exe_one (by omega) (fun st => by rw [exe_cong (f := A3 14) (g := A2 14) _ _ _ (fun j a b => e5 j (by omega))]; exact q7 st) e4 hs
  · obtain ⟨A3, e1, e2, e3, -⟩ := q1.emit code
    exact ⟨A3, e1, (a3.tr s3).tr e3, (b3.tr s4).tr f29, .inr ⟨f, e2, q2.up29 _⟩⟩
theorem RES.o29 {A B : Mem} {i o L : Nat} {v : Int32} {A' B' : Mem} (r : RES bs z t m A B i o L v A' B') : (∃ f, CF A' f ∧ MF B' f) ∨ B' 0 29 = nI o := by
  rcases r.2.2 with ⟨i2, L2, q1, q2, q3, -⟩ | q
  · exact .inr q3.2
  · exact .inl q
theorem not_sim (hz : z ≤ 160) {fu o : Nat} (ho : o ≤ 5) (h3 : SIM bs z t m fu 3 o) (h2 : o < 5 → SIM bs z t m fu 2 (o + 1)) : SIM bs z t m (fu + 1) 2 o := by
  intro i L A B hc hm
  have h7 := hc.2.2.2.1
  have w : F9_isWord B 110 111 116 0 0 0 0 0 = _ := key_B hm.1 (show 11 < 12 by decide) (by decide)
  rw [show -5 - nI 11 = (-16 : Int32) by decide] at w
  show ∃ A' B' v, F3_readNot (S1 fu) A (nI o) = _ ∧ F9_not (S3 fu) B = _ ∧ _
  unfold F3_readNot F9_not
  rw [h7, w, Option.bind_some]
  dsimp only
  by_cases hk : kd bs z (plc bs z i) = -16
  · rw [if_neg (show ¬ ¬ kd bs z (plc bs z i) = -16 from fun q => q hk), if_pos hk, if_neg n10]
    have k1 : ¬ kd bs z (plc bs z i) = -1 := by rw [hk]; decide
    have k2 : ¬ kd bs z (plc bs z i) = -2 := by rw [hk]; decide
    by_cases ho5 : o < 5
    · obtain ⟨A1, a1, a2, a3, a4⟩ := open_A hc ho5 k1 k2
      obtain ⟨B1, b1, b2, b3⟩ := opn hm ho5 k1 k2
      obtain ⟨A2, B2, y, s1, s2, s3⟩ := h2 ho5 (i + 1) L A1 B1 a2 b2
      obtain ⟨A3, e1, e2⟩ := deep (o := o) (k := 0) (fu := 0) (stp_8 y) a3 a4 b3 hc.2.2.2.2.2.2 s3
      rw [a1, b1, Option.bind_some, Option.bind_some, if_neg n10, if_pos n10]
      dsimp only
      rw [nI_1, s1, s2, Option.bind_some, Option.bind_some]
      dsimp only
      rw [e1]
      have fin : ∀ v : Int32, RES bs z t m A B i o L v A3 (up2 B2 0 29 (nI o)) → ∃ A' B' v', (Option.bind (some ((0 : Int32), A3)) fun r11 => some ((0 : Int32), r11.2)) = some (0, A') ∧ some (v, up2 B2 0 29 (B2 0 29 - 1)) = some (v', B') ∧ RES bs z t m A B i o L v' A' B' := by
        intro v hv
        rcases s3.o29 with ⟨f, q1, q2⟩ | q
        · refine ⟨A3, up2 B2 0 29 (B2 0 29 - 1), v, rfl, rfl, hv.1, (b3.tr s3.2.1).tr (MFr.up (by decide)), .inr ?_⟩
          rcases hv.2.2 with ⟨i2, L2, -, -, w3, -⟩ | ⟨f2, w1, w2⟩
          · have := w3.1.2.2.1
            rw [up2_nk (by decide), q2.1] at this
            exact absurd this (by decide)
          · have e3 : MF B2 f2 := ⟨by have := w2.1; rw [up2_nk (by decide)] at this; exact this, by have := w2.2; rw [up2_nk (by decide)] at this; exact this⟩
            exact ⟨f2, w1, e3.up29 _⟩
        · rw [q, show nI (o + 1) - 1 = nI o from nI_pred o]
          exact ⟨A3, _, v, rfl, rfl, hv⟩
      by_cases hy : y = 0
      · rw [if_neg (show ¬ ¬ y = 0 from fun q => q hy)] at e2 ⊢
        exact fin 1 e2
      · rw [if_pos hy] at e2 ⊢
        exact fin 0 e2
    · obtain rfl : o = 5 := by omega
      obtain ⟨A1, a1, a2, a3⟩ := shut_A hz hc
      obtain ⟨b1, b2, b3⟩ := shut_B hm
      rw [a1, b1, Option.bind_some, Option.bind_some, if_pos rfl, if_neg (show ¬ ¬ (0 : Int32) = 0 from fun q => q rfl)]
      exact ⟨A1, failB B, 0, rfl, rfl, a3, b3, .inr ⟨_, a2, b2⟩⟩
  · rw [if_pos hk, if_neg hk, if_pos rfl]
    obtain ⟨A1, B1, x, s1, s2, s3, s4, s5⟩ := h3 i L A B hc hm
    rw [s1, s2, Option.bind_some, Option.bind_some]
    dsimp only
    rcases s5 with ⟨i1, L1, q1, q2, q3, q4, q5, q6, q7⟩ | ⟨f, q1, q2⟩
    · have k7 := q2.2.2.2.1
      rw [sign_B q3.1 (show isG 60 = true by decide), Option.bind_some]
      dsimp only
      rw [sign_B q3.1 (show isG 61 = true by decide), Option.bind_some]
      dsimp only
      unfold F3_readNot_j54 F3_readNot_j70 F9_not_j77 F9_not_j93
      simp only [k7]
      have both : ∀ (κ code : Int32) (g : Int32 → Int32), kd bs z (plc bs z i1) = κ → ¬ κ = -1 → ¬ κ = -2 → code < -6 → ¬ code = -7 → ¬ code = -8 → (∀ y, g y = two code x y) → ∃ A' B' v, (Option.bind (F3_advance A1) fun r14 => Option.bind (S1 fu 3 (nI o) r14.2) fun r16 => Option.bind (F3_emit r16.2 code) fun r18 => some ((0 : Int32), r18.2)) = some (0, A') ∧ (Option.bind (F9_next B1) fun r19 => Option.bind (S3 fu 3 r19.2) fun r21 => some (g r21.1, r21.2)) = some (v, B') ∧ RES bs z t m A B i o L v A' B' := by
        intro κ code g hκ k1 k2 c6 c7 c8 hg
        rw [← hκ] at k1 k2
        obtain ⟨A2, a1, a2, a3, a4⟩ := adv q2 k1 k2
        obtain ⟨B2, b1, b2, b3⟩ := nxt q3 k1 k2
        obtain ⟨A3, B3, y, u1, u2, u3, u4, u5⟩ := h3 (i1 + 1) L1 A2 B2 a2 b2
        rw [a1, b1, Option.bind_some, Option.bind_some]
        dsimp only
        rw [u1, u2, Option.bind_some, Option.bind_some]
        dsimp only
        rw [hg]
        rcases u5 with ⟨i3, L3, p1, p2, p3, p4, p5, p6, p7⟩ | ⟨f, p1, p2⟩
        · have hL := hc.2.2.2.2.2.2
          obtain ⟨A4, e1, e2, e3, e4, e5⟩ := p2.emit (show L3 + 1 ≤ i3 by omega) code
          rw [b3.nm, s4.nm] at p7
          have he2 := bin (nm := nmB B) (A1 := A1) (A3 := A3) (A4 := A4) (code := code) (Nat.le_of_lt q4) (show L1 ≤ L3 by omega) q7 (fun j hj => by rw [p6 j hj, a4]) p7 e5 e4 c6 c7 c8
          rw [e1]
          exact ⟨A4, B3, _, rfl, rfl, ((s3.tr a3).tr u3).tr e3, (s4.tr b3).tr u4, .inl ⟨i3, L3 + 1, by omega, e2, p3, by omega, by omega, fun j hj => by rw [e5 j (by omega), p6 j (by omega), a4, q6 j hj], he2⟩⟩
        · obtain ⟨A4, e1, e2, e3, -⟩ := p1.emit code
          rw [e1]
          exact ⟨A4, B3, _, rfl, rfl, ((s3.tr a3).tr u3).tr e3, (s4.tr b3).tr u4, .inr ⟨f, e2, p2⟩⟩
      by_cases k60 : kd bs z (plc bs z i1) = 60
      · rw [if_pos k60, if_neg (show ¬ ¬ kd bs z (plc bs z i1) = 60 from fun q => q k60), if_pos k60, if_pos n10, gL_sg (c := 60) q3.1 (by decide) k60, if_neg (show ¬ ¬ lg_cmp (Int32.toInt64 60) 60 = 0 from fun q => q lg_60)]
        obtain ⟨A', B', v, w1, w2, w3⟩ := both 60 (-11) (fun y => if y ≤ x then 0 else 1) k60 (by decide) (by decide) (by decide) (by decide) (by decide) (fun y => (two_11 x y).symm)
        refine ⟨A', B', v, w1, ?_, w3⟩
        rw [← w2]
        cases F9_next B1 with
        | none => rfl
        | some r =>
          rw [Option.bind_some, Option.bind_some]
          cases S3 fu 3 r.2 with
          | none => rfl
          | some r8 =>
            rw [Option.bind_some, Option.bind_some, if_neg n10]
            by_cases hy : r8.1 ≤ x
            · rw [if_pos hy, if_pos hy]
            · rw [if_neg hy, if_neg hy]
      · rw [if_neg k60, if_neg k60, if_neg (show ¬ ¬ (0 : Int32) = 0 from fun q => q rfl)]
        by_cases k61 : kd bs z (plc bs z i1) = 61
        · rw [if_neg (show ¬ ¬ kd bs z (plc bs z i1) = 61 from fun q => q k61), if_pos k60, if_pos k61, if_pos n10, gL_sg (c := 61) q3.1 (by decide) k61, if_pos lg_61]
          obtain ⟨A', B', v, w1, w2, w3⟩ := both 61 (-12) (fun y => if ¬ x = y then 0 else 1) k61 (by decide) (by decide) (by decide) (by decide) (by decide) (fun y => (two_12 x y).symm)
          refine ⟨A', B', v, w1, ?_, w3⟩
          rw [← w2]
          cases F9_next B1 with
          | none => rfl
          | some r =>
            rw [Option.bind_some, Option.bind_some]
            cases S3 fu 3 r.2 with
            | none => rfl
            | some r8 =>
              rw [Option.bind_some, Option.bind_some, if_pos trivial]
              by_cases hy : x = r8.1
              · rw [if_neg (show ¬ ¬ x = r8.1 from fun q => q hy), if_neg (show ¬ ¬ x = r8.1 from fun q => q hy)]
              · rw [if_pos hy, if_pos hy]
        · rw [if_pos k61, if_neg k61, if_neg (show ¬ ¬ (0 : Int32) = 0 from fun q => q rfl)]
          exact ⟨A1, B1, x, rfl, rfl, s3, s4, .inl ⟨i1, L1, q1, q2, q3, q4, q5, q6, q7⟩⟩
    · rw [if_neg (show ¬ A1 9 7 = 60 by rw [q1.1]; decide), if_pos (show ¬ A1 9 7 = 61 by rw [q1.1]; decide), sign_bad q2.bad, Option.bind_some, if_neg (show ¬ ¬ (0 : Int32) = 0 from fun q => q rfl)]
      dsimp only
      rw [sign_bad q2.bad, Option.bind_some, if_neg (show ¬ ¬ (0 : Int32) = 0 from fun q => q rfl)]
      exact ⟨A1, B1, x, rfl, rfl, s3, s4, .inr ⟨f, q1, q2⟩⟩
end
