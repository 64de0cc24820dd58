section
variable {bs : Nat → Int32} {z t m : Nat}
theorem dv_bd {s : Nat} : ∀ (k i acc : Nat), s ≤ i → acc < 10 ^ (min (i - s) 4) → (∀ x, i ≤ x → x < i + k → isD (bs x) = true) → dv bs s k i acc < 10000
  | 0, i, acc, h1, h2, h3 => by
    have : 10 ^ (min (i - s) 4) ≤ 10 ^ 4 := Nat.pow_le_pow_right (by decide) (Nat.min_le_right _ _)
    unfold dv
    omega
  | k + 1, i, acc, h1, h2, h3 => by
    unfold dv
    have hd : 48 ≤ (bs i).toInt ∧ (bs i).toInt ≤ 57 := of_decide_eq_true (h3 i (Nat.le_refl _) (by omega))
    refine dv_bd k (i + 1) _ (by omega) ?_ (fun x a b => h3 x (by omega) (by omega))
    by_cases c : i < s + 4
    · rw [if_pos c, show min (i + 1 - s) 4 = (i - s) + 1 by omega, Nat.pow_succ]
      rw [show min (i - s) 4 = i - s by omega] at h2
      omega
    · rw [if_neg c, show min (i + 1 - s) 4 = 4 by omega]
      rw [show min (i - s) 4 = 4 by omega] at h2
      exact h2
theorem num_tok {s : Nat} {B : Mem} (h : OKB bs z t B s) (hk : kd bs z s = -3) : B 0 26 = 2 ∧ Int64.toInt32 (gL B 0 28) = vl bs z s ∧ ∃ v, v < 10000 ∧ vl bs z s = nI v := by
  obtain ⟨h0, ⟨h27, htb⟩, h30, hsz⟩ := h
  rcases kd_cases bs z s with ⟨c1, c2⟩ | ⟨c1, c2, c3⟩ | ⟨c1, c2, c3, c4⟩ | ⟨c1, c2, c3, c4, c5⟩ | ⟨c1, c2, c3, c4, c5⟩
  · rw [c2] at hk; exact absurd hk (by decide)
  · rw [c3] at hk
    rcases wi_val (bs := bs) (s := s) (e := eL bs z s) with w | ⟨j, hj, w⟩
    · rw [w] at hk; exact absurd hk (by decide)
    · rw [w] at hk; exact absurd hk (wk_ok j hj).2.2.2.2.2.2
  · have hv : vl bs z s = nI (dv bs s (eD bs z s - s) s 0) := by
      unfold vl
      rw [if_pos c1, if_neg (by rw [c2]; exact Bool.false_ne_true), if_pos c3]
    rw [c4] at hk
    by_cases h4 : eD bs z s - s ≤ 4
    · rw [if_pos c1, if_neg (by rw [c2]; exact Bool.false_ne_true), if_pos c3, if_pos h4] at htb
      refine ⟨htb.1, by rw [htb.2.1, hv], _, dv_bd (eD bs z s - s) s 0 (Nat.le_refl _) ?_ (fun x a b => ?_), hv⟩
      · rw [show min (s - s) 4 = 0 by omega]; decide
      · have hle := runE_le (p := isD) (bs := bs) (z - s) s
        exact runE_in (p := isD) (k := z - s) a (by unfold eD at b; omega)
    · rw [if_neg h4] at hk; exact absurd hk (by decide)
  · have hp := sg_pos c4
    rw [← c5, hk] at hp
    exact absurd hp (by decide)
  · rw [c5] at hk; exact absurd hk (by decide)
theorem nam_tok {s : Nat} {B : Mem} (h : OKB bs z t B s) (hk : kd bs z s = -4) : s < z ∧ isL (bs s) = true ∧ B 0 26 = 1 ∧ ∃ j, j < 6 ∧ vl bs z s = -1 - nI j := by
  obtain ⟨h0, ⟨h27, htb⟩, h30, hsz⟩ := h
  rcases kd_cases bs z s with ⟨c1, c2⟩ | ⟨c1, c2, c3⟩ | ⟨c1, c2, c3, c4⟩ | ⟨c1, c2, c3, c4, c5⟩ | ⟨c1, c2, c3, c4, c5⟩
  · rw [c2] at hk; exact absurd hk (by decide)
  · rw [if_pos c1, if_pos c2] at htb
    have hv : vl bs z s = wv (wi bs s (eL bs z s) 12 0) := by
      unfold vl
      rw [if_pos c1, if_pos c2]
    rw [c3] at hk
    rcases wi_val (bs := bs) (s := s) (e := eL bs z s) with w | ⟨j, hj, w⟩
    · rw [w] at hk; exact absurd hk (by decide)
    · rw [w] at hk hv
      obtain ⟨-, k2, -, k4, -⟩ := wk_ok j hj
      have hj6 := k2.mp hk
      exact ⟨c1, c2, htb.1, j, hj6, by rw [hv, (k4 hj6).1]⟩
  · rw [c4] at hk
    by_cases h4 : eD bs z s - s ≤ 4
    · rw [if_pos h4] at hk; exact absurd hk (by decide)
    · rw [if_neg h4] at hk; exact absurd hk (by decide)
  · have hp := sg_pos c4
    rw [← c5, hk] at hp
    exact absurd hp (by decide)
  · rw [c5] at hk; exact absurd hk (by decide)
theorem tok_2 {s : Nat} {B : Mem} (h : OKB bs z t B s) (hk : ¬ kd bs z s = -3) : ¬ B 0 26 = 2 := by
  obtain ⟨h0, ⟨h27, htb⟩, h30, hsz⟩ := h
  rcases kd_cases bs z s with ⟨c1, c2⟩ | ⟨c1, c2, c3⟩ | ⟨c1, c2, c3, c4⟩ | ⟨c1, c2, c3, c4, c5⟩ | ⟨c1, c2, c3, c4, c5⟩
  · rw [if_neg (show ¬ s < z by omega)] at htb; rw [htb]; decide
  · rw [if_pos c1, if_pos c2] at htb; rw [htb.1]; decide
  · rw [c4] at hk
    rw [if_pos c1, if_neg (by rw [c2]; exact Bool.false_ne_true), if_pos c3] at htb
    by_cases h4 : eD bs z s - s ≤ 4
    · rw [if_pos h4] at hk; exact absurd rfl hk
    · rw [if_neg h4] at htb; rw [htb]; decide
  · rw [if_pos c1, if_neg (by rw [c2]; exact Bool.false_ne_true), if_neg (by rw [c3]; exact Bool.false_ne_true), if_pos c4] at htb; rw [htb.1]; decide
  · rw [if_pos c1, if_neg (by rw [c2]; exact Bool.false_ne_true), if_neg (by rw [c3]; exact Bool.false_ne_true), if_neg (by rw [c4]; exact Bool.false_ne_true)] at htb; rw [htb]; decide
theorem tok_1 {s : Nat} {B : Mem} (h : OKB bs z t B s) (hk : B 0 26 = 1) : s < z ∧ isL (bs s) = true := by
  obtain ⟨h0, ⟨h27, htb⟩, h30, hsz⟩ := h
  rcases kd_cases bs z s with ⟨c1, c2⟩ | ⟨c1, c2, c3⟩ | ⟨c1, c2, c3, c4⟩ | ⟨c1, c2, c3, c4, c5⟩ | ⟨c1, c2, c3, c4, c5⟩
  · rw [if_neg (show ¬ s < z by omega)] at htb; rw [htb] at hk; exact absurd hk (by decide)
  · exact ⟨c1, c2⟩
  · rw [if_pos c1, if_neg (by rw [c2]; exact Bool.false_ne_true), if_pos c3] at htb
    by_cases h4 : eD bs z s - s ≤ 4
    · rw [if_pos h4] at htb; rw [htb.1] at hk; exact absurd hk (by decide)
    · rw [if_neg h4] at htb; rw [htb] at hk; exact absurd hk (by decide)
  · rw [if_pos c1, if_neg (by rw [c2]; exact Bool.false_ne_true), if_neg (by rw [c3]; exact Bool.false_ne_true), if_pos c4] at htb; rw [htb.1] at hk; exact absurd hk (by decide)
  · rw [if_pos c1, if_neg (by rw [c2]; exact Bool.false_ne_true), if_neg (by rw [c3]; exact Bool.false_ne_true), if_neg (by rw [c4]; exact Bool.false_ne_true)] at htb; rw [htb] at hk; exact absurd hk (by decide)
theorem emit_adv {i L : Nat} {A : Mem} (h : CS bs z m A i L) (h1 : ¬ kd bs z (plc bs z i) = -1) (h2 : ¬ kd bs z (plc bs z i) = -2) : ∃ A', F3_readOne_j18 (S1 0) A = some (0, A') ∧ CS bs z m A' (i + 1) (L + 1) ∧ CFr A A' ∧ A' 14 L = vl bs z (plc bs z i) ∧ ∀ j, j < L → A' 14 j = A 14 j := by
  have hl := h.last h1 h2
  obtain ⟨hx, hi, c6, c7, c8, c10, hL⟩ := h
  have hm := hx.2.2.2.2.1
  have hv := (hx.2.2.2.2.2.1 i hi).2.2
  have f1 : CFr A (up2 (up2 A 14 L (vl bs z (plc bs z i))) 9 10 (nI (L + 1))) := CFr.up14.tr (CFr.up9 (.inr (.inr (.inr rfl))))
  have u : ∀ k, k ≠ 10 → up2 (up2 A 14 L (vl bs z (plc bs z i))) 9 10 (nI (L + 1)) 9 k = A 9 k := fun k hk => by rw [up2_nk hk, up2_ne (by decide)]
  have u11 : up2 (up2 A 14 L (vl bs z (plc bs z i))) 9 10 (nI (L + 1)) 11 = A 11 := by rw [up2_ne (by decide), up2_ne (by decide)]
  have f2 : CFr (up2 (up2 A 14 L (vl bs z (plc bs z i))) 9 10 (nI (L + 1))) (up2 (up2 (up2 (up2 A 14 L (vl bs z (plc bs z i))) 9 10 (nI (L + 1))) 9 6 (nI (i + 1))) 9 7 (A 11 (i + 1))) := (CFr.up9 (.inl rfl)).tr (CFr.up9 (.inr (.inl rfl)))
  refine ⟨up2 (up2 (up2 (up2 A 14 L (vl bs z (plc bs z i))) 9 10 (nI (L + 1))) 9 6 (nI (i + 1))) 9 7 (A 11 (i + 1)), ?_, ⟨hx.c (f1.tr f2), hl, ?_, ?_, ?_, ?_, by omega⟩, f1.tr f2, ?_, fun j hj => ?_⟩
  · unfold F3_readOne_j18
    rw [if_pos (show inb (A 9 6) 161 = true by rw [c6]; exact inb_of (by omega) (by decide)), c6, nI_clamp (by omega), hv, emit_A c10 (by omega), Option.bind_some]
    dsimp only
    unfold F3_advance
    rw [u 8 (by decide), c8, if_neg (by decide), u 6 (by decide), c6, u 5 (by decide), hx.2.2.1, nI_1, if_pos (nI_lt hl (by omega)), if_pos (inb_of (by omega) (by decide)), nI_clamp (by omega), u11]
    rfl
  · rw [up2_nk (by decide), up2_at]
  · rw [up2_at]; exact (hx.2.2.2.2.2.1 (i + 1) hl).1
  · rw [up2_nk (by decide), up2_nk (by decide), u 8 (by decide)]; exact c8
  · rw [up2_nk (by decide), up2_nk (by decide), up2_at]
  · rw [up2_ne (by decide), up2_ne (by decide), up2_ne (by decide), up2_at]
  · rw [up2_ne (by decide), up2_ne (by decide), up2_ne (by decide), up2_nk (by omega)]
theorem j18_eq (rc rc2 : Nat → Int32 → Mem → Option (Int32 × Mem)) (A : Mem) : F3_readOne_j18 rc A = F3_readOne_j18 rc2 A := rfl
theorem to29 {i o L o2 L1 i1 : Nat} {A B A1 B1 A2 B2 A3 : Mem} {x v : Int32} (hB : MFr B B1) (r : RES bs z t m A1 B1 i1 (o2 + 1) L1 x A2 B2) (ho : o2 = o) (hv : RES bs z t m A B i o L v A3 (up2 B2 0 29 (nI o))) : RES bs z t m A B i o L v A3 (up2 B2 0 29 (B2 0 29 - 1)) := by
  subst ho
  rcases r.o29 with ⟨f, q1, q2⟩ | q
  · refine ⟨hv.1, (hB.tr r.2.1).tr (MFr.up (by decide)), .inr ?_⟩
    rcases hv.2.2 with ⟨i2, L2, -, -, w3, -⟩ | ⟨f2, w1, w2⟩
    · have := w3.1.2.2.1
      rw [up2_nk (by decide), q2.1] at this
      exact absurd this (by decide)
    · have e3 : MF B2 f2 := ⟨by have := w2.1; rw [up2_nk (by decide)] at this; exact this, by have := w2.2; rw [up2_nk (by decide)] at this; exact this⟩
      exact ⟨f2, w1, e3.up29 _⟩
  · rw [q, show nI (o2 + 1) - 1 = nI o2 from nI_pred o2]
    exact hv
theorem stp_v {nm : Int32 → Int32} {c : Int32} (h : ¬ c < -6) (st : List Int32) : stp nm c st = some ((if c < 0 then nm c else c) :: st) := by
  unfold stp
  rw [if_neg h]
theorem one_sim (hz : z ≤ 160) {fu o : Nat} (ho : o ≤ 5) (h5 : o < 5 → SIM bs z t m fu 5 (o + 1)) (h0 : o < 5 → SIM bs z t m fu 0 (o + 1)) : SIM bs z t m (fu + 1) 5 o := by
  intro i L A B hc hm
  have c7 := hc.2.2.2.1
  have hL := hc.2.2.2.2.2.2
  have s45 := sign_B hm.1 (show isG 45 = true by decide)
  have s40 := sign_B hm.1 (show isG 40 = true by decide)
  have h30 := hm.1.2.2.1
  show ∃ A' B' v, F3_readOne (S1 fu) A (nI o) = _ ∧ F9_atom (S3 fu) B = _ ∧ _
  unfold F3_readOne F9_atom
  rw [s45, Option.bind_some]
  dsimp only
  rw [s40, Option.bind_some]
  dsimp only
  -- a value
  have value : ¬ kd bs z (plc bs z i) = -1 → ¬ kd bs z (plc bs z i) = -2 → ¬ vl bs z (plc bs z i) < -6 → ∃ A' B', F3_readOne_j18 (S1 fu) A = some (0, A') ∧ F9_next B = some (0, B') ∧ RES bs z t m A B i o L (if vl bs z (plc bs z i) < 0 then nmB B (vl bs z (plc bs z i)) else vl bs z (plc bs z i)) A' B' := by
    intro k1 k2 h6
    obtain ⟨A', e1, e2, e3, e4, e5⟩ := emit_adv hc k1 k2
    obtain ⟨B', b1, b2, b3⟩ := nxt hm k1 k2
    refine ⟨A', B', e1, b1, e3, b3, .inl ⟨i + 1, L + 1, by omega, e2, b2, by omega, by omega, e5, fun st => ?_⟩⟩
    rw [show L + 1 - L = 1 by omega, exe_1, e4]
    exact stp_v h6 st
  by_cases k3 : kd bs z (plc bs z i) = -3
  · obtain ⟨t1, t2, v, hv, t3⟩ := num_tok hm.1 k3
    obtain ⟨A', B', a1, b1, r⟩ := value (by rw [k3]; decide) (by rw [k3]; decide) (by rw [t3]; have h6 : (-6 : Int32).toInt = -6 := (by decide); rw [ilt, nI_toInt (by omega), h6]; omega)
    rw [if_pos (show A 9 7 = -3 by rw [c7]; exact k3), if_neg (show ¬ kd bs z (plc bs z i) = 45 by rw [k3]; decide), if_pos rfl, if_neg (show ¬ kd bs z (plc bs z i) = 40 by rw [k3]; decide), if_pos rfl, if_neg (show ¬ ¬ B 0 30 = 0 from fun q => q h30), if_neg (show ¬ ¬ B 0 26 = 2 from fun q => q t1), b1, t2]
    rw [if_neg (show ¬ vl bs z (plc bs z i) < 0 by rw [t3]; exact nI_pos (by omega))] at r
    exact ⟨A', B', _, a1, rfl, r⟩
  by_cases k4 : kd bs z (plc bs z i) = -4
  · obtain ⟨t0, t1, t2, j, hj, t3⟩ := nam_tok hm.1 k4
    have hn := name_B hm.1 t0 t1
    rw [if_pos k4] at hn
    have v6 : ∀ j, j < 6 → ¬ (-1 - nI j : Int32) < -6 ∧ (-1 - nI j : Int32) < 0 := by decide +kernel
    obtain ⟨A', B', a1, b1, r⟩ := value (by rw [k4]; decide) (by rw [k4]; decide) (by rw [t3]; exact (v6 j hj).1)
    unfold F9_atom_j123
    rw [if_neg (show ¬ A 9 7 = -3 by rw [c7, k4]; decide), if_neg (show ¬ ¬ A 9 7 = -4 from fun q => q (by rw [c7]; exact k4)), if_neg (show ¬ kd bs z (plc bs z i) = 45 by rw [k4]; decide), if_pos rfl, if_neg (show ¬ kd bs z (plc bs z i) = 40 by rw [k4]; decide), if_pos rfl, if_neg (show ¬ ¬ B 0 30 = 0 from fun q => q h30), if_pos (show ¬ B 0 26 = 2 by rw [t2]; decide), if_neg (show ¬ ¬ B 0 30 = 0 from fun q => q h30), if_neg (show ¬ ¬ B 0 26 = 1 from fun q => q t2), hn, Option.bind_some]
    dsimp only
    rw [if_neg (show ¬ ¬ B 0 30 = 0 from fun q => q h30), b1]
    rw [if_pos (show vl bs z (plc bs z i) < 0 by rw [t3]; exact (v6 j hj).2)] at r
    exact ⟨A', B', _, a1, rfl, r⟩
  by_cases k45 : kd bs z (plc bs z i) = 45
  · have k1 : ¬ kd bs z (plc bs z i) = -1 := by rw [k45]; decide
    have k2 : ¬ kd bs z (plc bs z i) = -2 := by rw [k45]; decide
    rw [if_neg (show ¬ A 9 7 = -3 by rw [c7]; exact k3), if_pos (show ¬ A 9 7 = -4 by rw [c7]; exact k4), if_neg (show ¬ ¬ A 9 7 = 45 from fun q => q (by rw [c7]; exact k45)), if_pos k45, if_neg n10]
    by_cases ho5 : o < 5
    · obtain ⟨A1, a1, a2, a3, a4⟩ := open_A hc ho5 k1 k2
      obtain ⟨B1, b1, b2, b3⟩ := opn hm ho5 k1 k2
      obtain ⟨A2, B2, y, s1, s2, s3⟩ := h5 ho5 (i + 1) L A1 B1 a2 b2
      obtain ⟨A3, e1, e2⟩ := deep (o := o) (k := 0) (fu := 0) (stp_7 y) a3 a4 b3 hL s3
      rw [a1, b1, Option.bind_some, Option.bind_some, if_neg n10, if_neg n10]
      dsimp only
      rw [nI_1, s1, s2, Option.bind_some, Option.bind_some]
      dsimp only
      rw [e1]
      exact ⟨A3, _, _, rfl, rfl, to29 b3 s3 rfl e2⟩
    · obtain rfl : o = 5 := by omega
      obtain ⟨A1, a1, a2, a3⟩ := shut_A hz hc
      obtain ⟨b1, b2, b3⟩ := shut_B hm
      rw [a1, b1, Option.bind_some, Option.bind_some, if_pos rfl, if_pos rfl]
      exact ⟨A1, failB B, 0, rfl, rfl, a3, b3, .inr ⟨_, a2, b2⟩⟩
  by_cases k40 : kd bs z (plc bs z i) = 40
  · have k1 : ¬ kd bs z (plc bs z i) = -1 := by rw [k40]; decide
    have k2 : ¬ kd bs z (plc bs z i) = -2 := by rw [k40]; decide
    rw [if_neg (show ¬ A 9 7 = -3 by rw [c7]; exact k3), if_pos (show ¬ A 9 7 = -4 by rw [c7]; exact k4), if_pos (show ¬ A 9 7 = 45 by rw [c7]; exact k45), if_neg (show ¬ ¬ A 9 7 = 40 from fun q => q (by rw [c7]; exact k40)), if_neg k45, if_pos rfl, if_pos k40, if_neg n10]
    by_cases ho5 : o < 5
    · obtain ⟨A1, a1, a2, a3, a4⟩ := open_A hc ho5 k1 k2
      obtain ⟨B1, b1, b2, b3⟩ := opn hm ho5 k1 k2
      obtain ⟨A2, B2, y, s1, s2, s3⟩ := h0 ho5 (i + 1) L A1 B1 a2 b2
      rw [a1, b1, Option.bind_some, Option.bind_some, if_neg n10, if_neg n10]
      dsimp only
      rw [nI_1, s1, s2, Option.bind_some, Option.bind_some]
      dsimp only
      obtain ⟨u1, u2, u3⟩ := s3
      unfold F3_expect F9_atom_j71
      rcases u3 with ⟨i2, L2, q1, q2, q3, q4, q5, q6, q7⟩ | ⟨f, q1, q2⟩
      · rw [b3.nm] at q7
        have hp29 : nI (o + 1) - 1 = nI o := nI_pred o
        rw [sign_B q3.1 (show isG 41 = true by decide), Option.bind_some]
        dsimp only
        by_cases k41 : kd bs z (plc bs z i2) = 41
        · have w1 : ¬ kd bs z (plc bs z i2) = -1 := by rw [k41]; decide
          have w2 : ¬ kd bs z (plc bs z i2) = -2 := by rw [k41]; decide
          obtain ⟨A3, g1, g2, g3, g4⟩ := adv q2 w1 w2
          obtain ⟨B3, g5, g6, g7⟩ := nxt (q3.up29 o) w1 w2
          rw [if_neg (show ¬ ¬ A2 9 7 = 41 from fun q => q (by rw [q2.2.2.2.1]; exact k41)), g1, if_pos k41, if_pos n10, if_neg (show ¬ ¬ B2 0 30 = 0 from fun q => q q3.1.2.2.1), q3.2, hp29, g5]
          exact ⟨A3, B3, y, rfl, rfl, (a3.tr u1).tr g3, (b3.tr u2).tr ((MFr.up (by decide)).tr g7), .inl ⟨i2 + 1, L2, by omega, g2, g6, q4, by omega, fun j hj => by rw [g4, q6 j hj, a4], fun st => by rw [g4]; exact q7 st⟩⟩
        · obtain ⟨A3, g1, g2, g3, g4⟩ := q2.fail hz
          obtain ⟨g5, g6, g7⟩ := q3.fail
          rw [if_pos (show ¬ A2 9 7 = 41 by rw [q2.2.2.2.1]; exact k41), g1, if_neg k41, if_neg (show ¬ ¬ (0 : Int32) = 0 from fun q => q rfl), g5, Option.bind_some, Option.bind_some, Option.bind_some]
          dsimp only
          rw [if_pos g6.bad]
          exact ⟨A3, _, y, rfl, rfl, (a3.tr u1).tr g3, ((b3.tr u2).tr g7).tr (MFr.up (by decide)), .inr ⟨_, g2, g6.up29 _⟩⟩
      · rw [if_pos (show ¬ A2 9 7 = 41 by rw [q1.1]; decide), q1.fail, sign_bad q2.bad, Option.bind_some, Option.bind_some, Option.bind_some, if_neg (show ¬ ¬ (0 : Int32) = 0 from fun q => q rfl), fail_bad q2.bad, Option.bind_some]
        dsimp only
        rw [if_pos q2.bad]
        exact ⟨A2, _, y, rfl, rfl, a3.tr u1, (b3.tr u2).tr (MFr.up (by decide)), .inr ⟨f, q1, q2.up29 _⟩⟩
    · obtain rfl : o = 5 := by omega
      obtain ⟨A1, a1, a2, a3⟩ := shut_A hz hc
      obtain ⟨b1, b2, b3⟩ := shut_B hm
      rw [a1, b1, Option.bind_some, Option.bind_some, if_pos rfl, if_pos rfl]
      exact ⟨A1, failB B, 0, rfl, rfl, a3, b3, .inr ⟨_, a2, b2⟩⟩
  -- nothing that can stand here
  · obtain ⟨A1, a1, a2, a3, a4⟩ := hc.fail hz
    obtain ⟨b1, b2, b3⟩ := hm.fail
    rw [if_neg (show ¬ A 9 7 = -3 by rw [c7]; exact k3), if_pos (show ¬ A 9 7 = -4 by rw [c7]; exact k4), if_pos (show ¬ A 9 7 = 45 by rw [c7]; exact k45), if_pos (show ¬ A 9 7 = 40 by rw [c7]; exact k40), a1, if_neg k45, if_pos rfl, if_neg k40, if_pos rfl, if_neg (show ¬ ¬ B 0 30 = 0 from fun q => q h30), if_pos (tok_2 hm.1 k3)]
    have eB : F9_atom_j123 (S3 fu) B 0 = some (0, failB B) := by
      unfold F9_atom_j123 F9_atom_j157
      rw [if_neg (show ¬ ¬ B 0 30 = 0 from fun q => q h30)]
      by_cases t1 : B 0 26 = 1
      · obtain ⟨w1, w2⟩ := tok_1 hm.1 t1
        have hn := name_B hm.1 w1 w2
        rw [if_neg k4] at hn
        rw [if_neg (show ¬ ¬ B 0 26 = 1 from fun q => q t1), hn, Option.bind_some]
        dsimp only
        rw [if_pos b2.bad]
      · rw [if_pos t1, b1]
        rfl
    rw [eB]
    exact ⟨A1, failB B, 0, rfl, rfl, a3, b3, .inr ⟨_, a2, b2⟩⟩
theorem SIM_all (hz : z ≤ 160) : ∀ (n fu k o : Nat), k ≤ 5 → o ≤ 5 → 6 * (5 - o) + (6 - k) ≤ n → n ≤ fu → SIM bs z t m fu k o := by
  intro n
  induction n with
  | zero => intro fu k o hk ho h1 h2; omega
  | succ n ih =>
    intro fu k o hk ho h1 h2
    obtain ⟨fu, rfl⟩ : ∃ f, fu = f + 1 := ⟨fu - 1, by omega⟩
    rcases (show k = 0 ∨ k = 1 ∨ k = 2 ∨ k = 3 ∨ k = 4 ∨ k = 5 by omega) with rfl | rfl | rfl | rfl | rfl | rfl
    · exact or_sim (ih fu 1 o (by omega) ho (by omega) (by omega))
    · exact and_sim (ih fu 2 o (by omega) ho (by omega) (by omega))
    · exact not_sim hz ho (ih fu 3 o (by omega) ho (by omega) (by omega)) (fun h => ih fu 2 (o + 1) (by omega) (by omega) (by omega) (by omega))
    · exact sum_sim (ih fu 4 o (by omega) ho (by omega) (by omega))
    · exact term_sim (ih fu 5 o (by omega) ho (by omega) (by omega))
    · exact one_sim hz ho (fun h => ih fu 5 (o + 1) (by omega) (by omega) (by omega) (by omega)) (fun h => ih fu 0 (o + 1) (by omega) (by omega) (by omega) (by omega))
end
