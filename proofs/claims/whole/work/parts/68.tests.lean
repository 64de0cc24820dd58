/-! TEXTS: what the reference asks of a token -/
def wL (j i : Nat) : Int32 := if i < wln j then sB 1 (wfr j + i) else 0
theorem eqs_iff {bs : Nat → Int32} : ∀ {k s fr : Nat}, eqs bs k s fr = true ↔ ∀ i, i < k → sB 1 (fr + i) = bs (s + i)
  | 0, s, fr => by
    unfold eqs
    exact ⟨fun _ i hi => absurd hi (by omega), fun _ => rfl⟩
  | k + 1, s, fr => by
    unfold eqs
    rw [Bool.and_eq_true, decide_eq_true_iff, eqs_iff (k := k)]
    constructor
    · rintro ⟨h1, h2⟩ i hi
      cases i with
      | zero => exact h1
      | succ i =>
        have := h2 i (by omega)
        rw [show fr + 1 + i = fr + (i + 1) by omega, show s + 1 + i = s + (i + 1) by omega] at this
        exact this
    · intro h
      refine ⟨h 0 (by omega), fun i hi => ?_⟩
      have := h (i + 1) (by omega)
      rw [show fr + (i + 1) = fr + 1 + i by omega, show s + (i + 1) = s + 1 + i by omega] at this
      exact this
theorem w_dist : ∀ j, j < 12 → ∀ j', j' < 12 → wln j = wln j' → (∀ i, i < wln j → sB 1 (wfr j + i) = sB 1 (wfr j' + i)) → j = j' := by decide +kernel
theorem wm_iff {bs : Nat → Int32} {s e j : Nat} : wm bs s e j = true ↔ e - s = wln j ∧ ∀ i, i < wln j → sB 1 (wfr j + i) = bs (s + i) := by
  unfold wm
  rw [Bool.and_eq_true, decide_eq_true_iff, eqs_iff]
theorem wm_uniq {bs : Nat → Int32} {s e j j' : Nat} (hj : j < 12) (hj' : j' < 12) (h : wm bs s e j = true) (h' : wm bs s e j' = true) : j = j' := by
  obtain ⟨a1, a2⟩ := wm_iff.mp h
  obtain ⟨b1, b2⟩ := wm_iff.mp h'
  exact w_dist j hj j' hj' (by omega) (fun i hi => by rw [a2 i hi, b2 i (by omega)])
theorem wi_spec {bs : Nat → Int32} {s e : Nat} : ∀ (k j0 : Nat), (wi bs s e k j0 = -1 ∧ ∀ j, j0 ≤ j → j < j0 + k → wm bs s e j = false) ∨ ∃ j, j0 ≤ j ∧ j < j0 + k ∧ wi bs s e k j0 = nI j ∧ wm bs s e j = true
  | 0, j0 => .inl ⟨rfl, fun j h1 h2 => absurd h1 (by omega)⟩
  | k + 1, j0 => by
    have ew : wi bs s e (k + 1) j0 = if wm bs s e j0 = true then nI j0 else wi bs s e k (j0 + 1) := rfl
    rw [ew]
    cases h : wm bs s e j0 with
    | true => exact .inr ⟨j0, by omega, by omega, if_pos rfl, h⟩
    | false =>
      rw [if_neg Bool.false_ne_true]
      rcases wi_spec k (j0 + 1) with ⟨h1, h2⟩ | ⟨j, h1, h2, h3, h4⟩
      · refine .inl ⟨h1, fun j a b => ?_⟩
        by_cases e : j = j0
        · rw [e]; exact h
        · exact h2 j (by omega) (by omega)
      · exact .inr ⟨j, by omega, by omega, h3, h4⟩
theorem wi_iff {bs : Nat → Int32} {s e j : Nat} (hj : j < 12) : wi bs s e 12 0 = nI j ↔ wm bs s e j = true := by
  rcases wi_spec (bs := bs) (s := s) (e := e) 12 0 with ⟨h1, h2⟩ | ⟨j', h1, h2, h3, h4⟩
  · rw [h1, h2 j (by omega) (by omega)]
    exact ⟨fun e => absurd e.symm (nI_m1 (by omega)), fun e => by cases e⟩
  · rw [h3]
    constructor
    · intro e
      have := nI_inj (by omega) (by omega) e
      rw [← this]; exact h4
    · intro e
      rw [wm_uniq (by omega) hj h4 e]
theorem wi_val {bs : Nat → Int32} {s e : Nat} : wi bs s e 12 0 = -1 ∨ ∃ j, j < 12 ∧ wi bs s e 12 0 = nI j := by
  rcases wi_spec (bs := bs) (s := s) (e := e) 12 0 with ⟨h1, -⟩ | ⟨j, -, h2, h3, -⟩
  · exact .inl h1
  · exact .inr ⟨j, by omega, h3⟩
theorem wk_ok : ∀ j, j < 12 → (wk (nI j)).toInt < 0 ∧ (wk (nI j) = -4 ↔ j < 6) ∧ (6 ≤ j → wk (nI j) = -5 - nI j) ∧ (j < 6 → wv (nI j) = -1 - nI j ∧ (-1 - (-1 - nI j)).toInt.toNat = j) ∧ ¬ wk (nI j) = -2 ∧ ¬ wk (nI j) = -1 ∧ ¬ wk (nI j) = -3 := by decide +kernel
theorem key_inj : ∀ j, j < 12 → ∀ j', j' < 12 → 6 ≤ j' → wk (nI j) = -5 - nI j' → j = j' := by decide +kernel
theorem key_no : ∀ j, j < 12 → 6 ≤ j → ¬ (-1 : Int32) = -5 - nI j ∧ ¬ (-2 : Int32) = -5 - nI j ∧ ¬ (-3 : Int32) = -5 - nI j ∧ (-5 - nI j).toInt < 0 := by decide +kernel
theorem sg_pos {c : Int32} (h : isG c = true) : 0 < c.toInt := by
  have h1 : c = 40 ∨ c = 41 ∨ c = 59 ∨ c = 43 ∨ c = 45 ∨ c = 42 ∨ c = 60 ∨ c = 61 := of_decide_eq_true h
  rcases h1 with rfl | rfl | rfl | rfl | rfl | rfl | rfl | rfl <;> decide
def OKB (bs : Nat → Int32) (z t : Nat) (B : Mem) (s : Nat) : Prop := MB0 bs z t B ∧ TB bs z B s ∧ B 0 30 = 0 ∧ s ≤ z
section
variable {bs : Nat → Int32} {z t s : Nat} {B : Mem}
theorem kd_cases (bs : Nat → Int32) (z s : Nat) : (z ≤ s ∧ kd bs z s = -1) ∨ (s < z ∧ isL (bs s) = true ∧ kd bs z s = wk (wi bs s (eL bs z s) 12 0)) ∨ (s < z ∧ isL (bs s) = false ∧ isD (bs s) = true ∧ kd bs z s = (if eD bs z s - s ≤ 4 then -3 else -2)) ∨ (s < z ∧ isL (bs s) = false ∧ isD (bs s) = false ∧ isG (bs s) = true ∧ kd bs z s = bs s) ∨ (s < z ∧ isL (bs s) = false ∧ isD (bs s) = false ∧ isG (bs s) = false ∧ kd bs z s = -2) := by
  unfold kd
  by_cases hz : s < z
  · rw [if_pos hz]
    cases hl : isL (bs s) with
    | true => exact .inr (.inl ⟨hz, rfl, if_pos rfl⟩)
    | false =>
      rw [if_neg Bool.false_ne_true]
      cases hd : isD (bs s) with
      | true => exact .inr (.inr (.inl ⟨hz, rfl, rfl, if_pos rfl⟩))
      | false =>
        rw [if_neg Bool.false_ne_true]
        cases hg : isG (bs s) with
        | true => exact .inr (.inr (.inr (.inl ⟨hz, rfl, rfl, rfl, if_pos rfl⟩)))
        | false => exact .inr (.inr (.inr (.inr ⟨hz, rfl, rfl, rfl, if_neg Bool.false_ne_true⟩)))
  · rw [if_neg hz]
    exact .inl ⟨by omega, rfl⟩
theorem wk_neg (e : Nat) : (wk (wi bs s e 12 0)).toInt < 0 := by
  rcases wi_val (bs := bs) (s := s) (e := e) with h | ⟨j, hj, h⟩
  · rw [h]; decide
  · rw [h]; exact (wk_ok j hj).1
theorem l64_inj {a b : Int32} (h : Int32.toInt64 a = Int32.toInt64 b) : a = b := by
  apply Int32.toInt_inj.mp
  rw [← i64t a, ← i64t b, h]
theorem sign_B (h : OKB bs z t B s) {c : Int32} (hc : isG c = true) : F9_isSign B c = some (if kd bs z s = c then 1 else 0, B) := by
  obtain ⟨h0, ⟨h27, htb⟩, h30, hsz⟩ := h
  have hp := sg_pos hc
  have neg : ∀ w : Int32, w.toInt < 0 → ¬ w = c := fun w hw e => by rw [e] at hw; omega
  have no : ¬ B 0 26 = 3 → ¬ kd bs z s = c → F9_isSign B c = some (if kd bs z s = c then 1 else 0, B) := by
    intro h1 h2
    unfold F9_isSign
    rw [if_neg (fun q => q h30), if_pos h1, if_neg h2]
  rcases kd_cases bs z s with ⟨c1, c2⟩ | ⟨c1, c2, c3⟩ | ⟨c1, c2, c3, c4⟩ | ⟨c1, c2, c3, c4, c5⟩ | ⟨c1, c2, c3, c4, c5⟩
  · rw [if_neg (show ¬ s < z by omega)] at htb
    exact no (by rw [htb]; decide) (by rw [c2]; exact neg _ (by decide))
  · rw [if_pos c1, if_pos c2] at htb
    exact no (by rw [htb.1]; decide) (by rw [c3]; exact neg _ (wk_neg _))
  · rw [if_pos c1, if_neg (by rw [c2]; exact Bool.false_ne_true), if_pos c3] at htb
    rw [c4] at no ⊢
    by_cases h4 : eD bs z s - s ≤ 4
    · rw [if_pos h4] at htb no ⊢
      exact no (by rw [htb.1]; decide) (neg _ (by decide))
    · rw [if_neg h4] at htb no ⊢
      exact no (by rw [htb]; decide) (neg _ (by decide))
  · rw [if_pos c1, if_neg (by rw [c2]; exact Bool.false_ne_true), if_neg (by rw [c3]; exact Bool.false_ne_true), if_pos c4] at htb
    unfold F9_isSign
    rw [if_neg (fun q => q h30), if_neg (fun q => q htb.1), htb.2.1, c5]
    by_cases e : bs s = c
    · rw [if_neg (fun q => q (lg0.mpr (by rw [e]))), if_pos e]
    · rw [if_pos (fun q => e (l64_inj (lg0.mp q))), if_neg e]
  · rw [if_pos c1, if_neg (by rw [c2]; exact Bool.false_ne_true), if_neg (by rw [c3]; exact Bool.false_ne_true), if_neg (by rw [c4]; exact Bool.false_ne_true)] at htb
    exact no (by rw [htb]; decide) (by rw [c5]; exact neg _ (by decide))
theorem sign_bad (h : ¬ B 0 30 = 0) (c : Int32) : F9_isSign B c = some (0, B) := by
  unfold F9_isSign
  rw [if_pos h]
theorem word_bad (h : ¬ B 0 30 = 0) (a1 a2 a3 a4 a5 a6 a7 a8 : Int32) : F9_isWord B a1 a2 a3 a4 a5 a6 a7 a8 = some (0, B) := by
  unfold F9_isWord
  rw [if_pos h]
def lcb (bs : Nat → Int32) (s e i : Nat) (a : Int32) : Bool := if s + i < e then decide (bs (s + i) = a) else decide (a = 0)
theorem let_B (h0 : MB0 bs z t B) {e : Nat} (hez : e ≤ z) (h27 : B 0 27 = nI s) (h25 : B 0 25 = nI e) (hsz : s ≤ z) {i : Nat} (hi : i < 8) (a : Int32) : F9_isLetter B (nI i) a = some (if lcb bs s e i a = true then 1 else 0, B) := by
  have hz := h0.2.2.2.2.1
  unfold F9_isLetter lcb
  rw [h25, h27, nI_add]
  by_cases h : s + i < e
  · rw [if_neg (nI_ge h (by omega)), byte_B h0 (by omega), if_pos (show s + i < z by omega), Option.bind_some]
    simp only [if_pos h, decide_eq_true_iff]
    by_cases h2 : bs (s + i) = a
    · rw [if_neg (fun q => q h2), if_pos h2]
    · rw [if_pos h2, if_neg h2]
  · rw [if_pos (nI_le (by omega) (by omega))]
    simp only [if_neg h, decide_eq_true_iff]
    by_cases h2 : a = 0
    · rw [if_neg (fun q => q h2), if_pos h2]
    · rw [if_pos h2, if_neg h2]
theorem wm_lcb {e : Nat} (he : ∀ x, s ≤ x → x < e → isL (bs x) = true) (hse : s ≤ e) {j : Nat} (hj : j < 12) : wm bs s e j = true ↔ e ≤ s + 8 ∧ ∀ i, i < 8 → lcb bs s e i (wL j i) = true := by
  obtain ⟨w1, w2, w3, w4, w5, w6⟩ := w_ok j hj
  have nz : ∀ x, s ≤ x → x < e → ¬ bs x = 0 := fun x h1 h2 h3 => by
    have := he x h1 h2
    rw [h3] at this
    exact absurd this (by decide)
  rw [wm_iff]
  constructor
  · rintro ⟨h1, h2⟩
    refine ⟨by omega, fun i hi => ?_⟩
    unfold lcb wL
    by_cases c : s + i < e
    · rw [if_pos c, if_pos (show i < wln j by omega), decide_eq_true_iff]
      exact (h2 i (by omega)).symm
    · rw [if_neg c, if_neg (show ¬ i < wln j by omega), decide_eq_true_iff]
  · rintro ⟨h1, h2⟩
    have hl : e - s = wln j := by
      rcases Nat.lt_trichotomy (e - s) (wln j) with h | h | h
      · have := h2 (e - s) (by omega)
        unfold lcb wL at this
        rw [if_neg (show ¬ s + (e - s) < e by omega), if_pos h, decide_eq_true_iff] at this
        exact absurd this (w6 _ h).2
      · exact h
      · have := h2 (wln j) (by omega)
        unfold lcb wL at this
        rw [if_pos (show s + wln j < e by omega), if_neg (Nat.lt_irrefl _), decide_eq_true_iff] at this
        exact absurd this (nz _ (by omega) (by omega))
    refine ⟨hl, fun i hi => ?_⟩
    have := h2 i (by omega)
    unfold lcb wL at this
    rw [if_pos (show s + i < e by omega), if_pos hi, decide_eq_true_iff] at this
    exact this.symm
theorem word_is (h : OKB bs z t B s) {j : Nat} (hj : j < 12) : F9_isWord B (wL j 0) (wL j 1) (wL j 2) (wL j 3) (wL j 4) (wL j 5) (wL j 6) (wL j 7) = some (if s < z ∧ isL (bs s) = true ∧ wm bs s (eL bs z s) j = true then 1 else 0, B) := by
  obtain ⟨h0, ⟨h27, htb⟩, h30, hsz⟩ := h
  have no : ¬ B 0 26 = 1 → ¬ (s < z ∧ isL (bs s) = true ∧ wm bs s (eL bs z s) j = true) → F9_isWord B (wL j 0) (wL j 1) (wL j 2) (wL j 3) (wL j 4) (wL j 5) (wL j 6) (wL j 7) = some (if s < z ∧ isL (bs s) = true ∧ wm bs s (eL bs z s) j = true then 1 else 0, B) := by
    intro h1 h2
    unfold F9_isWord
    rw [if_neg (fun q => q h30), if_pos h1, if_neg h2]
  by_cases c1 : s < z
  · rw [if_pos c1] at htb
    cases c2 : isL (bs s) with
    | true =>
      rw [if_pos c2] at htb
      obtain ⟨h26, h25⟩ := htb
      have hz := h0.2.2.2.2.1
      have hle := runE_le (p := isL) (bs := bs) (z - s) s
      have hez : eL bs z s ≤ z := by unfold eL; omega
      have hse : s ≤ eL bs z s := hle.1
      have hin : ∀ x, s ≤ x → x < eL bs z s → isL (bs x) = true := fun x h1 h2 => runE_in h1 h2
      have hw := wm_lcb hin hse hj
      have L : ∀ i, i < 8 → ∀ a, F9_isLetter B (nI i) a = some (if lcb bs s (eL bs z s) i a = true then 1 else 0, B) := fun i hi a => let_B h0 hez h27 h25 hsz hi a
      generalize eL bs z s = e at *
      unfold F9_isWord
      rw [if_neg (fun q => q h30), if_neg (fun q => q h26), h27, h25, show (8 : Int32) = nI 8 from rfl, nI_add]
      have e1 : ((s < z ∧ true = true ∧ wm bs s e j = true) ↔ (e ≤ s + 8 ∧ ∀ i, i < 8 → lcb bs s e i (wL j i) = true)) := by
        rw [← hw]
        exact ⟨fun q => q.2.2, fun q => ⟨c1, rfl, q⟩⟩
      by_cases h8 : e ≤ s + 8
      · have l0 := L 0 (by decide)
        rw [show nI 0 = (0 : Int32) from rfl] at l0
        have l1 := L 1 (by decide)
        rw [show nI 1 = (1 : Int32) from rfl] at l1
        have l2 := L 2 (by decide)
        rw [show nI 2 = (2 : Int32) from rfl] at l2
        have l3 := L 3 (by decide)
        rw [show nI 3 = (3 : Int32) from rfl] at l3
        have l4 := L 4 (by decide)
        rw [show nI 4 = (4 : Int32) from rfl] at l4
        have l5 := L 5 (by decide)
        rw [show nI 5 = (5 : Int32) from rfl] at l5
        have l6 := L 6 (by decide)
        rw [show nI 6 = (6 : Int32) from rfl] at l6
        have l7 := L 7 (by decide)
        rw [show nI 7 = (7 : Int32) from rfl] at l7
        have bad : ∀ i, i < 8 → lcb bs s e i (wL j i) = false → ¬ (s < z ∧ true = true ∧ wm bs s e j = true) := fun i hi hf q => by
          have := (e1.mp q).2 i hi
          rw [hf] at this
          cases this
        rw [if_neg (nI_nlt h8 (by omega)), l0, Option.bind_some]
        cases k0 : lcb bs s e 0 (wL j 0) with
        | false => rw [if_neg (bad 0 (by decide) k0)]; rfl
        | true =>
          rw [if_pos rfl, if_neg n10, l1, Option.bind_some]
          cases k1 : lcb bs s e 1 (wL j 1) with
          | false => rw [if_neg (bad 1 (by decide) k1)]; rfl
          | true =>
            rw [if_pos rfl, if_neg n10, l2, Option.bind_some]
            cases k2 : lcb bs s e 2 (wL j 2) with
            | false => rw [if_neg (bad 2 (by decide) k2)]; rfl
            | true =>
              rw [if_pos rfl, if_neg n10, l3, Option.bind_some]
              cases k3 : lcb bs s e 3 (wL j 3) with
              | false => rw [if_neg (bad 3 (by decide) k3)]; rfl
              | true =>
                rw [if_pos rfl, if_neg n10, l4, Option.bind_some]
                cases k4 : lcb bs s e 4 (wL j 4) with
                | false => rw [if_neg (bad 4 (by decide) k4)]; rfl
                | true =>
                  rw [if_pos rfl, if_neg n10, l5, Option.bind_some]
                  cases k5 : lcb bs s e 5 (wL j 5) with
                  | false => rw [if_neg (bad 5 (by decide) k5)]; rfl
                  | true =>
                    rw [if_pos rfl, if_neg n10, l6, Option.bind_some]
                    cases k6 : lcb bs s e 6 (wL j 6) with
                    | false => rw [if_neg (bad 6 (by decide) k6)]; rfl
                    | true =>
                      rw [if_pos rfl, if_neg n10, l7, Option.bind_some]
                      cases k7 : lcb bs s e 7 (wL j 7) with
                      | false => rw [if_neg (bad 7 (by decide) k7)]; rfl
                      | true =>
                        rw [if_pos rfl, if_neg n10, if_pos (e1.mpr ⟨h8, fun i hi => by
                          rcases (show i = 0 ∨ i = 1 ∨ i = 2 ∨ i = 3 ∨ i = 4 ∨ i = 5 ∨ i = 6 ∨ i = 7 by omega) with rfl | rfl | rfl | rfl | rfl | rfl | rfl | rfl <;> assumption⟩)]
      · rw [if_pos (nI_lt (by omega) (by omega)), if_neg (fun q => h8 (e1.mp q).1)]
    | false =>
      rw [c2] at no
      rw [if_neg (by rw [c2]; exact Bool.false_ne_true)] at htb
      refine no ?_ (fun q => Bool.false_ne_true q.2.1)
      by_cases c3 : isD (bs s) = true
      · rw [if_pos c3] at htb
        by_cases h4 : eD bs z s - s ≤ 4
        · rw [if_pos h4] at htb; rw [htb.1]; decide
        · rw [if_neg h4] at htb; rw [htb]; decide
      · rw [if_neg c3] at htb
        by_cases c4 : isG (bs s) = true
        · rw [if_pos c4] at htb; rw [htb.1]; decide
        · rw [if_neg c4] at htb; rw [htb]; decide
  · rw [if_neg c1] at htb
    exact no (by rw [htb]; decide) (fun q => c1 q.1)
theorem key_B (h : OKB bs z t B s) {j : Nat} (hj : j < 12) (h6 : 6 ≤ j) : F9_isWord B (wL j 0) (wL j 1) (wL j 2) (wL j 3) (wL j 4) (wL j 5) (wL j 6) (wL j 7) = some (if kd bs z s = -5 - nI j then 1 else 0, B) := by
  rw [word_is h hj]
  obtain ⟨n1, n2, n3, n4⟩ := key_no j hj h6
  have e : (s < z ∧ isL (bs s) = true ∧ wm bs s (eL bs z s) j = true) ↔ kd bs z s = -5 - nI j := by
    rcases kd_cases bs z s with ⟨c1, c2⟩ | ⟨c1, c2, c3⟩ | ⟨c1, c2, c3, c4⟩ | ⟨c1, c2, c3, c4, c5⟩ | ⟨c1, c2, c3, c4, c5⟩
    · exact ⟨fun q => absurd q.1 (by omega), fun q => absurd (c2.symm.trans q) n1⟩
    · rw [c3, ← wi_iff hj]
      constructor
      · rintro ⟨-, -, q⟩
        rw [q]
        exact (wk_ok j hj).2.2.1 h6
      · intro q
        refine ⟨c1, c2, ?_⟩
        rcases wi_val (bs := bs) (s := s) (e := eL bs z s) with w | ⟨j', hj', w⟩
        · rw [w] at q; exact absurd q n2
        · rw [w] at q ⊢
          rw [key_inj j' hj' j hj h6 q]
    · rw [c2, c4]
      refine ⟨fun q => absurd q.2.1 Bool.false_ne_true, fun q => ?_⟩
      by_cases h4 : eD bs z s - s ≤ 4
      · rw [if_pos h4] at q; exact absurd q n3
      · rw [if_neg h4] at q; exact absurd q n2
    · rw [c2, c5]
      refine ⟨fun q => absurd q.2.1 Bool.false_ne_true, fun q => ?_⟩
      have := sg_pos c4
      rw [q] at this
      omega
    · rw [c2, c5]
      exact ⟨fun q => absurd q.2.1 Bool.false_ne_true, fun q => absurd q n2⟩
  by_cases c : kd bs z s = -5 - nI j
  · rw [if_pos c, if_pos (e.mpr c)]
  · rw [if_neg c, if_neg (fun q => c (e.mp q))]
/-- what a name says -/
def nmB (B : Mem) (c : Int32) : Int32 := B 0 (17 + min (-1 - c).toInt.toNat 5)
def failB (B : Mem) : Mem := up2 (up2 B 0 30 1) 0 31 (B 0 27)
theorem fail_B (h : B 0 30 = 0) : F9_fail B = some (0, failB B) := by
  unfold F9_fail failB
  rw [if_neg (fun q => q h)]
theorem fail_bad (h : ¬ B 0 30 = 0) : F9_fail B = some (0, B) := by
  unfold F9_fail
  rw [if_pos h]
theorem name_B (h : OKB bs z t B s) (hs : s < z) (hl : isL (bs s) = true) : F9_name B = some (if kd bs z s = -4 then (nmB B (vl bs z s), B) else (0, failB B)) := by
  have W : ∀ j, j < 12 → F9_isWord B (wL j 0) (wL j 1) (wL j 2) (wL j 3) (wL j 4) (wL j 5) (wL j 6) (wL j 7) = some (if wi bs s (eL bs z s) 12 0 = nI j then 1 else 0, B) := by
    intro j hj
    rw [word_is h hj]
    by_cases c : wi bs s (eL bs z s) 12 0 = nI j
    · rw [if_pos c, if_pos ⟨hs, hl, (wi_iff hj).mp c⟩]
    · rw [if_neg c, if_neg (fun q => c ((wi_iff hj).mpr q.2.2))]
  have hk : kd bs z s = wk (wi bs s (eL bs z s) 12 0) := by
    unfold kd
    rw [if_pos hs, if_pos hl]
  have hv : vl bs z s = wv (wi bs s (eL bs z s) 12 0) := by
    unfold vl
    rw [if_pos hs, if_pos hl]
  rw [hk, hv]
  have w0 : F9_isWord B 105 116 101 109 115 0 0 0 = _ := W 0 (by decide)
  have w1 : F9_isWord B 110 117 109 98 101 114 0 0 = _ := W 1 (by decide)
  have w2 : F9_isWord B 112 108 97 99 101 0 0 0 = _ := W 2 (by decide)
  have w3 : F9_isWord B 111 117 114 115 0 0 0 0 = _ := W 3 (by decide)
  have w4 : F9_isWord B 119 97 105 116 0 0 0 0 = _ := W 4 (by decide)
  have w5 : F9_isWord B 109 97 110 121 0 0 0 0 = _ := W 5 (by decide)
  unfold F9_name
  rw [w0, Option.bind_some]
  have hw := wi_val (bs := bs) (s := s) (e := eL bs z s)
  generalize wi bs s (eL bs z s) 12 0 = w at *
  have yes : ∀ j, j < 6 → w = nI j → some (if wk w = -4 then (nmB B (wv w), B) else (0, failB B)) = some (B 0 (17 + j), B) := by
    intro j hj e
    obtain ⟨-, k2, -, k4, -⟩ := wk_ok j (by omega)
    subst e
    rw [if_pos (k2.mpr hj), (k4 hj).1]
    unfold nmB
    rw [(k4 hj).2, Nat.min_eq_left (by omega)]
  by_cases c0 : w = nI 0
  · rw [yes 0 (by decide) c0, if_pos c0, if_neg n10]
  rw [if_neg c0, if_pos rfl]
  dsimp only
  rw [w1, Option.bind_some]
  by_cases c1 : w = nI 1
  · rw [yes 1 (by decide) c1, if_pos c1, if_neg n10]
  rw [if_neg c1, if_pos rfl]
  dsimp only
  rw [w2, Option.bind_some]
  by_cases c2 : w = nI 2
  · rw [yes 2 (by decide) c2, if_pos c2, if_neg n10]
  rw [if_neg c2, if_pos rfl]
  dsimp only
  rw [w3, Option.bind_some]
  by_cases c3 : w = nI 3
  · rw [yes 3 (by decide) c3, if_pos c3, if_neg n10]
  rw [if_neg c3, if_pos rfl]
  dsimp only
  rw [w4, Option.bind_some]
  by_cases c4 : w = nI 4
  · rw [yes 4 (by decide) c4, if_pos c4, if_neg n10]
  rw [if_neg c4, if_pos rfl]
  dsimp only
  rw [w5, Option.bind_some]
  by_cases c5 : w = nI 5
  · rw [yes 5 (by decide) c5, if_pos c5, if_neg n10]
  rw [if_neg c5, if_pos rfl]
  dsimp only
  rw [fail_B h.2.2.1, Option.bind_some]
  have n4 : ¬ wk w = -4 := by
    rcases hw with e | ⟨j, hj, e⟩
    · rw [e]; decide
    · intro q
      rw [e] at q
      have := (wk_ok j hj).2.1.mp q
      rcases (show j = 0 ∨ j = 1 ∨ j = 2 ∨ j = 3 ∨ j = 4 ∨ j = 5 by omega) with rfl | rfl | rfl | rfl | rfl | rfl
      · exact c0 e
      · exact c1 e
      · exact c2 e
      · exact c3 e
      · exact c4 e
      · exact c5 e
  rw [if_neg n4]
end
