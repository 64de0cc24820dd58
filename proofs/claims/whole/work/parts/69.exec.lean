/-! TEXTS: steps for a stack; how both sides go from token to token -/
def two (c l r : Int32) : Int32 :=
  if c = -14 then l - r else if c = -13 then l + r else if c = -12 then (if ¬ l = r then 0 else 1) else if c = -11 then (if r ≤ l then 0 else 1) else if c = -10 then (if l = 0 then 0 else if r = 0 then 0 else 1) else if c = -9 then (if ¬ l = 0 then 1 else if r = 0 then 0 else 1) else l * r
def stp (nm : Int32 → Int32) (c : Int32) (st : List Int32) : Option (List Int32) :=
  if c < -6 then
    if c = -7 then (match st with
      | v :: r => some (-v :: r)
      | [] => none)
    else if c = -8 then (match st with
      | v :: r => some ((if ¬ v = 0 then 0 else 1) :: r)
      | [] => none)
    else (match st with
      | b :: a :: r => some (two c a b :: r)
      | _ => none)
  else some ((if c < 0 then nm c else c) :: st)
def exe (nm : Int32 → Int32) (f : Nat → Int32) : Nat → Nat → List Int32 → Option (List Int32)
  | 0, _, st => some st
  | k + 1, a, st => Option.bind (stp nm (f a) st) fun st' => exe nm f k (a + 1) st'
theorem exe_add {nm : Int32 → Int32} {f : Nat → Int32} : ∀ (k k2 a : Nat) (st : List Int32), exe nm f (k + k2) a st = Option.bind (exe nm f k a st) fun st' => exe nm f k2 (a + k) st'
  | 0, k2, a, st => by rw [Nat.zero_add]; rfl
  | k + 1, k2, a, st => by
    rw [show k + 1 + k2 = (k + k2) + 1 by omega]
    show Option.bind (stp nm (f a) st) _ = Option.bind (Option.bind (stp nm (f a) st) _) _
    cases stp nm (f a) st with
    | none => rfl
    | some st' =>
      rw [Option.bind_some, Option.bind_some, exe_add k k2 (a + 1) st', show a + 1 + k = a + (k + 1) by omega]
theorem exe_cong {nm : Int32 → Int32} {f g : Nat → Int32} (k : Nat) : ∀ (a : Nat) (st : List Int32), (∀ j, a ≤ j → j < a + k → f j = g j) → exe nm f k a st = exe nm g k a st := by
  induction k with
  | zero => intro a st h; rfl
  | succ k ih =>
    intro a st h
    unfold exe
    rw [h a (by omega) (by omega)]
    congr 1
    funext st'
    exact ih (a + 1) st' (fun j h1 h2 => h j (by omega) (by omega))
theorem exe_1 {nm : Int32 → Int32} {f : Nat → Int32} {a : Nat} {st : List Int32} : exe nm f 1 a st = stp nm (f a) st := by
  show Option.bind (stp nm (f a) st) _ = _
  cases stp nm (f a) st <;> rfl
theorem stp_two {nm : Int32 → Int32} {c x y : Int32} {st : List Int32} (h6 : c < -6) (h7 : ¬ c = -7) (h8 : ¬ c = -8) : stp nm c (y :: x :: st) = some (two c x y :: st) := by
  unfold stp
  rw [if_pos h6, if_neg h7, if_neg h8]
/-- one after the other, then a step for two -/
theorem exe_two {nm : Int32 → Int32} {f : Nat → Int32} {a b c : Nat} {x y code : Int32} (hab : a ≤ b) (hbc : b ≤ c) (h1 : ∀ st, exe nm f (b - a) a st = some (x :: st)) (h2 : ∀ st, exe nm f (c - b) b st = some (y :: st)) (hc : f c = code) (h6 : code < -6) (h7 : ¬ code = -7) (h8 : ¬ code = -8) (st : List Int32) : exe nm f (c + 1 - a) a st = some (two code x y :: st) := by
  rw [show c + 1 - a = (b - a) + ((c - b) + 1) by omega, exe_add, h1, Option.bind_some, show a + (b - a) = b by omega, exe_add, h2, Option.bind_some, show b + (c - b) = c by omega, exe_1, hc]
  exact stp_two h6 h7 h8
theorem exe_one {nm : Int32 → Int32} {f : Nat → Int32} {a c : Nat} {x y code : Int32} (hac : a ≤ c) (h1 : ∀ st, exe nm f (c - a) a st = some (x :: st)) (hc : f c = code) (hs : ∀ st, stp nm code (x :: st) = some (y :: st)) (st : List Int32) : exe nm f (c + 1 - a) a st = some (y :: st) := by
  rw [show c + 1 - a = (c - a) + 1 by omega, exe_add, h1, Option.bind_some, show a + (c - a) = c by omega, exe_1, hc]
  exact hs st
def CS (bs : Nat → Int32) (z m : Nat) (A : Mem) (i L : Nat) : Prop := LX bs z m A ∧ i < m ∧ A 9 6 = nI i ∧ A 9 7 = kd bs z (plc bs z i) ∧ A 9 8 = -1 ∧ A 9 10 = nI L ∧ L ≤ i
def CF (A : Mem) (f : Nat) : Prop := A 9 7 = -2 ∧ A 9 8 = nI f ∧ f ≤ 160 ∧ ∃ L, L ≤ 160 ∧ A 9 10 = nI L
def MS (bs : Nat → Int32) (z t : Nat) (B : Mem) (i o : Nat) : Prop := OKB bs z t B (plc bs z i) ∧ B 0 29 = nI o
def MF (B : Mem) (f : Nat) : Prop := B 0 30 = 1 ∧ B 0 31 = nI f
def CFr (A A' : Mem) : Prop := (∀ c, c ≠ 9 → c ≠ 14 → A' c = A c) ∧ ∀ k, k ≠ 6 → k ≠ 7 → k ≠ 8 → k ≠ 10 → A' 9 k = A 9 k
def MFr (B B' : Mem) : Prop := (∀ c, c ≠ 0 → B' c = B c) ∧ ∀ k, k < 25 ∨ (31 < k ∧ k < 1000) → B' 0 k = B 0 k
theorem CFr.rf {A : Mem} : CFr A A := ⟨fun _ _ _ => rfl, fun _ _ _ _ _ => rfl⟩
theorem MFr.rf {A : Mem} : MFr A A := ⟨fun _ _ => rfl, fun _ _ => rfl⟩
theorem CFr.tr {A B C : Mem} (h : CFr A B) (h2 : CFr B C) : CFr A C := ⟨fun c a b => (h2.1 c a b).trans (h.1 c a b), fun k a b c d => (h2.2 k a b c d).trans (h.2 k a b c d)⟩
theorem MFr.tr {A B C : Mem} (h : MFr A B) (h2 : MFr B C) : MFr A C := ⟨fun c a => (h2.1 c a).trans (h.1 c a), fun k a => (h2.2 k a).trans (h.2 k a)⟩
theorem CFr.up9 {A : Mem} {k : Nat} {v : Int32} (h : k = 6 ∨ k = 7 ∨ k = 8 ∨ k = 10) : CFr A (up2 A 9 k v) := ⟨fun c a _ => up2_ne a, fun j h6 h7 h8 h10 => up2_nk (by omega)⟩
theorem CFr.up14 {A : Mem} {k : Nat} {v : Int32} : CFr A (up2 A 14 k v) := ⟨fun c _ a => up2_ne a, fun j _ _ _ _ => by rw [up2_ne (by decide)]⟩
theorem MFr.up {A : Mem} {k : Nat} {v : Int32} (h : 25 ≤ k ∧ (k ≤ 31 ∨ 1000 ≤ k)) : MFr A (up2 A 0 k v) := ⟨fun c a => up2_ne a, fun j hj => up2_nk (by omega)⟩
theorem NFr.m {B B' : Mem} (h : NFr B B') : MFr B B' := ⟨h.1, fun k hk => h.2 k (by omega)⟩
theorem MFr.nm {B B' : Mem} (h : MFr B B') : nmB B' = nmB B := by
  funext c
  unfold nmB
  exact h.2 _ (by omega)
section
variable {bs : Nat → Int32} {z m t i o L : Nat} {A B : Mem}
theorem LX.c {A' : Mem} (h : LX bs z m A) (f : CFr A A') : LX bs z m A' := by
  unfold LX at *
  rw [f.2 1 (by decide) (by decide) (by decide) (by decide), f.1 10 (by decide) (by decide), f.2 5 (by decide) (by decide) (by decide) (by decide), f.1 11 (by decide) (by decide), f.1 12 (by decide) (by decide), f.1 13 (by decide) (by decide)]
  exact h
theorem CS.last (h : CS bs z m A i L) (h1 : ¬ kd bs z (plc bs z i) = -1) (h2 : ¬ kd bs z (plc bs z i) = -2) : i + 1 < m := by
  obtain ⟨⟨x1, x2, x3, x4, x5, x6, x7, x8⟩, hi, -⟩ := h
  by_cases e : i + 1 < m
  · exact e
  · have e2 : m - 1 = i := by omega
    rw [e2] at x8
    rcases x8 with x8 | ⟨-, x8⟩
    · exfalso
      apply h1
      rw [x8]
      unfold kd
      rw [if_neg (Nat.lt_irrefl z)]
    · exact absurd x8 h2
theorem adv (h : CS bs z m A i L) (h1 : ¬ kd bs z (plc bs z i) = -1) (h2 : ¬ kd bs z (plc bs z i) = -2) : ∃ A', F3_advance A = some (0, A') ∧ CS bs z m A' (i + 1) L ∧ CFr A A' ∧ A' 14 = A 14 := by
  have hl := h.last h1 h2
  obtain ⟨hx, hi, c6, c7, c8, c10, hL⟩ := h
  have hm := hx.2.2.2.2.1
  have f : CFr A (up2 (up2 A 9 6 (nI (i + 1))) 9 7 (A 11 (i + 1))) := (CFr.up9 (.inl rfl)).tr (CFr.up9 (.inr (.inl rfl)))
  refine ⟨up2 (up2 A 9 6 (nI (i + 1))) 9 7 (A 11 (i + 1)), ?_, ⟨hx.c f, hl, by rw [up2_nk (by decide), up2_at], by rw [up2_at]; exact (hx.2.2.2.2.2.1 (i + 1) hl).1, by rw [up2_nk (by decide), up2_nk (by decide)]; exact c8, by rw [up2_nk (by decide), up2_nk (by decide)]; exact c10, by omega⟩, f, by rw [up2_ne (by decide), up2_ne (by decide)]⟩
  unfold F3_advance
  rw [c8, if_neg (by decide), c6, hx.2.2.1, nI_1, if_pos (nI_lt hl (by omega)), if_pos (inb_of (by omega) (by decide)), nI_clamp (by omega)]
theorem TB.cong {s : Nat} {B' : Mem} (h : TB bs z B s) (h25 : B' 0 25 = B 0 25) (h26 : B' 0 26 = B 0 26) (h27 : B' 0 27 = B 0 27) (h28 : gL B' 0 28 = gL B 0 28) : TB bs z B' s := by
  unfold TB at *
  rw [h25, h26, h27, h28]
  exact h
theorem MS.at1 (h : MS bs z t B i o) (h1 : ¬ kd bs z (plc bs z i) = -1) (h2 : ¬ kd bs z (plc bs z i) = -2) : plc bs z i < z ∧ B 0 25 = nI (te bs z (plc bs z i)) := by
  obtain ⟨⟨h0, ⟨h27, htb⟩, h30, hsz⟩, h29⟩ := h
  unfold te
  rcases kd_cases bs z (plc bs z i) with ⟨c1, c2⟩ | ⟨c1, c2, c3⟩ | ⟨c1, c2, c3, c4⟩ | ⟨c1, c2, c3, c4, c5⟩ | ⟨c1, c2, c3, c4, c5⟩
  · exact absurd c2 h1
  · rw [if_pos c1, if_pos c2] at htb
    rw [if_pos c2]
    exact ⟨c1, htb.2⟩
  · rw [if_pos c1, if_neg (by rw [c2]; exact Bool.false_ne_true), if_pos c3] at htb
    rw [if_neg (by rw [c2]; exact Bool.false_ne_true), if_pos c3]
    by_cases h4 : eD bs z (plc bs z i) - plc bs z i ≤ 4
    · rw [if_pos h4] at htb
      exact ⟨c1, htb.2.2⟩
    · rw [if_neg h4] at c4
      exact absurd c4 h2
  · rw [if_pos c1, if_neg (by rw [c2]; exact Bool.false_ne_true), if_neg (by rw [c3]; exact Bool.false_ne_true), if_pos c4] at htb
    rw [if_neg (by rw [c2]; exact Bool.false_ne_true), if_neg (by rw [c3]; exact Bool.false_ne_true)]
    exact ⟨c1, htb.2.2⟩
  · exact absurd c5 h2
theorem nxt (h : MS bs z t B i o) (h1 : ¬ kd bs z (plc bs z i) = -1) (h2 : ¬ kd bs z (plc bs z i) = -2) : ∃ B', F9_next B = some (0, B') ∧ MS bs z t B' (i + 1) o ∧ MFr B B' := by
  obtain ⟨t1, t2⟩ := h.at1 h1 h2
  obtain ⟨⟨h0, htb, h30, hsz⟩, h29⟩ := h
  have hte := te_le (bs := bs) t1
  obtain ⟨B', e, f, tb⟩ := next_B h0 hte.2 t2
  refine ⟨B', e, ⟨⟨h0.n f, tb, by rw [f.2 30 (by decide)]; exact h30, (sk_le hte.2).2⟩, by rw [f.2 29 (by decide)]; exact h29⟩, f.m⟩
theorem MS.up29 (h : MS bs z t B i o) (q : Nat) : MS bs z t (up2 B 0 29 (nI q)) i q := by
  obtain ⟨⟨h0, htb, h30, hsz⟩, h29⟩ := h
  have f : ∀ k, k ≠ 29 → up2 B 0 29 (nI q) 0 k = B 0 k := fun k hk => up2_nk hk
  refine ⟨⟨⟨by rw [f 23 (by decide)]; exact h0.1, by rw [f 24 (by decide)]; exact h0.2.1, fun j hj => by rw [up2_ne (by decide)]; exact h0.2.2.1 j hj, h0.2.2.2⟩, htb.cong (f 25 (by decide)) (f 26 (by decide)) (f 27 (by decide)) (gL_nk (by decide) (by decide)), by rw [f 30 (by decide)]; exact h30, hsz⟩, up2_at⟩
theorem opn (h : MS bs z t B i o) (ho : o < 5) (h1 : ¬ kd bs z (plc bs z i) = -1) (h2 : ¬ kd bs z (plc bs z i) = -2) : ∃ B', F9_opens B = some (1, B') ∧ MS bs z t B' (i + 1) (o + 1) ∧ MFr B B' := by
  obtain ⟨B', e, s, f⟩ := nxt (h.up29 (o + 1)) h1 h2
  refine ⟨B', ?_, s, (MFr.up (by decide)).tr f⟩
  unfold F9_opens
  rw [h.2, if_pos (fun q => by have := nI_inj (by omega) (by decide) (q.trans (show (5 : Int32) = nI 5 from rfl)); omega), nI_1, e]
  rfl
theorem emit_A (c10 : A 9 10 = nI L) (hL : L < 160) (c : Int32) : F3_emit A c = some (0, up2 (up2 A 14 L c) 9 10 (nI (L + 1))) := by
  unfold F3_emit
  rw [c10, if_pos (show nI L < 160 from nI_lt (b := 160) hL (by decide)), if_pos (inb_of hL (by decide)), nI_clamp (by omega), nI_1]
theorem CS.emit (h : CS bs z m A i L) (hL : L + 1 ≤ i) (c : Int32) : ∃ A', F3_emit A c = some (0, A') ∧ CS bs z m A' i (L + 1) ∧ CFr A A' ∧ A' 14 L = c ∧ ∀ j, j < L → A' 14 j = A 14 j := by
  obtain ⟨hx, hi, c6, c7, c8, c10, hL0⟩ := h
  have hm := hx.2.2.2.2.1
  have f : CFr A (up2 (up2 A 14 L c) 9 10 (nI (L + 1))) := CFr.up14.tr (CFr.up9 (.inr (.inr (.inr rfl))))
  have u : ∀ k, k ≠ 10 → up2 (up2 A 14 L c) 9 10 (nI (L + 1)) 9 k = A 9 k := fun k hk => by rw [up2_nk hk, up2_ne (by decide)]
  refine ⟨_, emit_A c10 (by omega) c, ⟨hx.c f, hi, by rw [u 6 (by decide)]; exact c6, by rw [u 7 (by decide)]; exact c7, by rw [u 8 (by decide)]; exact c8, up2_at, hL⟩, f, by rw [up2_ne (by decide), up2_at], fun j hj => by rw [up2_ne (by decide), up2_nk (by omega)]⟩
theorem CF.emit {f : Nat} (h : CF A f) (c : Int32) : ∃ A', F3_emit A c = some (0, A') ∧ CF A' f ∧ CFr A A' ∧ (∀ L0, A 9 10 = nI L0 → L0 ≤ 160 → ∀ j, j < L0 → A' 14 j = A 14 j) := by
  obtain ⟨c7, c8, hf, L, hL, c10⟩ := h
  by_cases hl : L < 160
  · have u : ∀ k, k ≠ 10 → up2 (up2 A 14 L c) 9 10 (nI (L + 1)) 9 k = A 9 k := fun k hk => by rw [up2_nk hk, up2_ne (by decide)]
    refine ⟨_, emit_A c10 hl c, ⟨by rw [u 7 (by decide)]; exact c7, by rw [u 8 (by decide)]; exact c8, hf, L + 1, by omega, up2_at⟩, CFr.up14.tr (CFr.up9 (.inr (.inr (.inr rfl)))), fun L0 h0 h1 j hj => ?_⟩
    have : L = L0 := nI_inj (by omega) (by omega) (c10.symm.trans h0)
    rw [up2_ne (by decide), up2_nk (by omega)]
  · refine ⟨A, ?_, ⟨c7, c8, hf, L, hL, c10⟩, CFr.rf, fun _ _ _ _ _ => rfl⟩
    unfold F3_emit
    rw [c10, if_neg (show ¬ nI L < 160 from nI_nlt (b := 160) (by omega) (by omega))]
theorem CS.fail (hz : z ≤ 160) (h : CS bs z m A i L) : ∃ A', F3_fail A = some (0, A') ∧ CF A' (plc bs z i) ∧ CFr A A' ∧ A' 14 = A 14 := by
  obtain ⟨hx, hi, c6, c7, c8, c10, hL⟩ := h
  have hm := hx.2.2.2.2.1
  have hp : plc bs z i ≤ 160 := by
    obtain ⟨x1, x2, x3, x4, x5, x6, x7, x8⟩ := hx
    have h2 : plc bs z i ≤ z := (plc_le (fun j hj => (x7 j (by omega)).1)).1
    omega
  refine ⟨up2 (up2 A 9 8 (nI (plc bs z i))) 9 7 (-2), ?_, ⟨up2_at, by rw [up2_nk (by decide), up2_at], hp, L, by omega, by rw [up2_nk (by decide), up2_nk (by decide)]; exact c10⟩, (CFr.up9 (.inr (.inr (.inl rfl)))).tr (CFr.up9 (.inr (.inl rfl))), by rw [up2_ne (by decide), up2_ne (by decide)]⟩
  unfold F3_fail
  rw [c8, if_neg (by decide), c6, if_pos (inb_of (by omega) (by decide)), nI_clamp (by omega), (hx.2.2.2.2.2.1 i hi).2.1]
theorem CF.fail {f : Nat} (h : CF A f) : F3_fail A = some (0, A) := by
  unfold F3_fail
  rw [h.2.1, if_pos (nI_m1 (by have := h.2.2.1; omega)), up_id h.1]
theorem MS.fail (h : MS bs z t B i o) : F9_fail B = some (0, failB B) ∧ MF (failB B) (plc bs z i) ∧ MFr B (failB B) := by
  obtain ⟨⟨h0, ⟨h27, -⟩, h30, hsz⟩, h29⟩ := h
  refine ⟨fail_B h30, ⟨?_, ?_⟩, (MFr.up (by decide)).tr (MFr.up (by decide))⟩
  · unfold failB
    rw [up2_nk (by decide), up2_at]
  · unfold failB
    rw [up2_at, h27]
theorem MF.bad {f : Nat} (h : MF B f) : ¬ B 0 30 = 0 := by rw [h.1]; decide
theorem MF.up29 {f : Nat} (h : MF B f) (v : Int32) : MF (up2 B 0 29 v) f := ⟨by rw [up2_nk (by decide)]; exact h.1, by rw [up2_nk (by decide)]; exact h.2⟩
end
