/-- all relations together -/
def RR (A B : Mem) : Prop := ∃ n o t z m r, RL n o A B ∧ RG t A B ∧ RP z A B ∧ RS A B ∧ RI m A B ∧ RT m r A B
theorem RP.cong {z : Nat} {A A' B B' : Mem} (h : RP z A B) (h1 : A' 9 1 = A 9 1) (h2 : A' 10 = A 10) (k1 : B' 0 6 = B 0 6) (k2 : B' 3 = B 3) : RP z A' B' := by
  unfold RP at *
  rw [h1, h2, k1, k2]
  exact h
theorem RT.rul {m r r' : Nat} {A A' B B' : Mem} (h : RT m r A B) (h1 : A' 16 5 = A 16 5) (h2 : A' 16 6 = nI r') (hr : r' < m) (h3 : ∀ c, 18 ≤ c → c < 31 → A' c = A c) (k1 : B' 0 3 = B 0 3) (k2 : B' 0 4 = nI r') (k3 : B' 1 = B 1) (k4 : B' 2 = B 2) : RT m r' A' B' := by
  obtain ⟨m6, rm, a5, b3, a6, b4, hT⟩ := h
  refine ⟨m6, hr, h1.trans a5, k1.trans b3, h2, k2, fun t ht => (hT t ht).cong (h3 _ (by omega) (by omega)) (h3 _ (by omega) (by omega)) (fun j _ => by rw [k3]) (by rw [k4])⟩
theorem RT.cong {m r : Nat} {A A' B B' : Mem} (h : RT m r A B) (h1 : A' 16 5 = A 16 5) (h2 : A' 16 6 = A 16 6) (h3 : ∀ c, 18 ≤ c → c < 31 → A' c = A c) (k1 : B' 0 3 = B 0 3) (k2 : B' 0 4 = B 0 4) (k3 : B' 1 = B 1) (k4 : B' 2 = B 2) : RT m r A' B' :=
  h.rul h1 (h2.trans h.2.2.2.2.1) h.2.1 h3 k1 (k2.trans h.2.2.2.2.2.1) k3 k4
theorem rng13 {P : Nat → Prop} (h : P 18 ∧ P 19 ∧ P 20 ∧ P 21 ∧ P 22 ∧ P 23 ∧ P 24 ∧ P 25 ∧ P 26 ∧ P 27 ∧ P 28 ∧ P 29 ∧ P 30) : ∀ c, 18 ≤ c → c < 31 → P c := fun c a b => by
  obtain ⟨h1, h2, h3, h4, h5, h6, h7, h8, h9, h10, h11, h12, h13⟩ := h
  rcases (show c = 18 ∨ c = 19 ∨ c = 20 ∨ c = 21 ∨ c = 22 ∨ c = 23 ∨ c = 24 ∨ c = 25 ∨ c = 26 ∨ c = 27 ∨ c = 28 ∨ c = 29 ∨ c = 30 by omega) with rfl | rfl | rfl | rfl | rfl | rfl | rfl | rfl | rfl | rfl | rfl | rfl | rfl <;> assumption
/-- only cells outside are touched -/
theorem FA.out {cs : List Nat} {A A' : Mem} (f : FA cs A A') (lo hi : Nat) (h : ∀ c ∈ cs, c < lo ∨ hi ≤ c) : ∀ c, lo ≤ c → c < hi → A' c = A c := fun c a b => f c (fun hc => by have := h c hc; omega)
theorem FB.out {cs ks : List Nat} {B B' : Mem} (f : FB cs ks B B') (lo hi : Nat) (h : ∀ k ∈ ks, k < lo ∨ hi ≤ k) : ∀ k, lo ≤ k → k < hi → B' 0 k = B 0 k := fun k a b => f.2 k (fun hc => by have := h k hc; omega)
theorem FA.sh {cs : List Nat} {A A' : Mem} (f : FA cs A A') (h : ∀ c ∈ cs, c < 46 ∨ 50 ≤ c) : ∀ s, s < 4 → A' (46 + s) = A (46 + s) := fun s hs => f.out 46 50 h (46 + s) (by omega) (by omega)
theorem RR.s {A B A' B' : Mem} (h : RR A B) (a : SA A A') (b : SM B B') : RR A' B' := by
  obtain ⟨n, o, t, z, m, r, hL, hG, hP, hS, hI, hT⟩ := h
  have a' : FA [31, 32, 34, 35, 36, 37, 38, 39, 40, 41] A A' := a
  refine ⟨n, o, t, z, m, r, hL.s a b, hG.s a b, ?_, ?_, ?_, ?_⟩
  · exact hP.cong (by rw [a 9 (by decide)]) (a 10 (by decide)) (b.2 6 (by decide)) (b.1 3 (by decide) (by decide))
  · exact hS.cong (a 43 (by decide)) (a 44 (by decide)) (a'.sh (by decide)) (b.1 17 (by decide) (by decide)) (b.1 18 (by decide) (by decide)) (b.1 19 (by decide) (by decide)) (b.1 20 (by decide) (by decide))
  · exact hI.cong (Nat.le_refl _) (a'.out 50 56 (by decide)) (fun k u v => b.2 k (by omega)) (b.1 15 (by decide) (by decide)) (b.1 16 (by decide) (by decide))
  · exact hT.cong (by rw [a 16 (by decide)]) (by rw [a 16 (by decide)]) (a'.out 18 31 (by decide)) (b.2 3 (by decide)) (b.2 4 (by decide)) (b.1 1 (by decide) (by decide)) (b.1 2 (by decide) (by decide))
theorem SB.sm {B B' : Mem} (h : SB B B') : SM B B' := h.gb.sm
theorem RR.tell {n o m r : Nat} {A B : Mem} (hL : RL n o A B) (hT : RT m r A B) : ∃ tv, TellA tv A ∧ TellB tv B ∧ TvOk tv := hT.tell hL.2.2.1 hL.2.2.2.1 hL.2.2.2.2.1 hL.2.2.2.2.2.1
theorem told_S {A B : Mem} (h : RR A B) (a1 a2 : Int32) : ∃ v A' B', F8_told A a1 a2 = some (v, A') ∧ F9_told B a1 a2 = some (v, B') ∧ RR A' B' := by
  have h0 := h
  obtain ⟨n, o, t, z, m, r, hL, hG, hP, hS, hI, hT⟩ := h
  obtain ⟨tv, tA, tB, tO⟩ := RR.tell hL hT
  obtain ⟨v, A', B', p1, p2, p3, p4⟩ := told_R tA tB tO hL hG a1 a2
  exact ⟨v, A', B', p1, p2, h0.s p3.sa p4.sm⟩
theorem lines_S {A B : Mem} (h : RR A B) (a1 : Int32) : ∃ v A' B', F8_lines A a1 = some (v, A') ∧ F9_lines B a1 = some (v, B') ∧ RR A' B' := by
  have h0 := h
  obtain ⟨n, o, t, z, m, r, hL, hG, hP, hS, hI, hT⟩ := h
  obtain ⟨tv, tA, tB, tO⟩ := RR.tell hL hT
  obtain ⟨v, A', B', p1, p2, p3, p4⟩ := lines_R tA tB hL a1
  exact ⟨v, A', B', p1, p2, h0.s p3.sa p4.sm⟩
theorem served_S {A B : Mem} (h : RR A B) (a1 a2 : Int32) : ∃ v A' B', F8_served A a1 a2 = some (v, A') ∧ F9_served B a1 a2 = some (v, B') ∧ RR A' B' := by
  have h0 := h
  obtain ⟨n, o, t, z, m, r, hL, hG, hP, hS, hI, hT⟩ := h
  obtain ⟨tv, tA, tB, tO⟩ := RR.tell hL hT
  obtain ⟨v, A', B', p1, p2, p3, p4⟩ := served_R tA tB hL hS a1 a2
  exact ⟨v, A', B', p1, p2, h0.s p3.sa p4.sm⟩
theorem turn_S {A B : Mem} (h : RR A B) : ∃ v A' B', F8_turn A = some (v, A') ∧ F9_turn B = some (v, B') ∧ RR A' B' := by
  have h0 := h
  obtain ⟨n, o, t, z, m, r, hL, hG, hP, hS, hI, hT⟩ := h
  obtain ⟨tv, tA, tB, tO⟩ := RR.tell hL hT
  obtain ⟨v, A', B', p1, p2, p3, p4⟩ := turn_R tA tB tO hL 
  exact ⟨v, A', B', p1, p2, h0.s p3.sa p4.sm⟩
theorem change_S {A B : Mem} (h : RR A B) (a1 : Int32) : ∃ v A' B', F8_change A a1 = some (v, A') ∧ F9_change B a1 = some (v, B') ∧ RR A' B' := by
  have h0 := h
  obtain ⟨n, o, t, z, m, r, hL, hG, hP, hS, hI, hT⟩ := h
  obtain ⟨tv, tA, tB, tO⟩ := RR.tell hL hT
  obtain ⟨v, A', B', p1, p2, p3, p4⟩ := change_R tA tB tO hL a1
  exact ⟨v, A', B', p1, p2, h0.s p3.sa p4.sm⟩
theorem errand_S {A B : Mem} (h : RR A B) (a1 a2 : Int32) : ∃ v A' B', F8_errand A a1 a2 = some (v, A') ∧ F9_errand B a1 a2 = some (v, B') ∧ RR A' B' := by
  have h0 := h
  obtain ⟨n, o, t, z, m, r, hL, hG, hP, hS, hI, hT⟩ := h
  obtain ⟨tv, tA, tB, tO⟩ := RR.tell hL hT
  obtain ⟨v, A', B', p1, p2, p3, p4⟩ := errand_R tA tB tO hL hG hS a1 a2
  exact ⟨v, A', B', p1, p2, h0.s p3 p4⟩
theorem likely_S {A B : Mem} (h : RR A B) (a1 : Int32) : ∃ v A' B', F8_likely A a1 = some (v, A') ∧ F9_likely B a1 = some (v, B') ∧ RR A' B' := by
  have h0 := h
  obtain ⟨n, o, t, z, m, r, hL, hG, hP, hS, hI, hT⟩ := h
  obtain ⟨tv, tA, tB, tO⟩ := RR.tell hL hT
  obtain ⟨v, A', B', p1, p2, p3, p4⟩ := likely_R tA tB tO hL hG hS a1
  exact ⟨v, A', B', p1, p2, h0.s p3 p4⟩
theorem slip_S {A B : Mem} (h : RR A B) (a1 a2 : Int32) : ∃ v A' B', F8_slip A a1 a2 = some (v, A') ∧ F9_slip B a1 a2 = some (v, B') ∧ RR A' B' := by
  have h0 := h
  obtain ⟨n, o, t, z, m, r, hL, hG, hP, hS, hI, hT⟩ := h
  obtain ⟨tv, tA, tB, tO⟩ := RR.tell hL hT
  obtain ⟨v, A', B', p1, p2, p3, p4⟩ := slip_R tA tB tO hL hG hS a1 a2
  exact ⟨v, A', B', p1, p2, h0.s p3 p4⟩
theorem latest_S {A B : Mem} (h : RR A B) (a1 a2 : Int32) : ∃ v A' B', F8_latest A a1 a2 = some (v, A') ∧ F9_latest B a1 a2 = some (v, B') ∧ RR A' B' := by
  have h0 := h
  obtain ⟨n, o, t, z, m, r, hL, hG, hP, hS, hI, hT⟩ := h
  obtain ⟨tv, tA, tB, tO⟩ := RR.tell hL hT
  obtain ⟨v, A', B', p1, p2, p3, p4⟩ := latest_R tA tB tO hL hG a1 a2
  exact ⟨v, A', B', p1, p2, h0.s p3 p4⟩
theorem nearest_S {A B : Mem} (h : RR A B) (a1 : Int32) : ∃ v A' B', F8_nearest A a1 = some (v, A') ∧ F9_nearest B a1 = some (v, B') ∧ RR A' B' := by
  have h0 := h
  obtain ⟨n, o, t, z, m, r, hL, hG, hP, hS, hI, hT⟩ := h
  obtain ⟨tv, tA, tB, tO⟩ := RR.tell hL hT
  obtain ⟨v, A', B', p1, p2, p3, p4⟩ := nearest_R tA tB tO hL hG a1
  exact ⟨v, A', B', p1, p2, h0.s p3 p4⟩
theorem best_S {A B : Mem} (h : RR A B) (a1 : Int32) : ∃ v A' B', F8_best A a1 = some (v, A') ∧ F9_best B a1 = some (v, B') ∧ RR A' B' := by
  have h0 := h
  obtain ⟨n, o, t, z, m, r, hL, hG, hP, hS, hI, hT⟩ := h
  obtain ⟨tv, tA, tB, tO⟩ := RR.tell hL hT
  obtain ⟨v, A', B', p1, p2, p3, p4⟩ := best_R tA tB tO hL hG a1
  exact ⟨v, A', B', p1, p2, h0.s p3 p4⟩
theorem more_S {A B : Mem} (h : RR A B) (a1 : Int32) : ∃ v A' B', F8_more A a1 = some (v, A') ∧ F9_more B a1 = some (v, B') ∧ RR A' B' := by
  have h0 := h
  obtain ⟨n, o, t, z, m, r, hL, hG, hP, hS, hI, hT⟩ := h
  obtain ⟨tv, tA, tB, tO⟩ := RR.tell hL hT
  obtain ⟨v, A', B', p1, p2, p3, p4⟩ := more_R tA tB tO hL hG a1
  exact ⟨v, A', B', p1, p2, h0.s p3 p4⟩
theorem drawn_S {A B : Mem} (h : RR A B) (a1 : Int32) : ∃ v A' B', F8_drawn A a1 = some (v, A') ∧ F9_drawn B a1 = some (v, B') ∧ RR A' B' := by
  have h0 := h
  obtain ⟨n, o, t, z, m, r, hL, hG, hP, hS, hI, hT⟩ := h
  obtain ⟨tv, tA, tB, tO⟩ := RR.tell hL hT
  obtain ⟨v, A', B', p1, p2, p3, p4⟩ := drawn_R tA tB tO hL hG a1
  exact ⟨v, A', B', p1, p2, h0.s p3 p4⟩
theorem leave_S {A B : Mem} (h : RR A B) : ∃ v A' B', F8_leave A = some (v, A') ∧ F9_leave B = some (v, B') ∧ RR A' B' := by
  have h0 := h
  obtain ⟨n, o, t, z, m, r, hL, hG, hP, hS, hI, hT⟩ := h
  obtain ⟨tv, tA, tB, tO⟩ := RR.tell hL hT
  obtain ⟨v, A', B', p1, p2, p3, p4⟩ := leave_R tA tB tO hL hG 
  exact ⟨v, A', B', p1, p2, h0.s p3 p4⟩
theorem chance_S {A B : Mem} (h : RR A B) (a1 a2 a3 : Int32) : ∃ v A' B', F8_chance A a1 a2 a3 = some (v, A') ∧ F9_chance B a1 a2 a3 = some (v, B') ∧ RR A' B' := by
  have h0 := h
  obtain ⟨n, o, t, z, m, r, hL, hG, hP, hS, hI, hT⟩ := h
  obtain ⟨tv, tA, tB, tO⟩ := RR.tell hL hT
  obtain ⟨v, A', B', p1, p2, p3, p4⟩ := chance_R tA tB tO hL hG a1 a2 a3
  exact ⟨v, A', B', p1, p2, h0.s p3 p4⟩
theorem stand_S {A B : Mem} (h : RR A B) (a1 : Int32) : ∃ v A' B', F8_stand A a1 = some (v, A') ∧ F9_stand B a1 = some (v, B') ∧ RR A' B' := by
  have h0 := h
  obtain ⟨n, o, t, z, m, r, hL, hG, hP, hS, hI, hT⟩ := h
  have h16 : (16 : Nat) ≠ 1 := by decide
  obtain ⟨v, A', B', p1, p2, p3, p4⟩ := stand_R (n := n) (o := o) (fun p _ => by
    have hT2 : RT m r (up2 A 1 4 (nI p)) (up2 B 0 11 (nI p)) := hT.cong (by rw [up2_ne h16]) (by rw [up2_ne h16]) (fun c u w => up2_ne (by omega)) (up2_nk (by decide)) (up2_nk (by decide)) (up2_ne (by decide)) (up2_ne (by decide))
    obtain ⟨tv, q1, q2, q3⟩ := hT2.tell (n := n) (o := p) ((up2_nk (by decide)).trans hL.2.2.1) ((up2_nk (by decide)).trans hL.2.2.2.1) up2_at up2_at
    exact ⟨tv, q3, q1, q2⟩) hL hG a1
  exact ⟨v, A', B', p1, p2, h0.s p3 p4⟩
theorem count_S {A B : Mem} (h : RR A B) (a1 : Int32) : ∃ v A' B', F8_count A a1 = some (v, A') ∧ F9_count B a1 = some (v, B') ∧ RR A' B' := by
  have h0 := h
  obtain ⟨n, o, t, z, m, r, hL, hG, hP, hS, hI, hT⟩ := h
  obtain ⟨v, p1, p2⟩ := count_R (hL.2.2.1.trans hL.2.2.2.1.symm) (hG.2.1.trans hG.2.2.1.symm) (hL.2.2.2.2.1.trans hL.2.2.2.2.2.1.symm) (hT.2.2.1.trans hT.2.2.2.1.symm) (hP.2.1.trans hP.2.2.1.symm) (hT.2.2.2.2.1.trans hT.2.2.2.2.2.1.symm) hL.2.2.2.2.2.2.1 a1
  exact ⟨v, A, B, p1, p2, h0⟩
theorem taken_S {A B : Mem} (h : RR A B) (a1 a2 : Int32) : ∃ v A' B', F8_taken A a1 a2 = some (v, A') ∧ F9_taken B a1 a2 = some (v, B') ∧ RR A' B' := by
  have h0 := h
  obtain ⟨n, o, t, z, m, r, hL, hG, hP, hS, hI, hT⟩ := h
  obtain ⟨v, p1, p2⟩ := taken_R hL a1 a2
  exact ⟨v, A, B, p1, p2, h0⟩
theorem customer_S {A B : Mem} (h : RR A B) (a1 a2 : Int32) : ∃ v A' B', F8_customer A a1 a2 = some (v, A') ∧ F9_customer B a1 a2 = some (v, B') ∧ RR A' B' := by
  have h0 := h
  obtain ⟨n, o, t, z, m, r, hL, hG, hP, hS, hI, hT⟩ := h
  obtain ⟨v, A', B', n', p1, p2, p3, fa, fb⟩ := customer_R hL a1 a2
  exact ⟨v, A', B', p1, p2, n', o, t, z, m, r, p3, hG.cong (fa 5 (by decide)) (fa 6 (by decide)) (fa 7 (by decide)) (fa 8 (by decide)) (fb.2 16 (by decide)) (fb.1 7 (by decide) (by decide)) (fb.1 8 (by decide) (by decide)) (fb.1 9 (by decide) (by decide)), hP.cong (by rw [fa 9 (by decide)]) (fa 10 (by decide)) (fb.2 6 (by decide)) (fb.1 3 (by decide) (by decide)), hS.cong (fa 43 (by decide)) (fa 44 (by decide)) (fa.sh (by decide)) (fb.1 17 (by decide) (by decide)) (fb.1 18 (by decide) (by decide)) (fb.1 19 (by decide) (by decide)) (fb.1 20 (by decide) (by decide)), hI.cong (Nat.le_refl _) (fa.out 50 56 (by decide)) (fb.out 47 52 (by decide)) (fb.1 15 (by decide) (by decide)) (fb.1 16 (by decide) (by decide)), hT.cong (by rw [fa 16 (by decide)]) (by rw [fa 16 (by decide)]) (fa.out 18 31 (by decide)) (fb.2 3 (by decide)) (fb.2 4 (by decide)) (fb.1 1 (by decide) (by decide)) (fb.1 2 (by decide) (by decide))⟩
theorem customers_S {A B : Mem} (h : RR A B) (a1 a2 a3 a4 : Int32) : ∃ v A' B', F8_customers A a1 a2 a3 a4 = some (v, A') ∧ F9_customers B a1 a2 a3 a4 = some (v, B') ∧ RR A' B' := by
  have h0 := h
  obtain ⟨n, o, t, z, m, r, hL, hG, hP, hS, hI, hT⟩ := h
  obtain ⟨v, A', B', n', p1, p2, p3, fa, fb⟩ := customers_R hL hS a1 a2 a3 a4
  exact ⟨v, A', B', p1, p2, n', o, t, z, m, r, p3, hG.cong (fa 5 (by decide)) (fa 6 (by decide)) (fa 7 (by decide)) (fa 8 (by decide)) (fb.2 16 (by decide)) (fb.1 7 (by decide) (by decide)) (fb.1 8 (by decide) (by decide)) (fb.1 9 (by decide) (by decide)), hP.cong (by rw [fa 9 (by decide)]) (fa 10 (by decide)) (fb.2 6 (by decide)) (fb.1 3 (by decide) (by decide)), hS.cong (fa 43 (by decide)) (fa 44 (by decide)) (fa.sh (by decide)) (fb.1 17 (by decide) (by decide)) (fb.1 18 (by decide) (by decide)) (fb.1 19 (by decide) (by decide)) (fb.1 20 (by decide) (by decide)), hI.cong (Nat.le_refl _) (fa.out 50 56 (by decide)) (fb.out 47 52 (by decide)) (fb.1 15 (by decide) (by decide)) (fb.1 16 (by decide) (by decide)), hT.cong (by rw [fa 16 (by decide)]) (by rw [fa 16 (by decide)]) (fa.out 18 31 (by decide)) (fb.2 3 (by decide)) (fb.2 4 (by decide)) (fb.1 1 (by decide) (by decide)) (fb.1 2 (by decide) (by decide))⟩
theorem thing_S {A B : Mem} (h : RR A B) (a1 a2 : Int32) : ∃ v A' B', F8_thing A a1 a2 = some (v, A') ∧ F9_thing B a1 a2 = some (v, B') ∧ RR A' B' := by
  have h0 := h
  obtain ⟨n, o, t, z, m, r, hL, hG, hP, hS, hI, hT⟩ := h
  obtain ⟨v, A', B', t', p1, p2, p3, fa, fb⟩ := thing_R hG a1 a2
  exact ⟨v, A', B', p1, p2, n, o, t', z, m, r, hL.cong (fa 1 (by decide)) (fa 2 (by decide)) (fa 3 (by decide)) (fa 4 (by decide)) (fb.2 10 (by decide)) (fb.2 11 (by decide)) (fb.2 12 (by decide)) (fb.1 4 (by decide) (by decide)) (fb.1 5 (by decide) (by decide)) (fb.1 6 (by decide) (by decide)), p3, hP.cong (by rw [fa 9 (by decide)]) (fa 10 (by decide)) (fb.2 6 (by decide)) (fb.1 3 (by decide) (by decide)), hS.cong (fa 43 (by decide)) (fa 44 (by decide)) (fa.sh (by decide)) (fb.1 17 (by decide) (by decide)) (fb.1 18 (by decide) (by decide)) (fb.1 19 (by decide) (by decide)) (fb.1 20 (by decide) (by decide)), hI.cong (Nat.le_refl _) (fa.out 50 56 (by decide)) (fb.out 47 52 (by decide)) (fb.1 15 (by decide) (by decide)) (fb.1 16 (by decide) (by decide)), hT.cong (by rw [fa 16 (by decide)]) (by rw [fa 16 (by decide)]) (fa.out 18 31 (by decide)) (fb.2 3 (by decide)) (fb.2 4 (by decide)) (fb.1 1 (by decide) (by decide)) (fb.1 2 (by decide) (by decide))⟩
theorem set_S {A B : Mem} (h : RR A B) (a1 a2 a3 : Int32) : ∃ v A' B', F8_set A a1 a2 a3 = some (v, A') ∧ F9_set B a1 a2 a3 = some (v, B') ∧ RR A' B' := by
  have h0 := h
  obtain ⟨n, o, t, z, m, r, hL, hG, hP, hS, hI, hT⟩ := h
  obtain ⟨v, A', B', o', p1, p2, p3, p4, fa, -, fb⟩ := set_R hL hG a1 a2 a3
  exact ⟨v, A', B', p1, p2, n, o', t, z, m, r, p3, p4, hP.cong (by rw [fa 9 (by decide)]) (fa 10 (by decide)) (fb.2 6 (by decide)) (fb.1 3 (by decide) (by decide)), hS.cong (fa 43 (by decide)) (fa 44 (by decide)) (fa.sh (by decide)) (fb.1 17 (by decide) (by decide)) (fb.1 18 (by decide) (by decide)) (fb.1 19 (by decide) (by decide)) (fb.1 20 (by decide) (by decide)), hI.cong (Nat.le_refl _) (fa.out 50 56 (by decide)) (fb.out 47 52 (by decide)) (fb.1 15 (by decide) (by decide)) (fb.1 16 (by decide) (by decide)), hT.cong (by rw [fa 16 (by decide)]) (by rw [fa 16 (by decide)]) (fa.out 18 31 (by decide)) (fb.2 3 (by decide)) (fb.2 4 (by decide)) (fb.1 1 (by decide) (by decide)) (fb.1 2 (by decide) (by decide))⟩
theorem force_S {A B : Mem} (h : RR A B) (a1 : Int32) : ∃ v A' B', F8_force A a1 = some (v, A') ∧ F9_force B a1 = some (v, B') ∧ RR A' B' := by
  have h0 := h
  obtain ⟨n, o, t, z, m, r, hL, hG, hP, hS, hI, hT⟩ := h
  obtain ⟨v, A', B', r', p1, p2, q1, q2, q3, q4, fa, fb⟩ := force_R hT.1 hT.2.2.1 hT.2.2.2.1 hT.2.2.2.2.1 hT.2.2.2.2.2.1 hT.2.1 a1
  exact ⟨v, A', B', p1, p2, n, o, t, z, m, r', hL.cong (fa 1 (by decide)) (fa 2 (by decide)) (fa 3 (by decide)) (fa 4 (by decide)) (fb.2 10 (by decide)) (fb.2 11 (by decide)) (fb.2 12 (by decide)) (fb.1 4 (by decide) (by decide)) (fb.1 5 (by decide) (by decide)) (fb.1 6 (by decide) (by decide)), hG.cong (fa 5 (by decide)) (fa 6 (by decide)) (fa 7 (by decide)) (fa 8 (by decide)) (fb.2 16 (by decide)) (fb.1 7 (by decide) (by decide)) (fb.1 8 (by decide) (by decide)) (fb.1 9 (by decide) (by decide)), hP.cong (by rw [fa 9 (by decide)]) (fa 10 (by decide)) (fb.2 6 (by decide)) (fb.1 3 (by decide) (by decide)), hS.cong (fa 43 (by decide)) (fa 44 (by decide)) (fa.sh (by decide)) (fb.1 17 (by decide) (by decide)) (fb.1 18 (by decide) (by decide)) (fb.1 19 (by decide) (by decide)) (fb.1 20 (by decide) (by decide)), hI.cong (Nat.le_refl _) (fa.out 50 56 (by decide)) (fb.out 47 52 (by decide)) (fb.1 15 (by decide) (by decide)) (fb.1 16 (by decide) (by decide)), hT.rul (q4 5 (by decide)) q1 q3 (fa.out 18 31 (by decide)) (fb.2 3 (by decide)) q2 (fb.1 1 (by decide) (by decide)) (fb.1 2 (by decide) (by decide))⟩
theorem feed_S {A B : Mem} (h : RR A B) (a1 : Int32) : ∃ v A' B', F8_feed A a1 = some (v, A') ∧ F9_feed B a1 = some (v, B') ∧ RR A' B' := by
  have h0 := h
  obtain ⟨n, o, t, z, m, r, hL, hG, hP, hS, hI, hT⟩ := h
  obtain ⟨v, A', B', z', p1, p2, p3, q4, fa, fb⟩ := feed_R hP a1
  exact ⟨v, A', B', p1, p2, n, o, t, z', m, r, hL.cong (fa 1 (by decide)) (fa 2 (by decide)) (fa 3 (by decide)) (fa 4 (by decide)) (fb.2 10 (by decide)) (fb.2 11 (by decide)) (fb.2 12 (by decide)) (fb.1 4 (by decide) (by decide)) (fb.1 5 (by decide) (by decide)) (fb.1 6 (by decide) (by decide)), hG.cong (fa 5 (by decide)) (fa 6 (by decide)) (fa 7 (by decide)) (fa 8 (by decide)) (fb.2 16 (by decide)) (fb.1 7 (by decide) (by decide)) (fb.1 8 (by decide) (by decide)) (fb.1 9 (by decide) (by decide)), p3, hS.cong (fa 43 (by decide)) (fa 44 (by decide)) (fa.sh (by decide)) (fb.1 17 (by decide) (by decide)) (fb.1 18 (by decide) (by decide)) (fb.1 19 (by decide) (by decide)) (fb.1 20 (by decide) (by decide)), hI.cong (Nat.le_refl _) (fa.out 50 56 (by decide)) (fb.out 47 52 (by decide)) (fb.1 15 (by decide) (by decide)) (fb.1 16 (by decide) (by decide)), hT.cong (by rw [fa 16 (by decide)]) (by rw [fa 16 (by decide)]) (fa.out 18 31 (by decide)) (fb.2 3 (by decide)) (fb.2 4 (by decide)) (fb.1 1 (by decide) (by decide)) (fb.1 2 (by decide) (by decide))⟩
theorem image_S {A B : Mem} (h : RR A B) : ∃ v A' B', F8_image A = some (v, A') ∧ F9_image B = some (v, B') ∧ RR A' B' := by
  have h0 := h
  obtain ⟨n, o, t, z, m, r, hL, hG, hP, hS, hI, hT⟩ := h
  obtain ⟨A', B', p1, p2, p3, fa, fb⟩ := image_R hL hG hT.2.2.2.2.1 hT.2.2.2.2.2.1 hT.2.1
  exact ⟨_, A', B', p1, p2, n, o, t, z, m, r, hL.cong (fa 1 (by decide)) (fa 2 (by decide)) (fa 3 (by decide)) (fa 4 (by decide)) (fb.2 10 (by decide)) (fb.2 11 (by decide)) (fb.2 12 (by decide)) (fb.1 4 (by decide) (by decide)) (fb.1 5 (by decide) (by decide)) (fb.1 6 (by decide) (by decide)), hG.cong (fa 5 (by decide)) (fa 6 (by decide)) (fa 7 (by decide)) (fa 8 (by decide)) (fb.2 16 (by decide)) (fb.1 7 (by decide) (by decide)) (fb.1 8 (by decide) (by decide)) (fb.1 9 (by decide) (by decide)), hP.cong (by rw [fa 9 (by decide)]) (fa 10 (by decide)) (fb.2 6 (by decide)) (fb.1 3 (by decide) (by decide)), hS.cong (fa 43 (by decide)) (fa 44 (by decide)) (fa.sh (by decide)) (fb.1 17 (by decide) (by decide)) (fb.1 18 (by decide) (by decide)) (fb.1 19 (by decide) (by decide)) (fb.1 20 (by decide) (by decide)), p3, hT.cong (by rw [fa 16 (by decide)]) (by rw [fa 16 (by decide)]) (fa.out 18 31 (by decide)) (fb.2 3 (by decide)) (fb.2 4 (by decide)) (fb.1 1 (by decide) (by decide)) (fb.1 2 (by decide) (by decide))⟩
theorem back_S {A B : Mem} (h : RR A B) : ∃ v A' B', F8_back A = some (v, A') ∧ F9_back B = some (v, B') ∧ RR A' B' := by
  have h0 := h
  obtain ⟨n, o, t, z, m, r, hL, hG, hP, hS, hI, hT⟩ := h
  obtain ⟨v, A', B', n', o', t', r', p1, p2, p3, p4, q1, q2, q3, fa, q4, fb⟩ := back_R hL hG hI hT.2.2.2.2.1 hT.2.2.2.2.2.1 hT.2.1
  exact ⟨v, A', B', p1, p2, n', o', t', z, m, r', p3, p4, hP.cong (by rw [fa 9 (by decide)]) (fa 10 (by decide)) (fb.2 6 (by decide)) (fb.1 3 (by decide) (by decide)), hS.cong (fa 43 (by decide)) (fa 44 (by decide)) (fa.sh (by decide)) (fb.1 17 (by decide) (by decide)) (fb.1 18 (by decide) (by decide)) (fb.1 19 (by decide) (by decide)) (fb.1 20 (by decide) (by decide)), hI.cong (Nat.le_refl _) (fa.out 50 56 (by decide)) (fb.out 47 52 (by decide)) (fb.1 15 (by decide) (by decide)) (fb.1 16 (by decide) (by decide)), hT.rul (q4 5 (by decide)) q1 q3 (fa.out 18 31 (by decide)) (fb.2 3 (by decide)) q2 (fb.1 1 (by decide) (by decide)) (fb.1 2 (by decide) (by decide))⟩
theorem sheet_S {A B : Mem} (h : RR A B) (a1 a2 a3 : Int32) : ∃ v A' B', F8_sheet A a1 a2 a3 = some (v, A') ∧ F9_sheet B a1 a2 a3 = some (v, B') ∧ RR A' B' := by
  have h0 := h
  obtain ⟨n, o, t, z, m, r, hL, hG, hP, hS, hI, hT⟩ := h
  obtain ⟨v, A', B', p1, p2, p3, fa, q4⟩ := sheet_R hS a1 a2 a3
  exact ⟨v, A', B', p1, p2, n, o, t, z, m, r, hL.cong (fa 1 (by decide)) (fa 2 (by decide)) (fa 3 (by decide)) (fa 4 (by decide)) (by rw [q4 0 (by decide) (by decide) (by decide) (by decide)]) (by rw [q4 0 (by decide) (by decide) (by decide) (by decide)]) (by rw [q4 0 (by decide) (by decide) (by decide) (by decide)]) (q4 4 (by decide) (by decide) (by decide) (by decide)) (q4 5 (by decide) (by decide) (by decide) (by decide)) (q4 6 (by decide) (by decide) (by decide) (by decide)), hG.cong (fa 5 (by decide)) (fa 6 (by decide)) (fa 7 (by decide)) (fa 8 (by decide)) (by rw [q4 0 (by decide) (by decide) (by decide) (by decide)]) (q4 7 (by decide) (by decide) (by decide) (by decide)) (q4 8 (by decide) (by decide) (by decide) (by decide)) (q4 9 (by decide) (by decide) (by decide) (by decide)), hP.cong (by rw [fa 9 (by decide)]) (fa 10 (by decide)) (by rw [q4 0 (by decide) (by decide) (by decide) (by decide)]) (q4 3 (by decide) (by decide) (by decide) (by decide)), p3, hI.cong (Nat.le_refl _) (fa.out 50 56 (by decide)) (fun k u w => (by rw [q4 0 (by decide) (by decide) (by decide) (by decide)])) (q4 15 (by decide) (by decide) (by decide) (by decide)) (q4 16 (by decide) (by decide) (by decide) (by decide)), hT.cong (by rw [fa 16 (by decide)]) (by rw [fa 16 (by decide)]) (fa.out 18 31 (by decide)) (by rw [q4 0 (by decide) (by decide) (by decide) (by decide)]) (by rw [q4 0 (by decide) (by decide) (by decide) (by decide)]) (q4 1 (by decide) (by decide) (by decide) (by decide)) (q4 2 (by decide) (by decide) (by decide) (by decide))⟩
theorem cell_S {A B : Mem} (h : RR A B) (a1 a2 a3 : Int32) : ∃ v A' B', F8_cell A a1 a2 a3 = some (v, A') ∧ F9_cell B a1 a2 a3 = some (v, B') ∧ RR A' B' := by
  have h0 := h
  obtain ⟨n, o, t, z, m, r, hL, hG, hP, hS, hI, hT⟩ := h
  obtain ⟨v, A', B', p1, p2, p3, fa, q4⟩ := cell_R hS a1 a2 a3
  exact ⟨v, A', B', p1, p2, n, o, t, z, m, r, hL.cong (fa 1 (by decide)) (fa 2 (by decide)) (fa 3 (by decide)) (fa 4 (by decide)) (by rw [q4 0 (by decide)]) (by rw [q4 0 (by decide)]) (by rw [q4 0 (by decide)]) (q4 4 (by decide)) (q4 5 (by decide)) (q4 6 (by decide)), hG.cong (fa 5 (by decide)) (fa 6 (by decide)) (fa 7 (by decide)) (fa 8 (by decide)) (by rw [q4 0 (by decide)]) (q4 7 (by decide)) (q4 8 (by decide)) (q4 9 (by decide)), hP.cong (by rw [fa 9 (by decide)]) (fa 10 (by decide)) (by rw [q4 0 (by decide)]) (q4 3 (by decide)), p3, hI.cong (Nat.le_refl _) (fa.out 50 56 (by decide)) (fun k u w => (by rw [q4 0 (by decide)])) (q4 15 (by decide)) (q4 16 (by decide)), hT.cong (by rw [fa 16 (by decide)]) (by rw [fa 16 (by decide)]) (fa.out 18 31 (by decide)) (by rw [q4 0 (by decide)]) (by rw [q4 0 (by decide)]) (q4 1 (by decide)) (q4 2 (by decide))⟩
theorem copy_S {A B : Mem} (h : RR A B) (a1 a2 a3 a4 a5 : Int32) : ∃ v A' B', F8_copy A a1 a2 a3 a4 a5 = some (v, A') ∧ F9_copy B a1 a2 a3 a4 a5 = some (v, B') ∧ RR A' B' := by
  have h0 := h
  obtain ⟨n, o, t, z, m, r, hL, hG, hP, hS, hI, hT⟩ := h
  obtain ⟨v, A', B', p1, p2, p3, fa, q4⟩ := copy_R hS a1 a2 a3 a4 a5
  exact ⟨v, A', B', p1, p2, n, o, t, z, m, r, hL.cong (fa 1 (by decide)) (fa 2 (by decide)) (fa 3 (by decide)) (fa 4 (by decide)) (by rw [q4 0 (by decide)]) (by rw [q4 0 (by decide)]) (by rw [q4 0 (by decide)]) (q4 4 (by decide)) (q4 5 (by decide)) (q4 6 (by decide)), hG.cong (fa 5 (by decide)) (fa 6 (by decide)) (fa 7 (by decide)) (fa 8 (by decide)) (by rw [q4 0 (by decide)]) (q4 7 (by decide)) (q4 8 (by decide)) (q4 9 (by decide)), hP.cong (by rw [fa 9 (by decide)]) (fa 10 (by decide)) (by rw [q4 0 (by decide)]) (q4 3 (by decide)), p3, hI.cong (Nat.le_refl _) (fa.out 50 56 (by decide)) (fun k u w => (by rw [q4 0 (by decide)])) (q4 15 (by decide)) (q4 16 (by decide)), hT.cong (by rw [fa 16 (by decide)]) (by rw [fa 16 (by decide)]) (fa.out 18 31 (by decide)) (by rw [q4 0 (by decide)]) (by rw [q4 0 (by decide)]) (q4 1 (by decide)) (q4 2 (by decide))⟩
theorem film_S {A B : Mem} (h : RR A B) (a1 a2 : Int32) : ∃ v A' B', F8_film A a1 a2 = some (v, A') ∧ F9_film B a1 a2 = some (v, B') ∧ RR A' B' := by
  have h0 := h
  obtain ⟨n, o, t, z, m, r, hL, hG, hP, hS, hI, hT⟩ := h
  obtain ⟨tv, tA, tB, tO⟩ := RR.tell hL hT
  obtain ⟨v, A', B', p1, p2, p3, fa, q4, q5⟩ := film_R tA tB hL hS a1 a2
  exact ⟨v, A', B', p1, p2, n, o, t, z, m, r, hL.cong (fa 1 (by decide)) (fa 2 (by decide)) (fa 3 (by decide)) (fa 4 (by decide)) (q5 10 (by omega)) (q5 11 (by omega)) (q5 12 (by omega)) (q4 4 (by decide) (by decide) (by decide) (by decide) (by decide)) (q4 5 (by decide) (by decide) (by decide) (by decide) (by decide)) (q4 6 (by decide) (by decide) (by decide) (by decide) (by decide)), hG.cong (fa 5 (by decide)) (fa 6 (by decide)) (fa 7 (by decide)) (fa 8 (by decide)) (q5 16 (by omega)) (q4 7 (by decide) (by decide) (by decide) (by decide) (by decide)) (q4 8 (by decide) (by decide) (by decide) (by decide) (by decide)) (q4 9 (by decide) (by decide) (by decide) (by decide) (by decide)), hP.cong (by rw [fa 9 (by decide)]) (fa 10 (by decide)) (q5 6 (by omega)) (q4 3 (by decide) (by decide) (by decide) (by decide) (by decide)), p3, hI.cong (Nat.le_refl _) (fa.out 50 56 (by decide)) (fun k u w => (q5 k (by omega))) (q4 15 (by decide) (by decide) (by decide) (by decide) (by decide)) (q4 16 (by decide) (by decide) (by decide) (by decide) (by decide)), hT.cong (by rw [fa 16 (by decide)]) (by rw [fa 16 (by decide)]) (fa.out 18 31 (by decide)) (q5 3 (by omega)) (q5 4 (by omega)) (q4 1 (by decide) (by decide) (by decide) (by decide) (by decide)) (q4 2 (by decide) (by decide) (by decide) (by decide) (by decide))⟩
theorem serve_S {A B : Mem} (h : RR A B) : ∃ v A' B', F8_serve A = some (v, A') ∧ F9_serve B = some (v, B') ∧ RR A' B' := by
  have h0 := h
  obtain ⟨n, o, t, z, m, r, hL, hG, hP, hS, hI, hT⟩ := h
  obtain ⟨tv, tA, tB, tO⟩ := RR.tell hL hT
  obtain ⟨v, A', B', n', o', p1, p2, p3, fa, q4, q5⟩ := serve_R tA tB hL
  exact ⟨v, A', B', p1, p2, n', o', t, z, m, r, p3, hG.cong (fa 5 (by decide)) (fa 6 (by decide)) (fa 7 (by decide)) (fa 8 (by decide)) (q5 16 (by omega)) (q4 7 (by decide) (by decide)) (q4 8 (by decide) (by decide)) (q4 9 (by decide) (by decide)), hP.cong (by rw [fa 9 (by decide)]) (fa 10 (by decide)) (q5 6 (by omega)) (q4 3 (by decide) (by decide)), hS.cong (fa 43 (by decide)) (fa 44 (by decide)) (fa.sh (by decide)) (q4 17 (by decide) (by decide)) (q4 18 (by decide) (by decide)) (q4 19 (by decide) (by decide)) (q4 20 (by decide) (by decide)), hI.cong (Nat.le_refl _) (fa.out 50 56 (by decide)) (fun k u w => (q5 k (by omega))) (q4 15 (by decide) (by decide)) (q4 16 (by decide) (by decide)), hT.cong (by rw [fa 16 (by decide)]) (by rw [fa 16 (by decide)]) (fa.out 18 31 (by decide)) (q5 3 (by omega)) (q5 4 (by omega)) (q4 1 (by decide) (by decide)) (q4 2 (by decide) (by decide))⟩
theorem text_S {A B : Mem} (h : RR A B) : ∃ v A' B', F8_text A = some (v, A') ∧ F9_text B = some (v, B') ∧ RR A' B' := by
  have h0 := h
  obtain ⟨n, o, t, z, m, r, hL, hG, hP, hS, hI, hT⟩ := h
  obtain ⟨v, A', B', z', m', p1, p2, p3, p4, mm, q1, q4, q5⟩ := text_R hP hT
  exact ⟨v, A', B', p1, p2, n, o, t, z', m', r, hL.cong (q1 1 (by omega)) (q1 2 (by omega)) (q1 3 (by omega)) (q1 4 (by omega)) (q5 10 (by omega)) (q5 11 (by omega)) (q5 12 (by omega)) (q4 4 (by decide) (by decide) (by decide)) (q4 5 (by decide) (by decide) (by decide)) (q4 6 (by decide) (by decide) (by decide)), hG.cong (q1 5 (by omega)) (q1 6 (by omega)) (q1 7 (by omega)) (q1 8 (by omega)) (q5 16 (by omega)) (q4 7 (by decide) (by decide) (by decide)) (q4 8 (by decide) (by decide) (by decide)) (q4 9 (by decide) (by decide) (by decide)), p3, hS.cong (q1 43 (by omega)) (q1 44 (by omega)) (fun s hs => q1 _ (by omega)) (q4 17 (by decide) (by decide) (by decide)) (q4 18 (by decide) (by decide) (by decide)) (q4 19 (by decide) (by decide) (by decide)) (q4 20 (by decide) (by decide) (by decide)), hI.cong mm (fun c u w => q1 c (by omega)) (fun k u w => q5 k (by omega)) (q4 15 (by decide) (by decide) (by decide)) (q4 16 (by decide) (by decide) (by decide)), p4⟩
