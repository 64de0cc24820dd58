/-! THE START: what the Statement gives, as the world's outside -/
theorem lmem {w : Cond} (k : Nat) (h : tables_1[k]? = some w) : w ∈ lw_tbl := List.mem_append_right _ (List.mem_of_getElem? h)
def tmS (i : Nat) : Term := if i = 0 then .string "KeepOurPlace" 71 else if i = 1 then .string "KeepOurPlace$Reader" 91 else .string "KeepOurPlace$Reader" kJS2
theorem fl_ex : ∀ i, i < 3 → Cond.exactly (tmS i) "java/lang/String" ∈ flatC (Cond.and given_1 narrow_1) := by decide +kernel
theorem fl_co : ∀ i, i < 3 → Cond.eq (.field (tmS i) "java/lang/String" "coder" "B") (.int 0) ∈ flatC (Cond.and given_1 narrow_1) := by decide +kernel
theorem fl_ar : ∀ i, i < 3 → Cond.arrayOf (.field (tmS i) "java/lang/String" "value" "[B") .byte ∈ flatC (Cond.and given_1 narrow_1) := by decide +kernel
theorem fl_le : ∀ i, i < 3 → Cond.eq (.length (.field (tmS i) "java/lang/String" "value" "[B")) (.int (Int32.ofNat (lenJS.getD i 0))) ∈ flatC (Cond.and given_1 narrow_1) := by decide +kernel
theorem fl_el : ∀ i, i < 3 → ∀ j, j < lenJS.getD i 0 → Cond.eq (.elem (.field (tmS i) "java/lang/String" "value" "[B") (.int (Int32.ofNat j))) (.int ((bytJS.getD i []).getD j 0)) ∈ flatC (Cond.and given_1 narrow_1) := by decide +kernel
theorem fl_ne : ∀ i, i < 3 → ∀ j, j < 3 → i ≠ j → Cond.not (Cond.eq (tmS i) (tmS j)) ∈ flatC (Cond.and given_1 narrow_1) ∨ Cond.not (Cond.eq (tmS j) (tmS i)) ∈ flatC (Cond.and given_1 narrow_1) := by decide +kernel
theorem fl_ua : Cond.arrayOf (.static "KeepOurPlace" "UNDER" "[I") .int ∈ flatC (Cond.and given_1 narrow_1) := by decide +kernel
theorem fl_ul : Cond.eq (.length (.static "KeepOurPlace" "UNDER" "[I")) (.int (Int32.ofNat 6)) ∈ flatC (Cond.and given_1 narrow_1) := by decide +kernel
theorem fl_ue : ∀ j, j < 6 → Cond.eq (.elem (.static "KeepOurPlace" "UNDER" "[I") (.int (Int32.ofNat j))) (.int (underL.getD j 0)) ∈ flatC (Cond.and given_1 narrow_1) := by decide +kernel
theorem fl_cs : Cond.eq (.static "java/lang/String" "COMPACT_STRINGS" "Z") (.int 1) ∈ flatC (Cond.and given_1 narrow_1) := by decide +kernel
theorem fl_si : Cond.isRef (.static "jdk/internal/util/Preconditions" "SIOOBE_FORMATTER" "Ljava/util/function/BiFunction;") ∈ flatC (Cond.and given_1 narrow_1) := by decide +kernel
section XST
variable {s : State} {b : Nat}
theorem st_ext {A : Nat → Prop} (hA : ∀ a : Nat, a < s.heap.size → ¬ A a) (hts : ∀ w ∈ lw_tbl, w.before #[Value.ref b] s = true) (hgv : (Cond.and given_1 narrow_1).before #[Value.ref b] s = true) : ∃ (u q : Nat) (adK adV : Nat → Nat), va_Z "KeepOurPlace" "UNDER" "[I" (.ref u) A s s.heap ∧ va_T .int u 6 (fun j => .int (underL.getD j 0)) A s s.heap ∧ vk_S 3 lenJS bytJS adK adV A s s.heap ∧ (vk_R "KeepOurPlace" 71 txJS0 (adK 0) s ∧ vk_R "KeepOurPlace$Reader" 91 txJS1 (adK 1) s ∧ vk_R "KeepOurPlace$Reader" kJS2 txJS2 (adK 2) s) ∧ va_Z "java/lang/String" "COMPACT_STRINGS" "Z" (.int 1) A s s.heap ∧ (va_Z "jdk/internal/util/Preconditions" "SIOOBE_FORMATTER" "Ljava/util/function/BiFunction;" (.ref q) A s s.heap ∨ va_Z "jdk/internal/util/Preconditions" "SIOOBE_FORMATTER" "Ljava/util/function/BiFunction;" .null A s s.heap) := by
  have fl := flat_of_before _ hgv
  obtain ⟨u, hu, hT⟩ := va_Tof (tm := .static "KeepOurPlace" "UNDER" "[I") (ty := .int) (N := 6) (f := fun j => .int (underL.getD j 0)) (A := A) (by decide) (fl _ fl_ua) (va_eqt (fl _ fl_ul)) (fun j hj => va_eqt (fl _ (fl_ue j hj))) hA
  obtain ⟨adK, adV, hS, hK⟩ := vk_Sof (N := 3) (tm := tmS) (len := lenJS) (byt := bytJS) (A := A) (by decide) (fun i hi => fl _ (fl_ex i hi)) (fun i hi => fl _ (fl_co i hi)) (fun i hi => fl _ (fl_ar i hi)) (fun i hi => fl _ (fl_le i hi)) (fun i hi j hj => fl _ (fl_el i hi j hj)) (fun i j hi hj hij => (fl_ne i hi j hj hij).imp (fl _) (fl _)) hA
  have hZ : va_Zq "jdk/internal/util/Preconditions" "SIOOBE_FORMATTER" "Ljava/util/function/BiFunction;" A s s.heap := va_Zqof (hts _ (lmem 345 (by decide +kernel))) (hts _ (lmem 12 (by decide +kernel))) (fl _ fl_si) hA
  have hZ2 : ∃ q : Nat, va_Z "jdk/internal/util/Preconditions" "SIOOBE_FORMATTER" "Ljava/util/function/BiFunction;" (.ref q) A s s.heap ∨ va_Z "jdk/internal/util/Preconditions" "SIOOBE_FORMATTER" "Ljava/util/function/BiFunction;" .null A s s.heap := by
    rcases hZ with h | ⟨q, h⟩
    · exact ⟨0, .inr h⟩
    · exact ⟨q, .inl h⟩
  obtain ⟨q, hq⟩ := hZ2
  exact ⟨u, q, adK, adV, va_Zref (hts _ (lmem 921 (by decide +kernel))) (hts _ (lmem 1 (by decide +kernel))) hu hA, hT, hS, ⟨vk_R.of (hts _ (lmem 319 (by decide +kernel))) (hK 0 (by decide)), vk_R.of (hts _ (lmem 395 (by decide +kernel))) (hK 1 (by decide)), vk_R.of (hts _ (lmem 413 (by decide +kernel))) (hK 2 (by decide))⟩, va_Zof (hts _ (lmem 329 (by decide +kernel))) (hts _ (lmem 10 (by decide +kernel))) (va_eqi (fl _ fl_cs)) hA, hq⟩
theorem st_NW (hts : ∀ w ∈ lw_tbl, w.before #[Value.ref b] s = true) : NW s := by
  intro w hw
  have h1 := (List.mem_filter.mp hw).2
  have h0 := hts w (List.mem_append_right _ (List.mem_filter.mp hw).1)
  cases w <;> first | exact va_Nw.of rfl h0 | exact ao_vm (A := #[Value.ref b]) rfl h0 | (simp [isNW] at h1)
theorem st_K (hts : ∀ w ∈ lw_tbl, w.before #[Value.ref b] s = true) : ∃ (D : va_G) (cI cZ cQ : ClassId), va_K D classes [(cI, .int), (cZ, .boolean), (cQ, .array .int)] s := by
  have hT : ∀ w ∈ TBL, w.before #[Value.ref b] s = true := fun w hw => hts w (List.mem_filter.mp hw).1
  obtain ⟨cI, k1, m1, a1, a2, a3⟩ := Cond.arrayClass_spec (hts _ (lmem (w := .arrayClass .int) 72 (by decide +kernel)))
  obtain ⟨cZ, k2, m2, b1, b2, b3⟩ := Cond.arrayClass_spec (hts _ (lmem (w := .arrayClass .boolean) 1100 (by decide +kernel)))
  obtain ⟨m3, cQ, k3, c0, c1, c2, c3⟩ := Cond.arrayOver_specA (hts _ (lmem (w := .arrayOver (.array .int)) 156 (by decide +kernel)))
  have hk : ∀ c : Nat, ∃ q : ClassId × (Nat → Nat), ∀ q0, classes[c]? = some q0 → u_Kn s q0.1 q0.2.1 q0.2.2 q.1 q.2 := by
    intro c
    match c with
    | 0 => obtain ⟨cc, ii, h⟩ := u_known (C := RX0) (T := TX0) (N := 16) (n := 16) hT wsIn0 (hts _ (lmem 196 (by decide +kernel))); exact ⟨(cc, ii), fun q0 hq => by cases hq; exact h⟩
    | 1 => obtain ⟨cc, ii, h⟩ := u_known (C := RX1) (T := TX1) (N := 11) (n := 11) hT wsIn1 (hts _ (lmem 278 (by decide +kernel))); exact ⟨(cc, ii), fun q0 hq => by cases hq; exact h⟩
    | 2 => obtain ⟨cc, ii, h⟩ := u_known (C := RX2) (T := TX2) (N := 6) (n := 6) hT wsIn2 (hts _ (lmem 27 (by decide +kernel))); exact ⟨(cc, ii), fun q0 hq => by cases hq; exact h⟩
    | 3 => obtain ⟨cc, ii, h⟩ := u_known (C := RX3) (T := TX3) (N := 12) (n := 12) hT wsIn3 (hts _ (lmem 103 (by decide +kernel))); exact ⟨(cc, ii), fun q0 hq => by cases hq; exact h⟩
    | 4 => obtain ⟨cc, ii, h⟩ := u_known (C := RX4) (T := TX4) (N := 7) (n := 7) hT wsIn4 (hts _ (lmem 150 (by decide +kernel))); exact ⟨(cc, ii), fun q0 hq => by cases hq; exact h⟩
    | 5 => obtain ⟨cc, ii, h⟩ := u_known (C := RX5) (T := TX5) (N := 3) (n := 3) hT wsIn5 (hts _ (lmem 258 (by decide +kernel))); exact ⟨(cc, ii), fun q0 hq => by cases hq; exact h⟩
    | 6 => obtain ⟨cc, ii, h⟩ := u_known (C := RX6) (T := TX6) (N := 4) (n := 4) hT wsIn6 (hts _ (lmem 74 (by decide +kernel))); exact ⟨(cc, ii), fun q0 hq => by cases hq; exact h⟩
    | 7 => obtain ⟨cc, ii, h⟩ := u_known (C := RX7) (T := TX7) (N := 2) (n := 2) hT wsIn7 (hts _ (lmem 183 (by decide +kernel))); exact ⟨(cc, ii), fun q0 hq => by cases hq; exact h⟩
    | 8 => obtain ⟨cc, ii, h⟩ := u_known (C := RX8) (T := TX8) (N := 8) (n := 8) hT wsIn8 (hts _ (lmem 19 (by decide +kernel))); exact ⟨(cc, ii), fun q0 hq => by cases hq; exact h⟩
    | 9 => obtain ⟨cc, ii, h⟩ := u_known (C := RX9) (T := TX9) (N := 56) (n := 56) hT wsIn9 (hts _ (lmem 923 (by decide +kernel))); exact ⟨(cc, ii), fun q0 hq => by cases hq; exact h⟩
    | n + 10 => exact ⟨(cI, fun _ => 0), fun q0 hq => by simp [classes] at hq⟩
  obtain ⟨f, hf⟩ := Classical.axiomOfChoice hk
  refine ⟨(fun c => (f c).1, fun c => (f c).2), cI, cZ, cQ, fun c q hq => hf c q hq, fun k q hq => ?_⟩
  match k, hq with
  | 0, hq => cases hq; exact ⟨fun n z => ⟨fun k h => (by cases h), k1, a2, m1, a3⟩, a1⟩
  | 1, hq => cases hq; exact ⟨fun n z => ⟨fun k h => (by cases h), k2, b2, m2, b3⟩, b1⟩
  | 2, hq => cases hq; exact ⟨fun n z => ⟨fun k h => (by cases h), k3, c1, m3, c2⟩, c3⟩
  | k + 3, hq => simp at hq
end XST
