/-! THE LAW'S WORLD: the class's cells 0..55, the model's 56..76; a method of one of them is called, the other stays -/
theorem cvs_ints {ad : Nat → Nat} (is : List Int32) : cvs ad (is.map .int) = is.map .int := by
  unfold cvs
  rw [List.map_map]
  rfl
section XCW
variable {p : Program} {l : Launch} {e : Env} {R : Room} {s : State} {m : MethodId} {args : Array Value} {below : List Frame} {meth : Method} {c : Code} {ca sl : Nat} {Q : State → Prop}
variable {G : GG} {own : String} {cc : ByteArray} {nL pc : Nat} {L : List (Nat × Value)} {st : List Value} {M : Mem}
theorem X_callW {shp shN shq shW : List Shp} {n k : Nat} (hn : shp.length = n) (hk : shN.length = k) (hW : shp ++ (shN.map (renS n []) ++ shq) = shW) (F : FrP shW G p s m args c own cc nL) {idx na mL d : Nat} {y : MethodName} {bytes : ByteArray} {ret : Option FieldType} {is : List Int32} {rest : List Value} {r : Option Value × Mem} {ML M' : Mem} (hlk : LNK own idx y) (he : CLE y na bytes mL ret) (hv : CLV y) (hci : ∃ cj q tm, classes[cj]? = some q ∧ q.1 = y.cls ∧ shN[0]? = some (.inr (cj, tm)))
    (hI : Inj shN (GL G n []).2.1) (hM : MetX shN l (GL G n []) y bytes mL ret d (.ref 0 :: is.map .int) ML r) (hML : ∀ j, j < k → ML j = M (n + j)) (hres : r.1.map (cv (adL G.2.1 n [])) = r.1.map (cv G.2.1)) (hnew : ∀ i, i < shW.length → s.heap.size ≤ G.2.1 i)
    (hst : st = (is.map Value.int).reverse ++ .ref n :: rest) (hlen : is.length = na) (hroom : (rest.map fun v => v.category).sum ≤ 8) (hR : d + 1 ≤ R.frames ∧ 8 + (mL + 11) + 100 * d ≤ R.locals ∧ ca ≤ R.cells ∧ sl ≤ R.slots) (hd : decode cc pc = .ok (.invokevirtual idx, 3))
    (hchk : (shIn k 0 shN && decide (n + k < 100 ∧ 1 ≤ k)) = true) (hM' : ∀ c, M' c = if n ≤ c ∧ c < n + k then r.2 (c - n) else M c)
    (kk : XJ shW p l e R s m args below meth c ca sl G nL Q (pc + 3) L (r.1.toList ++ rest) M') : XJ shW p l e R s m args below meth c ca sl G nL Q pc L st M := by
  subst hst
  simp only [Bool.and_eq_true, decide_eq_true_eq] at hchk
  obtain ⟨n4, n6, n7⟩ := hchk
  have hlW : shW.length = n + (k + shq.length) := by rw [← hW, List.length_append, List.length_append, List.length_map, hn, hk]
  have hgl : ∀ j, j < 100 → (GL G n []).2.1 j = G.2.1 (n + j) := fun j hj => by simp [GL, adL, hj]
  have hsW : ∀ j S, shN[j]? = some S → shW[n + j]? = some (renS n [] S) := fun j S hj => by
    have hjk : j < k := by rw [← hk]; exact (List.getElem?_eq_some_iff.mp hj).1
    rw [← hW, List.getElem?_append_right (by omega), hn, Nat.add_sub_cancel_left, List.getElem?_append_left (by rw [List.length_map]; omega), List.getElem?_map, hj]
    rfl
  have hcl : ∀ (Mx MLx : Mem) (j : Nat) (S : Shp), shN[j]? = some S → Mx (n + j) = MLx j → cel G Mx (n + j) (renS n [] S) = cel (GL G n []) MLx j S := fun Mx MLx j S hj hm =>
    renS_cel (G := G) (k := k) (ec := 0) (by
      unfold shIn at n4 ⊢
      simp only [List.all_cons, List.all_nil, Bool.and_true]
      exact List.all_eq_true.mp n4 _ (List.mem_of_getElem? hj)) ⟨Nat.zero_le _, Nat.zero_le _⟩ rfl rfl (by omega) (fun j hj => (hgl j (by omega)).symm) (fun _ _ => rfl) (fun i hi => absurd hi (by omega)) hm
  have hAW : ∀ q, AW shN (GL G n []).2.1 q → AW shW G.2.1 q := fun q ⟨i, hi, hq⟩ => ⟨n + i, by omega, by rw [← hgl i (by omega)]; exact hq⟩
  have hAn : ∀ q, AW shW G.2.1 q → s.heap.size ≤ q := fun q ⟨i, hi, hq⟩ => by rw [← hq]; exact hnew i hi
  have F' : FrP shN (GL G n []) p s m args c own cc nL := by
    obtain ⟨f1, f2, f3, f4, f5, f6, f7, f8, f9⟩ := F
    exact ⟨f1, f2, f3, f4, f5, f6, f7, hI, f9.grow ⟨rfl, rfl, fun c hc => by simp [GL, adL, show ¬ c < 100 by omega, show ¬ c < 200 by omega]⟩ (fun a _ h => hAW a h)⟩
  intro H locs ls hP hS hl
  have hPl : va_P G.1 classes (wl shN (GL G n []) ML) H := by
    intro j q hj
    unfold wl at hj
    rw [List.getElem?_mapIdx] at hj
    cases hs : shN[j]? with
    | none => rw [hs] at hj; cases hj
    | some S =>
      rw [hs] at hj
      cases hj
      have hjk : j < k := by rw [← hk]; exact (List.getElem?_eq_some_iff.mp hs).1
      have h1 := hP (n + j) _ (wl_get (hsW j S hs))
      rw [hcl M ML j S hs (hML j hjk).symm] at h1
      show va_at G.1 classes ((GL G n []).2.1 j, cel (GL G n []) ML j S) H
      rw [hgl j (by omega)]
      exact h1
  have hS0 : va_S (AW shN (GL G n []).2.1) s.heap H [] := ⟨hS.1, fun q h1 _ => hS.2.1 q h1 (fun h => by have := hAn q h; omega), fun x hx => absurd hx List.not_mem_nil⟩
  have hav : cvs (GL G n []).2.1 (.ref 0 :: is.map .int) = .ref (G.2.1 n) :: is.map .int := by
    have h1 : cvs (GL G n []).2.1 (.ref 0 :: is.map .int) = cv (GL G n []).2.1 (.ref 0) :: cvs (GL G n []).2.1 (is.map .int) := rfl
    rw [h1, cvs_ints]
    simp [cv, hgl 0 (by omega)]
  obtain ⟨cj, q0, tm, hq, hqy, hs0⟩ := hci
  have hcell : ∃ cellB : Cell, H[G.2.1 n]? = some cellB ∧ cellB.vm.isStatics = false ∧ s.vm.findClass y.cls = some cellB.cls := by
    rw [← hqy]
    have hs1 : shW[n]? = some (.inr (cj, tm.map (renR n []))) := hsW 0 _ hs0
    exact va_recv F.2.2.2.2.2.2.1 hP hq (wl_get (G := G) (M := M) hs1)
  have hp : PreV s H y.cls (G.2.1 n) (PcX shN (GL G n []) (.ref 0 :: is.map .int) ML) (is.map .int) := ⟨PcX_blind, hcell, fun U hU hWm => by
    have := PcX_at (av := .ref 0 :: is.map .int) F' hPl hS0 U hU hWm
    rw [hav] at this
    exact this⟩
  have hstk : (F0 m pc ls (cvs G.2.1 ((is.map Value.int).reverse ++ .ref n :: rest))).stack = (is.map Value.int).reverse ++ .ref (G.2.1 n) :: cvs G.2.1 rest := by
    show cvs G.2.1 ((is.map Value.int).reverse ++ .ref n :: rest) = _
    have h1 : cvs G.2.1 ((is.map Value.int).reverse ++ .ref n :: rest) = cvs G.2.1 ((is.map Value.int).reverse) ++ (.ref (G.2.1 n) :: cvs G.2.1 rest) := by
      unfold cvs
      rw [List.map_append]
      rfl
    rw [h1, ← List.map_reverse, cvs_ints]
  have hWr : 2 * (F0 m pc ls (cvs G.2.1 ((is.map Value.int).reverse ++ .ref n :: rest))).monitorRoom + ((cvs G.2.1 rest).map fun v => v.category).sum ≤ 8 := lv_room (by rw [cvs_cat]; exact hroom)
  have hnl : (is.map Value.int).length = na := by rw [List.length_map]; exact hlen
  have hrun : va_Run p l e R s m args below meth c H locs ca sl 0 0 (F0 m pc ls (cvs G.2.1 ((is.map Value.int).reverse ++ .ref n :: rest))) (cvs G.2.1 rest) (QcX shN (GL G n []) r.1 r.2 (.ref (G.2.1 n) :: is.map .int).toArray) (AW shN (GL G n []).2.1) := by
    rcases hlk with hlk | ⟨host, hlk⟩
    · have hT : GoodIn TBL (wsV own idx y.cls y (.code y bytes mL ret :: TBL)) := tsub (fun w hw => by
        unfold wsV at hw
        rcases List.mem_append.mp hw with h | h
        · simp only [List.mem_cons, List.not_mem_nil, or_false] at h
          rcases h with h | h | h | h
          · rw [h]; exact hlk
          · rw [h]; exact hv.1
          · rw [h]; exact hv.2
          · rw [h]; exact he.1
        · exact (goodCode he.2.1 w h).1)
      exact va_runV (Ts := TBL) ⟨F.1, F.2.1, F.2.2.1, F.2.2.2.1, F.2.2.2.2.1⟩ hM (cwV na F.2.2.2.2.1 hT rfl rfl rfl ⟨rfl, he.2.2.1.1, he.2.2.1.2, he.2.2.2⟩ ⟨hR.1, hR.2.1⟩) hp rfl hnl hl.1 hstk hWr hd ⟨hR.2.2.1, hR.2.2.2⟩
    · exact va_runVN (Ts := TBL) ⟨F.1, F.2.1, F.2.2.1, F.2.2.2.1, F.2.2.2.2.1⟩ hM ⟨va_cnB na F.2.2.2.2.1 (goodCode he.2.1) rfl rfl rfl (F.2.2.2.2.2.1 _ hlk) (F.2.2.2.2.1 _ he.1) ⟨he.2.2.1.1, he.2.2.1.2, he.2.2.2⟩ ⟨hR.1, hR.2.1⟩, F.2.2.2.2.1 _ hv.1, F.2.2.2.2.1 _ hv.2⟩ hp rfl hnl hl.1 hstk hWr hd ⟨hR.2.2.1, hR.2.2.2⟩
  intro T hT X
  obtain ⟨v, st₀, t, T', Lc, h0, X', hL, e1, e2, ⟨hv9, hb, hz, hk9⟩, stp⟩ := hrun T hT X
  have hv' := Outcome.returned.inj hv9
  subst hv'
  rw [h0] at hz hk9
  have hS' : va_S (AW shW G.2.1) s.heap T'.heap (locs ++ Lc) := ⟨Nat.le_trans hS.1 (by rw [e1]; exact hz), fun q h1 h2 => by rw [e1, hk9 q (Nat.lt_of_lt_of_le h1 hS.1) (fun h => h2 (hAW q h))]; exact hS.2.1 q h1 h2, fun q hq => by
    rcases List.mem_append.mp hq with h | h
    · exact hS.2.2 q h
    · exact hAW _ (hL q h)⟩
  have hP' : va_P G.1 classes (wl shW G M') t.heap := by
    intro j q hj
    unfold wl at hj
    rw [List.getElem?_mapIdx] at hj
    cases hs : shW[j]? with
    | none => rw [hs] at hj; cases hj
    | some S =>
      rw [hs] at hj
      cases hj
      have hjW : j < shW.length := (List.getElem?_eq_some_iff.mp hs).1
      show va_at G.1 classes (G.2.1 j, cel G M' j S) t.heap
      by_cases hin : n ≤ j ∧ j < n + k
      · obtain ⟨i, rfl⟩ : ∃ i, j = n + i := ⟨j - n, by omega⟩
        cases hsi : shN[i]? with
        | none =>
          have := List.getElem?_eq_none_iff.mp hsi
          omega
        | some Si =>
          have h1 := hsW i Si hsi
          rw [hs] at h1
          cases h1
          have h2 := hb i _ (wl_get hsi)
          rw [hcl M' r.2 i Si hsi (by rw [hM', if_pos hin, Nat.add_sub_cancel_left])]
          have h3 : va_at G.1 classes ((GL G n []).2.1 i, cel (GL G n []) r.2 i Si) t.heap := h2
          rw [hgl i (by omega)] at h3
          exact h3
      · rw [cel_cong (show M' j = M j by rw [hM', if_neg hin])]
        have h1 : va_at G.1 classes (G.2.1 j, cel G M j S) H := hP j _ (wl_get hs)
        refine h1.kept (hk9 _ ?_ ?_)
        · exact live hP hjW
        · rintro ⟨i, hi, hq⟩
          rw [hgl i (by omega)] at hq
          have := F.2.2.2.2.2.2.2.1.2 (n + i) j (by omega) hjW hq
          omega
  obtain ⟨t2, a1, b1⟩ := kk T'.heap (locs ++ Lc) ls (by rw [e1]; exact hP') hS' hl T' rfl X'
  refine ⟨t2, stp t2 ?_, b1⟩
  have e3 : (r.1.map (cv (GL G n []).2.1)).toList ++ cvs G.2.1 rest = cvs G.2.1 (r.1.toList ++ rest) := by
    have h9 : r.1.map (cv (GL G n []).2.1) = r.1.map (cv G.2.1) := hres
    rw [h9]
    unfold cvs
    rw [List.map_append]
    congr 1
    cases r.1 <;> rfl
  rw [e3]
  exact a1
end XCW
