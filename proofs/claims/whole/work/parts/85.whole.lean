section XWS
variable {p : Program} {l : Launch} {e : Env} {s : State} {m : MethodId} {below : List Frame} {meth : Method} {c : Code} {b Ls : Nat} {xs : Nat → Int32} {G : GG}
theorem Inj.loc {shp shN shq shW : List Shp} {n : Nat} (hn : shp.length = n) (hl : n + shN.length < 100) (hW : shp ++ (shN.map (renS n []) ++ shq) = shW) (h : Inj shW G.2.1) : Inj shN (GL G n []).2.1 := by
  have hlW : shW.length = n + (shN.length + shq.length) := by rw [← hW, List.length_append, List.length_append, List.length_map, hn]
  have hgl : ∀ j, j < 100 → (GL G n []).2.1 j = G.2.1 (n + j) := fun j hj => by simp [GL, adL, hj]
  refine ⟨fun cell ci tm hc => ?_, fun i j hi hj hij => ?_⟩
  · have hk : cell < shN.length := (List.getElem?_eq_some_iff.mp hc).1
    have h1 : shW[n + cell]? = some (.inr (ci, tm.map (renR n []))) := by
      rw [← hW, List.getElem?_append_right (by omega), hn, Nat.add_sub_cancel_left, List.getElem?_append_left (by rw [List.length_map]; omega), List.getElem?_map, hc]
      rfl
    have h2 := h.1 _ _ _ h1
    rw [List.length_map] at h2
    exact h2
  · rw [hgl i (by omega), hgl j (by omega)] at hij
    have := h.2 (n + i) (n + j) (by omega) (by omega) hij
    omega
def adS (u q : Nat) (adK adV : Nat → Nat) (b : Nat) : Nat → Nat := fun c => if c = 200 then u else if c = 204 then q else if c = 210 then b else if c < 210 then adK (c - 201) else adV (c - 211)
def tm9 : List Value := [.int 0, .null, .null, .int 0, .int 0, .null, .int 0, .null, .null, .null, .int 0, .int 0, .int 0, .null, .null, .null, .int 0, .int 0, .int 0, .int 0, .int 0, .int 0, .int 0, .int 0, .int 0, .int 0, .int 0, .int 0, .long 0, .int 0, .int 0, .int 0, .null, .null, .null, .int 0, .int 0, .null, .int 0, .null, .int 0, .int 0, .int 0, .int 0, .int 0, .null, .null, .int 0, .int 0, .int 0, .int 0, .int 0, .null, .null, .null, .null]
/-- the memory once the class's constructor is through, the model made -/
def M1 (A : Mem) : Mem := fun c => if c < 0 then upA (fun _ _ => 0) 0 (fun _ => 0) c else if c < 0 + 56 then A (c - 0) else upA (fun _ _ => 0) 0 (fun _ => 0) c
def N1 (A : Mem) : Mem := fun c => upA (M1 A) 56 (fun _ => 0) (56 + c)
def B1 (A : Mem) : Mem := up2 (up2 (ms15 (N1 A)) 2 0 (48 : Int32)) 0 3 (1 : Int32)
def M2 (A : Mem) : Mem := fun c => if c < 56 then upA (M1 A) 56 (fun _ => 0) c else if c < 56 + 21 then B1 A (c - 56) else upA (M1 A) 56 (fun _ => 0) c
theorem M2_RR {A : Mem} (h : RR A (B1 A)) : RR (M2 A) (mB (M2 A)) := by
  refine h.cong (fun c hc => ?_) (fun c hc => ?_)
  · unfold M2
    rw [if_pos hc, upA_ne (by omega)]
    unfold M1
    rw [if_neg (Nat.not_lt_zero _), if_pos (by omega), Nat.sub_zero]
  · unfold mB M2
    rw [if_neg (by omega), if_pos (by omega), Nat.add_sub_cancel_left]
set_option maxRecDepth 20000 in
set_option maxHeartbeats 1000000 in
theorem law_walk {G0 : GG} (hL : Ls ≤ 3072) (F : FrP [] G0 p s m #[Value.ref b] c R_law code 4) (hX : va_X b Ls xs s s.heap) (hbl : b < s.heap.size) (hg : G0.2.1 210 = b) (hr : meth.sig.returnType = ret) (hlk : meth.locks = false) : XJ [] p l e room_1 s m #[Value.ref b] below meth c 0 0 G0 4 (lw_Z below #[Value.ref b] s) 0 [(0, .ref 210)] [] (fun _ _ => 0) := by
  have hG : GEx [] [] G0 G0 s.heap.size := GEx.rf F.2.2.2.2.2.2.2.1
  refine N_new (sh' := sc8_76) (C := RX8) (T := TX8) (ty := tyX8) (tm := [.null, .null, .null, .null, .null, .null, .null, .null]) F hG (n := 0) rfl rfl rfl wsIn8 tyX8_ok ⟨(tmem 18 (by decide +kernel) rfl), (tmem 19 (by decide +kernel) rfl), (tmem 1 (by decide +kernel) rfl)⟩ (by decide +kernel) ⟨rfl, Nat.le_of_ble_eq_true rfl⟩ (by decide +kernel) ⟨Nat.le_of_ble_eq_true rfl, Nat.le_of_ble_eq_true rfl⟩ ⟨Nat.le_of_ble_eq_true rfl, Nat.le_of_ble_eq_true rfl⟩ d_law_0 (fun G hq F hG => ?_)
  refine X_dup F d_law_3 rfl ?_
  obtain ⟨v0, A0, eI, hRR⟩ := init_R (fun c => (upA (fun _ _ => 0) 0 (fun _ => 0)) (0 + c)) (fun c => (upA (fun _ _ => 0) 56 (fun _ => 0)) (56 + c)) (by
    funext k
    show upA (fun _ _ => 0) 56 (fun _ => 0) 56 k = 0
    rw [upA_at])
  refine N_call (shp := []) (shN := shA) (n := 0) (k := 56) (sh' := shA) (S0 := .inr (8, [.null, .null, .null, .null, .null, .null, .null, .null])) (ex := []) (ec := 0) (AL := []) (As := []) (rest := [.ref 0]) (ML := fun c => (upA (fun _ _ => 0) 0 (fun _ => 0)) (0 + c)) (ML' := A0) (M' := M1 A0) rfl rfl rfl F fkR_law_9 feX8_init ⟨rfl, (tmem 21 (by decide +kernel) rfl)⟩ (fun sz => N8_init_met (r := (v0, A0)) (Inj1 (fun _ _ h => by cases h; exact Nat.le_of_ble_eq_true rfl)) eI sz) rfl rfl ⟨_, _, rfl, rfl⟩ rfl rfl (Nat.le_of_ble_eq_true rfl) ⟨Nat.le_of_ble_eq_true rfl, Nat.le_of_ble_eq_true rfl, Nat.le_of_ble_eq_true rfl, Nat.le_of_ble_eq_true rfl⟩ d_law_4 (by decide +kernel) (by rw [shA_0]; rfl) (fun c => rfl) hq hG (Nat.le_of_ble_eq_true rfl) (fun G F hG => ?_)
  refine X_astore_n F d_law_7 (by decide) (L' := [(1, .ref 0), (0, .ref 210)]) rfl ?_
  refine N_new (sh' := shA ++ [.inr (9, tm9)]) (C := RX9) (T := TX9) (ty := tyX9) (tm := tm9) F hG (n := 56) rfl rfl rfl wsIn9 tyX9_ok ⟨(tmem 922 (by decide +kernel) rfl), (tmem 923 (by decide +kernel) rfl), (tmem 17 (by decide +kernel) rfl)⟩ (by decide +kernel) ⟨rfl, Nat.le_of_ble_eq_true rfl⟩ (by decide +kernel) ⟨Nat.le_of_ble_eq_true rfl, Nat.le_of_ble_eq_true rfl⟩ ⟨Nat.le_of_ble_eq_true rfl, Nat.le_of_ble_eq_true rfl⟩ d_law_8 (fun G hq F hG => ?_)
  refine X_dup F d_law_11 rfl ?_
  refine N_call (shp := shA) (shN := shB) (n := 56) (k := 21) (sh' := shW) (S0 := .inr (9, tm9)) (ex := []) (ec := 0) (AL := []) (As := []) (rest := [.ref 56]) (ML := N1 A0) (ML' := B1 A0) (M' := M2 A0) rfl rfl rfl F fkR_law_12 feX9_init ⟨rfl, (tmem 925 (by decide +kernel) rfl)⟩ (fun sz => N9_init_met (Inj1 (fun _ _ h => by cases h; exact Nat.le_of_ble_eq_true rfl)) sz) rfl rfl ⟨_, _, rfl, rfl⟩ rfl rfl (Nat.le_of_ble_eq_true rfl) ⟨Nat.le_of_ble_eq_true rfl, Nat.le_of_ble_eq_true rfl, Nat.le_of_ble_eq_true rfl, Nat.le_of_ble_eq_true rfl⟩ d_law_12 (by decide +kernel) rfl (fun c => rfl) hq hG (Nat.le_of_ble_eq_true rfl) (fun G F hG => ?_)
  refine X_astore_n F d_law_15 (by decide) (L' := [(2, .ref 56), (1, .ref 0), (0, .ref 210)]) rfl ?_
  refine X_iconst F d_law_16 (v := (0 : Int32)) rfl ?_
  refine X_istore_n F d_law_17 (by decide) (L' := [(3, .int 0), (2, .ref 56), (1, .ref 0), (0, .ref 210)]) rfl ?_
  refine X_pick (L' := LL 0) [3, 2, 1, 0] rfl ?_
  have hG : GEx [] shW G0 G s.heap.size := hG
  have C : LC p s m meth c b Ls xs G := ⟨F, Inj.loc (shp := []) (shq := shB.map (renS 56 [])) (n := 0) rfl (by decide +kernel) (by rw [shA_0]; rfl) hG.2.2.2.2, Inj.loc (shp := shA) (shq := []) (n := 56) rfl (by decide +kernel) (by rw [List.append_nil]; rfl) hG.2.2.2.2, fun i hi => hG.2.2.2.1 i (Nat.zero_le _) hi, hX, hbl, (hG.2.2.1 210 (Or.inr (by decide))).trans hg, hr, hlk⟩
  have hRR2 : RR (M2 A0) (mB (M2 A0)) := by
    obtain ⟨v1, A1, eI1, hRR1⟩ := init_R (fun c => (upA (fun _ _ => 0) 0 (fun _ => 0)) (0 + c)) (N1 A0) (by
      funext k
      show upA (M1 A0) 56 (fun _ => 0) 56 k = 0
      rw [upA_at])
    rw [eI] at eI1
    cases eI1
    exact M2_RR hRR1
  show XJ shW p l e room_1 s m #[Value.ref b] below meth c 77 3974 G 4 (lw_Z below #[Value.ref b] s) 18 (LL 0) [] (M2 A0)
  exact law_loop C hL (Ls + 1) 0 (M2 A0) (Nat.zero_le _) (by omega) hRR2
end XWS
set_option maxHeartbeats 1000000 in
/-- THE LAW, from its entry -/
theorem whole_start {p : Program} {e : Env} {s : State} {m : MethodId} {below : List Frame} {meth : Method} {c : Code} (l : Launch) (hflags : l.flags = flags0) {b L : Nat} {xs : Nat → Int32} (hL : L ≤ 3072) (C0 : lw_At p s m meth c b L xs) : W p l e room_1 s m #[Value.ref b] below meth c s.heap [] 0 0 (lw_Z below #[Value.ref b] s) (entryFrame m ([Value.ref b] : List Value).toArray 4) := by
  obtain ⟨hx, hb, hr, hml, hown, hts, hX, hbl, hlocks, hgv⟩ := C0
  obtain ⟨D, cI, cZ, cQ, hK⟩ := st_K hts
  obtain ⟨u, q, adK, adV, z1, z2, z3, z4, z5, z6⟩ := st_ext (A := fun _ => False) (fun _ _ h => h) hts hgv
  have eA : AW [] (adS u q adK adV b) = fun _ => False := by
    funext a
    simp [AW]
  have e1 : ∀ i, i < 3 → adS u q adK adV b (201 + i) = adK i := fun i hi => by
    unfold adS
    rw [if_neg (by omega), if_neg (by omega), if_neg (by omega), if_pos (by omega), Nat.add_sub_cancel_left]
  have e2 : ∀ i, i < 3 → adS u q adK adV b (211 + i) = adV i := fun i hi => by
    unfold adS
    rw [if_neg (by omega), if_neg (by omega), if_neg (by omega), if_neg (by omega), Nat.add_sub_cancel_left]
  have hE : EXT [] (D, adS u q adK adV b, cI, cZ, cQ) s s.heap := by
    unfold EXT
    dsimp only
    rw [eA]
    refine ⟨z1, z2, ⟨fun i hi => ?_, fun i j hi hj h => z3.2 i j hi hj ?_⟩, z4, z5, ?_⟩
    · have q1 := z3.1 i hi
      rw [← e1 i hi, ← e2 i hi] at q1
      exact q1
    · rw [← e1 i hi, ← e1 j hj]
      exact h
    · exact z6
  have F0 : FrP [] (D, adS u q adK adV b, cI, cZ, cQ) p s m #[Value.ref b] c R_law code 4 := ⟨hx, hb, hml, hown, fun w hw => hts w (List.mem_filter.mp hw).1, st_NW hts, hK, ⟨fun _ _ _ h => (by cases h), fun i j hi => absurd hi (Nat.not_lt_zero _)⟩, hE⟩
  have hl := lv_entry ([.ref b]) (n := 4) (Nat.le_of_ble_eq_true rfl)
  rw [lg_entry_eq]
  generalize (lg_sl ([.ref b]) ++ List.replicate (4 - (lg_sl ([.ref b])).length) Slot.unset).toArray = ls at hl ⊢
  exact law_walk (l := l) (e := e) (below := below) hL F0 hX hbl rfl hr hlocks s.heap [] ls (fun k q h => by simp [wl] at h) va_S.rf hl
