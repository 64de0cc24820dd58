-- rows of rows: pasted from claim/NAMES.whole.lean.txt (printed by the kit)
/-! ===== BEGIN new T[n][m]: the outer array a place, the inner ones among the pooled ===== -/
/-- f, but v at every address of l -/
def vr_up {α : Type} (f : Nat → α) (l : List Nat) (v : α) : Nat → α := fun a => if a ∈ l then v else f a
theorem vr_up_in {α : Type} {f : Nat → α} {l : List Nat} {v : α} {a : Nat} (h : a ∈ l) : vr_up f l v a = v := if_pos h
theorem vr_up_ne {α : Type} {f : Nat → α} {l : List Nat} {v : α} {a : Nat} (h : a ∉ l) : vr_up f l v a = f a := if_neg h
theorem vr_rows {L l : List Nat} {f : Nat → va_E} {e : va_E} (h : ∀ a, a ∈ l → a ∉ L) : va_pl L f ++ l.map (fun a => (a, e)) = va_pl (L ++ l) (vr_up f l e) := by
  unfold va_pl
  rw [List.map_append]
  congr 1
  · apply List.map_congr_left
    intro a ha
    rw [vr_up_ne (fun q => h a q ha)]
  · apply List.map_congr_left
    intro a ha
    rw [vr_up_in ha]
theorem vr_lay {X rows : va_W} {x : Nat × va_E} {pl : va_W} {D : va_G} {cl : List vw_C} {H : Heap} (hP : va_P D cl (((X ++ pl) ++ [x]) ++ rows) H) : va_P D cl ((X ++ [x]) ++ (pl ++ rows)) H := by
  rw [List.append_assoc (X ++ pl)] at hP
  have h := va_P.swap hP
  rw [← List.append_assoc X] at h
  have h2 := va_P.swap h
  rw [List.append_assoc (X ++ [x])] at h2
  exact h2
theorem vr_layD {X rows : va_W} {x : Nat × va_E} {pl : va_W} {A : Nat → Prop} (hD : va_D A (((X ++ pl) ++ [x]) ++ rows)) : va_D A ((X ++ [x]) ++ (pl ++ rows)) := by
  rw [List.append_assoc (X ++ pl)] at hD
  have h := va_D.swap hD
  rw [← List.append_assoc X] at h
  have h2 := va_D.swap h
  rw [List.append_assoc (X ++ [x])] at h2
  exact h2
theorem vr_outer (c : ClassId) (N h0 : Nat) : ∀ i : Nat, Jvm.Free.Multi.outerC c N h0 i = arrV c N (fun j => va_rf (if j < i then some (h0 + 1 + j) else none))
  | 0 => by
    show ({ cls := c, slots := Array.replicate N .null, vm := .none } : Cell) = _
    rw [arrV_new]
    refine congrArg (arrV c N) (funext fun j => ?_)
    simp [va_rf]
  | i + 1 => by
    show (Jvm.Free.Multi.outerC c N h0 i).setSlot i (.ref (h0 + 1 + i)) = _
    rw [vr_outer c N h0 i, arrV_store]
    refine congrArg (arrV c N) (funext fun j => ?_)
    by_cases e : j = i
    · subst e
      simp [updV, va_rf]
    · by_cases h : j < i
      · simp [updV, e, h, Nat.lt_succ_of_lt h]
      · simp [updV, e, h, show ¬ j < i + 1 by omega]
section VGM
variable {p : Program} {l : Launch} {e : Env} {R : Room} {s : State} {m : MethodId} {args : Array Value} {below : List Frame} {meth : Method} {c : Code} {H : Heap} {locs : List Loc} {cells slots : Nat} {Q : State → Prop}
variable {cc : ByteArray} {pc : Nat} {ls : Array Slot} {rest : List Value} {D : va_G} {cl : List vw_C} {A : Nat → Prop} {a : Nat} {tys : List (ClassId × FieldType)} {ws : va_W} {H0 : Heap}
theorem va_mna {X : va_W} {L : List Nat} {f : Nat → va_E} {cc : ByteArray} (hexec : p.tables.exec = Jvm.exec) (hb : c.code = cc) {own : String} {index : Nat} {ty : FieldType} {cy : ClassId} (hown : s.vm.findClass own = some m.cls) (hclink : (Cond.classLink own index ("[" ++ (FieldType.array ty).toString)).before args s = true) (hover : (Cond.arrayOver (.array ty)).before args s = true) (harr : (Cond.arrayClass ty).before args s = true) (hcy : s.vm.findClass (FieldType.array ty).toString = some cy)
    (hK : va_K D cl tys s) (hP : va_P D cl (X ++ va_pl L f) H) (hD : va_D A (X ++ va_pl L f)) (hS : va_S A H0 H locs) (hA : ∀ q, H0.size ≤ q → A q) {n k : Int32} {N' K' : Nat} {z : vp_A} (hn : ¬ n < 0) (hk : ¬ k < 0) (hN : n.toNatClampNeg = N') (hM : k.toNatClampNeg = K')
    (hb1 : N' * 4 ≤ 536870912) (hb2 : K' * componentBytes ty ≤ 536870912) (hb3 : K' ≤ 536870912) (hdf : fits ty (defaultValue ty) = true) (hdd : (defaultValue ty).isDefault = true) (hcells : cells + (1 + N') ≤ R.cells) (hslots : slots + (N' + N' * K') ≤ R.slots) (hz : ∀ c : ClassId, Jvm.Free.Multi.innerC c K' (defaultValue ty) = vp_cell c z) (hdg : decode cc pc = .ok (.multianewarray index 2, 4))
    (kk : ∀ (q : Nat) (r : Nat → Nat) (cA : ClassId) (H1 : Heap), (∀ i j : Nat, i < N' → j < N' → r i = r j → i = j) → (∀ i : Nat, i < N' → r i ∉ L) → va_K D cl (tys ++ [(cA, .array ty)]) s →
      va_P D cl ((X ++ [(q, .inl (cA, N', .inr (.inr (.inr (.inr (fun i => if i < N' then some (r i) else none))))))]) ++ va_pl (L ++ (List.range N').map r) (vr_up f ((List.range N').map r) (.inl (cy, z)))) H1 → va_D A ((X ++ [(q, .inl (cA, N', .inr (.inr (.inr (.inr (fun i => if i < N' then some (r i) else none))))))]) ++ va_pl (L ++ (List.range N').map r) (vr_up f ((List.range N').map r) (.inl (cy, z)))) → va_S A H0 H1 locs →
      W p l e R s m args below meth c H1 locs (cells + 1 + N') (slots + N' + N' * K') Q (F0 m (pc + 4) ls (.ref q :: rest))) : W p l e R s m args below meth c H locs cells slots Q (F0 m pc ls (.int k :: .int n :: rest)) := by
  subst hN
  subst hM
  intro T hT Xs
  obtain ⟨vm₁, cA, comp, -, fA, fC, hO, -, X', step⟩ := Xs.multianewarray2F hexec hown hclink hover harr (g := F0 m pc ls (.int k :: .int n :: rest)) rfl (by rw [hb]; exact hdg) rfl hn hk hb1 hb2 hb3 hdf hdd hcells hslots
  have ec : some cy = some comp := hcy.symm.trans fC
  cases ec
  generalize hF : Jvm.Free.Multi.fill (T.setVm vm₁) cA cy n.toNatClampNeg k.toNatClampNeg (defaultValue ty) n.toNatClampNeg = F at X' step
  have hTh : (T.setVm vm₁).heap = H := hT
  obtain ⟨f1, f2, -, -⟩ := Jvm.Free.Multi.fill_facts (T.setVm vm₁) cA cy n.toNatClampNeg k.toNatClampNeg (defaultValue ty) n.toNatClampNeg
  rw [hF, hTh] at f1 f2
  have hold : ∀ x : Nat, x < H.size → F.heap[x]? = H[x]? := fun x hx => by
    have := Jvm.Free.Multi.fill_old (T.setVm vm₁) cA cy n.toNatClampNeg k.toNatClampNeg (defaultValue ty) (a := x) (by rw [hTh]; exact hx) n.toNatClampNeg
    rw [hF, hTh] at this
    exact this
  have hrow : ∀ j : Nat, j < n.toNatClampNeg → F.heap[H.size + 1 + j]? = some (vp_cell cy z) := fun j hj => by
    have := Jvm.Free.Multi.fill_inner (T.setVm vm₁) cA cy n.toNatClampNeg k.toNatClampNeg (defaultValue ty) n.toNatClampNeg j hj
    rw [hF, hTh, hz] at this
    exact this
  have hout : Jvm.Free.Multi.outerC cA n.toNatClampNeg H.size n.toNatClampNeg = vp_cell cA (n.toNatClampNeg, .inr (.inr (.inr (.inr (fun i => if i < n.toNatClampNeg then some (H.size + 1 + i) else none))))) := by
    rw [vp_cell_q]
    exact vr_outer cA n.toNatClampNeg H.size n.toNatClampNeg
  rw [hout] at f2
  have hlt : ∀ a, a ∈ L → a < H.size := fun a ha => by
    obtain ⟨k9, hk9⟩ := va_pl_get (X := X) (f := f) ha
    exact (hP k9 _ hk9).lt
  have hnl : ∀ i : Nat, i < n.toNatClampNeg → H.size + 1 + i ∉ L := fun i _ h => by
    have := hlt _ h
    omega
  have hnm : ∀ a, a ∈ (List.range n.toNatClampNeg).map (fun i => H.size + 1 + i) → a ∉ L := fun a ha h => by
    obtain ⟨i, -, rfl⟩ := List.mem_map.mp ha
    have := hlt _ h
    omega
  have hP0 : va_P D cl (X ++ va_pl L f) F.heap := hP.kept (fun k9 x hx => hold x.1 ((hP k9 x hx).lt))
  have hP1 : va_P D cl ((X ++ va_pl L f) ++ [(H.size, .inl (cA, n.toNatClampNeg, .inr (.inr (.inr (.inr (fun i => if i < n.toNatClampNeg then some (H.size + 1 + i) else none))))))]) F.heap := hP0.app (fun k9 x hx => by
    have h0 : k9 < 1 := (List.getElem?_eq_some_iff.mp hx).1
    rw [show k9 = 0 by omega] at hx
    cases hx
    exact f2)
  have hP2 : va_P D cl (((X ++ va_pl L f) ++ [(H.size, .inl (cA, n.toNatClampNeg, .inr (.inr (.inr (.inr (fun i => if i < n.toNatClampNeg then some (H.size + 1 + i) else none))))))]) ++ ((List.range n.toNatClampNeg).map (fun i => H.size + 1 + i)).map (fun a => (a, .inl (cy, z)))) F.heap := hP1.app (fun k9 x hx => by
    obtain ⟨a, ha, rfl⟩ := List.mem_map.mp (List.mem_of_getElem? hx)
    obtain ⟨i, hi, rfl⟩ := List.mem_map.mp ha
    exact hrow i (List.mem_range.mp hi))
  have hD2 : va_D A (((X ++ va_pl L f) ++ [(H.size, .inl (cA, n.toNatClampNeg, .inr (.inr (.inr (.inr (fun i => if i < n.toNatClampNeg then some (H.size + 1 + i) else none))))))]) ++ ((List.range n.toNatClampNeg).map (fun i => H.size + 1 + i)).map (fun a => (a, .inl (cy, z)))) := by
    have hD1 := hD.push (e := .inl (cA, n.toNatClampNeg, .inr (.inr (.inr (.inr (fun i => if i < n.toNatClampNeg then some (H.size + 1 + i) else none)))))) hP rfl (hA _ hS.1)
    generalize hW1 : (X ++ va_pl L f) ++ [(H.size, .inl (cA, n.toNatClampNeg, .inr (.inr (.inr (.inr (fun i => if i < n.toNatClampNeg then some (H.size + 1 + i) else none))))))] = W1 at hD1 hP1 ⊢
    have hle : ∀ (k9 : Nat) (x : Nat × va_E), W1[k9]? = some x → x.1 ≤ H.size := fun k9 x hx => by
      rw [← hW1] at hx
      by_cases hl : k9 < (X ++ va_pl L f).length
      · rw [List.getElem?_append_left hl] at hx
        exact Nat.le_of_lt ((hP k9 x hx).lt)
      · rw [List.getElem?_append_right (by omega)] at hx
        have h0 : k9 - (X ++ va_pl L f).length < 1 := (List.getElem?_eq_some_iff.mp hx).1
        rw [show k9 - (X ++ va_pl L f).length = 0 by omega] at hx
        cases hx
        exact Nat.le_refl _
    have hr : ∀ (k9 : Nat) (x : Nat × va_E), (((List.range n.toNatClampNeg).map (fun i => H.size + 1 + i)).map (fun a => ((a, .inl (cy, z)) : Nat × va_E)))[k9]? = some x → x.1 = H.size + 1 + k9 := fun k9 x hx => by
      rw [List.getElem?_map, List.getElem?_map] at hx
      by_cases h9 : k9 < n.toNatClampNeg
      · rw [List.getElem?_range h9] at hx
        cases hx
        rfl
      · have hn0 : (List.range n.toNatClampNeg)[k9]? = none := List.getElem?_eq_none (by rw [List.length_range]; omega)
        rw [hn0] at hx
        cases hx
    refine ⟨fun i j x y hi hj hxy => ?_, fun k9 x hx => ?_⟩
    · by_cases h1 : i < W1.length <;> by_cases h2 : j < W1.length
      · rw [List.getElem?_append_left h1] at hi
        rw [List.getElem?_append_left h2] at hj
        exact hD1.1 i j x y hi hj hxy
      · rw [List.getElem?_append_left h1] at hi
        rw [List.getElem?_append_right (by omega)] at hj
        have := hle _ _ hi
        have := hr _ _ hj
        omega
      · rw [List.getElem?_append_right (by omega)] at hi
        rw [List.getElem?_append_left h2] at hj
        have := hle _ _ hj
        have := hr _ _ hi
        omega
      · rw [List.getElem?_append_right (by omega)] at hi hj
        have := hr _ _ hi
        have := hr _ _ hj
        omega
    · by_cases h1 : k9 < W1.length
      · rw [List.getElem?_append_left h1] at hx
        exact hD1.2 k9 x hx
      · rw [List.getElem?_append_right (by omega)] at hx
        have := hr _ _ hx
        exact hA _ (by have := hS.1; omega)
  have hAr : ArrOfT s cA (.array ty) := fun N9 z9 => by
    obtain ⟨-, k9, hk9, cm9, hkk9⟩ := (hO 0 0 0).1
    exact ⟨(fun q hq => by cases hq), k9, hk9, cm9, hkk9⟩
  have hK2 : va_K D cl (tys ++ [(cA, .array ty)]) s := ⟨hK.1, fun k9 x hx => by
    by_cases hl : k9 < tys.length
    · rw [List.getElem?_append_left hl] at hx
      exact hK.2 k9 x hx
    · rw [List.getElem?_append_right (by omega)] at hx
      have h0 : k9 - tys.length < 1 := (List.getElem?_eq_some_iff.mp hx).1
      rw [show k9 - tys.length = 0 by omega] at hx
      cases hx
      exact ⟨hAr, fA⟩⟩
  obtain ⟨t, a1, b1⟩ := kk H.size (fun i => H.size + 1 + i) cA F.heap (fun i j _ _ h => by have h9 : H.size + 1 + i = H.size + 1 + j := h; omega) hnl hK2 (by rw [← vr_rows hnm]; exact vr_lay hP2) (by rw [← vr_rows hnm]; exact vr_layD hD2) ⟨by rw [f1]; have := hS.1; omega, fun x h1 h2 => (hold x (Nat.lt_of_lt_of_le h1 hS.1)).trans (hS.2.1 x h1 h2), hS.2.2⟩ F rfl X'
  refine ⟨t, step t ?_, b1⟩
  have e : T.heap.size = H.size := by rw [hT]
  rw [e]
  exact a1
end VGM
/-! CONSTRUCTORS: the world grows by a cell; a final reference is put into an object that is being made -/
def adU (ad : Nat → Nat) (n q : Nat) : Nat → Nat := fun c => if c = n then q else ad c
def GU (G : GG) (n q : Nat) : GG := (G.1, adU G.2.1 n q, G.2.2)
def nrf (n : Nat) (v : Value) : Bool := match v with
  | .ref c => decide (c ≠ n)
  | _ => true
def shNo (n : Nat) (sh : List Shp) : Bool := sh.all (fun S => match S with
  | .inl (0, _) => true
  | .inl (1, _) => true
  | .inl (b + 2, k) => (List.range k).all (fun i => decide (b + i ≠ n))
  | .inr (_, tm) => tm.all (nrf n))
theorem cv_adU {ad : Nat → Nat} {n q : Nat} {v : Value} (h : nrf n v = true) : cv (adU ad n q) v = cv ad v := by
  cases v <;> try rfl
  rename_i c
  have h1 : c ≠ n := of_decide_eq_true h
  simp [cv, adU, h1]
theorem cvs_adU {ad : Nat → Nat} {n q : Nat} {st : List Value} (h : st.all (nrf n) = true) : cvs (adU ad n q) st = cvs ad st := by
  unfold cvs
  apply List.map_congr_left
  intro v hv
  exact cv_adU (List.all_eq_true.mp h v hv)
theorem cvl_adU {ad : Nat → Nat} {n q : Nat} {L : List (Nat × Value)} (h : L.all (fun p => nrf n p.2) = true) : cvl (adU ad n q) L = cvl ad L := by
  unfold cvl
  apply List.map_congr_left
  intro v hv
  rw [cv_adU (List.all_eq_true.mp h v hv)]
theorem cel_grow {G : GG} {M M' : Mem} {n q c : Nat} {S : Shp} (hS : shNo n [S] = true) (hM : M' c = M c) : cel (GU G n q) M' c S = cel G M c S := by
  have h0 : cel (GU G n q) M' c S = cel (GU G n q) M c S := cel_cong hM
  rw [h0]
  unfold shNo at hS
  simp only [List.all_cons, List.all_nil, Bool.and_true] at hS
  rcases S with ⟨t, k⟩ | ⟨ci, tm⟩
  · match t with
    | 0 => rfl
    | 1 => rfl
    | b + 2 =>
      simp only [cel, GU]
      congr 6
      refine congrArg Sum.inr (funext fun i => ?_)
      by_cases hi : i < k
      · have h1 : b + i ≠ n := of_decide_eq_true (List.all_eq_true.mp hS i (List.mem_range.mpr hi))
        simp [hi, adU, h1]
      · simp [hi]
  · simp only [cel_obj]
    congr 2
    apply List.mapIdx_eq_mapIdx_iff.mpr
    intro i hi
    have h1 : nrf n tm[i] = true := List.all_eq_true.mp hS _ (List.getElem_mem hi)
    generalize tm[i] = w at h1
    cases w <;> try rfl
    rename_i j
    have h2 : j ≠ n := of_decide_eq_true h1
    simp [fv, GU, adU, h2]
theorem wl_grow {sh : List Shp} {G : GG} {M M' : Mem} {q : Nat} {S : Shp} (hs : shNo sh.length sh = true) (hM : ∀ c, c < sh.length → M' c = M c) : wl (sh ++ [S]) (GU G sh.length q) M' = wl sh G M ++ [(q, cel (GU G sh.length q) M' sh.length S)] := by
  unfold wl
  rw [List.mapIdx_append]
  congr 1
  · apply List.mapIdx_eq_mapIdx_iff.mpr
    intro i hi
    have h1 : i ≠ sh.length := by omega
    have h2 : shNo sh.length [sh[i]] = true := by
      unfold shNo at hs ⊢
      simp only [List.all_cons, List.all_nil, Bool.and_true]
      exact List.all_eq_true.mp hs _ (List.getElem_mem hi)
    rw [cel_grow h2 (hM i hi)]
    simp [GU, adU, h1]
  · simp [GU, adU]
/-- what lies outside stays outside, where the world grows by a new cell -/
theorem va_Z.grow {C n d : String} {v : Value} {A B : Nat → Prop} {U : State} {H : Heap} (h : va_Z C n d v A U H) (hAB : ∀ a, a < H.size → B a → A a) : va_Z C n d v B U H := by
  obtain ⟨cf, kf, fi, f, a, cell, h1, h2, h3, h4, h5, h6, h7, h8⟩ := h
  exact ⟨cf, kf, fi, f, a, cell, h1, h2, h3, h4, h5, h6, h7, fun hb => h8 (hAB a (Array.getElem?_eq_some_iff.mp h5).1 hb)⟩
theorem va_T.grow {ty : FieldType} {t N : Nat} {f : Nat → Value} {A B : Nat → Prop} {U : State} {H : Heap} (h : va_T ty t N f A U H) (hAB : ∀ a, a < H.size → B a → A a) : va_T ty t N f B U H := by
  obtain ⟨cell, h1, h2, h3, h4, h5, h6, h7⟩ := h
  exact ⟨cell, h1, h2, h3, h4, h5, h6, fun hb => h7 (hAB t (Array.getElem?_eq_some_iff.mp h1).1 hb)⟩
theorem va_O.grow {E : String} {t : Nat} {A B : Nat → Prop} {U : State} {H : Heap} (h : va_O E t A U H) (hAB : ∀ a, a < H.size → B a → A a) : va_O E t B U H := by
  obtain ⟨cell, h1, h2, h3, h4⟩ := h
  exact ⟨cell, h1, h2, h3, fun hb => h4 (hAB t (Array.getElem?_eq_some_iff.mp h1).1 hb)⟩
theorem va_OF.grow {o n d : String} {v : Value} {t : Nat} {A B : Nat → Prop} {U : State} {H : Heap} (h : va_OF o n d v t A U H) (hAB : ∀ a, a < H.size → B a → A a) : va_OF o n d v t B U H := by
  obtain ⟨cf, k, i, f, cell, h1, h2, h3, h4, h5, h6⟩ := h
  exact ⟨cf, k, i, f, cell, h1, h2, h3, h4, h5, fun hb => h6 (hAB t (Array.getElem?_eq_some_iff.mp h3).1 hb)⟩
/-- the same externals -/
def sameExt (G G' : GG) : Prop := G'.1 = G.1 ∧ G'.2.2 = G.2.2 ∧ ∀ c, 200 ≤ c → G'.2.1 c = G.2.1 c
theorem EXT.grow {sh sh' : List Shp} {G G' : GG} {U : State} {H : Heap} (h : EXT sh G U H) (he : sameExt G G') (hAB : ∀ a, a < H.size → AW sh' G'.2.1 a → AW sh G.2.1 a) : EXT sh' G' U H := by
  obtain ⟨h1, h2, h3, h4, h5, h6⟩ := h
  have e200 := he.2.2 200 (by decide)
  have e201 := he.2.2 201 (by decide)
  have e202 := he.2.2 202 (by decide)
  have e203 := he.2.2 203 (by decide)
  have e204 := he.2.2 204 (by decide)
  have ea : ∀ i, G'.2.1 (201 + i) = G.2.1 (201 + i) := fun i => he.2.2 _ (by omega)
  have eb : ∀ i, G'.2.1 (211 + i) = G.2.1 (211 + i) := fun i => he.2.2 _ (by omega)
  refine ⟨?_, ?_, ?_, ?_, h5.grow hAB, ?_⟩
  · rw [e200]; exact h1.grow hAB
  · rw [e200]; exact h2.grow hAB
  · have e1 : (fun i => G'.2.1 (201 + i)) = (fun i => G.2.1 (201 + i)) := funext ea
    have e2 : (fun i => G'.2.1 (211 + i)) = (fun i => G.2.1 (211 + i)) := funext eb
    rw [e1, e2]
    exact ⟨fun i hi => ⟨(h3.1 i hi).1.grow hAB, (h3.1 i hi).2.1.grow hAB, (h3.1 i hi).2.2.1.grow hAB, (h3.1 i hi).2.2.2.grow hAB⟩, h3.2⟩
  · rw [e201, e202, e203]; exact h4
  · rw [e204]; exact h6.imp (fun q => q.grow hAB) (fun q => q.grow hAB)
section XN
variable {p : Program} {l : Launch} {e : Env} {R : Room} {s : State} {m : MethodId} {args : Array Value} {below : List Frame} {meth : Method} {c : Code} {ca sl : Nat} {Q : State → Prop}
variable {sh : List Shp} {G : GG} {own : String} {cc : ByteArray} {nL pc : Nat} {L : List (Nat × Value)} {st : List Value} {M : Mem}
/-- a frame of a world that has grown by the new cell q -/
theorem Fr_grow {q : Nat} {S : Shp} (F : FrP sh G p s m args c own cc nL) (hno : shNo sh.length sh = true) (hl200 : sh.length < 200) (hlen : ∀ ci tm, S = .inr (ci, tm) → tm.length ≤ 1000) (hq : ∀ i, i < sh.length → q ≠ G.2.1 i) (hqs : s.heap.size ≤ q) : FrP (sh ++ [S]) (GU G sh.length q) p s m args c own cc nL := by
  obtain ⟨f1, f2, f3, f4, f5, f6, f7, f8, f9⟩ := F
  refine ⟨f1, f2, f3, f4, f5, f6, f7, ⟨?_, ?_⟩, f9.grow ⟨rfl, rfl, fun c hc => ?_⟩ ?_⟩
  · intro cell ci tm h
    rcases Nat.lt_or_ge cell sh.length with h1 | h1
    · rw [List.getElem?_append_left h1] at h
      exact f8.1 cell ci tm h
    · rw [List.getElem?_append_right h1] at h
      have h2 : cell - sh.length < 1 := (List.getElem?_eq_some_iff.mp h).1
      rw [show cell - sh.length = 0 by omega] at h
      cases h
      exact hlen _ _ rfl
  · intro i j hi hj hij
    rw [List.length_append, List.length_singleton] at hi hj
    simp only [GU, adU] at hij
    by_cases e1 : i = sh.length <;> by_cases e2 : j = sh.length
    · omega
    · rw [if_pos e1, if_neg e2] at hij
      exact absurd hij (hq j (by omega))
    · rw [if_neg e1, if_pos e2] at hij
      exact absurd hij.symm (hq i (by omega))
    · rw [if_neg e1, if_neg e2] at hij
      exact f8.2 i j (by omega) (by omega) hij
  · have h1 : c ≠ sh.length := by omega
    simp [GU, adU, h1]
  · intro a ha hb
    obtain ⟨i, hi, e⟩ := hb
    rw [List.length_append, List.length_singleton] at hi
    simp only [GU, adU] at e
    by_cases e1 : i = sh.length
    · rw [if_pos e1] at e; omega
    · rw [if_neg e1] at e
      exact ⟨i, by omega, e⟩
/-- from the kit's world with one more cell to ours -/
theorem grow_back {q : Nat} {S : Shp} {M' : Mem} {H1 : Heap} {locs : List Loc} {ce : va_E} (hno : shNo sh.length sh = true) (hM : ∀ c, c < sh.length → M' c = M c) (hce : cel (GU G sh.length q) M' sh.length S = ce)
    (hP : va_P G.1 classes (wl sh G M ++ [(q, ce)]) H1) (hD : va_D (fun a => AW sh G.2.1 a ∨ s.heap.size ≤ a) (wl sh G M ++ [(q, ce)])) (hS : va_S (fun a => AW sh G.2.1 a ∨ s.heap.size ≤ a) s.heap H1 locs) (hlo : ∀ x ∈ locs, AW sh G.2.1 x.base) :
    (∀ i, i < sh.length → q ≠ G.2.1 i) ∧ s.heap.size ≤ q ∧ va_P (GU G sh.length q).1 classes (wl (sh ++ [S]) (GU G sh.length q) M') H1 ∧ va_S (AW (sh ++ [S]) (GU G sh.length q).2.1) s.heap H1 locs := by
  have hlen : (wl sh G M).length = sh.length := by unfold wl; rw [List.length_mapIdx]
  have hq : ∀ i, i < sh.length → q ≠ G.2.1 i := by
    intro i hi e
    have h1 : (wl sh G M ++ [(q, ce)])[i]? = some (G.2.1 i, cel G M i sh[i]) := by
      rw [List.getElem?_append_left (by omega)]
      exact wl_get (List.getElem?_eq_some_iff.mpr ⟨hi, rfl⟩)
    have h2 : (wl sh G M ++ [(q, ce)])[sh.length]? = some (q, ce) := by
      rw [List.getElem?_append_right (by omega), hlen, Nat.sub_self]
      rfl
    have := hD.1 i sh.length _ _ h1 h2 e.symm
    omega
  have h2 : (wl sh G M ++ [(q, ce)])[sh.length]? = some (q, ce) := by
    rw [List.getElem?_append_right (by omega), hlen, Nat.sub_self]
    rfl
  have hsz : s.heap.size ≤ q := by
    rcases hD.2 _ _ h2 with ⟨i, hi, e⟩ | h
    · exact absurd e.symm (hq i hi)
    · exact h
  have hup : ∀ a, AW sh G.2.1 a → AW (sh ++ [S]) (GU G sh.length q).2.1 a := by
    intro a ⟨i, hi, e⟩
    have h1 : i ≠ sh.length := by omega
    exact ⟨i, by rw [List.length_append]; omega, by simp [GU, adU, h1, e]⟩
  refine ⟨hq, hsz, ?_, hS.1, fun x h1 h3 => hS.2.1 x h1 (fun h4 => ?_), fun x hx => hup _ (hlo x hx)⟩
  · rw [wl_grow hno hM, hce]
    exact hP
  · rcases h4 with h4 | h4
    · exact h3 (hup _ h4)
    · omega
theorem AWw {H : Heap} {locs : List Loc} (hS : va_S (AW sh G.2.1) s.heap H locs) : va_S (fun a => AW sh G.2.1 a ∨ s.heap.size ≤ a) s.heap H locs := ⟨hS.1, fun q h1 h2 => hS.2.1 q h1 (fun h => h2 (Or.inl h)), fun x hx => Or.inl (hS.2.2 x hx)⟩
theorem AWd {M : Mem} (hi : Inj sh G.2.1) : va_D (fun a => AW sh G.2.1 a ∨ s.heap.size ≤ a) (wl sh G M) := (wl_D hi).weaken (fun _ _ _ h => Or.inl h)
def zst (L : List (Nat × Value)) (st : List Value) (n : Nat) (sh : List Shp) : Bool := L.all (fun p => nrf n p.2) && (st.all (nrf n) && (shNo n sh && decide (n < 200)))
theorem X_newa (F : FrP sh G p s m args c own cc nL) {k : Int32} {N : Nat} (hw : Cond.arrayClass .int ∈ TBL) (hk : ¬ k < 0 ∧ k.toNatClampNeg = N ∧ N * 4 ≤ 536870912) (hno : zst L st sh.length sh = true) (hR : ca + 1 ≤ R.cells ∧ sl + N ≤ R.slots) (hd : decode cc pc = .ok (.newarray .int, 2))
    (kk : ∀ q, s.heap.size ≤ q → FrP (sh ++ [.inl (0, N)]) (GU G sh.length q) p s m args c own cc nL → XJ (sh ++ [.inl (0, N)]) p l e R s m args below meth c (ca + 1) (sl + N) (GU G sh.length q) nL Q (pc + 2) L (.ref sh.length :: st) (upA M sh.length (fun _ => 0))) : XJ sh p l e R s m args below meth c ca sl G nL Q pc L (.int k :: st) M := by
  intro H locs ls hP hS hl
  simp only [zst, Bool.and_eq_true, decide_eq_true_eq] at hno
  obtain ⟨n1, n2, n3, n4⟩ := hno
  refine va_newa (atype := .int) (a0 := (N, .inl (fun _ => 0))) F.1 F.2.1 (F.2.2.2.2.1 _ hw) rfl F.2.2.2.2.2.2.1 hP (AWd F.2.2.2.2.2.2.2.1) (AWw hS) (fun q h => Or.inr h) (fun cA => rfl) hk.1 hk.2.1 hk.2.2 hR.1 hR.2 hd (fun q cA H1 hK1 hP1 hD1 hS1 => ?_)
  have hcA : cA = G.2.2.1 := by
    have h1 := (hK1.2 3 _ rfl).2
    have h2 := (F.2.2.2.2.2.2.1.2 0 _ rfl).2
    exact Option.some.inj (h1.symm.trans h2)
  subst hcA
  have hM : ∀ c, c < sh.length → upA M sh.length (fun _ => 0) c = M c := fun c hc => by
    have : c ≠ sh.length := by omega
    simp [upA, this]
  obtain ⟨g1, g2, g3, g4⟩ := grow_back (S := .inl (0, N)) (M' := upA M sh.length (fun _ => 0)) n3 hM (by simp [cel, GU, upA]) hP1 hD1 hS1 hS.2.2
  have F' := Fr_grow (q := q) (S := .inl (0, N)) F n3 n4 (fun _ _ h => by cases h) g1 g2
  have h9 := kk q g2 F' H1 locs ls g3 g4 (by rw [show (GU G sh.length q).2.1 = adU G.2.1 sh.length q from rfl, cvl_adU n1]; exact hl)
  have e9 : cvs (GU G sh.length q).2.1 (.ref sh.length :: st) = .ref q :: cvs G.2.1 st := by
    show cv (adU G.2.1 sh.length q) (.ref sh.length) :: cvs (adU G.2.1 sh.length q) st = _
    rw [cvs_adU n2]
    simp [cv, adU]
  rw [e9] at h9
  exact h9
theorem X_newz (F : FrP sh G p s m args c own cc nL) {k : Int32} {N : Nat} (hw : Cond.arrayClass .boolean ∈ TBL) (hk : ¬ k < 0 ∧ k.toNatClampNeg = N ∧ N * 1 ≤ 536870912) (hno : zst L st sh.length sh = true) (hR : ca + 1 ≤ R.cells ∧ sl + N ≤ R.slots) (hd : decode cc pc = .ok (.newarray .boolean, 2))
    (kk : ∀ q, s.heap.size ≤ q → FrP (sh ++ [.inl (1, N)]) (GU G sh.length q) p s m args c own cc nL → XJ (sh ++ [.inl (1, N)]) p l e R s m args below meth c (ca + 1) (sl + N) (GU G sh.length q) nL Q (pc + 2) L (.ref sh.length :: st) (upA M sh.length (fun _ => 0))) : XJ sh p l e R s m args below meth c ca sl G nL Q pc L (.int k :: st) M := by
  intro H locs ls hP hS hl
  simp only [zst, Bool.and_eq_true, decide_eq_true_eq] at hno
  obtain ⟨n1, n2, n3, n4⟩ := hno
  refine va_newa (atype := .boolean) (a0 := (N, .inl (fun _ => 0))) F.1 F.2.1 (F.2.2.2.2.1 _ hw) rfl F.2.2.2.2.2.2.1 hP (AWd F.2.2.2.2.2.2.2.1) (AWw hS) (fun q h => Or.inr h) (fun cA => rfl) hk.1 hk.2.1 hk.2.2 hR.1 hR.2 hd (fun q cA H1 hK1 hP1 hD1 hS1 => ?_)
  have hcA : cA = G.2.2.2.1 := by
    have h1 := (hK1.2 3 _ rfl).2
    have h2 := (F.2.2.2.2.2.2.1.2 1 _ rfl).2
    exact Option.some.inj (h1.symm.trans h2)
  subst hcA
  have hM : ∀ c, c < sh.length → upA M sh.length (fun _ => 0) c = M c := fun c hc => by
    have : c ≠ sh.length := by omega
    simp [upA, this]
  obtain ⟨g1, g2, g3, g4⟩ := grow_back (S := .inl (1, N)) (M' := upA M sh.length (fun _ => 0)) n3 hM (by simp [cel, GU, upA]) hP1 hD1 hS1 hS.2.2
  have F' := Fr_grow (q := q) (S := .inl (1, N)) F n3 n4 (fun _ _ h => by cases h) g1 g2
  have h9 := kk q g2 F' H1 locs ls g3 g4 (by rw [show (GU G sh.length q).2.1 = adU G.2.1 sh.length q from rfl, cvl_adU n1]; exact hl)
  have e9 : cvs (GU G sh.length q).2.1 (.ref sh.length :: st) = .ref q :: cvs G.2.1 st := by
    show cv (adU G.2.1 sh.length q) (.ref sh.length) :: cvs (adU G.2.1 sh.length q) st = _
    rw [cvs_adU n2]
    simp [cv, adU]
  rw [e9] at h9
  exact h9

def zval (w : Value) : Bool := match w with
  | .int x => decide (x = 0)
  | .long x => decide (x = 0)
  | .null => true
  | _ => false
theorem zval_fv {ad : Nat → Nat} {M : Mem} {c k : Nat} {w : Value} (h : zval w = true) (hM : M c = fun _ => 0) : fv ad M c k w = w := by
  cases w with
  | int x => have h1 : x = 0 := of_decide_eq_true h; simp [fv, hM, h1]
  | long x =>
    have h1 : x = 0 := of_decide_eq_true h
    simp only [fv, gL, hM, h1]
    rfl
  | null => rfl
  | _ => cases h
theorem X_new (F : FrP sh G p s m args c own cc nL) {idx ci N : Nat} {C : String} {T : u_T} {ty : Nat → FieldType} {tm : List Value} (hc : classes[ci]? = some (C, T, N)) (hin : ∀ w ∈ u_ws C T N, w ∈ TBL) (hty : ∀ k, k < N → parseFieldDescriptor (T k).2.2.1 = some (ty k)) (hw : Cond.classLink own idx C ∈ TBL ∧ Cond.instantiable C N ∈ TBL ∧ Cond.initialized C ∈ TBL) (hfs : ∀ j, j < N → defaultValue (ty j) = vp_V tm j) (hz : tm.all zval = true ∧ tm.length ≤ 1000) (hno : zst L st sh.length sh = true) (hR : ca + 1 ≤ R.cells ∧ sl + N ≤ R.slots) (hd : decode cc pc = .ok (.new idx, 3))
    (kk : ∀ q, s.heap.size ≤ q → FrP (sh ++ [.inr (ci, tm)]) (GU G sh.length q) p s m args c own cc nL → XJ (sh ++ [.inr (ci, tm)]) p l e R s m args below meth c (ca + 1) (sl + N) (GU G sh.length q) nL Q (pc + 3) L (.ref sh.length :: st) (upA M sh.length (fun _ => 0))) : XJ sh p l e R s m args below meth c ca sl G nL Q pc L st M := by
  intro H locs ls hP hS hl
  simp only [zst, Bool.and_eq_true, decide_eq_true_eq] at hno
  obtain ⟨n1, n2, n3, n4⟩ := hno
  refine va_new (ci := ci) (fs := tm) F.1 F.2.1 F.2.2.2.2.1 hin ty hty F.2.2.2.1 (F.2.2.2.2.1 _ hw.1) (F.2.2.2.2.1 _ hw.2.1) (F.2.2.2.2.1 _ hw.2.2) F.2.2.2.2.2.2.1 hP (AWd F.2.2.2.2.2.2.2.1) (AWw hS) (fun q h => Or.inr h) hc hfs hR.1 hR.2 hd (fun q H1 hP1 hD1 hS1 => ?_)
  have hM : ∀ c, c < sh.length → upA M sh.length (fun _ => 0) c = M c := fun c hc => by
    have : c ≠ sh.length := by omega
    simp [upA, this]
  have hce : cel (GU G sh.length q) (upA M sh.length (fun _ => 0)) sh.length (.inr (ci, tm)) = .inr (ci, tm) := by
    rw [cel_obj]
    congr 2
    apply List.ext_getElem?
    intro i
    rw [List.getElem?_mapIdx]
    cases hi : tm[i]? with
    | none => rfl
    | some w =>
      simp only [Option.map_some]
      rw [zval_fv (List.all_eq_true.mp hz.1 w (List.mem_of_getElem? hi)) (by simp [upA])]
  obtain ⟨g1, g2, g3, g4⟩ := grow_back (S := .inr (ci, tm)) (M' := upA M sh.length (fun _ => 0)) n3 hM hce hP1 hD1 hS1 hS.2.2
  have F' := Fr_grow (q := q) (S := .inr (ci, tm)) F n3 n4 (fun _ _ h => by cases h; exact hz.2) g1 g2
  have h9 := kk q g2 F' H1 locs ls g3 g4 (by rw [show (GU G sh.length q).2.1 = adU G.2.1 sh.length q from rfl, cvl_adU n1]; exact hl)
  have e9 : cvs (GU G sh.length q).2.1 (.ref sh.length :: st) = .ref q :: cvs G.2.1 st := by
    show cv (adU G.2.1 sh.length q) (.ref sh.length) :: cvs (adU G.2.1 sh.length q) st = _
    rw [cvs_adU n2]
    simp [cv, adU]
  rw [e9] at h9
  exact h9
/-- a final reference of the object that is being made -/
theorem X_putr (F : FrP sh G p s m args c own cc nL) (hin2 : meth.name = "<init>") {cell ci idx k j N : Nat} {C : String} {T : u_T} {ty0 : Nat → FieldType} {tm : List Value} {ty : FieldType} {sh' : List Shp} (hc : classes[ci]? = some (C, T, N)) (hk : k < N) (hin : ∀ w ∈ u_ws C T N, w ∈ TBL) (hty : ∀ k, k < N → parseFieldDescriptor (T k).2.2.1 = some (ty0 k)) (hnm : ∀ a, a < N → ∀ b, b < N → a ≠ b → (T a).2.1 ≠ (T b).2.1) (hw : Cond.fieldLink own idx (T k).1 (T k).2.1 (T k).2.2.1 ∈ TBL) (hfin : (T k).2.2.2 = true ∧ (T k).1 = own) (hpd : parseFieldDescriptor (T k).2.2.1 = some ty) (hfit : ∀ a : Nat, narrow ty (.ref a) = .ref a ∧ fits ty (.ref a) = true) (hs : sh[cell]? = some (.inr (ci, tm))) (hkl : k < tm.length) (hs' : sh.set cell (.inr (ci, tm.set k (.ref j))) = sh') (hd : decode cc pc = .ok (.putfield idx, 3))
    (kk : FrP sh' G p s m args c own cc nL → XJ sh' p l e R s m args below meth c ca sl G nL Q (pc + 3) L st M) : XJ sh p l e R s m args below meth c ca sl G nL Q pc L (.ref j :: .ref cell :: st) M := by
  subst hs'
  have hcl : cell < sh.length := (List.getElem?_eq_some_iff.mp hs).1
  have hlen : (sh.set cell (.inr (ci, tm.set k (.ref j)))).length = sh.length := List.length_set
  have hAW : AW (sh.set cell (.inr (ci, tm.set k (.ref j)))) G.2.1 = AW sh G.2.1 := by unfold AW; rw [hlen]
  have F' : FrP (sh.set cell (.inr (ci, tm.set k (.ref j)))) G p s m args c own cc nL := by
    obtain ⟨f1, f2, f3, f4, f5, f6, f7, f8, f9⟩ := F
    refine ⟨f1, f2, f3, f4, f5, f6, f7, ⟨?_, ?_⟩, ?_⟩
    · intro cell2 ci2 tm2 h
      by_cases e : cell = cell2
      · subst e
        rw [List.getElem?_set_self hcl] at h
        cases h
        rw [List.length_set]
        exact f8.1 _ _ _ hs
      · rw [List.getElem?_set_ne e] at h
        exact f8.1 _ _ _ h
    · rw [hlen]
      exact f8.2
    · unfold EXT
      rw [hAW]
      exact f9
  intro H locs ls hP hS hl
  have h1 := wl_get (G := G) (M := M) hs
  rw [cel_obj] at h1
  refine va_putF F.1 F.2.1 F.2.2.2.2.1 hin ty0 hty hnm F.2.2.2.1 F.2.2.2.2.2.2.1 hP (wl_D F.2.2.2.2.2.2.2.1) hS cell h1 hc k hk (F.2.2.2.2.1 _ hw) (fun _ h => h) hfin.1 hin2 hfin.2 hpd (hfit _).1 (hfit _).2 (by rw [List.length_mapIdx]; exact hkl) hd (fun H1 locs1 hP1 _ hS1 => ?_)
  have e : (wl sh G M).set cell (G.2.1 cell, .inr (ci, (tm.mapIdx (fun k w => fv G.2.1 M cell k w)).set k (.ref (G.2.1 j)))) = wl (sh.set cell (.inr (ci, tm.set k (.ref j)))) G M := by
    apply List.ext_getElem?
    intro d
    unfold wl
    by_cases e : cell = d
    · subst e
      rw [List.getElem?_set_self (by rw [List.length_mapIdx]; exact hcl), List.getElem?_mapIdx, List.getElem?_set_self hcl]
      simp only [Option.map_some, cel_obj]
      congr 4
      apply List.ext_getElem?
      intro i
      by_cases e2 : k = i
      · subst e2
        rw [List.getElem?_set_self (by rw [List.length_mapIdx]; exact hkl), List.getElem?_mapIdx, List.getElem?_set_self hkl]
        rfl
      · rw [List.getElem?_set_ne e2, List.getElem?_mapIdx, List.getElem?_mapIdx, List.getElem?_set_ne e2]
    · rw [List.getElem?_set_ne e, List.getElem?_mapIdx, List.getElem?_mapIdx, List.getElem?_set_ne e]
  have hP2 : va_P G.1 classes ((wl sh G M).set cell (G.2.1 cell, .inr (ci, (tm.mapIdx (fun k w => fv G.2.1 M cell k w)).set k (.ref (G.2.1 j))))) H1 := hP1
  rw [e] at hP2
  rw [← hAW] at hS1
  exact kk F' H1 locs1 ls hP2 hS1 hl
theorem X_objinit (F : FrP sh G p s m args c own cc nL) {idx a : Nat} (hw : Cond.methodLink own idx objectInit ∈ TBL ∧ Cond.instanceMethod objectInit ∈ TBL ∧ Cond.code objectInit ⟨#[0xb1]⟩ 1 none ∈ TBL) (hR : 1 ≤ R.frames ∧ 40 ≤ R.locals) (hst : (st.map fun v => v.category).sum + 12 ≤ 40) (hd : decode cc pc = .ok (.invokespecial idx, 3)) (k : XJ sh p l e R s m args below meth c ca sl G nL Q (pc + 3) L st M) : XJ sh p l e R s m args below meth c ca sl G nL Q pc L (.ref a :: st) M := by
  intro H locs ls hP hS hl
  refine W.objInit F.1 F.2.1 F.2.2.2.1 (F.2.2.2.2.1 _ hw.1) (F.2.2.2.2.1 _ hw.2.1) (F.2.2.2.2.1 _ hw.2.2) rfl (by rw [F.2.2.1]; exact hl.1) rfl hd hR.1 ?_ (k H locs ls hP hS hl)
  show 2 * 0 + ((cvs G.2.1 st).map fun v => v.category).sum + 12 ≤ R.locals
  rw [cvs_cat]
  omega
/-- a constructor's contract: the world sh becomes sh', at old addresses and new ones -/
def GEx (sh sh' : List Shp) (G G' : GG) (sz : Nat) : Prop := G'.1 = G.1 ∧ G'.2.2 = G.2.2 ∧ (∀ c, c < sh.length ∨ 100 ≤ c → G'.2.1 c = G.2.1 c) ∧ (∀ c, sh.length ≤ c → c < sh'.length → sz ≤ G'.2.1 c) ∧ Inj sh' G'.2.1
def QcN (sh sh' : List Shp) (G : GG) (M' : Mem) : Array Value → State → Outcome → State → Prop := fun _ st o t => o = .returned none ∧ ∃ G' : GG, GEx sh sh' G G' st.heap.size ∧ va_P G.1 classes (wl sh' G' M') t.heap ∧ va_F (fun q => AW sh G.2.1 q ∨ st.heap.size ≤ q) st t
def PcN (sh : List Shp) (G : GG) (av : List Value) (M : Mem) (sz : Nat) : Array Value → State → Prop := fun a U => U.heap.size = sz ∧ PcX sh G av M a U
def rmN (d mc ms : Nat) : Room := { frames := d, cells := mc, slots := ms, locals := 100 * d }
def MetN (sh sh' : List Shp) (l : Launch) (G : GG) (y : MethodName) (bytes : ByteArray) (mL d mc ms : Nat) (av : List Value) (M M' : Mem) (sz : Nat) : Prop :=
  Met l y (.code y bytes mL none :: TBL) (rmN d mc ms) (PcN sh G av M sz) (QcN sh sh' G M') mc ms (fun q => AW sh G.2.1 q ∨ sz ≤ q)
theorem X_nret {sh0 : List Shp} {G0 : GG} (F : FrP sh G p s m args c own cc nL) (hr : meth.sig.returnType = none) (hlk : meth.locks = false) (hG : GEx sh0 sh G0 G s.heap.size) (hd : decode cc pc = .ok (.return_, 1)) : XJ sh p l e R s m args below meth c ca sl G nL (MQ below (QcN sh0 sh G0 M) args s ca sl (fun q => AW sh0 G0.2.1 q ∨ s.heap.size ≤ q)) pc L [] M := by
  intro H locs ls hP hS hl
  have hA : ∀ q, AW sh G.2.1 q → AW sh0 G0.2.1 q ∨ s.heap.size ≤ q := by
    intro q ⟨i, hi, e⟩
    rcases Nat.lt_or_ge i sh0.length with h | h
    · exact Or.inl ⟨i, h, by rw [← hG.2.2.1 i (Or.inl h)]; exact e⟩
    · exact Or.inr (by rw [← e]; exact hG.2.2.2.1 i h hi)
  refine W.vret F.1 F.2.1 hr (fun t ht hW => ⟨rfl, G, hG, by rw [ht, ← hG.1]; exact hP, ?_⟩) (fun x hx => hA _ (hS.2.2 x hx)) hd hlk
  exact ⟨by rw [ht]; exact hS.1, fun q h1 h2 => by rw [ht]; exact hS.2.1 q h1 (fun h => h2 (hA q h))⟩
theorem X_metN {sh' : List Shp} {y : MethodName} {bytes : ByteArray} {mL d mc ms sz : Nat} {av : List Value} {M' : Mem} (hI : Inj sh G.2.1) (hy : plainName y.cls = true) (hyi : y.name = "<init>") (hav : (lg_sl (cvs G.2.1 av)).length ≤ mL)
    (body : ∀ p e s m args below meth c, s.heap.size = sz → FrP sh G p s m args c y.cls bytes mL → meth.sig.returnType = none → meth.locks = false → meth.name = "<init>" → XJ sh p l e (rmN d mc ms) s m args below meth c 0 0 G mL (MQ below (QcN sh sh' G M') args s mc ms (fun q => AW sh G.2.1 q ∨ s.heap.size ≤ q)) 0 (lv_args 0 av) [] M) : MetN sh sh' l G y bytes mL d mc ms av M M' sz := by
  refine Met.ofW (cc := bytes) (maxL := mL) (ret := none) hy rfl ?_
  intro p e s m args below meth c s₁ B hml hv
  obtain ⟨hsz, rfl, hP, hK, hN, hE⟩ := hv
  have hts0 := atoms_spec (ws := Cond.code y bytes mL none :: TBL) B.pre
  have hF : FrP sh G p s m (cvs G.2.1 av).toArray c y.cls bytes mL := ⟨B.exec, B.bytes, hml, findClass_of_methodNamed B.named, fun w hw => hts0 w (List.mem_cons_of_mem _ hw), hN, hK, hI, hE⟩
  have hl := lv_entry (cvs G.2.1 av) (n := mL) hav
  have hnm : meth.name = "<init>" := by rw [(name_of_methodNamed B.named B.method).1]; exact hyi
  have hb := body p e s m (cvs G.2.1 av).toArray below meth c hsz hF B.returns B.notSynchronized hnm s.heap [] _ hP va_S.rf (by rw [cvl_args]; exact hl)
  rw [lg_entry_eq]
  subst hsz
  exact hb

theorem GEx.rf {sz : Nat} (h : Inj sh G.2.1) : GEx sh sh G G sz := ⟨rfl, rfl, fun _ _ => rfl, fun c h1 h2 => absurd h2 (Nat.not_lt.mpr h1), h⟩
theorem GEx.grow {sh0 : List Shp} {G0 : GG} {sz q : Nat} {S : Shp} (h : GEx sh0 sh G0 G sz) (hl : sh0.length ≤ sh.length ∧ sh.length < 100) (hq : sz ≤ q) (hI : Inj (sh ++ [S]) (GU G sh.length q).2.1) : GEx sh0 (sh ++ [S]) G0 (GU G sh.length q) sz := by
  refine ⟨h.1, h.2.1, fun c hc => ?_, fun c h1 h2 => ?_, hI⟩
  · have h1 : c ≠ sh.length := by omega
    simp only [GU, adU, if_neg h1]
    exact h.2.2.1 c hc
  · by_cases e : c = sh.length
    · simp only [GU, adU, if_pos e]; exact hq
    · simp only [GU, adU, if_neg e]
      rw [List.length_append, List.length_singleton] at h2
      exact h.2.2.2.1 c h1 (by omega)
theorem GEx.put {sh0 sh' : List Shp} {G0 : GG} {sz : Nat} (h : GEx sh0 sh G0 G sz) (hl : sh'.length = sh.length) (hI : Inj sh' G.2.1) : GEx sh0 sh' G0 G sz := ⟨h.1, h.2.1, h.2.2.1, fun c h1 h2 => h.2.2.2.1 c h1 (by omega), hI⟩
/-- a row of rows -/
def adM (ad : Nat → Nat) (n q N : Nat) (r : Nat → Nat) : Nat → Nat := fun c => if c = n then q else if n < c ∧ c < n + 1 + N then r (c - (n + 1)) else ad c
def GM (G : GG) (n q N : Nat) (r : Nat → Nat) : GG := (G.1, adM G.2.1 n q N r, G.2.2)
def zM (M : Mem) (n N : Nat) : Mem := fun c => if n ≤ c ∧ c < n + 1 + N then (fun _ => 0) else M c
/-- all references lie below n (or outside) -/
def rlt (n : Nat) (v : Value) : Bool := match v with
  | .ref c => decide (c < n) || decide (100 ≤ c)
  | _ => true
def shLt (n : Nat) (sh : List Shp) : Bool := sh.all (fun S => match S with
  | .inl (0, _) => true
  | .inl (1, _) => true
  | .inl (b + 2, k) => decide (b + k ≤ n)
  | .inr (_, tm) => tm.all (rlt n))
theorem cv_agr {ad ad' : Nat → Nat} {n : Nat} {v : Value} (h : rlt n v = true) (ha : ∀ c, c < n ∨ 100 ≤ c → ad' c = ad c) : cv ad' v = cv ad v := by
  cases v <;> try rfl
  rename_i c
  simp only [rlt, Bool.or_eq_true, decide_eq_true_eq] at h
  simp [cv, ha c h]
theorem cvs_agr {ad ad' : Nat → Nat} {n : Nat} {st : List Value} (h : st.all (rlt n) = true) (ha : ∀ c, c < n ∨ 100 ≤ c → ad' c = ad c) : cvs ad' st = cvs ad st := by
  unfold cvs
  apply List.map_congr_left
  intro v hv
  exact cv_agr (List.all_eq_true.mp h v hv) ha
theorem cvl_agr {ad ad' : Nat → Nat} {n : Nat} {L : List (Nat × Value)} (h : L.all (fun p => rlt n p.2) = true) (ha : ∀ c, c < n ∨ 100 ≤ c → ad' c = ad c) : cvl ad' L = cvl ad L := by
  unfold cvl
  apply List.map_congr_left
  intro v hv
  rw [cv_agr (List.all_eq_true.mp h v hv) ha]
theorem cel_agr {G G' : GG} {M M' : Mem} {n c : Nat} {S : Shp} (hS : shLt n [S] = true) (hG : G'.2.2 = G.2.2) (ha : ∀ c, c < n ∨ 100 ≤ c → G'.2.1 c = G.2.1 c) (hM : M' c = M c) : cel G' M' c S = cel G M c S := by
  rw [cel_cong (G := G') (S := S) hM]
  unfold shLt at hS
  simp only [List.all_cons, List.all_nil, Bool.and_true] at hS
  rcases S with ⟨t, k⟩ | ⟨ci, tm⟩
  · match t with
    | 0 => simp only [cel, hG]
    | 1 => simp only [cel, hG]
    | b + 2 =>
      simp only [decide_eq_true_eq] at hS
      simp only [cel, hG]
      congr 6
      refine congrArg Sum.inr (funext fun i => ?_)
      by_cases hi : i < k
      · simp [hi, ha (b + i) (Or.inl (by omega))]
      · simp [hi]
  · simp only [cel_obj]
    congr 2
    apply List.mapIdx_eq_mapIdx_iff.mpr
    intro i hi
    have h1 : rlt n tm[i] = true := List.all_eq_true.mp hS _ (List.getElem_mem hi)
    generalize tm[i] = w at h1
    cases w <;> try rfl
    rename_i j
    simp only [rlt, Bool.or_eq_true, decide_eq_true_eq] at h1
    simp [fv, ha j h1]
theorem shLt_at {n i : Nat} {sh : List Shp} {S : Shp} (h : shLt n sh = true) (hs : sh[i]? = some S) : shLt n [S] = true := by
  unfold shLt at h ⊢
  simp only [List.all_cons, List.all_nil, Bool.and_true]
  exact List.all_eq_true.mp h _ (List.mem_of_getElem? hs)
/-- an address of a cell of the world is live -/
theorem live {H : Heap} (hP : va_P G.1 classes (wl sh G M) H) {i : Nat} (hi : i < sh.length) : G.2.1 i < H.size :=
  (hP i _ (wl_get (List.getElem?_eq_some_iff.mpr ⟨hi, rfl⟩))).lt
/-- shapes under new numbers: n on, what is told by an argument as it was told -/
def renR (n : Nat) (ex : List Nat) (v : Value) : Value := match v with
  | .ref j => if j < 100 then .ref (n + j) else .ref (ex.getD (j - 100) 0)
  | w => w
def renS (n : Nat) (ex : List Nat) (S : Shp) : Shp := match S with
  | .inl (0, k) => .inl (0, k)
  | .inl (1, k) => .inl (1, k)
  | .inl (b + 2, k) => .inl (n + b + 2, k)
  | .inr (ci, tm) => .inr (ci, tm.map (renR n ex))
/-- the callee's names of cells -/
def adL (ad : Nat → Nat) (n : Nat) (ex : List Nat) : Nat → Nat := fun c => if c < 100 then ad (n + c) else if c < 200 then ad (ex.getD (c - 100) 0) else ad c
def GL (G : GG) (n : Nat) (ex : List Nat) : GG := (G.1, adL G.2.1 n ex, G.2.2)
/-- all references of the callee's shapes: below its length, or to an argument -/
def rIn (k e : Nat) (v : Value) : Bool := match v with
  | .ref c => decide (c < k ∧ c < 100) || decide (100 ≤ c ∧ c < 100 + e)
  | _ => true
def shIn (k e : Nat) (sh : List Shp) : Bool := sh.all (fun S => match S with
  | .inl (0, _) => true
  | .inl (1, _) => true
  | .inl (b + 2, j) => decide (b + j ≤ k)
  | .inr (_, tm) => tm.all (rIn k e))

theorem Fr_many {sh' : List Shp} {G' : GG} (F : FrP sh G p s m args c own cc nL) (hag : ∀ c, c < sh.length ∨ 100 ≤ c → G'.2.1 c = G.2.1 c) (h1 : G'.1 = G.1) (h2 : G'.2.2 = G.2.2) (hI : Inj sh' G'.2.1) (hnew : ∀ c, sh.length ≤ c → c < sh'.length → s.heap.size ≤ G'.2.1 c) : FrP sh' G' p s m args c own cc nL := by
  obtain ⟨f1, f2, f3, f4, f5, f6, f7, f8, f9⟩ := F
  refine ⟨f1, f2, f3, f4, f5, f6, ?_, hI, f9.grow ⟨h1, h2, fun c hc => hag c (Or.inr (by omega))⟩ ?_⟩
  · rw [h1]
    unfold TYS
    rw [h2]
    exact f7
  · intro a ha hb
    obtain ⟨i, hi, e⟩ := hb
    rcases Nat.lt_or_ge i sh.length with h | h
    · exact ⟨i, h, by rw [← hag i (Or.inl h)]; exact e⟩
    · have := hnew i h hi
      omega
theorem S_many {sh' : List Shp} {G' : GG} {H H1 : Heap} {locs : List Loc} (hlen : sh.length ≤ sh'.length) (hag : ∀ c, c < sh.length ∨ 100 ≤ c → G'.2.1 c = G.2.1 c) (hS : va_S (AW sh G.2.1) s.heap H locs) (hz : H.size ≤ H1.size) (hk : ∀ q, q < s.heap.size → ¬ AW sh G.2.1 q → H1[q]? = s.heap[q]?) : va_S (AW sh' G'.2.1) s.heap H1 locs := by
  have hup : ∀ a, AW sh G.2.1 a → AW sh' G'.2.1 a := fun a ⟨i, hi, e⟩ => ⟨i, by omega, by rw [hag i (Or.inl hi)]; exact e⟩
  exact ⟨Nat.le_trans hS.1 hz, fun q h1 h2 => hk q h1 (fun h => h2 (hup q h)), fun x hx => hup _ (hS.2.2 x hx)⟩
theorem GEx.many {sh0 sh' : List Shp} {G0 G' : GG} {sz : Nat} (h : GEx sh0 sh G0 G sz) (hl : sh0.length ≤ sh.length) (hag : ∀ c, c < sh.length ∨ 100 ≤ c → G'.2.1 c = G.2.1 c) (h1 : G'.1 = G.1) (h2 : G'.2.2 = G.2.2) (hI : Inj sh' G'.2.1) (hnew : ∀ c, sh.length ≤ c → c < sh'.length → sz ≤ G'.2.1 c) : GEx sh0 sh' G0 G' sz := by
  refine ⟨h1.trans h.1, h2.trans h.2.1, fun c hc => ?_, fun c a b => ?_, hI⟩
  · rw [hag c (by omega)]
    exact h.2.2.1 c hc
  · rcases Nat.lt_or_ge c sh.length with q | q
    · rw [hag c (Or.inl q)]
      exact h.2.2.2.1 c a q
    · exact hnew c q b
theorem wl_many {sh2 : List Shp} {G' : GG} {M' : Mem} (hs : shLt sh.length sh = true) (hag : ∀ c, c < sh.length ∨ 100 ≤ c → G'.2.1 c = G.2.1 c) (h2 : G'.2.2 = G.2.2) (hM : ∀ c, c < sh.length → M' c = M c) : wl (sh ++ sh2) G' M' = wl sh G M ++ sh2.mapIdx (fun i S => (G'.2.1 (i + sh.length), cel G' M' (i + sh.length) S)) := by
  unfold wl
  rw [List.mapIdx_append]
  congr 1
  apply List.mapIdx_eq_mapIdx_iff.mpr
  intro i hi
  rw [cel_agr (shLt_at hs (List.getElem?_eq_some_iff.mpr ⟨hi, rfl⟩)) h2 hag (hM i hi), hag i (Or.inl hi)]
theorem X_mna {idx N K : Nat} {k n : Int32} (F : FrP sh G p s m args c own cc nL) (hw : Cond.classLink own idx "[[I" ∈ TBL ∧ Cond.arrayOver (.array .int) ∈ NTB ∧ Cond.arrayClass .int ∈ TBL) (hk : ¬ n < 0 ∧ ¬ k < 0 ∧ n.toNatClampNeg = N ∧ k.toNatClampNeg = K ∧ N * 4 ≤ 536870912 ∧ K * 4 ≤ 536870912 ∧ K ≤ 536870912) (hno : (L.all (fun p => rlt sh.length p.2) && st.all (rlt sh.length) && shLt sh.length sh && decide (sh.length + 1 + N < 100)) = true) (hR : ca + (1 + N) ≤ R.cells ∧ sl + (N + N * K) ≤ R.slots) (hd : decode cc pc = .ok (.multianewarray idx 2, 4)) {sh0 : List Shp} {G0 : GG} (hG : GEx sh0 sh G0 G s.heap.size) (hl0 : sh0.length ≤ sh.length)
    (kk : ∀ G', (∀ c, c < sh.length ∨ 100 ≤ c → G'.2.1 c = G.2.1 c) → FrP (sh ++ (.inl (sh.length + 1 + 2, N) :: List.replicate N (.inl (0, K)))) G' p s m args c own cc nL → GEx sh0 (sh ++ (.inl (sh.length + 1 + 2, N) :: List.replicate N (.inl (0, K)))) G0 G' s.heap.size → XJ (sh ++ (.inl (sh.length + 1 + 2, N) :: List.replicate N (.inl (0, K)))) p l e R s m args below meth c (ca + 1 + N) (sl + N + N * K) G' nL Q (pc + 4) L (.ref sh.length :: st) (zM M sh.length N)) : XJ sh p l e R s m args below meth c ca sl G nL Q pc L (.int k :: .int n :: st) M := by
  intro H locs ls hP hS hl
  simp only [Bool.and_eq_true, decide_eq_true_eq] at hno
  obtain ⟨⟨⟨n1, n2⟩, n3⟩, n4⟩ := hno
  have hnil : wl sh G M ++ va_pl [] (fun _ => (.inr (0, []) : va_E)) = wl sh G M := by simp [va_pl]
  have hcy : s.vm.findClass (FieldType.array .int).toString = some G.2.2.1 := (F.2.2.2.2.2.2.1.2 0 _ rfl).2
  refine va_mna (X := wl sh G M) (L := []) (f := fun _ => .inr (0, [])) (cy := G.2.2.1) (z := (K, .inl (fun _ => 0))) (ty := .int) F.1 F.2.1 F.2.2.2.1 (F.2.2.2.2.1 _ hw.1) (ao_vm (A := #[]) rfl (F.2.2.2.2.2.1 _ hw.2.1)) (F.2.2.2.2.1 _ hw.2.2) hcy F.2.2.2.2.2.2.1 (by rw [hnil]; exact hP) (by rw [hnil]; exact AWd F.2.2.2.2.2.2.2.1) (AWw hS) (fun q h => Or.inr h) hk.1 hk.2.1 hk.2.2.1 hk.2.2.2.1 hk.2.2.2.2.1 hk.2.2.2.2.2.1 hk.2.2.2.2.2.2 rfl rfl hR.1 hR.2 (fun c => by
      show ({ cls := c, slots := Array.replicate K (Value.int 0), vm := .none } : Cell) = _
      rw [arrV_new]
      rfl) hd (fun q r cA H1 hinj _ hK1 hP1 hD1 hS1 => ?_)
  have hcA : cA = G.2.2.2.2 := by
    have h1 := (hK1.2 3 _ rfl).2
    have h2 := (F.2.2.2.2.2.2.1.2 2 _ rfl).2
    exact Option.some.inj (h1.symm.trans h2)
  subst hcA
  generalize hG' : GM G sh.length q N r = G'
  have e1 : G'.1 = G.1 := by rw [← hG']; rfl
  have e2 : G'.2.2 = G.2.2 := by rw [← hG']; rfl
  have hag : ∀ c, c < sh.length ∨ 100 ≤ c → G'.2.1 c = G.2.1 c := by
    intro c hc
    rw [← hG']
    have h1 : c ≠ sh.length := by omega
    have h2 : ¬ (sh.length < c ∧ c < sh.length + 1 + N) := by omega
    simp [GM, adM, h1, h2]
  have hq : G'.2.1 sh.length = q := by rw [← hG']; simp [GM, adM]
  have hr : ∀ i, i < N → G'.2.1 (sh.length + 1 + i) = r i := by
    intro i hi
    rw [← hG']
    have h1 : sh.length + 1 + i ≠ sh.length := by omega
    have h2 : sh.length < sh.length + 1 + i ∧ sh.length + 1 + i < sh.length + 1 + N := by omega
    simp only [GM, adM, if_neg h1, if_pos h2]
    congr 1
    omega
  generalize hM' : zM M sh.length N = M' at kk
  have hM : ∀ c, c < sh.length → M' c = M c := by
    intro c hc
    rw [← hM']
    have h1 : ¬ (sh.length ≤ c ∧ c < sh.length + 1 + N) := by omega
    simp [zM, h1]
  have hM0 : ∀ i, i < N → M' (sh.length + 1 + i) = fun _ => 0 := by
    intro i hi
    rw [← hM']
    have h1 : sh.length ≤ sh.length + 1 + i ∧ sh.length + 1 + i < sh.length + 1 + N := by omega
    simp only [zM, if_pos h1]
  have hw2 : wl (sh ++ (.inl (sh.length + 1 + 2, N) :: List.replicate N (.inl (0, K)))) G' M' = (wl sh G M ++ [(q, .inl (G.2.2.2.2, N, .inr (.inr (.inr (.inr (fun i => if i < N then some (r i) else none))))))]) ++ va_pl ([] ++ (List.range N).map r) (vr_up (fun _ => (.inr (0, []) : va_E)) ((List.range N).map r) (.inl (G.2.2.1, (K, .inl (fun _ => 0))))) := by
    rw [wl_many n3 hag e2 hM, List.append_assoc]
    congr 1
    rw [List.mapIdx_cons]
    simp only [Nat.zero_add, List.nil_append, List.singleton_append]
    congr 1
    · rw [hq]
      simp only [cel, e2]
      congr 6
      refine congrArg Sum.inr (congrArg Sum.inr (funext fun i => ?_))
      by_cases hi : i < N
      · simp only [hi, if_true]
        rw [hr i hi]
      · simp [hi]
    · apply List.ext_getElem?
      intro i
      unfold va_pl
      rw [List.getElem?_mapIdx, List.getElem?_map, List.getElem?_map]
      by_cases hi : i < N
      · rw [List.getElem?_replicate, if_pos hi, List.getElem?_range hi]
        simp only [Option.map_some]
        have h9 : r i ∈ (List.range N).map r := List.mem_map.mpr ⟨i, List.mem_range.mpr hi, rfl⟩
        rw [vr_up_in h9, show i + 1 + sh.length = sh.length + 1 + i by omega, hr i hi]
        simp only [cel, e2, hM0 i hi]
      · rw [List.getElem?_replicate, if_neg hi, List.getElem?_eq_none (by rw [List.length_range]; omega)]
        rfl
  rw [← hw2] at hP1 hD1
  have hlen : (sh ++ (.inl (sh.length + 1 + 2, N) :: List.replicate N (.inl (0, K)) : List Shp)).length = sh.length + 1 + N := by
    rw [List.length_append, List.length_cons, List.length_replicate]
    omega
  generalize hsh : (sh ++ (.inl (sh.length + 1 + 2, N) :: List.replicate N (.inl (0, K)) : List Shp)) = sh' at *
  have hat : ∀ i, i < sh'.length → (wl sh' G' M')[i]? = some (G'.2.1 i, cel G' M' i (sh'.getD i (.inl (0, 0)))) := by
    intro i hi
    refine wl_get ?_
    rw [List.getD_eq_getElem?_getD, List.getElem?_eq_getElem hi]
    rfl
  have hI : Inj sh' G'.2.1 := by
    refine ⟨?_, fun i j hi hj hij => hD1.1 i j _ _ (hat i hi) (hat j hj) hij⟩
    intro cell ci tm h
    rw [← hsh] at h
    rcases Nat.lt_or_ge cell sh.length with h1 | h1
    · rw [List.getElem?_append_left h1] at h
      exact F.2.2.2.2.2.2.2.1.1 _ _ _ h
    · rw [List.getElem?_append_right h1] at h
      have h2 := List.mem_of_getElem? h
      rcases List.mem_cons.mp h2 with h3 | h3
      · cases h3
      · have := List.eq_of_mem_replicate h3
        cases this
  have hnew : ∀ c, sh.length ≤ c → c < sh'.length → s.heap.size ≤ G'.2.1 c := by
    intro c h1 h2
    rcases hD1.2 c _ (hat c h2) with ⟨i, hi, e⟩ | h
    · have h3 : i = c := hI.2 i c (by omega) h2 (by rw [hag i (Or.inl hi)]; exact e)
      omega
    · exact h
  have F' := Fr_many F hag e1 e2 hI hnew
  have hS2 : va_S (AW sh' G'.2.1) s.heap H1 locs := by
    have hup : ∀ a, AW sh G.2.1 a → AW sh' G'.2.1 a := fun a ⟨i, hi, e⟩ => ⟨i, by omega, by rw [hag i (Or.inl hi)]; exact e⟩
    refine ⟨hS1.1, fun x h1 h2 => hS1.2.1 x h1 (fun h => ?_), fun x hx => hup _ (hS.2.2 x hx)⟩
    rcases h with h | h
    · exact h2 (hup x h)
    · omega
  have h9 := kk G' hag F' (hG.many hl0 hag e1 e2 hI hnew) H1 locs ls (by rw [e1]; exact hP1) hS2 (by rw [cvl_agr n1 hag]; exact hl)
  have e9 : cvs G'.2.1 (.ref sh.length :: st) = .ref q :: cvs G.2.1 st := by
    show cv G'.2.1 (.ref sh.length) :: cvs G'.2.1 st = _
    rw [cvs_agr n2 hag]
    simp [cv, hq]
  rw [e9] at h9
  exact h9

theorem renS_cel {G G' GL' : GG} {M' ML' : Mem} {n k ec c : Nat} {ex : List Nat} {S : Shp} (hS : shIn k ec [S] = true) (hex : ec ≤ ex.length ∧ ec ≤ 100) (hex2 : ex.all (fun j => decide (j < n)) = true) (h2 : G'.2.2 = GL'.2.2) (hk : k < 100) (hag : ∀ j, j < k → G'.2.1 (n + j) = GL'.2.1 j) (hold : ∀ j, j < n → G'.2.1 j = G.2.1 j) (hext : ∀ i, i < ec → GL'.2.1 (100 + i) = G.2.1 (ex.getD i 0)) (hM : M' (n + c) = ML' c) : cel G' M' (n + c) (renS n ex S) = cel GL' ML' c S := by
  unfold shIn at hS
  simp only [List.all_cons, List.all_nil, Bool.and_true] at hS
  rcases S with ⟨t, j⟩ | ⟨ci, tm⟩
  · match t with
    | 0 => simp only [renS, cel, h2, hM]
    | 1 => simp only [renS, cel, h2, hM]
    | b + 2 =>
      simp only [decide_eq_true_eq] at hS
      simp only [renS, cel, h2]
      refine congrArg (fun z => (Sum.inl (GL'.2.2.2.2, j, .inr (.inr (.inr (.inr z)))) : va_E)) (funext fun i => ?_)
      by_cases hi : i < j
      · simp only [hi, if_true]
        rw [Nat.add_assoc, hag (b + i) (by omega)]
      · simp [hi]
  · simp only [renS, cel_obj]
    congr 2
    apply List.ext_getElem?
    intro i
    rw [List.getElem?_mapIdx, List.getElem?_mapIdx, List.getElem?_map]
    cases hi : tm[i]? with
    | none => rfl
    | some w =>
      simp only [Option.map_some]
      have h1 : rIn k ec w = true := List.all_eq_true.mp hS w (List.mem_of_getElem? hi)
      congr 1
      cases w with
      | ref j0 =>
        obtain ⟨j, rfl⟩ : ∃ j : Nat, j = j0 := ⟨j0, rfl⟩
        simp only [rIn, Bool.or_eq_true, decide_eq_true_eq] at h1
        rcases h1 with h1 | h1
        · simp only [renR, if_pos h1.2, fv]
          rw [hag j h1.1]
        · have h1a : @LE.le Nat _ 100 j := h1.1
          have h1b : @LT.lt Nat _ j (100 + ec) := h1.2
          have h3 : ¬ @LT.lt Nat _ j 100 := by omega
          simp only [renR, if_neg h3, fv]
          have h4 : j - 100 < ec := by omega
          have h5 : ex.getD (j - 100) 0 < n := by
            rw [List.getD_eq_getElem?_getD, List.getElem?_eq_getElem (by omega)]
            exact of_decide_eq_true (List.all_eq_true.mp hex2 _ (List.getElem_mem (by omega)))
          have h6 := hext (j - 100) h4
          rw [show 100 + (j - 100) = j by omega] at h6
          rw [hold _ h5, h6]
      | int x => simp only [renR, fv, hM]
      | long x => simp only [renR, fv, gL, hM]
      | _ => rfl
/-- a constructor is called on the object made last: its world, told in its own numbers, comes in place of the object -/
theorem X_callN {shp shN sh' : List Shp} {S0 : Shp} (F : FrP (shp ++ [S0]) G p s m args c own cc nL) {idx na mL d mc ms ec : Nat} {y : MethodName} {bytes : ByteArray} {As AL rest : List Value} {ex : List Nat} {ML ML' M' : Mem} (hlk : LNK own idx y) (he : CLE y na bytes mL none) (hyi : y.name = "<init>" ∧ Cond.instanceMethod y ∈ TBL)
    (hM : ∀ sz, MetN [S0] shN l (GL G shp.length ex) y bytes mL d mc ms (.ref 0 :: AL) ML ML' sz) (hML : ML 0 = M shp.length) (hav : cvs (adL G.2.1 shp.length ex) AL = cvs G.2.1 As) (hS0 : ∃ ci tm, S0 = .inr (ci, tm) ∧ tm.all zval = true)
    (hst : st = As.reverse ++ .ref shp.length :: rest) (hlen : As.length = na) (hroom : (rest.map fun v => v.category).sum ≤ 8) (hR : d + 1 ≤ R.frames ∧ 8 + (mL + 11) + 100 * d ≤ R.locals ∧ ca + mc ≤ R.cells ∧ sl + ms ≤ R.slots) (hd : decode cc pc = .ok (.invokespecial idx, 3))
    (hchk : (L.all (fun p => rlt (shp.length + 1) p.2) && rest.all (rlt (shp.length + 1)) && shLt shp.length shp && shIn shN.length ec shN && ex.all (fun j => decide (j < shp.length)) && decide (shp.length + shN.length < 100 ∧ 1 ≤ shN.length ∧ ec ≤ ex.length ∧ ec ≤ 100)) = true) (hsh' : shp ++ shN.map (renS shp.length ex) = sh') (hM' : ∀ c, M' c = if c < shp.length then M c else if c < shp.length + shN.length then ML' (c - shp.length) else M c) (hnew0 : s.heap.size ≤ G.2.1 shp.length) {sh0 : List Shp} {G0 : GG} (hG : GEx sh0 (shp ++ [S0]) G0 G s.heap.size) (hl0 : sh0.length ≤ shp.length)
    (kk : ∀ G', (∀ c, c < shp.length + 1 ∨ 100 ≤ c → G'.2.1 c = G.2.1 c) → FrP sh' G' p s m args c own cc nL → GEx sh0 sh' G0 G' s.heap.size → XJ sh' p l e R s m args below meth c (ca + mc) (sl + ms) G' nL Q (pc + 3) L rest M') : XJ (shp ++ [S0]) p l e R s m args below meth c ca sl G nL Q pc L st M := by
  subst hst
  subst hsh'
  intro H locs ls hP hS hl
  simp only [Bool.and_eq_true, decide_eq_true_eq] at hchk
  obtain ⟨⟨⟨⟨⟨n1, n2⟩, n3⟩, n4⟩, n5⟩, n6, n7, n8, n9⟩ := hchk
  have hlen1 : (shp ++ [S0]).length = shp.length + 1 := by rw [List.length_append, List.length_singleton]
  generalize hn : shp.length = n at *
  -- the callee's start
  obtain ⟨ci, tm, rfl, hz⟩ := hS0
  have hadl : (GL G n ex).2.1 0 = G.2.1 n := by simp [GL, adL]
  have hcell : va_at G.1 classes (G.2.1 n, cel G M n (.inr (ci, tm))) H := hP n _ (wl_get (by rw [List.getElem?_append_right (by omega), hn, Nat.sub_self]; rfl))
  have hPl : va_P G.1 classes (wl [.inr (ci, tm)] (GL G n ex) ML) H := by
    intro k q hk
    have h1 : wl [.inr (ci, tm)] (GL G n ex) ML = [((GL G n ex).2.1 0, cel (GL G n ex) ML 0 (.inr (ci, tm)))] := rfl
    rw [h1] at hk
    have h2 : k < 1 := (List.getElem?_eq_some_iff.mp hk).1
    rw [show k = 0 by omega] at hk
    cases hk
    rw [hadl]
    have h3 : cel (GL G n ex) ML 0 (.inr (ci, tm)) = cel G M n (.inr (ci, tm)) := by
      simp only [cel_obj]
      congr 2
      apply List.mapIdx_eq_mapIdx_iff.mpr
      intro i hi
      have h4 : zval tm[i] = true := List.all_eq_true.mp hz _ (List.getElem_mem hi)
      generalize tm[i] = w at h4
      cases w with
      | ref j => cases h4
      | int x => simp only [fv, hML]
      | long x => simp only [fv, gL, hML]
      | _ => rfl
    rw [h3]
    exact hcell
  have hAWl : ∀ a, AW [.inr (ci, tm)] (GL G n ex).2.1 a → a = G.2.1 n := by
    intro a ⟨i, hi, e⟩
    have h1 : i = 0 := by simpa using hi
    rw [h1, hadl] at e
    exact e.symm
  have hEl : EXT [.inr (ci, tm)] (GL G n ex) s s.heap := by
    refine F.2.2.2.2.2.2.2.2.grow ⟨rfl, rfl, fun c hc => ?_⟩ ?_
    · have h1 : ¬ c < 100 := by omega
      have h2 : ¬ c < 200 := by omega
      simp [GL, adL, h1, h2]
    · intro a ha hb
      have := hAWl a hb
      omega
  have hSl : ∀ a : Nat, a < s.heap.size → ¬ AW [.inr (ci, tm)] (GL G n ex).2.1 a → True := fun _ _ _ => trivial
  have hfz : ∀ U : State, U.heap = H → s.WarmedH U.vm → PcN [.inr (ci, tm)] (GL G n ex) (.ref 0 :: AL) ML H.size (cvs (GL G n ex).2.1 (.ref 0 :: AL)).toArray U := by
    intro U hU hW
    refine ⟨by rw [hU], rfl, by rw [hU]; exact hPl, va_K.moved hW.alike F.2.2.2.2.2.2.1, NW.warm hW F.2.2.2.2.2.1, ?_⟩
    -- the externals in the heap as it is now
    have hE1 : EXT (shp ++ [.inr (ci, tm)]) G U U.heap := EXT.warm hW F.2.2.2.2.2.2.2.2 (fun a h1 h2 => by rw [hU]; exact hS.2.1 a h1 h2)
    refine hE1.grow ⟨rfl, rfl, fun c hc => ?_⟩ ?_
    · have h1 : ¬ c < 100 := by omega
      have h2 : ¬ c < 200 := by omega
      simp [GL, adL, h1, h2]
    · intro a ha hb
      exact ⟨n, by omega, (hAWl a hb).symm⟩
  have hblind : FrameBlind (PcN [.inr (ci, tm)] (GL G n ex) (.ref 0 :: AL) ML H.size) := fun a U g mk h => ⟨h.1, PcX_blind a U g mk h.2⟩
  have hargs : cvs (GL G n ex).2.1 (.ref 0 :: AL) = .ref (G.2.1 n) :: cvs G.2.1 As := by
    show cv (GL G n ex).2.1 (.ref 0) :: cvs (adL G.2.1 n ex) AL = _
    rw [hav]
    show Value.ref ((GL G n ex).2.1 0) :: _ = _
    rw [hadl]
  have hp : PreS s H (PcN [.inr (ci, tm)] (GL G n ex) (.ref 0 :: AL) ML H.size) (.ref (G.2.1 n) :: cvs G.2.1 As) := ⟨hblind, by rw [← hargs]; exact hfz⟩
  have hstk : (F0 m pc ls (cvs G.2.1 (As.reverse ++ .ref n :: rest))).stack = (cvs G.2.1 As).reverse ++ .ref (G.2.1 n) :: cvs G.2.1 rest := by
    show cvs G.2.1 (As.reverse ++ .ref n :: rest) = _
    unfold cvs
    rw [List.map_append, List.map_reverse]
    rfl
  have hW : 2 * (F0 m pc ls (cvs G.2.1 (As.reverse ++ .ref n :: rest))).monitorRoom + ((cvs G.2.1 rest).map fun v => v.category).sum ≤ 8 := lv_room (by rw [cvs_cat]; exact hroom)
  have hnl : (cvs G.2.1 As).length = na := by unfold cvs; rw [List.length_map]; exact hlen
  have hrun : va_Run p l e R s m args below meth c H locs ca sl mc ms (F0 m pc ls (cvs G.2.1 (As.reverse ++ .ref n :: rest))) (cvs G.2.1 rest) (QcN [.inr (ci, tm)] shN (GL G n ex) ML' (.ref (G.2.1 n) :: cvs G.2.1 As).toArray) (fun q => AW [.inr (ci, tm)] (GL G n ex).2.1 q ∨ H.size ≤ q) := by
    rcases hlk with hlk | ⟨host, hlk⟩
    · exact va_runI (Ts := TBL) ⟨F.1, F.2.1, F.2.2.1, F.2.2.2.1, F.2.2.2.2.1⟩ (hM H.size) (cwI na F.2.2.2.2.1 (goodCode he.2.1) rfl rfl rfl (F.2.2.2.2.1 _ he.1) (F.2.2.2.2.1 _ hlk) (F.2.2.2.2.1 _ hyi.2) hyi.1 ⟨he.2.2.1.1, he.2.2.1.2, he.2.2.2⟩ ⟨hR.1, hR.2.1⟩) hp rfl hnl hl.1 hstk hW hd ⟨hR.2.2.1, hR.2.2.2⟩
    · exact va_runIN (Ts := TBL) ⟨F.1, F.2.1, F.2.2.1, F.2.2.2.1, F.2.2.2.2.1⟩ (hM H.size) ⟨va_cnB na F.2.2.2.2.1 (goodCode he.2.1) rfl rfl rfl (F.2.2.2.2.2.1 _ hlk) (F.2.2.2.2.1 _ he.1) ⟨he.2.2.1.1, he.2.2.1.2, he.2.2.2⟩ ⟨hR.1, hR.2.1⟩, hyi.1, F.2.2.2.2.1 _ hyi.2⟩ hp rfl hnl hl.1 hstk hW hd ⟨hR.2.2.1, hR.2.2.2⟩
  intro T hT X
  obtain ⟨v, st₀, t, T', Lc, h0, X', hLc, e1, e2, ⟨hv, GN, hGN, hPN, hz1, hk1⟩, stp⟩ := hrun T hT X
  have hv' := Outcome.returned.inj hv
  subst hv'
  rw [h0] at hz1 hk1 hGN
  -- the world behind it
  have hold : ∀ i, i < n → G.2.1 i < H.size := fun i hi => live hP (by omega)
  have hnl' : G.2.1 n < H.size := live hP (by omega)
  generalize hG' : ((G.1, (fun c => if c < n then G.2.1 c else if c < n + shN.length then GN.2.1 (c - n) else G.2.1 c), G.2.2) : GG) = G'
  have g1 : G'.1 = G.1 := by rw [← hG']
  have g2 : G'.2.2 = G.2.2 := by rw [← hG']
  have hGN0 : GN.2.1 0 = G.2.1 n := by rw [hGN.2.2.1 0 (Or.inl (by simp))]; exact hadl
  have hag : ∀ c, c < n + 1 ∨ 100 ≤ c → G'.2.1 c = G.2.1 c := by
    intro c hc
    rw [← hG']
    show (if c < n then G.2.1 c else if c < n + shN.length then GN.2.1 (c - n) else G.2.1 c) = _
    by_cases h1 : c < n
    · rw [if_pos h1]
    · rw [if_neg h1]
      by_cases h2 : c < n + shN.length
      · rw [if_pos h2]
        have h3 : c = n := by omega
        rw [h3, Nat.sub_self, hGN0]
      · rw [if_neg h2]
  have hloc : ∀ j, j < shN.length → G'.2.1 (n + j) = GN.2.1 j := by
    intro j hj
    rw [← hG']
    show (if n + j < n then G.2.1 (n + j) else if n + j < n + shN.length then GN.2.1 (n + j - n) else G.2.1 (n + j)) = _
    rw [if_neg (by omega), if_pos (by omega), Nat.add_sub_cancel_left]
  have hlow : ∀ j, 1 ≤ j → j < shN.length → H.size ≤ GN.2.1 j := fun j h1 h2 => hGN.2.2.2.1 j (by simpa using h1) h2
  have hlen2 : (shp ++ shN.map (renS n ex)).length = n + shN.length := by rw [List.length_append, List.length_map, hn]
  have hI : Inj (shp ++ shN.map (renS n ex)) G'.2.1 := by
    refine ⟨?_, ?_⟩
    · intro cell ci2 tm2 h
      rcases Nat.lt_or_ge cell n with h1 | h1
      · rw [List.getElem?_append_left (by omega)] at h
        exact F.2.2.2.2.2.2.2.1.1 cell ci2 tm2 (by rw [List.getElem?_append_left (by omega)]; exact h)
      · rw [List.getElem?_append_right (by omega), List.getElem?_map] at h
        cases h2 : shN[cell - shp.length]? with
        | none => rw [h2] at h; cases h
        | some S =>
          rw [h2] at h
          rcases S with ⟨t9, j9⟩ | ⟨ci9, tm9⟩
          · match t9 with
            | 0 => cases h
            | 1 => cases h
            | b + 2 => cases h
          · simp only [Option.map_some, renS, Option.some.injEq, Sum.inr.injEq, Prod.mk.injEq] at h
            rw [← h.2, List.length_map]
            exact hGN.2.2.2.2.1 _ _ _ h2
    · intro i j hi hj hij
      rw [hlen2] at hi hj
      rcases Nat.lt_or_ge i n with a | a <;> rcases Nat.lt_or_ge j n with b | b
      · rw [hag i (by omega), hag j (by omega)] at hij
        exact F.2.2.2.2.2.2.2.1.2 i j (by omega) (by omega) hij
      · rw [hag i (by omega), show j = n + (j - n) by omega, hloc (j - n) (by omega)] at hij
        rcases Nat.lt_or_ge (j - n) 1 with q | q
        · rw [show j - n = 0 by omega, hGN0] at hij
          have := F.2.2.2.2.2.2.2.1.2 i n (by omega) (by omega) hij
          omega
        · have := hlow (j - n) q (by omega)
          have := hold i a
          omega
      · rw [hag j (by omega), show i = n + (i - n) by omega, hloc (i - n) (by omega)] at hij
        rcases Nat.lt_or_ge (i - n) 1 with q | q
        · rw [show i - n = 0 by omega, hGN0] at hij
          have := F.2.2.2.2.2.2.2.1.2 n j (by omega) (by omega) hij
          omega
        · have := hlow (i - n) q (by omega)
          have := hold j b
          omega
      · rw [show i = n + (i - n) by omega, show j = n + (j - n) by omega, hloc (i - n) (by omega), hloc (j - n) (by omega)] at hij
        have := hGN.2.2.2.2.2 (i - n) (j - n) (by omega) (by omega) hij
        omega
  have hnew : ∀ c, n + 1 ≤ c → c < n + shN.length → s.heap.size ≤ G'.2.1 c := by
    intro c h1 h2
    rw [show c = n + (c - n) by omega, hloc (c - n) (by omega)]
    exact Nat.le_trans hS.1 (hlow (c - n) (by omega) (by omega))
  have F' : FrP (shp ++ shN.map (renS n ex)) G' p s m args c own cc nL := Fr_many F (fun c hc => hag c (by omega)) g1 g2 hI (fun c h1 h2 => hnew c (by omega) (by omega))
  have hGx := hG.many (by omega) (fun c hc => hag c (by omega)) g1 g2 hI (fun c h1 h2 => hnew c (by omega) (by omega))
  have hkeep : ∀ i, i < n → t.heap[G.2.1 i]? = H[G.2.1 i]? := by
    intro i hi
    refine hk1 _ (hold i hi) (fun h => ?_)
    rcases h with h | h
    · have h1 := hAWl _ h
      have := F.2.2.2.2.2.2.2.1.2 i n (by omega) (by omega) h1
      omega
    · have := hold i hi
      omega
  have hP' : va_P G.1 classes (wl (shp ++ shN.map (renS n ex)) G' M') t.heap := by
    intro k q hk
    unfold wl at hk
    rw [List.getElem?_mapIdx] at hk
    rcases Nat.lt_or_ge k n with a | a
    · rw [List.getElem?_append_left (by omega)] at hk
      cases hs : shp[k]? with
      | none => rw [hs] at hk; cases hk
      | some S =>
        rw [hs] at hk
        cases hk
        have h1 : cel G' M' k S = cel G M k S := cel_agr (n := n) (shLt_at n3 hs) g2 (fun c hc => hag c (by omega)) (by rw [hM' k, if_pos a])
        show va_at G.1 classes (G'.2.1 k, cel G' M' k S) t.heap
        rw [h1, hag k (by omega)]
        exact (hP k _ (wl_get (by rw [List.getElem?_append_left (by omega)]; exact hs))).kept (hkeep k a)
    · rw [List.getElem?_append_right (by omega), List.getElem?_map, hn] at hk
      cases hs : shN[k - n]? with
      | none => rw [hs] at hk; cases hk
      | some S =>
        rw [hs] at hk
        cases hk
        have hkl : k - n < shN.length := (List.getElem?_eq_some_iff.mp hs).1
        have h9 : shIn shN.length ec [S] = true := by
          unfold shIn at n4 ⊢
          simp only [List.all_cons, List.all_nil, Bool.and_true]
          exact List.all_eq_true.mp n4 _ (List.mem_of_getElem? hs)
        have h1 : cel G' M' (n + (k - n)) (renS n ex S) = cel GN ML' (k - n) S := by
          refine renS_cel (G := G) (GL' := GN) h9 ⟨n8, n9⟩ n5 (g2.trans hGN.2.1.symm) (by omega) hloc (fun j hj => hag j (by omega)) (fun i hi => ?_) ?_
          · rw [hGN.2.2.1 (100 + i) (Or.inr (by omega))]
            have h2 : ¬ 100 + i < 100 := by omega
            have h3 : 100 + i < 200 := by omega
            simp only [GL, adL, if_neg h2, if_pos h3]
            rw [Nat.add_sub_cancel_left]
          · rw [hM' (n + (k - n)), if_neg (by omega), if_pos (by omega), Nat.add_sub_cancel_left]
        rw [show n + (k - n) = k by omega] at h1
        have h4 := hloc (k - n) hkl
        rw [show n + (k - n) = k by omega] at h4
        show va_at G.1 classes (G'.2.1 k, cel G' M' k (renS n ex S)) t.heap
        rw [h1, h4]
        exact hPN (k - n) _ (wl_get hs)
  have hS' : va_S (AW (shp ++ shN.map (renS n ex)) G'.2.1) s.heap t.heap locs := by
    refine S_many (by omega) (fun c hc => hag c (by omega)) hS hz1 (fun q h1 h2 => ?_)
    rw [hk1 q (Nat.lt_of_lt_of_le h1 hS.1) (fun h => ?_)]
    · exact hS.2.1 q h1 h2
    · rcases h with h | h
      · exact h2 ⟨n, by omega, (hAWl q h).symm⟩
      · have := hS.1
        omega
  have hfor : ∀ q ∈ Lc, s.heap.size ≤ q.base := by
    intro q hq
    rcases hLc q hq with h | h
    · rw [hAWl _ h]
      exact hnew0
    · exact Nat.le_trans hS.1 h
  have X2 := Stand.forget (extra := Lc) X' hfor
  obtain ⟨t2, a1, b1⟩ := kk G' hag F' hGx T'.heap locs ls (by rw [e1, g1]; exact hP') (by rw [e1]; exact hS') (by rw [cvl_agr n1 hag]; exact hl) T' rfl X2
  refine ⟨t2, stp t2 ?_, b1⟩
  rw [cvs_agr n2 hag] at a1
  exact a1
end XN
section XW
variable {p : Program} {l : Launch} {e : Env} {R : Room} {s : State} {m : MethodId} {args : Array Value} {below : List Frame} {meth : Method} {c : Code} {ca sl : Nat} {Q : State → Prop}
variable {sh : List Shp} {G : GG} {own : String} {cc : ByteArray} {nL pc : Nat} {L : List (Nat × Value)} {st : List Value} {M : Mem}
variable {sh0 sh' : List Shp} {G0 : GG}
theorem N_newa (F : FrP sh G p s m args c own cc nL) (hG : GEx sh0 sh G0 G s.heap.size) {k : Int32} {N n : Nat} (hn : sh.length = n) (hsh : sh ++ [.inl (0, N)] = sh') (hw : Cond.arrayClass .int ∈ TBL) (hk : ¬ k < 0 ∧ k.toNatClampNeg = N ∧ N * 4 ≤ 536870912) (hno : zst L st n sh = true) (hR : ca + 1 ≤ R.cells ∧ sl + N ≤ R.slots) (hl0 : sh0.length ≤ n ∧ n < 100) (hd : decode cc pc = .ok (.newarray .int, 2))
    (kk : ∀ G', FrP sh' G' p s m args c own cc nL → GEx sh0 sh' G0 G' s.heap.size → XJ sh' p l e R s m args below meth c (ca + 1) (sl + N) G' nL Q (pc + 2) L (.ref n :: st) (upA M n (fun _ => 0))) : XJ sh p l e R s m args below meth c ca sl G nL Q pc L (.int k :: st) M := by
  subst hn
  subst hsh
  exact X_newa F hw hk hno hR hd (fun q hq F' => kk _ F' (hG.grow hl0 hq F'.2.2.2.2.2.2.2.1))
theorem N_newz (F : FrP sh G p s m args c own cc nL) (hG : GEx sh0 sh G0 G s.heap.size) {k : Int32} {N n : Nat} (hn : sh.length = n) (hsh : sh ++ [.inl (1, N)] = sh') (hw : Cond.arrayClass .boolean ∈ TBL) (hk : ¬ k < 0 ∧ k.toNatClampNeg = N ∧ N * 1 ≤ 536870912) (hno : zst L st n sh = true) (hR : ca + 1 ≤ R.cells ∧ sl + N ≤ R.slots) (hl0 : sh0.length ≤ n ∧ n < 100) (hd : decode cc pc = .ok (.newarray .boolean, 2))
    (kk : ∀ G', FrP sh' G' p s m args c own cc nL → GEx sh0 sh' G0 G' s.heap.size → XJ sh' p l e R s m args below meth c (ca + 1) (sl + N) G' nL Q (pc + 2) L (.ref n :: st) (upA M n (fun _ => 0))) : XJ sh p l e R s m args below meth c ca sl G nL Q pc L (.int k :: st) M := by
  subst hn
  subst hsh
  exact X_newz F hw hk hno hR hd (fun q hq F' => kk _ F' (hG.grow hl0 hq F'.2.2.2.2.2.2.2.1))
theorem N_new (F : FrP sh G p s m args c own cc nL) (hG : GEx sh0 sh G0 G s.heap.size) {idx ci N n : Nat} {C : String} {T : u_T} {ty : Nat → FieldType} {tm : List Value} (hn : sh.length = n) (hsh : sh ++ [.inr (ci, tm)] = sh') (hc : classes[ci]? = some (C, T, N)) (hin : ∀ w ∈ u_ws C T N, w ∈ TBL) (hty : ∀ k, k < N → parseFieldDescriptor (T k).2.2.1 = some (ty k)) (hw : Cond.classLink own idx C ∈ TBL ∧ Cond.instantiable C N ∈ TBL ∧ Cond.initialized C ∈ TBL) (hfs : ∀ j, j < N → defaultValue (ty j) = vp_V tm j) (hz : tm.all zval = true ∧ tm.length ≤ 1000) (hno : zst L st n sh = true) (hR : ca + 1 ≤ R.cells ∧ sl + N ≤ R.slots) (hl0 : sh0.length ≤ n ∧ n < 100) (hd : decode cc pc = .ok (.new idx, 3))
    (kk : ∀ G', s.heap.size ≤ G'.2.1 n → FrP sh' G' p s m args c own cc nL → GEx sh0 sh' G0 G' s.heap.size → XJ sh' p l e R s m args below meth c (ca + 1) (sl + N) G' nL Q (pc + 3) L (.ref n :: st) (upA M n (fun _ => 0))) : XJ sh p l e R s m args below meth c ca sl G nL Q pc L st M := by
  subst hn
  subst hsh
  exact X_new F hc hin hty hw hfs hz hno hR hd (fun q hq F' => kk _ (by simp [GU, adU, hq]) F' (hG.grow hl0 hq F'.2.2.2.2.2.2.2.1))
theorem N_mna {idx N K nn : Nat} {k n : Int32} (F : FrP sh G p s m args c own cc nL) (hG : GEx sh0 sh G0 G s.heap.size) (hn : sh.length = nn) (hsh : sh ++ (.inl (nn + 1 + 2, N) :: List.replicate N (.inl (0, K))) = sh') (hw : Cond.classLink own idx "[[I" ∈ TBL ∧ Cond.arrayOver (.array .int) ∈ NTB ∧ Cond.arrayClass .int ∈ TBL) (hk : ¬ n < 0 ∧ ¬ k < 0 ∧ n.toNatClampNeg = N ∧ k.toNatClampNeg = K ∧ N * 4 ≤ 536870912 ∧ K * 4 ≤ 536870912 ∧ K ≤ 536870912) (hno : (L.all (fun p => rlt nn p.2) && st.all (rlt nn) && shLt nn sh && decide (nn + 1 + N < 100)) = true) (hR : ca + (1 + N) ≤ R.cells ∧ sl + (N + N * K) ≤ R.slots) (hl0 : sh0.length ≤ nn) (hd : decode cc pc = .ok (.multianewarray idx 2, 4))
    (kk : ∀ G', FrP sh' G' p s m args c own cc nL → GEx sh0 sh' G0 G' s.heap.size → XJ sh' p l e R s m args below meth c (ca + 1 + N) (sl + N + N * K) G' nL Q (pc + 4) L (.ref nn :: st) (zM M nn N)) : XJ sh p l e R s m args below meth c ca sl G nL Q pc L (.int k :: .int n :: st) M := by
  subst hn
  subst hsh
  exact X_mna F hw hk hno hR hd hG hl0 (fun G' _ F' hG' => kk G' F' hG')

theorem N_call {shp shN shc : List Shp} {S0 : Shp} {n k : Nat} (hn : shp.length = n) (hk : shN.length = k) (hc : shp ++ [S0] = shc) (F : FrP shc G p s m args c own cc nL) {idx na mL d mc ms ec : Nat} {y : MethodName} {bytes : ByteArray} {As AL rest : List Value} {ex : List Nat} {ML ML' M' : Mem} (hlk : LNK own idx y) (he : CLE y na bytes mL none) (hyi : y.name = "<init>" ∧ Cond.instanceMethod y ∈ TBL)
    (hM : ∀ sz, MetN [S0] shN l (GL G n ex) y bytes mL d mc ms (.ref 0 :: AL) ML ML' sz) (hML : ML 0 = M n) (hav : cvs (adL G.2.1 n ex) AL = cvs G.2.1 As) (hS0 : ∃ ci tm, S0 = .inr (ci, tm) ∧ tm.all zval = true)
    (hst : st = As.reverse ++ .ref n :: rest) (hlen : As.length = na) (hroom : (rest.map fun v => v.category).sum ≤ 8) (hR : d + 1 ≤ R.frames ∧ 8 + (mL + 11) + 100 * d ≤ R.locals ∧ ca + mc ≤ R.cells ∧ sl + ms ≤ R.slots) (hd : decode cc pc = .ok (.invokespecial idx, 3))
    (hchk : (L.all (fun p => rlt (n + 1) p.2) && rest.all (rlt (n + 1)) && shLt n shp && shIn k ec shN && ex.all (fun j => decide (j < n)) && decide (n + k < 100 ∧ 1 ≤ k ∧ ec ≤ ex.length ∧ ec ≤ 100)) = true) (hsh' : shp ++ shN.map (renS n ex) = sh') (hM' : ∀ c, M' c = if c < n then M c else if c < n + k then ML' (c - n) else M c) (hnew0 : s.heap.size ≤ G.2.1 n) (hG : GEx sh0 shc G0 G s.heap.size) (hl0 : sh0.length ≤ n)
    (kk : ∀ G', FrP sh' G' p s m args c own cc nL → GEx sh0 sh' G0 G' s.heap.size → XJ sh' p l e R s m args below meth c (ca + mc) (sl + ms) G' nL Q (pc + 3) L rest M') : XJ shc p l e R s m args below meth c ca sl G nL Q pc L st M := by
  subst hn
  subst hk
  subst hc
  exact X_callN F hlk he hyi hM hML hav hS0 hst hlen hroom hR hd hchk hsh' hM' hnew0 hG hl0 (fun G' _ F' hG' => kk G' F' hG')
end XW
