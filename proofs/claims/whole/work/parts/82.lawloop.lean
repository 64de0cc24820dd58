theorem and31 (x : Int32) : ∃ k, k < 32 ∧ x &&& 31 = nI k := by
  refine ⟨(x.toBitVec &&& 31#32).toNat, ?_, ?_⟩
  · rw [BitVec.toNat_and]
    exact Nat.lt_of_le_of_lt Nat.and_le_right (by decide)
  · apply Int32.toBitVec_inj.mp
    show x.toBitVec &&& 31#32 = BitVec.ofNat 32 (x.toBitVec &&& 31#32).toNat
    rw [BitVec.ofNat_toNat, BitVec.setWidth_eq]
section XLOOP
variable {p : Program} {l : Launch} {e : Env} {s : State} {m : MethodId} {below : List Frame} {meth : Method} {c : Code} {b Ls : Nat} {xs : Nat → Int32} {G : GG}
theorem law_loop (C : LC p s m meth c b Ls xs G) (hL : Ls ≤ 3072) : ∀ (n i : Nat) (M : Mem), i ≤ Ls → Ls < i + n → RR M (mB M) → XJ shW p l e room_1 s m #[Value.ref b] below meth c 77 3974 G 4 (lw_Z below #[Value.ref b] s) 18 (LL i) [] M := by
  intro n
  induction n with
  | zero => intro i M h1 h2; omega
  | succ n ih =>
    intro i M h1 h2 h
    refine X_iload_n C.1 d_law_18 rfl ?_
    refine X_aload_n C.1 d_law_19 rfl ?_
    refine X_slen C d_law_20 ?_
    refine X_bipush C.1 d_law_21 (v := (6 : Int32)) rfl ?_
    refine X_isub C.1 d_law_23 ?_
    have hLs : (Int32.ofNat Ls).toInt = (Ls : Int) := nI_toInt (n := Ls) (by omega)
    have h6 : (6 : Int32).toInt = 6 := by decide
    have hs : (Int32.ofNat Ls - 6).toInt = (Ls : Int) - 6 := by
      rw [isub (by omega) (by omega), hLs, h6]
    have hni : (nI i).toInt = (i : Int) := nI_toInt (by omega)
    refine X_icmp_gt C.1 d_law_24 (tgt := 1100) (by decide) (fun q => ?_) (fun q => ?_)
    · refine X_iconst C.1 d_law_1100 (v := (1 : Int32)) rfl ?_
      intro H locs ls hP hS hl
      refine va_forget (fun q hq => ?_) ?_
      · obtain ⟨j, hj, ej⟩ := hS.2.2 q hq
        rw [← ej]
        exact C.2.2.2.1 j hj
      · refine W.widen (k := 600000) (n := 7302250) (by decide) (by decide) ?_
        exact lw_ret C.1.1 C.1.2.1 C.2.2.2.2.2.2.2.1 C.2.2.2.2.2.2.2.2 d_law_1101
    · have hi6 : i + 6 ≤ Ls := by
        have q2 : ¬ (Int32.ofNat Ls - 6).toInt < (nI i).toInt := fun z => q (Int32.lt_iff_toInt_lt.mpr z)
        omega
      refine X_aload_n C.1 d_law_27 rfl ?_
      refine X_iload_n C.1 d_law_28 rfl ?_
      refine X_sld C (jn := i) (vp_in_nI (by omega) (by omega)) (nI_clamp (by omega)) d_law_29 ?_
      refine X_bipush C.1 d_law_30 (v := (31 : Int32)) rfl ?_
      refine X_iand C.1 d_law_32 ?_
      have kk : ∀ M', RR M' (mB M') → XJ shW p l e room_1 s m #[Value.ref b] below meth c 77 3974 G 4 (lw_Z below #[Value.ref b] s) 1094 (LL i) [] M' := fun M' h' => by
        refine X_iinc C.1 d_law_1094 (x := nI i) (v := (6 : Int32)) (L' := [(3, .int (nI (i + 6))), (0, .ref 210), (1, .ref 0), (2, .ref 56)]) rfl rfl (by decide) (by rw [show nI i + 6 = nI (i + 6) from nI_add i 6]; rfl) ?_
        refine X_pick (L' := LL (i + 6)) [1, 2, 3, 0] rfl ?_
        exact X_goto C.1 d_law_1097 (tgt := 18) (by decide) (ih (i + 6) M' hi6 (by omega) h')
      obtain ⟨k, hk, he⟩ := and31 (xs i)
      rw [he]
      rcases (show k = 0 ∨ k = 1 ∨ k = 2 ∨ k = 3 ∨ k = 4 ∨ k = 5 ∨ k = 6 ∨ k = 7 ∨ k = 8 ∨ k = 9 ∨ k = 10 ∨ k = 11 ∨ k = 12 ∨ k = 13 ∨ k = 14 ∨ k = 15 ∨ k = 16 ∨ k = 17 ∨ k = 18 ∨ k = 19 ∨ k = 20 ∨ k = 21 ∨ k = 22 ∨ k = 23 ∨ k = 24 ∨ k = 25 ∨ k = 26 ∨ k = 27 ∨ k = 28 ∨ k = 29 ∨ k = 30 ∨ k = 31 by omega) with rfl | rfl | rfl | rfl | rfl | rfl | rfl | rfl | rfl | rfl | rfl | rfl | rfl | rfl | rfl | rfl | rfl | rfl | rfl | rfl | rfl | rfl | rfl | rfl | rfl | rfl | rfl | rfl | rfl | rfl | rfl | rfl
      · exact X_tin C.1 d_law_33 (off := 143) (tgt := 176) (by decide) (by decide) (lc_customer C h hi6 hL kk)
      · exact X_tin C.1 d_law_33 (off := 176) (tgt := 209) (by decide) (by decide) (lc_thing C h hi6 hL kk)
      · exact X_tin C.1 d_law_33 (off := 209) (tgt := 242) (by decide) (by decide) (lc_set C h hi6 hL kk)
      · exact X_tin C.1 d_law_33 (off := 252) (tgt := 285) (by decide) (by decide) (lc_told C h hi6 hL kk)
      · exact X_tin C.1 d_law_33 (off := 285) (tgt := 318) (by decide) (by decide) (lc_serve C h hi6 hL kk)
      · exact X_tin C.1 d_law_33 (off := 298) (tgt := 331) (by decide) (by decide) (lc_feed C h hi6 hL kk)
      · exact X_tin C.1 d_law_33 (off := 321) (tgt := 354) (by decide) (by decide) (lc_text C h hi6 hL kk)
      · exact X_tin C.1 d_law_33 (off := 334) (tgt := 367) (by decide) (by decide) (lc_force C h hi6 hL kk)
      · exact X_tin C.1 d_law_33 (off := 357) (tgt := 390) (by decide) (by decide) (lc_turn C h hi6 hL kk)
      · exact X_tin C.1 d_law_33 (off := 370) (tgt := 403) (by decide) (by decide) (lc_errand C h hi6 hL kk)
      · exact X_tin C.1 d_law_33 (off := 403) (tgt := 436) (by decide) (by decide) (lc_nearest C h hi6 hL kk)
      · exact X_tin C.1 d_law_33 (off := 426) (tgt := 459) (by decide) (by decide) (lc_best C h hi6 hL kk)
      · exact X_tin C.1 d_law_33 (off := 449) (tgt := 482) (by decide) (by decide) (lc_latest C h hi6 hL kk)
      · exact X_tin C.1 d_law_33 (off := 482) (tgt := 515) (by decide) (by decide) (lc_leave C h hi6 hL kk)
      · exact X_tin C.1 d_law_33 (off := 495) (tgt := 528) (by decide) (by decide) (lc_more C h hi6 hL kk)
      · exact X_tin C.1 d_law_33 (off := 518) (tgt := 551) (by decide) (by decide) (lc_stand C h hi6 hL kk)
      · exact X_tin C.1 d_law_33 (off := 541) (tgt := 574) (by decide) (by decide) (lc_change C h hi6 hL kk)
      · exact X_tin C.1 d_law_33 (off := 564) (tgt := 597) (by decide) (by decide) (lc_lines C h hi6 hL kk)
      · exact X_tin C.1 d_law_33 (off := 587) (tgt := 620) (by decide) (by decide) (lc_likely C h hi6 hL kk)
      · exact X_tin C.1 d_law_33 (off := 611) (tgt := 644) (by decide) (by decide) (lc_slip C h hi6 hL kk)
      · exact X_tin C.1 d_law_33 (off := 644) (tgt := 677) (by decide) (by decide) (lc_served C h hi6 hL kk)
      · exact X_tin C.1 d_law_33 (off := 677) (tgt := 710) (by decide) (by decide) (lc_film C h hi6 hL kk)
      · exact X_tin C.1 d_law_33 (off := 710) (tgt := 743) (by decide) (by decide) (lc_drawn C h hi6 hL kk)
      · exact X_tin C.1 d_law_33 (off := 733) (tgt := 766) (by decide) (by decide) (lc_chance C h hi6 hL kk)
      · exact X_tin C.1 d_law_33 (off := 777) (tgt := 810) (by decide) (by decide) (lc_image C h hi6 hL kk)
      · exact X_tin C.1 d_law_33 (off := 790) (tgt := 823) (by decide) (by decide) (lc_back C h hi6 hL kk)
      · exact X_tin C.1 d_law_33 (off := 803) (tgt := 836) (by decide) (by decide) (lc_count C h hi6 hL kk)
      · exact X_tin C.1 d_law_33 (off := 826) (tgt := 859) (by decide) (by decide) (lc_sheet C h hi6 hL kk)
      · exact X_tin C.1 d_law_33 (off := 869) (tgt := 902) (by decide) (by decide) (lc_cell C h hi6 hL kk)
      · exact X_tin C.1 d_law_33 (off := 912) (tgt := 945) (by decide) (by decide) (lc_copy C h hi6 hL kk)
      · exact X_tin C.1 d_law_33 (off := 975) (tgt := 1008) (by decide) (by decide) (lc_customers C h hi6 hL kk)
      · exact X_tin C.1 d_law_33 (off := 1028) (tgt := 1061) (by decide) (by decide) (lc_taken C h hi6 hL kk)
end XLOOP
