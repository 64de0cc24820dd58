section
-- PART A of kit/laws/SKELETON.whole.lean.txt (a starting text)
-- ===== PART A: goes FIRST, ahead of the names: the tables' words, and 'selects' of the private methods out of them =====
/-- a private method of a class that the tables say can be made, by its rows of tables_1 -/
def lw_okq (q : MethodName × Nat) : Prop := (q.1.cls ≠ "java/lang/invoke/MethodHandle" ∧ q.1.cls ≠ "java/lang/invoke/VarHandle") ∧ Cond.instantiable q.1.cls q.2 ∈ tables_1 ∧ Cond.privateMethod q.1 ∈ tables_1 ∧ Cond.instanceMethod q.1 ∈ tables_1
theorem lw_p0 : lw_okq (⟨"KeepOurPlace$Reader", "append", "(I)Z"⟩, 12) := ⟨⟨by decide +kernel, by decide +kernel⟩, List.mem_of_getElem? (i := 103) (by decide +kernel), List.mem_of_getElem? (i := 369) (by decide +kernel), List.mem_of_getElem? (i := 370) (by decide +kernel)⟩
theorem lw_p1 : lw_okq (⟨"KeepOurPlace$Reader", "read", "()V"⟩, 12) := ⟨⟨by decide +kernel, by decide +kernel⟩, List.mem_of_getElem? (i := 103) (by decide +kernel), List.mem_of_getElem? (i := 373) (by decide +kernel), List.mem_of_getElem? (i := 374) (by decide +kernel)⟩
theorem lw_p2 : lw_okq (⟨"KeepOurPlace$Reader", "scan", "()V"⟩, 12) := ⟨⟨by decide +kernel, by decide +kernel⟩, List.mem_of_getElem? (i := 103) (by decide +kernel), List.mem_of_getElem? (i := 377) (by decide +kernel), List.mem_of_getElem? (i := 378) (by decide +kernel)⟩
theorem lw_p3 : lw_okq (⟨"KeepOurPlace$Reader", "scanToken", "(II)I"⟩, 12) := ⟨⟨by decide +kernel, by decide +kernel⟩, List.mem_of_getElem? (i := 103) (by decide +kernel), List.mem_of_getElem? (i := 381) (by decide +kernel), List.mem_of_getElem? (i := 382) (by decide +kernel)⟩
theorem lw_p4 : lw_okq (⟨"KeepOurPlace$Reader", "scanWord", "(I)I"⟩, 12) := ⟨⟨by decide +kernel, by decide +kernel⟩, List.mem_of_getElem? (i := 103) (by decide +kernel), List.mem_of_getElem? (i := 388) (by decide +kernel), List.mem_of_getElem? (i := 389) (by decide +kernel)⟩
theorem lw_p5 : lw_okq (⟨"KeepOurPlace$Reader", "wordOf", "(II)I"⟩, 12) := ⟨⟨by decide +kernel, by decide +kernel⟩, List.mem_of_getElem? (i := 103) (by decide +kernel), List.mem_of_getElem? (i := 392) (by decide +kernel), List.mem_of_getElem? (i := 393) (by decide +kernel)⟩
theorem lw_p6 : lw_okq (⟨"KeepOurPlace$Reader", "isSame", "(III)Z"⟩, 12) := ⟨⟨by decide +kernel, by decide +kernel⟩, List.mem_of_getElem? (i := 103) (by decide +kernel), List.mem_of_getElem? (i := 399) (by decide +kernel), List.mem_of_getElem? (i := 400) (by decide +kernel)⟩
theorem lw_p7 : lw_okq (⟨"KeepOurPlace$Reader", "note", "(III)V"⟩, 12) := ⟨⟨by decide +kernel, by decide +kernel⟩, List.mem_of_getElem? (i := 103) (by decide +kernel), List.mem_of_getElem? (i := 403) (by decide +kernel), List.mem_of_getElem? (i := 404) (by decide +kernel)⟩
theorem lw_p8 : lw_okq (⟨"KeepOurPlace$Reader", "scanNumber", "(I)I"⟩, 12) := ⟨⟨by decide +kernel, by decide +kernel⟩, List.mem_of_getElem? (i := 103) (by decide +kernel), List.mem_of_getElem? (i := 410) (by decide +kernel), List.mem_of_getElem? (i := 411) (by decide +kernel)⟩
theorem lw_p9 : lw_okq (⟨"KeepOurPlace$Reader", "readPart", "(II)V"⟩, 12) := ⟨⟨by decide +kernel, by decide +kernel⟩, List.mem_of_getElem? (i := 103) (by decide +kernel), List.mem_of_getElem? (i := 474) (by decide +kernel), List.mem_of_getElem? (i := 475) (by decide +kernel)⟩
theorem lw_p10 : lw_okq (⟨"KeepOurPlace$Reader", "expect", "(I)V"⟩, 12) := ⟨⟨by decide +kernel, by decide +kernel⟩, List.mem_of_getElem? (i := 103) (by decide +kernel), List.mem_of_getElem? (i := 478) (by decide +kernel), List.mem_of_getElem? (i := 479) (by decide +kernel)⟩
theorem lw_p11 : lw_okq (⟨"KeepOurPlace$Reader", "advance", "()V"⟩, 12) := ⟨⟨by decide +kernel, by decide +kernel⟩, List.mem_of_getElem? (i := 103) (by decide +kernel), List.mem_of_getElem? (i := 482) (by decide +kernel), List.mem_of_getElem? (i := 483) (by decide +kernel)⟩
theorem lw_p12 : lw_okq (⟨"KeepOurPlace$Reader", "fail", "()V"⟩, 12) := ⟨⟨by decide +kernel, by decide +kernel⟩, List.mem_of_getElem? (i := 103) (by decide +kernel), List.mem_of_getElem? (i := 486) (by decide +kernel), List.mem_of_getElem? (i := 487) (by decide +kernel)⟩
theorem lw_p13 : lw_okq (⟨"KeepOurPlace$Reader", "readOr", "(I)V"⟩, 12) := ⟨⟨by decide +kernel, by decide +kernel⟩, List.mem_of_getElem? (i := 103) (by decide +kernel), List.mem_of_getElem? (i := 490) (by decide +kernel), List.mem_of_getElem? (i := 491) (by decide +kernel)⟩
theorem lw_p14 : lw_okq (⟨"KeepOurPlace$Reader", "readAnd", "(I)V"⟩, 12) := ⟨⟨by decide +kernel, by decide +kernel⟩, List.mem_of_getElem? (i := 103) (by decide +kernel), List.mem_of_getElem? (i := 494) (by decide +kernel), List.mem_of_getElem? (i := 495) (by decide +kernel)⟩
theorem lw_p15 : lw_okq (⟨"KeepOurPlace$Reader", "readNot", "(I)V"⟩, 12) := ⟨⟨by decide +kernel, by decide +kernel⟩, List.mem_of_getElem? (i := 103) (by decide +kernel), List.mem_of_getElem? (i := 498) (by decide +kernel), List.mem_of_getElem? (i := 499) (by decide +kernel)⟩
def lw_privs_1 : List (MethodName × Nat) := [(⟨"KeepOurPlace$Reader", "append", "(I)Z"⟩, 12), (⟨"KeepOurPlace$Reader", "read", "()V"⟩, 12), (⟨"KeepOurPlace$Reader", "scan", "()V"⟩, 12), (⟨"KeepOurPlace$Reader", "scanToken", "(II)I"⟩, 12), (⟨"KeepOurPlace$Reader", "scanWord", "(I)I"⟩, 12), (⟨"KeepOurPlace$Reader", "wordOf", "(II)I"⟩, 12), (⟨"KeepOurPlace$Reader", "isSame", "(III)Z"⟩, 12), (⟨"KeepOurPlace$Reader", "note", "(III)V"⟩, 12), (⟨"KeepOurPlace$Reader", "scanNumber", "(I)I"⟩, 12), (⟨"KeepOurPlace$Reader", "readPart", "(II)V"⟩, 12), (⟨"KeepOurPlace$Reader", "expect", "(I)V"⟩, 12), (⟨"KeepOurPlace$Reader", "advance", "()V"⟩, 12), (⟨"KeepOurPlace$Reader", "fail", "()V"⟩, 12), (⟨"KeepOurPlace$Reader", "readOr", "(I)V"⟩, 12), (⟨"KeepOurPlace$Reader", "readAnd", "(I)V"⟩, 12), (⟨"KeepOurPlace$Reader", "readNot", "(I)V"⟩, 12)]
theorem lw_r1 : ∀ q ∈ lw_privs_1, lw_okq q := List.forall_mem_cons.mpr ⟨lw_p0, List.forall_mem_cons.mpr ⟨lw_p1, List.forall_mem_cons.mpr ⟨lw_p2, List.forall_mem_cons.mpr ⟨lw_p3, List.forall_mem_cons.mpr ⟨lw_p4, List.forall_mem_cons.mpr ⟨lw_p5, List.forall_mem_cons.mpr ⟨lw_p6, List.forall_mem_cons.mpr ⟨lw_p7, List.forall_mem_cons.mpr ⟨lw_p8, List.forall_mem_cons.mpr ⟨lw_p9, List.forall_mem_cons.mpr ⟨lw_p10, List.forall_mem_cons.mpr ⟨lw_p11, List.forall_mem_cons.mpr ⟨lw_p12, List.forall_mem_cons.mpr ⟨lw_p13, List.forall_mem_cons.mpr ⟨lw_p14, List.forall_mem_cons.mpr ⟨lw_p15, fun _ h => absurd h List.not_mem_nil⟩⟩⟩⟩⟩⟩⟩⟩⟩⟩⟩⟩⟩⟩⟩⟩
theorem lw_p16 : lw_okq (⟨"KeepOurPlace$Reader", "mayOpen", "(I)Z"⟩, 12) := ⟨⟨by decide +kernel, by decide +kernel⟩, List.mem_of_getElem? (i := 103) (by decide +kernel), List.mem_of_getElem? (i := 502) (by decide +kernel), List.mem_of_getElem? (i := 503) (by decide +kernel)⟩
theorem lw_p17 : lw_okq (⟨"KeepOurPlace$Reader", "emit", "(I)V"⟩, 12) := ⟨⟨by decide +kernel, by decide +kernel⟩, List.mem_of_getElem? (i := 103) (by decide +kernel), List.mem_of_getElem? (i := 506) (by decide +kernel), List.mem_of_getElem? (i := 507) (by decide +kernel)⟩
theorem lw_p18 : lw_okq (⟨"KeepOurPlace$Reader", "readSum", "(I)V"⟩, 12) := ⟨⟨by decide +kernel, by decide +kernel⟩, List.mem_of_getElem? (i := 103) (by decide +kernel), List.mem_of_getElem? (i := 510) (by decide +kernel), List.mem_of_getElem? (i := 511) (by decide +kernel)⟩
theorem lw_p19 : lw_okq (⟨"KeepOurPlace$Reader", "readTerm", "(I)V"⟩, 12) := ⟨⟨by decide +kernel, by decide +kernel⟩, List.mem_of_getElem? (i := 103) (by decide +kernel), List.mem_of_getElem? (i := 514) (by decide +kernel), List.mem_of_getElem? (i := 515) (by decide +kernel)⟩
theorem lw_p20 : lw_okq (⟨"KeepOurPlace$Reader", "readOne", "(I)V"⟩, 12) := ⟨⟨by decide +kernel, by decide +kernel⟩, List.mem_of_getElem? (i := 103) (by decide +kernel), List.mem_of_getElem? (i := 518) (by decide +kernel), List.mem_of_getElem? (i := 519) (by decide +kernel)⟩
theorem lw_p21 : lw_okq (⟨"KeepOurPlace$Rules", "add", "(LKeepOurPlace$Reader;)I"⟩, 7) := ⟨⟨by decide +kernel, by decide +kernel⟩, List.mem_of_getElem? (i := 150) (by decide +kernel), List.mem_of_getElem? (i := 522) (by decide +kernel), List.mem_of_getElem? (i := 523) (by decide +kernel)⟩
theorem lw_p22 : lw_okq (⟨"KeepOurPlace$Reader", "clear", "()V"⟩, 12) := ⟨⟨by decide +kernel, by decide +kernel⟩, List.mem_of_getElem? (i := 103) (by decide +kernel), List.mem_of_getElem? (i := 529) (by decide +kernel), List.mem_of_getElem? (i := 530) (by decide +kernel)⟩
theorem lw_p23 : lw_okq (⟨"KeepOurPlace$Line", "join", "(II)I"⟩, 6) := ⟨⟨by decide +kernel, by decide +kernel⟩, List.mem_of_getElem? (i := 27) (by decide +kernel), List.mem_of_getElem? (i := 563) (by decide +kernel), List.mem_of_getElem? (i := 564) (by decide +kernel)⟩
theorem lw_p24 : lw_okq (⟨"KeepOurPlace$Things", "lay", "(II)I"⟩, 4) := ⟨⟨by decide +kernel, by decide +kernel⟩, List.mem_of_getElem? (i := 74) (by decide +kernel), List.mem_of_getElem? (i := 571) (by decide +kernel), List.mem_of_getElem? (i := 572) (by decide +kernel)⟩
theorem lw_p25 : lw_okq (⟨"KeepOurPlace$Line", "moveUs", "(I)I"⟩, 6) := ⟨⟨by decide +kernel, by decide +kernel⟩, List.mem_of_getElem? (i := 27) (by decide +kernel), List.mem_of_getElem? (i := 579) (by decide +kernel), List.mem_of_getElem? (i := 580) (by decide +kernel)⟩
theorem lw_p26 : lw_okq (⟨"KeepOurPlace$Line", "holds", "(I)Z"⟩, 6) := ⟨⟨by decide +kernel, by decide +kernel⟩, List.mem_of_getElem? (i := 27) (by decide +kernel), List.mem_of_getElem? (i := 583) (by decide +kernel), List.mem_of_getElem? (i := 584) (by decide +kernel)⟩
theorem lw_p27 : lw_okq (⟨"KeepOurPlace$Things", "holds", "(I)Z"⟩, 4) := ⟨⟨by decide +kernel, by decide +kernel⟩, List.mem_of_getElem? (i := 74) (by decide +kernel), List.mem_of_getElem? (i := 590) (by decide +kernel), List.mem_of_getElem? (i := 591) (by decide +kernel)⟩
theorem lw_p28 : lw_okq (⟨"KeepOurPlace$Till", "seconds", "(III)I"⟩, 2) := ⟨⟨by decide +kernel, by decide +kernel⟩, List.mem_of_getElem? (i := 183) (by decide +kernel), List.mem_of_getElem? (i := 598) (by decide +kernel), List.mem_of_getElem? (i := 599) (by decide +kernel)⟩
theorem lw_p29 : lw_okq (⟨"KeepOurPlace$Rules", "tell", "(IIIII)I"⟩, 7) := ⟨⟨by decide +kernel, by decide +kernel⟩, List.mem_of_getElem? (i := 150) (by decide +kernel), List.mem_of_getElem? (i := 603) (by decide +kernel), List.mem_of_getElem? (i := 604) (by decide +kernel)⟩
theorem lw_p30 : lw_okq (⟨"KeepOurPlace$Till", "minds", "(II)I"⟩, 2) := ⟨⟨by decide +kernel, by decide +kernel⟩, List.mem_of_getElem? (i := 183) (by decide +kernel), List.mem_of_getElem? (i := 613) (by decide +kernel), List.mem_of_getElem? (i := 614) (by decide +kernel)⟩
theorem lw_p31 : lw_okq (⟨"KeepOurPlace$Line", "dropFirst", "()V"⟩, 6) := ⟨⟨by decide +kernel, by decide +kernel⟩, List.mem_of_getElem? (i := 27) (by decide +kernel), List.mem_of_getElem? (i := 622) (by decide +kernel), List.mem_of_getElem? (i := 623) (by decide +kernel)⟩
def lw_privs_2 : List (MethodName × Nat) := [(⟨"KeepOurPlace$Reader", "mayOpen", "(I)Z"⟩, 12), (⟨"KeepOurPlace$Reader", "emit", "(I)V"⟩, 12), (⟨"KeepOurPlace$Reader", "readSum", "(I)V"⟩, 12), (⟨"KeepOurPlace$Reader", "readTerm", "(I)V"⟩, 12), (⟨"KeepOurPlace$Reader", "readOne", "(I)V"⟩, 12), (⟨"KeepOurPlace$Rules", "add", "(LKeepOurPlace$Reader;)I"⟩, 7), (⟨"KeepOurPlace$Reader", "clear", "()V"⟩, 12), (⟨"KeepOurPlace$Line", "join", "(II)I"⟩, 6), (⟨"KeepOurPlace$Things", "lay", "(II)I"⟩, 4), (⟨"KeepOurPlace$Line", "moveUs", "(I)I"⟩, 6), (⟨"KeepOurPlace$Line", "holds", "(I)Z"⟩, 6), (⟨"KeepOurPlace$Things", "holds", "(I)Z"⟩, 4), (⟨"KeepOurPlace$Till", "seconds", "(III)I"⟩, 2), (⟨"KeepOurPlace$Rules", "tell", "(IIIII)I"⟩, 7), (⟨"KeepOurPlace$Till", "minds", "(II)I"⟩, 2), (⟨"KeepOurPlace$Line", "dropFirst", "()V"⟩, 6)]
theorem lw_r2 : ∀ q ∈ lw_privs_2, lw_okq q := List.forall_mem_cons.mpr ⟨lw_p16, List.forall_mem_cons.mpr ⟨lw_p17, List.forall_mem_cons.mpr ⟨lw_p18, List.forall_mem_cons.mpr ⟨lw_p19, List.forall_mem_cons.mpr ⟨lw_p20, List.forall_mem_cons.mpr ⟨lw_p21, List.forall_mem_cons.mpr ⟨lw_p22, List.forall_mem_cons.mpr ⟨lw_p23, List.forall_mem_cons.mpr ⟨lw_p24, List.forall_mem_cons.mpr ⟨lw_p25, List.forall_mem_cons.mpr ⟨lw_p26, List.forall_mem_cons.mpr ⟨lw_p27, List.forall_mem_cons.mpr ⟨lw_p28, List.forall_mem_cons.mpr ⟨lw_p29, List.forall_mem_cons.mpr ⟨lw_p30, List.forall_mem_cons.mpr ⟨lw_p31, fun _ h => absurd h List.not_mem_nil⟩⟩⟩⟩⟩⟩⟩⟩⟩⟩⟩⟩⟩⟩⟩⟩
theorem lw_p32 : lw_okq (⟨"KeepOurPlace$Till", "turnChanged", "(II)I"⟩, 2) := ⟨⟨by decide +kernel, by decide +kernel⟩, List.mem_of_getElem? (i := 183) (by decide +kernel), List.mem_of_getElem? (i := 642) (by decide +kernel), List.mem_of_getElem? (i := 643) (by decide +kernel)⟩
theorem lw_p33 : lw_okq (⟨"KeepOurPlace", "readErrand", "(I)Z"⟩, 8) := ⟨⟨by decide +kernel, by decide +kernel⟩, List.mem_of_getElem? (i := 19) (by decide +kernel), List.mem_of_getElem? (i := 651) (by decide +kernel), List.mem_of_getElem? (i := 652) (by decide +kernel)⟩
theorem lw_p34 : lw_okq (⟨"KeepOurPlace$Sheets", "holds", "(I)Z"⟩, 3) := ⟨⟨by decide +kernel, by decide +kernel⟩, List.mem_of_getElem? (i := 258) (by decide +kernel), List.mem_of_getElem? (i := 655) (by decide +kernel), List.mem_of_getElem? (i := 656) (by decide +kernel)⟩
theorem lw_p35 : lw_okq (⟨"KeepOurPlace$Sheets", "isMissing", "(I)Z"⟩, 3) := ⟨⟨by decide +kernel, by decide +kernel⟩, List.mem_of_getElem? (i := 258) (by decide +kernel), List.mem_of_getElem? (i := 659) (by decide +kernel), List.mem_of_getElem? (i := 660) (by decide +kernel)⟩
theorem lw_p36 : lw_okq (⟨"KeepOurPlace$Errands", "takeRow", "([II)Z"⟩, 16) := ⟨⟨by decide +kernel, by decide +kernel⟩, List.mem_of_getElem? (i := 196) (by decide +kernel), List.mem_of_getElem? (i := 664) (by decide +kernel), List.mem_of_getElem? (i := 665) (by decide +kernel)⟩
theorem lw_p37 : lw_okq (⟨"KeepOurPlace$Errands", "goTo", "(I)V"⟩, 16) := ⟨⟨by decide +kernel, by decide +kernel⟩, List.mem_of_getElem? (i := 196) (by decide +kernel), List.mem_of_getElem? (i := 669) (by decide +kernel), List.mem_of_getElem? (i := 670) (by decide +kernel)⟩
theorem lw_p38 : lw_okq (⟨"KeepOurPlace$Errands", "prepare", "()V"⟩, 16) := ⟨⟨by decide +kernel, by decide +kernel⟩, List.mem_of_getElem? (i := 196) (by decide +kernel), List.mem_of_getElem? (i := 674) (by decide +kernel), List.mem_of_getElem? (i := 675) (by decide +kernel)⟩
theorem lw_p39 : lw_okq (⟨"KeepOurPlace$Till", "pace", "(I)I"⟩, 2) := ⟨⟨by decide +kernel, by decide +kernel⟩, List.mem_of_getElem? (i := 183) (by decide +kernel), List.mem_of_getElem? (i := 678) (by decide +kernel), List.mem_of_getElem? (i := 679) (by decide +kernel)⟩
theorem lw_p40 : lw_okq (⟨"KeepOurPlace$Errands", "backWithout", "(I)I"⟩, 16) := ⟨⟨by decide +kernel, by decide +kernel⟩, List.mem_of_getElem? (i := 196) (by decide +kernel), List.mem_of_getElem? (i := 686) (by decide +kernel), List.mem_of_getElem? (i := 687) (by decide +kernel)⟩
theorem lw_p41 : lw_okq (⟨"KeepOurPlace$Errands", "leg", "(III)I"⟩, 16) := ⟨⟨by decide +kernel, by decide +kernel⟩, List.mem_of_getElem? (i := 196) (by decide +kernel), List.mem_of_getElem? (i := 690) (by decide +kernel), List.mem_of_getElem? (i := 691) (by decide +kernel)⟩
theorem lw_p42 : lw_okq (⟨"KeepOurPlace$Things", "steps", "(II)I"⟩, 4) := ⟨⟨by decide +kernel, by decide +kernel⟩, List.mem_of_getElem? (i := 74) (by decide +kernel), List.mem_of_getElem? (i := 694) (by decide +kernel), List.mem_of_getElem? (i := 695) (by decide +kernel)⟩
theorem lw_p43 : lw_okq (⟨"KeepOurPlace$Things", "shelfOf", "(I)I"⟩, 4) := ⟨⟨by decide +kernel, by decide +kernel⟩, List.mem_of_getElem? (i := 74) (by decide +kernel), List.mem_of_getElem? (i := 698) (by decide +kernel), List.mem_of_getElem? (i := 699) (by decide +kernel)⟩
theorem lw_p44 : lw_okq (⟨"KeepOurPlace$Errands", "letBy", "(I)I"⟩, 16) := ⟨⟨by decide +kernel, by decide +kernel⟩, List.mem_of_getElem? (i := 196) (by decide +kernel), List.mem_of_getElem? (i := 706) (by decide +kernel), List.mem_of_getElem? (i := 707) (by decide +kernel)⟩
theorem lw_p45 : lw_okq (⟨"KeepOurPlace$Errands", "gain", "()I"⟩, 16) := ⟨⟨by decide +kernel, by decide +kernel⟩, List.mem_of_getElem? (i := 196) (by decide +kernel), List.mem_of_getElem? (i := 710) (by decide +kernel), List.mem_of_getElem? (i := 711) (by decide +kernel)⟩
theorem lw_p46 : lw_okq (⟨"KeepOurPlace$Errands", "worth", "()I"⟩, 16) := ⟨⟨by decide +kernel, by decide +kernel⟩, List.mem_of_getElem? (i := 196) (by decide +kernel), List.mem_of_getElem? (i := 714) (by decide +kernel), List.mem_of_getElem? (i := 715) (by decide +kernel)⟩
theorem lw_p47 : lw_okq (⟨"KeepOurPlace$Errands", "bits", "()I"⟩, 16) := ⟨⟨by decide +kernel, by decide +kernel⟩, List.mem_of_getElem? (i := 196) (by decide +kernel), List.mem_of_getElem? (i := 718) (by decide +kernel), List.mem_of_getElem? (i := 719) (by decide +kernel)⟩
def lw_privs_3 : List (MethodName × Nat) := [(⟨"KeepOurPlace$Till", "turnChanged", "(II)I"⟩, 2), (⟨"KeepOurPlace", "readErrand", "(I)Z"⟩, 8), (⟨"KeepOurPlace$Sheets", "holds", "(I)Z"⟩, 3), (⟨"KeepOurPlace$Sheets", "isMissing", "(I)Z"⟩, 3), (⟨"KeepOurPlace$Errands", "takeRow", "([II)Z"⟩, 16), (⟨"KeepOurPlace$Errands", "goTo", "(I)V"⟩, 16), (⟨"KeepOurPlace$Errands", "prepare", "()V"⟩, 16), (⟨"KeepOurPlace$Till", "pace", "(I)I"⟩, 2), (⟨"KeepOurPlace$Errands", "backWithout", "(I)I"⟩, 16), (⟨"KeepOurPlace$Errands", "leg", "(III)I"⟩, 16), (⟨"KeepOurPlace$Things", "steps", "(II)I"⟩, 4), (⟨"KeepOurPlace$Things", "shelfOf", "(I)I"⟩, 4), (⟨"KeepOurPlace$Errands", "letBy", "(I)I"⟩, 16), (⟨"KeepOurPlace$Errands", "gain", "()I"⟩, 16), (⟨"KeepOurPlace$Errands", "worth", "()I"⟩, 16), (⟨"KeepOurPlace$Errands", "bits", "()I"⟩, 16)]
theorem lw_r3 : ∀ q ∈ lw_privs_3, lw_okq q := List.forall_mem_cons.mpr ⟨lw_p32, List.forall_mem_cons.mpr ⟨lw_p33, List.forall_mem_cons.mpr ⟨lw_p34, List.forall_mem_cons.mpr ⟨lw_p35, List.forall_mem_cons.mpr ⟨lw_p36, List.forall_mem_cons.mpr ⟨lw_p37, List.forall_mem_cons.mpr ⟨lw_p38, List.forall_mem_cons.mpr ⟨lw_p39, List.forall_mem_cons.mpr ⟨lw_p40, List.forall_mem_cons.mpr ⟨lw_p41, List.forall_mem_cons.mpr ⟨lw_p42, List.forall_mem_cons.mpr ⟨lw_p43, List.forall_mem_cons.mpr ⟨lw_p44, List.forall_mem_cons.mpr ⟨lw_p45, List.forall_mem_cons.mpr ⟨lw_p46, List.forall_mem_cons.mpr ⟨lw_p47, fun _ h => absurd h List.not_mem_nil⟩⟩⟩⟩⟩⟩⟩⟩⟩⟩⟩⟩⟩⟩⟩⟩
theorem lw_p48 : lw_okq (⟨"KeepOurPlace$Errands", "worthOf", "(I)I"⟩, 16) := ⟨⟨by decide +kernel, by decide +kernel⟩, List.mem_of_getElem? (i := 196) (by decide +kernel), List.mem_of_getElem? (i := 722) (by decide +kernel), List.mem_of_getElem? (i := 723) (by decide +kernel)⟩
theorem lw_p49 : lw_okq (⟨"KeepOurPlace$Errands", "loss", "(I)I"⟩, 16) := ⟨⟨by decide +kernel, by decide +kernel⟩, List.mem_of_getElem? (i := 196) (by decide +kernel), List.mem_of_getElem? (i := 727) (by decide +kernel), List.mem_of_getElem? (i := 728) (by decide +kernel)⟩
theorem lw_p50 : lw_okq (⟨"KeepOurPlace$Errands", "takeNearest", "()V"⟩, 16) := ⟨⟨by decide +kernel, by decide +kernel⟩, List.mem_of_getElem? (i := 196) (by decide +kernel), List.mem_of_getElem? (i := 737) (by decide +kernel), List.mem_of_getElem? (i := 738) (by decide +kernel)⟩
theorem lw_p51 : lw_okq (⟨"KeepOurPlace$Errands", "nearestOf", "(II)I"⟩, 16) := ⟨⟨by decide +kernel, by decide +kernel⟩, List.mem_of_getElem? (i := 196) (by decide +kernel), List.mem_of_getElem? (i := 741) (by decide +kernel), List.mem_of_getElem? (i := 742) (by decide +kernel)⟩
theorem lw_p52 : lw_okq (⟨"KeepOurPlace$Errands", "digits", "()I"⟩, 16) := ⟨⟨by decide +kernel, by decide +kernel⟩, List.mem_of_getElem? (i := 196) (by decide +kernel), List.mem_of_getElem? (i := 745) (by decide +kernel), List.mem_of_getElem? (i := 746) (by decide +kernel)⟩
theorem lw_p53 : lw_okq (⟨"KeepOurPlace$Things", "all", "()I"⟩, 4) := ⟨⟨by decide +kernel, by decide +kernel⟩, List.mem_of_getElem? (i := 74) (by decide +kernel), List.mem_of_getElem? (i := 753) (by decide +kernel), List.mem_of_getElem? (i := 754) (by decide +kernel)⟩
theorem lw_p54 : lw_okq (⟨"KeepOurPlace$Errands", "survey", "(I)V"⟩, 16) := ⟨⟨by decide +kernel, by decide +kernel⟩, List.mem_of_getElem? (i := 196) (by decide +kernel), List.mem_of_getElem? (i := 757) (by decide +kernel), List.mem_of_getElem? (i := 758) (by decide +kernel)⟩
theorem lw_p55 : lw_okq (⟨"KeepOurPlace$Errands", "weigh", "(III)V"⟩, 16) := ⟨⟨by decide +kernel, by decide +kernel⟩, List.mem_of_getElem? (i := 196) (by decide +kernel), List.mem_of_getElem? (i := 765) (by decide +kernel), List.mem_of_getElem? (i := 766) (by decide +kernel)⟩
theorem lw_p56 : lw_okq (⟨"KeepOurPlace$Errands", "choose", "(I)I"⟩, 16) := ⟨⟨by decide +kernel, by decide +kernel⟩, List.mem_of_getElem? (i := 196) (by decide +kernel), List.mem_of_getElem? (i := 769) (by decide +kernel), List.mem_of_getElem? (i := 770) (by decide +kernel)⟩
theorem lw_p57 : lw_okq (⟨"KeepOurPlace$Errands", "isBetter", "(II)Z"⟩, 16) := ⟨⟨by decide +kernel, by decide +kernel⟩, List.mem_of_getElem? (i := 196) (by decide +kernel), List.mem_of_getElem? (i := 773) (by decide +kernel), List.mem_of_getElem? (i := 774) (by decide +kernel)⟩
theorem lw_p58 : lw_okq (⟨"KeepOurPlace$Errands", "takePlan", "(I)V"⟩, 16) := ⟨⟨by decide +kernel, by decide +kernel⟩, List.mem_of_getElem? (i := 196) (by decide +kernel), List.mem_of_getElem? (i := 787) (by decide +kernel), List.mem_of_getElem? (i := 788) (by decide +kernel)⟩
theorem lw_p59 : lw_okq (⟨"KeepOurPlace$Errands", "mostGain", "(I)I"⟩, 16) := ⟨⟨by decide +kernel, by decide +kernel⟩, List.mem_of_getElem? (i := 196) (by decide +kernel), List.mem_of_getElem? (i := 795) (by decide +kernel), List.mem_of_getElem? (i := 796) (by decide +kernel)⟩
theorem lw_p60 : lw_okq (⟨"KeepOurPlace$Errands", "seek", "(I)V"⟩, 16) := ⟨⟨by decide +kernel, by decide +kernel⟩, List.mem_of_getElem? (i := 196) (by decide +kernel), List.mem_of_getElem? (i := 822) (by decide +kernel), List.mem_of_getElem? (i := 823) (by decide +kernel)⟩
theorem lw_p61 : lw_okq (⟨"KeepOurPlace", "ownSeconds", "(II)J"⟩, 8) := ⟨⟨by decide +kernel, by decide +kernel⟩, List.mem_of_getElem? (i := 19) (by decide +kernel), List.mem_of_getElem? (i := 831) (by decide +kernel), List.mem_of_getElem? (i := 832) (by decide +kernel)⟩
theorem lw_p62 : lw_okq (⟨"KeepOurPlace", "kindsOf", "(IJ)I"⟩, 8) := ⟨⟨by decide +kernel, by decide +kernel⟩, List.mem_of_getElem? (i := 19) (by decide +kernel), List.mem_of_getElem? (i := 835) (by decide +kernel), List.mem_of_getElem? (i := 836) (by decide +kernel)⟩
theorem lw_p63 : lw_okq (⟨"KeepOurPlace$Sheets", "lay", "(III)V"⟩, 3) := ⟨⟨by decide +kernel, by decide +kernel⟩, List.mem_of_getElem? (i := 258) (by decide +kernel), List.mem_of_getElem? (i := 843) (by decide +kernel), List.mem_of_getElem? (i := 844) (by decide +kernel)⟩
def lw_privs_4 : List (MethodName × Nat) := [(⟨"KeepOurPlace$Errands", "worthOf", "(I)I"⟩, 16), (⟨"KeepOurPlace$Errands", "loss", "(I)I"⟩, 16), (⟨"KeepOurPlace$Errands", "takeNearest", "()V"⟩, 16), (⟨"KeepOurPlace$Errands", "nearestOf", "(II)I"⟩, 16), (⟨"KeepOurPlace$Errands", "digits", "()I"⟩, 16), (⟨"KeepOurPlace$Things", "all", "()I"⟩, 4), (⟨"KeepOurPlace$Errands", "survey", "(I)V"⟩, 16), (⟨"KeepOurPlace$Errands", "weigh", "(III)V"⟩, 16), (⟨"KeepOurPlace$Errands", "choose", "(I)I"⟩, 16), (⟨"KeepOurPlace$Errands", "isBetter", "(II)Z"⟩, 16), (⟨"KeepOurPlace$Errands", "takePlan", "(I)V"⟩, 16), (⟨"KeepOurPlace$Errands", "mostGain", "(I)I"⟩, 16), (⟨"KeepOurPlace$Errands", "seek", "(I)V"⟩, 16), (⟨"KeepOurPlace", "ownSeconds", "(II)J"⟩, 8), (⟨"KeepOurPlace", "kindsOf", "(IJ)I"⟩, 8), (⟨"KeepOurPlace$Sheets", "lay", "(III)V"⟩, 3)]
theorem lw_r4 : ∀ q ∈ lw_privs_4, lw_okq q := List.forall_mem_cons.mpr ⟨lw_p48, List.forall_mem_cons.mpr ⟨lw_p49, List.forall_mem_cons.mpr ⟨lw_p50, List.forall_mem_cons.mpr ⟨lw_p51, List.forall_mem_cons.mpr ⟨lw_p52, List.forall_mem_cons.mpr ⟨lw_p53, List.forall_mem_cons.mpr ⟨lw_p54, List.forall_mem_cons.mpr ⟨lw_p55, List.forall_mem_cons.mpr ⟨lw_p56, List.forall_mem_cons.mpr ⟨lw_p57, List.forall_mem_cons.mpr ⟨lw_p58, List.forall_mem_cons.mpr ⟨lw_p59, List.forall_mem_cons.mpr ⟨lw_p60, List.forall_mem_cons.mpr ⟨lw_p61, List.forall_mem_cons.mpr ⟨lw_p62, List.forall_mem_cons.mpr ⟨lw_p63, fun _ h => absurd h List.not_mem_nil⟩⟩⟩⟩⟩⟩⟩⟩⟩⟩⟩⟩⟩⟩⟩⟩
theorem lw_p64 : lw_okq (⟨"KeepOurPlace$Sheets", "write", "(III)Z"⟩, 3) := ⟨⟨by decide +kernel, by decide +kernel⟩, List.mem_of_getElem? (i := 258) (by decide +kernel), List.mem_of_getElem? (i := 847) (by decide +kernel), List.mem_of_getElem? (i := 848) (by decide +kernel)⟩
theorem lw_p65 : lw_okq (⟨"KeepOurPlace$Things", "draw", "(I)I"⟩, 4) := ⟨⟨by decide +kernel, by decide +kernel⟩, List.mem_of_getElem? (i := 74) (by decide +kernel), List.mem_of_getElem? (i := 858) (by decide +kernel), List.mem_of_getElem? (i := 859) (by decide +kernel)⟩
theorem lw_p66 : lw_okq (⟨"KeepOurPlace$Image", "keep", "(LKeepOurPlace$Line;LKeepOurPlace$Things;LKeepOurPlace$Rules;)V"⟩, 11) := ⟨⟨by decide +kernel, by decide +kernel⟩, List.mem_of_getElem? (i := 278) (by decide +kernel), List.mem_of_getElem? (i := 875) (by decide +kernel), List.mem_of_getElem? (i := 876) (by decide +kernel)⟩
theorem lw_p67 : lw_okq (⟨"KeepOurPlace$Image", "restore", "(LKeepOurPlace$Line;LKeepOurPlace$Things;LKeepOurPlace$Rules;)V"⟩, 11) := ⟨⟨by decide +kernel, by decide +kernel⟩, List.mem_of_getElem? (i := 278) (by decide +kernel), List.mem_of_getElem? (i := 884) (by decide +kernel), List.mem_of_getElem? (i := 885) (by decide +kernel)⟩
theorem lw_p68 : lw_okq (⟨"KeepOurPlace$Sheets", "spans", "(III)Z"⟩, 3) := ⟨⟨by decide +kernel, by decide +kernel⟩, List.mem_of_getElem? (i := 258) (by decide +kernel), List.mem_of_getElem? (i := 904) (by decide +kernel), List.mem_of_getElem? (i := 905) (by decide +kernel)⟩
theorem lw_p69 : lw_okq (⟨"KeepOurPlaceModel", "spell", "(IIIIIIIII)V"⟩, 56) := ⟨⟨by decide +kernel, by decide +kernel⟩, List.mem_of_getElem? (i := 923) (by decide +kernel), List.mem_of_getElem? (i := 929) (by decide +kernel), List.mem_of_getElem? (i := 930) (by decide +kernel)⟩
theorem lw_p70 : lw_okq (⟨"KeepOurPlaceModel", "isOne", "(I)Z"⟩, 56) := ⟨⟨by decide +kernel, by decide +kernel⟩, List.mem_of_getElem? (i := 923) (by decide +kernel), List.mem_of_getElem? (i := 1122) (by decide +kernel), List.mem_of_getElem? (i := 1123) (by decide +kernel)⟩
theorem lw_p71 : lw_okq (⟨"KeepOurPlaceModel", "isThing", "(I)Z"⟩, 56) := ⟨⟨by decide +kernel, by decide +kernel⟩, List.mem_of_getElem? (i := 923) (by decide +kernel), List.mem_of_getElem? (i := 1126) (by decide +kernel), List.mem_of_getElem? (i := 1127) (by decide +kernel)⟩
theorem lw_p72 : lw_okq (⟨"KeepOurPlaceModel", "secondsOf", "(I)I"⟩, 56) := ⟨⟨by decide +kernel, by decide +kernel⟩, List.mem_of_getElem? (i := 923) (by decide +kernel), List.mem_of_getElem? (i := 1139) (by decide +kernel), List.mem_of_getElem? (i := 1140) (by decide +kernel)⟩
theorem lw_p73 : lw_okq (⟨"KeepOurPlaceModel", "says", "(IIIII)I"⟩, 56) := ⟨⟨by decide +kernel, by decide +kernel⟩, List.mem_of_getElem? (i := 923) (by decide +kernel), List.mem_of_getElem? (i := 1143) (by decide +kernel), List.mem_of_getElem? (i := 1144) (by decide +kernel)⟩
theorem lw_p74 : lw_okq (⟨"KeepOurPlaceModel", "read", "(II)I"⟩, 56) := ⟨⟨by decide +kernel, by decide +kernel⟩, List.mem_of_getElem? (i := 923) (by decide +kernel), List.mem_of_getElem? (i := 1147) (by decide +kernel), List.mem_of_getElem? (i := 1148) (by decide +kernel)⟩
theorem lw_p75 : lw_okq (⟨"KeepOurPlaceModel", "next", "()V"⟩, 56) := ⟨⟨by decide +kernel, by decide +kernel⟩, List.mem_of_getElem? (i := 923) (by decide +kernel), List.mem_of_getElem? (i := 1151) (by decide +kernel), List.mem_of_getElem? (i := 1152) (by decide +kernel)⟩
theorem lw_p76 : lw_okq (⟨"KeepOurPlaceModel", "byteAt", "(I)I"⟩, 56) := ⟨⟨by decide +kernel, by decide +kernel⟩, List.mem_of_getElem? (i := 923) (by decide +kernel), List.mem_of_getElem? (i := 1155) (by decide +kernel), List.mem_of_getElem? (i := 1156) (by decide +kernel)⟩
theorem lw_p77 : lw_okq (⟨"KeepOurPlaceModel", "isWord", "(IIIIIIII)Z"⟩, 56) := ⟨⟨by decide +kernel, by decide +kernel⟩, List.mem_of_getElem? (i := 923) (by decide +kernel), List.mem_of_getElem? (i := 1164) (by decide +kernel), List.mem_of_getElem? (i := 1165) (by decide +kernel)⟩
theorem lw_p78 : lw_okq (⟨"KeepOurPlaceModel", "isLetter", "(II)Z"⟩, 56) := ⟨⟨by decide +kernel, by decide +kernel⟩, List.mem_of_getElem? (i := 923) (by decide +kernel), List.mem_of_getElem? (i := 1168) (by decide +kernel), List.mem_of_getElem? (i := 1169) (by decide +kernel)⟩
theorem lw_p79 : lw_okq (⟨"KeepOurPlaceModel", "part", "(Z)I"⟩, 56) := ⟨⟨by decide +kernel, by decide +kernel⟩, List.mem_of_getElem? (i := 923) (by decide +kernel), List.mem_of_getElem? (i := 1172) (by decide +kernel), List.mem_of_getElem? (i := 1173) (by decide +kernel)⟩
def lw_privs_5 : List (MethodName × Nat) := [(⟨"KeepOurPlace$Sheets", "write", "(III)Z"⟩, 3), (⟨"KeepOurPlace$Things", "draw", "(I)I"⟩, 4), (⟨"KeepOurPlace$Image", "keep", "(LKeepOurPlace$Line;LKeepOurPlace$Things;LKeepOurPlace$Rules;)V"⟩, 11), (⟨"KeepOurPlace$Image", "restore", "(LKeepOurPlace$Line;LKeepOurPlace$Things;LKeepOurPlace$Rules;)V"⟩, 11), (⟨"KeepOurPlace$Sheets", "spans", "(III)Z"⟩, 3), (⟨"KeepOurPlaceModel", "spell", "(IIIIIIIII)V"⟩, 56), (⟨"KeepOurPlaceModel", "isOne", "(I)Z"⟩, 56), (⟨"KeepOurPlaceModel", "isThing", "(I)Z"⟩, 56), (⟨"KeepOurPlaceModel", "secondsOf", "(I)I"⟩, 56), (⟨"KeepOurPlaceModel", "says", "(IIIII)I"⟩, 56), (⟨"KeepOurPlaceModel", "read", "(II)I"⟩, 56), (⟨"KeepOurPlaceModel", "next", "()V"⟩, 56), (⟨"KeepOurPlaceModel", "byteAt", "(I)I"⟩, 56), (⟨"KeepOurPlaceModel", "isWord", "(IIIIIIII)Z"⟩, 56), (⟨"KeepOurPlaceModel", "isLetter", "(II)Z"⟩, 56), (⟨"KeepOurPlaceModel", "part", "(Z)I"⟩, 56)]
theorem lw_r5 : ∀ q ∈ lw_privs_5, lw_okq q := List.forall_mem_cons.mpr ⟨lw_p64, List.forall_mem_cons.mpr ⟨lw_p65, List.forall_mem_cons.mpr ⟨lw_p66, List.forall_mem_cons.mpr ⟨lw_p67, List.forall_mem_cons.mpr ⟨lw_p68, List.forall_mem_cons.mpr ⟨lw_p69, List.forall_mem_cons.mpr ⟨lw_p70, List.forall_mem_cons.mpr ⟨lw_p71, List.forall_mem_cons.mpr ⟨lw_p72, List.forall_mem_cons.mpr ⟨lw_p73, List.forall_mem_cons.mpr ⟨lw_p74, List.forall_mem_cons.mpr ⟨lw_p75, List.forall_mem_cons.mpr ⟨lw_p76, List.forall_mem_cons.mpr ⟨lw_p77, List.forall_mem_cons.mpr ⟨lw_p78, List.forall_mem_cons.mpr ⟨lw_p79, fun _ h => absurd h List.not_mem_nil⟩⟩⟩⟩⟩⟩⟩⟩⟩⟩⟩⟩⟩⟩⟩⟩
theorem lw_p80 : lw_okq (⟨"KeepOurPlaceModel", "fail", "()V"⟩, 56) := ⟨⟨by decide +kernel, by decide +kernel⟩, List.mem_of_getElem? (i := 923) (by decide +kernel), List.mem_of_getElem? (i := 1176) (by decide +kernel), List.mem_of_getElem? (i := 1177) (by decide +kernel)⟩
theorem lw_p81 : lw_okq (⟨"KeepOurPlaceModel", "either", "()I"⟩, 56) := ⟨⟨by decide +kernel, by decide +kernel⟩, List.mem_of_getElem? (i := 923) (by decide +kernel), List.mem_of_getElem? (i := 1180) (by decide +kernel), List.mem_of_getElem? (i := 1181) (by decide +kernel)⟩
theorem lw_p82 : lw_okq (⟨"KeepOurPlaceModel", "both", "()I"⟩, 56) := ⟨⟨by decide +kernel, by decide +kernel⟩, List.mem_of_getElem? (i := 923) (by decide +kernel), List.mem_of_getElem? (i := 1184) (by decide +kernel), List.mem_of_getElem? (i := 1185) (by decide +kernel)⟩
theorem lw_p83 : lw_okq (⟨"KeepOurPlaceModel", "not", "()I"⟩, 56) := ⟨⟨by decide +kernel, by decide +kernel⟩, List.mem_of_getElem? (i := 923) (by decide +kernel), List.mem_of_getElem? (i := 1188) (by decide +kernel), List.mem_of_getElem? (i := 1189) (by decide +kernel)⟩
theorem lw_p84 : lw_okq (⟨"KeepOurPlaceModel", "opens", "()Z"⟩, 56) := ⟨⟨by decide +kernel, by decide +kernel⟩, List.mem_of_getElem? (i := 923) (by decide +kernel), List.mem_of_getElem? (i := 1192) (by decide +kernel), List.mem_of_getElem? (i := 1193) (by decide +kernel)⟩
theorem lw_p85 : lw_okq (⟨"KeepOurPlaceModel", "added", "()I"⟩, 56) := ⟨⟨by decide +kernel, by decide +kernel⟩, List.mem_of_getElem? (i := 923) (by decide +kernel), List.mem_of_getElem? (i := 1196) (by decide +kernel), List.mem_of_getElem? (i := 1197) (by decide +kernel)⟩
theorem lw_p86 : lw_okq (⟨"KeepOurPlaceModel", "term", "()I"⟩, 56) := ⟨⟨by decide +kernel, by decide +kernel⟩, List.mem_of_getElem? (i := 923) (by decide +kernel), List.mem_of_getElem? (i := 1200) (by decide +kernel), List.mem_of_getElem? (i := 1201) (by decide +kernel)⟩
theorem lw_p87 : lw_okq (⟨"KeepOurPlaceModel", "atom", "()I"⟩, 56) := ⟨⟨by decide +kernel, by decide +kernel⟩, List.mem_of_getElem? (i := 923) (by decide +kernel), List.mem_of_getElem? (i := 1204) (by decide +kernel), List.mem_of_getElem? (i := 1205) (by decide +kernel)⟩
theorem lw_p88 : lw_okq (⟨"KeepOurPlaceModel", "isSign", "(I)Z"⟩, 56) := ⟨⟨by decide +kernel, by decide +kernel⟩, List.mem_of_getElem? (i := 923) (by decide +kernel), List.mem_of_getElem? (i := 1208) (by decide +kernel), List.mem_of_getElem? (i := 1209) (by decide +kernel)⟩
theorem lw_p89 : lw_okq (⟨"KeepOurPlaceModel", "name", "()I"⟩, 56) := ⟨⟨by decide +kernel, by decide +kernel⟩, List.mem_of_getElem? (i := 923) (by decide +kernel), List.mem_of_getElem? (i := 1212) (by decide +kernel), List.mem_of_getElem? (i := 1213) (by decide +kernel)⟩
theorem lw_p90 : lw_okq (⟨"KeepOurPlaceModel", "mindsOf", "(II)I"⟩, 56) := ⟨⟨by decide +kernel, by decide +kernel⟩, List.mem_of_getElem? (i := 923) (by decide +kernel), List.mem_of_getElem? (i := 1221) (by decide +kernel), List.mem_of_getElem? (i := 1222) (by decide +kernel)⟩
theorem lw_p91 : lw_okq (⟨"KeepOurPlaceModel", "gathers", "()V"⟩, 56) := ⟨⟨by decide +kernel, by decide +kernel⟩, List.mem_of_getElem? (i := 923) (by decide +kernel), List.mem_of_getElem? (i := 1246) (by decide +kernel), List.mem_of_getElem? (i := 1247) (by decide +kernel)⟩
theorem lw_p92 : lw_okq (⟨"KeepOurPlaceModel", "lays", "(II)Z"⟩, 56) := ⟨⟨by decide +kernel, by decide +kernel⟩, List.mem_of_getElem? (i := 923) (by decide +kernel), List.mem_of_getElem? (i := 1257) (by decide +kernel), List.mem_of_getElem? (i := 1258) (by decide +kernel)⟩
theorem lw_p93 : lw_okq (⟨"KeepOurPlaceModel", "backOf", "()I"⟩, 56) := ⟨⟨by decide +kernel, by decide +kernel⟩, List.mem_of_getElem? (i := 923) (by decide +kernel), List.mem_of_getElem? (i := 1262) (by decide +kernel), List.mem_of_getElem? (i := 1263) (by decide +kernel)⟩
theorem lw_p94 : lw_okq (⟨"KeepOurPlaceModel", "worthOf", "()I"⟩, 56) := ⟨⟨by decide +kernel, by decide +kernel⟩, List.mem_of_getElem? (i := 923) (by decide +kernel), List.mem_of_getElem? (i := 1269) (by decide +kernel), List.mem_of_getElem? (i := 1270) (by decide +kernel)⟩
theorem lw_p95 : lw_okq (⟨"KeepOurPlaceModel", "gainOf", "(II)I"⟩, 56) := ⟨⟨by decide +kernel, by decide +kernel⟩, List.mem_of_getElem? (i := 923) (by decide +kernel), List.mem_of_getElem? (i := 1273) (by decide +kernel), List.mem_of_getElem? (i := 1274) (by decide +kernel)⟩
def lw_privs_6 : List (MethodName × Nat) := [(⟨"KeepOurPlaceModel", "fail", "()V"⟩, 56), (⟨"KeepOurPlaceModel", "either", "()I"⟩, 56), (⟨"KeepOurPlaceModel", "both", "()I"⟩, 56), (⟨"KeepOurPlaceModel", "not", "()I"⟩, 56), (⟨"KeepOurPlaceModel", "opens", "()Z"⟩, 56), (⟨"KeepOurPlaceModel", "added", "()I"⟩, 56), (⟨"KeepOurPlaceModel", "term", "()I"⟩, 56), (⟨"KeepOurPlaceModel", "atom", "()I"⟩, 56), (⟨"KeepOurPlaceModel", "isSign", "(I)Z"⟩, 56), (⟨"KeepOurPlaceModel", "name", "()I"⟩, 56), (⟨"KeepOurPlaceModel", "mindsOf", "(II)I"⟩, 56), (⟨"KeepOurPlaceModel", "gathers", "()V"⟩, 56), (⟨"KeepOurPlaceModel", "lays", "(II)Z"⟩, 56), (⟨"KeepOurPlaceModel", "backOf", "()I"⟩, 56), (⟨"KeepOurPlaceModel", "worthOf", "()I"⟩, 56), (⟨"KeepOurPlaceModel", "gainOf", "(II)I"⟩, 56)]
theorem lw_r6 : ∀ q ∈ lw_privs_6, lw_okq q := List.forall_mem_cons.mpr ⟨lw_p80, List.forall_mem_cons.mpr ⟨lw_p81, List.forall_mem_cons.mpr ⟨lw_p82, List.forall_mem_cons.mpr ⟨lw_p83, List.forall_mem_cons.mpr ⟨lw_p84, List.forall_mem_cons.mpr ⟨lw_p85, List.forall_mem_cons.mpr ⟨lw_p86, List.forall_mem_cons.mpr ⟨lw_p87, List.forall_mem_cons.mpr ⟨lw_p88, List.forall_mem_cons.mpr ⟨lw_p89, List.forall_mem_cons.mpr ⟨lw_p90, List.forall_mem_cons.mpr ⟨lw_p91, List.forall_mem_cons.mpr ⟨lw_p92, List.forall_mem_cons.mpr ⟨lw_p93, List.forall_mem_cons.mpr ⟨lw_p94, List.forall_mem_cons.mpr ⟨lw_p95, fun _ h => absurd h List.not_mem_nil⟩⟩⟩⟩⟩⟩⟩⟩⟩⟩⟩⟩⟩⟩⟩⟩
theorem lw_p96 : lw_okq (⟨"KeepOurPlaceModel", "digitsOf", "()I"⟩, 56) := ⟨⟨by decide +kernel, by decide +kernel⟩, List.mem_of_getElem? (i := 923) (by decide +kernel), List.mem_of_getElem? (i := 1281) (by decide +kernel), List.mem_of_getElem? (i := 1282) (by decide +kernel)⟩
theorem lw_p97 : lw_okq (⟨"KeepOurPlaceModel", "allThings", "()I"⟩, 56) := ⟨⟨by decide +kernel, by decide +kernel⟩, List.mem_of_getElem? (i := 923) (by decide +kernel), List.mem_of_getElem? (i := 1289) (by decide +kernel), List.mem_of_getElem? (i := 1290) (by decide +kernel)⟩
theorem lw_p98 : lw_okq (⟨"KeepOurPlaceModel", "seeks", "(I)I"⟩, 56) := ⟨⟨by decide +kernel, by decide +kernel⟩, List.mem_of_getElem? (i := 923) (by decide +kernel), List.mem_of_getElem? (i := 1293) (by decide +kernel), List.mem_of_getElem? (i := 1294) (by decide +kernel)⟩
theorem lw_p99 : lw_okq (⟨"KeepOurPlaceModel", "goesOn", "(IIIII)V"⟩, 56) := ⟨⟨by decide +kernel, by decide +kernel⟩, List.mem_of_getElem? (i := 923) (by decide +kernel), List.mem_of_getElem? (i := 1297) (by decide +kernel), List.mem_of_getElem? (i := 1298) (by decide +kernel)⟩
theorem lw_p100 : lw_okq (⟨"KeepOurPlaceModel", "swaps", "(II)V"⟩, 56) := ⟨⟨by decide +kernel, by decide +kernel⟩, List.mem_of_getElem? (i := 923) (by decide +kernel), List.mem_of_getElem? (i := 1323) (by decide +kernel), List.mem_of_getElem? (i := 1324) (by decide +kernel)⟩
theorem lw_p101 : lw_okq (⟨"KeepOurPlaceModel", "lineOf", "(I)I"⟩, 56) := ⟨⟨by decide +kernel, by decide +kernel⟩, List.mem_of_getElem? (i := 923) (by decide +kernel), List.mem_of_getElem? (i := 1331) (by decide +kernel), List.mem_of_getElem? (i := 1332) (by decide +kernel)⟩
theorem lw_p102 : lw_okq (⟨"KeepOurPlaceModel", "orders", "(II)V"⟩, 56) := ⟨⟨by decide +kernel, by decide +kernel⟩, List.mem_of_getElem? (i := 923) (by decide +kernel), List.mem_of_getElem? (i := 1344) (by decide +kernel), List.mem_of_getElem? (i := 1345) (by decide +kernel)⟩
theorem lw_p103 : lw_okq (⟨"KeepOurPlaceModel", "ownOf", "(II)J"⟩, 56) := ⟨⟨by decide +kernel, by decide +kernel⟩, List.mem_of_getElem? (i := 923) (by decide +kernel), List.mem_of_getElem? (i := 1352) (by decide +kernel), List.mem_of_getElem? (i := 1353) (by decide +kernel)⟩
theorem lw_p104 : lw_okq (⟨"KeepOurPlaceModel", "draws", "(I)I"⟩, 56) := ⟨⟨by decide +kernel, by decide +kernel⟩, List.mem_of_getElem? (i := 923) (by decide +kernel), List.mem_of_getElem? (i := 1369) (by decide +kernel), List.mem_of_getElem? (i := 1370) (by decide +kernel)⟩
def lw_privs_7 : List (MethodName × Nat) := [(⟨"KeepOurPlaceModel", "digitsOf", "()I"⟩, 56), (⟨"KeepOurPlaceModel", "allThings", "()I"⟩, 56), (⟨"KeepOurPlaceModel", "seeks", "(I)I"⟩, 56), (⟨"KeepOurPlaceModel", "goesOn", "(IIIII)V"⟩, 56), (⟨"KeepOurPlaceModel", "swaps", "(II)V"⟩, 56), (⟨"KeepOurPlaceModel", "lineOf", "(I)I"⟩, 56), (⟨"KeepOurPlaceModel", "orders", "(II)V"⟩, 56), (⟨"KeepOurPlaceModel", "ownOf", "(II)J"⟩, 56), (⟨"KeepOurPlaceModel", "draws", "(I)I"⟩, 56)]
theorem lw_r7 : ∀ q ∈ lw_privs_7, lw_okq q := List.forall_mem_cons.mpr ⟨lw_p96, List.forall_mem_cons.mpr ⟨lw_p97, List.forall_mem_cons.mpr ⟨lw_p98, List.forall_mem_cons.mpr ⟨lw_p99, List.forall_mem_cons.mpr ⟨lw_p100, List.forall_mem_cons.mpr ⟨lw_p101, List.forall_mem_cons.mpr ⟨lw_p102, List.forall_mem_cons.mpr ⟨lw_p103, List.forall_mem_cons.mpr ⟨lw_p104, fun _ h => absurd h List.not_mem_nil⟩⟩⟩⟩⟩⟩⟩⟩⟩
def lw_privs : List (MethodName × Nat) := lw_privs_1 ++ (lw_privs_2 ++ (lw_privs_3 ++ (lw_privs_4 ++ (lw_privs_5 ++ (lw_privs_6 ++ (lw_privs_7))))))
def lw_tbl : List Cond := k2_sels lw_privs ++ tables_1
theorem lw_privs_ok : ∀ q ∈ lw_privs, lw_okq q := by
  show ∀ q ∈ lw_privs_1 ++ (lw_privs_2 ++ (lw_privs_3 ++ (lw_privs_4 ++ (lw_privs_5 ++ (lw_privs_6 ++ (lw_privs_7)))))), lw_okq q
  exact List.forall_mem_append.mpr ⟨lw_r1, List.forall_mem_append.mpr ⟨lw_r2, List.forall_mem_append.mpr ⟨lw_r3, List.forall_mem_append.mpr ⟨lw_r4, List.forall_mem_append.mpr ⟨lw_r5, List.forall_mem_append.mpr ⟨lw_r6, lw_r7⟩⟩⟩⟩⟩⟩
end
section
/-! names and field tables: printed by the kit for this claim (claim/NAMES.whole.lean.txt) -/
def RX0 : String := "KeepOurPlace$Errands"
def TX0 : u_T := fun k => match k with
  | 0 => ("KeepOurPlace$Errands", "line", "LKeepOurPlace$Line;", true)
  | 1 => ("KeepOurPlace$Errands", "things", "LKeepOurPlace$Things;", true)
  | 2 => ("KeepOurPlace$Errands", "till", "LKeepOurPlace$Till;", true)
  | 3 => ("KeepOurPlace$Errands", "paces", "[I", true)
  | 4 => ("KeepOurPlace$Errands", "dues", "[I", true)
  | 5 => ("KeepOurPlace$Errands", "grudges", "[I", true)
  | 6 => ("KeepOurPlace$Errands", "behind", "I", false)
  | 7 => ("KeepOurPlace$Errands", "order", "[I", true)
  | 8 => ("KeepOurPlace$Errands", "length", "I", false)
  | 9 => ("KeepOurPlace$Errands", "plans", "[I", true)
  | 10 => ("KeepOurPlace$Errands", "backs", "[I", true)
  | 11 => ("KeepOurPlace$Errands", "gains", "[I", true)
  | 12 => ("KeepOurPlace$Errands", "soughtSet", "I", false)
  | 13 => ("KeepOurPlace$Errands", "soughtBack", "I", false)
  | 14 => ("KeepOurPlace$Errands", "hits", "I", false)
  | _ => ("KeepOurPlace$Errands", "firstHit", "I", false)
def tyX0 : Nat → FieldType := fun k => match k with
  | 0 => .object "KeepOurPlace$Line"
  | 1 => .object "KeepOurPlace$Things"
  | 2 => .object "KeepOurPlace$Till"
  | 3 => .array .int
  | 4 => .array .int
  | 5 => .array .int
  | 6 => .int
  | 7 => .array .int
  | 8 => .int
  | 9 => .array .int
  | 10 => .array .int
  | 11 => .array .int
  | 12 => .int
  | 13 => .int
  | 14 => .int
  | _ => .int
abbrev wsX00 : List Cond := u_ws RX0 TX0 16
theorem nmX0 : ∀ a, a < 16 → ∀ b, b < 16 → a ≠ b → (TX0 a).2.1 ≠ (TX0 b).2.1 := by decide +kernel
theorem tyX0_ok : ∀ k, k < 16 → parseFieldDescriptor (TX0 k).2.2.1 = some (tyX0 k) := by decide +kernel
abbrev cX0_init : ByteArray := prog_2_method_1_code
def yX0_init : MethodName := ⟨RX0, "<init>", "(LKeepOurPlace$Line;LKeepOurPlace$Things;LKeepOurPlace$Till;)V"⟩
abbrev cX0_prepare : ByteArray := prog_2_method_2_code
def yX0_prepare : MethodName := ⟨RX0, "prepare", "()V"⟩
abbrev cX0_letBy : ByteArray := prog_2_method_3_code
def yX0_letBy : MethodName := ⟨RX0, "letBy", "(I)I"⟩
abbrev cX0_loss : ByteArray := prog_2_method_4_code
def yX0_loss : MethodName := ⟨RX0, "loss", "(I)I"⟩
abbrev cX0_leg : ByteArray := prog_2_method_5_code
def yX0_leg : MethodName := ⟨RX0, "leg", "(III)I"⟩
abbrev cX0_takeRow : ByteArray := prog_2_method_6_code
def yX0_takeRow : MethodName := ⟨RX0, "takeRow", "([II)Z"⟩
abbrev cX0_takePlan : ByteArray := prog_2_method_7_code
def yX0_takePlan : MethodName := ⟨RX0, "takePlan", "(I)V"⟩
abbrev cX0_takeNearest : ByteArray := prog_2_method_8_code
def yX0_takeNearest : MethodName := ⟨RX0, "takeNearest", "()V"⟩
abbrev cX0_nearestOf : ByteArray := prog_2_method_9_code
def yX0_nearestOf : MethodName := ⟨RX0, "nearestOf", "(II)I"⟩
abbrev cX0_goTo : ByteArray := prog_2_method_10_code
def yX0_goTo : MethodName := ⟨RX0, "goTo", "(I)V"⟩
abbrev cX0_backWithout : ByteArray := prog_2_method_11_code
def yX0_backWithout : MethodName := ⟨RX0, "backWithout", "(I)I"⟩
abbrev cX0_digits : ByteArray := prog_2_method_12_code
def yX0_digits : MethodName := ⟨RX0, "digits", "()I"⟩
abbrev cX0_bits : ByteArray := prog_2_method_13_code
def yX0_bits : MethodName := ⟨RX0, "bits", "()I"⟩
abbrev cX0_worth : ByteArray := prog_2_method_14_code
def yX0_worth : MethodName := ⟨RX0, "worth", "()I"⟩
abbrev cX0_gain : ByteArray := prog_2_method_15_code
def yX0_gain : MethodName := ⟨RX0, "gain", "()I"⟩
abbrev cX0_survey : ByteArray := prog_2_method_16_code
def yX0_survey : MethodName := ⟨RX0, "survey", "(I)V"⟩
abbrev cX0_seek : ByteArray := prog_2_method_17_code
def yX0_seek : MethodName := ⟨RX0, "seek", "(I)V"⟩
abbrev cX0_visit : ByteArray := prog_2_method_18_code
def yX0_visit : MethodName := ⟨RX0, "visit", "(LKeepOurPlace$Errands;IIIIII)V"⟩
abbrev cX0_weigh : ByteArray := prog_2_method_19_code
def yX0_weigh : MethodName := ⟨RX0, "weigh", "(III)V"⟩
abbrev cX0_worthOf : ByteArray := prog_2_method_20_code
def yX0_worthOf : MethodName := ⟨RX0, "worthOf", "(I)I"⟩
abbrev cX0_choose : ByteArray := prog_2_method_21_code
def yX0_choose : MethodName := ⟨RX0, "choose", "(I)I"⟩
abbrev cX0_isBetter : ByteArray := prog_2_method_22_code
def yX0_isBetter : MethodName := ⟨RX0, "isBetter", "(II)Z"⟩
abbrev cX0_mostGain : ByteArray := prog_2_method_23_code
def yX0_mostGain : MethodName := ⟨RX0, "mostGain", "(I)I"⟩
def RX1 : String := "KeepOurPlace$Image"
def TX1 : u_T := fun k => match k with
  | 0 => ("KeepOurPlace$Image", "there", "Z", false)
  | 1 => ("KeepOurPlace$Image", "gone", "I", false)
  | 2 => ("KeepOurPlace$Image", "customers", "I", false)
  | 3 => ("KeepOurPlace$Image", "ours", "I", false)
  | 4 => ("KeepOurPlace$Image", "ruling", "I", false)
  | 5 => ("KeepOurPlace$Image", "many", "I", false)
  | 6 => ("KeepOurPlace$Image", "items", "[I", true)
  | 7 => ("KeepOurPlace$Image", "numbers", "[I", true)
  | 8 => ("KeepOurPlace$Image", "shelves", "[I", true)
  | 9 => ("KeepOurPlace$Image", "worths", "[I", true)
  | _ => ("KeepOurPlace$Image", "chances", "[I", true)
def tyX1 : Nat → FieldType := fun k => match k with
  | 0 => .boolean
  | 1 => .int
  | 2 => .int
  | 3 => .int
  | 4 => .int
  | 5 => .int
  | 6 => .array .int
  | 7 => .array .int
  | 8 => .array .int
  | 9 => .array .int
  | _ => .array .int
abbrev wsX10 : List Cond := u_ws RX1 TX1 11
theorem nmX1 : ∀ a, a < 11 → ∀ b, b < 11 → a ≠ b → (TX1 a).2.1 ≠ (TX1 b).2.1 := by decide +kernel
theorem tyX1_ok : ∀ k, k < 11 → parseFieldDescriptor (TX1 k).2.2.1 = some (tyX1 k) := by decide +kernel
abbrev cX1_init : ByteArray := prog_3_method_1_code
def yX1_init : MethodName := ⟨RX1, "<init>", "()V"⟩
abbrev cX1_keep : ByteArray := prog_3_method_2_code
def yX1_keep : MethodName := ⟨RX1, "keep", "(LKeepOurPlace$Line;LKeepOurPlace$Things;LKeepOurPlace$Rules;)V"⟩
abbrev cX1_restore : ByteArray := prog_3_method_3_code
def yX1_restore : MethodName := ⟨RX1, "restore", "(LKeepOurPlace$Line;LKeepOurPlace$Things;LKeepOurPlace$Rules;)V"⟩
def RX2 : String := "KeepOurPlace$Line"
def TX2 : u_T := fun k => match k with
  | 0 => ("KeepOurPlace$Line", "kinds", "[I", true)
  | 1 => ("KeepOurPlace$Line", "items", "[I", true)
  | 2 => ("KeepOurPlace$Line", "numbers", "[I", true)
  | 3 => ("KeepOurPlace$Line", "many", "I", false)
  | 4 => ("KeepOurPlace$Line", "ours", "I", false)
  | _ => ("KeepOurPlace$Line", "gone", "I", false)
def tyX2 : Nat → FieldType := fun k => match k with
  | 0 => .array .int
  | 1 => .array .int
  | 2 => .array .int
  | 3 => .int
  | 4 => .int
  | _ => .int
abbrev wsX20 : List Cond := u_ws RX2 TX2 6
theorem nmX2 : ∀ a, a < 6 → ∀ b, b < 6 → a ≠ b → (TX2 a).2.1 ≠ (TX2 b).2.1 := by decide +kernel
theorem tyX2_ok : ∀ k, k < 6 → parseFieldDescriptor (TX2 k).2.2.1 = some (tyX2 k) := by decide +kernel
abbrev cX2_init : ByteArray := prog_4_method_1_code
def yX2_init : MethodName := ⟨RX2, "<init>", "()V"⟩
abbrev cX2_holds : ByteArray := prog_4_method_2_code
def yX2_holds : MethodName := ⟨RX2, "holds", "(I)Z"⟩
abbrev cX2_join : ByteArray := prog_4_method_3_code
def yX2_join : MethodName := ⟨RX2, "join", "(II)I"⟩
abbrev cX2_moveUs : ByteArray := prog_4_method_4_code
def yX2_moveUs : MethodName := ⟨RX2, "moveUs", "(I)I"⟩
abbrev cX2_dropFirst : ByteArray := prog_4_method_5_code
def yX2_dropFirst : MethodName := ⟨RX2, "dropFirst", "()V"⟩
def RX3 : String := "KeepOurPlace$Reader"
def TX3 : u_T := fun k => match k with
  | 0 => ("KeepOurPlace$Reader", "tape", "[I", true)
  | 1 => ("KeepOurPlace$Reader", "size", "I", false)
  | 2 => ("KeepOurPlace$Reader", "tokens", "[I", true)
  | 3 => ("KeepOurPlace$Reader", "places", "[I", true)
  | 4 => ("KeepOurPlace$Reader", "values", "[I", true)
  | 5 => ("KeepOurPlace$Reader", "noted", "I", false)
  | 6 => ("KeepOurPlace$Reader", "here", "I", false)
  | 7 => ("KeepOurPlace$Reader", "token", "I", false)
  | 8 => ("KeepOurPlace$Reader", "fault", "I", false)
  | 9 => ("KeepOurPlace$Reader", "code", "[I", true)
  | 10 => ("KeepOurPlace$Reader", "length", "I", false)
  | _ => ("KeepOurPlace$Reader", "starts", "[I", true)
def tyX3 : Nat → FieldType := fun k => match k with
  | 0 => .array .int
  | 1 => .int
  | 2 => .array .int
  | 3 => .array .int
  | 4 => .array .int
  | 5 => .int
  | 6 => .int
  | 7 => .int
  | 8 => .int
  | 9 => .array .int
  | 10 => .int
  | _ => .array .int
abbrev wsX30 : List Cond := u_ws RX3 TX3 12
theorem nmX3 : ∀ a, a < 12 → ∀ b, b < 12 → a ≠ b → (TX3 a).2.1 ≠ (TX3 b).2.1 := by decide +kernel
theorem tyX3_ok : ∀ k, k < 12 → parseFieldDescriptor (TX3 k).2.2.1 = some (tyX3 k) := by decide +kernel
abbrev cX3_init : ByteArray := prog_5_method_1_code
def yX3_init : MethodName := ⟨RX3, "<init>", "()V"⟩
abbrev cX3_append : ByteArray := prog_5_method_2_code
def yX3_append : MethodName := ⟨RX3, "append", "(I)Z"⟩
abbrev cX3_clear : ByteArray := prog_5_method_3_code
def yX3_clear : MethodName := ⟨RX3, "clear", "()V"⟩
abbrev cX3_read : ByteArray := prog_5_method_4_code
def yX3_read : MethodName := ⟨RX3, "read", "()V"⟩
abbrev cX3_scan : ByteArray := prog_5_method_5_code
def yX3_scan : MethodName := ⟨RX3, "scan", "()V"⟩
abbrev cX3_scanToken : ByteArray := prog_5_method_6_code
def yX3_scanToken : MethodName := ⟨RX3, "scanToken", "(II)I"⟩
abbrev cX3_scanNumber : ByteArray := prog_5_method_7_code
def yX3_scanNumber : MethodName := ⟨RX3, "scanNumber", "(I)I"⟩
abbrev cX3_scanWord : ByteArray := prog_5_method_8_code
def yX3_scanWord : MethodName := ⟨RX3, "scanWord", "(I)I"⟩
abbrev cX3_wordOf : ByteArray := prog_5_method_9_code
def yX3_wordOf : MethodName := ⟨RX3, "wordOf", "(II)I"⟩
abbrev cX3_isSame : ByteArray := prog_5_method_10_code
def yX3_isSame : MethodName := ⟨RX3, "isSame", "(III)Z"⟩
abbrev cX3_note : ByteArray := prog_5_method_11_code
def yX3_note : MethodName := ⟨RX3, "note", "(III)V"⟩
abbrev cX3_isLetter : ByteArray := prog_5_method_12_code
def yX3_isLetter : MethodName := ⟨RX3, "isLetter", "(I)Z"⟩
abbrev cX3_isDigit : ByteArray := prog_5_method_13_code
def yX3_isDigit : MethodName := ⟨RX3, "isDigit", "(I)Z"⟩
abbrev cX3_readPart : ByteArray := prog_5_method_14_code
def yX3_readPart : MethodName := ⟨RX3, "readPart", "(II)V"⟩
abbrev cX3_readOr : ByteArray := prog_5_method_15_code
def yX3_readOr : MethodName := ⟨RX3, "readOr", "(I)V"⟩
abbrev cX3_readAnd : ByteArray := prog_5_method_16_code
def yX3_readAnd : MethodName := ⟨RX3, "readAnd", "(I)V"⟩
abbrev cX3_readNot : ByteArray := prog_5_method_17_code
def yX3_readNot : MethodName := ⟨RX3, "readNot", "(I)V"⟩
abbrev cX3_readSum : ByteArray := prog_5_method_18_code
def yX3_readSum : MethodName := ⟨RX3, "readSum", "(I)V"⟩
abbrev cX3_readTerm : ByteArray := prog_5_method_19_code
def yX3_readTerm : MethodName := ⟨RX3, "readTerm", "(I)V"⟩
abbrev cX3_readOne : ByteArray := prog_5_method_20_code
def yX3_readOne : MethodName := ⟨RX3, "readOne", "(I)V"⟩
abbrev cX3_mayOpen : ByteArray := prog_5_method_21_code
def yX3_mayOpen : MethodName := ⟨RX3, "mayOpen", "(I)Z"⟩
abbrev cX3_expect : ByteArray := prog_5_method_22_code
def yX3_expect : MethodName := ⟨RX3, "expect", "(I)V"⟩
abbrev cX3_advance : ByteArray := prog_5_method_23_code
def yX3_advance : MethodName := ⟨RX3, "advance", "()V"⟩
abbrev cX3_fail : ByteArray := prog_5_method_24_code
def yX3_fail : MethodName := ⟨RX3, "fail", "()V"⟩
abbrev cX3_emit : ByteArray := prog_5_method_25_code
def yX3_emit : MethodName := ⟨RX3, "emit", "(I)V"⟩
def RX4 : String := "KeepOurPlace$Rules"
def TX4 : u_T := fun k => match k with
  | 0 => ("KeepOurPlace$Rules", "line", "LKeepOurPlace$Line;", true)
  | 1 => ("KeepOurPlace$Rules", "codes", "[[I", true)
  | 2 => ("KeepOurPlace$Rules", "starts", "[[I", true)
  | 3 => ("KeepOurPlace$Rules", "names", "[I", true)
  | 4 => ("KeepOurPlace$Rules", "stack", "[I", true)
  | 5 => ("KeepOurPlace$Rules", "many", "I", false)
  | _ => ("KeepOurPlace$Rules", "ruling", "I", false)
def tyX4 : Nat → FieldType := fun k => match k with
  | 0 => .object "KeepOurPlace$Line"
  | 1 => .array (.array .int)
  | 2 => .array (.array .int)
  | 3 => .array .int
  | 4 => .array .int
  | 5 => .int
  | _ => .int
abbrev wsX40 : List Cond := u_ws RX4 TX4 7
theorem nmX4 : ∀ a, a < 7 → ∀ b, b < 7 → a ≠ b → (TX4 a).2.1 ≠ (TX4 b).2.1 := by decide +kernel
theorem tyX4_ok : ∀ k, k < 7 → parseFieldDescriptor (TX4 k).2.2.1 = some (tyX4 k) := by decide +kernel
abbrev cX4_init : ByteArray := prog_6_method_1_code
def yX4_init : MethodName := ⟨RX4, "<init>", "(LKeepOurPlace$Line;)V"⟩
abbrev cX4_add : ByteArray := prog_6_method_2_code
def yX4_add : MethodName := ⟨RX4, "add", "(LKeepOurPlace$Reader;)I"⟩
abbrev cX4_tell : ByteArray := prog_6_method_3_code
def yX4_tell : MethodName := ⟨RX4, "tell", "(IIIII)I"⟩
abbrev cX4_ofTwo : ByteArray := prog_6_method_4_code
def yX4_ofTwo : MethodName := ⟨RX4, "ofTwo", "(III)I"⟩
def RX5 : String := "KeepOurPlace$Sheets"
def TX5 : u_T := fun k => match k with
  | 0 => ("KeepOurPlace$Sheets", "sorts", "[I", true)
  | 1 => ("KeepOurPlace$Sheets", "sizes", "[I", true)
  | _ => ("KeepOurPlace$Sheets", "rows", "[[I", true)
def tyX5 : Nat → FieldType := fun k => match k with
  | 0 => .array .int
  | 1 => .array .int
  | _ => .array (.array .int)
abbrev wsX50 : List Cond := u_ws RX5 TX5 3
theorem nmX5 : ∀ a, a < 3 → ∀ b, b < 3 → a ≠ b → (TX5 a).2.1 ≠ (TX5 b).2.1 := by decide +kernel
theorem tyX5_ok : ∀ k, k < 3 → parseFieldDescriptor (TX5 k).2.2.1 = some (tyX5 k) := by decide +kernel
abbrev cX5_init : ByteArray := prog_7_method_1_code
def yX5_init : MethodName := ⟨RX5, "<init>", "()V"⟩
abbrev cX5_holds : ByteArray := prog_7_method_2_code
def yX5_holds : MethodName := ⟨RX5, "holds", "(I)Z"⟩
abbrev cX5_isMissing : ByteArray := prog_7_method_3_code
def yX5_isMissing : MethodName := ⟨RX5, "isMissing", "(I)Z"⟩
abbrev cX5_spans : ByteArray := prog_7_method_4_code
def yX5_spans : MethodName := ⟨RX5, "spans", "(III)Z"⟩
abbrev cX5_lay : ByteArray := prog_7_method_5_code
def yX5_lay : MethodName := ⟨RX5, "lay", "(III)V"⟩
abbrev cX5_write : ByteArray := prog_7_method_6_code
def yX5_write : MethodName := ⟨RX5, "write", "(III)Z"⟩
abbrev cX5_narrow : ByteArray := prog_7_method_7_code
def yX5_narrow : MethodName := ⟨RX5, "narrow", "(II)I"⟩
def RX6 : String := "KeepOurPlace$Things"
def TX6 : u_T := fun k => match k with
  | 0 => ("KeepOurPlace$Things", "shelves", "[I", true)
  | 1 => ("KeepOurPlace$Things", "worths", "[I", true)
  | 2 => ("KeepOurPlace$Things", "chances", "[I", true)
  | _ => ("KeepOurPlace$Things", "many", "I", false)
def tyX6 : Nat → FieldType := fun k => match k with
  | 0 => .array .int
  | 1 => .array .int
  | 2 => .array .int
  | _ => .int
abbrev wsX60 : List Cond := u_ws RX6 TX6 4
theorem nmX6 : ∀ a, a < 4 → ∀ b, b < 4 → a ≠ b → (TX6 a).2.1 ≠ (TX6 b).2.1 := by decide +kernel
theorem tyX6_ok : ∀ k, k < 4 → parseFieldDescriptor (TX6 k).2.2.1 = some (tyX6 k) := by decide +kernel
abbrev cX6_init : ByteArray := prog_8_method_1_code
def yX6_init : MethodName := ⟨RX6, "<init>", "()V"⟩
abbrev cX6_holds : ByteArray := prog_8_method_2_code
def yX6_holds : MethodName := ⟨RX6, "holds", "(I)Z"⟩
abbrev cX6_lay : ByteArray := prog_8_method_3_code
def yX6_lay : MethodName := ⟨RX6, "lay", "(II)I"⟩
abbrev cX6_all : ByteArray := prog_8_method_4_code
def yX6_all : MethodName := ⟨RX6, "all", "()I"⟩
abbrev cX6_shelfOf : ByteArray := prog_8_method_5_code
def yX6_shelfOf : MethodName := ⟨RX6, "shelfOf", "(I)I"⟩
abbrev cX6_steps : ByteArray := prog_8_method_6_code
def yX6_steps : MethodName := ⟨RX6, "steps", "(II)I"⟩
abbrev cX6_draw : ByteArray := prog_8_method_7_code
def yX6_draw : MethodName := ⟨RX6, "draw", "(I)I"⟩
def RX7 : String := "KeepOurPlace$Till"
def TX7 : u_T := fun k => match k with
  | 0 => ("KeepOurPlace$Till", "line", "LKeepOurPlace$Line;", true)
  | _ => ("KeepOurPlace$Till", "rules", "LKeepOurPlace$Rules;", true)
def tyX7 : Nat → FieldType := fun k => match k with
  | 0 => .object "KeepOurPlace$Line"
  | _ => .object "KeepOurPlace$Rules"
abbrev wsX70 : List Cond := u_ws RX7 TX7 2
theorem nmX7 : ∀ a, a < 2 → ∀ b, b < 2 → a ≠ b → (TX7 a).2.1 ≠ (TX7 b).2.1 := by decide +kernel
theorem tyX7_ok : ∀ k, k < 2 → parseFieldDescriptor (TX7 k).2.2.1 = some (tyX7 k) := by decide +kernel
abbrev cX7_init : ByteArray := prog_9_method_1_code
def yX7_init : MethodName := ⟨RX7, "<init>", "(LKeepOurPlace$Line;LKeepOurPlace$Rules;)V"⟩
abbrev cX7_pace : ByteArray := prog_9_method_2_code
def yX7_pace : MethodName := ⟨RX7, "pace", "(I)I"⟩
abbrev cX7_seconds : ByteArray := prog_9_method_3_code
def yX7_seconds : MethodName := ⟨RX7, "seconds", "(III)I"⟩
abbrev cX7_minds : ByteArray := prog_9_method_4_code
def yX7_minds : MethodName := ⟨RX7, "minds", "(II)I"⟩
abbrev cX7_turnChanged : ByteArray := prog_9_method_5_code
def yX7_turnChanged : MethodName := ⟨RX7, "turnChanged", "(II)I"⟩
def RX8 : String := "KeepOurPlace"
def TX8 : u_T := fun k => match k with
  | 0 => ("KeepOurPlace", "line", "LKeepOurPlace$Line;", true)
  | 1 => ("KeepOurPlace", "things", "LKeepOurPlace$Things;", true)
  | 2 => ("KeepOurPlace", "reader", "LKeepOurPlace$Reader;", true)
  | 3 => ("KeepOurPlace", "rules", "LKeepOurPlace$Rules;", true)
  | 4 => ("KeepOurPlace", "till", "LKeepOurPlace$Till;", true)
  | 5 => ("KeepOurPlace", "errands", "LKeepOurPlace$Errands;", true)
  | 6 => ("KeepOurPlace", "sheets", "LKeepOurPlace$Sheets;", true)
  | _ => ("KeepOurPlace", "kept", "LKeepOurPlace$Image;", true)
def tyX8 : Nat → FieldType := fun k => match k with
  | 0 => .object "KeepOurPlace$Line"
  | 1 => .object "KeepOurPlace$Things"
  | 2 => .object "KeepOurPlace$Reader"
  | 3 => .object "KeepOurPlace$Rules"
  | 4 => .object "KeepOurPlace$Till"
  | 5 => .object "KeepOurPlace$Errands"
  | 6 => .object "KeepOurPlace$Sheets"
  | _ => .object "KeepOurPlace$Image"
abbrev wsX80 : List Cond := u_ws RX8 TX8 8
theorem nmX8 : ∀ a, a < 8 → ∀ b, b < 8 → a ≠ b → (TX8 a).2.1 ≠ (TX8 b).2.1 := by decide +kernel
theorem tyX8_ok : ∀ k, k < 8 → parseFieldDescriptor (TX8 k).2.2.1 = some (tyX8 k) := by decide +kernel
abbrev cX8_init : ByteArray := prog_1_method_1_code
def yX8_init : MethodName := ⟨RX8, "<init>", "()V"⟩
abbrev cX8_customer : ByteArray := prog_1_method_2_code
def yX8_customer : MethodName := ⟨RX8, "customer", "(II)I"⟩
abbrev cX8_thing : ByteArray := prog_1_method_3_code
def yX8_thing : MethodName := ⟨RX8, "thing", "(II)I"⟩
abbrev cX8_set : ByteArray := prog_1_method_4_code
def yX8_set : MethodName := ⟨RX8, "set", "(III)I"⟩
abbrev cX8_told : ByteArray := prog_1_method_5_code
def yX8_told : MethodName := ⟨RX8, "told", "(II)I"⟩
abbrev cX8_serve : ByteArray := prog_1_method_6_code
def yX8_serve : MethodName := ⟨RX8, "serve", "()I"⟩
abbrev cX8_feed : ByteArray := prog_1_method_7_code
def yX8_feed : MethodName := ⟨RX8, "feed", "(I)I"⟩
abbrev cX8_text : ByteArray := prog_1_method_8_code
def yX8_text : MethodName := ⟨RX8, "text", "()I"⟩
abbrev cX8_force : ByteArray := prog_1_method_9_code
def yX8_force : MethodName := ⟨RX8, "force", "(I)I"⟩
abbrev cX8_turn : ByteArray := prog_1_method_10_code
def yX8_turn : MethodName := ⟨RX8, "turn", "()I"⟩
abbrev cX8_errand : ByteArray := prog_1_method_11_code
def yX8_errand : MethodName := ⟨RX8, "errand", "(II)I"⟩
abbrev cX8_nearest : ByteArray := prog_1_method_12_code
def yX8_nearest : MethodName := ⟨RX8, "nearest", "(I)I"⟩
abbrev cX8_best : ByteArray := prog_1_method_13_code
def yX8_best : MethodName := ⟨RX8, "best", "(I)I"⟩
abbrev cX8_latest : ByteArray := prog_1_method_14_code
def yX8_latest : MethodName := ⟨RX8, "latest", "(II)I"⟩
abbrev cX8_leave : ByteArray := prog_1_method_15_code
def yX8_leave : MethodName := ⟨RX8, "leave", "()I"⟩
abbrev cX8_more : ByteArray := prog_1_method_16_code
def yX8_more : MethodName := ⟨RX8, "more", "(I)I"⟩
abbrev cX8_stand : ByteArray := prog_1_method_17_code
def yX8_stand : MethodName := ⟨RX8, "stand", "(I)I"⟩
abbrev cX8_change : ByteArray := prog_1_method_18_code
def yX8_change : MethodName := ⟨RX8, "change", "(I)I"⟩
abbrev cX8_lines : ByteArray := prog_1_method_19_code
def yX8_lines : MethodName := ⟨RX8, "lines", "(I)I"⟩
abbrev cX8_likely : ByteArray := prog_1_method_20_code
def yX8_likely : MethodName := ⟨RX8, "likely", "(I)J"⟩
abbrev cX8_slip : ByteArray := prog_1_method_21_code
def yX8_slip : MethodName := ⟨RX8, "slip", "(II)I"⟩
abbrev cX8_served : ByteArray := prog_1_method_22_code
def yX8_served : MethodName := ⟨RX8, "served", "(II)I"⟩
abbrev cX8_film : ByteArray := prog_1_method_23_code
def yX8_film : MethodName := ⟨RX8, "film", "(II)I"⟩
abbrev cX8_drawn : ByteArray := prog_1_method_24_code
def yX8_drawn : MethodName := ⟨RX8, "drawn", "(I)I"⟩
abbrev cX8_chance : ByteArray := prog_1_method_25_code
def yX8_chance : MethodName := ⟨RX8, "chance", "(III)J"⟩
abbrev cX8_image : ByteArray := prog_1_method_26_code
def yX8_image : MethodName := ⟨RX8, "image", "()I"⟩
abbrev cX8_back : ByteArray := prog_1_method_27_code
def yX8_back : MethodName := ⟨RX8, "back", "()I"⟩
abbrev cX8_count : ByteArray := prog_1_method_28_code
def yX8_count : MethodName := ⟨RX8, "count", "(I)I"⟩
abbrev cX8_sheet : ByteArray := prog_1_method_29_code
def yX8_sheet : MethodName := ⟨RX8, "sheet", "(III)I"⟩
abbrev cX8_cell : ByteArray := prog_1_method_30_code
def yX8_cell : MethodName := ⟨RX8, "cell", "(III)I"⟩
abbrev cX8_copy : ByteArray := prog_1_method_31_code
def yX8_copy : MethodName := ⟨RX8, "copy", "(IIIII)I"⟩
abbrev cX8_customers : ByteArray := prog_1_method_32_code
def yX8_customers : MethodName := ⟨RX8, "customers", "(IIII)I"⟩
abbrev cX8_taken : ByteArray := prog_1_method_33_code
def yX8_taken : MethodName := ⟨RX8, "taken", "(II)I"⟩
abbrev cX8_replace : ByteArray := prog_1_method_34_code
def yX8_replace : MethodName := ⟨RX8, "replace", "([IIII)I"⟩
abbrev cX8_isUnder : ByteArray := prog_1_method_35_code
def yX8_isUnder : MethodName := ⟨RX8, "isUnder", "(II)Z"⟩
abbrev cX8_commonDivisor : ByteArray := prog_1_method_36_code
def yX8_commonDivisor : MethodName := ⟨RX8, "commonDivisor", "(II)I"⟩
abbrev cX8_readErrand : ByteArray := prog_1_method_37_code
def yX8_readErrand : MethodName := ⟨RX8, "readErrand", "(I)Z"⟩
abbrev cX8_ownSeconds : ByteArray := prog_1_method_38_code
def yX8_ownSeconds : MethodName := ⟨RX8, "ownSeconds", "(II)J"⟩
abbrev cX8_kindsOf : ByteArray := prog_1_method_39_code
def yX8_kindsOf : MethodName := ⟨RX8, "kindsOf", "(IJ)I"⟩
def RX9 : String := "KeepOurPlaceModel"
def TX9 : u_T := fun k => match k with
  | 0 => ("KeepOurPlaceModel", "thrown", "I", false)
  | 1 => ("KeepOurPlaceModel", "texts", "[I", true)
  | 2 => ("KeepOurPlaceModel", "textSize", "[I", true)
  | 3 => ("KeepOurPlaceModel", "textCount", "I", false)
  | 4 => ("KeepOurPlaceModel", "rule", "I", false)
  | 5 => ("KeepOurPlaceModel", "tape", "[I", true)
  | 6 => ("KeepOurPlaceModel", "taped", "I", false)
  | 7 => ("KeepOurPlaceModel", "kinds", "[I", true)
  | 8 => ("KeepOurPlaceModel", "itemRow", "[I", true)
  | 9 => ("KeepOurPlaceModel", "numbers", "[I", true)
  | 10 => ("KeepOurPlaceModel", "line", "I", false)
  | 11 => ("KeepOurPlaceModel", "ours", "I", false)
  | 12 => ("KeepOurPlaceModel", "servedMany", "I", false)
  | 13 => ("KeepOurPlaceModel", "shelves", "[I", true)
  | 14 => ("KeepOurPlaceModel", "worths", "[I", true)
  | 15 => ("KeepOurPlaceModel", "chances", "[I", true)
  | 16 => ("KeepOurPlaceModel", "thingMany", "I", false)
  | 17 => ("KeepOurPlaceModel", "ofItems", "I", false)
  | 18 => ("KeepOurPlaceModel", "ofNumber", "I", false)
  | 19 => ("KeepOurPlaceModel", "ofPlace", "I", false)
  | 20 => ("KeepOurPlaceModel", "ofOurs", "I", false)
  | 21 => ("KeepOurPlaceModel", "ofWait", "I", false)
  | 22 => ("KeepOurPlaceModel", "ofMany", "I", false)
  | 23 => ("KeepOurPlaceModel", "from", "I", false)
  | 24 => ("KeepOurPlaceModel", "size", "I", false)
  | 25 => ("KeepOurPlaceModel", "here", "I", false)
  | 26 => ("KeepOurPlaceModel", "token", "I", false)
  | 27 => ("KeepOurPlaceModel", "tokenAt", "I", false)
  | 28 => ("KeepOurPlaceModel", "tokenWorth", "J", false)
  | 29 => ("KeepOurPlaceModel", "open", "I", false)
  | 30 => ("KeepOurPlaceModel", "bad", "Z", false)
  | 31 => ("KeepOurPlaceModel", "fault", "I", false)
  | 32 => ("KeepOurPlaceModel", "seconds", "[I", true)
  | 33 => ("KeepOurPlaceModel", "minds", "[I", true)
  | 34 => ("KeepOurPlaceModel", "walks", "[I", true)
  | 35 => ("KeepOurPlaceModel", "turnNow", "I", false)
  | 36 => ("KeepOurPlaceModel", "letBy", "I", false)
  | 37 => ("KeepOurPlaceModel", "path", "[I", true)
  | 38 => ("KeepOurPlaceModel", "pathSize", "I", false)
  | 39 => ("KeepOurPlaceModel", "bestPath", "[I", true)
  | 40 => ("KeepOurPlaceModel", "bestSize", "I", false)
  | 41 => ("KeepOurPlaceModel", "bestGain", "I", false)
  | 42 => ("KeepOurPlaceModel", "isFound", "Z", false)
  | 43 => ("KeepOurPlaceModel", "slipMany", "I", false)
  | 44 => ("KeepOurPlaceModel", "slipFirst", "I", false)
  | 45 => ("KeepOurPlaceModel", "lineKept", "[I", true)
  | 46 => ("KeepOurPlaceModel", "thingsKept", "[I", true)
  | 47 => ("KeepOurPlaceModel", "manyKept", "I", false)
  | 48 => ("KeepOurPlaceModel", "thingsKeptMany", "I", false)
  | 49 => ("KeepOurPlaceModel", "oursKept", "I", false)
  | 50 => ("KeepOurPlaceModel", "servedKept", "I", false)
  | 51 => ("KeepOurPlaceModel", "ruleKept", "I", false)
  | 52 => ("KeepOurPlaceModel", "isThere", "[Z", true)
  | 53 => ("KeepOurPlaceModel", "sorts", "[I", true)
  | 54 => ("KeepOurPlaceModel", "sheetSize", "[I", true)
  | _ => ("KeepOurPlaceModel", "items", "[I", true)
def tyX9 : Nat → FieldType := fun k => match k with
  | 0 => .int
  | 1 => .array .int
  | 2 => .array .int
  | 3 => .int
  | 4 => .int
  | 5 => .array .int
  | 6 => .int
  | 7 => .array .int
  | 8 => .array .int
  | 9 => .array .int
  | 10 => .int
  | 11 => .int
  | 12 => .int
  | 13 => .array .int
  | 14 => .array .int
  | 15 => .array .int
  | 16 => .int
  | 17 => .int
  | 18 => .int
  | 19 => .int
  | 20 => .int
  | 21 => .int
  | 22 => .int
  | 23 => .int
  | 24 => .int
  | 25 => .int
  | 26 => .int
  | 27 => .int
  | 28 => .long
  | 29 => .int
  | 30 => .boolean
  | 31 => .int
  | 32 => .array .int
  | 33 => .array .int
  | 34 => .array .int
  | 35 => .int
  | 36 => .int
  | 37 => .array .int
  | 38 => .int
  | 39 => .array .int
  | 40 => .int
  | 41 => .int
  | 42 => .boolean
  | 43 => .int
  | 44 => .int
  | 45 => .array .int
  | 46 => .array .int
  | 47 => .int
  | 48 => .int
  | 49 => .int
  | 50 => .int
  | 51 => .int
  | 52 => .array .boolean
  | 53 => .array .int
  | 54 => .array .int
  | _ => .array .int
abbrev wsX90 : List Cond := u_ws RX9 TX9 56
theorem nmX9 : ∀ a, a < 56 → ∀ b, b < 56 → a ≠ b → (TX9 a).2.1 ≠ (TX9 b).2.1 := by decide +kernel
theorem tyX9_ok : ∀ k, k < 56 → parseFieldDescriptor (TX9 k).2.2.1 = some (tyX9 k) := by decide +kernel
abbrev cX9_in : ByteArray := prog_11_method_2_code
def yX9_in : MethodName := ⟨RX9, "in", "(JJJ)Z"⟩
abbrev cX9_within : ByteArray := prog_11_method_3_code
def yX9_within : MethodName := ⟨RX9, "within", "(III)I"⟩
abbrev cX9_init : ByteArray := prog_11_method_4_code
def yX9_init : MethodName := ⟨RX9, "<init>", "()V"⟩
abbrev cX9_spell : ByteArray := prog_11_method_5_code
def yX9_spell : MethodName := ⟨RX9, "spell", "(IIIIIIIII)V"⟩
abbrev cX9_isOne : ByteArray := prog_11_method_6_code
def yX9_isOne : MethodName := ⟨RX9, "isOne", "(I)Z"⟩
abbrev cX9_isThing : ByteArray := prog_11_method_7_code
def yX9_isThing : MethodName := ⟨RX9, "isThing", "(I)Z"⟩
abbrev cX9_customer : ByteArray := prog_11_method_8_code
def yX9_customer : MethodName := ⟨RX9, "customer", "(II)I"⟩
abbrev cX9_thing : ByteArray := prog_11_method_9_code
def yX9_thing : MethodName := ⟨RX9, "thing", "(II)I"⟩
abbrev cX9_set : ByteArray := prog_11_method_10_code
def yX9_set : MethodName := ⟨RX9, "set", "(III)I"⟩
abbrev cX9_told : ByteArray := prog_11_method_11_code
def yX9_told : MethodName := ⟨RX9, "told", "(II)I"⟩
abbrev cX9_serve : ByteArray := prog_11_method_12_code
def yX9_serve : MethodName := ⟨RX9, "serve", "()I"⟩
abbrev cX9_feed : ByteArray := prog_11_method_13_code
def yX9_feed : MethodName := ⟨RX9, "feed", "(I)I"⟩
abbrev cX9_byteAt : ByteArray := prog_11_method_14_code
def yX9_byteAt : MethodName := ⟨RX9, "byteAt", "(I)I"⟩
abbrev cX9_next : ByteArray := prog_11_method_15_code
def yX9_next : MethodName := ⟨RX9, "next", "()V"⟩
abbrev cX9_fail : ByteArray := prog_11_method_16_code
def yX9_fail : MethodName := ⟨RX9, "fail", "()V"⟩
abbrev cX9_isLetter : ByteArray := prog_11_method_17_code
def yX9_isLetter : MethodName := ⟨RX9, "isLetter", "(II)Z"⟩
abbrev cX9_isWord : ByteArray := prog_11_method_18_code
def yX9_isWord : MethodName := ⟨RX9, "isWord", "(IIIIIIII)Z"⟩
abbrev cX9_isSign : ByteArray := prog_11_method_19_code
def yX9_isSign : MethodName := ⟨RX9, "isSign", "(I)Z"⟩
abbrev cX9_opens : ByteArray := prog_11_method_20_code
def yX9_opens : MethodName := ⟨RX9, "opens", "()Z"⟩
abbrev cX9_name : ByteArray := prog_11_method_21_code
def yX9_name : MethodName := ⟨RX9, "name", "()I"⟩
abbrev cX9_atom : ByteArray := prog_11_method_22_code
def yX9_atom : MethodName := ⟨RX9, "atom", "()I"⟩
abbrev cX9_term : ByteArray := prog_11_method_23_code
def yX9_term : MethodName := ⟨RX9, "term", "()I"⟩
abbrev cX9_added : ByteArray := prog_11_method_24_code
def yX9_added : MethodName := ⟨RX9, "added", "()I"⟩
abbrev cX9_not : ByteArray := prog_11_method_25_code
def yX9_not : MethodName := ⟨RX9, "not", "()I"⟩
abbrev cX9_both : ByteArray := prog_11_method_26_code
def yX9_both : MethodName := ⟨RX9, "both", "()I"⟩
abbrev cX9_either : ByteArray := prog_11_method_27_code
def yX9_either : MethodName := ⟨RX9, "either", "()I"⟩
abbrev cX9_part : ByteArray := prog_11_method_28_code
def yX9_part : MethodName := ⟨RX9, "part", "(Z)I"⟩
abbrev cX9_read : ByteArray := prog_11_method_29_code
def yX9_read : MethodName := ⟨RX9, "read", "(II)I"⟩
abbrev cX9_text : ByteArray := prog_11_method_30_code
def yX9_text : MethodName := ⟨RX9, "text", "()I"⟩
abbrev cX9_force : ByteArray := prog_11_method_31_code
def yX9_force : MethodName := ⟨RX9, "force", "(I)I"⟩
abbrev cX9_says : ByteArray := prog_11_method_32_code
def yX9_says : MethodName := ⟨RX9, "says", "(IIIII)I"⟩
abbrev cX9_secondsOf : ByteArray := prog_11_method_33_code
def yX9_secondsOf : MethodName := ⟨RX9, "secondsOf", "(I)I"⟩
abbrev cX9_mindsOf : ByteArray := prog_11_method_34_code
def yX9_mindsOf : MethodName := ⟨RX9, "mindsOf", "(II)I"⟩
abbrev cX9_gathers : ByteArray := prog_11_method_35_code
def yX9_gathers : MethodName := ⟨RX9, "gathers", "()V"⟩
abbrev cX9_steps : ByteArray := prog_11_method_36_code
def yX9_steps : MethodName := ⟨RX9, "steps", "(II)I"⟩
abbrev cX9_gainOf : ByteArray := prog_11_method_37_code
def yX9_gainOf : MethodName := ⟨RX9, "gainOf", "(II)I"⟩
abbrev cX9_turn : ByteArray := prog_11_method_38_code
def yX9_turn : MethodName := ⟨RX9, "turn", "()I"⟩
abbrev cX9_backOf : ByteArray := prog_11_method_39_code
def yX9_backOf : MethodName := ⟨RX9, "backOf", "()I"⟩
abbrev cX9_worthOf : ByteArray := prog_11_method_40_code
def yX9_worthOf : MethodName := ⟨RX9, "worthOf", "()I"⟩
abbrev cX9_digitsOf : ByteArray := prog_11_method_41_code
def yX9_digitsOf : MethodName := ⟨RX9, "digitsOf", "()I"⟩
abbrev cX9_lays : ByteArray := prog_11_method_42_code
def yX9_lays : MethodName := ⟨RX9, "lays", "(II)Z"⟩
abbrev cX9_errand : ByteArray := prog_11_method_43_code
def yX9_errand : MethodName := ⟨RX9, "errand", "(II)I"⟩
abbrev cX9_nearest : ByteArray := prog_11_method_44_code
def yX9_nearest : MethodName := ⟨RX9, "nearest", "(I)I"⟩
abbrev cX9_goesOn : ByteArray := prog_11_method_45_code
def yX9_goesOn : MethodName := ⟨RX9, "goesOn", "(IIIII)V"⟩
abbrev cX9_seeks : ByteArray := prog_11_method_46_code
def yX9_seeks : MethodName := ⟨RX9, "seeks", "(I)I"⟩
abbrev cX9_allThings : ByteArray := prog_11_method_47_code
def yX9_allThings : MethodName := ⟨RX9, "allThings", "()I"⟩
abbrev cX9_best : ByteArray := prog_11_method_48_code
def yX9_best : MethodName := ⟨RX9, "best", "(I)I"⟩
abbrev cX9_latest : ByteArray := prog_11_method_49_code
def yX9_latest : MethodName := ⟨RX9, "latest", "(II)I"⟩
abbrev cX9_leave : ByteArray := prog_11_method_50_code
def yX9_leave : MethodName := ⟨RX9, "leave", "()I"⟩
abbrev cX9_more : ByteArray := prog_11_method_51_code
def yX9_more : MethodName := ⟨RX9, "more", "(I)I"⟩
abbrev cX9_stand : ByteArray := prog_11_method_52_code
def yX9_stand : MethodName := ⟨RX9, "stand", "(I)I"⟩
abbrev cX9_swaps : ByteArray := prog_11_method_53_code
def yX9_swaps : MethodName := ⟨RX9, "swaps", "(II)V"⟩
abbrev cX9_change : ByteArray := prog_11_method_54_code
def yX9_change : MethodName := ⟨RX9, "change", "(I)I"⟩
abbrev cX9_lineOf : ByteArray := prog_11_method_55_code
def yX9_lineOf : MethodName := ⟨RX9, "lineOf", "(I)I"⟩
abbrev cX9_lines : ByteArray := prog_11_method_56_code
def yX9_lines : MethodName := ⟨RX9, "lines", "(I)I"⟩
abbrev cX9_likely : ByteArray := prog_11_method_57_code
def yX9_likely : MethodName := ⟨RX9, "likely", "(I)J"⟩
abbrev cX9_orders : ByteArray := prog_11_method_58_code
def yX9_orders : MethodName := ⟨RX9, "orders", "(II)V"⟩
abbrev cX9_slip : ByteArray := prog_11_method_59_code
def yX9_slip : MethodName := ⟨RX9, "slip", "(II)I"⟩
abbrev cX9_ownOf : ByteArray := prog_11_method_60_code
def yX9_ownOf : MethodName := ⟨RX9, "ownOf", "(II)J"⟩
abbrev cX9_served : ByteArray := prog_11_method_61_code
def yX9_served : MethodName := ⟨RX9, "served", "(II)I"⟩
abbrev cX9_film : ByteArray := prog_11_method_62_code
def yX9_film : MethodName := ⟨RX9, "film", "(II)I"⟩
abbrev cX9_draws : ByteArray := prog_11_method_63_code
def yX9_draws : MethodName := ⟨RX9, "draws", "(I)I"⟩
abbrev cX9_drawn : ByteArray := prog_11_method_64_code
def yX9_drawn : MethodName := ⟨RX9, "drawn", "(I)I"⟩
abbrev cX9_chance : ByteArray := prog_11_method_65_code
def yX9_chance : MethodName := ⟨RX9, "chance", "(III)J"⟩
abbrev cX9_image : ByteArray := prog_11_method_66_code
def yX9_image : MethodName := ⟨RX9, "image", "()I"⟩
abbrev cX9_back : ByteArray := prog_11_method_67_code
def yX9_back : MethodName := ⟨RX9, "back", "()I"⟩
abbrev cX9_count : ByteArray := prog_11_method_68_code
def yX9_count : MethodName := ⟨RX9, "count", "(I)I"⟩
abbrev cX9_isSheet : ByteArray := prog_11_method_69_code
def yX9_isSheet : MethodName := ⟨RX9, "isSheet", "(I)Z"⟩
abbrev cX9_sheet : ByteArray := prog_11_method_70_code
def yX9_sheet : MethodName := ⟨RX9, "sheet", "(III)I"⟩
abbrev cX9_cell : ByteArray := prog_11_method_71_code
def yX9_cell : MethodName := ⟨RX9, "cell", "(III)I"⟩
abbrev cX9_copy : ByteArray := prog_11_method_72_code
def yX9_copy : MethodName := ⟨RX9, "copy", "(IIIII)I"⟩
abbrev cX9_customers : ByteArray := prog_11_method_73_code
def yX9_customers : MethodName := ⟨RX9, "customers", "(IIII)I"⟩
abbrev cX9_over : ByteArray := prog_11_method_74_code
def yX9_over : MethodName := ⟨RX9, "over", "(I)I"⟩
abbrev cX9_taken : ByteArray := prog_11_method_75_code
def yX9_taken : MethodName := ⟨RX9, "taken", "(II)I"⟩
def RJ0 : String := "java/lang/String"
abbrev cJ0_length_8abf5 : ByteArray := prog_14_method_54_code
def yJ0_length_8abf5 : MethodName := ⟨RJ0, "length", "()I"⟩
abbrev cJ0_charAt_5068e : ByteArray := prog_14_method_56_code
def yJ0_charAt_5068e : MethodName := ⟨RJ0, "charAt", "(I)C"⟩
abbrev cJ0_indexOf_0f7a4 : ByteArray := prog_14_method_79_code
def yJ0_indexOf_0f7a4 : MethodName := ⟨RJ0, "indexOf", "(I)I"⟩
abbrev cJ0_indexOf_7cf53 : ByteArray := prog_14_method_80_code
def yJ0_indexOf_7cf53 : MethodName := ⟨RJ0, "indexOf", "(II)I"⟩
abbrev cJ0_coder_7d493 : ByteArray := prog_14_method_152_code
def yJ0_coder_7d493 : MethodName := ⟨RJ0, "coder", "()B"⟩
abbrev cJ0_isLatin1_aae02 : ByteArray := prog_14_method_154_code
def yJ0_isLatin1_aae02 : MethodName := ⟨RJ0, "isLatin1", "()Z"⟩
abbrev cJ0_checkIndex_df160 : ByteArray := prog_14_method_155_code
def yJ0_checkIndex_df160 : MethodName := ⟨RJ0, "checkIndex", "(II)V"⟩
abbrev cJ0_checkBoundsBeginEnd_23922 : ByteArray := prog_14_method_158_code
def yJ0_checkBoundsBeginEnd_23922 : MethodName := ⟨RJ0, "checkBoundsBeginEnd", "(III)V"⟩
def RJ1 : String := "java/lang/StringLatin1"
abbrev cJ1_charAt_3b067 : ByteArray := prog_15_method_2_code
def yJ1_charAt_3b067 : MethodName := ⟨RJ1, "charAt", "([BI)C"⟩
abbrev cJ1_canEncode_9a6ad : ByteArray := prog_15_method_4_code
def yJ1_canEncode_9a6ad : MethodName := ⟨RJ1, "canEncode", "(I)Z"⟩
abbrev cJ1_indexOf_4cfef : ByteArray := prog_15_method_22_code
def yJ1_indexOf_4cfef : MethodName := ⟨RJ1, "indexOf", "([BIII)I"⟩
abbrev cJ1_indexOfChar_4cfef : ByteArray := prog_15_method_23_code
def yJ1_indexOfChar_4cfef : MethodName := ⟨RJ1, "indexOfChar", "([BIII)I"⟩
def RJ3 : String := "jdk/internal/util/Preconditions"
abbrev cJ3_checkIndex_8e157 : ByteArray := prog_18_method_11_code
def yJ3_checkIndex_8e157 : MethodName := ⟨RJ3, "checkIndex", "(IILjava/util/function/BiFunction;)I"⟩
abbrev cJ3_checkFromToIndex_8c36e : ByteArray := prog_18_method_12_code
def yJ3_checkFromToIndex_8c36e : MethodName := ⟨RJ3, "checkFromToIndex", "(IIILjava/util/function/BiFunction;)I"⟩
abbrev classes : List vw_C := [(RX0, TX0, 16), (RX1, TX1, 11), (RX2, TX2, 6), (RX3, TX3, 12), (RX4, TX4, 7), (RX5, TX5, 3), (RX6, TX6, 4), (RX7, TX7, 2), (RX8, TX8, 8), (RX9, TX9, 56)]
/-- the shapes of the cells: a row of ints (0) or booleans (1) with its length, a row of rows (2 + the first of them), an object (its slots: a reference that stays, an int, a long) -/
abbrev Shp : Type := (Nat × Nat) ⊕ (Nat × List Value)
/-- the class' own world, and the reference's -/
def shA : List Shp := [.inr (8, [.ref 1, .ref 5, .ref 9, .ref 16, .ref 33, .ref 34, .ref 42, .ref 50]), .inr (2, [.ref 2, .ref 3, .ref 4, .int 0, .int 0, .int 0]), .inl (0, 8), .inl (0, 8), .inl (0, 8), .inr (6, [.ref 6, .ref 7, .ref 8, .int 0]), .inl (0, 6), .inl (0, 6), .inl (0, 6), .inr (3, [.ref 10, .int 0, .ref 11, .ref 12, .ref 13, .int 0, .int 0, .int 0, .int 0, .ref 14, .int 0, .ref 15]), .inl (0, 160), .inl (0, 161), .inl (0, 161), .inl (0, 161), .inl (0, 160), .inl (0, 4), .inr (4, [.ref 1, .ref 17, .ref 24, .ref 31, .ref 32, .int 0, .int 0]), .inl (20, 6), .inl (0, 160), .inl (0, 160), .inl (0, 160), .inl (0, 160), .inl (0, 160), .inl (0, 160), .inl (27, 6), .inl (0, 4), .inl (0, 4), .inl (0, 4), .inl (0, 4), .inl (0, 4), .inl (0, 4), .inl (0, 6), .inl (0, 160), .inr (7, [.ref 1, .ref 16]), .inr (0, [.ref 1, .ref 5, .ref 33, .ref 35, .ref 36, .ref 37, .int 0, .ref 38, .int 0, .ref 39, .ref 40, .ref 41, .int 0, .int 0, .int 0, .int 0]), .inl (0, 7), .inl (0, 9), .inl (0, 9), .inl (0, 6), .inl (0, 64), .inl (0, 64), .inl (0, 64), .inr (5, [.ref 43, .ref 44, .ref 45]), .inl (0, 4), .inl (0, 4), .inl (48, 4), .inl (0, 40), .inl (0, 40), .inl (0, 40), .inl (0, 40), .inr (1, [.int 0, .int 0, .int 0, .int 0, .int 0, .int 0, .ref 51, .ref 52, .ref 53, .ref 54, .ref 55]), .inl (0, 8), .inl (0, 8), .inl (0, 6), .inl (0, 6), .inl (0, 6)]
theorem shA_length : shA.length = 56 := rfl
theorem shA_ok : ∀ (cell ci : Nat) (tm : List Value), shA[cell]? = some (.inr (ci, tm)) → tm.length ≤ 1000 := by
  intro cell ci tm h
  have h2 := List.mem_of_getElem? h
  have h3 : shA.all (fun S => match S with | .inl _ => true | .inr (_, t) => decide (t.length ≤ 1000)) = true := by decide +kernel
  have h4 := List.all_eq_true.mp h3 _ h2
  simpa using h4
def shB : List Shp := [.inr (9, [.int 0, .ref 1, .ref 2, .int 0, .int 0, .ref 3, .int 0, .ref 4, .ref 5, .ref 6, .int 0, .int 0, .int 0, .ref 7, .ref 8, .ref 9, .int 0, .int 0, .int 0, .int 0, .int 0, .int 0, .int 0, .int 0, .int 0, .int 0, .int 0, .int 0, .long 0, .int 0, .int 0, .int 0, .ref 10, .ref 11, .ref 12, .int 0, .int 0, .ref 13, .int 0, .ref 14, .int 0, .int 0, .int 0, .int 0, .int 0, .ref 15, .ref 16, .int 0, .int 0, .int 0, .int 0, .int 0, .ref 17, .ref 18, .ref 19, .ref 20]), .inl (0, 960), .inl (0, 6), .inl (0, 160), .inl (0, 8), .inl (0, 8), .inl (0, 8), .inl (0, 6), .inl (0, 6), .inl (0, 6), .inl (0, 8), .inl (0, 8), .inl (0, 7), .inl (0, 6), .inl (0, 6), .inl (0, 16), .inl (0, 18), .inl (1, 4), .inl (0, 4), .inl (0, 4), .inl (0, 160)]
theorem shB_length : shB.length = 21 := rfl
theorem shB_ok : ∀ (cell ci : Nat) (tm : List Value), shB[cell]? = some (.inr (ci, tm)) → tm.length ≤ 1000 := by
  intro cell ci tm h
  have h2 := List.mem_of_getElem? h
  have h3 : shB.all (fun S => match S with | .inl _ => true | .inr (_, t) => decide (t.length ≤ 1000)) = true := by decide +kernel
  have h4 := List.all_eq_true.mp h3 _ h2
  simpa using h4
def txJS0 : String := "takes 3 ; lets 10 + wait * 5 ; walks 2 + items ;"
def txJS1 : String := "items number place ours wait many takes lets walks or and not "
def txJS2 : String := "();+-*<="
def kJS2 : Nat := 81
def lenJS : List Nat := [48, 62, 8]
def bytJS : List (List Int32) := [[116, 97, 107, 101, 115, 32, 51, 32, 59, 32, 108, 101, 116, 115, 32, 49, 48, 32, 43, 32, 119, 97, 105, 116, 32, 42, 32, 53, 32, 59, 32, 119, 97, 108, 107, 115, 32, 50, 32, 43, 32, 105, 116, 101, 109, 115, 32, 59], [105, 116, 101, 109, 115, 32, 110, 117, 109, 98, 101, 114, 32, 112, 108, 97, 99, 101, 32, 111, 117, 114, 115, 32, 119, 97, 105, 116, 32, 109, 97, 110, 121, 32, 116, 97, 107, 101, 115, 32, 108, 101, 116, 115, 32, 119, 97, 108, 107, 115, 32, 111, 114, 32, 97, 110, 100, 32, 110, 111, 116, 32], [40, 41, 59, 43, 45, 42, 60, 61]]
/-! THE ABSTRACT LAYER: after the constructors no object is made any more, so the world is a fixed list of cells; a memory M gives
    cell by cell and slot by slot the ints in them; references never change (the shapes shL tell them). XJ is the kit's W over such a memory. -/
abbrev Mem : Type := Nat → Nat → Int32
def up2 (M : Mem) (c k : Nat) (v : Int32) : Mem := fun a b => if a = c then (if b = k then v else M a b) else M a b
def upA (M : Mem) (c : Nat) (f : Nat → Int32) : Mem := fun a => if a = c then f else M a
def gL (M : Mem) (c k : Nat) : Int64 := Int64.ofBitVec (((M c (k + 1000)).toBitVec ++ (M c k).toBitVec : BitVec (32 + 32)))
def sL (M : Mem) (c k : Nat) (v : Int64) : Mem := up2 (up2 M c k (Int32.ofBitVec (v.toBitVec.extractLsb' 0 32))) c (k + 1000) (Int32.ofBitVec (v.toBitVec.extractLsb' 32 32))
abbrev GG : Type := va_G × (Nat → Nat) × ClassId × ClassId × ClassId
def cv (ad : Nat → Nat) (v : Value) : Value := match v with
  | .ref c => .ref (ad c)
  | w => w
def cvs (ad : Nat → Nat) (st : List Value) : List Value := st.map (cv ad)
def cvl (ad : Nat → Nat) (L : List (Nat × Value)) : List (Nat × Value) := L.map (fun q => (q.1, cv ad q.2))
/-- a slot of an object, by its template: a reference that stays, an int, a long -/
def fv (ad : Nat → Nat) (M : Mem) (c k : Nat) (w : Value) : Value := match w with
  | .ref j => .ref (ad j)
  | .int _ => .int (M c k)
  | .long _ => .long (gL M c k)
  | w => w
def cel (G : GG) (M : Mem) (c : Nat) (S : Shp) : va_E := match S with
  | .inl (0, n) => .inl (G.2.2.1, n, .inl (M c))
  | .inl (1, n) => .inl (G.2.2.2.1, n, .inl (M c))
  | .inl (b + 2, n) => .inl (G.2.2.2.2, n, .inr (.inr (.inr (.inr (fun i => if i < n then some (G.2.1 (b + i)) else none)))))
  | .inr (ci, tm) => .inr (ci, tm.mapIdx (fun k w => fv G.2.1 M c k w))
def wl (sh : List Shp) (G : GG) (M : Mem) : va_W := sh.mapIdx (fun c S => (G.2.1 c, cel G M c S))
def AW (sh : List Shp) (ad : Nat → Nat) : Nat → Prop := fun q => ∃ c, c < sh.length ∧ ad c = q
def Inj (sh : List Shp) (ad : Nat → Nat) : Prop := (∀ (cell ci : Nat) (tm : List Value), sh[cell]? = some (.inr (ci, tm)) → tm.length ≤ 1000) ∧ ∀ i j, i < sh.length → j < sh.length → ad i = ad j → i = j
def TYS (G : GG) : List (ClassId × FieldType) := [(G.2.2.1, .int), (G.2.2.2.1, .boolean), (G.2.2.2.2, .array .int)]
theorem wl_get {sh : List Shp} {G : GG} {M : Mem} {c : Nat} {S : Shp} (h : sh[c]? = some S) : (wl sh G M)[c]? = some (G.2.1 c, cel G M c S) := by
  unfold wl
  rw [List.getElem?_mapIdx, h]
  rfl
theorem cel_cong {G : GG} {M M' : Mem} {c : Nat} {S : Shp} (h : M' c = M c) : cel G M' c S = cel G M c S := by
  unfold cel
  split
  · rw [h]
  · rw [h]
  · rfl
  · rename_i ci tm
    refine congrArg (fun z => (Sum.inr (ci, z) : va_E)) (List.mapIdx_eq_mapIdx_iff.mpr ?_)
    intro i hi
    unfold fv gL
    rw [h]
theorem cel_obj {G : GG} {M : Mem} {c ci : Nat} {tm : List Value} : cel G M c (.inr (ci, tm)) = .inr (ci, tm.mapIdx (fun k w => fv G.2.1 M c k w)) := rfl
theorem wl_set {sh : List Shp} {G : GG} {M M' : Mem} {c : Nat} {S : Shp} (h : sh[c]? = some S) (ho : ∀ d, d ≠ c → M' d = M d) : (wl sh G M).set c (G.2.1 c, cel G M' c S) = wl sh G M' := by
  apply List.ext_getElem?
  intro d
  unfold wl
  by_cases e : d = c
  · subst e
    have hl : d < (sh.mapIdx (fun c S => (G.2.1 c, cel G M c S))).length := by
      rw [List.length_mapIdx]
      exact (List.getElem?_eq_some_iff.mp h).1
    rw [List.getElem?_set_self hl, List.getElem?_mapIdx, h]
    rfl
  · rw [List.getElem?_set_ne (Ne.symm e), List.getElem?_mapIdx, List.getElem?_mapIdx]
    cases hs : sh[d]? with
    | none => rfl
    | some T => simp only [Option.map_some]; rw [cel_cong (ho d e)]
theorem wl_D {sh : List Shp} {G : GG} {M : Mem} (hi : Inj sh G.2.1) : va_D (AW sh G.2.1) (wl sh G M) := by
  have key : ∀ (k : Nat) (q : Nat × va_E), (wl sh G M)[k]? = some q → k < sh.length ∧ q.1 = G.2.1 k := by
    intro k q hk
    unfold wl at hk
    rw [List.getElem?_mapIdx] at hk
    cases hs : sh[k]? with
    | none => rw [hs] at hk; cases hk
    | some T =>
      rw [hs] at hk
      cases hk
      exact ⟨(List.getElem?_eq_some_iff.mp hs).1, rfl⟩
  refine ⟨fun i j x y hx hy hxy => ?_, fun k q hk => ?_⟩
  · obtain ⟨a1, a2⟩ := key i x hx
    obtain ⟨b1, b2⟩ := key j y hy
    exact hi.2 i j a1 b1 (by rw [← a2, ← b2]; exact hxy)
  · obtain ⟨a1, a2⟩ := key k q hk
    exact ⟨k, a1, a2.symm⟩
/-- the tables' words that last, and those of nest mates -/
def TBL : List Cond := lw_tbl.filter goodWord
theorem ao_vm {ty : FieldType} {A A' : Array Value} {u U : State} (h : u.vm = U.vm) (hb : (Cond.arrayOver ty).before A u = true) : (Cond.arrayOver ty).before A' U = true := by
  unfold Cond.before Cond.holds at *
  simp only [Cond.value] at *
  rw [← h]
  exact hb
theorem ao_warm {ty : FieldType} {A A' : Array Value} {s U : State} (hW : s.WarmedH U.vm) (hb : (Cond.arrayOver ty).before A s = true) : (Cond.arrayOver ty).before A' U = true := by
  have e := Cond.arrayOver_setVmC (args := A) hW.alike ty
  rw [← e] at hb
  exact ao_vm (A := A) (u := s.setVm U.vm) rfl hb
def isNW : Cond → Bool
  | .fieldLinkNest .. => true
  | .methodLinkNest .. => true
  | .arrayOver _ => true
  | _ => false
def NTB : List Cond := tables_1.filter isNW
def NW (U : State) : Prop := ∀ w ∈ NTB, va_Nw w U
theorem NW.warm {s U : State} (hW : s.WarmedH U.vm) (h : NW s) : NW U := by
  intro w hw
  have h1 := (List.mem_filter.mp hw).2
  have h2 := h w hw
  cases w <;> first | exact va_Nw.warmF hW h2 | exact va_Nw.warmM hW h2 | exact ao_warm (A := #[]) hW h2 | (simp [isNW] at h1)
theorem NW.same {u U : State} (hv : u.vm = U.vm) (h : NW u) : NW U := by
  intro w hw
  have h1 := (List.mem_filter.mp hw).2
  have h2 := h w hw
  cases w <;> first | exact va_Nw.same rfl hv h2 | exact ao_vm (A := #[]) hv h2 | (simp [isNW] at h1)
theorem tmem {w : Cond} (k : Nat) (h : tables_1[k]? = some w) (g : goodWord w = true) : w ∈ TBL :=
  List.mem_filter.mpr ⟨List.mem_append_right _ (List.mem_of_getElem? h), g⟩
theorem smem {w : Cond} (k : Nat) (h : (k2_sels lw_privs)[k]? = some w) (g : goodWord w = true) : w ∈ TBL :=
  List.mem_filter.mpr ⟨List.mem_append_left _ (List.mem_of_getElem? h), g⟩
theorem nmem {w : Cond} (k : Nat) (h : tables_1[k]? = some w) (g : isNW w = true) : w ∈ NTB :=
  List.mem_filter.mpr ⟨List.mem_of_getElem? h, g⟩
theorem tgood {w : Cond} (h : w ∈ TBL) : (w.onTables && w.keeps) = true ∨ ∃ ty, w = .arrayClass ty := good_of_word (List.mem_filter.mp h).2
theorem tsub {ws : List Cond} (h : ∀ w ∈ ws, w ∈ TBL) : GoodIn TBL ws := fun w hw => ⟨h w hw, tgood (h w hw)⟩
/-- what stands outside of the world and stays: a static row, the String constants -/
def underL : List Int32 := [-1, 0, 0, 1, 2, 0]
def EXT (sh : List Shp) (G : GG) (U : State) (H : Heap) : Prop :=
  va_Z "KeepOurPlace" "UNDER" "[I" (.ref (G.2.1 200)) (AW sh G.2.1) U H ∧ va_T .int (G.2.1 200) 6 (fun j => .int (underL.getD j 0)) (AW sh G.2.1) U H ∧
  vk_S 3 lenJS bytJS (fun i => G.2.1 (201 + i)) (fun i => G.2.1 (211 + i)) (AW sh G.2.1) U H ∧
  (vk_R "KeepOurPlace" 71 txJS0 (G.2.1 201) U ∧ vk_R "KeepOurPlace$Reader" 91 txJS1 (G.2.1 202) U ∧ vk_R "KeepOurPlace$Reader" kJS2 txJS2 (G.2.1 203) U) ∧
  va_Z "java/lang/String" "COMPACT_STRINGS" "Z" (.int 1) (AW sh G.2.1) U H ∧ va_Z "jdk/internal/util/Preconditions" "SIOOBE_FORMATTER" "Ljava/util/function/BiFunction;" (.ref (G.2.1 204)) (AW sh G.2.1) U H
theorem EXT.warm {sh : List Shp} {G : GG} {s U : State} (hW : s.WarmedH U.vm) (h : EXT sh G s s.heap) (hq : ∀ a : Nat, a < s.heap.size → ¬ AW sh G.2.1 a → U.heap[a]? = s.heap[a]?) : EXT sh G U U.heap :=
  ⟨va_Z.moved hW.alike (h.1.kept hq), va_T.moved hW.alike (h.2.1.kept hq), vk_S.moved hW.alike (h.2.2.1.kept hq), ⟨h.2.2.2.1.1.warm hW, h.2.2.2.1.2.1.warm hW, h.2.2.2.1.2.2.warm hW⟩, va_Z.moved hW.alike (h.2.2.2.2.1.kept hq), va_Z.moved hW.alike (h.2.2.2.2.2.kept hq)⟩
theorem EXT.call {sh : List Shp} {G : GG} {u : State} {g : JFrame} {mk : MethodId} {a : Array Value} (h : EXT sh G u u.heap) : EXT sh G (u.calling g mk a) (u.calling g mk a).heap :=
  ⟨va_Z.moved (Vm.Alike.refl u.vm) h.1, va_T.moved (Vm.Alike.refl u.vm) h.2.1, vk_S.moved (Vm.Alike.refl u.vm) h.2.2.1, ⟨vk_R.same rfl h.2.2.2.1.1, vk_R.same rfl h.2.2.2.1.2.1, vk_R.same rfl h.2.2.2.1.2.2⟩, va_Z.moved (Vm.Alike.refl u.vm) h.2.2.2.2.1, va_Z.moved (Vm.Alike.refl u.vm) h.2.2.2.2.2⟩
/-- a method's contract: from memory M, with these arguments, it answers v and leaves M' -/
def PcX (sh : List Shp) (G : GG) (av : List Value) (M : Mem) : Array Value → State → Prop := fun a U => a = (cvs G.2.1 av).toArray ∧ va_P G.1 classes (wl sh G M) U.heap ∧ va_K G.1 classes (TYS G) U ∧ NW U ∧ EXT sh G U U.heap
def QcX (sh : List Shp) (G : GG) (v : Option Value) (M' : Mem) : Array Value → State → Outcome → State → Prop := fun _ st o t => o = .returned (v.map (cv G.2.1)) ∧ va_P G.1 classes (wl sh G M') t.heap ∧ va_F (AW sh G.2.1) st t
def rmX (d : Nat) : Room := { frames := d, cells := 0, slots := 0, locals := 100 * d }
def MetX (sh : List Shp) (l : Launch) (G : GG) (y : MethodName) (bytes : ByteArray) (mL : Nat) (ret : Option FieldType) (d : Nat) (av : List Value) (M : Mem) (r : Option Value × Mem) : Prop :=
  Met l y (.code y bytes mL ret :: TBL) (rmX d) (PcX sh G av M) (QcX sh G r.1 r.2) 0 0 (AW sh G.2.1)
/-- what a frame of a method knows -/
def FrP (sh : List Shp) (G : GG) (p : Program) (s : State) (m : MethodId) (args : Array Value) (c : Code) (own : String) (cc : ByteArray) (nL : Nat) : Prop :=
  p.tables.exec = Jvm.exec ∧ c.code = cc ∧ c.maxLocals = nL ∧ s.vm.findClass own = some m.cls ∧ (∀ w ∈ TBL, w.before args s = true) ∧ NW s ∧ va_K G.1 classes (TYS G) s ∧ Inj sh G.2.1 ∧ EXT sh G s s.heap
section XJ
variable {p : Program} {l : Launch} {e : Env} {R : Room} {s : State} {m : MethodId} {args : Array Value} {below : List Frame} {meth : Method} {c : Code} {ca sl : Nat} {Q : State → Prop}
variable {sh : List Shp} {G : GG} {own : String} {cc : ByteArray} {nL pc : Nat} {L : List (Nat × Value)} {st : List Value} {M : Mem}
def XJ (sh : List Shp) (p : Program) (l : Launch) (e : Env) (R : Room) (s : State) (m : MethodId) (args : Array Value) (below : List Frame) (meth : Method) (c : Code) (ca sl : Nat) (G : GG) (nL : Nat) (Q : State → Prop) (pc : Nat) (L : List (Nat × Value)) (st : List Value) (M : Mem) : Prop :=
  ∀ (H : Heap) (locs : List Loc) (ls : Array Slot), va_P G.1 classes (wl sh G M) H → va_S (AW sh G.2.1) s.heap H locs → lv_has ls nL (cvl G.2.1 L) → W p l e R s m args below meth c H locs ca sl Q (F0 m pc ls (cvs G.2.1 st))
theorem cv_at {ad : Nat → Nat} {ls : Array Slot} {i : Nat} {v : Value} (hl : lv_has ls nL (cvl ad L)) (h : L.lookup i = some v) : ls[i]? = some (.val (cv ad v)) := by
  have hm : (i, v) ∈ L := by
    clear hl
    induction L with
    | nil => simp at h
    | cons q t ih =>
      obtain ⟨a, b⟩ := q
      rw [List.lookup_cons] at h
      cases hb : i == a with
      | true =>
        rw [hb] at h
        have e := beq_iff_eq.mp hb
        cases h
        subst e
        exact List.mem_cons_self
      | false =>
        rw [hb] at h
        exact List.mem_cons_of_mem _ (ih h)
  exact hl.2.2 (i, cv ad v) (List.mem_map.mpr ⟨(i, v), hm, rfl⟩)
theorem cv_cat (ad : Nat → Nat) (v : Value) : (cv ad v).category = v.category := by cases v <;> rfl
theorem cvs_cat (ad : Nat → Nat) (st : List Value) : ((cvs ad st).map fun v => v.category).sum = (st.map fun v => v.category).sum := by
  unfold cvs
  rw [List.map_map]
  congr 1
  apply List.map_congr_left
  intro v _
  exact cv_cat _ v
def ls1 (L : List (Nat × Value)) (i : Nat) (v : Value) : List (Nat × Value) := (i, v) :: L.filter (fun q => !(q.1 == i) && !(q.1 + 1 == i && q.2.category == 2))
def ls2 (L : List (Nat × Value)) (i : Nat) (v : Value) : List (Nat × Value) := (i, v) :: L.filter (fun q => !(q.1 == i) && (!(q.1 == i + 1) && !(q.1 + 1 == i && q.2.category == 2)))
theorem cvl_f1 (ad : Nat → Nat) (L : List (Nat × Value)) (i : Nat) : (cvl ad L).filter (fun q => !(q.1 == i) && !(q.1 + 1 == i && q.2.category == 2)) = cvl ad (L.filter (fun q => !(q.1 == i) && !(q.1 + 1 == i && q.2.category == 2))) := by
  unfold cvl
  rw [List.filter_map]
  congr 1
  apply List.filter_congr
  intro q _
  simp [Function.comp, cv_cat]
theorem cvl_f2 (ad : Nat → Nat) (L : List (Nat × Value)) (i : Nat) : (cvl ad L).filter (fun q => !(q.1 == i) && (!(q.1 == i + 1) && !(q.1 + 1 == i && q.2.category == 2))) = cvl ad (L.filter (fun q => !(q.1 == i) && (!(q.1 == i + 1) && !(q.1 + 1 == i && q.2.category == 2)))) := by
  unfold cvl
  rw [List.filter_map]
  congr 1
  apply List.filter_congr
  intro q _
  simp [Function.comp, cv_cat]
/-- fewer locals, or in another order -/
theorem X_sub {L' : List (Nat × Value)} (h : L'.all (fun q => L.lookup q.1 == some q.2) = true) (k : XJ sh p l e R s m args below meth c ca sl G nL Q pc L' st M) : XJ sh p l e R s m args below meth c ca sl G nL Q pc L st M := by
  intro H locs ls hP hS hl
  refine k H locs ls hP hS ⟨hl.1, hl.2.1, fun q hq => ?_⟩
  obtain ⟨q0, hq0, rfl⟩ := List.mem_map.mp hq
  have h1 := beq_iff_eq.mp (List.all_eq_true.mp h q0 hq0)
  exact cv_at hl h1
theorem cvl_pick (ad : Nat → Nat) (L : List (Nat × Value)) (ks : List Nat) : lv_pick (cvl ad L) ks = cvl ad (lv_pick L ks) := by
  unfold lv_pick cvl
  induction ks with
  | nil => rfl
  | cons a t ih =>
    rw [List.filterMap_cons, List.filterMap_cons, List.getElem?_map]
    cases L[a]? with
    | none => exact ih
    | some q => simp only [Option.map_some, List.map_cons]; rw [ih]
theorem X_pick {L' : List (Nat × Value)} (ks : List Nat) (h : lv_pick L ks = L') (k : XJ sh p l e R s m args below meth c ca sl G nL Q pc L' st M) : XJ sh p l e R s m args below meth c ca sl G nL Q pc L st M := by
  intro H locs ls hP hS hl
  refine k H locs ls hP hS (lv_sub hl ks ?_)
  subst h
  exact cvl_pick _ _ _
theorem X_iconst (F : FrP sh G p s m args c own cc nL) {n : Int} {v : Int32} (hd : decode cc pc = .ok (.iconst n, 1)) (hv : Int32.ofInt n = v) (k : XJ sh p l e R s m args below meth c ca sl G nL Q (pc + 1) L (.int v :: st) M) : XJ sh p l e R s m args below meth c ca sl G nL Q pc L st M :=
  fun H locs ls hP hS hl => lv_iconst F.1 F.2.1 hd hv (k H locs ls hP hS hl)
theorem X_bipush (F : FrP sh G p s m args c own cc nL) {n : Int} {v : Int32} (hd : decode cc pc = .ok (.bipush n, 2)) (hv : (Int8.ofInt n).toInt32 = v) (k : XJ sh p l e R s m args below meth c ca sl G nL Q (pc + 2) L (.int v :: st) M) : XJ sh p l e R s m args below meth c ca sl G nL Q pc L st M :=
  fun H locs ls hP hS hl => lv_bipush F.1 F.2.1 hd hv (k H locs ls hP hS hl)
theorem X_sipush (F : FrP sh G p s m args c own cc nL) {n : Int} {v : Int32} (hd : decode cc pc = .ok (.sipush n, 3)) (hv : (Int16.ofInt n).toInt32 = v) (k : XJ sh p l e R s m args below meth c ca sl G nL Q (pc + 3) L (.int v :: st) M) : XJ sh p l e R s m args below meth c ca sl G nL Q pc L st M :=
  fun H locs ls hP hS hl => lv_sipush F.1 F.2.1 hd hv (k H locs ls hP hS hl)
theorem X_lconst (F : FrP sh G p s m args c own cc nL) {n : Fin 2} {v : Int64} (hd : decode cc pc = .ok (.lconst n, 1)) (hv : Int64.ofNat (n : Nat) = v) (k : XJ sh p l e R s m args below meth c ca sl G nL Q (pc + 1) L (.long v :: st) M) : XJ sh p l e R s m args below meth c ca sl G nL Q pc L st M :=
  fun H locs ls hP hS hl => lv_lconst F.1 F.2.1 hd hv (k H locs ls hP hS hl)
theorem X_ldc (F : FrP sh G p s m args c own cc nL) {i : Nat} {v : Int32} (hw : Cond.constant own i v ∈ TBL) (hd : decode cc pc = .ok (.ldc i, 2)) (k : XJ sh p l e R s m args below meth c ca sl G nL Q (pc + 2) L (.int v :: st) M) : XJ sh p l e R s m args below meth c ca sl G nL Q pc L st M :=
  fun H locs ls hP hS hl => lv_ldc F.1 F.2.1 F.2.2.2.1 (F.2.2.2.2.1 _ hw) hd (k H locs ls hP hS hl)
theorem X_ldcw (F : FrP sh G p s m args c own cc nL) {i : Nat} {v : Int32} (hw : Cond.constant own i v ∈ TBL) (hd : decode cc pc = .ok (.ldc_w i, 3)) (k : XJ sh p l e R s m args below meth c ca sl G nL Q (pc + 3) L (.int v :: st) M) : XJ sh p l e R s m args below meth c ca sl G nL Q pc L st M :=
  fun H locs ls hP hS hl => lv_ldcw F.1 F.2.1 F.2.2.2.1 (F.2.2.2.2.1 _ hw) hd (k H locs ls hP hS hl)
theorem X_ldc2 (F : FrP sh G p s m args c own cc nL) {i : Nat} {v : Int64} (hw : Cond.constantLong own i v ∈ TBL) (hd : decode cc pc = .ok (.ldc2_w i, 3)) (k : XJ sh p l e R s m args below meth c ca sl G nL Q (pc + 3) L (.long v :: st) M) : XJ sh p l e R s m args below meth c ca sl G nL Q pc L st M :=
  fun H locs ls hP hS hl => lv_ldc2 F.1 F.2.1 F.2.2.2.1 (F.2.2.2.2.1 _ hw) hd (k H locs ls hP hS hl)
theorem X_iload_n (F : FrP sh G p s m args c own cc nL) {k0 : Fin 4} {x : Int32} (hd : decode cc pc = .ok (.iload_n k0, 1)) (h : L.lookup (k0 : Nat) = some (.int x)) (k : XJ sh p l e R s m args below meth c ca sl G nL Q (pc + 1) L (.int x :: st) M) : XJ sh p l e R s m args below meth c ca sl G nL Q pc L st M :=
  fun H locs ls hP hS hl => lv_iload_n F.1 F.2.1 hd rfl (cv_at hl h) (k H locs ls hP hS hl)
theorem X_iload (F : FrP sh G p s m args c own cc nL) {i : Nat} {x : Int32} (hd : decode cc pc = .ok (.iload i, 2)) (h : L.lookup i = some (.int x)) (k : XJ sh p l e R s m args below meth c ca sl G nL Q (pc + 2) L (.int x :: st) M) : XJ sh p l e R s m args below meth c ca sl G nL Q pc L st M :=
  fun H locs ls hP hS hl => lv_iload F.1 F.2.1 hd (cv_at hl h) (k H locs ls hP hS hl)
theorem X_lload_n (F : FrP sh G p s m args c own cc nL) {k0 : Fin 4} {x : Int64} (hd : decode cc pc = .ok (.lload_n k0, 1)) (h : L.lookup (k0 : Nat) = some (.long x)) (k : XJ sh p l e R s m args below meth c ca sl G nL Q (pc + 1) L (.long x :: st) M) : XJ sh p l e R s m args below meth c ca sl G nL Q pc L st M :=
  fun H locs ls hP hS hl => lv_lload_n F.1 F.2.1 hd rfl (cv_at hl h) (k H locs ls hP hS hl)
theorem X_lload (F : FrP sh G p s m args c own cc nL) {i : Nat} {x : Int64} (hd : decode cc pc = .ok (.lload i, 2)) (h : L.lookup i = some (.long x)) (k : XJ sh p l e R s m args below meth c ca sl G nL Q (pc + 2) L (.long x :: st) M) : XJ sh p l e R s m args below meth c ca sl G nL Q pc L st M :=
  fun H locs ls hP hS hl => lv_lload F.1 F.2.1 hd (cv_at hl h) (k H locs ls hP hS hl)
theorem X_aload_n (F : FrP sh G p s m args c own cc nL) {k0 : Fin 4} {x : Nat} (hd : decode cc pc = .ok (.aload_n k0, 1)) (h : L.lookup (k0 : Nat) = some (.ref x)) (k : XJ sh p l e R s m args below meth c ca sl G nL Q (pc + 1) L (.ref x :: st) M) : XJ sh p l e R s m args below meth c ca sl G nL Q pc L st M :=
  fun H locs ls hP hS hl => lv_aload_n F.1 F.2.1 hd rfl (cv_at hl h) (k H locs ls hP hS hl)
theorem X_aload (F : FrP sh G p s m args c own cc nL) {i : Nat} {x : Nat} (hd : decode cc pc = .ok (.aload i, 2)) (h : L.lookup i = some (.ref x)) (k : XJ sh p l e R s m args below meth c ca sl G nL Q (pc + 2) L (.ref x :: st) M) : XJ sh p l e R s m args below meth c ca sl G nL Q pc L st M :=
  fun H locs ls hP hS hl => lv_aload F.1 F.2.1 hd (cv_at hl h) (k H locs ls hP hS hl)
theorem X_istore_n (F : FrP sh G p s m args c own cc nL) {k0 : Fin 4} {x : Int32} {L' : List (Nat × Value)} (hd : decode cc pc = .ok (.istore_n k0, 1)) (hn : (k0 : Nat) < nL) (hl' : ls1 L (k0 : Nat) (.int x) = L') (k : XJ sh p l e R s m args below meth c ca sl G nL Q (pc + 1) L' st M) : XJ sh p l e R s m args below meth c ca sl G nL Q pc L (.int x :: st) M :=
  fun H locs ls hP hS hl => lv_istore_n (lv' := cvl G.2.1 L') F.1 F.2.1 hd rfl hl hn (by subst hl'; rw [cvl_f1]; rfl) (fun ls' hl2 => k H locs ls' hP hS hl2)
theorem X_istore (F : FrP sh G p s m args c own cc nL) {i : Nat} {x : Int32} {L' : List (Nat × Value)} (hd : decode cc pc = .ok (.istore i, 2)) (hn : i < nL) (hl' : ls1 L i (.int x) = L') (k : XJ sh p l e R s m args below meth c ca sl G nL Q (pc + 2) L' st M) : XJ sh p l e R s m args below meth c ca sl G nL Q pc L (.int x :: st) M :=
  fun H locs ls hP hS hl => lv_istore (lv' := cvl G.2.1 L') F.1 F.2.1 hd hl hn (by subst hl'; rw [cvl_f1]; rfl) (fun ls' hl2 => k H locs ls' hP hS hl2)
theorem X_lstore_n (F : FrP sh G p s m args c own cc nL) {k0 : Fin 4} {x : Int64} {L' : List (Nat × Value)} (hd : decode cc pc = .ok (.lstore_n k0, 1)) (hn : (k0 : Nat) + 1 < nL) (hl' : ls2 L (k0 : Nat) (.long x) = L') (k : XJ sh p l e R s m args below meth c ca sl G nL Q (pc + 1) L' st M) : XJ sh p l e R s m args below meth c ca sl G nL Q pc L (.long x :: st) M :=
  fun H locs ls hP hS hl => lv_lstore_n (lv' := cvl G.2.1 L') F.1 F.2.1 hd rfl hl hn (by subst hl'; rw [cvl_f2]; rfl) (fun ls' hl2 => k H locs ls' hP hS hl2)
theorem X_lstore (F : FrP sh G p s m args c own cc nL) {i : Nat} {x : Int64} {L' : List (Nat × Value)} (hd : decode cc pc = .ok (.lstore i, 2)) (hn : i + 1 < nL) (hl' : ls2 L i (.long x) = L') (k : XJ sh p l e R s m args below meth c ca sl G nL Q (pc + 2) L' st M) : XJ sh p l e R s m args below meth c ca sl G nL Q pc L (.long x :: st) M :=
  fun H locs ls hP hS hl => lv_lstore (lv' := cvl G.2.1 L') F.1 F.2.1 hd hl hn (by subst hl'; rw [cvl_f2]; rfl) (fun ls' hl2 => k H locs ls' hP hS hl2)
theorem X_astore_n (F : FrP sh G p s m args c own cc nL) {k0 : Fin 4} {x : Nat} {L' : List (Nat × Value)} (hd : decode cc pc = .ok (.astore_n k0, 1)) (hn : (k0 : Nat) < nL) (hl' : ls1 L (k0 : Nat) (.ref x) = L') (k : XJ sh p l e R s m args below meth c ca sl G nL Q (pc + 1) L' st M) : XJ sh p l e R s m args below meth c ca sl G nL Q pc L (.ref x :: st) M :=
  fun H locs ls hP hS hl => lv_astore_n (lv' := cvl G.2.1 L') F.1 F.2.1 hd rfl hl hn (by subst hl'; rw [cvl_f1]; rfl) (fun ls' hl2 => k H locs ls' hP hS hl2)
theorem X_astore (F : FrP sh G p s m args c own cc nL) {i : Nat} {x : Nat} {L' : List (Nat × Value)} (hd : decode cc pc = .ok (.astore i, 2)) (hn : i < nL) (hl' : ls1 L i (.ref x) = L') (k : XJ sh p l e R s m args below meth c ca sl G nL Q (pc + 2) L' st M) : XJ sh p l e R s m args below meth c ca sl G nL Q pc L (.ref x :: st) M :=
  fun H locs ls hP hS hl => lv_astore (lv' := cvl G.2.1 L') F.1 F.2.1 hd hl hn (by subst hl'; rw [cvl_f1]; rfl) (fun ls' hl2 => k H locs ls' hP hS hl2)
theorem lk_get {L : List (Nat × Value)} {i : Nat} {v : Value} (h : L.lookup i = some v) : ∃ k : Nat, L[k]? = some (i, v) := by
  induction L with
  | nil => simp at h
  | cons q t ih =>
    obtain ⟨a, b⟩ := q
    rw [List.lookup_cons] at h
    cases hb : i == a with
    | true =>
      rw [hb] at h
      have e := beq_iff_eq.mp hb
      cases h
      subst e
      exact ⟨0, rfl⟩
    | false =>
      rw [hb] at h
      obtain ⟨k, hk⟩ := ih h
      exact ⟨k + 1, hk⟩
theorem X_iinc (F : FrP sh G p s m args c own cc nL) {i : Nat} {n : Int} {x v : Int32} {L' : List (Nat × Value)} (hd : decode cc pc = .ok (.iinc i n, 3)) (h : L.lookup i = some (.int x)) (hv : Int32.ofInt n = v) (hn : i < nL) (hl' : ls1 L i (.int (x + v)) = L') (k : XJ sh p l e R s m args below meth c ca sl G nL Q (pc + 3) L' st M) : XJ sh p l e R s m args below meth c ca sl G nL Q pc L st M := by
  intro H locs ls hP hS hl
  obtain ⟨j, hj⟩ := lk_get h
  refine lv_iinc (lv' := cvl G.2.1 L') (v := x + v) (k := j) F.1 F.2.1 hd hl ?_ (by rw [hv]) hn (by subst hl'; rw [cvl_f1]; rfl) (fun ls' hl2 => k H locs ls' hP hS hl2)
  unfold cvl
  rw [List.getElem?_map, hj]
  rfl
end XJ
def jrem (x y : Int32) : Int32 := x - x / y * y
def jremL (x y : Int64) : Int64 := x - x / y * y
def jchar (x : Int32) : Int32 := (x.toUInt32 % 65536).toInt32
def jushr (x y : Int32) : Int32 := (x.toUInt32 >>> (y.toUInt32 &&& Int32.toUInt32 31)).toInt32
def jmax (x y : Int32) : Int32 := if x < y then y else x
def jmin (x y : Int32) : Int32 := if y < x then y else x
def jabs (x : Int32) : Int32 := if 0 ≤ x then x else 0 - x
/-- a place in a row; a boolean -/
def inb (i : Int32) (n : Nat) : Bool := decide (¬ (i < 0 ∨ n ≤ i.toNatClampNeg))
theorem inbV {i : Int32} {n : Nat} (h : inb i n = true) : vp_in i n := show ¬ (i < 0 ∨ n ≤ i.toNatClampNeg) from of_decide_eq_true h
def z01 (v : Int32) : Bool := v == 0 || v == 1
theorem z01N {v : Int32} (h : z01 v = true) : narrow .boolean (.int v) = .int v := by
  unfold z01 at h
  rcases Bool.or_eq_true_iff.mp h with h | h
  · rw [beq_iff_eq.mp h]; rfl
  · rw [beq_iff_eq.mp h]; rfl
theorem ifS {c : Prop} [Decidable c] {α : Type} {x : Option α} {r : α} (h : (if c then x else none) = some r) : c ∧ x = some r := by
  by_cases q : c
  · rw [if_pos q] at h; exact ⟨q, h⟩
  · rw [if_neg q] at h; cases h
theorem bndS {α β : Type} {o : Option α} {f : α → Option β} {b : β} (h : o.bind f = some b) : ∃ a, o = some a ∧ f a = some b := Option.bind_eq_some_iff.mp h
theorem retI {v : Int32} {M : Mem} {r : Int32 × Mem} (h : some (v, M) = some r) : ((some (.int r.1), r.2) : Option Value × Mem) = (some (.int v), M) := by cases h; rfl
theorem retL {v : Int64} {M : Mem} {r : Int64 × Mem} (h : some (v, M) = some r) : ((some (.long r.1), r.2) : Option Value × Mem) = (some (.long v), M) := by cases h; rfl
theorem retV {M : Mem} {r : Int32 × Mem} (h : some ((0 : Int32), M) = some r) : ((none, r.2) : Option Value × Mem) = (none, M) := by cases h; rfl
theorem rm_ok {D mL : Nat} (h : 1 ≤ D) (hm : mL ≤ 60) : (D - 1) + 1 ≤ (rmX D).frames ∧ 8 + (mL + 11) + 100 * (D - 1) ≤ (rmX D).locals ∧ 0 ≤ (rmX D).cells ∧ 0 ≤ (rmX D).slots := by
  simp only [rmX]
  omega
theorem rm_1 {D : Nat} (h : 1 ≤ D) : 1 ≤ (rmX D).frames ∧ 0 ≤ (rmX D).cells ∧ 0 ≤ (rmX D).slots := by
  simp only [rmX]
  omega
theorem rm_w {D k n : Nat} (h : 1 ≤ D) (hk : k ≤ n) (hn : n ≤ 99) : k ≤ (rmX D).locals := by
  simp only [rmX]
  omega
def FUEL : Nat := 100000
section XR
variable {p : Program} {l : Launch} {e : Env} {R : Room} {s : State} {m : MethodId} {args : Array Value} {below : List Frame} {meth : Method} {c : Code} {ca sl : Nat} {Q : State → Prop}
variable {sh : List Shp} {G : GG} {own : String} {cc : ByteArray} {nL pc : Nat} {L : List (Nat × Value)} {st : List Value} {M : Mem}
theorem X_iadd (F : FrP sh G p s m args c own cc nL) {x y : Int32} (hd : decode cc pc = .ok (.iadd, 1)) (k : XJ sh p l e R s m args below meth c ca sl G nL Q (pc + 1) L (.int (x + y) :: st) M) : XJ sh p l e R s m args below meth c ca sl G nL Q pc L (.int y :: .int x :: st) M :=
  fun H locs ls hP hS hl => lv_iadd F.1 F.2.1 hd (k H locs ls hP hS hl)
theorem X_isub (F : FrP sh G p s m args c own cc nL) {x y : Int32} (hd : decode cc pc = .ok (.isub, 1)) (k : XJ sh p l e R s m args below meth c ca sl G nL Q (pc + 1) L (.int (x - y) :: st) M) : XJ sh p l e R s m args below meth c ca sl G nL Q pc L (.int y :: .int x :: st) M :=
  fun H locs ls hP hS hl => lv_isub F.1 F.2.1 hd (k H locs ls hP hS hl)
theorem X_imul (F : FrP sh G p s m args c own cc nL) {x y : Int32} (hd : decode cc pc = .ok (.imul, 1)) (k : XJ sh p l e R s m args below meth c ca sl G nL Q (pc + 1) L (.int (x * y) :: st) M) : XJ sh p l e R s m args below meth c ca sl G nL Q pc L (.int y :: .int x :: st) M :=
  fun H locs ls hP hS hl => lv_imul F.1 F.2.1 hd (k H locs ls hP hS hl)
theorem X_iand (F : FrP sh G p s m args c own cc nL) {x y : Int32} (hd : decode cc pc = .ok (.iand, 1)) (k : XJ sh p l e R s m args below meth c ca sl G nL Q (pc + 1) L (.int (x &&& y) :: st) M) : XJ sh p l e R s m args below meth c ca sl G nL Q pc L (.int y :: .int x :: st) M :=
  fun H locs ls hP hS hl => lv_iand F.1 F.2.1 hd (k H locs ls hP hS hl)
theorem X_ior (F : FrP sh G p s m args c own cc nL) {x y : Int32} (hd : decode cc pc = .ok (.ior, 1)) (k : XJ sh p l e R s m args below meth c ca sl G nL Q (pc + 1) L (.int (x ||| y) :: st) M) : XJ sh p l e R s m args below meth c ca sl G nL Q pc L (.int y :: .int x :: st) M :=
  fun H locs ls hP hS hl => lv_ior F.1 F.2.1 hd (k H locs ls hP hS hl)
theorem X_ixor (F : FrP sh G p s m args c own cc nL) {x y : Int32} (hd : decode cc pc = .ok (.ixor, 1)) (k : XJ sh p l e R s m args below meth c ca sl G nL Q (pc + 1) L (.int (x ^^^ y) :: st) M) : XJ sh p l e R s m args below meth c ca sl G nL Q pc L (.int y :: .int x :: st) M :=
  fun H locs ls hP hS hl => lv_ixor F.1 F.2.1 hd (k H locs ls hP hS hl)
theorem X_ishl (F : FrP sh G p s m args c own cc nL) {x y : Int32} (hd : decode cc pc = .ok (.ishl, 1)) (k : XJ sh p l e R s m args below meth c ca sl G nL Q (pc + 1) L (.int (x <<< (y &&& 31)) :: st) M) : XJ sh p l e R s m args below meth c ca sl G nL Q pc L (.int y :: .int x :: st) M :=
  fun H locs ls hP hS hl => lv_ishl F.1 F.2.1 hd (k H locs ls hP hS hl)
theorem X_ishr (F : FrP sh G p s m args c own cc nL) {x y : Int32} (hd : decode cc pc = .ok (.ishr, 1)) (k : XJ sh p l e R s m args below meth c ca sl G nL Q (pc + 1) L (.int (x >>> (y &&& 31)) :: st) M) : XJ sh p l e R s m args below meth c ca sl G nL Q pc L (.int y :: .int x :: st) M :=
  fun H locs ls hP hS hl => lv_ishr F.1 F.2.1 hd (k H locs ls hP hS hl)
theorem X_ladd (F : FrP sh G p s m args c own cc nL) {x y : Int64} (hd : decode cc pc = .ok (.ladd, 1)) (k : XJ sh p l e R s m args below meth c ca sl G nL Q (pc + 1) L (.long (x + y) :: st) M) : XJ sh p l e R s m args below meth c ca sl G nL Q pc L (.long y :: .long x :: st) M :=
  fun H locs ls hP hS hl => lv_ladd F.1 F.2.1 hd (k H locs ls hP hS hl)
theorem X_lsub (F : FrP sh G p s m args c own cc nL) {x y : Int64} (hd : decode cc pc = .ok (.lsub, 1)) (k : XJ sh p l e R s m args below meth c ca sl G nL Q (pc + 1) L (.long (x - y) :: st) M) : XJ sh p l e R s m args below meth c ca sl G nL Q pc L (.long y :: .long x :: st) M :=
  fun H locs ls hP hS hl => lv_lsub F.1 F.2.1 hd (k H locs ls hP hS hl)
theorem X_lmul (F : FrP sh G p s m args c own cc nL) {x y : Int64} (hd : decode cc pc = .ok (.lmul, 1)) (k : XJ sh p l e R s m args below meth c ca sl G nL Q (pc + 1) L (.long (x * y) :: st) M) : XJ sh p l e R s m args below meth c ca sl G nL Q pc L (.long y :: .long x :: st) M :=
  fun H locs ls hP hS hl => lv_lmul F.1 F.2.1 hd (k H locs ls hP hS hl)
theorem X_idiv (F : FrP sh G p s m args c own cc nL) {x y : Int32} (hd : decode cc pc = .ok (.idiv, 1)) (hne : ¬ y = 0) (k : XJ sh p l e R s m args below meth c ca sl G nL Q (pc + 1) L (.int (x / y) :: st) M) : XJ sh p l e R s m args below meth c ca sl G nL Q pc L (.int y :: .int x :: st) M :=
  fun H locs ls hP hS hl => lv_idiv F.1 F.2.1 hd hne (k H locs ls hP hS hl)
theorem X_irem (F : FrP sh G p s m args c own cc nL) {x y : Int32} (hd : decode cc pc = .ok (.irem, 1)) (hne : ¬ y = 0) (k : XJ sh p l e R s m args below meth c ca sl G nL Q (pc + 1) L (.int (jrem x y) :: st) M) : XJ sh p l e R s m args below meth c ca sl G nL Q pc L (.int y :: .int x :: st) M :=
  fun H locs ls hP hS hl => lv_irem F.1 F.2.1 hd hne (k H locs ls hP hS hl)
theorem X_ldiv (F : FrP sh G p s m args c own cc nL) {x y : Int64} (hd : decode cc pc = .ok (.ldiv, 1)) (hne : ¬ y = 0) (k : XJ sh p l e R s m args below meth c ca sl G nL Q (pc + 1) L (.long (x / y) :: st) M) : XJ sh p l e R s m args below meth c ca sl G nL Q pc L (.long y :: .long x :: st) M :=
  fun H locs ls hP hS hl => lv_ldiv F.1 F.2.1 hd hne (k H locs ls hP hS hl)
theorem X_lrem (F : FrP sh G p s m args c own cc nL) {x y : Int64} (hd : decode cc pc = .ok (.lrem, 1)) (hne : ¬ y = 0) (k : XJ sh p l e R s m args below meth c ca sl G nL Q (pc + 1) L (.long (jremL x y) :: st) M) : XJ sh p l e R s m args below meth c ca sl G nL Q pc L (.long y :: .long x :: st) M :=
  fun H locs ls hP hS hl => lv_lrem F.1 F.2.1 hd hne (k H locs ls hP hS hl)
theorem X_ineg (F : FrP sh G p s m args c own cc nL) {x : Int32} (hd : decode cc pc = .ok (.ineg, 1)) (k : XJ sh p l e R s m args below meth c ca sl G nL Q (pc + 1) L (.int (-x) :: st) M) : XJ sh p l e R s m args below meth c ca sl G nL Q pc L (.int x :: st) M :=
  fun H locs ls hP hS hl => lv_ineg F.1 F.2.1 hd (k H locs ls hP hS hl)
theorem X_i2l (F : FrP sh G p s m args c own cc nL) {x : Int32} (hd : decode cc pc = .ok (.i2l, 1)) (k : XJ sh p l e R s m args below meth c ca sl G nL Q (pc + 1) L (.long (x.toInt64) :: st) M) : XJ sh p l e R s m args below meth c ca sl G nL Q pc L (.int x :: st) M :=
  fun H locs ls hP hS hl => lv_i2l F.1 F.2.1 hd rfl (k H locs ls hP hS hl)
theorem X_l2i (F : FrP sh G p s m args c own cc nL) {x : Int64} (hd : decode cc pc = .ok (.l2i, 1)) (k : XJ sh p l e R s m args below meth c ca sl G nL Q (pc + 1) L (.int (x.toInt32) :: st) M) : XJ sh p l e R s m args below meth c ca sl G nL Q pc L (.long x :: st) M :=
  fun H locs ls hP hS hl => lv_l2i F.1 F.2.1 hd rfl (k H locs ls hP hS hl)
theorem X_i2b (F : FrP sh G p s m args c own cc nL) {x : Int32} (hd : decode cc pc = .ok (.i2b, 1)) (k : XJ sh p l e R s m args below meth c ca sl G nL Q (pc + 1) L (.int (x.toInt8.toInt32) :: st) M) : XJ sh p l e R s m args below meth c ca sl G nL Q pc L (.int x :: st) M :=
  fun H locs ls hP hS hl => lv_i2b F.1 F.2.1 hd rfl (k H locs ls hP hS hl)
theorem X_i2s (F : FrP sh G p s m args c own cc nL) {x : Int32} (hd : decode cc pc = .ok (.i2s, 1)) (k : XJ sh p l e R s m args below meth c ca sl G nL Q (pc + 1) L (.int (x.toInt16.toInt32) :: st) M) : XJ sh p l e R s m args below meth c ca sl G nL Q pc L (.int x :: st) M :=
  fun H locs ls hP hS hl => lv_i2s F.1 F.2.1 hd rfl (k H locs ls hP hS hl)
theorem X_i2c (F : FrP sh G p s m args c own cc nL) {x : Int32} (hd : decode cc pc = .ok (.i2c, 1)) (k : XJ sh p l e R s m args below meth c ca sl G nL Q (pc + 1) L (.int (jchar x) :: st) M) : XJ sh p l e R s m args below meth c ca sl G nL Q pc L (.int x :: st) M :=
  fun H locs ls hP hS hl => lv_i2c F.1 F.2.1 hd rfl (k H locs ls hP hS hl)
theorem X_iushr (F : FrP sh G p s m args c own cc nL) {x y : Int32} (hd : decode cc pc = .ok (.iushr, 1)) (k : XJ sh p l e R s m args below meth c ca sl G nL Q (pc + 1) L (.int (jushr x y) :: st) M) : XJ sh p l e R s m args below meth c ca sl G nL Q pc L (.int y :: .int x :: st) M :=
  fun H locs ls hP hS hl => lv_iushr F.1 F.2.1 hd rfl (k H locs ls hP hS hl)
theorem X_lcmp (F : FrP sh G p s m args c own cc nL) {x y : Int64} (hd : decode cc pc = .ok (.lcmp, 1)) (k : XJ sh p l e R s m args below meth c ca sl G nL Q (pc + 1) L (.int (lg_cmp x y) :: st) M) : XJ sh p l e R s m args below meth c ca sl G nL Q pc L (.long y :: .long x :: st) M :=
  fun H locs ls hP hS hl => W.lcmp F.1 F.2.1 hd (k H locs ls hP hS hl)
theorem X_dup (F : FrP sh G p s m args c own cc nL) {v : Value} (hd : decode cc pc = .ok (.dup, 1)) (hc : v.category = 1) (k : XJ sh p l e R s m args below meth c ca sl G nL Q (pc + 1) L (v :: v :: st) M) : XJ sh p l e R s m args below meth c ca sl G nL Q pc L (v :: st) M :=
  fun H locs ls hP hS hl => lv_dup F.1 F.2.1 hd (by rw [cv_cat]; exact hc) (k H locs ls hP hS hl)
theorem X_pop (F : FrP sh G p s m args c own cc nL) {v : Value} (hd : decode cc pc = .ok (.pop, 1)) (hc : v.category = 1) (k : XJ sh p l e R s m args below meth c ca sl G nL Q (pc + 1) L st M) : XJ sh p l e R s m args below meth c ca sl G nL Q pc L (v :: st) M :=
  fun H locs ls hP hS hl => lv_pop F.1 F.2.1 hd (by rw [cv_cat]; exact hc) (k H locs ls hP hS hl)
theorem X_goto (F : FrP sh G p s m args c own cc nL) {off : Int} {tgt : Nat} (hd : decode cc pc = .ok (.goto off, 3)) (ht : (pc : Int) + off = (tgt : Int)) (k : XJ sh p l e R s m args below meth c ca sl G nL Q tgt L st M) : XJ sh p l e R s m args below meth c ca sl G nL Q pc L st M :=
  fun H locs ls hP hS hl => lv_goto F.1 F.2.1 hd ht (k H locs ls hP hS hl)
theorem X_icmp_eq (F : FrP sh G p s m args c own cc nL) {x y : Int32} {off : Int} {tgt : Nat} (hd : decode cc pc = .ok (.if_icmp .eq off, 3)) (ht : (pc : Int) + off = (tgt : Int)) (kt : x = y → XJ sh p l e R s m args below meth c ca sl G nL Q tgt L st M) (kf : ¬ x = y → XJ sh p l e R s m args below meth c ca sl G nL Q (pc + 3) L st M) : XJ sh p l e R s m args below meth c ca sl G nL Q pc L (.int y :: .int x :: st) M :=
  fun H locs ls hP hS hl => lv_icmp_eq F.1 F.2.1 hd ht (fun q => kt q H locs ls hP hS hl) (fun q => kf q H locs ls hP hS hl)
theorem X_if_eq (F : FrP sh G p s m args c own cc nL) {x : Int32} {off : Int} {tgt : Nat} (hd : decode cc pc = .ok (.ifCond .eq off, 3)) (ht : (pc : Int) + off = (tgt : Int)) (kt : x = 0 → XJ sh p l e R s m args below meth c ca sl G nL Q tgt L st M) (kf : ¬ x = 0 → XJ sh p l e R s m args below meth c ca sl G nL Q (pc + 3) L st M) : XJ sh p l e R s m args below meth c ca sl G nL Q pc L (.int x :: st) M :=
  fun H locs ls hP hS hl => lv_if_eq F.1 F.2.1 hd ht (fun q => kt q H locs ls hP hS hl) (fun q => kf q H locs ls hP hS hl)
theorem X_icmp_ne (F : FrP sh G p s m args c own cc nL) {x y : Int32} {off : Int} {tgt : Nat} (hd : decode cc pc = .ok (.if_icmp .ne off, 3)) (ht : (pc : Int) + off = (tgt : Int)) (kt : ¬ x = y → XJ sh p l e R s m args below meth c ca sl G nL Q tgt L st M) (kf : x = y → XJ sh p l e R s m args below meth c ca sl G nL Q (pc + 3) L st M) : XJ sh p l e R s m args below meth c ca sl G nL Q pc L (.int y :: .int x :: st) M :=
  fun H locs ls hP hS hl => lv_icmp_ne F.1 F.2.1 hd ht (fun q => kt q H locs ls hP hS hl) (fun q => kf q H locs ls hP hS hl)
theorem X_if_ne (F : FrP sh G p s m args c own cc nL) {x : Int32} {off : Int} {tgt : Nat} (hd : decode cc pc = .ok (.ifCond .ne off, 3)) (ht : (pc : Int) + off = (tgt : Int)) (kt : ¬ x = 0 → XJ sh p l e R s m args below meth c ca sl G nL Q tgt L st M) (kf : x = 0 → XJ sh p l e R s m args below meth c ca sl G nL Q (pc + 3) L st M) : XJ sh p l e R s m args below meth c ca sl G nL Q pc L (.int x :: st) M :=
  fun H locs ls hP hS hl => lv_if_ne F.1 F.2.1 hd ht (fun q => kt q H locs ls hP hS hl) (fun q => kf q H locs ls hP hS hl)
theorem X_icmp_lt (F : FrP sh G p s m args c own cc nL) {x y : Int32} {off : Int} {tgt : Nat} (hd : decode cc pc = .ok (.if_icmp .lt off, 3)) (ht : (pc : Int) + off = (tgt : Int)) (kt : x < y → XJ sh p l e R s m args below meth c ca sl G nL Q tgt L st M) (kf : ¬ x < y → XJ sh p l e R s m args below meth c ca sl G nL Q (pc + 3) L st M) : XJ sh p l e R s m args below meth c ca sl G nL Q pc L (.int y :: .int x :: st) M :=
  fun H locs ls hP hS hl => lv_icmp_lt F.1 F.2.1 hd ht (fun q => kt q H locs ls hP hS hl) (fun q => kf q H locs ls hP hS hl)
theorem X_if_lt (F : FrP sh G p s m args c own cc nL) {x : Int32} {off : Int} {tgt : Nat} (hd : decode cc pc = .ok (.ifCond .lt off, 3)) (ht : (pc : Int) + off = (tgt : Int)) (kt : x < 0 → XJ sh p l e R s m args below meth c ca sl G nL Q tgt L st M) (kf : ¬ x < 0 → XJ sh p l e R s m args below meth c ca sl G nL Q (pc + 3) L st M) : XJ sh p l e R s m args below meth c ca sl G nL Q pc L (.int x :: st) M :=
  fun H locs ls hP hS hl => lv_if_lt F.1 F.2.1 hd ht (fun q => kt q H locs ls hP hS hl) (fun q => kf q H locs ls hP hS hl)
theorem X_icmp_ge (F : FrP sh G p s m args c own cc nL) {x y : Int32} {off : Int} {tgt : Nat} (hd : decode cc pc = .ok (.if_icmp .ge off, 3)) (ht : (pc : Int) + off = (tgt : Int)) (kt : y ≤ x → XJ sh p l e R s m args below meth c ca sl G nL Q tgt L st M) (kf : ¬ y ≤ x → XJ sh p l e R s m args below meth c ca sl G nL Q (pc + 3) L st M) : XJ sh p l e R s m args below meth c ca sl G nL Q pc L (.int y :: .int x :: st) M :=
  fun H locs ls hP hS hl => lv_icmp_ge F.1 F.2.1 hd ht (fun q => kt q H locs ls hP hS hl) (fun q => kf q H locs ls hP hS hl)
theorem X_if_ge (F : FrP sh G p s m args c own cc nL) {x : Int32} {off : Int} {tgt : Nat} (hd : decode cc pc = .ok (.ifCond .ge off, 3)) (ht : (pc : Int) + off = (tgt : Int)) (kt : 0 ≤ x → XJ sh p l e R s m args below meth c ca sl G nL Q tgt L st M) (kf : ¬ 0 ≤ x → XJ sh p l e R s m args below meth c ca sl G nL Q (pc + 3) L st M) : XJ sh p l e R s m args below meth c ca sl G nL Q pc L (.int x :: st) M :=
  fun H locs ls hP hS hl => lv_if_ge F.1 F.2.1 hd ht (fun q => kt q H locs ls hP hS hl) (fun q => kf q H locs ls hP hS hl)
theorem X_icmp_gt (F : FrP sh G p s m args c own cc nL) {x y : Int32} {off : Int} {tgt : Nat} (hd : decode cc pc = .ok (.if_icmp .gt off, 3)) (ht : (pc : Int) + off = (tgt : Int)) (kt : y < x → XJ sh p l e R s m args below meth c ca sl G nL Q tgt L st M) (kf : ¬ y < x → XJ sh p l e R s m args below meth c ca sl G nL Q (pc + 3) L st M) : XJ sh p l e R s m args below meth c ca sl G nL Q pc L (.int y :: .int x :: st) M :=
  fun H locs ls hP hS hl => lv_icmp_gt F.1 F.2.1 hd ht (fun q => kt q H locs ls hP hS hl) (fun q => kf q H locs ls hP hS hl)
theorem X_if_gt (F : FrP sh G p s m args c own cc nL) {x : Int32} {off : Int} {tgt : Nat} (hd : decode cc pc = .ok (.ifCond .gt off, 3)) (ht : (pc : Int) + off = (tgt : Int)) (kt : 0 < x → XJ sh p l e R s m args below meth c ca sl G nL Q tgt L st M) (kf : ¬ 0 < x → XJ sh p l e R s m args below meth c ca sl G nL Q (pc + 3) L st M) : XJ sh p l e R s m args below meth c ca sl G nL Q pc L (.int x :: st) M :=
  fun H locs ls hP hS hl => lv_if_gt F.1 F.2.1 hd ht (fun q => kt q H locs ls hP hS hl) (fun q => kf q H locs ls hP hS hl)
theorem X_icmp_le (F : FrP sh G p s m args c own cc nL) {x y : Int32} {off : Int} {tgt : Nat} (hd : decode cc pc = .ok (.if_icmp .le off, 3)) (ht : (pc : Int) + off = (tgt : Int)) (kt : x ≤ y → XJ sh p l e R s m args below meth c ca sl G nL Q tgt L st M) (kf : ¬ x ≤ y → XJ sh p l e R s m args below meth c ca sl G nL Q (pc + 3) L st M) : XJ sh p l e R s m args below meth c ca sl G nL Q pc L (.int y :: .int x :: st) M :=
  fun H locs ls hP hS hl => lv_icmp_le F.1 F.2.1 hd ht (fun q => kt q H locs ls hP hS hl) (fun q => kf q H locs ls hP hS hl)
theorem X_if_le (F : FrP sh G p s m args c own cc nL) {x : Int32} {off : Int} {tgt : Nat} (hd : decode cc pc = .ok (.ifCond .le off, 3)) (ht : (pc : Int) + off = (tgt : Int)) (kt : x ≤ 0 → XJ sh p l e R s m args below meth c ca sl G nL Q tgt L st M) (kf : ¬ x ≤ 0 → XJ sh p l e R s m args below meth c ca sl G nL Q (pc + 3) L st M) : XJ sh p l e R s m args below meth c ca sl G nL Q pc L (.int x :: st) M :=
  fun H locs ls hP hS hl => lv_if_le F.1 F.2.1 hd ht (fun q => kt q H locs ls hP hS hl) (fun q => kf q H locs ls hP hS hl)
theorem X_tin (F : FrP sh G p s m args c own cc nL) {x : Int32} {dflt lo hi : Int} {offs : Array Int} {len : Nat} {off : Int} {tgt : Nat} (hd : decode cc pc = .ok (.tableswitch dflt lo hi offs, len)) (h : ¬ x.toInt < lo ∧ ¬ hi < x.toInt ∧ offs[(x.toInt - lo).toNat]? = some off) (ht : (pc : Int) + off = (tgt : Int)) (k : XJ sh p l e R s m args below meth c ca sl G nL Q tgt L st M) : XJ sh p l e R s m args below meth c ca sl G nL Q pc L (.int x :: st) M :=
  fun H locs ls hP hS hl => lv_tableIn F.1 F.2.1 hd h.1 h.2.1 h.2.2 ht (k H locs ls hP hS hl)
theorem X_tout (F : FrP sh G p s m args c own cc nL) {x : Int32} {dflt lo hi : Int} {offs : Array Int} {len : Nat} {tgt : Nat} (hd : decode cc pc = .ok (.tableswitch dflt lo hi offs, len)) (h : x.toInt < lo ∨ hi < x.toInt) (ht : (pc : Int) + dflt = (tgt : Int)) (k : XJ sh p l e R s m args below meth c ca sl G nL Q tgt L st M) : XJ sh p l e R s m args below meth c ca sl G nL Q pc L (.int x :: st) M :=
  fun H locs ls hP hS hl => lv_tableOut F.1 F.2.1 hd h ht (k H locs ls hP hS hl)
theorem X_lookup (F : FrP sh G p s m args c own cc nL) {x : Int32} {dflt : Int} {ps : Array (Int × Int)} {len : Nat} {off : Int} {tgt : Nat} (hd : decode cc pc = .ok (.lookupswitch dflt ps, len)) (hp : (ps.toList.zip (ps.toList.drop 1)).all (fun (a, next) => a.1 < next.1) = true) (ho : Op.lookupswitch.offset ps.toList dflt x.toInt = off) (ht : (pc : Int) + off = (tgt : Int)) (k : XJ sh p l e R s m args below meth c ca sl G nL Q tgt L st M) : XJ sh p l e R s m args below meth c ca sl G nL Q pc L (.int x :: st) M :=
  fun H locs ls hP hS hl => lv_lookup F.1 F.2.1 hd hp ho ht (k H locs ls hP hS hl)
/-- a field of the class ci, its slot k, linked from a place of a class' pool -/
def FLD (own : String) (ci idx k : Nat) : Prop := ∃ (C : String) (T : u_T) (N : Nat), classes[ci]? = some (C, T, N) ∧ k < N ∧ (∀ w ∈ u_ws C T N, w ∈ TBL) ∧ (Cond.fieldLink own idx (T k).1 (T k).2.1 (T k).2.2.1 ∈ TBL ∨ ∃ host, Cond.fieldLinkNest own idx (T k).1 (T k).2.1 (T k).2.2.1 host ∈ NTB)
def FLT (sh : List Shp) (own : String) (cell ci idx k : Nat) (w : Value) : Prop := FLD own ci idx k ∧ ∃ tm, sh[cell]? = some (.inr (ci, tm)) ∧ tm[k]? = some w
def FLW (ci k : Nat) (ty : FieldType) : Prop := ∃ (C : String) (T : u_T) (N : Nat) (ty0 : Nat → FieldType), classes[ci]? = some (C, T, N) ∧ (∀ k, k < N → parseFieldDescriptor (T k).2.2.1 = some (ty0 k)) ∧ (∀ a, a < N → ∀ b, b < N → a ≠ b → (T a).2.1 ≠ (T b).2.1) ∧ (T k).2.2.2 = false ∧ parseFieldDescriptor (T k).2.2.1 = some ty
theorem X_getf (F : FrP sh G p s m args c own cc nL) {cell ci idx k : Nat} {w : Value} (hf : FLT sh own cell ci idx k w) (hd : decode cc pc = .ok (.getfield idx, 3)) {v : Value} (hv : cv G.2.1 v = fv G.2.1 M cell k w) (kk : XJ sh p l e R s m args below meth c ca sl G nL Q (pc + 3) L (v :: st) M) : XJ sh p l e R s m args below meth c ca sl G nL Q pc L (.ref cell :: st) M := by
  intro H locs ls hP hS hl
  obtain ⟨⟨C, T, N, hc, hk, hin, hlk⟩, tm, hs, ht⟩ := hf
  have h1 := wl_get (G := G) (M := M) hs
  have hv2 : (tm.mapIdx (fun k w => fv G.2.1 M cell k w))[k]? = some (cv G.2.1 v) := by rw [List.getElem?_mapIdx, ht, hv]; rfl
  have k2 := kk H locs ls hP hS hl
  rcases hlk with hlk | ⟨host, hlk⟩
  · exact va_get F.1 F.2.1 F.2.2.2.2.1 hin F.2.2.2.1 F.2.2.2.2.2.2.1 hP cell h1 hc k hk (F.2.2.2.2.1 _ hlk) (fun _ h => h) hv2 hd k2
  · exact va_getN F.1 F.2.1 F.2.2.2.2.1 hin F.2.2.2.1 F.2.2.2.2.2.2.1 hP cell h1 hc k hk ((F.2.2.2.2.2.1 _ hlk).use rfl) (fun _ h => h) hv2 hd k2
theorem X_geti (F : FrP sh G p s m args c own cc nL) {cell ci idx k : Nat} {v : Int32} (hf : FLT sh own cell ci idx k (.int 0)) (hd : decode cc pc = .ok (.getfield idx, 3)) (hv : M cell k = v) (kk : XJ sh p l e R s m args below meth c ca sl G nL Q (pc + 3) L (.int v :: st) M) : XJ sh p l e R s m args below meth c ca sl G nL Q pc L (.ref cell :: st) M := X_getf F hf hd (by subst hv; rfl) kk
theorem X_getl (F : FrP sh G p s m args c own cc nL) {cell ci idx k : Nat} {v : Int64} (hf : FLT sh own cell ci idx k (.long 0)) (hd : decode cc pc = .ok (.getfield idx, 3)) (hv : gL M cell k = v) (kk : XJ sh p l e R s m args below meth c ca sl G nL Q (pc + 3) L (.long v :: st) M) : XJ sh p l e R s m args below meth c ca sl G nL Q pc L (.ref cell :: st) M := X_getf F hf hd (by subst hv; rfl) kk
theorem X_getr (F : FrP sh G p s m args c own cc nL) {cell ci idx k j : Nat} (hf : FLT sh own cell ci idx k (.ref j)) (hd : decode cc pc = .ok (.getfield idx, 3)) (kk : XJ sh p l e R s m args below meth c ca sl G nL Q (pc + 3) L (.ref j :: st) M) : XJ sh p l e R s m args below meth c ca sl G nL Q pc L (.ref cell :: st) M := X_getf F hf hd rfl kk
theorem X_putf (F : FrP sh G p s m args c own cc nL) {cell ci idx k : Nat} {w v : Value} {ty : FieldType} {M' : Mem} (hf : FLT sh own cell ci idx k w) (hW : FLW ci k ty) (hd : decode cc pc = .ok (.putfield idx, 3)) (hn : narrow ty (cv G.2.1 v) = cv G.2.1 v) (hfit : fits ty (cv G.2.1 v) = true) (hM : ∀ d, d ≠ cell → M' d = M d) (hv : fv G.2.1 M' cell k w = cv G.2.1 v) (ho : ∀ (j : Nat) (w2 : Value), j ≠ k → j < 1000 → fv G.2.1 M' cell j w2 = fv G.2.1 M cell j w2) (kk : XJ sh p l e R s m args below meth c ca sl G nL Q (pc + 3) L st M') : XJ sh p l e R s m args below meth c ca sl G nL Q pc L (v :: .ref cell :: st) M := by
  intro H locs ls hP hS hl
  obtain ⟨⟨C, T, N, hc, hk, hin, hlk⟩, tm, hs, ht⟩ := hf
  obtain ⟨C', T', N', ty0, hc', hty, hnm, hfin, hpd⟩ := hW
  rw [hc] at hc'
  cases hc'
  have h1 := wl_get (G := G) (M := M) hs
  have hlt : k < tm.length := (List.getElem?_eq_some_iff.mp ht).1
  have hset : (tm.mapIdx (fun k w => fv G.2.1 M cell k w)).set k (cv G.2.1 v) = tm.mapIdx (fun k w => fv G.2.1 M' cell k w) := by
    apply List.ext_getElem?
    intro j
    by_cases e : j = k
    · subst e
      rw [List.getElem?_set_self (by rw [List.length_mapIdx]; exact hlt), List.getElem?_mapIdx, ht, ← hv]
      rfl
    · rw [List.getElem?_set_ne (Ne.symm e), List.getElem?_mapIdx, List.getElem?_mapIdx]
      cases hj : tm[j]? with
      | none => rfl
      | some w2 =>
        have := F.2.2.2.2.2.2.2.1.1 _ _ _ hs
        have hj2 : j < tm.length := (List.getElem?_eq_some_iff.mp hj).1
        simp only [Option.map_some]
        rw [ho j w2 e (by omega)]
  have hfin2 : (wl sh G M).set cell (G.2.1 cell, .inr (ci, (tm.mapIdx (fun k w => fv G.2.1 M cell k w)).set k (cv G.2.1 v))) = wl sh G M' := by
    rw [hset]
    have e := wl_set (G := G) (M := M) (M' := M') hs hM
    rw [cel_obj] at e
    exact e
  have hl2 : k < (tm.mapIdx (fun k w => fv G.2.1 M cell k w)).length := by rw [List.length_mapIdx]; exact hlt
  rcases hlk with hlk | ⟨host, hlk⟩
  · refine va_put F.1 F.2.1 F.2.2.2.2.1 hin ty0 hty hnm F.2.2.2.1 F.2.2.2.2.2.2.1 hP (wl_D F.2.2.2.2.2.2.2.1) hS cell h1 hc k hk (F.2.2.2.2.1 _ hlk) (fun _ h => h) hfin hpd hn hfit hl2 hd (fun H1 locs1 hP1 _ hS1 => ?_)
    rw [hfin2] at hP1
    exact kk H1 locs1 ls hP1 hS1 hl
  · refine va_putN F.1 F.2.1 F.2.2.2.2.1 hin ty0 hty hnm F.2.2.2.1 F.2.2.2.2.2.2.1 hP (wl_D F.2.2.2.2.2.2.2.1) hS cell h1 hc k hk ((F.2.2.2.2.2.1 _ hlk).use rfl) (fun _ h => h) hfin hpd hn hfit hl2 hd (fun H1 locs1 hP1 _ hS1 => ?_)
    rw [hfin2] at hP1
    exact kk H1 locs1 ls hP1 hS1 hl
theorem up2_o {M : Mem} {c k : Nat} {v : Int32} : ∀ d, d ≠ c → up2 M c k v d = M d := by
  intro d hd
  funext b
  simp [up2, hd]
theorem up2_fv {ad : Nat → Nat} {M : Mem} {c k : Nat} {v : Int32} (hk : k < 1000) : ∀ (j : Nat) (w2 : Value), j ≠ k → j < 1000 → fv ad (up2 M c k v) c j w2 = fv ad M c j w2 := by
  intro j w2 hj hj2
  have h1 : j + 1000 ≠ k := by omega
  cases w2 <;> simp [fv, gL, up2, hj, h1]
theorem X_puti (F : FrP sh G p s m args c own cc nL) {cell ci idx k : Nat} {v : Int32} (hf : FLT sh own cell ci idx k (.int 0)) (hW : FLW ci k .int) (hk : k < 1000) (hd : decode cc pc = .ok (.putfield idx, 3)) (kk : XJ sh p l e R s m args below meth c ca sl G nL Q (pc + 3) L st (up2 M cell k v)) : XJ sh p l e R s m args below meth c ca sl G nL Q pc L (.int v :: .ref cell :: st) M :=
  X_putf F hf hW hd rfl rfl up2_o (by simp [fv, up2, cv]) (up2_fv hk) kk
theorem X_putz (F : FrP sh G p s m args c own cc nL) {cell ci idx k : Nat} {v : Int32} (hf : FLT sh own cell ci idx k (.int 0)) (hW : FLW ci k .boolean) (hk : k < 1000) (hd : decode cc pc = .ok (.putfield idx, 3)) (hv : narrow .boolean (.int v) = .int v ∧ fits .boolean (.int v) = true) (kk : XJ sh p l e R s m args below meth c ca sl G nL Q (pc + 3) L st (up2 M cell k v)) : XJ sh p l e R s m args below meth c ca sl G nL Q pc L (.int v :: .ref cell :: st) M :=
  X_putf F hf hW hd hv.1 hv.2 up2_o (by simp [fv, up2, cv]) (up2_fv hk) kk
theorem sL_o {M : Mem} {c k : Nat} {v : Int64} : ∀ d, d ≠ c → sL M c k v d = M d := by
  intro d hd
  funext b
  simp [sL, up2, hd]
theorem gL_sL {M : Mem} {c k : Nat} {v : Int64} : gL (sL M c k v) c k = v := by
  have e1 : sL M c k v c (k + 1000) = Int32.ofBitVec (v.toBitVec.extractLsb' 32 32) := by simp [sL, up2]
  have e2 : sL M c k v c k = Int32.ofBitVec (v.toBitVec.extractLsb' 0 32) := by simp [sL, up2]
  unfold gL
  rw [e1, e2]
  apply Int64.toBitVec_inj.mp
  show (v.toBitVec.extractLsb' 32 32 ++ v.toBitVec.extractLsb' 0 32 : BitVec (32 + 32)) = v.toBitVec
  apply BitVec.eq_of_getLsbD_eq
  intro i hi
  rw [BitVec.getLsbD_append]
  by_cases h : i < 32
  · simp [h, BitVec.getLsbD_extractLsb']
  · have h2 : i - 32 < 32 := by omega
    have h3 : 32 + (i - 32) = i := by omega
    simp [h, BitVec.getLsbD_extractLsb', h2, h3]
theorem sL_fv {ad : Nat → Nat} {M : Mem} {c k : Nat} {v : Int64} (hk : k < 1000) : ∀ (j : Nat) (w2 : Value), j ≠ k → j < 1000 → fv ad (sL M c k v) c j w2 = fv ad M c j w2 := by
  intro j w2 hj hj2
  have h1 : j + 1000 ≠ k := by omega
  have h2 : j ≠ k + 1000 := by omega
  have h3 : j + 1000 ≠ k + 1000 := by omega
  cases w2 <;> simp [fv, gL, sL, up2, hj, h1, h2]
theorem X_putl (F : FrP sh G p s m args c own cc nL) {cell ci idx k : Nat} {v : Int64} (hf : FLT sh own cell ci idx k (.long 0)) (hW : FLW ci k .long) (hk : k < 1000) (hd : decode cc pc = .ok (.putfield idx, 3)) (kk : XJ sh p l e R s m args below meth c ca sl G nL Q (pc + 3) L st (sL M cell k v)) : XJ sh p l e R s m args below meth c ca sl G nL Q pc L (.long v :: .ref cell :: st) M :=
  X_putf F hf hW hd rfl rfl sL_o (by simp [fv, cv, gL_sL]) (sL_fv hk) kk
theorem X_iald (F : FrP sh G p s m args c own cc nL) {a n j : Nat} {i v : Int32} (ha : sh[a]? = some (.inl (0, n))) (hin : vp_in i n) (hj : i.toNatClampNeg = j) (hv : M a j = v) (hd : decode cc pc = .ok (.iaload, 1)) (k : XJ sh p l e R s m args below meth c ca sl G nL Q (pc + 1) L (.int v :: st) M) : XJ sh p l e R s m args below meth c ca sl G nL Q pc L (.int i :: .ref a :: st) M := by
  subst hv; subst hj
  exact fun H locs ls hP hS hl => va_iald F.1 F.2.1 F.2.2.2.2.2.2.1 hP a 0 (wl_get (G := G) (M := M) ha) rfl hin hd (k H locs ls hP hS hl)
theorem X_zald (F : FrP sh G p s m args c own cc nL) {a n j : Nat} {i v : Int32} (ha : sh[a]? = some (.inl (1, n))) (hin : vp_in i n) (hj : i.toNatClampNeg = j) (hv : M a j = v) (hd : decode cc pc = .ok (.baload, 1)) (k : XJ sh p l e R s m args below meth c ca sl G nL Q (pc + 1) L (.int v :: st) M) : XJ sh p l e R s m args below meth c ca sl G nL Q pc L (.int i :: .ref a :: st) M := by
  subst hv; subst hj
  exact fun H locs ls hP hS hl => va_zald F.1 F.2.1 F.2.2.2.2.2.2.1 hP a 1 (wl_get (G := G) (M := M) ha) rfl hin hd (k H locs ls hP hS hl)
theorem up2_upd {M : Mem} {a k : Nat} {x : Int32} : up2 M a k x a = upd (M a) k x := by
  funext b
  simp [up2, upd]
theorem X_iast (F : FrP sh G p s m args c own cc nL) {a n j : Nat} {i x : Int32} (ha : sh[a]? = some (.inl (0, n))) (hin : vp_in i n) (hj : i.toNatClampNeg = j) (hd : decode cc pc = .ok (.iastore, 1)) (k : XJ sh p l e R s m args below meth c ca sl G nL Q (pc + 1) L st (up2 M a j x)) : XJ sh p l e R s m args below meth c ca sl G nL Q pc L (.int x :: .int i :: .ref a :: st) M := by
  subst hj
  intro H locs ls hP hS hl
  refine va_iast F.1 F.2.1 F.2.2.2.2.2.2.1 hP (wl_D F.2.2.2.2.2.2.2.1) hS a 0 (wl_get (G := G) (M := M) ha) rfl hin hd (fun H1 locs1 hP1 _ hS1 => k H1 locs1 ls ?_ hS1 hl)
  have e := wl_set (G := G) (M := M) (M' := up2 M a i.toNatClampNeg x) ha up2_o
  rw [← e]
  show va_P G.1 classes ((wl sh G M).set a (G.2.1 a, .inl (G.2.2.1, n, .inl (up2 M a i.toNatClampNeg x a)))) H1
  rw [up2_upd]
  exact hP1
theorem X_zast (F : FrP sh G p s m args c own cc nL) {a n j : Nat} {i x : Int32} (ha : sh[a]? = some (.inl (1, n))) (hin : vp_in i n) (hj : i.toNatClampNeg = j) (hd : decode cc pc = .ok (.bastore, 1)) (k : XJ sh p l e R s m args below meth c ca sl G nL Q (pc + 1) L st (up2 M a j (vp_nar .boolean x))) : XJ sh p l e R s m args below meth c ca sl G nL Q pc L (.int x :: .int i :: .ref a :: st) M := by
  subst hj
  intro H locs ls hP hS hl
  refine va_zast F.1 F.2.1 F.2.2.2.2.2.2.1 hP (wl_D F.2.2.2.2.2.2.2.1) hS a 1 (wl_get (G := G) (M := M) ha) rfl hin hd (fun H1 locs1 hP1 _ hS1 => k H1 locs1 ls ?_ hS1 hl)
  have e := wl_set (G := G) (M := M) (M' := up2 M a i.toNatClampNeg (vp_nar .boolean x)) ha up2_o
  rw [← e]
  show va_P G.1 classes ((wl sh G M).set a (G.2.1 a, .inl (G.2.2.2.1, n, .inl (up2 M a i.toNatClampNeg (vp_nar .boolean x) a)))) H1
  rw [up2_upd]
  exact hP1
theorem X_aald (F : FrP sh G p s m args c own cc nL) {a b n j : Nat} {i : Int32} (ha : sh[a]? = some (.inl (b + 2, n))) (hin : vp_in i n) (hj : b + i.toNatClampNeg = j) (hd : decode cc pc = .ok (.aaload, 1)) (k : XJ sh p l e R s m args below meth c ca sl G nL Q (pc + 1) L (.ref j :: st) M) : XJ sh p l e R s m args below meth c ca sl G nL Q pc L (.int i :: .ref a :: st) M := by
  subst hj
  intro H locs ls hP hS hl
  have hlt : i.toNatClampNeg < n := Nat.not_le.mp fun q => hin (Or.inr q)
  have hk := k H locs ls hP hS hl
  have hv : va_rf (if i.toNatClampNeg < n then some (G.2.1 (b + i.toNatClampNeg)) else none) = Value.ref (G.2.1 (b + i.toNatClampNeg)) := by rw [if_pos hlt]; rfl
  exact W.aald (v := Value.ref (G.2.1 (b + i.toNatClampNeg))) (ty := .array .int) F.1 F.2.1 (hP a _ (wl_get (G := G) (M := M) ha)) ((F.2.2.2.2.2.2.1.2 2 _ rfl).1 n (fun j => va_rf (if j < n then some (G.2.1 (b + j)) else none))) rfl (fun q => by cases q) (by show ¬ (i < 0 ∨ (arrV _ _ _).slots.size ≤ _); rw [arrV_size]; exact hin) (by show (arrV _ _ _).slots[_]? = _; rw [arrV_read _ _ hlt, hv]) rfl rfl hd hk
theorem X_alen (F : FrP sh G p s m args c own cc nL) {a t n : Nat} {v : Int32} (ha : sh[a]? = some (.inl (t, n))) (hv : Int32.ofNat n = v) (hd : decode cc pc = .ok (.arraylength, 1)) (k : XJ sh p l e R s m args below meth c ca sl G nL Q (pc + 1) L (.int v :: st) M) : XJ sh p l e R s m args below meth c ca sl G nL Q pc L (.ref a :: st) M := by
  intro H locs ls hP hS hl
  have hk := k H locs ls hP hS hl
  have hw := wl_get (G := G) (M := M) ha
  match t, ha, hw with
  | 0, _, hw => exact va_alen F.1 F.2.1 F.2.2.2.2.2.2.1 hP a 0 hw rfl hv hd hk
  | 1, _, hw => exact va_alen F.1 F.2.1 F.2.2.2.2.2.2.1 hP a 1 hw rfl hv hd hk
  | b + 2, _, hw => exact va_alen F.1 F.2.1 F.2.2.2.2.2.2.1 hP a 2 hw rfl hv hd hk
theorem X_under (F : FrP sh G p s m args c own cc nL) {idx : Nat} (hw : Cond.fieldLink own idx "KeepOurPlace" "UNDER" "[I" ∈ TBL) (hd : decode cc pc = .ok (.getstatic idx, 3)) (k : XJ sh p l e R s m args below meth c ca sl G nL Q (pc + 3) L (.ref 200 :: st) M) : XJ sh p l e R s m args below meth c ca sl G nL Q pc L st M :=
  fun H locs ls hP hS hl => va_gets F.1 F.2.1 F.2.2.2.2.2.2.2.2.1 hS F.2.2.2.1 (F.2.2.2.2.1 _ hw) (fun _ h => h) hd (k H locs ls hP hS hl)
theorem X_underld (F : FrP sh G p s m args c own cc nL) {i : Int32} (hin : vp_in i 6) (hd : decode cc pc = .ok (.iaload, 1)) (k : XJ sh p l e R s m args below meth c ca sl G nL Q (pc + 1) L (.int (underL.getD i.toNatClampNeg 0) :: st) M) : XJ sh p l e R s m args below meth c ca sl G nL Q pc L (.int i :: .ref 200 :: st) M := by
  intro H locs ls hP hS hl
  have hk := k H locs ls hP hS hl
  obtain ⟨cell, h1, h2, h3, h4, h5, h6, h7⟩ := F.2.2.2.2.2.2.2.2.2.1
  have hlt : i.toNatClampNeg < 6 := Nat.not_le.mp fun q => hin (Or.inr q)
  have hin' : ¬ (i < 0 ∨ cell.slots.size ≤ i.toNatClampNeg) := by
    intro q
    rcases q with q | q
    · exact hin (Or.inl q)
    · omega
  exact W.iald (v := .int (underL.getD i.toNatClampNeg 0)) F.1 F.2.1 (by rw [hS.2.1 _ (Array.getElem?_eq_some_iff.mp h1).1 h7]; exact h1) h2 h3 hin' (h6 _ hlt) rfl rfl hd hk
/-- copying between two rows of ints -/
theorem X_acopy (F : FrP sh G p s m args c own cc nL) {a0 a n0 n1 idx : Nat} {sp dp n : Int32} (hl1 : Cond.methodLink own idx arraycopyName ∈ TBL) (hnat : Cond.native arraycopyName ∈ TBL) (hstt : Cond.static arraycopyName ∈ TBL) (hini : Cond.initialized "java/lang/System" ∈ TBL) (ha0 : sh[a0]? = some (.inl (0, n0))) (ha1 : sh[a]? = some (.inl (0, n1))) (h1 : ¬ sp < 0) (h2 : ¬ dp < 0) (h3 : ¬ n < 0) (h4 : sp.toNatClampNeg + n.toNatClampNeg ≤ n0) (h5 : dp.toNatClampNeg + n.toNatClampNeg ≤ n1) (hfr : 1 ≤ R.frames) (hlo : (st.map fun v => v.category).sum + (nativeFrameWords "java/lang/System" "arraycopy" 5 + 11) ≤ R.locals) (hd : decode cc pc = .ok (.invokestatic idx, 3))
    (k : XJ sh p l e R s m args below meth c ca sl G nL Q (pc + 3) L st (upA M a (va_cpy (M a0) (M a) sp.toNatClampNeg dp.toNatClampNeg n.toNatClampNeg))) : XJ sh p l e R s m args below meth c ca sl G nL Q pc L (.int n :: .int dp :: .ref a :: .int sp :: .ref a0 :: st) M := by
  intro H locs ls hP hS hl
  refine va_copyi F.1 F.2.1 (F.2.2.1.trans hl.1.symm) F.2.2.2.1 (F.2.2.2.2.1 _ hl1) (F.2.2.2.2.1 _ hnat) (F.2.2.2.2.1 _ hstt) (F.2.2.2.2.1 _ hini) F.2.2.2.2.2.2.1 hP (wl_D F.2.2.2.2.2.2.2.1) hS a0 a 0 0 (wl_get (G := G) (M := M) ha0) (wl_get (G := G) (M := M) ha1) rfl rfl rfl h1 h2 h3 h4 h5 (fun _ _ => rfl) hfr (Nat.le_trans (Nat.le_of_eq (congrArg (fun z => z + (nativeFrameWords "java/lang/System" "arraycopy" 5 + 11)) (cvs_cat G.2.1 st))) hlo) hd (fun H1 locs1 hP1 _ hS1 => k H1 locs1 ls ?_ hS1 hl)
  have e := wl_set (G := G) (M := M) (M' := upA M a (va_cpy (M a0) (M a) sp.toNatClampNeg dp.toNatClampNeg n.toNatClampNeg)) ha1 (by intro d hd; simp [upA, hd])
  rw [← e]
  show va_P G.1 classes ((wl sh G M).set a (G.2.1 a, .inl (G.2.2.1, n1, .inl (upA M a (va_cpy (M a0) (M a) sp.toNatClampNeg dp.toNatClampNeg n.toNatClampNeg) a)))) H1
  have e2 : upA M a (va_cpy (M a0) (M a) sp.toNatClampNeg dp.toNatClampNeg n.toNatClampNeg) a = va_cpy (M a0) (M a) sp.toNatClampNeg dp.toNatClampNeg n.toNatClampNeg := by simp [upA]
  rw [e2]
  exact hP1
theorem X_mmax (F : FrP sh G p s m args c own cc nL) {idx : Nat} {x y : Int32} (hl1 : Cond.methodLink own idx Lib.Math.max.name ∈ TBL) (hst1 : Cond.static Lib.Math.max.name ∈ TBL) (hini : Cond.initialized "java/lang/Math" ∈ TBL) (hco : Cond.code Lib.Math.max.name Lib.Math.max.code 2 (some .int) ∈ TBL) (hfr : 1 ≤ R.frames ∧ ca ≤ R.cells ∧ sl ≤ R.slots) (hlo : (st.map fun v => v.category).sum + 13 ≤ R.locals) (hd : decode cc pc = .ok (.invokestatic idx, 3)) (k : XJ sh p l e R s m args below meth c ca sl G nL Q (pc + 3) L (.int (jmax x y) :: st) M) : XJ sh p l e R s m args below meth c ca sl G nL Q pc L (.int y :: .int x :: st) M := by
  intro H locs ls hP hS hl
  exact va_mmax F.1 F.2.1 (F.2.2.1.trans hl.1.symm) F.2.2.2.1 (F.2.2.2.2.1 _ hl1) (F.2.2.2.2.1 _ hst1) (F.2.2.2.2.1 _ hini) (F.2.2.2.2.1 _ hco) hfr.1 (Nat.le_trans (Nat.le_of_eq (congrArg (fun z => z + 13) (cvs_cat G.2.1 st))) hlo) hfr.2.1 hfr.2.2 hd (k H locs ls hP hS hl)
theorem X_mmin (F : FrP sh G p s m args c own cc nL) {idx : Nat} {x y : Int32} (hl1 : Cond.methodLink own idx Lib.Math.min.name ∈ TBL) (hst1 : Cond.static Lib.Math.min.name ∈ TBL) (hini : Cond.initialized "java/lang/Math" ∈ TBL) (hco : Cond.code Lib.Math.min.name Lib.Math.min.code 2 (some .int) ∈ TBL) (hfr : 1 ≤ R.frames ∧ ca ≤ R.cells ∧ sl ≤ R.slots) (hlo : (st.map fun v => v.category).sum + 13 ≤ R.locals) (hd : decode cc pc = .ok (.invokestatic idx, 3)) (k : XJ sh p l e R s m args below meth c ca sl G nL Q (pc + 3) L (.int (jmin x y) :: st) M) : XJ sh p l e R s m args below meth c ca sl G nL Q pc L (.int y :: .int x :: st) M := by
  intro H locs ls hP hS hl
  exact va_mmin F.1 F.2.1 (F.2.2.1.trans hl.1.symm) F.2.2.2.1 (F.2.2.2.2.1 _ hl1) (F.2.2.2.2.1 _ hst1) (F.2.2.2.2.1 _ hini) (F.2.2.2.2.1 _ hco) hfr.1 (Nat.le_trans (Nat.le_of_eq (congrArg (fun z => z + 13) (cvs_cat G.2.1 st))) hlo) hfr.2.1 hfr.2.2 hd (k H locs ls hP hS hl)
theorem X_mabs (F : FrP sh G p s m args c own cc nL) {idx : Nat} {x : Int32} (hl1 : Cond.methodLink own idx Lib.Math.abs.name ∈ TBL) (hst1 : Cond.static Lib.Math.abs.name ∈ TBL) (hini : Cond.initialized "java/lang/Math" ∈ TBL) (hco : Cond.code Lib.Math.abs.name Lib.Math.abs.code 1 (some .int) ∈ TBL) (hfr : 1 ≤ R.frames ∧ ca ≤ R.cells ∧ sl ≤ R.slots) (hlo : (st.map fun v => v.category).sum + 13 ≤ R.locals) (hd : decode cc pc = .ok (.invokestatic idx, 3)) (k : XJ sh p l e R s m args below meth c ca sl G nL Q (pc + 3) L (.int (jabs x) :: st) M) : XJ sh p l e R s m args below meth c ca sl G nL Q pc L (.int x :: st) M := by
  intro H locs ls hP hS hl
  exact va_mabs F.1 F.2.1 (F.2.2.1.trans hl.1.symm) F.2.2.2.1 (F.2.2.2.2.1 _ hl1) (F.2.2.2.2.1 _ hst1) (F.2.2.2.2.1 _ hini) (F.2.2.2.2.1 _ hco) hfr.1 (Nat.le_trans (Nat.le_of_eq (congrArg (fun z => z + 13) (cvs_cat G.2.1 st))) hlo) hfr.2.1 hfr.2.2 hd (k H locs ls hP hS hl)
def sN (k : Nat) : Nat := lenJS.getD k 0
def sB (k j : Nat) : Int32 := (bytJS.getD k []).getD j 0
def cch (v : Int32) : Bool := jchar v == v
theorem cchN {v : Int32} (h : cch v = true) : narrow .char (.int v) = .int v := by
  rw [← beq_iff_eq.mp h]
  exact pk_nc v
theorem cchJ (v : Int32) : narrow .char (.int (jchar v)) = .int (jchar v) := pk_nc v
theorem X_ldcS0 (F : FrP sh G p s m args c RX8 cc nL) (hd : decode cc pc = .ok (.ldc 71, 2)) (k : XJ sh p l e R s m args below meth c ca sl G nL Q (pc + 2) L (.ref 201 :: st) M) : XJ sh p l e R s m args below meth c ca sl G nL Q pc L st M :=
  fun H locs ls hP hS hl => va_ldcS F.1 F.2.1 F.2.2.2.1 F.2.2.2.2.2.2.2.2.2.2.2.1.1 hd (k H locs ls hP hS hl)
theorem X_ldcS1 (F : FrP sh G p s m args c RX3 cc nL) (hd : decode cc pc = .ok (.ldc 91, 2)) (k : XJ sh p l e R s m args below meth c ca sl G nL Q (pc + 2) L (.ref 202 :: st) M) : XJ sh p l e R s m args below meth c ca sl G nL Q pc L st M :=
  fun H locs ls hP hS hl => va_ldcS F.1 F.2.1 F.2.2.2.1 F.2.2.2.2.2.2.2.2.2.2.2.1.2.1 hd (k H locs ls hP hS hl)
theorem X_ldcS2 (F : FrP sh G p s m args c RX3 cc nL) (hd : decode cc pc = .ok (.ldc 81, 2)) (k : XJ sh p l e R s m args below meth c ca sl G nL Q (pc + 2) L (.ref 203 :: st) M) : XJ sh p l e R s m args below meth c ca sl G nL Q pc L st M :=
  fun H locs ls hP hS hl => va_ldcS F.1 F.2.1 F.2.2.2.1 F.2.2.2.2.2.2.2.2.2.2.2.1.2.2 hd (k H locs ls hP hS hl)
theorem X_sval (F : FrP sh G p s m args c own cc nL) {si idx : Nat} (hs : si < 3) (hw : Cond.fieldLink own idx "java/lang/String" "value" "[B" ∈ TBL) (hd : decode cc pc = .ok (.getfield idx, 3)) (k : XJ sh p l e R s m args below meth c ca sl G nL Q (pc + 3) L (.ref (211 + si) :: st) M) : XJ sh p l e R s m args below meth c ca sl G nL Q pc L (.ref (201 + si) :: st) M :=
  fun H locs ls hP hS hl => vk_getf F.1 F.2.1 (F.2.2.2.2.2.2.2.2.2.2.1.1 si hs).2.2.1 hS F.2.2.2.1 (F.2.2.2.2.1 _ hw) (fun _ h => h) hd (k H locs ls hP hS hl)
theorem X_scod (F : FrP sh G p s m args c own cc nL) {si idx : Nat} (hs : si < 3) (hw : Cond.fieldLink own idx "java/lang/String" "coder" "B" ∈ TBL) (hd : decode cc pc = .ok (.getfield idx, 3)) (k : XJ sh p l e R s m args below meth c ca sl G nL Q (pc + 3) L (.int 0 :: st) M) : XJ sh p l e R s m args below meth c ca sl G nL Q pc L (.ref (201 + si) :: st) M :=
  fun H locs ls hP hS hl => vk_getf F.1 F.2.1 (F.2.2.2.2.2.2.2.2.2.2.1.1 si hs).2.1 hS F.2.2.2.1 (F.2.2.2.2.1 _ hw) (fun _ h => h) hd (k H locs ls hP hS hl)
theorem X_scmp (F : FrP sh G p s m args c own cc nL) {idx : Nat} (hw : Cond.fieldLink own idx "java/lang/String" "COMPACT_STRINGS" "Z" ∈ TBL) (hd : decode cc pc = .ok (.getstatic idx, 3)) (k : XJ sh p l e R s m args below meth c ca sl G nL Q (pc + 3) L (.int 1 :: st) M) : XJ sh p l e R s m args below meth c ca sl G nL Q pc L st M :=
  fun H locs ls hP hS hl => va_gets F.1 F.2.1 F.2.2.2.2.2.2.2.2.2.2.2.2.1 hS F.2.2.2.1 (F.2.2.2.2.1 _ hw) (fun _ h => h) hd (k H locs ls hP hS hl)
theorem X_ssio (F : FrP sh G p s m args c own cc nL) {idx : Nat} (hw : Cond.fieldLink own idx "jdk/internal/util/Preconditions" "SIOOBE_FORMATTER" "Ljava/util/function/BiFunction;" ∈ TBL) (hd : decode cc pc = .ok (.getstatic idx, 3)) (k : XJ sh p l e R s m args below meth c ca sl G nL Q (pc + 3) L (.ref 204 :: st) M) : XJ sh p l e R s m args below meth c ca sl G nL Q pc L st M :=
  fun H locs ls hP hS hl => va_gets F.1 F.2.1 F.2.2.2.2.2.2.2.2.2.2.2.2.2 hS F.2.2.2.1 (F.2.2.2.2.1 _ hw) (fun _ h => h) hd (k H locs ls hP hS hl)
theorem X_sbald (F : FrP sh G p s m args c own cc nL) {si j : Nat} {i : Int32} (hs : si < 3) (hin : vp_in i (sN si)) (hj : i.toNatClampNeg = j) (hd : decode cc pc = .ok (.baload, 1)) (k : XJ sh p l e R s m args below meth c ca sl G nL Q (pc + 1) L (.int (sB si j) :: st) M) : XJ sh p l e R s m args below meth c ca sl G nL Q pc L (.int i :: .ref (211 + si) :: st) M := by
  subst hj
  intro H locs ls hP hS hl
  have hk := k H locs ls hP hS hl
  obtain ⟨cell, h1, h2, h3, h4, h5, h6, h7⟩ := (F.2.2.2.2.2.2.2.2.2.2.1.1 si hs).2.2.2
  have hlt : i.toNatClampNeg < sN si := Nat.not_le.mp fun q => hin (Or.inr q)
  have hin' : ¬ (i < 0 ∨ cell.slots.size ≤ i.toNatClampNeg) := by
    intro q
    rcases q with q | q
    · exact hin (Or.inl q)
    · exact absurd (Nat.lt_of_lt_of_le hlt h4) (Nat.not_lt.mpr q)
  exact W.bald (v := .int (sB si i.toNatClampNeg)) F.1 F.2.1 (by rw [hS.2.1 _ (Array.getElem?_eq_some_iff.mp h1).1 h7]; exact h1) h2 h3 hin' (h6 _ hlt) rfl rfl hd hk
theorem X_sblen (F : FrP sh G p s m args c own cc nL) {si : Nat} (hs : si < 3) (hd : decode cc pc = .ok (.arraylength, 1)) (k : XJ sh p l e R s m args below meth c ca sl G nL Q (pc + 1) L (.int (Int32.ofNat (sN si)) :: st) M) : XJ sh p l e R s m args below meth c ca sl G nL Q pc L (.ref (211 + si) :: st) M := by
  intro H locs ls hP hS hl
  have hk := k H locs ls hP hS hl
  obtain ⟨cell, h1, h2, h3, h4, h5, h6, h7⟩ := (F.2.2.2.2.2.2.2.2.2.2.1.1 si hs).2.2.2
  exact W.alen (n := Int32.ofNat (sN si)) F.1 F.2.1 (by rw [hS.2.1 _ (Array.getElem?_eq_some_iff.mp h1).1 h7]; exact h1) h2 h5 rfl rfl hd hk
theorem X_iret {r : Option Value × Mem} (F : FrP sh G p s m args c own cc nL) (hr : meth.sig.returnType = some .int) (hlk : meth.locks = false) {v : Int32} (hv : r = (some (.int v), M)) (hd : decode cc pc = .ok (.ireturn, 1)) : XJ sh p l e R s m args below meth c 0 0 G nL (MQ below (QcX sh G r.1 r.2) args s 0 0 (AW sh G.2.1)) pc L [.int v] M := by
  subst hv
  exact fun H locs ls hP hS hl => W.iret F.1 F.2.1 hr (fun t ht hW => ⟨rfl, by rw [ht]; exact hP, hS.F ht⟩) hS.2.2 hd hlk
theorem X_lret {r : Option Value × Mem} (F : FrP sh G p s m args c own cc nL) (hr : meth.sig.returnType = some .long) (hlk : meth.locks = false) {v : Int64} (hv : r = (some (.long v), M)) (hd : decode cc pc = .ok (.lreturn, 1)) : XJ sh p l e R s m args below meth c 0 0 G nL (MQ below (QcX sh G r.1 r.2) args s 0 0 (AW sh G.2.1)) pc L [.long v] M := by
  subst hv
  exact fun H locs ls hP hS hl => W.lret F.1 F.2.1 hr (fun t ht hW => ⟨rfl, by rw [ht]; exact hP, hS.F ht⟩) hS.2.2 hd hlk
theorem X_zret {r : Option Value × Mem} {ty : FieldType} (F : FrP sh G p s m args c own cc nL) (hr : meth.sig.returnType = some ty) (hlk : meth.locks = false) {v : Int32} (hn : narrow ty (.int v) = .int v) (hv : r = (some (.int v), M)) (hd : decode cc pc = .ok (.ireturn, 1)) : XJ sh p l e R s m args below meth c 0 0 G nL (MQ below (QcX sh G r.1 r.2) args s 0 0 (AW sh G.2.1)) pc L [.int v] M := by
  subst hv
  exact fun H locs ls hP hS hl => W.zret F.1 F.2.1 hr hn (fun t ht hW => ⟨rfl, by rw [ht]; exact hP, hS.F ht⟩) hS.2.2 hd hlk
theorem X_vret {r : Option Value × Mem} (F : FrP sh G p s m args c own cc nL) (hr : meth.sig.returnType = none) (hlk : meth.locks = false) (hv : r = (none, M)) (hd : decode cc pc = .ok (.return_, 1)) : XJ sh p l e R s m args below meth c 0 0 G nL (MQ below (QcX sh G r.1 r.2) args s 0 0 (AW sh G.2.1)) pc L [] M := by
  subst hv
  exact fun H locs ls hP hS hl => W.vret F.1 F.2.1 hr (fun t ht hW => ⟨rfl, by rw [ht]; exact hP, hS.F ht⟩) hS.2.2 hd hlk
/-- a callee, and the link to it -/
def CLE (y : MethodName) (n : Nat) (bytes : ByteArray) (mL : Nat) (ret : Option FieldType) : Prop := Cond.initialized y.cls ∈ TBL ∧ Cond.code y bytes mL ret ∈ TBL ∧ (y.cls ≠ "java/lang/invoke/MethodHandle" ∧ y.cls ≠ "java/lang/invoke/VarHandle") ∧ (parseMethodDescriptor y.desc).map (fun d => d.parameters.length) = some n
def CLV (y : MethodName) : Prop := Cond.instanceMethod y ∈ TBL ∧ Cond.selects y.cls y y ∈ TBL
def LNK (own : String) (idx : Nat) (y : MethodName) : Prop := Cond.methodLink own idx y ∈ TBL ∨ ∃ host, Cond.methodLinkNest own idx y host ∈ NTB
theorem PcX_blind {av : List Value} : FrameBlind (PcX sh G av M) := fun a U g mk h => ⟨h.1, h.2.1, va_K.moved (u := U) (U := U.calling g mk a) (Vm.Alike.refl U.vm) h.2.2.1, NW.same (u := U) (U := U.calling g mk a) rfl h.2.2.2.1, EXT.call h.2.2.2.2⟩
theorem PcX_at {av : List Value} (F : FrP sh G p s m args c own cc nL) {H : Heap} {locs : List Loc} (hP : va_P G.1 classes (wl sh G M) H) (hS : va_S (AW sh G.2.1) s.heap H locs) : ∀ U : State, U.heap = H → s.WarmedH U.vm → PcX sh G av M (cvs G.2.1 av).toArray U := by
  intro U hU hW
  refine ⟨rfl, by rw [hU]; exact hP, va_K.moved hW.alike F.2.2.2.2.2.2.1, NW.warm hW F.2.2.2.2.2.1, EXT.warm hW F.2.2.2.2.2.2.2.2 ?_⟩
  intro a h1 h2
  rw [hU]
  exact hS.2.1 a h1 h2
theorem goodCode {y : MethodName} {bytes : ByteArray} {mL : Nat} {ret : Option FieldType} (h : Cond.code y bytes mL ret ∈ TBL) : GoodIn TBL (.code y bytes mL ret :: TBL) := tsub (fun w hw => (List.mem_cons.mp hw).elim (fun q => by rw [q]; exact h) (fun q => q))
/-- behind a call -/
theorem X_back {H : Heap} {locs : List Loc} {ls : Array Slot} {st0 rest : List Value} {a : Array Value} {r : Option Value × Mem} (hr : va_Run p l e R s m args below meth c H locs ca sl 0 0 (F0 m pc ls (cvs G.2.1 st0)) (cvs G.2.1 rest) (QcX sh G r.1 r.2 a) (AW sh G.2.1)) (hS : va_S (AW sh G.2.1) s.heap H locs) (hl : lv_has ls nL (cvl G.2.1 L)) (k : XJ sh p l e R s m args below meth c ca sl G nL Q (pc + 3) L (r.1.toList ++ rest) r.2) : W p l e R s m args below meth c H locs ca sl Q (F0 m pc ls (cvs G.2.1 st0)) := by
  intro T hT X
  obtain ⟨v, st₀, t, T', Lc, h0, X', hL, e1, e2, ⟨hv, hb, hz, hk⟩, stp⟩ := hr T hT X
  have hv' := Outcome.returned.inj hv
  subst hv'
  rw [h0] at hz hk
  have hS' : va_S (AW sh G.2.1) s.heap T'.heap (locs ++ Lc) := ⟨Nat.le_trans hS.1 (by rw [e1]; exact hz), fun q h1 h2 => by rw [e1, hk q (Nat.lt_of_lt_of_le h1 hS.1) h2]; exact hS.2.1 q h1 h2, fun q hq => by
      rcases List.mem_append.mp hq with h | h
      · exact hS.2.2 q h
      · exact hL q h⟩
  obtain ⟨t2, a1, b1⟩ := k T'.heap (locs ++ Lc) ls (by rw [e1]; exact hb) hS' hl T' rfl X'
  refine ⟨t2, stp t2 ?_, b1⟩
  have e3 : (r.1.map (cv G.2.1)).toList ++ cvs G.2.1 rest = cvs G.2.1 (r.1.toList ++ rest) := by
    unfold cvs
    rw [List.map_append]
    congr 1
    cases r.1 <;> rfl
  rw [e3]
  exact a1
theorem X_callR (F : FrP sh G p s m args c own cc nL) {idx n mL d ci : Nat} {y : MethodName} {bytes : ByteArray} {ret : Option FieldType} {As rest : List Value} {r : Option Value × Mem} (hlk : LNK own idx y) (he : CLE y n bytes mL ret) (hv : CLV y) (hrec : ∀ (H : Heap) (locs : List Loc), va_P G.1 classes (wl sh G M) H → va_S (AW sh G.2.1) s.heap H locs → ∃ cellB : Cell, H[G.2.1 ci]? = some cellB ∧ cellB.vm.isStatics = false ∧ s.vm.findClass y.cls = some cellB.cls) (hM : MetX sh l G y bytes mL ret d (.ref ci :: As) M r) (hst : st = As.reverse ++ .ref ci :: rest) (hlen : As.length = n) (hroom : (rest.map fun v => v.category).sum ≤ 8) (hR : d + 1 ≤ R.frames ∧ 8 + (mL + 11) + 100 * d ≤ R.locals ∧ ca ≤ R.cells ∧ sl ≤ R.slots) (hd : decode cc pc = .ok (.invokevirtual idx, 3)) (k : XJ sh p l e R s m args below meth c ca sl G nL Q (pc + 3) L (r.1.toList ++ rest) r.2) : XJ sh p l e R s m args below meth c ca sl G nL Q pc L st M := by
  subst hst
  intro H locs ls hP hS hl
  refine X_back (r := r) (rest := rest) (a := (cvs G.2.1 (.ref ci :: As)).toArray) ?_ hS hl k
  have hcell := hrec H locs hP hS
  have hp : PreV s H y.cls (G.2.1 ci) (PcX sh G (.ref ci :: As) M) (cvs G.2.1 As) := ⟨PcX_blind, hcell, PcX_at F hP hS⟩
  have hstk : (F0 m pc ls (cvs G.2.1 (As.reverse ++ .ref ci :: rest))).stack = (cvs G.2.1 As).reverse ++ .ref (G.2.1 ci) :: cvs G.2.1 rest := by
    show cvs G.2.1 (As.reverse ++ .ref ci :: rest) = _
    unfold cvs
    rw [List.map_append, List.map_reverse]
    rfl
  have hW : 2 * (F0 m pc ls (cvs G.2.1 (As.reverse ++ .ref ci :: rest))).monitorRoom + ((cvs G.2.1 rest).map fun v => v.category).sum ≤ 8 := lv_room (by rw [cvs_cat]; exact hroom)
  have hn : (cvs G.2.1 As).length = n := by unfold cvs; rw [List.length_map]; exact hlen
  rcases hlk with hlk | ⟨host, hlk⟩
  · have hT : GoodIn TBL (wsV own idx y.cls y (.code y bytes mL ret :: TBL)) := tsub (fun w hw => by
      unfold wsV at hw
      rcases List.mem_append.mp hw with h | h
      · simp only [List.mem_cons, List.not_mem_nil, or_false] at h
        rcases h with h | h | h | h
        · rw [h]; exact hlk
        · rw [h]; exact hv.1
        · rw [h]; exact hv.2
        · rw [h]; exact he.1
      · exact (goodCode he.2.1 w h).1)
    exact va_runV (Ts := TBL) ⟨F.1, F.2.1, F.2.2.1, F.2.2.2.1, F.2.2.2.2.1⟩ hM (cwV n F.2.2.2.2.1 hT rfl rfl rfl ⟨rfl, he.2.2.1.1, he.2.2.1.2, he.2.2.2⟩ ⟨hR.1, hR.2.1⟩) hp rfl hn hl.1 hstk hW hd ⟨hR.2.2.1, hR.2.2.2⟩
  · exact va_runVN (Ts := TBL) ⟨F.1, F.2.1, F.2.2.1, F.2.2.2.1, F.2.2.2.2.1⟩ hM ⟨va_cnB n F.2.2.2.2.1 (goodCode he.2.1) rfl rfl rfl (F.2.2.2.2.2.1 _ hlk) (F.2.2.2.2.1 _ he.1) ⟨he.2.2.1.1, he.2.2.1.2, he.2.2.2⟩ ⟨hR.1, hR.2.1⟩, F.2.2.2.2.1 _ hv.1, F.2.2.2.2.1 _ hv.2⟩ hp rfl hn hl.1 hstk hW hd ⟨hR.2.2.1, hR.2.2.2⟩
theorem X_callV (F : FrP sh G p s m args c own cc nL) {idx n mL d ci : Nat} {y : MethodName} {bytes : ByteArray} {ret : Option FieldType} {As rest : List Value} {r : Option Value × Mem} (hlk : LNK own idx y) (he : CLE y n bytes mL ret) (hv : CLV y) (hci : ∃ cj q tm, classes[cj]? = some q ∧ q.1 = y.cls ∧ sh[ci]? = some (.inr (cj, tm))) (hM : MetX sh l G y bytes mL ret d (.ref ci :: As) M r) (hst : st = As.reverse ++ .ref ci :: rest) (hlen : As.length = n) (hroom : (rest.map fun v => v.category).sum ≤ 8) (hR : d + 1 ≤ R.frames ∧ 8 + (mL + 11) + 100 * d ≤ R.locals ∧ ca ≤ R.cells ∧ sl ≤ R.slots) (hd : decode cc pc = .ok (.invokevirtual idx, 3)) (k : XJ sh p l e R s m args below meth c ca sl G nL Q (pc + 3) L (r.1.toList ++ rest) r.2) : XJ sh p l e R s m args below meth c ca sl G nL Q pc L st M := by
  obtain ⟨cj, q, tm, hq, hqy, hsh⟩ := hci
  exact X_callR F hlk he hv (fun H locs hP hS => by rw [← hqy]; exact va_recv F.2.2.2.2.2.2.1 hP hq (wl_get (G := G) (M := M) hsh)) hM hst hlen hroom hR hd k
theorem X_callT (F : FrP sh G p s m args c own cc nL) {idx n mL d si : Nat} {y : MethodName} {bytes : ByteArray} {ret : Option FieldType} {As rest : List Value} {r : Option Value × Mem} (hlk : LNK own idx y) (he : CLE y n bytes mL ret) (hv : CLV y) (hs : si < 3) (hyc : y.cls = "java/lang/String") (hM : MetX sh l G y bytes mL ret d (.ref (201 + si) :: As) M r) (hst : st = As.reverse ++ .ref (201 + si) :: rest) (hlen : As.length = n) (hroom : (rest.map fun v => v.category).sum ≤ 8) (hR : d + 1 ≤ R.frames ∧ 8 + (mL + 11) + 100 * d ≤ R.locals ∧ ca ≤ R.cells ∧ sl ≤ R.slots) (hd : decode cc pc = .ok (.invokevirtual idx, 3)) (k : XJ sh p l e R s m args below meth c ca sl G nL Q (pc + 3) L (r.1.toList ++ rest) r.2) : XJ sh p l e R s m args below meth c ca sl G nL Q pc L st M := by
  exact X_callR F hlk he hv (fun H locs hP hS => by rw [hyc]; have h9 := vk_recv (i := si) F.2.2.2.2.2.2.2.2.2.2.1 hs hS; exact h9) hM hst hlen hroom hR hd k
theorem X_callS (F : FrP sh G p s m args c own cc nL) {idx n mL d : Nat} {y : MethodName} {bytes : ByteArray} {ret : Option FieldType} {As rest : List Value} {r : Option Value × Mem} (hlk : Cond.methodLink own idx y ∈ TBL) (he : CLE y n bytes mL ret) (hv : Cond.static y ∈ TBL) (hM : MetX sh l G y bytes mL ret d As M r) (hst : st = As.reverse ++ rest) (hlen : As.length = n) (hroom : (rest.map fun v => v.category).sum ≤ 8) (hR : d + 1 ≤ R.frames ∧ 8 + (mL + 11) + 100 * d ≤ R.locals ∧ ca ≤ R.cells ∧ sl ≤ R.slots) (hd : decode cc pc = .ok (.invokestatic idx, 3)) (k : XJ sh p l e R s m args below meth c ca sl G nL Q (pc + 3) L (r.1.toList ++ rest) r.2) : XJ sh p l e R s m args below meth c ca sl G nL Q pc L st M := by
  subst hst
  intro H locs ls hP hS hl
  refine X_back (r := r) (rest := rest) (a := (cvs G.2.1 As).toArray) ?_ hS hl k
  have hp : PreS s H (PcX sh G As M) (cvs G.2.1 As) := ⟨PcX_blind, PcX_at F hP hS⟩
  have hstk : (F0 m pc ls (cvs G.2.1 (As.reverse ++ rest))).stack = (cvs G.2.1 As).reverse ++ cvs G.2.1 rest := by
    show cvs G.2.1 (As.reverse ++ rest) = _
    unfold cvs
    rw [List.map_append, List.map_reverse]
  have hW : 2 * (F0 m pc ls (cvs G.2.1 (As.reverse ++ rest))).monitorRoom + ((cvs G.2.1 rest).map fun v => v.category).sum ≤ 8 := lv_room (by rw [cvs_cat]; exact hroom)
  have hn : (cvs G.2.1 As).length = n := by unfold cvs; rw [List.length_map]; exact hlen
  have hT : GoodIn TBL (va_wsS own idx y (.code y bytes mL ret :: TBL)) := tsub (fun w hw => by
    unfold va_wsS at hw
    rcases List.mem_append.mp hw with h | h
    · simp only [List.mem_cons, List.not_mem_nil, or_false] at h
      rcases h with h | h | h
      · rw [h]; exact hlk
      · rw [h]; exact hv
      · rw [h]; exact he.1
    · exact (goodCode he.2.1 w h).1)
  exact va_runS (Ts := TBL) ⟨F.1, F.2.1, F.2.2.1, F.2.2.2.1, F.2.2.2.2.1⟩ hM (va_cwS n F.2.2.2.2.1 hT rfl rfl rfl ⟨he.2.2.1.1, he.2.2.1.2, he.2.2.2⟩ ⟨hR.1, hR.2.1⟩) hp rfl hn hl.1 hstk hW hd ⟨hR.2.2.1, hR.2.2.2⟩
theorem cvl_args (ad : Nat → Nat) : ∀ (av : List Value) (i : Nat), cvl ad (lv_args i av) = lv_args i (cvs ad av) := by
  intro av
  induction av with
  | nil => intro i; rfl
  | cons v t ih =>
    intro i
    show cvl ad (lv_args i (v :: t)) = lv_args i (cv ad v :: cvs ad t)
    simp only [lv_args, cvl, List.map_cons, cv_cat] at ih ⊢
    rw [ih]
/-- a method's contract out of its walk -/
theorem X_met {y : MethodName} {bytes : ByteArray} {mL d : Nat} {ret : Option FieldType} {av : List Value} {r : Option Value × Mem} (hI : Inj sh G.2.1) (hy : plainName y.cls = true) (hav : (lg_sl (cvs G.2.1 av)).length ≤ mL)
    (body : ∀ p e s m args below meth c, FrP sh G p s m args c y.cls bytes mL → meth.sig.returnType = ret → meth.locks = false → XJ sh p l e (rmX d) s m args below meth c 0 0 G mL (MQ below (QcX sh G r.1 r.2) args s 0 0 (AW sh G.2.1)) 0 (lv_args 0 av) [] M) : MetX sh l G y bytes mL ret d av M r := by
  refine Met.ofW (cc := bytes) (maxL := mL) (ret := ret) hy rfl ?_
  intro p e s m args below meth c s₁ B hml hv
  obtain ⟨rfl, hP, hK, hN, hE⟩ := hv
  have hts0 := atoms_spec (ws := Cond.code y bytes mL ret :: TBL) B.pre
  have hF : FrP sh G p s m (cvs G.2.1 av).toArray c y.cls bytes mL := ⟨B.exec, B.bytes, hml, findClass_of_methodNamed B.named, fun w hw => hts0 w (List.mem_cons_of_mem _ hw), hN, hK, hI, hE⟩
  have hl := lv_entry (cvs G.2.1 av) (n := mL) hav
  have hb := body p e s m (cvs G.2.1 av).toArray below meth c hF B.returns B.notSynchronized s.heap [] _ hP va_S.rf (by rw [cvl_args]; exact hl)
  rw [lg_entry_eq]
  exact hb
end XR
end
section
-- rows of rows: pasted from claim/NAMES.whole.lean.txt (printed by the kit)
/-! ===== BEGIN new T[n][m]: the outer array a place, the inner ones among the pooled ===== -/
/-- f, but v at every address of l -/
def vr_up {α : Type} (f : Nat → α) (l : List Nat) (v : α) : Nat → α := fun a => if a ∈ l then v else f a
theorem vr_up_in {α : Type} {f : Nat → α} {l : List Nat} {v : α} {a : Nat} (h : a ∈ l) : vr_up f l v a = v := if_pos h
theorem vr_up_ne {α : Type} {f : Nat → α} {l : List Nat} {v : α} {a : Nat} (h : a ∉ l) : vr_up f l v a = f a := if_neg h
theorem vr_rows {L l : List Nat} {f : Nat → va_E} {e : va_E} (h : ∀ a, a ∈ l → a ∉ L) : va_pl L f ++ l.map (fun a => (a, e)) = va_pl (L ++ l) (vr_up f l e) := by
  unfold va_pl
  rw [List.map_append]
  congr 1
  · apply List.map_congr_left
    intro a ha
    rw [vr_up_ne (fun q => h a q ha)]
  · apply List.map_congr_left
    intro a ha
    rw [vr_up_in ha]
theorem vr_lay {X rows : va_W} {x : Nat × va_E} {pl : va_W} {D : va_G} {cl : List vw_C} {H : Heap} (hP : va_P D cl (((X ++ pl) ++ [x]) ++ rows) H) : va_P D cl ((X ++ [x]) ++ (pl ++ rows)) H := by
  rw [List.append_assoc (X ++ pl)] at hP
  have h := va_P.swap hP
  rw [← List.append_assoc X] at h
  have h2 := va_P.swap h
  rw [List.append_assoc (X ++ [x])] at h2
  exact h2
theorem vr_layD {X rows : va_W} {x : Nat × va_E} {pl : va_W} {A : Nat → Prop} (hD : va_D A (((X ++ pl) ++ [x]) ++ rows)) : va_D A ((X ++ [x]) ++ (pl ++ rows)) := by
  rw [List.append_assoc (X ++ pl)] at hD
  have h := va_D.swap hD
  rw [← List.append_assoc X] at h
  have h2 := va_D.swap h
  rw [List.append_assoc (X ++ [x])] at h2
  exact h2
theorem vr_outer (c : ClassId) (N h0 : Nat) : ∀ i : Nat, Jvm.Free.Multi.outerC c N h0 i = arrV c N (fun j => va_rf (if j < i then some (h0 + 1 + j) else none))
  | 0 => by
    show ({ cls := c, slots := Array.replicate N .null, vm := .none } : Cell) = _
    rw [arrV_new]
    refine congrArg (arrV c N) (funext fun j => ?_)
    simp [va_rf]
  | i + 1 => by
    show (Jvm.Free.Multi.outerC c N h0 i).setSlot i (.ref (h0 + 1 + i)) = _
    rw [vr_outer c N h0 i, arrV_store]
    refine congrArg (arrV c N) (funext fun j => ?_)
    by_cases e : j = i
    · subst e
      simp [updV, va_rf]
    · by_cases h : j < i
      · simp [updV, e, h, Nat.lt_succ_of_lt h]
      · simp [updV, e, h, show ¬ j < i + 1 by omega]
section VGM
variable {p : Program} {l : Launch} {e : Env} {R : Room} {s : State} {m : MethodId} {args : Array Value} {below : List Frame} {meth : Method} {c : Code} {H : Heap} {locs : List Loc} {cells slots : Nat} {Q : State → Prop}
variable {cc : ByteArray} {pc : Nat} {ls : Array Slot} {rest : List Value} {D : va_G} {cl : List vw_C} {A : Nat → Prop} {a : Nat} {tys : List (ClassId × FieldType)} {ws : va_W} {H0 : Heap}
theorem va_mna {X : va_W} {L : List Nat} {f : Nat → va_E} {cc : ByteArray} (hexec : p.tables.exec = Jvm.exec) (hb : c.code = cc) {own : String} {index : Nat} {ty : FieldType} {cy : ClassId} (hown : s.vm.findClass own = some m.cls) (hclink : (Cond.classLink own index ("[" ++ (FieldType.array ty).toString)).before args s = true) (hover : (Cond.arrayOver (.array ty)).before args s = true) (harr : (Cond.arrayClass ty).before args s = true) (hcy : s.vm.findClass (FieldType.array ty).toString = some cy)
    (hK : va_K D cl tys s) (hP : va_P D cl (X ++ va_pl L f) H) (hD : va_D A (X ++ va_pl L f)) (hS : va_S A H0 H locs) (hA : ∀ q, H0.size ≤ q → A q) {n k : Int32} {N' K' : Nat} {z : vp_A} (hn : ¬ n < 0) (hk : ¬ k < 0) (hN : n.toNatClampNeg = N') (hM : k.toNatClampNeg = K')
    (hb1 : N' * 4 ≤ 536870912) (hb2 : K' * componentBytes ty ≤ 536870912) (hb3 : K' ≤ 536870912) (hdf : fits ty (defaultValue ty) = true) (hdd : (defaultValue ty).isDefault = true) (hcells : cells + (1 + N') ≤ R.cells) (hslots : slots + (N' + N' * K') ≤ R.slots) (hz : ∀ c : ClassId, Jvm.Free.Multi.innerC c K' (defaultValue ty) = vp_cell c z) (hdg : decode cc pc = .ok (.multianewarray index 2, 4))
    (kk : ∀ (q : Nat) (r : Nat → Nat) (cA : ClassId) (H1 : Heap), (∀ i j : Nat, i < N' → j < N' → r i = r j → i = j) → (∀ i : Nat, i < N' → r i ∉ L) → va_K D cl (tys ++ [(cA, .array ty)]) s →
      va_P D cl ((X ++ [(q, .inl (cA, N', .inr (.inr (.inr (.inr (fun i => if i < N' then some (r i) else none))))))]) ++ va_pl (L ++ (List.range N').map r) (vr_up f ((List.range N').map r) (.inl (cy, z)))) H1 → va_D A ((X ++ [(q, .inl (cA, N', .inr (.inr (.inr (.inr (fun i => if i < N' then some (r i) else none))))))]) ++ va_pl (L ++ (List.range N').map r) (vr_up f ((List.range N').map r) (.inl (cy, z)))) → va_S A H0 H1 locs →
      W p l e R s m args below meth c H1 locs (cells + 1 + N') (slots + N' + N' * K') Q (F0 m (pc + 4) ls (.ref q :: rest))) : W p l e R s m args below meth c H locs cells slots Q (F0 m pc ls (.int k :: .int n :: rest)) := by
  subst hN
  subst hM
  intro T hT Xs
  obtain ⟨vm₁, cA, comp, -, fA, fC, hO, -, X', step⟩ := Xs.multianewarray2F hexec hown hclink hover harr (g := F0 m pc ls (.int k :: .int n :: rest)) rfl (by rw [hb]; exact hdg) rfl hn hk hb1 hb2 hb3 hdf hdd hcells hslots
  have ec : some cy = some comp := hcy.symm.trans fC
  cases ec
  generalize hF : Jvm.Free.Multi.fill (T.setVm vm₁) cA cy n.toNatClampNeg k.toNatClampNeg (defaultValue ty) n.toNatClampNeg = F at X' step
  have hTh : (T.setVm vm₁).heap = H := hT
  obtain ⟨f1, f2, -, -⟩ := Jvm.Free.Multi.fill_facts (T.setVm vm₁) cA cy n.toNatClampNeg k.toNatClampNeg (defaultValue ty) n.toNatClampNeg
  rw [hF, hTh] at f1 f2
  have hold : ∀ x : Nat, x < H.size → F.heap[x]? = H[x]? := fun x hx => by
    have := Jvm.Free.Multi.fill_old (T.setVm vm₁) cA cy n.toNatClampNeg k.toNatClampNeg (defaultValue ty) (a := x) (by rw [hTh]; exact hx) n.toNatClampNeg
    rw [hF, hTh] at this
    exact this
  have hrow : ∀ j : Nat, j < n.toNatClampNeg → F.heap[H.size + 1 + j]? = some (vp_cell cy z) := fun j hj => by
    have := Jvm.Free.Multi.fill_inner (T.setVm vm₁) cA cy n.toNatClampNeg k.toNatClampNeg (defaultValue ty) n.toNatClampNeg j hj
    rw [hF, hTh, hz] at this
    exact this
  have hout : Jvm.Free.Multi.outerC cA n.toNatClampNeg H.size n.toNatClampNeg = vp_cell cA (n.toNatClampNeg, .inr (.inr (.inr (.inr (fun i => if i < n.toNatClampNeg then some (H.size + 1 + i) else none))))) := by
    rw [vp_cell_q]
    exact vr_outer cA n.toNatClampNeg H.size n.toNatClampNeg
  rw [hout] at f2
  have hlt : ∀ a, a ∈ L → a < H.size := fun a ha => by
    obtain ⟨k9, hk9⟩ := va_pl_get (X := X) (f := f) ha
    exact (hP k9 _ hk9).lt
  have hnl : ∀ i : Nat, i < n.toNatClampNeg → H.size + 1 + i ∉ L := fun i _ h => by
    have := hlt _ h
    omega
  have hnm : ∀ a, a ∈ (List.range n.toNatClampNeg).map (fun i => H.size + 1 + i) → a ∉ L := fun a ha h => by
    obtain ⟨i, -, rfl⟩ := List.mem_map.mp ha
    have := hlt _ h
    omega
  have hP0 : va_P D cl (X ++ va_pl L f) F.heap := hP.kept (fun k9 x hx => hold x.1 ((hP k9 x hx).lt))
  have hP1 : va_P D cl ((X ++ va_pl L f) ++ [(H.size, .inl (cA, n.toNatClampNeg, .inr (.inr (.inr (.inr (fun i => if i < n.toNatClampNeg then some (H.size + 1 + i) else none))))))]) F.heap := hP0.app (fun k9 x hx => by
    have h0 : k9 < 1 := (List.getElem?_eq_some_iff.mp hx).1
    rw [show k9 = 0 by omega] at hx
    cases hx
    exact f2)
  have hP2 : va_P D cl (((X ++ va_pl L f) ++ [(H.size, .inl (cA, n.toNatClampNeg, .inr (.inr (.inr (.inr (fun i => if i < n.toNatClampNeg then some (H.size + 1 + i) else none))))))]) ++ ((List.range n.toNatClampNeg).map (fun i => H.size + 1 + i)).map (fun a => (a, .inl (cy, z)))) F.heap := hP1.app (fun k9 x hx => by
    obtain ⟨a, ha, rfl⟩ := List.mem_map.mp (List.mem_of_getElem? hx)
    obtain ⟨i, hi, rfl⟩ := List.mem_map.mp ha
    exact hrow i (List.mem_range.mp hi))
  have hD2 : va_D A (((X ++ va_pl L f) ++ [(H.size, .inl (cA, n.toNatClampNeg, .inr (.inr (.inr (.inr (fun i => if i < n.toNatClampNeg then some (H.size + 1 + i) else none))))))]) ++ ((List.range n.toNatClampNeg).map (fun i => H.size + 1 + i)).map (fun a => (a, .inl (cy, z)))) := by
    have hD1 := hD.push (e := .inl (cA, n.toNatClampNeg, .inr (.inr (.inr (.inr (fun i => if i < n.toNatClampNeg then some (H.size + 1 + i) else none)))))) hP rfl (hA _ hS.1)
    generalize hW1 : (X ++ va_pl L f) ++ [(H.size, .inl (cA, n.toNatClampNeg, .inr (.inr (.inr (.inr (fun i => if i < n.toNatClampNeg then some (H.size + 1 + i) else none))))))] = W1 at hD1 hP1 ⊢
    have hle : ∀ (k9 : Nat) (x : Nat × va_E), W1[k9]? = some x → x.1 ≤ H.size := fun k9 x hx => by
      rw [← hW1] at hx
      by_cases hl : k9 < (X ++ va_pl L f).length
      · rw [List.getElem?_append_left hl] at hx
        exact Nat.le_of_lt ((hP k9 x hx).lt)
      · rw [List.getElem?_append_right (by omega)] at hx
        have h0 : k9 - (X ++ va_pl L f).length < 1 := (List.getElem?_eq_some_iff.mp hx).1
        rw [show k9 - (X ++ va_pl L f).length = 0 by omega] at hx
        cases hx
        exact Nat.le_refl _
    have hr : ∀ (k9 : Nat) (x : Nat × va_E), (((List.range n.toNatClampNeg).map (fun i => H.size + 1 + i)).map (fun a => ((a, .inl (cy, z)) : Nat × va_E)))[k9]? = some x → x.1 = H.size + 1 + k9 := fun k9 x hx => by
      rw [List.getElem?_map, List.getElem?_map] at hx
      by_cases h9 : k9 < n.toNatClampNeg
      · rw [List.getElem?_range h9] at hx
        cases hx
        rfl
      · have hn0 : (List.range n.toNatClampNeg)[k9]? = none := List.getElem?_eq_none (by rw [List.length_range]; omega)
        rw [hn0] at hx
        cases hx
    refine ⟨fun i j x y hi hj hxy => ?_, fun k9 x hx => ?_⟩
    · by_cases h1 : i < W1.length <;> by_cases h2 : j < W1.length
      · rw [List.getElem?_append_left h1] at hi
        rw [List.getElem?_append_left h2] at hj
        exact hD1.1 i j x y hi hj hxy
      · rw [List.getElem?_append_left h1] at hi
        rw [List.getElem?_append_right (by omega)] at hj
        have := hle _ _ hi
        have := hr _ _ hj
        omega
      · rw [List.getElem?_append_right (by omega)] at hi
        rw [List.getElem?_append_left h2] at hj
        have := hle _ _ hj
        have := hr _ _ hi
        omega
      · rw [List.getElem?_append_right (by omega)] at hi hj
        have := hr _ _ hi
        have := hr _ _ hj
        omega
    · by_cases h1 : k9 < W1.length
      · rw [List.getElem?_append_left h1] at hx
        exact hD1.2 k9 x hx
      · rw [List.getElem?_append_right (by omega)] at hx
        have := hr _ _ hx
        exact hA _ (by have := hS.1; omega)
  have hAr : ArrOfT s cA (.array ty) := fun N9 z9 => by
    obtain ⟨-, k9, hk9, cm9, hkk9⟩ := (hO 0 0 0).1
    exact ⟨(fun q hq => by cases hq), k9, hk9, cm9, hkk9⟩
  have hK2 : va_K D cl (tys ++ [(cA, .array ty)]) s := ⟨hK.1, fun k9 x hx => by
    by_cases hl : k9 < tys.length
    · rw [List.getElem?_append_left hl] at hx
      exact hK.2 k9 x hx
    · rw [List.getElem?_append_right (by omega)] at hx
      have h0 : k9 - tys.length < 1 := (List.getElem?_eq_some_iff.mp hx).1
      rw [show k9 - tys.length = 0 by omega] at hx
      cases hx
      exact ⟨hAr, fA⟩⟩
  obtain ⟨t, a1, b1⟩ := kk H.size (fun i => H.size + 1 + i) cA F.heap (fun i j _ _ h => by have h9 : H.size + 1 + i = H.size + 1 + j := h; omega) hnl hK2 (by rw [← vr_rows hnm]; exact vr_lay hP2) (by rw [← vr_rows hnm]; exact vr_layD hD2) ⟨by rw [f1]; have := hS.1; omega, fun x h1 h2 => (hold x (Nat.lt_of_lt_of_le h1 hS.1)).trans (hS.2.1 x h1 h2), hS.2.2⟩ F rfl X'
  refine ⟨t, step t ?_, b1⟩
  have e : T.heap.size = H.size := by rw [hT]
  rw [e]
  exact a1
end VGM
/-! CONSTRUCTORS: the world grows by a cell; a final reference is put into an object that is being made -/
def adU (ad : Nat → Nat) (n q : Nat) : Nat → Nat := fun c => if c = n then q else ad c
def GU (G : GG) (n q : Nat) : GG := (G.1, adU G.2.1 n q, G.2.2)
def nrf (n : Nat) (v : Value) : Bool := match v with
  | .ref c => decide (c ≠ n)
  | _ => true
def shNo (n : Nat) (sh : List Shp) : Bool := sh.all (fun S => match S with
  | .inl (0, _) => true
  | .inl (1, _) => true
  | .inl (b + 2, k) => (List.range k).all (fun i => decide (b + i ≠ n))
  | .inr (_, tm) => tm.all (nrf n))
theorem cv_adU {ad : Nat → Nat} {n q : Nat} {v : Value} (h : nrf n v = true) : cv (adU ad n q) v = cv ad v := by
  cases v <;> try rfl
  rename_i c
  have h1 : c ≠ n := of_decide_eq_true h
  simp [cv, adU, h1]
theorem cvs_adU {ad : Nat → Nat} {n q : Nat} {st : List Value} (h : st.all (nrf n) = true) : cvs (adU ad n q) st = cvs ad st := by
  unfold cvs
  apply List.map_congr_left
  intro v hv
  exact cv_adU (List.all_eq_true.mp h v hv)
theorem cvl_adU {ad : Nat → Nat} {n q : Nat} {L : List (Nat × Value)} (h : L.all (fun p => nrf n p.2) = true) : cvl (adU ad n q) L = cvl ad L := by
  unfold cvl
  apply List.map_congr_left
  intro v hv
  rw [cv_adU (List.all_eq_true.mp h v hv)]
theorem cel_grow {G : GG} {M M' : Mem} {n q c : Nat} {S : Shp} (hS : shNo n [S] = true) (hM : M' c = M c) : cel (GU G n q) M' c S = cel G M c S := by
  have h0 : cel (GU G n q) M' c S = cel (GU G n q) M c S := cel_cong hM
  rw [h0]
  unfold shNo at hS
  simp only [List.all_cons, List.all_nil, Bool.and_true] at hS
  rcases S with ⟨t, k⟩ | ⟨ci, tm⟩
  · match t with
    | 0 => rfl
    | 1 => rfl
    | b + 2 =>
      simp only [cel, GU]
      congr 6
      refine congrArg Sum.inr (funext fun i => ?_)
      by_cases hi : i < k
      · have h1 : b + i ≠ n := of_decide_eq_true (List.all_eq_true.mp hS i (List.mem_range.mpr hi))
        simp [hi, adU, h1]
      · simp [hi]
  · simp only [cel_obj]
    congr 2
    apply List.mapIdx_eq_mapIdx_iff.mpr
    intro i hi
    have h1 : nrf n tm[i] = true := List.all_eq_true.mp hS _ (List.getElem_mem hi)
    generalize tm[i] = w at h1
    cases w <;> try rfl
    rename_i j
    have h2 : j ≠ n := of_decide_eq_true h1
    simp [fv, GU, adU, h2]
theorem wl_grow {sh : List Shp} {G : GG} {M M' : Mem} {q : Nat} {S : Shp} (hs : shNo sh.length sh = true) (hM : ∀ c, c < sh.length → M' c = M c) : wl (sh ++ [S]) (GU G sh.length q) M' = wl sh G M ++ [(q, cel (GU G sh.length q) M' sh.length S)] := by
  unfold wl
  rw [List.mapIdx_append]
  congr 1
  · apply List.mapIdx_eq_mapIdx_iff.mpr
    intro i hi
    have h1 : i ≠ sh.length := by omega
    have h2 : shNo sh.length [sh[i]] = true := by
      unfold shNo at hs ⊢
      simp only [List.all_cons, List.all_nil, Bool.and_true]
      exact List.all_eq_true.mp hs _ (List.getElem_mem hi)
    rw [cel_grow h2 (hM i hi)]
    simp [GU, adU, h1]
  · simp [GU, adU]
/-- what lies outside stays outside, where the world grows by a new cell -/
theorem va_Z.grow {C n d : String} {v : Value} {A B : Nat → Prop} {U : State} {H : Heap} (h : va_Z C n d v A U H) (hAB : ∀ a, a < H.size → B a → A a) : va_Z C n d v B U H := by
  obtain ⟨cf, kf, fi, f, a, cell, h1, h2, h3, h4, h5, h6, h7, h8⟩ := h
  exact ⟨cf, kf, fi, f, a, cell, h1, h2, h3, h4, h5, h6, h7, fun hb => h8 (hAB a (Array.getElem?_eq_some_iff.mp h5).1 hb)⟩
theorem va_T.grow {ty : FieldType} {t N : Nat} {f : Nat → Value} {A B : Nat → Prop} {U : State} {H : Heap} (h : va_T ty t N f A U H) (hAB : ∀ a, a < H.size → B a → A a) : va_T ty t N f B U H := by
  obtain ⟨cell, h1, h2, h3, h4, h5, h6, h7⟩ := h
  exact ⟨cell, h1, h2, h3, h4, h5, h6, fun hb => h7 (hAB t (Array.getElem?_eq_some_iff.mp h1).1 hb)⟩
theorem va_O.grow {E : String} {t : Nat} {A B : Nat → Prop} {U : State} {H : Heap} (h : va_O E t A U H) (hAB : ∀ a, a < H.size → B a → A a) : va_O E t B U H := by
  obtain ⟨cell, h1, h2, h3, h4⟩ := h
  exact ⟨cell, h1, h2, h3, fun hb => h4 (hAB t (Array.getElem?_eq_some_iff.mp h1).1 hb)⟩
theorem va_OF.grow {o n d : String} {v : Value} {t : Nat} {A B : Nat → Prop} {U : State} {H : Heap} (h : va_OF o n d v t A U H) (hAB : ∀ a, a < H.size → B a → A a) : va_OF o n d v t B U H := by
  obtain ⟨cf, k, i, f, cell, h1, h2, h3, h4, h5, h6⟩ := h
  exact ⟨cf, k, i, f, cell, h1, h2, h3, h4, h5, fun hb => h6 (hAB t (Array.getElem?_eq_some_iff.mp h3).1 hb)⟩
/-- the same externals -/
def sameExt (G G' : GG) : Prop := G'.1 = G.1 ∧ G'.2.2 = G.2.2 ∧ ∀ c, 200 ≤ c → G'.2.1 c = G.2.1 c
theorem EXT.grow {sh sh' : List Shp} {G G' : GG} {U : State} {H : Heap} (h : EXT sh G U H) (he : sameExt G G') (hAB : ∀ a, a < H.size → AW sh' G'.2.1 a → AW sh G.2.1 a) : EXT sh' G' U H := by
  obtain ⟨h1, h2, h3, h4, h5, h6⟩ := h
  have e200 := he.2.2 200 (by decide)
  have e201 := he.2.2 201 (by decide)
  have e202 := he.2.2 202 (by decide)
  have e203 := he.2.2 203 (by decide)
  have e204 := he.2.2 204 (by decide)
  have ea : ∀ i, G'.2.1 (201 + i) = G.2.1 (201 + i) := fun i => he.2.2 _ (by omega)
  have eb : ∀ i, G'.2.1 (211 + i) = G.2.1 (211 + i) := fun i => he.2.2 _ (by omega)
  refine ⟨?_, ?_, ?_, ?_, h5.grow hAB, ?_⟩
  · rw [e200]; exact h1.grow hAB
  · rw [e200]; exact h2.grow hAB
  · have e1 : (fun i => G'.2.1 (201 + i)) = (fun i => G.2.1 (201 + i)) := funext ea
    have e2 : (fun i => G'.2.1 (211 + i)) = (fun i => G.2.1 (211 + i)) := funext eb
    rw [e1, e2]
    exact ⟨fun i hi => ⟨(h3.1 i hi).1.grow hAB, (h3.1 i hi).2.1.grow hAB, (h3.1 i hi).2.2.1.grow hAB, (h3.1 i hi).2.2.2.grow hAB⟩, h3.2⟩
  · rw [e201, e202, e203]; exact h4
  · rw [e204]; exact h6.grow hAB
section XN
variable {p : Program} {l : Launch} {e : Env} {R : Room} {s : State} {m : MethodId} {args : Array Value} {below : List Frame} {meth : Method} {c : Code} {ca sl : Nat} {Q : State → Prop}
variable {sh : List Shp} {G : GG} {own : String} {cc : ByteArray} {nL pc : Nat} {L : List (Nat × Value)} {st : List Value} {M : Mem}
/-- a frame of a world that has grown by the new cell q -/
theorem Fr_grow {q : Nat} {S : Shp} (F : FrP sh G p s m args c own cc nL) (hno : shNo sh.length sh = true) (hl200 : sh.length < 200) (hlen : ∀ ci tm, S = .inr (ci, tm) → tm.length ≤ 1000) (hq : ∀ i, i < sh.length → q ≠ G.2.1 i) (hqs : s.heap.size ≤ q) : FrP (sh ++ [S]) (GU G sh.length q) p s m args c own cc nL := by
  obtain ⟨f1, f2, f3, f4, f5, f6, f7, f8, f9⟩ := F
  refine ⟨f1, f2, f3, f4, f5, f6, f7, ⟨?_, ?_⟩, f9.grow ⟨rfl, rfl, fun c hc => ?_⟩ ?_⟩
  · intro cell ci tm h
    rcases Nat.lt_or_ge cell sh.length with h1 | h1
    · rw [List.getElem?_append_left h1] at h
      exact f8.1 cell ci tm h
    · rw [List.getElem?_append_right h1] at h
      have h2 : cell - sh.length < 1 := (List.getElem?_eq_some_iff.mp h).1
      rw [show cell - sh.length = 0 by omega] at h
      cases h
      exact hlen _ _ rfl
  · intro i j hi hj hij
    rw [List.length_append, List.length_singleton] at hi hj
    simp only [GU, adU] at hij
    by_cases e1 : i = sh.length <;> by_cases e2 : j = sh.length
    · omega
    · rw [if_pos e1, if_neg e2] at hij
      exact absurd hij (hq j (by omega))
    · rw [if_neg e1, if_pos e2] at hij
      exact absurd hij.symm (hq i (by omega))
    · rw [if_neg e1, if_neg e2] at hij
      exact f8.2 i j (by omega) (by omega) hij
  · have h1 : c ≠ sh.length := by omega
    simp [GU, adU, h1]
  · intro a ha hb
    obtain ⟨i, hi, e⟩ := hb
    rw [List.length_append, List.length_singleton] at hi
    simp only [GU, adU] at e
    by_cases e1 : i = sh.length
    · rw [if_pos e1] at e; omega
    · rw [if_neg e1] at e
      exact ⟨i, by omega, e⟩
/-- from the kit's world with one more cell to ours -/
theorem grow_back {q : Nat} {S : Shp} {M' : Mem} {H1 : Heap} {locs : List Loc} {ce : va_E} (hno : shNo sh.length sh = true) (hM : ∀ c, c < sh.length → M' c = M c) (hce : cel (GU G sh.length q) M' sh.length S = ce)
    (hP : va_P G.1 classes (wl sh G M ++ [(q, ce)]) H1) (hD : va_D (fun a => AW sh G.2.1 a ∨ s.heap.size ≤ a) (wl sh G M ++ [(q, ce)])) (hS : va_S (fun a => AW sh G.2.1 a ∨ s.heap.size ≤ a) s.heap H1 locs) (hlo : ∀ x ∈ locs, AW sh G.2.1 x.base) :
    (∀ i, i < sh.length → q ≠ G.2.1 i) ∧ s.heap.size ≤ q ∧ va_P (GU G sh.length q).1 classes (wl (sh ++ [S]) (GU G sh.length q) M') H1 ∧ va_S (AW (sh ++ [S]) (GU G sh.length q).2.1) s.heap H1 locs := by
  have hlen : (wl sh G M).length = sh.length := by unfold wl; rw [List.length_mapIdx]
  have hq : ∀ i, i < sh.length → q ≠ G.2.1 i := by
    intro i hi e
    have h1 : (wl sh G M ++ [(q, ce)])[i]? = some (G.2.1 i, cel G M i sh[i]) := by
      rw [List.getElem?_append_left (by omega)]
      exact wl_get (List.getElem?_eq_some_iff.mpr ⟨hi, rfl⟩)
    have h2 : (wl sh G M ++ [(q, ce)])[sh.length]? = some (q, ce) := by
      rw [List.getElem?_append_right (by omega), hlen, Nat.sub_self]
      rfl
    have := hD.1 i sh.length _ _ h1 h2 e.symm
    omega
  have h2 : (wl sh G M ++ [(q, ce)])[sh.length]? = some (q, ce) := by
    rw [List.getElem?_append_right (by omega), hlen, Nat.sub_self]
    rfl
  have hsz : s.heap.size ≤ q := by
    rcases hD.2 _ _ h2 with ⟨i, hi, e⟩ | h
    · exact absurd e.symm (hq i hi)
    · exact h
  have hup : ∀ a, AW sh G.2.1 a → AW (sh ++ [S]) (GU G sh.length q).2.1 a := by
    intro a ⟨i, hi, e⟩
    have h1 : i ≠ sh.length := by omega
    exact ⟨i, by rw [List.length_append]; omega, by simp [GU, adU, h1, e]⟩
  refine ⟨hq, hsz, ?_, hS.1, fun x h1 h3 => hS.2.1 x h1 (fun h4 => ?_), fun x hx => hup _ (hlo x hx)⟩
  · rw [wl_grow hno hM, hce]
    exact hP
  · rcases h4 with h4 | h4
    · exact h3 (hup _ h4)
    · omega
theorem AWw {H : Heap} {locs : List Loc} (hS : va_S (AW sh G.2.1) s.heap H locs) : va_S (fun a => AW sh G.2.1 a ∨ s.heap.size ≤ a) s.heap H locs := ⟨hS.1, fun q h1 h2 => hS.2.1 q h1 (fun h => h2 (Or.inl h)), fun x hx => Or.inl (hS.2.2 x hx)⟩
theorem AWd {M : Mem} (hi : Inj sh G.2.1) : va_D (fun a => AW sh G.2.1 a ∨ s.heap.size ≤ a) (wl sh G M) := (wl_D hi).weaken (fun _ _ _ h => Or.inl h)
def zst (L : List (Nat × Value)) (st : List Value) (n : Nat) (sh : List Shp) : Bool := L.all (fun p => nrf n p.2) && (st.all (nrf n) && (shNo n sh && decide (n < 200)))
theorem X_newa (F : FrP sh G p s m args c own cc nL) {k : Int32} {N : Nat} (hw : Cond.arrayClass .int ∈ TBL) (hk : ¬ k < 0 ∧ k.toNatClampNeg = N ∧ N * 4 ≤ 536870912) (hno : zst L st sh.length sh = true) (hR : ca + 1 ≤ R.cells ∧ sl + N ≤ R.slots) (hd : decode cc pc = .ok (.newarray .int, 2))
    (kk : ∀ q, s.heap.size ≤ q → FrP (sh ++ [.inl (0, N)]) (GU G sh.length q) p s m args c own cc nL → XJ (sh ++ [.inl (0, N)]) p l e R s m args below meth c (ca + 1) (sl + N) (GU G sh.length q) nL Q (pc + 2) L (.ref sh.length :: st) (upA M sh.length (fun _ => 0))) : XJ sh p l e R s m args below meth c ca sl G nL Q pc L (.int k :: st) M := by
  intro H locs ls hP hS hl
  simp only [zst, Bool.and_eq_true, decide_eq_true_eq] at hno
  obtain ⟨n1, n2, n3, n4⟩ := hno
  refine va_newa (atype := .int) (a0 := (N, .inl (fun _ => 0))) F.1 F.2.1 (F.2.2.2.2.1 _ hw) rfl F.2.2.2.2.2.2.1 hP (AWd F.2.2.2.2.2.2.2.1) (AWw hS) (fun q h => Or.inr h) (fun cA => rfl) hk.1 hk.2.1 hk.2.2 hR.1 hR.2 hd (fun q cA H1 hK1 hP1 hD1 hS1 => ?_)
  have hcA : cA = G.2.2.1 := by
    have h1 := (hK1.2 3 _ rfl).2
    have h2 := (F.2.2.2.2.2.2.1.2 0 _ rfl).2
    exact Option.some.inj (h1.symm.trans h2)
  subst hcA
  have hM : ∀ c, c < sh.length → upA M sh.length (fun _ => 0) c = M c := fun c hc => by
    have : c ≠ sh.length := by omega
    simp [upA, this]
  obtain ⟨g1, g2, g3, g4⟩ := grow_back (S := .inl (0, N)) (M' := upA M sh.length (fun _ => 0)) n3 hM (by simp [cel, GU, upA]) hP1 hD1 hS1 hS.2.2
  have F' := Fr_grow (q := q) (S := .inl (0, N)) F n3 n4 (fun _ _ h => by cases h) g1 g2
  have h9 := kk q g2 F' H1 locs ls g3 g4 (by rw [show (GU G sh.length q).2.1 = adU G.2.1 sh.length q from rfl, cvl_adU n1]; exact hl)
  have e9 : cvs (GU G sh.length q).2.1 (.ref sh.length :: st) = .ref q :: cvs G.2.1 st := by
    show cv (adU G.2.1 sh.length q) (.ref sh.length) :: cvs (adU G.2.1 sh.length q) st = _
    rw [cvs_adU n2]
    simp [cv, adU]
  rw [e9] at h9
  exact h9
theorem X_newz (F : FrP sh G p s m args c own cc nL) {k : Int32} {N : Nat} (hw : Cond.arrayClass .boolean ∈ TBL) (hk : ¬ k < 0 ∧ k.toNatClampNeg = N ∧ N * 1 ≤ 536870912) (hno : zst L st sh.length sh = true) (hR : ca + 1 ≤ R.cells ∧ sl + N ≤ R.slots) (hd : decode cc pc = .ok (.newarray .boolean, 2))
    (kk : ∀ q, s.heap.size ≤ q → FrP (sh ++ [.inl (1, N)]) (GU G sh.length q) p s m args c own cc nL → XJ (sh ++ [.inl (1, N)]) p l e R s m args below meth c (ca + 1) (sl + N) (GU G sh.length q) nL Q (pc + 2) L (.ref sh.length :: st) (upA M sh.length (fun _ => 0))) : XJ sh p l e R s m args below meth c ca sl G nL Q pc L (.int k :: st) M := by
  intro H locs ls hP hS hl
  simp only [zst, Bool.and_eq_true, decide_eq_true_eq] at hno
  obtain ⟨n1, n2, n3, n4⟩ := hno
  refine va_newa (atype := .boolean) (a0 := (N, .inl (fun _ => 0))) F.1 F.2.1 (F.2.2.2.2.1 _ hw) rfl F.2.2.2.2.2.2.1 hP (AWd F.2.2.2.2.2.2.2.1) (AWw hS) (fun q h => Or.inr h) (fun cA => rfl) hk.1 hk.2.1 hk.2.2 hR.1 hR.2 hd (fun q cA H1 hK1 hP1 hD1 hS1 => ?_)
  have hcA : cA = G.2.2.2.1 := by
    have h1 := (hK1.2 3 _ rfl).2
    have h2 := (F.2.2.2.2.2.2.1.2 1 _ rfl).2
    exact Option.some.inj (h1.symm.trans h2)
  subst hcA
  have hM : ∀ c, c < sh.length → upA M sh.length (fun _ => 0) c = M c := fun c hc => by
    have : c ≠ sh.length := by omega
    simp [upA, this]
  obtain ⟨g1, g2, g3, g4⟩ := grow_back (S := .inl (1, N)) (M' := upA M sh.length (fun _ => 0)) n3 hM (by simp [cel, GU, upA]) hP1 hD1 hS1 hS.2.2
  have F' := Fr_grow (q := q) (S := .inl (1, N)) F n3 n4 (fun _ _ h => by cases h) g1 g2
  have h9 := kk q g2 F' H1 locs ls g3 g4 (by rw [show (GU G sh.length q).2.1 = adU G.2.1 sh.length q from rfl, cvl_adU n1]; exact hl)
  have e9 : cvs (GU G sh.length q).2.1 (.ref sh.length :: st) = .ref q :: cvs G.2.1 st := by
    show cv (adU G.2.1 sh.length q) (.ref sh.length) :: cvs (adU G.2.1 sh.length q) st = _
    rw [cvs_adU n2]
    simp [cv, adU]
  rw [e9] at h9
  exact h9

def zval (w : Value) : Bool := match w with
  | .int x => decide (x = 0)
  | .long x => decide (x = 0)
  | .null => true
  | _ => false
theorem zval_fv {ad : Nat → Nat} {M : Mem} {c k : Nat} {w : Value} (h : zval w = true) (hM : M c = fun _ => 0) : fv ad M c k w = w := by
  cases w with
  | int x => have h1 : x = 0 := of_decide_eq_true h; simp [fv, hM, h1]
  | long x =>
    have h1 : x = 0 := of_decide_eq_true h
    simp only [fv, gL, hM, h1]
    rfl
  | null => rfl
  | _ => cases h
theorem X_new (F : FrP sh G p s m args c own cc nL) {idx ci N : Nat} {C : String} {T : u_T} {ty : Nat → FieldType} {tm : List Value} (hc : classes[ci]? = some (C, T, N)) (hin : ∀ w ∈ u_ws C T N, w ∈ TBL) (hty : ∀ k, k < N → parseFieldDescriptor (T k).2.2.1 = some (ty k)) (hw : Cond.classLink own idx C ∈ TBL ∧ Cond.instantiable C N ∈ TBL ∧ Cond.initialized C ∈ TBL) (hfs : ∀ j, j < N → defaultValue (ty j) = vp_V tm j) (hz : tm.all zval = true ∧ tm.length ≤ 1000) (hno : zst L st sh.length sh = true) (hR : ca + 1 ≤ R.cells ∧ sl + N ≤ R.slots) (hd : decode cc pc = .ok (.new idx, 3))
    (kk : ∀ q, s.heap.size ≤ q → FrP (sh ++ [.inr (ci, tm)]) (GU G sh.length q) p s m args c own cc nL → XJ (sh ++ [.inr (ci, tm)]) p l e R s m args below meth c (ca + 1) (sl + N) (GU G sh.length q) nL Q (pc + 3) L (.ref sh.length :: st) (upA M sh.length (fun _ => 0))) : XJ sh p l e R s m args below meth c ca sl G nL Q pc L st M := by
  intro H locs ls hP hS hl
  simp only [zst, Bool.and_eq_true, decide_eq_true_eq] at hno
  obtain ⟨n1, n2, n3, n4⟩ := hno
  refine va_new (ci := ci) (fs := tm) F.1 F.2.1 F.2.2.2.2.1 hin ty hty F.2.2.2.1 (F.2.2.2.2.1 _ hw.1) (F.2.2.2.2.1 _ hw.2.1) (F.2.2.2.2.1 _ hw.2.2) F.2.2.2.2.2.2.1 hP (AWd F.2.2.2.2.2.2.2.1) (AWw hS) (fun q h => Or.inr h) hc hfs hR.1 hR.2 hd (fun q H1 hP1 hD1 hS1 => ?_)
  have hM : ∀ c, c < sh.length → upA M sh.length (fun _ => 0) c = M c := fun c hc => by
    have : c ≠ sh.length := by omega
    simp [upA, this]
  have hce : cel (GU G sh.length q) (upA M sh.length (fun _ => 0)) sh.length (.inr (ci, tm)) = .inr (ci, tm) := by
    rw [cel_obj]
    congr 2
    apply List.ext_getElem?
    intro i
    rw [List.getElem?_mapIdx]
    cases hi : tm[i]? with
    | none => rfl
    | some w =>
      simp only [Option.map_some]
      rw [zval_fv (List.all_eq_true.mp hz.1 w (List.mem_of_getElem? hi)) (by simp [upA])]
  obtain ⟨g1, g2, g3, g4⟩ := grow_back (S := .inr (ci, tm)) (M' := upA M sh.length (fun _ => 0)) n3 hM hce hP1 hD1 hS1 hS.2.2
  have F' := Fr_grow (q := q) (S := .inr (ci, tm)) F n3 n4 (fun _ _ h => by cases h; exact hz.2) g1 g2
  have h9 := kk q g2 F' H1 locs ls g3 g4 (by rw [show (GU G sh.length q).2.1 = adU G.2.1 sh.length q from rfl, cvl_adU n1]; exact hl)
  have e9 : cvs (GU G sh.length q).2.1 (.ref sh.length :: st) = .ref q :: cvs G.2.1 st := by
    show cv (adU G.2.1 sh.length q) (.ref sh.length) :: cvs (adU G.2.1 sh.length q) st = _
    rw [cvs_adU n2]
    simp [cv, adU]
  rw [e9] at h9
  exact h9
/-- a final reference of the object that is being made -/
theorem X_putr (F : FrP sh G p s m args c own cc nL) (hin2 : meth.name = "<init>") {cell ci idx k j N : Nat} {C : String} {T : u_T} {ty0 : Nat → FieldType} {tm : List Value} {ty : FieldType} {sh' : List Shp} (hc : classes[ci]? = some (C, T, N)) (hk : k < N) (hin : ∀ w ∈ u_ws C T N, w ∈ TBL) (hty : ∀ k, k < N → parseFieldDescriptor (T k).2.2.1 = some (ty0 k)) (hnm : ∀ a, a < N → ∀ b, b < N → a ≠ b → (T a).2.1 ≠ (T b).2.1) (hw : Cond.fieldLink own idx (T k).1 (T k).2.1 (T k).2.2.1 ∈ TBL) (hfin : (T k).2.2.2 = true ∧ (T k).1 = own) (hpd : parseFieldDescriptor (T k).2.2.1 = some ty) (hfit : ∀ a : Nat, narrow ty (.ref a) = .ref a ∧ fits ty (.ref a) = true) (hs : sh[cell]? = some (.inr (ci, tm))) (hkl : k < tm.length) (hs' : sh.set cell (.inr (ci, tm.set k (.ref j))) = sh') (hd : decode cc pc = .ok (.putfield idx, 3))
    (kk : FrP sh' G p s m args c own cc nL → XJ sh' p l e R s m args below meth c ca sl G nL Q (pc + 3) L st M) : XJ sh p l e R s m args below meth c ca sl G nL Q pc L (.ref j :: .ref cell :: st) M := by
  subst hs'
  have hcl : cell < sh.length := (List.getElem?_eq_some_iff.mp hs).1
  have hlen : (sh.set cell (.inr (ci, tm.set k (.ref j)))).length = sh.length := List.length_set
  have hAW : AW (sh.set cell (.inr (ci, tm.set k (.ref j)))) G.2.1 = AW sh G.2.1 := by unfold AW; rw [hlen]
  have F' : FrP (sh.set cell (.inr (ci, tm.set k (.ref j)))) G p s m args c own cc nL := by
    obtain ⟨f1, f2, f3, f4, f5, f6, f7, f8, f9⟩ := F
    refine ⟨f1, f2, f3, f4, f5, f6, f7, ⟨?_, ?_⟩, ?_⟩
    · intro cell2 ci2 tm2 h
      by_cases e : cell = cell2
      · subst e
        rw [List.getElem?_set_self hcl] at h
        cases h
        rw [List.length_set]
        exact f8.1 _ _ _ hs
      · rw [List.getElem?_set_ne e] at h
        exact f8.1 _ _ _ h
    · rw [hlen]
      exact f8.2
    · unfold EXT
      rw [hAW]
      exact f9
  intro H locs ls hP hS hl
  have h1 := wl_get (G := G) (M := M) hs
  rw [cel_obj] at h1
  refine va_putF F.1 F.2.1 F.2.2.2.2.1 hin ty0 hty hnm F.2.2.2.1 F.2.2.2.2.2.2.1 hP (wl_D F.2.2.2.2.2.2.2.1) hS cell h1 hc k hk (F.2.2.2.2.1 _ hw) (fun _ h => h) hfin.1 hin2 hfin.2 hpd (hfit _).1 (hfit _).2 (by rw [List.length_mapIdx]; exact hkl) hd (fun H1 locs1 hP1 _ hS1 => ?_)
  have e : (wl sh G M).set cell (G.2.1 cell, .inr (ci, (tm.mapIdx (fun k w => fv G.2.1 M cell k w)).set k (.ref (G.2.1 j)))) = wl (sh.set cell (.inr (ci, tm.set k (.ref j)))) G M := by
    apply List.ext_getElem?
    intro d
    unfold wl
    by_cases e : cell = d
    · subst e
      rw [List.getElem?_set_self (by rw [List.length_mapIdx]; exact hcl), List.getElem?_mapIdx, List.getElem?_set_self hcl]
      simp only [Option.map_some, cel_obj]
      congr 4
      apply List.ext_getElem?
      intro i
      by_cases e2 : k = i
      · subst e2
        rw [List.getElem?_set_self (by rw [List.length_mapIdx]; exact hkl), List.getElem?_mapIdx, List.getElem?_set_self hkl]
        rfl
      · rw [List.getElem?_set_ne e2, List.getElem?_mapIdx, List.getElem?_mapIdx, List.getElem?_set_ne e2]
    · rw [List.getElem?_set_ne e, List.getElem?_mapIdx, List.getElem?_mapIdx, List.getElem?_set_ne e]
  have hP2 : va_P G.1 classes ((wl sh G M).set cell (G.2.1 cell, .inr (ci, (tm.mapIdx (fun k w => fv G.2.1 M cell k w)).set k (.ref (G.2.1 j))))) H1 := hP1
  rw [e] at hP2
  rw [← hAW] at hS1
  exact kk F' H1 locs1 ls hP2 hS1 hl
theorem X_objinit (F : FrP sh G p s m args c own cc nL) {idx a : Nat} (hw : Cond.methodLink own idx objectInit ∈ TBL ∧ Cond.instanceMethod objectInit ∈ TBL ∧ Cond.code objectInit ⟨#[0xb1]⟩ 1 none ∈ TBL) (hR : 1 ≤ R.frames ∧ 40 ≤ R.locals) (hst : (st.map fun v => v.category).sum + 12 ≤ 40) (hd : decode cc pc = .ok (.invokespecial idx, 3)) (k : XJ sh p l e R s m args below meth c ca sl G nL Q (pc + 3) L st M) : XJ sh p l e R s m args below meth c ca sl G nL Q pc L (.ref a :: st) M := by
  intro H locs ls hP hS hl
  refine W.objInit F.1 F.2.1 F.2.2.2.1 (F.2.2.2.2.1 _ hw.1) (F.2.2.2.2.1 _ hw.2.1) (F.2.2.2.2.1 _ hw.2.2) rfl (by rw [F.2.2.1]; exact hl.1) rfl hd hR.1 ?_ (k H locs ls hP hS hl)
  show 2 * 0 + ((cvs G.2.1 st).map fun v => v.category).sum + 12 ≤ R.locals
  rw [cvs_cat]
  omega
/-- a constructor's contract: the world sh becomes sh', at old addresses and new ones -/
def GEx (sh sh' : List Shp) (G G' : GG) (sz : Nat) : Prop := G'.1 = G.1 ∧ G'.2.2 = G.2.2 ∧ (∀ c, c < sh.length ∨ 100 ≤ c → G'.2.1 c = G.2.1 c) ∧ (∀ c, sh.length ≤ c → c < sh'.length → sz ≤ G'.2.1 c) ∧ Inj sh' G'.2.1
def QcN (sh sh' : List Shp) (G : GG) (M' : Mem) : Array Value → State → Outcome → State → Prop := fun _ st o t => o = .returned none ∧ ∃ G' : GG, GEx sh sh' G G' st.heap.size ∧ va_P G.1 classes (wl sh' G' M') t.heap ∧ va_F (fun q => AW sh G.2.1 q ∨ st.heap.size ≤ q) st t
def PcN (sh : List Shp) (G : GG) (av : List Value) (M : Mem) (sz : Nat) : Array Value → State → Prop := fun a U => U.heap.size = sz ∧ PcX sh G av M a U
def rmN (d mc ms : Nat) : Room := { frames := d, cells := mc, slots := ms, locals := 100 * d }
def MetN (sh sh' : List Shp) (l : Launch) (G : GG) (y : MethodName) (bytes : ByteArray) (mL d mc ms : Nat) (av : List Value) (M M' : Mem) (sz : Nat) : Prop :=
  Met l y (.code y bytes mL none :: TBL) (rmN d mc ms) (PcN sh G av M sz) (QcN sh sh' G M') mc ms (fun q => AW sh G.2.1 q ∨ sz ≤ q)
theorem X_nret {sh0 : List Shp} {G0 : GG} (F : FrP sh G p s m args c own cc nL) (hr : meth.sig.returnType = none) (hlk : meth.locks = false) (hG : GEx sh0 sh G0 G s.heap.size) (hd : decode cc pc = .ok (.return_, 1)) : XJ sh p l e R s m args below meth c ca sl G nL (MQ below (QcN sh0 sh G0 M) args s ca sl (fun q => AW sh0 G0.2.1 q ∨ s.heap.size ≤ q)) pc L [] M := by
  intro H locs ls hP hS hl
  have hA : ∀ q, AW sh G.2.1 q → AW sh0 G0.2.1 q ∨ s.heap.size ≤ q := by
    intro q ⟨i, hi, e⟩
    rcases Nat.lt_or_ge i sh0.length with h | h
    · exact Or.inl ⟨i, h, by rw [← hG.2.2.1 i (Or.inl h)]; exact e⟩
    · exact Or.inr (by rw [← e]; exact hG.2.2.2.1 i h hi)
  refine W.vret F.1 F.2.1 hr (fun t ht hW => ⟨rfl, G, hG, by rw [ht, ← hG.1]; exact hP, ?_⟩) (fun x hx => hA _ (hS.2.2 x hx)) hd hlk
  exact ⟨by rw [ht]; exact hS.1, fun q h1 h2 => by rw [ht]; exact hS.2.1 q h1 (fun h => h2 (hA q h))⟩
theorem X_metN {sh' : List Shp} {y : MethodName} {bytes : ByteArray} {mL d mc ms sz : Nat} {av : List Value} {M' : Mem} (hI : Inj sh G.2.1) (hy : plainName y.cls = true) (hyi : y.name = "<init>") (hav : (lg_sl (cvs G.2.1 av)).length ≤ mL)
    (body : ∀ p e s m args below meth c, s.heap.size = sz → FrP sh G p s m args c y.cls bytes mL → meth.sig.returnType = none → meth.locks = false → meth.name = "<init>" → XJ sh p l e (rmN d mc ms) s m args below meth c 0 0 G mL (MQ below (QcN sh sh' G M') args s mc ms (fun q => AW sh G.2.1 q ∨ s.heap.size ≤ q)) 0 (lv_args 0 av) [] M) : MetN sh sh' l G y bytes mL d mc ms av M M' sz := by
  refine Met.ofW (cc := bytes) (maxL := mL) (ret := none) hy rfl ?_
  intro p e s m args below meth c s₁ B hml hv
  obtain ⟨hsz, rfl, hP, hK, hN, hE⟩ := hv
  have hts0 := atoms_spec (ws := Cond.code y bytes mL none :: TBL) B.pre
  have hF : FrP sh G p s m (cvs G.2.1 av).toArray c y.cls bytes mL := ⟨B.exec, B.bytes, hml, findClass_of_methodNamed B.named, fun w hw => hts0 w (List.mem_cons_of_mem _ hw), hN, hK, hI, hE⟩
  have hl := lv_entry (cvs G.2.1 av) (n := mL) hav
  have hnm : meth.name = "<init>" := by rw [(name_of_methodNamed B.named B.method).1]; exact hyi
  have hb := body p e s m (cvs G.2.1 av).toArray below meth c hsz hF B.returns B.notSynchronized hnm s.heap [] _ hP va_S.rf (by rw [cvl_args]; exact hl)
  rw [lg_entry_eq]
  subst hsz
  exact hb

theorem GEx.rf {sz : Nat} (h : Inj sh G.2.1) : GEx sh sh G G sz := ⟨rfl, rfl, fun _ _ => rfl, fun c h1 h2 => absurd h2 (Nat.not_lt.mpr h1), h⟩
theorem GEx.grow {sh0 : List Shp} {G0 : GG} {sz q : Nat} {S : Shp} (h : GEx sh0 sh G0 G sz) (hl : sh0.length ≤ sh.length ∧ sh.length < 100) (hq : sz ≤ q) (hI : Inj (sh ++ [S]) (GU G sh.length q).2.1) : GEx sh0 (sh ++ [S]) G0 (GU G sh.length q) sz := by
  refine ⟨h.1, h.2.1, fun c hc => ?_, fun c h1 h2 => ?_, hI⟩
  · have h1 : c ≠ sh.length := by omega
    simp only [GU, adU, if_neg h1]
    exact h.2.2.1 c hc
  · by_cases e : c = sh.length
    · simp only [GU, adU, if_pos e]; exact hq
    · simp only [GU, adU, if_neg e]
      rw [List.length_append, List.length_singleton] at h2
      exact h.2.2.2.1 c h1 (by omega)
theorem GEx.put {sh0 sh' : List Shp} {G0 : GG} {sz : Nat} (h : GEx sh0 sh G0 G sz) (hl : sh'.length = sh.length) (hI : Inj sh' G.2.1) : GEx sh0 sh' G0 G sz := ⟨h.1, h.2.1, h.2.2.1, fun c h1 h2 => h.2.2.2.1 c h1 (by omega), hI⟩
/-- a row of rows -/
def adM (ad : Nat → Nat) (n q N : Nat) (r : Nat → Nat) : Nat → Nat := fun c => if c = n then q else if n < c ∧ c < n + 1 + N then r (c - (n + 1)) else ad c
def GM (G : GG) (n q N : Nat) (r : Nat → Nat) : GG := (G.1, adM G.2.1 n q N r, G.2.2)
def zM (M : Mem) (n N : Nat) : Mem := fun c => if n ≤ c ∧ c < n + 1 + N then (fun _ => 0) else M c
/-- all references lie below n (or outside) -/
def rlt (n : Nat) (v : Value) : Bool := match v with
  | .ref c => decide (c < n) || decide (100 ≤ c)
  | _ => true
def shLt (n : Nat) (sh : List Shp) : Bool := sh.all (fun S => match S with
  | .inl (0, _) => true
  | .inl (1, _) => true
  | .inl (b + 2, k) => decide (b + k ≤ n)
  | .inr (_, tm) => tm.all (rlt n))
theorem cv_agr {ad ad' : Nat → Nat} {n : Nat} {v : Value} (h : rlt n v = true) (ha : ∀ c, c < n ∨ 100 ≤ c → ad' c = ad c) : cv ad' v = cv ad v := by
  cases v <;> try rfl
  rename_i c
  simp only [rlt, Bool.or_eq_true, decide_eq_true_eq] at h
  simp [cv, ha c h]
theorem cvs_agr {ad ad' : Nat → Nat} {n : Nat} {st : List Value} (h : st.all (rlt n) = true) (ha : ∀ c, c < n ∨ 100 ≤ c → ad' c = ad c) : cvs ad' st = cvs ad st := by
  unfold cvs
  apply List.map_congr_left
  intro v hv
  exact cv_agr (List.all_eq_true.mp h v hv) ha
theorem cvl_agr {ad ad' : Nat → Nat} {n : Nat} {L : List (Nat × Value)} (h : L.all (fun p => rlt n p.2) = true) (ha : ∀ c, c < n ∨ 100 ≤ c → ad' c = ad c) : cvl ad' L = cvl ad L := by
  unfold cvl
  apply List.map_congr_left
  intro v hv
  rw [cv_agr (List.all_eq_true.mp h v hv) ha]
theorem cel_agr {G G' : GG} {M M' : Mem} {n c : Nat} {S : Shp} (hS : shLt n [S] = true) (hG : G'.2.2 = G.2.2) (ha : ∀ c, c < n ∨ 100 ≤ c → G'.2.1 c = G.2.1 c) (hM : M' c = M c) : cel G' M' c S = cel G M c S := by
  rw [cel_cong (G := G') (S := S) hM]
  unfold shLt at hS
  simp only [List.all_cons, List.all_nil, Bool.and_true] at hS
  rcases S with ⟨t, k⟩ | ⟨ci, tm⟩
  · match t with
    | 0 => simp only [cel, hG]
    | 1 => simp only [cel, hG]
    | b + 2 =>
      simp only [decide_eq_true_eq] at hS
      simp only [cel, hG]
      congr 6
      refine congrArg Sum.inr (funext fun i => ?_)
      by_cases hi : i < k
      · simp [hi, ha (b + i) (Or.inl (by omega))]
      · simp [hi]
  · simp only [cel_obj]
    congr 2
    apply List.mapIdx_eq_mapIdx_iff.mpr
    intro i hi
    have h1 : rlt n tm[i] = true := List.all_eq_true.mp hS _ (List.getElem_mem hi)
    generalize tm[i] = w at h1
    cases w <;> try rfl
    rename_i j
    simp only [rlt, Bool.or_eq_true, decide_eq_true_eq] at h1
    simp [fv, ha j h1]
theorem shLt_at {n i : Nat} {sh : List Shp} {S : Shp} (h : shLt n sh = true) (hs : sh[i]? = some S) : shLt n [S] = true := by
  unfold shLt at h ⊢
  simp only [List.all_cons, List.all_nil, Bool.and_true]
  exact List.all_eq_true.mp h _ (List.mem_of_getElem? hs)
/-- an address of a cell of the world is live -/
theorem live {H : Heap} (hP : va_P G.1 classes (wl sh G M) H) {i : Nat} (hi : i < sh.length) : G.2.1 i < H.size :=
  (hP i _ (wl_get (List.getElem?_eq_some_iff.mpr ⟨hi, rfl⟩))).lt
/-- shapes under new numbers: n on, what is told by an argument as it was told -/
def renR (n : Nat) (ex : List Nat) (v : Value) : Value := match v with
  | .ref j => if j < 100 then .ref (n + j) else .ref (ex.getD (j - 100) 0)
  | w => w
def renS (n : Nat) (ex : List Nat) (S : Shp) : Shp := match S with
  | .inl (0, k) => .inl (0, k)
  | .inl (1, k) => .inl (1, k)
  | .inl (b + 2, k) => .inl (n + b + 2, k)
  | .inr (ci, tm) => .inr (ci, tm.map (renR n ex))
/-- the callee's names of cells -/
def adL (ad : Nat → Nat) (n : Nat) (ex : List Nat) : Nat → Nat := fun c => if c < 100 then ad (n + c) else if c < 200 then ad (ex.getD (c - 100) 0) else ad c
def GL (G : GG) (n : Nat) (ex : List Nat) : GG := (G.1, adL G.2.1 n ex, G.2.2)
/-- all references of the callee's shapes: below its length, or to an argument -/
def rIn (k e : Nat) (v : Value) : Bool := match v with
  | .ref c => decide (c < k ∧ c < 100) || decide (100 ≤ c ∧ c < 100 + e)
  | _ => true
def shIn (k e : Nat) (sh : List Shp) : Bool := sh.all (fun S => match S with
  | .inl (0, _) => true
  | .inl (1, _) => true
  | .inl (b + 2, j) => decide (b + j ≤ k)
  | .inr (_, tm) => tm.all (rIn k e))

theorem Fr_many {sh' : List Shp} {G' : GG} (F : FrP sh G p s m args c own cc nL) (hag : ∀ c, c < sh.length ∨ 100 ≤ c → G'.2.1 c = G.2.1 c) (h1 : G'.1 = G.1) (h2 : G'.2.2 = G.2.2) (hI : Inj sh' G'.2.1) (hnew : ∀ c, sh.length ≤ c → c < sh'.length → s.heap.size ≤ G'.2.1 c) : FrP sh' G' p s m args c own cc nL := by
  obtain ⟨f1, f2, f3, f4, f5, f6, f7, f8, f9⟩ := F
  refine ⟨f1, f2, f3, f4, f5, f6, ?_, hI, f9.grow ⟨h1, h2, fun c hc => hag c (Or.inr (by omega))⟩ ?_⟩
  · rw [h1]
    unfold TYS
    rw [h2]
    exact f7
  · intro a ha hb
    obtain ⟨i, hi, e⟩ := hb
    rcases Nat.lt_or_ge i sh.length with h | h
    · exact ⟨i, h, by rw [← hag i (Or.inl h)]; exact e⟩
    · have := hnew i h hi
      omega
theorem S_many {sh' : List Shp} {G' : GG} {H H1 : Heap} {locs : List Loc} (hlen : sh.length ≤ sh'.length) (hag : ∀ c, c < sh.length ∨ 100 ≤ c → G'.2.1 c = G.2.1 c) (hS : va_S (AW sh G.2.1) s.heap H locs) (hz : H.size ≤ H1.size) (hk : ∀ q, q < s.heap.size → ¬ AW sh G.2.1 q → H1[q]? = s.heap[q]?) : va_S (AW sh' G'.2.1) s.heap H1 locs := by
  have hup : ∀ a, AW sh G.2.1 a → AW sh' G'.2.1 a := fun a ⟨i, hi, e⟩ => ⟨i, by omega, by rw [hag i (Or.inl hi)]; exact e⟩
  exact ⟨Nat.le_trans hS.1 hz, fun q h1 h2 => hk q h1 (fun h => h2 (hup q h)), fun x hx => hup _ (hS.2.2 x hx)⟩
theorem GEx.many {sh0 sh' : List Shp} {G0 G' : GG} {sz : Nat} (h : GEx sh0 sh G0 G sz) (hl : sh0.length ≤ sh.length) (hag : ∀ c, c < sh.length ∨ 100 ≤ c → G'.2.1 c = G.2.1 c) (h1 : G'.1 = G.1) (h2 : G'.2.2 = G.2.2) (hI : Inj sh' G'.2.1) (hnew : ∀ c, sh.length ≤ c → c < sh'.length → sz ≤ G'.2.1 c) : GEx sh0 sh' G0 G' sz := by
  refine ⟨h1.trans h.1, h2.trans h.2.1, fun c hc => ?_, fun c a b => ?_, hI⟩
  · rw [hag c (by omega)]
    exact h.2.2.1 c hc
  · rcases Nat.lt_or_ge c sh.length with q | q
    · rw [hag c (Or.inl q)]
      exact h.2.2.2.1 c a q
    · exact hnew c q b
theorem wl_many {sh2 : List Shp} {G' : GG} {M' : Mem} (hs : shLt sh.length sh = true) (hag : ∀ c, c < sh.length ∨ 100 ≤ c → G'.2.1 c = G.2.1 c) (h2 : G'.2.2 = G.2.2) (hM : ∀ c, c < sh.length → M' c = M c) : wl (sh ++ sh2) G' M' = wl sh G M ++ sh2.mapIdx (fun i S => (G'.2.1 (i + sh.length), cel G' M' (i + sh.length) S)) := by
  unfold wl
  rw [List.mapIdx_append]
  congr 1
  apply List.mapIdx_eq_mapIdx_iff.mpr
  intro i hi
  rw [cel_agr (shLt_at hs (List.getElem?_eq_some_iff.mpr ⟨hi, rfl⟩)) h2 hag (hM i hi), hag i (Or.inl hi)]
theorem X_mna {idx N K : Nat} {k n : Int32} (F : FrP sh G p s m args c own cc nL) (hw : Cond.classLink own idx "[[I" ∈ TBL ∧ Cond.arrayOver (.array .int) ∈ NTB ∧ Cond.arrayClass .int ∈ TBL) (hk : ¬ n < 0 ∧ ¬ k < 0 ∧ n.toNatClampNeg = N ∧ k.toNatClampNeg = K ∧ N * 4 ≤ 536870912 ∧ K * 4 ≤ 536870912 ∧ K ≤ 536870912) (hno : (L.all (fun p => rlt sh.length p.2) && st.all (rlt sh.length) && shLt sh.length sh && decide (sh.length + 1 + N < 100)) = true) (hR : ca + (1 + N) ≤ R.cells ∧ sl + (N + N * K) ≤ R.slots) (hd : decode cc pc = .ok (.multianewarray idx 2, 4)) {sh0 : List Shp} {G0 : GG} (hG : GEx sh0 sh G0 G s.heap.size) (hl0 : sh0.length ≤ sh.length)
    (kk : ∀ G', (∀ c, c < sh.length ∨ 100 ≤ c → G'.2.1 c = G.2.1 c) → FrP (sh ++ (.inl (sh.length + 1 + 2, N) :: List.replicate N (.inl (0, K)))) G' p s m args c own cc nL → GEx sh0 (sh ++ (.inl (sh.length + 1 + 2, N) :: List.replicate N (.inl (0, K)))) G0 G' s.heap.size → XJ (sh ++ (.inl (sh.length + 1 + 2, N) :: List.replicate N (.inl (0, K)))) p l e R s m args below meth c (ca + 1 + N) (sl + N + N * K) G' nL Q (pc + 4) L (.ref sh.length :: st) (zM M sh.length N)) : XJ sh p l e R s m args below meth c ca sl G nL Q pc L (.int k :: .int n :: st) M := by
  intro H locs ls hP hS hl
  simp only [Bool.and_eq_true, decide_eq_true_eq] at hno
  obtain ⟨⟨⟨n1, n2⟩, n3⟩, n4⟩ := hno
  have hnil : wl sh G M ++ va_pl [] (fun _ => (.inr (0, []) : va_E)) = wl sh G M := by simp [va_pl]
  have hcy : s.vm.findClass (FieldType.array .int).toString = some G.2.2.1 := (F.2.2.2.2.2.2.1.2 0 _ rfl).2
  refine va_mna (X := wl sh G M) (L := []) (f := fun _ => .inr (0, [])) (cy := G.2.2.1) (z := (K, .inl (fun _ => 0))) (ty := .int) F.1 F.2.1 F.2.2.2.1 (F.2.2.2.2.1 _ hw.1) (ao_vm (A := #[]) rfl (F.2.2.2.2.2.1 _ hw.2.1)) (F.2.2.2.2.1 _ hw.2.2) hcy F.2.2.2.2.2.2.1 (by rw [hnil]; exact hP) (by rw [hnil]; exact AWd F.2.2.2.2.2.2.2.1) (AWw hS) (fun q h => Or.inr h) hk.1 hk.2.1 hk.2.2.1 hk.2.2.2.1 hk.2.2.2.2.1 hk.2.2.2.2.2.1 hk.2.2.2.2.2.2 rfl rfl hR.1 hR.2 (fun c => by
      show ({ cls := c, slots := Array.replicate K (Value.int 0), vm := .none } : Cell) = _
      rw [arrV_new]
      rfl) hd (fun q r cA H1 hinj _ hK1 hP1 hD1 hS1 => ?_)
  have hcA : cA = G.2.2.2.2 := by
    have h1 := (hK1.2 3 _ rfl).2
    have h2 := (F.2.2.2.2.2.2.1.2 2 _ rfl).2
    exact Option.some.inj (h1.symm.trans h2)
  subst hcA
  generalize hG' : GM G sh.length q N r = G'
  have e1 : G'.1 = G.1 := by rw [← hG']; rfl
  have e2 : G'.2.2 = G.2.2 := by rw [← hG']; rfl
  have hag : ∀ c, c < sh.length ∨ 100 ≤ c → G'.2.1 c = G.2.1 c := by
    intro c hc
    rw [← hG']
    have h1 : c ≠ sh.length := by omega
    have h2 : ¬ (sh.length < c ∧ c < sh.length + 1 + N) := by omega
    simp [GM, adM, h1, h2]
  have hq : G'.2.1 sh.length = q := by rw [← hG']; simp [GM, adM]
  have hr : ∀ i, i < N → G'.2.1 (sh.length + 1 + i) = r i := by
    intro i hi
    rw [← hG']
    have h1 : sh.length + 1 + i ≠ sh.length := by omega
    have h2 : sh.length < sh.length + 1 + i ∧ sh.length + 1 + i < sh.length + 1 + N := by omega
    simp only [GM, adM, if_neg h1, if_pos h2]
    congr 1
    omega
  generalize hM' : zM M sh.length N = M' at kk
  have hM : ∀ c, c < sh.length → M' c = M c := by
    intro c hc
    rw [← hM']
    have h1 : ¬ (sh.length ≤ c ∧ c < sh.length + 1 + N) := by omega
    simp [zM, h1]
  have hM0 : ∀ i, i < N → M' (sh.length + 1 + i) = fun _ => 0 := by
    intro i hi
    rw [← hM']
    have h1 : sh.length ≤ sh.length + 1 + i ∧ sh.length + 1 + i < sh.length + 1 + N := by omega
    simp only [zM, if_pos h1]
  have hw2 : wl (sh ++ (.inl (sh.length + 1 + 2, N) :: List.replicate N (.inl (0, K)))) G' M' = (wl sh G M ++ [(q, .inl (G.2.2.2.2, N, .inr (.inr (.inr (.inr (fun i => if i < N then some (r i) else none))))))]) ++ va_pl ([] ++ (List.range N).map r) (vr_up (fun _ => (.inr (0, []) : va_E)) ((List.range N).map r) (.inl (G.2.2.1, (K, .inl (fun _ => 0))))) := by
    rw [wl_many n3 hag e2 hM, List.append_assoc]
    congr 1
    rw [List.mapIdx_cons]
    simp only [Nat.zero_add, List.nil_append, List.singleton_append]
    congr 1
    · rw [hq]
      simp only [cel, e2]
      congr 6
      refine congrArg Sum.inr (congrArg Sum.inr (funext fun i => ?_))
      by_cases hi : i < N
      · simp only [hi, if_true]
        rw [hr i hi]
      · simp [hi]
    · apply List.ext_getElem?
      intro i
      unfold va_pl
      rw [List.getElem?_mapIdx, List.getElem?_map, List.getElem?_map]
      by_cases hi : i < N
      · rw [List.getElem?_replicate, if_pos hi, List.getElem?_range hi]
        simp only [Option.map_some]
        have h9 : r i ∈ (List.range N).map r := List.mem_map.mpr ⟨i, List.mem_range.mpr hi, rfl⟩
        rw [vr_up_in h9, show i + 1 + sh.length = sh.length + 1 + i by omega, hr i hi]
        simp only [cel, e2, hM0 i hi]
      · rw [List.getElem?_replicate, if_neg hi, List.getElem?_eq_none (by rw [List.length_range]; omega)]
        rfl
  rw [← hw2] at hP1 hD1
  have hlen : (sh ++ (.inl (sh.length + 1 + 2, N) :: List.replicate N (.inl (0, K)) : List Shp)).length = sh.length + 1 + N := by
    rw [List.length_append, List.length_cons, List.length_replicate]
    omega
  generalize hsh : (sh ++ (.inl (sh.length + 1 + 2, N) :: List.replicate N (.inl (0, K)) : List Shp)) = sh' at *
  have hat : ∀ i, i < sh'.length → (wl sh' G' M')[i]? = some (G'.2.1 i, cel G' M' i (sh'.getD i (.inl (0, 0)))) := by
    intro i hi
    refine wl_get ?_
    rw [List.getD_eq_getElem?_getD, List.getElem?_eq_getElem hi]
    rfl
  have hI : Inj sh' G'.2.1 := by
    refine ⟨?_, fun i j hi hj hij => hD1.1 i j _ _ (hat i hi) (hat j hj) hij⟩
    intro cell ci tm h
    rw [← hsh] at h
    rcases Nat.lt_or_ge cell sh.length with h1 | h1
    · rw [List.getElem?_append_left h1] at h
      exact F.2.2.2.2.2.2.2.1.1 _ _ _ h
    · rw [List.getElem?_append_right h1] at h
      have h2 := List.mem_of_getElem? h
      rcases List.mem_cons.mp h2 with h3 | h3
      · cases h3
      · have := List.eq_of_mem_replicate h3
        cases this
  have hnew : ∀ c, sh.length ≤ c → c < sh'.length → s.heap.size ≤ G'.2.1 c := by
    intro c h1 h2
    rcases hD1.2 c _ (hat c h2) with ⟨i, hi, e⟩ | h
    · have h3 : i = c := hI.2 i c (by omega) h2 (by rw [hag i (Or.inl hi)]; exact e)
      omega
    · exact h
  have F' := Fr_many F hag e1 e2 hI hnew
  have hS2 : va_S (AW sh' G'.2.1) s.heap H1 locs := by
    have hup : ∀ a, AW sh G.2.1 a → AW sh' G'.2.1 a := fun a ⟨i, hi, e⟩ => ⟨i, by omega, by rw [hag i (Or.inl hi)]; exact e⟩
    refine ⟨hS1.1, fun x h1 h2 => hS1.2.1 x h1 (fun h => ?_), fun x hx => hup _ (hS.2.2 x hx)⟩
    rcases h with h | h
    · exact h2 (hup x h)
    · omega
  have h9 := kk G' hag F' (hG.many hl0 hag e1 e2 hI hnew) H1 locs ls (by rw [e1]; exact hP1) hS2 (by rw [cvl_agr n1 hag]; exact hl)
  have e9 : cvs G'.2.1 (.ref sh.length :: st) = .ref q :: cvs G.2.1 st := by
    show cv G'.2.1 (.ref sh.length) :: cvs G'.2.1 st = _
    rw [cvs_agr n2 hag]
    simp [cv, hq]
  rw [e9] at h9
  exact h9

theorem renS_cel {G G' GL' : GG} {M' ML' : Mem} {n k ec c : Nat} {ex : List Nat} {S : Shp} (hS : shIn k ec [S] = true) (hex : ec ≤ ex.length ∧ ec ≤ 100) (hex2 : ex.all (fun j => decide (j < n)) = true) (h2 : G'.2.2 = GL'.2.2) (hk : k < 100) (hag : ∀ j, j < k → G'.2.1 (n + j) = GL'.2.1 j) (hold : ∀ j, j < n → G'.2.1 j = G.2.1 j) (hext : ∀ i, i < ec → GL'.2.1 (100 + i) = G.2.1 (ex.getD i 0)) (hM : M' (n + c) = ML' c) : cel G' M' (n + c) (renS n ex S) = cel GL' ML' c S := by
  unfold shIn at hS
  simp only [List.all_cons, List.all_nil, Bool.and_true] at hS
  rcases S with ⟨t, j⟩ | ⟨ci, tm⟩
  · match t with
    | 0 => simp only [renS, cel, h2, hM]
    | 1 => simp only [renS, cel, h2, hM]
    | b + 2 =>
      simp only [decide_eq_true_eq] at hS
      simp only [renS, cel, h2]
      refine congrArg (fun z => (Sum.inl (GL'.2.2.2.2, j, .inr (.inr (.inr (.inr z)))) : va_E)) (funext fun i => ?_)
      by_cases hi : i < j
      · simp only [hi, if_true]
        rw [Nat.add_assoc, hag (b + i) (by omega)]
      · simp [hi]
  · simp only [renS, cel_obj]
    congr 2
    apply List.ext_getElem?
    intro i
    rw [List.getElem?_mapIdx, List.getElem?_mapIdx, List.getElem?_map]
    cases hi : tm[i]? with
    | none => rfl
    | some w =>
      simp only [Option.map_some]
      have h1 : rIn k ec w = true := List.all_eq_true.mp hS w (List.mem_of_getElem? hi)
      congr 1
      cases w with
      | ref j0 =>
        obtain ⟨j, rfl⟩ : ∃ j : Nat, j = j0 := ⟨j0, rfl⟩
        simp only [rIn, Bool.or_eq_true, decide_eq_true_eq] at h1
        rcases h1 with h1 | h1
        · simp only [renR, if_pos h1.2, fv]
          rw [hag j h1.1]
        · have h1a : @LE.le Nat _ 100 j := h1.1
          have h1b : @LT.lt Nat _ j (100 + ec) := h1.2
          have h3 : ¬ @LT.lt Nat _ j 100 := by omega
          simp only [renR, if_neg h3, fv]
          have h4 : j - 100 < ec := by omega
          have h5 : ex.getD (j - 100) 0 < n := by
            rw [List.getD_eq_getElem?_getD, List.getElem?_eq_getElem (by omega)]
            exact of_decide_eq_true (List.all_eq_true.mp hex2 _ (List.getElem_mem (by omega)))
          have h6 := hext (j - 100) h4
          rw [show 100 + (j - 100) = j by omega] at h6
          rw [hold _ h5, h6]
      | int x => simp only [renR, fv, hM]
      | long x => simp only [renR, fv, gL, hM]
      | _ => rfl
/-- a constructor is called on the object made last: its world, told in its own numbers, comes in place of the object -/
theorem X_callN {shp shN sh' : List Shp} {S0 : Shp} (F : FrP (shp ++ [S0]) G p s m args c own cc nL) {idx na mL d mc ms ec : Nat} {y : MethodName} {bytes : ByteArray} {As AL rest : List Value} {ex : List Nat} {ML ML' M' : Mem} (hlk : LNK own idx y) (he : CLE y na bytes mL none) (hyi : y.name = "<init>" ∧ Cond.instanceMethod y ∈ TBL)
    (hM : ∀ sz, MetN [S0] shN l (GL G shp.length ex) y bytes mL d mc ms (.ref 0 :: AL) ML ML' sz) (hML : ML 0 = M shp.length) (hav : cvs (adL G.2.1 shp.length ex) AL = cvs G.2.1 As) (hS0 : ∃ ci tm, S0 = .inr (ci, tm) ∧ tm.all zval = true)
    (hst : st = As.reverse ++ .ref shp.length :: rest) (hlen : As.length = na) (hroom : (rest.map fun v => v.category).sum ≤ 8) (hR : d + 1 ≤ R.frames ∧ 8 + (mL + 11) + 100 * d ≤ R.locals ∧ ca + mc ≤ R.cells ∧ sl + ms ≤ R.slots) (hd : decode cc pc = .ok (.invokespecial idx, 3))
    (hchk : (L.all (fun p => rlt (shp.length + 1) p.2) && rest.all (rlt (shp.length + 1)) && shLt shp.length shp && shIn shN.length ec shN && ex.all (fun j => decide (j < shp.length)) && decide (shp.length + shN.length < 100 ∧ 1 ≤ shN.length ∧ ec ≤ ex.length ∧ ec ≤ 100)) = true) (hsh' : shp ++ shN.map (renS shp.length ex) = sh') (hM' : ∀ c, M' c = if c < shp.length then M c else if c < shp.length + shN.length then ML' (c - shp.length) else M c) (hnew0 : s.heap.size ≤ G.2.1 shp.length) {sh0 : List Shp} {G0 : GG} (hG : GEx sh0 (shp ++ [S0]) G0 G s.heap.size) (hl0 : sh0.length ≤ shp.length)
    (kk : ∀ G', (∀ c, c < shp.length + 1 ∨ 100 ≤ c → G'.2.1 c = G.2.1 c) → FrP sh' G' p s m args c own cc nL → GEx sh0 sh' G0 G' s.heap.size → XJ sh' p l e R s m args below meth c (ca + mc) (sl + ms) G' nL Q (pc + 3) L rest M') : XJ (shp ++ [S0]) p l e R s m args below meth c ca sl G nL Q pc L st M := by
  subst hst
  subst hsh'
  intro H locs ls hP hS hl
  simp only [Bool.and_eq_true, decide_eq_true_eq] at hchk
  obtain ⟨⟨⟨⟨⟨n1, n2⟩, n3⟩, n4⟩, n5⟩, n6, n7, n8, n9⟩ := hchk
  have hlen1 : (shp ++ [S0]).length = shp.length + 1 := by rw [List.length_append, List.length_singleton]
  generalize hn : shp.length = n at *
  -- the callee's start
  obtain ⟨ci, tm, rfl, hz⟩ := hS0
  have hadl : (GL G n ex).2.1 0 = G.2.1 n := by simp [GL, adL]
  have hcell : va_at G.1 classes (G.2.1 n, cel G M n (.inr (ci, tm))) H := hP n _ (wl_get (by rw [List.getElem?_append_right (by omega), hn, Nat.sub_self]; rfl))
  have hPl : va_P G.1 classes (wl [.inr (ci, tm)] (GL G n ex) ML) H := by
    intro k q hk
    have h1 : wl [.inr (ci, tm)] (GL G n ex) ML = [((GL G n ex).2.1 0, cel (GL G n ex) ML 0 (.inr (ci, tm)))] := rfl
    rw [h1] at hk
    have h2 : k < 1 := (List.getElem?_eq_some_iff.mp hk).1
    rw [show k = 0 by omega] at hk
    cases hk
    rw [hadl]
    have h3 : cel (GL G n ex) ML 0 (.inr (ci, tm)) = cel G M n (.inr (ci, tm)) := by
      simp only [cel_obj]
      congr 2
      apply List.mapIdx_eq_mapIdx_iff.mpr
      intro i hi
      have h4 : zval tm[i] = true := List.all_eq_true.mp hz _ (List.getElem_mem hi)
      generalize tm[i] = w at h4
      cases w with
      | ref j => cases h4
      | int x => simp only [fv, hML]
      | long x => simp only [fv, gL, hML]
      | _ => rfl
    rw [h3]
    exact hcell
  have hAWl : ∀ a, AW [.inr (ci, tm)] (GL G n ex).2.1 a → a = G.2.1 n := by
    intro a ⟨i, hi, e⟩
    have h1 : i = 0 := by simpa using hi
    rw [h1, hadl] at e
    exact e.symm
  have hEl : EXT [.inr (ci, tm)] (GL G n ex) s s.heap := by
    refine F.2.2.2.2.2.2.2.2.grow ⟨rfl, rfl, fun c hc => ?_⟩ ?_
    · have h1 : ¬ c < 100 := by omega
      have h2 : ¬ c < 200 := by omega
      simp [GL, adL, h1, h2]
    · intro a ha hb
      have := hAWl a hb
      omega
  have hSl : ∀ a : Nat, a < s.heap.size → ¬ AW [.inr (ci, tm)] (GL G n ex).2.1 a → True := fun _ _ _ => trivial
  have hfz : ∀ U : State, U.heap = H → s.WarmedH U.vm → PcN [.inr (ci, tm)] (GL G n ex) (.ref 0 :: AL) ML H.size (cvs (GL G n ex).2.1 (.ref 0 :: AL)).toArray U := by
    intro U hU hW
    refine ⟨by rw [hU], rfl, by rw [hU]; exact hPl, va_K.moved hW.alike F.2.2.2.2.2.2.1, NW.warm hW F.2.2.2.2.2.1, ?_⟩
    -- the externals in the heap as it is now
    have hE1 : EXT (shp ++ [.inr (ci, tm)]) G U U.heap := EXT.warm hW F.2.2.2.2.2.2.2.2 (fun a h1 h2 => by rw [hU]; exact hS.2.1 a h1 h2)
    refine hE1.grow ⟨rfl, rfl, fun c hc => ?_⟩ ?_
    · have h1 : ¬ c < 100 := by omega
      have h2 : ¬ c < 200 := by omega
      simp [GL, adL, h1, h2]
    · intro a ha hb
      exact ⟨n, by omega, (hAWl a hb).symm⟩
  have hblind : FrameBlind (PcN [.inr (ci, tm)] (GL G n ex) (.ref 0 :: AL) ML H.size) := fun a U g mk h => ⟨h.1, PcX_blind a U g mk h.2⟩
  have hargs : cvs (GL G n ex).2.1 (.ref 0 :: AL) = .ref (G.2.1 n) :: cvs G.2.1 As := by
    show cv (GL G n ex).2.1 (.ref 0) :: cvs (adL G.2.1 n ex) AL = _
    rw [hav]
    show Value.ref ((GL G n ex).2.1 0) :: _ = _
    rw [hadl]
  have hp : PreS s H (PcN [.inr (ci, tm)] (GL G n ex) (.ref 0 :: AL) ML H.size) (.ref (G.2.1 n) :: cvs G.2.1 As) := ⟨hblind, by rw [← hargs]; exact hfz⟩
  have hstk : (F0 m pc ls (cvs G.2.1 (As.reverse ++ .ref n :: rest))).stack = (cvs G.2.1 As).reverse ++ .ref (G.2.1 n) :: cvs G.2.1 rest := by
    show cvs G.2.1 (As.reverse ++ .ref n :: rest) = _
    unfold cvs
    rw [List.map_append, List.map_reverse]
    rfl
  have hW : 2 * (F0 m pc ls (cvs G.2.1 (As.reverse ++ .ref n :: rest))).monitorRoom + ((cvs G.2.1 rest).map fun v => v.category).sum ≤ 8 := lv_room (by rw [cvs_cat]; exact hroom)
  have hnl : (cvs G.2.1 As).length = na := by unfold cvs; rw [List.length_map]; exact hlen
  have hrun : va_Run p l e R s m args below meth c H locs ca sl mc ms (F0 m pc ls (cvs G.2.1 (As.reverse ++ .ref n :: rest))) (cvs G.2.1 rest) (QcN [.inr (ci, tm)] shN (GL G n ex) ML' (.ref (G.2.1 n) :: cvs G.2.1 As).toArray) (fun q => AW [.inr (ci, tm)] (GL G n ex).2.1 q ∨ H.size ≤ q) := by
    rcases hlk with hlk | ⟨host, hlk⟩
    · exact va_runI (Ts := TBL) ⟨F.1, F.2.1, F.2.2.1, F.2.2.2.1, F.2.2.2.2.1⟩ (hM H.size) (cwI na F.2.2.2.2.1 (goodCode he.2.1) rfl rfl rfl (F.2.2.2.2.1 _ he.1) (F.2.2.2.2.1 _ hlk) (F.2.2.2.2.1 _ hyi.2) hyi.1 ⟨he.2.2.1.1, he.2.2.1.2, he.2.2.2⟩ ⟨hR.1, hR.2.1⟩) hp rfl hnl hl.1 hstk hW hd ⟨hR.2.2.1, hR.2.2.2⟩
    · exact va_runIN (Ts := TBL) ⟨F.1, F.2.1, F.2.2.1, F.2.2.2.1, F.2.2.2.2.1⟩ (hM H.size) ⟨va_cnB na F.2.2.2.2.1 (goodCode he.2.1) rfl rfl rfl (F.2.2.2.2.2.1 _ hlk) (F.2.2.2.2.1 _ he.1) ⟨he.2.2.1.1, he.2.2.1.2, he.2.2.2⟩ ⟨hR.1, hR.2.1⟩, hyi.1, F.2.2.2.2.1 _ hyi.2⟩ hp rfl hnl hl.1 hstk hW hd ⟨hR.2.2.1, hR.2.2.2⟩
  intro T hT X
  obtain ⟨v, st₀, t, T', Lc, h0, X', hLc, e1, e2, ⟨hv, GN, hGN, hPN, hz1, hk1⟩, stp⟩ := hrun T hT X
  have hv' := Outcome.returned.inj hv
  subst hv'
  rw [h0] at hz1 hk1 hGN
  -- the world behind it
  have hold : ∀ i, i < n → G.2.1 i < H.size := fun i hi => live hP (by omega)
  have hnl' : G.2.1 n < H.size := live hP (by omega)
  generalize hG' : ((G.1, (fun c => if c < n then G.2.1 c else if c < n + shN.length then GN.2.1 (c - n) else G.2.1 c), G.2.2) : GG) = G'
  have g1 : G'.1 = G.1 := by rw [← hG']
  have g2 : G'.2.2 = G.2.2 := by rw [← hG']
  have hGN0 : GN.2.1 0 = G.2.1 n := by rw [hGN.2.2.1 0 (Or.inl (by simp))]; exact hadl
  have hag : ∀ c, c < n + 1 ∨ 100 ≤ c → G'.2.1 c = G.2.1 c := by
    intro c hc
    rw [← hG']
    show (if c < n then G.2.1 c else if c < n + shN.length then GN.2.1 (c - n) else G.2.1 c) = _
    by_cases h1 : c < n
    · rw [if_pos h1]
    · rw [if_neg h1]
      by_cases h2 : c < n + shN.length
      · rw [if_pos h2]
        have h3 : c = n := by omega
        rw [h3, Nat.sub_self, hGN0]
      · rw [if_neg h2]
  have hloc : ∀ j, j < shN.length → G'.2.1 (n + j) = GN.2.1 j := by
    intro j hj
    rw [← hG']
    show (if n + j < n then G.2.1 (n + j) else if n + j < n + shN.length then GN.2.1 (n + j - n) else G.2.1 (n + j)) = _
    rw [if_neg (by omega), if_pos (by omega), Nat.add_sub_cancel_left]
  have hlow : ∀ j, 1 ≤ j → j < shN.length → H.size ≤ GN.2.1 j := fun j h1 h2 => hGN.2.2.2.1 j (by simpa using h1) h2
  have hlen2 : (shp ++ shN.map (renS n ex)).length = n + shN.length := by rw [List.length_append, List.length_map, hn]
  have hI : Inj (shp ++ shN.map (renS n ex)) G'.2.1 := by
    refine ⟨?_, ?_⟩
    · intro cell ci2 tm2 h
      rcases Nat.lt_or_ge cell n with h1 | h1
      · rw [List.getElem?_append_left (by omega)] at h
        exact F.2.2.2.2.2.2.2.1.1 cell ci2 tm2 (by rw [List.getElem?_append_left (by omega)]; exact h)
      · rw [List.getElem?_append_right (by omega), List.getElem?_map] at h
        cases h2 : shN[cell - shp.length]? with
        | none => rw [h2] at h; cases h
        | some S =>
          rw [h2] at h
          rcases S with ⟨t9, j9⟩ | ⟨ci9, tm9⟩
          · match t9 with
            | 0 => cases h
            | 1 => cases h
            | b + 2 => cases h
          · simp only [Option.map_some, renS, Option.some.injEq, Sum.inr.injEq, Prod.mk.injEq] at h
            rw [← h.2, List.length_map]
            exact hGN.2.2.2.2.1 _ _ _ h2
    · intro i j hi hj hij
      rw [hlen2] at hi hj
      rcases Nat.lt_or_ge i n with a | a <;> rcases Nat.lt_or_ge j n with b | b
      · rw [hag i (by omega), hag j (by omega)] at hij
        exact F.2.2.2.2.2.2.2.1.2 i j (by omega) (by omega) hij
      · rw [hag i (by omega), show j = n + (j - n) by omega, hloc (j - n) (by omega)] at hij
        rcases Nat.lt_or_ge (j - n) 1 with q | q
        · rw [show j - n = 0 by omega, hGN0] at hij
          have := F.2.2.2.2.2.2.2.1.2 i n (by omega) (by omega) hij
          omega
        · have := hlow (j - n) q (by omega)
          have := hold i a
          omega
      · rw [hag j (by omega), show i = n + (i - n) by omega, hloc (i - n) (by omega)] at hij
        rcases Nat.lt_or_ge (i - n) 1 with q | q
        · rw [show i - n = 0 by omega, hGN0] at hij
          have := F.2.2.2.2.2.2.2.1.2 n j (by omega) (by omega) hij
          omega
        · have := hlow (i - n) q (by omega)
          have := hold j b
          omega
      · rw [show i = n + (i - n) by omega, show j = n + (j - n) by omega, hloc (i - n) (by omega), hloc (j - n) (by omega)] at hij
        have := hGN.2.2.2.2.2 (i - n) (j - n) (by omega) (by omega) hij
        omega
  have hnew : ∀ c, n + 1 ≤ c → c < n + shN.length → s.heap.size ≤ G'.2.1 c := by
    intro c h1 h2
    rw [show c = n + (c - n) by omega, hloc (c - n) (by omega)]
    exact Nat.le_trans hS.1 (hlow (c - n) (by omega) (by omega))
  have F' : FrP (shp ++ shN.map (renS n ex)) G' p s m args c own cc nL := Fr_many F (fun c hc => hag c (by omega)) g1 g2 hI (fun c h1 h2 => hnew c (by omega) (by omega))
  have hGx := hG.many (by omega) (fun c hc => hag c (by omega)) g1 g2 hI (fun c h1 h2 => hnew c (by omega) (by omega))
  have hkeep : ∀ i, i < n → t.heap[G.2.1 i]? = H[G.2.1 i]? := by
    intro i hi
    refine hk1 _ (hold i hi) (fun h => ?_)
    rcases h with h | h
    · have h1 := hAWl _ h
      have := F.2.2.2.2.2.2.2.1.2 i n (by omega) (by omega) h1
      omega
    · have := hold i hi
      omega
  have hP' : va_P G.1 classes (wl (shp ++ shN.map (renS n ex)) G' M') t.heap := by
    intro k q hk
    unfold wl at hk
    rw [List.getElem?_mapIdx] at hk
    rcases Nat.lt_or_ge k n with a | a
    · rw [List.getElem?_append_left (by omega)] at hk
      cases hs : shp[k]? with
      | none => rw [hs] at hk; cases hk
      | some S =>
        rw [hs] at hk
        cases hk
        have h1 : cel G' M' k S = cel G M k S := cel_agr (n := n) (shLt_at n3 hs) g2 (fun c hc => hag c (by omega)) (by rw [hM' k, if_pos a])
        show va_at G.1 classes (G'.2.1 k, cel G' M' k S) t.heap
        rw [h1, hag k (by omega)]
        exact (hP k _ (wl_get (by rw [List.getElem?_append_left (by omega)]; exact hs))).kept (hkeep k a)
    · rw [List.getElem?_append_right (by omega), List.getElem?_map, hn] at hk
      cases hs : shN[k - n]? with
      | none => rw [hs] at hk; cases hk
      | some S =>
        rw [hs] at hk
        cases hk
        have hkl : k - n < shN.length := (List.getElem?_eq_some_iff.mp hs).1
        have h9 : shIn shN.length ec [S] = true := by
          unfold shIn at n4 ⊢
          simp only [List.all_cons, List.all_nil, Bool.and_true]
          exact List.all_eq_true.mp n4 _ (List.mem_of_getElem? hs)
        have h1 : cel G' M' (n + (k - n)) (renS n ex S) = cel GN ML' (k - n) S := by
          refine renS_cel (G := G) (GL' := GN) h9 ⟨n8, n9⟩ n5 (g2.trans hGN.2.1.symm) (by omega) hloc (fun j hj => hag j (by omega)) (fun i hi => ?_) ?_
          · rw [hGN.2.2.1 (100 + i) (Or.inr (by omega))]
            have h2 : ¬ 100 + i < 100 := by omega
            have h3 : 100 + i < 200 := by omega
            simp only [GL, adL, if_neg h2, if_pos h3]
            rw [Nat.add_sub_cancel_left]
          · rw [hM' (n + (k - n)), if_neg (by omega), if_pos (by omega), Nat.add_sub_cancel_left]
        rw [show n + (k - n) = k by omega] at h1
        have h4 := hloc (k - n) hkl
        rw [show n + (k - n) = k by omega] at h4
        show va_at G.1 classes (G'.2.1 k, cel G' M' k (renS n ex S)) t.heap
        rw [h1, h4]
        exact hPN (k - n) _ (wl_get hs)
  have hS' : va_S (AW (shp ++ shN.map (renS n ex)) G'.2.1) s.heap t.heap locs := by
    refine S_many (by omega) (fun c hc => hag c (by omega)) hS hz1 (fun q h1 h2 => ?_)
    rw [hk1 q (Nat.lt_of_lt_of_le h1 hS.1) (fun h => ?_)]
    · exact hS.2.1 q h1 h2
    · rcases h with h | h
      · exact h2 ⟨n, by omega, (hAWl q h).symm⟩
      · have := hS.1
        omega
  have hfor : ∀ q ∈ Lc, s.heap.size ≤ q.base := by
    intro q hq
    rcases hLc q hq with h | h
    · rw [hAWl _ h]
      exact hnew0
    · exact Nat.le_trans hS.1 h
  have X2 := Stand.forget (extra := Lc) X' hfor
  obtain ⟨t2, a1, b1⟩ := kk G' hag F' hGx T'.heap locs ls (by rw [e1, g1]; exact hP') (by rw [e1]; exact hS') (by rw [cvl_agr n1 hag]; exact hl) T' rfl X2
  refine ⟨t2, stp t2 ?_, b1⟩
  rw [cvs_agr n2 hag] at a1
  exact a1
end XN
section XW
variable {p : Program} {l : Launch} {e : Env} {R : Room} {s : State} {m : MethodId} {args : Array Value} {below : List Frame} {meth : Method} {c : Code} {ca sl : Nat} {Q : State → Prop}
variable {sh : List Shp} {G : GG} {own : String} {cc : ByteArray} {nL pc : Nat} {L : List (Nat × Value)} {st : List Value} {M : Mem}
variable {sh0 sh' : List Shp} {G0 : GG}
theorem N_newa (F : FrP sh G p s m args c own cc nL) (hG : GEx sh0 sh G0 G s.heap.size) {k : Int32} {N n : Nat} (hn : sh.length = n) (hsh : sh ++ [.inl (0, N)] = sh') (hw : Cond.arrayClass .int ∈ TBL) (hk : ¬ k < 0 ∧ k.toNatClampNeg = N ∧ N * 4 ≤ 536870912) (hno : zst L st n sh = true) (hR : ca + 1 ≤ R.cells ∧ sl + N ≤ R.slots) (hl0 : sh0.length ≤ n ∧ n < 100) (hd : decode cc pc = .ok (.newarray .int, 2))
    (kk : ∀ G', FrP sh' G' p s m args c own cc nL → GEx sh0 sh' G0 G' s.heap.size → XJ sh' p l e R s m args below meth c (ca + 1) (sl + N) G' nL Q (pc + 2) L (.ref n :: st) (upA M n (fun _ => 0))) : XJ sh p l e R s m args below meth c ca sl G nL Q pc L (.int k :: st) M := by
  subst hn
  subst hsh
  exact X_newa F hw hk hno hR hd (fun q hq F' => kk _ F' (hG.grow hl0 hq F'.2.2.2.2.2.2.2.1))
theorem N_newz (F : FrP sh G p s m args c own cc nL) (hG : GEx sh0 sh G0 G s.heap.size) {k : Int32} {N n : Nat} (hn : sh.length = n) (hsh : sh ++ [.inl (1, N)] = sh') (hw : Cond.arrayClass .boolean ∈ TBL) (hk : ¬ k < 0 ∧ k.toNatClampNeg = N ∧ N * 1 ≤ 536870912) (hno : zst L st n sh = true) (hR : ca + 1 ≤ R.cells ∧ sl + N ≤ R.slots) (hl0 : sh0.length ≤ n ∧ n < 100) (hd : decode cc pc = .ok (.newarray .boolean, 2))
    (kk : ∀ G', FrP sh' G' p s m args c own cc nL → GEx sh0 sh' G0 G' s.heap.size → XJ sh' p l e R s m args below meth c (ca + 1) (sl + N) G' nL Q (pc + 2) L (.ref n :: st) (upA M n (fun _ => 0))) : XJ sh p l e R s m args below meth c ca sl G nL Q pc L (.int k :: st) M := by
  subst hn
  subst hsh
  exact X_newz F hw hk hno hR hd (fun q hq F' => kk _ F' (hG.grow hl0 hq F'.2.2.2.2.2.2.2.1))
theorem N_new (F : FrP sh G p s m args c own cc nL) (hG : GEx sh0 sh G0 G s.heap.size) {idx ci N n : Nat} {C : String} {T : u_T} {ty : Nat → FieldType} {tm : List Value} (hn : sh.length = n) (hsh : sh ++ [.inr (ci, tm)] = sh') (hc : classes[ci]? = some (C, T, N)) (hin : ∀ w ∈ u_ws C T N, w ∈ TBL) (hty : ∀ k, k < N → parseFieldDescriptor (T k).2.2.1 = some (ty k)) (hw : Cond.classLink own idx C ∈ TBL ∧ Cond.instantiable C N ∈ TBL ∧ Cond.initialized C ∈ TBL) (hfs : ∀ j, j < N → defaultValue (ty j) = vp_V tm j) (hz : tm.all zval = true ∧ tm.length ≤ 1000) (hno : zst L st n sh = true) (hR : ca + 1 ≤ R.cells ∧ sl + N ≤ R.slots) (hl0 : sh0.length ≤ n ∧ n < 100) (hd : decode cc pc = .ok (.new idx, 3))
    (kk : ∀ G', s.heap.size ≤ G'.2.1 n → FrP sh' G' p s m args c own cc nL → GEx sh0 sh' G0 G' s.heap.size → XJ sh' p l e R s m args below meth c (ca + 1) (sl + N) G' nL Q (pc + 3) L (.ref n :: st) (upA M n (fun _ => 0))) : XJ sh p l e R s m args below meth c ca sl G nL Q pc L st M := by
  subst hn
  subst hsh
  exact X_new F hc hin hty hw hfs hz hno hR hd (fun q hq F' => kk _ (by simp [GU, adU, hq]) F' (hG.grow hl0 hq F'.2.2.2.2.2.2.2.1))
theorem N_mna {idx N K nn : Nat} {k n : Int32} (F : FrP sh G p s m args c own cc nL) (hG : GEx sh0 sh G0 G s.heap.size) (hn : sh.length = nn) (hsh : sh ++ (.inl (nn + 1 + 2, N) :: List.replicate N (.inl (0, K))) = sh') (hw : Cond.classLink own idx "[[I" ∈ TBL ∧ Cond.arrayOver (.array .int) ∈ NTB ∧ Cond.arrayClass .int ∈ TBL) (hk : ¬ n < 0 ∧ ¬ k < 0 ∧ n.toNatClampNeg = N ∧ k.toNatClampNeg = K ∧ N * 4 ≤ 536870912 ∧ K * 4 ≤ 536870912 ∧ K ≤ 536870912) (hno : (L.all (fun p => rlt nn p.2) && st.all (rlt nn) && shLt nn sh && decide (nn + 1 + N < 100)) = true) (hR : ca + (1 + N) ≤ R.cells ∧ sl + (N + N * K) ≤ R.slots) (hl0 : sh0.length ≤ nn) (hd : decode cc pc = .ok (.multianewarray idx 2, 4))
    (kk : ∀ G', FrP sh' G' p s m args c own cc nL → GEx sh0 sh' G0 G' s.heap.size → XJ sh' p l e R s m args below meth c (ca + 1 + N) (sl + N + N * K) G' nL Q (pc + 4) L (.ref nn :: st) (zM M nn N)) : XJ sh p l e R s m args below meth c ca sl G nL Q pc L (.int k :: .int n :: st) M := by
  subst hn
  subst hsh
  exact X_mna F hw hk hno hR hd hG hl0 (fun G' _ F' hG' => kk G' F' hG')
end XW
end
