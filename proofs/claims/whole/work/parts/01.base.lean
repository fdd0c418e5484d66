-- ===== PART A: goes FIRST, ahead of the names: the tables' words, and 'selects' of the private methods out of them =====
/-- a private method of a class that the tables say can be made, by its rows of tables_1 -/
def lw_okq (q : MethodName × Nat) : Prop := (q.1.cls ≠ "java/lang/invoke/MethodHandle" ∧ q.1.cls ≠ "java/lang/invoke/VarHandle") ∧ Cond.instantiable q.1.cls q.2 ∈ tables_1 ∧ Cond.privateMethod q.1 ∈ tables_1 ∧ Cond.instanceMethod q.1 ∈ tables_1
theorem lw_p0 : lw_okq (⟨"LongSums$Row", "writeNumber", "(IJI)V"⟩, 6) := ⟨⟨by decide +kernel, by decide +kernel⟩, List.mem_of_getElem? (i := 80) (by decide +kernel), List.mem_of_getElem? (i := 126) (by decide +kernel), List.mem_of_getElem? (i := 127) (by decide +kernel)⟩
theorem lw_p1 : lw_okq (⟨"LongSums$Row", "writeFloat", "(IJI)V"⟩, 6) := ⟨⟨by decide +kernel, by decide +kernel⟩, List.mem_of_getElem? (i := 80) (by decide +kernel), List.mem_of_getElem? (i := 130) (by decide +kernel), List.mem_of_getElem? (i := 131) (by decide +kernel)⟩
theorem lw_p2 : lw_okq (⟨"LongSums$Row", "writeSort", "(II)V"⟩, 6) := ⟨⟨by decide +kernel, by decide +kernel⟩, List.mem_of_getElem? (i := 80) (by decide +kernel), List.mem_of_getElem? (i := 156) (by decide +kernel), List.mem_of_getElem? (i := 157) (by decide +kernel)⟩
theorem lw_p3 : lw_okq (⟨"LongSums", "remember", "(I)V"⟩, 7) := ⟨⟨by decide +kernel, by decide +kernel⟩, List.mem_of_getElem? (i := 14) (by decide +kernel), List.mem_of_getElem? (i := 270) (by decide +kernel), List.mem_of_getElem? (i := 271) (by decide +kernel)⟩
theorem lw_p4 : lw_okq (⟨"LongSums", "gatherInto", "(ILLongSums$Row;LLongSums$Row;II)I"⟩, 7) := ⟨⟨by decide +kernel, by decide +kernel⟩, List.mem_of_getElem? (i := 14) (by decide +kernel), List.mem_of_getElem? (i := 296) (by decide +kernel), List.mem_of_getElem? (i := 297) (by decide +kernel)⟩
theorem lw_p5 : lw_okq (⟨"LongSums$Keeper", "gain", "(JJIZ)V"⟩, 4) := ⟨⟨by decide +kernel, by decide +kernel⟩, List.mem_of_getElem? (i := 32) (by decide +kernel), List.mem_of_getElem? (i := 308) (by decide +kernel), List.mem_of_getElem? (i := 309) (by decide +kernel)⟩
theorem lw_p6 : lw_okq (⟨"LongSums$Keeper", "gainPart", "(JIZ)V"⟩, 4) := ⟨⟨by decide +kernel, by decide +kernel⟩, List.mem_of_getElem? (i := 32) (by decide +kernel), List.mem_of_getElem? (i := 314) (by decide +kernel), List.mem_of_getElem? (i := 315) (by decide +kernel)⟩
theorem lw_p7 : lw_okq (⟨"LongSums$Keeper", "gainHalf", "(JIZ)V"⟩, 4) := ⟨⟨by decide +kernel, by decide +kernel⟩, List.mem_of_getElem? (i := 32) (by decide +kernel), List.mem_of_getElem? (i := 318) (by decide +kernel), List.mem_of_getElem? (i := 319) (by decide +kernel)⟩
theorem lw_p8 : lw_okq (⟨"LongSums$Keeper", "meet", "(IZ)V"⟩, 4) := ⟨⟨by decide +kernel, by decide +kernel⟩, List.mem_of_getElem? (i := 32) (by decide +kernel), List.mem_of_getElem? (i := 322) (by decide +kernel), List.mem_of_getElem? (i := 323) (by decide +kernel)⟩
theorem lw_p9 : lw_okq (⟨"LongSums$Keeper", "carry", "()V"⟩, 4) := ⟨⟨by decide +kernel, by decide +kernel⟩, List.mem_of_getElem? (i := 32) (by decide +kernel), List.mem_of_getElem? (i := 328) (by decide +kernel), List.mem_of_getElem? (i := 329) (by decide +kernel)⟩
theorem lw_p10 : lw_okq (⟨"LongSums", "findingOf", "(I)I"⟩, 7) := ⟨⟨by decide +kernel, by decide +kernel⟩, List.mem_of_getElem? (i := 14) (by decide +kernel), List.mem_of_getElem? (i := 380) (by decide +kernel), List.mem_of_getElem? (i := 381) (by decide +kernel)⟩
theorem lw_p11 : lw_okq (⟨"LongSums", "sharedOut", "(LLongSums$Keeper;IIZ)D"⟩, 7) := ⟨⟨by decide +kernel, by decide +kernel⟩, List.mem_of_getElem? (i := 14) (by decide +kernel), List.mem_of_getElem? (i := 399) (by decide +kernel), List.mem_of_getElem? (i := 400) (by decide +kernel)⟩
theorem lw_p12 : lw_okq (⟨"LongSums$Size", "wholeFrom", "(I)J"⟩, 1) := ⟨⟨by decide +kernel, by decide +kernel⟩, List.mem_of_getElem? (i := 71) (by decide +kernel), List.mem_of_getElem? (i := 428) (by decide +kernel), List.mem_of_getElem? (i := 429) (by decide +kernel)⟩
theorem lw_p13 : lw_okq (⟨"LongSums$Size", "limbAt", "(I)J"⟩, 1) := ⟨⟨by decide +kernel, by decide +kernel⟩, List.mem_of_getElem? (i := 71) (by decide +kernel), List.mem_of_getElem? (i := 432) (by decide +kernel), List.mem_of_getElem? (i := 433) (by decide +kernel)⟩
theorem lw_p14 : lw_okq (⟨"LongSums$Size", "hasBitBelow", "(I)Z"⟩, 1) := ⟨⟨by decide +kernel, by decide +kernel⟩, List.mem_of_getElem? (i := 71) (by decide +kernel), List.mem_of_getElem? (i := 440) (by decide +kernel), List.mem_of_getElem? (i := 441) (by decide +kernel)⟩
theorem lw_p15 : lw_okq (⟨"LongSums", "rowsThere", "()I"⟩, 7) := ⟨⟨by decide +kernel, by decide +kernel⟩, List.mem_of_getElem? (i := 14) (by decide +kernel), List.mem_of_getElem? (i := 506) (by decide +kernel), List.mem_of_getElem? (i := 507) (by decide +kernel)⟩
def lw_privs_1 : List (MethodName × Nat) := [(⟨"LongSums$Row", "writeNumber", "(IJI)V"⟩, 6), (⟨"LongSums$Row", "writeFloat", "(IJI)V"⟩, 6), (⟨"LongSums$Row", "writeSort", "(II)V"⟩, 6), (⟨"LongSums", "remember", "(I)V"⟩, 7), (⟨"LongSums", "gatherInto", "(ILLongSums$Row;LLongSums$Row;II)I"⟩, 7), (⟨"LongSums$Keeper", "gain", "(JJIZ)V"⟩, 4), (⟨"LongSums$Keeper", "gainPart", "(JIZ)V"⟩, 4), (⟨"LongSums$Keeper", "gainHalf", "(JIZ)V"⟩, 4), (⟨"LongSums$Keeper", "meet", "(IZ)V"⟩, 4), (⟨"LongSums$Keeper", "carry", "()V"⟩, 4), (⟨"LongSums", "findingOf", "(I)I"⟩, 7), (⟨"LongSums", "sharedOut", "(LLongSums$Keeper;IIZ)D"⟩, 7), (⟨"LongSums$Size", "wholeFrom", "(I)J"⟩, 1), (⟨"LongSums$Size", "limbAt", "(I)J"⟩, 1), (⟨"LongSums$Size", "hasBitBelow", "(I)Z"⟩, 1), (⟨"LongSums", "rowsThere", "()I"⟩, 7)]
theorem lw_r1 : ∀ q ∈ lw_privs_1, lw_okq q := List.forall_mem_cons.mpr ⟨lw_p0, List.forall_mem_cons.mpr ⟨lw_p1, List.forall_mem_cons.mpr ⟨lw_p2, List.forall_mem_cons.mpr ⟨lw_p3, List.forall_mem_cons.mpr ⟨lw_p4, List.forall_mem_cons.mpr ⟨lw_p5, List.forall_mem_cons.mpr ⟨lw_p6, List.forall_mem_cons.mpr ⟨lw_p7, List.forall_mem_cons.mpr ⟨lw_p8, List.forall_mem_cons.mpr ⟨lw_p9, List.forall_mem_cons.mpr ⟨lw_p10, List.forall_mem_cons.mpr ⟨lw_p11, List.forall_mem_cons.mpr ⟨lw_p12, List.forall_mem_cons.mpr ⟨lw_p13, List.forall_mem_cons.mpr ⟨lw_p14, List.forall_mem_cons.mpr ⟨lw_p15, fun _ h => absurd h List.not_mem_nil⟩⟩⟩⟩⟩⟩⟩⟩⟩⟩⟩⟩⟩⟩⟩⟩
theorem lw_p16 : lw_okq (⟨"LongSums", "keepersThere", "(Z)I"⟩, 7) := ⟨⟨by decide +kernel, by decide +kernel⟩, List.mem_of_getElem? (i := 14) (by decide +kernel), List.mem_of_getElem? (i := 510) (by decide +kernel), List.mem_of_getElem? (i := 511) (by decide +kernel)⟩
theorem lw_p17 : lw_okq (⟨"LongSums", "placesThere", "()I"⟩, 7) := ⟨⟨by decide +kernel, by decide +kernel⟩, List.mem_of_getElem? (i := 14) (by decide +kernel), List.mem_of_getElem? (i := 514) (by decide +kernel), List.mem_of_getElem? (i := 515) (by decide +kernel)⟩
theorem lw_p18 : lw_okq (⟨"LongSumsModel", "isThere", "(I)Z"⟩, 23) := ⟨⟨by decide +kernel, by decide +kernel⟩, List.mem_of_getElem? (i := 518) (by decide +kernel), List.mem_of_getElem? (i := 611) (by decide +kernel), List.mem_of_getElem? (i := 612) (by decide +kernel)⟩
theorem lw_p19 : lw_okq (⟨"LongSumsModel", "isPlace", "(II)Z"⟩, 23) := ⟨⟨by decide +kernel, by decide +kernel⟩, List.mem_of_getElem? (i := 518) (by decide +kernel), List.mem_of_getElem? (i := 623) (by decide +kernel), List.mem_of_getElem? (i := 624) (by decide +kernel)⟩
theorem lw_p20 : lw_okq (⟨"LongSumsModel", "putFloat", "(ID)V"⟩, 23) := ⟨⟨by decide +kernel, by decide +kernel⟩, List.mem_of_getElem? (i := 518) (by decide +kernel), List.mem_of_getElem? (i := 632) (by decide +kernel), List.mem_of_getElem? (i := 633) (by decide +kernel)⟩
theorem lw_p21 : lw_okq (⟨"LongSumsModel", "isReal", "(I)Z"⟩, 23) := ⟨⟨by decide +kernel, by decide +kernel⟩, List.mem_of_getElem? (i := 518) (by decide +kernel), List.mem_of_getElem? (i := 641) (by decide +kernel), List.mem_of_getElem? (i := 642) (by decide +kernel)⟩
theorem lw_p22 : lw_okq (⟨"LongSumsModel", "arePlaces", "(III)Z"⟩, 23) := ⟨⟨by decide +kernel, by decide +kernel⟩, List.mem_of_getElem? (i := 518) (by decide +kernel), List.mem_of_getElem? (i := 651) (by decide +kernel), List.mem_of_getElem? (i := 652) (by decide +kernel)⟩
theorem lw_p23 : lw_okq (⟨"LongSumsModel", "valueOf", "(II)D"⟩, 23) := ⟨⟨by decide +kernel, by decide +kernel⟩, List.mem_of_getElem? (i := 518) (by decide +kernel), List.mem_of_getElem? (i := 668) (by decide +kernel), List.mem_of_getElem? (i := 669) (by decide +kernel)⟩
theorem lw_p24 : lw_okq (⟨"LongSumsModel", "keep", "(I)V"⟩, 23) := ⟨⟨by decide +kernel, by decide +kernel⟩, List.mem_of_getElem? (i := 518) (by decide +kernel), List.mem_of_getElem? (i := 690) (by decide +kernel), List.mem_of_getElem? (i := 691) (by decide +kernel)⟩
theorem lw_p25 : lw_okq (⟨"LongSumsModel", "blank", "(I)V"⟩, 23) := ⟨⟨by decide +kernel, by decide +kernel⟩, List.mem_of_getElem? (i := 518) (by decide +kernel), List.mem_of_getElem? (i := 694) (by decide +kernel), List.mem_of_getElem? (i := 695) (by decide +kernel)⟩
theorem lw_p26 : lw_okq (⟨"LongSumsModel", "addProduct", "(IIIIIZ)V"⟩, 23) := ⟨⟨by decide +kernel, by decide +kernel⟩, List.mem_of_getElem? (i := 518) (by decide +kernel), List.mem_of_getElem? (i := 707) (by decide +kernel), List.mem_of_getElem? (i := 708) (by decide +kernel)⟩
theorem lw_p27 : lw_okq (⟨"LongSumsModel", "sortOf", "(II)I"⟩, 23) := ⟨⟨by decide +kernel, by decide +kernel⟩, List.mem_of_getElem? (i := 518) (by decide +kernel), List.mem_of_getElem? (i := 711) (by decide +kernel), List.mem_of_getElem? (i := 712) (by decide +kernel)⟩
theorem lw_p28 : lw_okq (⟨"LongSumsModel", "isZero", "(II)Z"⟩, 23) := ⟨⟨by decide +kernel, by decide +kernel⟩, List.mem_of_getElem? (i := 518) (by decide +kernel), List.mem_of_getElem? (i := 715) (by decide +kernel), List.mem_of_getElem? (i := 716) (by decide +kernel)⟩
theorem lw_p29 : lw_okq (⟨"LongSumsModel", "see", "(III)V"⟩, 23) := ⟨⟨by decide +kernel, by decide +kernel⟩, List.mem_of_getElem? (i := 518) (by decide +kernel), List.mem_of_getElem? (i := 719) (by decide +kernel), List.mem_of_getElem? (i := 720) (by decide +kernel)⟩
theorem lw_p30 : lw_okq (⟨"LongSumsModel", "isBelow", "(II)Z"⟩, 23) := ⟨⟨by decide +kernel, by decide +kernel⟩, List.mem_of_getElem? (i := 518) (by decide +kernel), List.mem_of_getElem? (i := 724) (by decide +kernel), List.mem_of_getElem? (i := 725) (by decide +kernel)⟩
theorem lw_p31 : lw_okq (⟨"LongSumsModel", "endless", "(IZZ)V"⟩, 23) := ⟨⟨by decide +kernel, by decide +kernel⟩, List.mem_of_getElem? (i := 518) (by decide +kernel), List.mem_of_getElem? (i := 728) (by decide +kernel), List.mem_of_getElem? (i := 729) (by decide +kernel)⟩
def lw_privs_2 : List (MethodName × Nat) := [(⟨"LongSums", "keepersThere", "(Z)I"⟩, 7), (⟨"LongSums", "placesThere", "()I"⟩, 7), (⟨"LongSumsModel", "isThere", "(I)Z"⟩, 23), (⟨"LongSumsModel", "isPlace", "(II)Z"⟩, 23), (⟨"LongSumsModel", "putFloat", "(ID)V"⟩, 23), (⟨"LongSumsModel", "isReal", "(I)Z"⟩, 23), (⟨"LongSumsModel", "arePlaces", "(III)Z"⟩, 23), (⟨"LongSumsModel", "valueOf", "(II)D"⟩, 23), (⟨"LongSumsModel", "keep", "(I)V"⟩, 23), (⟨"LongSumsModel", "blank", "(I)V"⟩, 23), (⟨"LongSumsModel", "addProduct", "(IIIIIZ)V"⟩, 23), (⟨"LongSumsModel", "sortOf", "(II)I"⟩, 23), (⟨"LongSumsModel", "isZero", "(II)Z"⟩, 23), (⟨"LongSumsModel", "see", "(III)V"⟩, 23), (⟨"LongSumsModel", "isBelow", "(II)Z"⟩, 23), (⟨"LongSumsModel", "endless", "(IZZ)V"⟩, 23)]
theorem lw_r2 : ∀ q ∈ lw_privs_2, lw_okq q := List.forall_mem_cons.mpr ⟨lw_p16, List.forall_mem_cons.mpr ⟨lw_p17, List.forall_mem_cons.mpr ⟨lw_p18, List.forall_mem_cons.mpr ⟨lw_p19, List.forall_mem_cons.mpr ⟨lw_p20, List.forall_mem_cons.mpr ⟨lw_p21, List.forall_mem_cons.mpr ⟨lw_p22, List.forall_mem_cons.mpr ⟨lw_p23, List.forall_mem_cons.mpr ⟨lw_p24, List.forall_mem_cons.mpr ⟨lw_p25, List.forall_mem_cons.mpr ⟨lw_p26, List.forall_mem_cons.mpr ⟨lw_p27, List.forall_mem_cons.mpr ⟨lw_p28, List.forall_mem_cons.mpr ⟨lw_p29, List.forall_mem_cons.mpr ⟨lw_p30, List.forall_mem_cons.mpr ⟨lw_p31, fun _ h => absurd h List.not_mem_nil⟩⟩⟩⟩⟩⟩⟩⟩⟩⟩⟩⟩⟩⟩⟩⟩
theorem lw_p32 : lw_okq (⟨"LongSumsModel", "apart", "(II)V"⟩, 23) := ⟨⟨by decide +kernel, by decide +kernel⟩, List.mem_of_getElem? (i := 518) (by decide +kernel), List.mem_of_getElem? (i := 732) (by decide +kernel), List.mem_of_getElem? (i := 733) (by decide +kernel)⟩
theorem lw_p33 : lw_okq (⟨"LongSumsModel", "apart", "(D)V"⟩, 23) := ⟨⟨by decide +kernel, by decide +kernel⟩, List.mem_of_getElem? (i := 518) (by decide +kernel), List.mem_of_getElem? (i := 736) (by decide +kernel), List.mem_of_getElem? (i := 737) (by decide +kernel)⟩
theorem lw_p34 : lw_okq (⟨"LongSumsModel", "addBits", "(IJJIZ)V"⟩, 23) := ⟨⟨by decide +kernel, by decide +kernel⟩, List.mem_of_getElem? (i := 518) (by decide +kernel), List.mem_of_getElem? (i := 745) (by decide +kernel), List.mem_of_getElem? (i := 746) (by decide +kernel)⟩
theorem lw_p35 : lw_okq (⟨"LongSumsModel", "carry", "(IJJ)J"⟩, 23) := ⟨⟨by decide +kernel, by decide +kernel⟩, List.mem_of_getElem? (i := 518) (by decide +kernel), List.mem_of_getElem? (i := 751) (by decide +kernel), List.mem_of_getElem? (i := 752) (by decide +kernel)⟩
theorem lw_p36 : lw_okq (⟨"LongSumsModel", "addPlace", "(IIIZ)V"⟩, 23) := ⟨⟨by decide +kernel, by decide +kernel⟩, List.mem_of_getElem? (i := 518) (by decide +kernel), List.mem_of_getElem? (i := 755) (by decide +kernel), List.mem_of_getElem? (i := 756) (by decide +kernel)⟩
theorem lw_p37 : lw_okq (⟨"LongSumsModel", "plainOf", "(III)D"⟩, 23) := ⟨⟨by decide +kernel, by decide +kernel⟩, List.mem_of_getElem? (i := 518) (by decide +kernel), List.mem_of_getElem? (i := 775) (by decide +kernel), List.mem_of_getElem? (i := 776) (by decide +kernel)⟩
theorem lw_p38 : lw_okq (⟨"LongSumsModel", "sortOf", "(I)I"⟩, 23) := ⟨⟨by decide +kernel, by decide +kernel⟩, List.mem_of_getElem? (i := 518) (by decide +kernel), List.mem_of_getElem? (i := 787) (by decide +kernel), List.mem_of_getElem? (i := 788) (by decide +kernel)⟩
theorem lw_p39 : lw_okq (⟨"LongSumsModel", "endlessBy", "(I)D"⟩, 23) := ⟨⟨by decide +kernel, by decide +kernel⟩, List.mem_of_getElem? (i := 518) (by decide +kernel), List.mem_of_getElem? (i := 799) (by decide +kernel), List.mem_of_getElem? (i := 800) (by decide +kernel)⟩
theorem lw_p40 : lw_okq (⟨"LongSumsModel", "take", "(I)V"⟩, 23) := ⟨⟨by decide +kernel, by decide +kernel⟩, List.mem_of_getElem? (i := 518) (by decide +kernel), List.mem_of_getElem? (i := 803) (by decide +kernel), List.mem_of_getElem? (i := 804) (by decide +kernel)⟩
theorem lw_p41 : lw_okq (⟨"LongSumsModel", "rounded", "(IIII)D"⟩, 23) := ⟨⟨by decide +kernel, by decide +kernel⟩, List.mem_of_getElem? (i := 518) (by decide +kernel), List.mem_of_getElem? (i := 807) (by decide +kernel), List.mem_of_getElem? (i := 808) (by decide +kernel)⟩
theorem lw_p42 : lw_okq (⟨"LongSumsModel", "highest", "()I"⟩, 23) := ⟨⟨by decide +kernel, by decide +kernel⟩, List.mem_of_getElem? (i := 518) (by decide +kernel), List.mem_of_getElem? (i := 811) (by decide +kernel), List.mem_of_getElem? (i := 812) (by decide +kernel)⟩
theorem lw_p43 : lw_okq (⟨"LongSumsModel", "bitAt", "(I)I"⟩, 23) := ⟨⟨by decide +kernel, by decide +kernel⟩, List.mem_of_getElem? (i := 518) (by decide +kernel), List.mem_of_getElem? (i := 815) (by decide +kernel), List.mem_of_getElem? (i := 816) (by decide +kernel)⟩
theorem lw_p44 : lw_okq (⟨"LongSumsModel", "compareSquare", "(J)I"⟩, 23) := ⟨⟨by decide +kernel, by decide +kernel⟩, List.mem_of_getElem? (i := 518) (by decide +kernel), List.mem_of_getElem? (i := 829) (by decide +kernel), List.mem_of_getElem? (i := 830) (by decide +kernel)⟩
theorem lw_p45 : lw_okq (⟨"LongSumsModel", "doubleOf", "(J)D"⟩, 23) := ⟨⟨by decide +kernel, by decide +kernel⟩, List.mem_of_getElem? (i := 518) (by decide +kernel), List.mem_of_getElem? (i := 835) (by decide +kernel), List.mem_of_getElem? (i := 836) (by decide +kernel)⟩
def lw_privs_3 : List (MethodName × Nat) := [(⟨"LongSumsModel", "apart", "(II)V"⟩, 23), (⟨"LongSumsModel", "apart", "(D)V"⟩, 23), (⟨"LongSumsModel", "addBits", "(IJJIZ)V"⟩, 23), (⟨"LongSumsModel", "carry", "(IJJ)J"⟩, 23), (⟨"LongSumsModel", "addPlace", "(IIIZ)V"⟩, 23), (⟨"LongSumsModel", "plainOf", "(III)D"⟩, 23), (⟨"LongSumsModel", "sortOf", "(I)I"⟩, 23), (⟨"LongSumsModel", "endlessBy", "(I)D"⟩, 23), (⟨"LongSumsModel", "take", "(I)V"⟩, 23), (⟨"LongSumsModel", "rounded", "(IIII)D"⟩, 23), (⟨"LongSumsModel", "highest", "()I"⟩, 23), (⟨"LongSumsModel", "bitAt", "(I)I"⟩, 23), (⟨"LongSumsModel", "compareSquare", "(J)I"⟩, 23), (⟨"LongSumsModel", "doubleOf", "(J)D"⟩, 23)]
theorem lw_r3 : ∀ q ∈ lw_privs_3, lw_okq q := List.forall_mem_cons.mpr ⟨lw_p32, List.forall_mem_cons.mpr ⟨lw_p33, List.forall_mem_cons.mpr ⟨lw_p34, List.forall_mem_cons.mpr ⟨lw_p35, List.forall_mem_cons.mpr ⟨lw_p36, List.forall_mem_cons.mpr ⟨lw_p37, List.forall_mem_cons.mpr ⟨lw_p38, List.forall_mem_cons.mpr ⟨lw_p39, List.forall_mem_cons.mpr ⟨lw_p40, List.forall_mem_cons.mpr ⟨lw_p41, List.forall_mem_cons.mpr ⟨lw_p42, List.forall_mem_cons.mpr ⟨lw_p43, List.forall_mem_cons.mpr ⟨lw_p44, List.forall_mem_cons.mpr ⟨lw_p45, fun _ h => absurd h List.not_mem_nil⟩⟩⟩⟩⟩⟩⟩⟩⟩⟩⟩⟩⟩⟩
def lw_privs : List (MethodName × Nat) := lw_privs_1 ++ (lw_privs_2 ++ (lw_privs_3))
def lw_tbl : List Cond := k2_sels lw_privs ++ tables_1
theorem lw_privs_ok : ∀ q ∈ lw_privs, lw_okq q := by
  show ∀ q ∈ lw_privs_1 ++ (lw_privs_2 ++ (lw_privs_3)), lw_okq q
  exact List.forall_mem_append.mpr ⟨lw_r1, List.forall_mem_append.mpr ⟨lw_r2, lw_r3⟩⟩
/-- the streams that the claim lets the run draw from -/
abbrev lw_cs : List Choice := [Jvm.Choice.named "NaN.bits"]
theorem lw_bits : nanBits ∈ lw_cs := by first | decide | exact List.mem_cons_self | simp [lw_cs, nanBits]
-- ===== end of PART A; then your names; then what follows =====
def RX0 : String := "LongSums$History"
def TX0 : u_T := fun k => match k with
  | 0 => ("LongSums$History", "before", "[LLongSums$Keeper;", true)
  | 1 => ("LongSums$History", "whose", "[I", true)
  | 2 => ("LongSums$History", "kept", "I", false)
  | _ => ("LongSums$History", "latest", "I", false)
def tyX0 : Nat → FieldType := fun k => match k with
  | 0 => .array (.object "LongSums$Keeper")
  | 1 => .array .int
  | 2 => .int
  | _ => .int
abbrev wsX00 : List Cond := u_ws RX0 TX0 4
theorem nmX0 : ∀ a, a < 4 → ∀ b, b < 4 → a ≠ b → (TX0 a).2.1 ≠ (TX0 b).2.1 := by decide +kernel
theorem tyX0_ok : ∀ k, k < 4 → parseFieldDescriptor (TX0 k).2.2.1 = some (tyX0 k) := by decide +kernel
abbrev cX0_init : ByteArray := prog_2_method_1_code
def yX0_init : MethodName := ⟨RX0, "<init>", "()V"⟩
abbrev cX0_keep : ByteArray := prog_2_method_2_code
def yX0_keep : MethodName := ⟨RX0, "keep", "(ILLongSums$Keeper;)V"⟩
abbrev cX0_latestKeeper : ByteArray := prog_2_method_3_code
def yX0_latestKeeper : MethodName := ⟨RX0, "latestKeeper", "()I"⟩
abbrev cX0_takeBack : ByteArray := prog_2_method_4_code
def yX0_takeBack : MethodName := ⟨RX0, "takeBack", "(LLongSums$Keeper;)V"⟩
def RX1 : String := "LongSums$Keeper"
def TX1 : u_T := fun k => match k with
  | 0 => ("LongSums$Keeper", "there", "Z", false)
  | 1 => ("LongSums$Keeper", "kind", "I", false)
  | 2 => ("LongSums$Keeper", "met", "[I", true)
  | _ => ("LongSums$Keeper", "limbs", "[J", true)
def tyX1 : Nat → FieldType := fun k => match k with
  | 0 => .boolean
  | 1 => .int
  | 2 => .array .int
  | _ => .array .long
abbrev wsX10 : List Cond := u_ws RX1 TX1 4
theorem nmX1 : ∀ a, a < 4 → ∀ b, b < 4 → a ≠ b → (TX1 a).2.1 ≠ (TX1 b).2.1 := by decide +kernel
theorem tyX1_ok : ∀ k, k < 4 → parseFieldDescriptor (TX1 k).2.2.1 = some (tyX1 k) := by decide +kernel
abbrev cX1_init : ByteArray := prog_3_method_1_code
def yX1_init : MethodName := ⟨RX1, "<init>", "()V"⟩
abbrev cX1_renew : ByteArray := prog_3_method_2_code
def yX1_renew : MethodName := ⟨RX1, "renew", "(I)V"⟩
abbrev cX1_become : ByteArray := prog_3_method_3_code
def yX1_become : MethodName := ⟨RX1, "become", "(LLongSums$Keeper;)V"⟩
abbrev cX1_state : ByteArray := prog_3_method_4_code
def yX1_state : MethodName := ⟨RX1, "state", "()I"⟩
abbrev cX1_isBelow : ByteArray := prog_3_method_5_code
def yX1_isBelow : MethodName := ⟨RX1, "isBelow", "()Z"⟩
abbrev cX1_isNought : ByteArray := prog_3_method_6_code
def yX1_isNought : MethodName := ⟨RX1, "isNought", "()Z"⟩
abbrev cX1_comparedWith : ByteArray := prog_3_method_7_code
def yX1_comparedWith : MethodName := ⟨RX1, "comparedWith", "(LLongSums$Keeper;)I"⟩
abbrev cX1_gather : ByteArray := prog_3_method_8_code
def yX1_gather : MethodName := ⟨RX1, "gather", "(LLongSums$Row;LLongSums$Row;IIZ)V"⟩
abbrev cX1_gainAll : ByteArray := prog_3_method_9_code
def yX1_gainAll : MethodName := ⟨RX1, "gainAll", "(LLongSums$Keeper;)V"⟩
abbrev cX1_sortOfProduct : ByteArray := prog_3_method_10_code
def yX1_sortOfProduct : MethodName := ⟨RX1, "sortOfProduct", "(LLongSums$Row;LLongSums$Row;I)I"⟩
abbrev cX1_meet : ByteArray := prog_3_method_11_code
def yX1_meet : MethodName := ⟨RX1, "meet", "(IZ)V"⟩
abbrev cX1_gain : ByteArray := prog_3_method_12_code
def yX1_gain : MethodName := ⟨RX1, "gain", "(JJIZ)V"⟩
abbrev cX1_gainPart : ByteArray := prog_3_method_13_code
def yX1_gainPart : MethodName := ⟨RX1, "gainPart", "(JIZ)V"⟩
abbrev cX1_gainHalf : ByteArray := prog_3_method_14_code
def yX1_gainHalf : MethodName := ⟨RX1, "gainHalf", "(JIZ)V"⟩
abbrev cX1_carry : ByteArray := prog_3_method_15_code
def yX1_carry : MethodName := ⟨RX1, "carry", "()V"⟩
def RX2 : String := "LongSums$Row"
def TX2 : u_T := fun k => match k with
  | 0 => ("LongSums$Row", "there", "Z", false)
  | 1 => ("LongSums$Row", "kind", "I", false)
  | 2 => ("LongSums$Row", "places", "I", false)
  | 3 => ("LongSums$Row", "wholes", "[J", true)
  | 4 => ("LongSums$Row", "powers", "[I", true)
  | _ => ("LongSums$Row", "sorts", "[I", true)
def tyX2 : Nat → FieldType := fun k => match k with
  | 0 => .boolean
  | 1 => .int
  | 2 => .int
  | 3 => .array .long
  | 4 => .array .int
  | _ => .array .int
abbrev wsX20 : List Cond := u_ws RX2 TX2 6
theorem nmX2 : ∀ a, a < 6 → ∀ b, b < 6 → a ≠ b → (TX2 a).2.1 ≠ (TX2 b).2.1 := by decide +kernel
theorem tyX2_ok : ∀ k, k < 6 → parseFieldDescriptor (TX2 k).2.2.1 = some (tyX2 k) := by decide +kernel
abbrev cX2_init : ByteArray := prog_4_method_1_code
def yX2_init : MethodName := ⟨RX2, "<init>", "()V"⟩
abbrev cX2_renew : ByteArray := prog_4_method_2_code
def yX2_renew : MethodName := ⟨RX2, "renew", "(II)V"⟩
abbrev cX2_isFloating : ByteArray := prog_4_method_3_code
def yX2_isFloating : MethodName := ⟨RX2, "isFloating", "()Z"⟩
abbrev cX2_has : ByteArray := prog_4_method_4_code
def yX2_has : MethodName := ⟨RX2, "has", "(II)Z"⟩
abbrev cX2_sortAt : ByteArray := prog_4_method_5_code
def yX2_sortAt : MethodName := ⟨RX2, "sortAt", "(I)I"⟩
abbrev cX2_asDouble : ByteArray := prog_4_method_6_code
def yX2_asDouble : MethodName := ⟨RX2, "asDouble", "(I)D"⟩
abbrev cX2_write : ByteArray := prog_4_method_7_code
def yX2_write : MethodName := ⟨RX2, "write", "(IJI)V"⟩
abbrev cX2_writeMark : ByteArray := prog_4_method_8_code
def yX2_writeMark : MethodName := ⟨RX2, "writeMark", "(II)V"⟩
abbrev cX2_writeAll : ByteArray := prog_4_method_9_code
def yX2_writeAll : MethodName := ⟨RX2, "writeAll", "(LLongSums$Row;III)V"⟩
abbrev cX2_writeDouble : ByteArray := prog_4_method_10_code
def yX2_writeDouble : MethodName := ⟨RX2, "writeDouble", "(ID)V"⟩
abbrev cX2_summedPlainly : ByteArray := prog_4_method_11_code
def yX2_summedPlainly : MethodName := ⟨RX2, "summedPlainly", "(II)D"⟩
abbrev cX2_areOpposedEndless : ByteArray := prog_4_method_12_code
def yX2_areOpposedEndless : MethodName := ⟨RX2, "areOpposedEndless", "(DD)Z"⟩
abbrev cX2_topPower : ByteArray := prog_4_method_13_code
def yX2_topPower : MethodName := ⟨RX2, "topPower", "(D)I"⟩
abbrev cX2_writeFloat : ByteArray := prog_4_method_14_code
def yX2_writeFloat : MethodName := ⟨RX2, "writeFloat", "(IJI)V"⟩
abbrev cX2_withoutBits : ByteArray := prog_4_method_15_code
def yX2_withoutBits : MethodName := ⟨RX2, "withoutBits", "(JI)J"⟩
abbrev cX2_writeNumber : ByteArray := prog_4_method_16_code
def yX2_writeNumber : MethodName := ⟨RX2, "writeNumber", "(IJI)V"⟩
abbrev cX2_writeSort : ByteArray := prog_4_method_17_code
def yX2_writeSort : MethodName := ⟨RX2, "writeSort", "(II)V"⟩
def RX3 : String := "LongSums$Size"
def TX3 : u_T := fun k => match k with
  | _ => ("LongSums$Size", "limbs", "[J", true)
def tyX3 : Nat → FieldType := fun k => match k with
  | _ => .array .long
abbrev wsX30 : List Cond := u_ws RX3 TX3 1
theorem nmX3 : ∀ a, a < 1 → ∀ b, b < 1 → a ≠ b → (TX3 a).2.1 ≠ (TX3 b).2.1 := by decide +kernel
theorem tyX3_ok : ∀ k, k < 1 → parseFieldDescriptor (TX3 k).2.2.1 = some (tyX3 k) := by decide +kernel
abbrev cX3_init : ByteArray := prog_5_method_1_code
def yX3_init : MethodName := ⟨RX3, "<init>", "()V"⟩
abbrev cX3_load : ByteArray := prog_5_method_2_code
def yX3_load : MethodName := ⟨RX3, "load", "(LLongSums$Keeper;)V"⟩
abbrev cX3_divideBy : ByteArray := prog_5_method_3_code
def yX3_divideBy : MethodName := ⟨RX3, "divideBy", "(I)Z"⟩
abbrev cX3_topBit : ByteArray := prog_5_method_4_code
def yX3_topBit : MethodName := ⟨RX3, "topBit", "()I"⟩
abbrev cX3_bitAt : ByteArray := prog_5_method_5_code
def yX3_bitAt : MethodName := ⟨RX3, "bitAt", "(I)I"⟩
abbrev cX3_rounded : ByteArray := prog_5_method_6_code
def yX3_rounded : MethodName := ⟨RX3, "rounded", "(ZZIZ)D"⟩
abbrev cX3_rootRounded : ByteArray := prog_5_method_7_code
def yX3_rootRounded : MethodName := ⟨RX3, "rootRounded", "(I)D"⟩
abbrev cX3_limbAt : ByteArray := prog_5_method_8_code
def yX3_limbAt : MethodName := ⟨RX3, "limbAt", "(I)J"⟩
abbrev cX3_wholeFrom : ByteArray := prog_5_method_9_code
def yX3_wholeFrom : MethodName := ⟨RX3, "wholeFrom", "(I)J"⟩
abbrev cX3_hasBitBelow : ByteArray := prog_5_method_10_code
def yX3_hasBitBelow : MethodName := ⟨RX3, "hasBitBelow", "(I)Z"⟩
def RX4 : String := "LongSums"
def TX4 : u_T := fun k => match k with
  | 0 => ("LongSums", "rows", "[LLongSums$Row;", true)
  | 1 => ("LongSums", "keepers", "[LLongSums$Keeper;", true)
  | 2 => ("LongSums", "history", "LLongSums$History;", true)
  | 3 => ("LongSums", "size", "LLongSums$Size;", true)
  | 4 => ("LongSums", "ones", "LLongSums$Row;", true)
  | 5 => ("LongSums", "plainSum", "LLongSums$Row;", true)
  | _ => ("LongSums", "gathered", "I", false)
def tyX4 : Nat → FieldType := fun k => match k with
  | 0 => .array (.object "LongSums$Row")
  | 1 => .array (.object "LongSums$Keeper")
  | 2 => .object "LongSums$History"
  | 3 => .object "LongSums$Size"
  | 4 => .object "LongSums$Row"
  | 5 => .object "LongSums$Row"
  | _ => .int
abbrev wsX40 : List Cond := u_ws RX4 TX4 7
theorem nmX4 : ∀ a, a < 7 → ∀ b, b < 7 → a ≠ b → (TX4 a).2.1 ≠ (TX4 b).2.1 := by decide +kernel
theorem tyX4_ok : ∀ k, k < 7 → parseFieldDescriptor (TX4 k).2.2.1 = some (tyX4 k) := by decide +kernel
abbrev cX4_init : ByteArray := prog_1_method_1_code
def yX4_init : MethodName := ⟨RX4, "<init>", "()V"⟩
abbrev cX4_row : ByteArray := prog_1_method_2_code
def yX4_row : MethodName := ⟨RX4, "row", "(III)I"⟩
abbrev cX4_lose : ByteArray := prog_1_method_3_code
def yX4_lose : MethodName := ⟨RX4, "lose", "(I)I"⟩
abbrev cX4_put : ByteArray := prog_1_method_4_code
def yX4_put : MethodName := ⟨RX4, "put", "(IIJI)I"⟩
abbrev cX4_mark : ByteArray := prog_1_method_5_code
def yX4_mark : MethodName := ⟨RX4, "mark", "(III)I"⟩
abbrev cX4_copy : ByteArray := prog_1_method_6_code
def yX4_copy : MethodName := ⟨RX4, "copy", "(IIIII)I"⟩
abbrev cX4_look : ByteArray := prog_1_method_7_code
def yX4_look : MethodName := ⟨RX4, "look", "(III)J"⟩
abbrev cX4_see : ByteArray := prog_1_method_8_code
def yX4_see : MethodName := ⟨RX4, "see", "(II)D"⟩
abbrev cX4_compare : ByteArray := prog_1_method_9_code
def yX4_compare : MethodName := ⟨RX4, "compare", "(IID)I"⟩
abbrev cX4_keeper : ByteArray := prog_1_method_10_code
def yX4_keeper : MethodName := ⟨RX4, "keeper", "(II)I"⟩
abbrev cX4_add : ByteArray := prog_1_method_11_code
def yX4_add : MethodName := ⟨RX4, "add", "(IIII)I"⟩
abbrev cX4_pair : ByteArray := prog_1_method_12_code
def yX4_pair : MethodName := ⟨RX4, "pair", "(IIIII)I"⟩
abbrev cX4_merge : ByteArray := prog_1_method_13_code
def yX4_merge : MethodName := ⟨RX4, "merge", "(II)I"⟩
abbrev cX4_clear : ByteArray := prog_1_method_14_code
def yX4_clear : MethodName := ⟨RX4, "clear", "(I)I"⟩
abbrev cX4_error : ByteArray := prog_1_method_15_code
def yX4_error : MethodName := ⟨RX4, "error", "(IIII)I"⟩
abbrev cX4_plain : ByteArray := prog_1_method_16_code
def yX4_plain : MethodName := ⟨RX4, "plain", "(III)D"⟩
abbrev cX4_sort : ByteArray := prog_1_method_17_code
def yX4_sort : MethodName := ⟨RX4, "sort", "(I)I"⟩
abbrev cX4_seen : ByteArray := prog_1_method_18_code
def yX4_seen : MethodName := ⟨RX4, "seen", "(II)I"⟩
abbrev cX4_tell : ByteArray := prog_1_method_19_code
def yX4_tell : MethodName := ⟨RX4, "tell", "(IIZ)D"⟩
abbrev cX4_mean : ByteArray := prog_1_method_20_code
def yX4_mean : MethodName := ⟨RX4, "mean", "(III)D"⟩
abbrev cX4_length : ByteArray := prog_1_method_21_code
def yX4_length : MethodName := ⟨RX4, "length", "(IZ)D"⟩
abbrev cX4_sign : ByteArray := prog_1_method_22_code
def yX4_sign : MethodName := ⟨RX4, "sign", "(I)I"⟩
abbrev cX4_high : ByteArray := prog_1_method_23_code
def yX4_high : MethodName := ⟨RX4, "high", "(I)I"⟩
abbrev cX4_bit : ByteArray := prog_1_method_24_code
def yX4_bit : MethodName := ⟨RX4, "bit", "(II)I"⟩
abbrev cX4_order : ByteArray := prog_1_method_25_code
def yX4_order : MethodName := ⟨RX4, "order", "(II)I"⟩
abbrev cX4_undo : ByteArray := prog_1_method_26_code
def yX4_undo : MethodName := ⟨RX4, "undo", "()I"⟩
abbrev cX4_count : ByteArray := prog_1_method_27_code
def yX4_count : MethodName := ⟨RX4, "count", "(I)I"⟩
abbrev cX4_isRow : ByteArray := prog_1_method_28_code
def yX4_isRow : MethodName := ⟨RX4, "isRow", "(I)Z"⟩
abbrev cX4_isKeeper : ByteArray := prog_1_method_29_code
def yX4_isKeeper : MethodName := ⟨RX4, "isKeeper", "(I)Z"⟩
abbrev cX4_isWay : ByteArray := prog_1_method_30_code
def yX4_isWay : MethodName := ⟨RX4, "isWay", "(I)Z"⟩
abbrev cX4_findingOf : ByteArray := prog_1_method_31_code
def yX4_findingOf : MethodName := ⟨RX4, "findingOf", "(I)I"⟩
abbrev cX4_remember : ByteArray := prog_1_method_32_code
def yX4_remember : MethodName := ⟨RX4, "remember", "(I)V"⟩
abbrev cX4_gatherInto : ByteArray := prog_1_method_33_code
def yX4_gatherInto : MethodName := ⟨RX4, "gatherInto", "(ILLongSums$Row;LLongSums$Row;II)I"⟩
abbrev cX4_sharedOut : ByteArray := prog_1_method_34_code
def yX4_sharedOut : MethodName := ⟨RX4, "sharedOut", "(LLongSums$Keeper;IIZ)D"⟩
abbrev cX4_rowsThere : ByteArray := prog_1_method_35_code
def yX4_rowsThere : MethodName := ⟨RX4, "rowsThere", "()I"⟩
abbrev cX4_placesThere : ByteArray := prog_1_method_36_code
def yX4_placesThere : MethodName := ⟨RX4, "placesThere", "()I"⟩
abbrev cX4_keepersThere : ByteArray := prog_1_method_37_code
def yX4_keepersThere : MethodName := ⟨RX4, "keepersThere", "(Z)I"⟩
abbrev cX4_endless : ByteArray := prog_1_method_38_code
def yX4_endless : MethodName := ⟨RX4, "endless", "()D"⟩
abbrev cX4_greatest : ByteArray := prog_1_method_39_code
def yX4_greatest : MethodName := ⟨RX4, "greatest", "(Z)D"⟩
abbrev cX4_power : ByteArray := prog_1_method_40_code
def yX4_power : MethodName := ⟨RX4, "power", "(I)D"⟩
abbrev cX4_bitsIn : ByteArray := prog_1_method_41_code
def yX4_bitsIn : MethodName := ⟨RX4, "bitsIn", "(J)I"⟩
abbrev cX4_stepsAway : ByteArray := prog_1_method_42_code
def yX4_stepsAway : MethodName := ⟨RX4, "stepsAway", "(JZZZI)Z"⟩
abbrev cX4_finished : ByteArray := prog_1_method_43_code
def yX4_finished : MethodName := ⟨RX4, "finished", "(JIZIZ)D"⟩
def RX5 : String := "LongSumsModel"
def TX5 : u_T := fun k => match k with
  | 0 => ("LongSumsModel", "thrown", "I", false)
  | 1 => ("LongSumsModel", "rowKind", "[I", true)
  | 2 => ("LongSumsModel", "rowLong", "[I", true)
  | 3 => ("LongSumsModel", "whole", "[J", true)
  | 4 => ("LongSumsModel", "real", "[D", true)
  | 5 => ("LongSumsModel", "sorts", "[I", true)
  | 6 => ("LongSumsModel", "kinds", "[I", true)
  | 7 => ("LongSumsModel", "sums", "[I", true)
  | 8 => ("LongSumsModel", "seen", "[I", true)
  | 9 => ("LongSumsModel", "added", "I", false)
  | 10 => ("LongSumsModel", "oldKeeper", "[I", true)
  | 11 => ("LongSumsModel", "oldKind", "[I", true)
  | 12 => ("LongSumsModel", "oldSums", "[I", true)
  | 13 => ("LongSumsModel", "oldSeen", "[I", true)
  | 14 => ("LongSumsModel", "keptEnd", "I", false)
  | 15 => ("LongSumsModel", "kept", "I", false)
  | 16 => ("LongSumsModel", "size", "J", false)
  | 17 => ("LongSumsModel", "power", "I", false)
  | 18 => ("LongSumsModel", "minus", "Z", false)
  | 19 => ("LongSumsModel", "hand", "[I", true)
  | 20 => ("LongSumsModel", "handMinus", "Z", false)
  | 21 => ("LongSumsModel", "handRest", "Z", false)
  | _ => ("LongSumsModel", "square", "[I", true)
def tyX5 : Nat → FieldType := fun k => match k with
  | 0 => .int
  | 1 => .array .int
  | 2 => .array .int
  | 3 => .array .long
  | 4 => .array .double
  | 5 => .array .int
  | 6 => .array .int
  | 7 => .array .int
  | 8 => .array .int
  | 9 => .int
  | 10 => .array .int
  | 11 => .array .int
  | 12 => .array .int
  | 13 => .array .int
  | 14 => .int
  | 15 => .int
  | 16 => .long
  | 17 => .int
  | 18 => .boolean
  | 19 => .array .int
  | 20 => .boolean
  | 21 => .boolean
  | _ => .array .int
abbrev wsX50 : List Cond := u_ws RX5 TX5 23
theorem nmX5 : ∀ a, a < 23 → ∀ b, b < 23 → a ≠ b → (TX5 a).2.1 ≠ (TX5 b).2.1 := by decide +kernel
theorem tyX5_ok : ∀ k, k < 23 → parseFieldDescriptor (TX5 k).2.2.1 = some (tyX5 k) := by decide +kernel
abbrev cX5_init : ByteArray := prog_7_method_1_code
def yX5_init : MethodName := ⟨RX5, "<init>", "()V"⟩
abbrev cX5_in : ByteArray := prog_7_method_3_code
def yX5_in : MethodName := ⟨RX5, "in", "(JJJ)Z"⟩
abbrev cX5_isRow : ByteArray := prog_7_method_4_code
def yX5_isRow : MethodName := ⟨RX5, "isRow", "(I)Z"⟩
abbrev cX5_isThere : ByteArray := prog_7_method_5_code
def yX5_isThere : MethodName := ⟨RX5, "isThere", "(I)Z"⟩
abbrev cX5_isReal : ByteArray := prog_7_method_6_code
def yX5_isReal : MethodName := ⟨RX5, "isReal", "(I)Z"⟩
abbrev cX5_isPlace : ByteArray := prog_7_method_7_code
def yX5_isPlace : MethodName := ⟨RX5, "isPlace", "(II)Z"⟩
abbrev cX5_arePlaces : ByteArray := prog_7_method_8_code
def yX5_arePlaces : MethodName := ⟨RX5, "arePlaces", "(III)Z"⟩
abbrev cX5_row : ByteArray := prog_7_method_9_code
def yX5_row : MethodName := ⟨RX5, "row", "(III)I"⟩
abbrev cX5_lose : ByteArray := prog_7_method_10_code
def yX5_lose : MethodName := ⟨RX5, "lose", "(I)I"⟩
abbrev cX5_made : ByteArray := prog_7_method_11_code
def yX5_made : MethodName := ⟨RX5, "made", "(JI)D"⟩
abbrev cX5_put : ByteArray := prog_7_method_12_code
def yX5_put : MethodName := ⟨RX5, "put", "(IIJI)I"⟩
abbrev cX5_putFloat : ByteArray := prog_7_method_13_code
def yX5_putFloat : MethodName := ⟨RX5, "putFloat", "(ID)V"⟩
abbrev cX5_mark : ByteArray := prog_7_method_14_code
def yX5_mark : MethodName := ⟨RX5, "mark", "(III)I"⟩
abbrev cX5_copy : ByteArray := prog_7_method_15_code
def yX5_copy : MethodName := ⟨RX5, "copy", "(IIIII)I"⟩
abbrev cX5_look : ByteArray := prog_7_method_16_code
def yX5_look : MethodName := ⟨RX5, "look", "(III)J"⟩
abbrev cX5_valueOf : ByteArray := prog_7_method_17_code
def yX5_valueOf : MethodName := ⟨RX5, "valueOf", "(II)D"⟩
abbrev cX5_see : ByteArray := prog_7_method_18_code
def yX5_see : MethodName := ⟨RX5, "see", "(II)D"⟩
abbrev cX5_compare : ByteArray := prog_7_method_19_code
def yX5_compare : MethodName := ⟨RX5, "compare", "(IID)I"⟩
abbrev cX5_isKeeper : ByteArray := prog_7_method_20_code
def yX5_isKeeper : MethodName := ⟨RX5, "isKeeper", "(I)Z"⟩
abbrev cX5_keep : ByteArray := prog_7_method_21_code
def yX5_keep : MethodName := ⟨RX5, "keep", "(I)V"⟩
abbrev cX5_undo : ByteArray := prog_7_method_22_code
def yX5_undo : MethodName := ⟨RX5, "undo", "()I"⟩
abbrev cX5_blank : ByteArray := prog_7_method_23_code
def yX5_blank : MethodName := ⟨RX5, "blank", "(I)V"⟩
abbrev cX5_keeper : ByteArray := prog_7_method_24_code
def yX5_keeper : MethodName := ⟨RX5, "keeper", "(II)I"⟩
abbrev cX5_see_ : ByteArray := prog_7_method_25_code
def yX5_see_ : MethodName := ⟨RX5, "see", "(III)V"⟩
abbrev cX5_carry : ByteArray := prog_7_method_26_code
def yX5_carry : MethodName := ⟨RX5, "carry", "(IJJ)J"⟩
abbrev cX5_addBits : ByteArray := prog_7_method_27_code
def yX5_addBits : MethodName := ⟨RX5, "addBits", "(IJJIZ)V"⟩
abbrev cX5_apart : ByteArray := prog_7_method_28_code
def yX5_apart : MethodName := ⟨RX5, "apart", "(II)V"⟩
abbrev cX5_apart_ : ByteArray := prog_7_method_29_code
def yX5_apart_ : MethodName := ⟨RX5, "apart", "(D)V"⟩
abbrev cX5_sortOf : ByteArray := prog_7_method_30_code
def yX5_sortOf : MethodName := ⟨RX5, "sortOf", "(II)I"⟩
abbrev cX5_isZero : ByteArray := prog_7_method_31_code
def yX5_isZero : MethodName := ⟨RX5, "isZero", "(II)Z"⟩
abbrev cX5_isBelow : ByteArray := prog_7_method_32_code
def yX5_isBelow : MethodName := ⟨RX5, "isBelow", "(II)Z"⟩
abbrev cX5_endless : ByteArray := prog_7_method_33_code
def yX5_endless : MethodName := ⟨RX5, "endless", "(IZZ)V"⟩
abbrev cX5_addPlace : ByteArray := prog_7_method_34_code
def yX5_addPlace : MethodName := ⟨RX5, "addPlace", "(IIIZ)V"⟩
abbrev cX5_addProduct : ByteArray := prog_7_method_35_code
def yX5_addProduct : MethodName := ⟨RX5, "addProduct", "(IIIIIZ)V"⟩
abbrev cX5_sizeOf : ByteArray := prog_7_method_36_code
def yX5_sizeOf : MethodName := ⟨RX5, "sizeOf", "(I)I"⟩
abbrev cX5_add : ByteArray := prog_7_method_37_code
def yX5_add : MethodName := ⟨RX5, "add", "(IIII)I"⟩
abbrev cX5_pair : ByteArray := prog_7_method_38_code
def yX5_pair : MethodName := ⟨RX5, "pair", "(IIIII)I"⟩
abbrev cX5_merge : ByteArray := prog_7_method_39_code
def yX5_merge : MethodName := ⟨RX5, "merge", "(II)I"⟩
abbrev cX5_clear : ByteArray := prog_7_method_40_code
def yX5_clear : MethodName := ⟨RX5, "clear", "(I)I"⟩
abbrev cX5_plainOf : ByteArray := prog_7_method_41_code
def yX5_plainOf : MethodName := ⟨RX5, "plainOf", "(III)D"⟩
abbrev cX5_error : ByteArray := prog_7_method_42_code
def yX5_error : MethodName := ⟨RX5, "error", "(IIII)I"⟩
abbrev cX5_plain : ByteArray := prog_7_method_43_code
def yX5_plain : MethodName := ⟨RX5, "plain", "(III)D"⟩
abbrev cX5_sortOf_ : ByteArray := prog_7_method_44_code
def yX5_sortOf_ : MethodName := ⟨RX5, "sortOf", "(I)I"⟩
abbrev cX5_sort : ByteArray := prog_7_method_45_code
def yX5_sort : MethodName := ⟨RX5, "sort", "(I)I"⟩
abbrev cX5_seen : ByteArray := prog_7_method_46_code
def yX5_seen : MethodName := ⟨RX5, "seen", "(II)I"⟩
abbrev cX5_take : ByteArray := prog_7_method_47_code
def yX5_take : MethodName := ⟨RX5, "take", "(I)V"⟩
abbrev cX5_highest : ByteArray := prog_7_method_48_code
def yX5_highest : MethodName := ⟨RX5, "highest", "()I"⟩
abbrev cX5_bitAt : ByteArray := prog_7_method_49_code
def yX5_bitAt : MethodName := ⟨RX5, "bitAt", "(I)I"⟩
abbrev cX5_rounded : ByteArray := prog_7_method_50_code
def yX5_rounded : MethodName := ⟨RX5, "rounded", "(IIII)D"⟩
abbrev cX5_endlessBy : ByteArray := prog_7_method_51_code
def yX5_endlessBy : MethodName := ⟨RX5, "endlessBy", "(I)D"⟩
abbrev cX5_tell : ByteArray := prog_7_method_52_code
def yX5_tell : MethodName := ⟨RX5, "tell", "(IIZ)D"⟩
abbrev cX5_mean : ByteArray := prog_7_method_53_code
def yX5_mean : MethodName := ⟨RX5, "mean", "(III)D"⟩
abbrev cX5_compareSquare : ByteArray := prog_7_method_54_code
def yX5_compareSquare : MethodName := ⟨RX5, "compareSquare", "(J)I"⟩
abbrev cX5_doubleOf : ByteArray := prog_7_method_55_code
def yX5_doubleOf : MethodName := ⟨RX5, "doubleOf", "(J)D"⟩
abbrev cX5_length : ByteArray := prog_7_method_56_code
def yX5_length : MethodName := ⟨RX5, "length", "(IZ)D"⟩
abbrev cX5_sign : ByteArray := prog_7_method_57_code
def yX5_sign : MethodName := ⟨RX5, "sign", "(I)I"⟩
abbrev cX5_high : ByteArray := prog_7_method_58_code
def yX5_high : MethodName := ⟨RX5, "high", "(I)I"⟩
abbrev cX5_bit : ByteArray := prog_7_method_59_code
def yX5_bit : MethodName := ⟨RX5, "bit", "(II)I"⟩
abbrev cX5_order : ByteArray := prog_7_method_60_code
def yX5_order : MethodName := ⟨RX5, "order", "(II)I"⟩
abbrev cX5_count : ByteArray := prog_7_method_61_code
def yX5_count : MethodName := ⟨RX5, "count", "(I)I"⟩
def RJx145de : String := "java/io/Serializable"
def TJx145de : u_T := fun k => match k with
  | _ => ("", "", "", false)
def tyJx145de : Nat → FieldType := fun k => match k with
  | _ => .int
theorem nmJx145de : ∀ a, a < 0 → ∀ b, b < 0 → a ≠ b → (TJx145de a).2.1 ≠ (TJx145de b).2.1 := by decide +kernel
theorem tyJx145de_ok : ∀ k, k < 0 → parseFieldDescriptor (TJx145de k).2.2.1 = some (tyJx145de k) := by decide +kernel
def RJxb160c : String := "java/lang/Comparable"
def TJxb160c : u_T := fun k => match k with
  | _ => ("", "", "", false)
def tyJxb160c : Nat → FieldType := fun k => match k with
  | _ => .int
theorem nmJxb160c : ∀ a, a < 0 → ∀ b, b < 0 → a ≠ b → (TJxb160c a).2.1 ≠ (TJxb160c b).2.1 := by decide +kernel
theorem tyJxb160c_ok : ∀ k, k < 0 → parseFieldDescriptor (TJxb160c k).2.2.1 = some (tyJxb160c k) := by decide +kernel
def RJ6 : String := "java/lang/Integer"
def TJ6 : u_T := fun k => match k with
  | _ => ("", "", "", false)
def tyJ6 : Nat → FieldType := fun k => match k with
  | _ => .int
theorem nmJ6 : ∀ a, a < 0 → ∀ b, b < 0 → a ≠ b → (TJ6 a).2.1 ≠ (TJ6 b).2.1 := by decide +kernel
theorem tyJ6_ok : ∀ k, k < 0 → parseFieldDescriptor (TJ6 k).2.2.1 = some (tyJ6 k) := by decide +kernel
abbrev cJ6_numberOfLeadingZeros_0f7a4 : ByteArray := prog_8_method_47_code
def yJ6_numberOfLeadingZeros_0f7a4 : MethodName := ⟨RJ6, "numberOfLeadingZeros", "(I)I"⟩
def RJ13 : String := "java/lang/Long"
def TJ13 : u_T := fun k => match k with
  | _ => ("", "", "", false)
def tyJ13 : Nat → FieldType := fun k => match k with
  | _ => .int
theorem nmJ13 : ∀ a, a < 0 → ∀ b, b < 0 → a ≠ b → (TJ13 a).2.1 ≠ (TJ13 b).2.1 := by decide +kernel
theorem tyJ13_ok : ∀ k, k < 0 → parseFieldDescriptor (TJ13 k).2.2.1 = some (tyJ13 k) := by decide +kernel
abbrev cJ13_numberOfLeadingZeros_95d88 : ByteArray := prog_9_method_48_code
def yJ13_numberOfLeadingZeros_95d88 : MethodName := ⟨RJ13, "numberOfLeadingZeros", "(J)I"⟩
def RJ9 : String := "java/lang/Math"
def TJ9 : u_T := fun k => match k with
  | _ => ("", "", "", false)
def tyJ9 : Nat → FieldType := fun k => match k with
  | _ => .int
theorem nmJ9 : ∀ a, a < 0 → ∀ b, b < 0 → a ≠ b → (TJ9 a).2.1 ≠ (TJ9 b).2.1 := by decide +kernel
theorem tyJ9_ok : ∀ k, k < 0 → parseFieldDescriptor (TJ9 k).2.2.1 = some (tyJ9 k) := by decide +kernel
abbrev cJ9_multiplyHigh_f86c9 : ByteArray := prog_10_method_45_code
def yJ9_multiplyHigh_f86c9 : MethodName := ⟨RJ9, "multiplyHigh", "(JJ)J"⟩
abbrev cJ9_abs_0f7a4 : ByteArray := prog_10_method_59_code
def yJ9_abs_0f7a4 : MethodName := ⟨RJ9, "abs", "(I)I"⟩
abbrev cJ9_abs_067f4 : ByteArray := prog_10_method_61_code
def yJ9_abs_067f4 : MethodName := ⟨RJ9, "abs", "(J)J"⟩
abbrev cJ9_max_7cf53 : ByteArray := prog_10_method_65_code
def yJ9_max_7cf53 : MethodName := ⟨RJ9, "max", "(II)I"⟩
abbrev cJ9_min_7cf53 : ByteArray := prog_10_method_69_code
def yJ9_min_7cf53 : MethodName := ⟨RJ9, "min", "(II)I"⟩
def RJxd2413 : String := "java/lang/Number"
def TJxd2413 : u_T := fun k => match k with
  | _ => ("", "", "", false)
def tyJxd2413 : Nat → FieldType := fun k => match k with
  | _ => .int
theorem nmJxd2413 : ∀ a, a < 0 → ∀ b, b < 0 → a ≠ b → (TJxd2413 a).2.1 ≠ (TJxd2413 b).2.1 := by decide +kernel
theorem tyJxd2413_ok : ∀ k, k < 0 → parseFieldDescriptor (TJxd2413 k).2.2.1 = some (tyJxd2413 k) := by decide +kernel
def RJ10 : String := "java/lang/System"
def TJ10 : u_T := fun k => match k with
  | _ => ("", "", "", false)
def tyJ10 : Nat → FieldType := fun k => match k with
  | _ => .int
theorem nmJ10 : ∀ a, a < 0 → ∀ b, b < 0 → a ≠ b → (TJ10 a).2.1 ≠ (TJ10 b).2.1 := by decide +kernel
theorem tyJ10_ok : ∀ k, k < 0 → parseFieldDescriptor (TJ10 k).2.2.1 = some (tyJ10 k) := by decide +kernel
def RJxfd54e : String := "java/lang/constant/Constable"
def TJxfd54e : u_T := fun k => match k with
  | _ => ("", "", "", false)
def tyJxfd54e : Nat → FieldType := fun k => match k with
  | _ => .int
theorem nmJxfd54e : ∀ a, a < 0 → ∀ b, b < 0 → a ≠ b → (TJxfd54e a).2.1 ≠ (TJxfd54e b).2.1 := by decide +kernel
theorem tyJxfd54e_ok : ∀ k, k < 0 → parseFieldDescriptor (TJxfd54e k).2.2.1 = some (tyJxfd54e k) := by decide +kernel
def RJx3cf43 : String := "java/lang/constant/ConstantDesc"
def TJx3cf43 : u_T := fun k => match k with
  | _ => ("", "", "", false)
def tyJx3cf43 : Nat → FieldType := fun k => match k with
  | _ => .int
theorem nmJx3cf43 : ∀ a, a < 0 → ∀ b, b < 0 → a ≠ b → (TJx3cf43 a).2.1 ≠ (TJx3cf43 b).2.1 := by decide +kernel
theorem tyJx3cf43_ok : ∀ k, k < 0 → parseFieldDescriptor (TJx3cf43 k).2.2.1 = some (tyJx3cf43 k) := by decide +kernel
def RJ7 : String := "java/util/Arrays"
def TJ7 : u_T := fun k => match k with
  | _ => ("", "", "", false)
def tyJ7 : Nat → FieldType := fun k => match k with
  | _ => .int
theorem nmJ7 : ∀ a, a < 0 → ∀ b, b < 0 → a ≠ b → (TJ7 a).2.1 ≠ (TJ7 b).2.1 := by decide +kernel
theorem tyJ7_ok : ∀ k, k < 0 → parseFieldDescriptor (TJ7 k).2.2.1 = some (tyJ7 k) := by decide +kernel
abbrev cJ7_fill_d0a16 : ByteArray := prog_13_method_101_code
def yJ7_fill_d0a16 : MethodName := ⟨RJ7, "fill", "([JJ)V"⟩
abbrev cJ7_fill_53178 : ByteArray := prog_13_method_103_code
def yJ7_fill_53178 : MethodName := ⟨RJ7, "fill", "([II)V"⟩
def RL : String := "LongSumsLaw"
abbrev cL_law : ByteArray := code
def yL_law : MethodName := ⟨RL, "law", "([I)Z"⟩
