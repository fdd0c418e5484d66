section
-- ===== PART A: goes FIRST, ahead of the names: the tables' words, and 'selects' of the private methods out of them =====
/-- a private method of a class that the tables say can be made, by its rows of tables_1 -/
def lw_okq (q : MethodName × Nat) : Prop := (q.1.cls ≠ "java/lang/invoke/MethodHandle" ∧ q.1.cls ≠ "java/lang/invoke/VarHandle") ∧ Cond.instantiable q.1.cls q.2 ∈ tables_1 ∧ Cond.privateMethod q.1 ∈ tables_1 ∧ Cond.instanceMethod q.1 ∈ tables_1
theorem lw_p0 : lw_okq (⟨"LongSums$Row", "writeNumber", "(IJI)V"⟩, 6) := ⟨⟨by decide +kernel, by decide +kernel⟩, List.mem_of_getElem? (i := 80) (by decide +kernel), List.mem_of_getElem? (i := 126) (by decide +kernel), List.mem_of_getElem? (i := 127) (by decide +kernel)⟩
theorem lw_p1 : lw_okq (⟨"LongSums$Row", "writeFloat", "(IJI)V"⟩, 6) := ⟨⟨by decide +kernel, by decide +kernel⟩, List.mem_of_getElem? (i := 80) (by decide +kernel), List.mem_of_getElem? (i := 130) (by decide +kernel), List.mem_of_getElem? (i := 131) (by decide +kernel)⟩
theorem lw_p2 : lw_okq (⟨"LongSums$Row", "writeSort", "(II)V"⟩, 6) := ⟨⟨by decide +kernel, by decide +kernel⟩, List.mem_of_getElem? (i := 80) (by decide +kernel), List.mem_of_getElem? (i := 156) (by decide +kernel), List.mem_of_getElem? (i := 157) (by decide +kernel)⟩
theorem lw_p3 : lw_okq (⟨"LongSums", "remember", "(I)V"⟩, 7) := ⟨⟨by decide +kernel, by decide +kernel⟩, List.mem_of_getElem? (i := 14) (by decide +kernel), List.mem_of_getElem? (i := 270) (by decide +kernel), List.mem_of_getElem? (i := 271) (by decide +kernel)⟩
theorem lw_p4 : lw_okq (⟨"LongSums", "gatherInto", "(ILLongSums$Row;LLongSums$Row;II)I"⟩, 7) := ⟨⟨by decide +kernel, by decide +kernel⟩, List.mem_of_getElem? (i := 14) (by decide +kernel), List.mem_of_getElem? (i := 296) (by decide +kernel), List.mem_of_getElem? (i := 297) (by decide +kernel)⟩
theorem lw_p5 : lw_okq (⟨"LongSums$Keeper", "gain", "(JJIZ)V"⟩, 4) := ⟨⟨by decide +kernel, by decide +kernel⟩, List.mem_of_getElem? (i := 32) (by decide +kernel), List.mem_of_getElem? (i := 308) (by decide +kernel), List.mem_of_getElem? (i := 309) (by decide +kernel)⟩
theorem lw_p6 : lw_okq (⟨"LongSums$Keeper", "gainPart", "(JIZ)V"⟩, 4) := ⟨⟨by decide +kernel, by decide +kernel⟩, List.mem_of_getElem? (i := 32) (by decide +kernel), List.mem_of_getElem? (i := 314) (by decide +kernel), List.mem_of_getElem? (i := 315) (by decide +kernel)⟩
theorem lw_p7 : lw_okq (⟨"LongSums$Keeper", "gainHalf", "(JIZ)V"⟩, 4) := ⟨⟨by decide +kernel, by decide +kernel⟩, List.mem_of_getElem? (i := 32) (by decide +kernel), List.mem_of_getElem? (i := 318) (by decide +kernel), List.mem_of_getElem? (i := 319) (by decide +kernel)⟩
theorem lw_p8 : lw_okq (⟨"LongSums$Keeper", "meet", "(IZ)V"⟩, 4) := ⟨⟨by decide +kernel, by decide +kernel⟩, List.mem_of_getElem? (i := 32) (by decide +kernel), List.mem_of_getElem? (i := 322) (by decide +kernel), List.mem_of_getElem? (i := 323) (by decide +kernel)⟩
theorem lw_p9 : lw_okq (⟨"LongSums$Keeper", "carry", "()V"⟩, 4) := ⟨⟨by decide +kernel, by decide +kernel⟩, List.mem_of_getElem? (i := 32) (by decide +kernel), List.mem_of_getElem? (i := 328) (by decide +kernel), List.mem_of_getElem? (i := 329) (by decide +kernel)⟩
theorem lw_p10 : lw_okq (⟨"LongSums", "findingOf", "(I)I"⟩, 7) := ⟨⟨by decide +kernel, by decide +kernel⟩, List.mem_of_getElem? (i := 14) (by decide +kernel), List.mem_of_getElem? (i := 380) (by decide +kernel), List.mem_of_getElem? (i := 381) (by decide +kernel)⟩
theorem lw_p11 : lw_okq (⟨"LongSums", "sharedOut", "(LLongSums$Keeper;IIZ)D"⟩, 7) := ⟨⟨by decide +kernel, by decide +kernel⟩, List.mem_of_getElem? (i := 14) (by decide +kernel), List.mem_of_getElem? (i := 399) (by decide +kernel), List.mem_of_getElem? (i := 400) (by decide +kernel)⟩
theorem lw_p12 : lw_okq (⟨"LongSums$Size", "wholeFrom", "(I)J"⟩, 1) := ⟨⟨by decide +kernel, by decide +kernel⟩, List.mem_of_getElem? (i := 71) (by decide +kernel), List.mem_of_getElem? (i := 428) (by decide +kernel), List.mem_of_getElem? (i := 429) (by decide +kernel)⟩
theorem lw_p13 : lw_okq (⟨"LongSums$Size", "limbAt", "(I)J"⟩, 1) := ⟨⟨by decide +kernel, by decide +kernel⟩, List.mem_of_getElem? (i := 71) (by decide +kernel), List.mem_of_getElem? (i := 432) (by decide +kernel), List.mem_of_getElem? (i := 433) (by decide +kernel)⟩
theorem lw_p14 : lw_okq (⟨"LongSums$Size", "hasBitBelow", "(I)Z"⟩, 1) := ⟨⟨by decide +kernel, by decide +kernel⟩, List.mem_of_getElem? (i := 71) (by decide +kernel), List.mem_of_getElem? (i := 440) (by decide +kernel), List.mem_of_getElem? (i := 441) (by decide +kernel)⟩
theorem lw_p15 : lw_okq (⟨"LongSums", "rowsThere", "()I"⟩, 7) := ⟨⟨by decide +kernel, by decide +kernel⟩, List.mem_of_getElem? (i := 14) (by decide +kernel), List.mem_of_getElem? (i := 506) (by decide +kernel), List.mem_of_getElem? (i := 507) (by decide +kernel)⟩
def lw_privs_1 : List (MethodName × Nat) := [(⟨"LongSums$Row", "writeNumber", "(IJI)V"⟩, 6), (⟨"LongSums$Row", "writeFloat", "(IJI)V"⟩, 6), (⟨"LongSums$Row", "writeSort", "(II)V"⟩, 6), (⟨"LongSums", "remember", "(I)V"⟩, 7), (⟨"LongSums", "gatherInto", "(ILLongSums$Row;LLongSums$Row;II)I"⟩, 7), (⟨"LongSums$Keeper", "gain", "(JJIZ)V"⟩, 4), (⟨"LongSums$Keeper", "gainPart", "(JIZ)V"⟩, 4), (⟨"LongSums$Keeper", "gainHalf", "(JIZ)V"⟩, 4), (⟨"LongSums$Keeper", "meet", "(IZ)V"⟩, 4), (⟨"LongSums$Keeper", "carry", "()V"⟩, 4), (⟨"LongSums", "findingOf", "(I)I"⟩, 7), (⟨"LongSums", "sharedOut", "(LLongSums$Keeper;IIZ)D"⟩, 7), (⟨"LongSums$Size", "wholeFrom", "(I)J"⟩, 1), (⟨"LongSums$Size", "limbAt", "(I)J"⟩, 1), (⟨"LongSums$Size", "hasBitBelow", "(I)Z"⟩, 1), (⟨"LongSums", "rowsThere", "()I"⟩, 7)]
theorem lw_r1 : ∀ q ∈ lw_privs_1, lw_okq q := List.forall_mem_cons.mpr ⟨lw_p0, List.forall_mem_cons.mpr ⟨lw_p1, List.forall_mem_cons.mpr ⟨lw_p2, List.forall_mem_cons.mpr ⟨lw_p3, List.forall_mem_cons.mpr ⟨lw_p4, List.forall_mem_cons.mpr ⟨lw_p5, List.forall_mem_cons.mpr ⟨lw_p6, List.forall_mem_cons.mpr ⟨lw_p7, List.forall_mem_cons.mpr ⟨lw_p8, List.forall_mem_cons.mpr ⟨lw_p9, List.forall_mem_cons.mpr ⟨lw_p10, List.forall_mem_cons.mpr ⟨lw_p11, List.forall_mem_cons.mpr ⟨lw_p12, List.forall_mem_cons.mpr ⟨lw_p13, List.forall_mem_cons.mpr ⟨lw_p14, List.forall_mem_cons.mpr ⟨lw_p15, fun _ h => absurd h List.not_mem_nil⟩⟩⟩⟩⟩⟩⟩⟩⟩⟩⟩⟩⟩⟩⟩⟩
theorem lw_p16 : lw_okq (⟨"LongSums", "keepersThere", "(Z)I"⟩, 7) := ⟨⟨by decide +kernel, by decide +kernel⟩, List.mem_of_getElem? (i := 14) (by decide +kernel), List.mem_of_getElem? (i := 510) (by decide +kernel), List.mem_of_getElem? (i := 511) (by decide +kernel)⟩
theorem lw_p17 : lw_okq (⟨"LongSums", "placesThere", "()I"⟩, 7) := ⟨⟨by decide +kernel, by decide +kernel⟩, List.mem_of_getElem? (i := 14) (by decide +kernel), List.mem_of_getElem? (i := 514) (by decide +kernel), List.mem_of_getElem? (i := 515) (by decide +kernel)⟩
theorem lw_p18 : lw_okq (⟨"LongSumsModel", "isThere", "(I)Z"⟩, 23) := ⟨⟨by decide +kernel, by decide +kernel⟩, List.mem_of_getElem? (i := 518) (by decide +kernel), List.mem_of_getElem? (i := 611) (by decide +kernel), List.mem_of_getElem? (i := 612) (by decide +kernel)⟩
theorem lw_p19 : lw_okq (⟨"LongSumsModel", "isPlace", "(II)Z"⟩, 23) := ⟨⟨by decide +kernel, by decide +kernel⟩, List.mem_of_getElem? (i := 518) (by decide +kernel), List.mem_of_getElem? (i := 623) (by decide +kernel), List.mem_of_getElem? (i := 624) (by decide +kernel)⟩
theorem lw_p20 : lw_okq (⟨"LongSumsModel", "putFloat", "(ID)V"⟩, 23) := ⟨⟨by decide +kernel, by decide +kernel⟩, List.mem_of_getElem? (i := 518) (by decide +kernel), List.mem_of_getElem? (i := 632) (by decide +kernel), List.mem_of_getElem? (i := 633) (by decide +kernel)⟩
theorem lw_p21 : lw_okq (⟨"LongSumsModel", "isReal", "(I)Z"⟩, 23) := ⟨⟨by decide +kernel, by decide +kernel⟩, List.mem_of_getElem? (i := 518) (by decide +kernel), List.mem_of_getElem? (i := 641) (by decide +kernel), List.mem_of_getElem? (i := 642) (by decide +kernel)⟩
theorem lw_p22 : lw_okq (⟨"LongSumsModel", "arePlaces", "(III)Z"⟩, 23) := ⟨⟨by decide +kernel, by decide +kernel⟩, List.mem_of_getElem? (i := 518) (by decide +kernel), List.mem_of_getElem? (i := 651) (by decide +kernel), List.mem_of_getElem? (i := 652) (by decide +kernel)⟩
theorem lw_p23 : lw_okq (⟨"LongSumsModel", "valueOf", "(II)D"⟩, 23) := ⟨⟨by decide +kernel, by decide +kernel⟩, List.mem_of_getElem? (i := 518) (by decide +kernel), List.mem_of_getElem? (i := 668) (by decide +kernel), List.mem_of_getElem? (i := 669) (by decide +kernel)⟩
theorem lw_p24 : lw_okq (⟨"LongSumsModel", "keep", "(I)V"⟩, 23) := ⟨⟨by decide +kernel, by decide +kernel⟩, List.mem_of_getElem? (i := 518) (by decide +kernel), List.mem_of_getElem? (i := 690) (by decide +kernel), List.mem_of_getElem? (i := 691) (by decide +kernel)⟩
theorem lw_p25 : lw_okq (⟨"LongSumsModel", "blank", "(I)V"⟩, 23) := ⟨⟨by decide +kernel, by decide +kernel⟩, List.mem_of_getElem? (i := 518) (by decide +kernel), List.mem_of_getElem? (i := 694) (by decide +kernel), List.mem_of_getElem? (i := 695) (by decide +kernel)⟩
theorem lw_p26 : lw_okq (⟨"LongSumsModel", "addProduct", "(IIIIIZ)V"⟩, 23) := ⟨⟨by decide +kernel, by decide +kernel⟩, List.mem_of_getElem? (i := 518) (by decide +kernel), List.mem_of_getElem? (i := 707) (by decide +kernel), List.mem_of_getElem? (i := 708) (by decide +kernel)⟩
theorem lw_p27 : lw_okq (⟨"LongSumsModel", "sortOf", "(II)I"⟩, 23) := ⟨⟨by decide +kernel, by decide +kernel⟩, List.mem_of_getElem? (i := 518) (by decide +kernel), List.mem_of_getElem? (i := 711) (by decide +kernel), List.mem_of_getElem? (i := 712) (by decide +kernel)⟩
theorem lw_p28 : lw_okq (⟨"LongSumsModel", "isZero", "(II)Z"⟩, 23) := ⟨⟨by decide +kernel, by decide +kernel⟩, List.mem_of_getElem? (i := 518) (by decide +kernel), List.mem_of_getElem? (i := 715) (by decide +kernel), List.mem_of_getElem? (i := 716) (by decide +kernel)⟩
theorem lw_p29 : lw_okq (⟨"LongSumsModel", "see", "(III)V"⟩, 23) := ⟨⟨by decide +kernel, by decide +kernel⟩, List.mem_of_getElem? (i := 518) (by decide +kernel), List.mem_of_getElem? (i := 719) (by decide +kernel), List.mem_of_getElem? (i := 720) (by decide +kernel)⟩
theorem lw_p30 : lw_okq (⟨"LongSumsModel", "isBelow", "(II)Z"⟩, 23) := ⟨⟨by decide +kernel, by decide +kernel⟩, List.mem_of_getElem? (i := 518) (by decide +kernel), List.mem_of_getElem? (i := 724) (by decide +kernel), List.mem_of_getElem? (i := 725) (by decide +kernel)⟩
theorem lw_p31 : lw_okq (⟨"LongSumsModel", "endless", "(IZZ)V"⟩, 23) := ⟨⟨by decide +kernel, by decide +kernel⟩, List.mem_of_getElem? (i := 518) (by decide +kernel), List.mem_of_getElem? (i := 728) (by decide +kernel), List.mem_of_getElem? (i := 729) (by decide +kernel)⟩
def lw_privs_2 : List (MethodName × Nat) := [(⟨"LongSums", "keepersThere", "(Z)I"⟩, 7), (⟨"LongSums", "placesThere", "()I"⟩, 7), (⟨"LongSumsModel", "isThere", "(I)Z"⟩, 23), (⟨"LongSumsModel", "isPlace", "(II)Z"⟩, 23), (⟨"LongSumsModel", "putFloat", "(ID)V"⟩, 23), (⟨"LongSumsModel", "isReal", "(I)Z"⟩, 23), (⟨"LongSumsModel", "arePlaces", "(III)Z"⟩, 23), (⟨"LongSumsModel", "valueOf", "(II)D"⟩, 23), (⟨"LongSumsModel", "keep", "(I)V"⟩, 23), (⟨"LongSumsModel", "blank", "(I)V"⟩, 23), (⟨"LongSumsModel", "addProduct", "(IIIIIZ)V"⟩, 23), (⟨"LongSumsModel", "sortOf", "(II)I"⟩, 23), (⟨"LongSumsModel", "isZero", "(II)Z"⟩, 23), (⟨"LongSumsModel", "see", "(III)V"⟩, 23), (⟨"LongSumsModel", "isBelow", "(II)Z"⟩, 23), (⟨"LongSumsModel", "endless", "(IZZ)V"⟩, 23)]
theorem lw_r2 : ∀ q ∈ lw_privs_2, lw_okq q := List.forall_mem_cons.mpr ⟨lw_p16, List.forall_mem_cons.mpr ⟨lw_p17, List.forall_mem_cons.mpr ⟨lw_p18, List.forall_mem_cons.mpr ⟨lw_p19, List.forall_mem_cons.mpr ⟨lw_p20, List.forall_mem_cons.mpr ⟨lw_p21, List.forall_mem_cons.mpr ⟨lw_p22, List.forall_mem_cons.mpr ⟨lw_p23, List.forall_mem_cons.mpr ⟨lw_p24, List.forall_mem_cons.mpr ⟨lw_p25, List.forall_mem_cons.mpr ⟨lw_p26, List.forall_mem_cons.mpr ⟨lw_p27, List.forall_mem_cons.mpr ⟨lw_p28, List.forall_mem_cons.mpr ⟨lw_p29, List.forall_mem_cons.mpr ⟨lw_p30, List.forall_mem_cons.mpr ⟨lw_p31, fun _ h => absurd h List.not_mem_nil⟩⟩⟩⟩⟩⟩⟩⟩⟩⟩⟩⟩⟩⟩⟩⟩
theorem lw_p32 : lw_okq (⟨"LongSumsModel", "apart", "(II)V"⟩, 23) := ⟨⟨by decide +kernel, by decide +kernel⟩, List.mem_of_getElem? (i := 518) (by decide +kernel), List.mem_of_getElem? (i := 732) (by decide +kernel), List.mem_of_getElem? (i := 733) (by decide +kernel)⟩
theorem lw_p33 : lw_okq (⟨"LongSumsModel", "apart", "(D)V"⟩, 23) := ⟨⟨by decide +kernel, by decide +kernel⟩, List.mem_of_getElem? (i := 518) (by decide +kernel), List.mem_of_getElem? (i := 736) (by decide +kernel), List.mem_of_getElem? (i := 737) (by decide +kernel)⟩
theorem lw_p34 : lw_okq (⟨"LongSumsModel", "addBits", "(IJJIZ)V"⟩, 23) := ⟨⟨by decide +kernel, by decide +kernel⟩, List.mem_of_getElem? (i := 518) (by decide +kernel), List.mem_of_getElem? (i := 745) (by decide +kernel), List.mem_of_getElem? (i := 746) (by decide +kernel)⟩
theorem lw_p35 : lw_okq (⟨"LongSumsModel", "carry", "(IJJ)J"⟩, 23) := ⟨⟨by decide +kernel, by decide +kernel⟩, List.mem_of_getElem? (i := 518) (by decide +kernel), List.mem_of_getElem? (i := 751) (by decide +kernel), List.mem_of_getElem? (i := 752) (by decide +kernel)⟩
theorem lw_p36 : lw_okq (⟨"LongSumsModel", "addPlace", "(IIIZ)V"⟩, 23) := ⟨⟨by decide +kernel, by decide +kernel⟩, List.mem_of_getElem? (i := 518) (by decide +kernel), List.mem_of_getElem? (i := 755) (by decide +kernel), List.mem_of_getElem? (i := 756) (by decide +kernel)⟩
theorem lw_p37 : lw_okq (⟨"LongSumsModel", "plainOf", "(III)D"⟩, 23) := ⟨⟨by decide +kernel, by decide +kernel⟩, List.mem_of_getElem? (i := 518) (by decide +kernel), List.mem_of_getElem? (i := 775) (by decide +kernel), List.mem_of_getElem? (i := 776) (by decide +kernel)⟩
theorem lw_p38 : lw_okq (⟨"LongSumsModel", "sortOf", "(I)I"⟩, 23) := ⟨⟨by decide +kernel, by decide +kernel⟩, List.mem_of_getElem? (i := 518) (by decide +kernel), List.mem_of_getElem? (i := 787) (by decide +kernel), List.mem_of_getElem? (i := 788) (by decide +kernel)⟩
theorem lw_p39 : lw_okq (⟨"LongSumsModel", "endlessBy", "(I)D"⟩, 23) := ⟨⟨by decide +kernel, by decide +kernel⟩, List.mem_of_getElem? (i := 518) (by decide +kernel), List.mem_of_getElem? (i := 799) (by decide +kernel), List.mem_of_getElem? (i := 800) (by decide +kernel)⟩
theorem lw_p40 : lw_okq (⟨"LongSumsModel", "take", "(I)V"⟩, 23) := ⟨⟨by decide +kernel, by decide +kernel⟩, List.mem_of_getElem? (i := 518) (by decide +kernel), List.mem_of_getElem? (i := 803) (by decide +kernel), List.mem_of_getElem? (i := 804) (by decide +kernel)⟩
theorem lw_p41 : lw_okq (⟨"LongSumsModel", "rounded", "(IIII)D"⟩, 23) := ⟨⟨by decide +kernel, by decide +kernel⟩, List.mem_of_getElem? (i := 518) (by decide +kernel), List.mem_of_getElem? (i := 807) (by decide +kernel), List.mem_of_getElem? (i := 808) (by decide +kernel)⟩
theorem lw_p42 : lw_okq (⟨"LongSumsModel", "highest", "()I"⟩, 23) := ⟨⟨by decide +kernel, by decide +kernel⟩, List.mem_of_getElem? (i := 518) (by decide +kernel), List.mem_of_getElem? (i := 811) (by decide +kernel), List.mem_of_getElem? (i := 812) (by decide +kernel)⟩
theorem lw_p43 : lw_okq (⟨"LongSumsModel", "bitAt", "(I)I"⟩, 23) := ⟨⟨by decide +kernel, by decide +kernel⟩, List.mem_of_getElem? (i := 518) (by decide +kernel), List.mem_of_getElem? (i := 815) (by decide +kernel), List.mem_of_getElem? (i := 816) (by decide +kernel)⟩
theorem lw_p44 : lw_okq (⟨"LongSumsModel", "compareSquare", "(J)I"⟩, 23) := ⟨⟨by decide +kernel, by decide +kernel⟩, List.mem_of_getElem? (i := 518) (by decide +kernel), List.mem_of_getElem? (i := 829) (by decide +kernel), List.mem_of_getElem? (i := 830) (by decide +kernel)⟩
theorem lw_p45 : lw_okq (⟨"LongSumsModel", "doubleOf", "(J)D"⟩, 23) := ⟨⟨by decide +kernel, by decide +kernel⟩, List.mem_of_getElem? (i := 518) (by decide +kernel), List.mem_of_getElem? (i := 835) (by decide +kernel), List.mem_of_getElem? (i := 836) (by decide +kernel)⟩
def lw_privs_3 : List (MethodName × Nat) := [(⟨"LongSumsModel", "apart", "(II)V"⟩, 23), (⟨"LongSumsModel", "apart", "(D)V"⟩, 23), (⟨"LongSumsModel", "addBits", "(IJJIZ)V"⟩, 23), (⟨"LongSumsModel", "carry", "(IJJ)J"⟩, 23), (⟨"LongSumsModel", "addPlace", "(IIIZ)V"⟩, 23), (⟨"LongSumsModel", "plainOf", "(III)D"⟩, 23), (⟨"LongSumsModel", "sortOf", "(I)I"⟩, 23), (⟨"LongSumsModel", "endlessBy", "(I)D"⟩, 23), (⟨"LongSumsModel", "take", "(I)V"⟩, 23), (⟨"LongSumsModel", "rounded", "(IIII)D"⟩, 23), (⟨"LongSumsModel", "highest", "()I"⟩, 23), (⟨"LongSumsModel", "bitAt", "(I)I"⟩, 23), (⟨"LongSumsModel", "compareSquare", "(J)I"⟩, 23), (⟨"LongSumsModel", "doubleOf", "(J)D"⟩, 23)]
theorem lw_r3 : ∀ q ∈ lw_privs_3, lw_okq q := List.forall_mem_cons.mpr ⟨lw_p32, List.forall_mem_cons.mpr ⟨lw_p33, List.forall_mem_cons.mpr ⟨lw_p34, List.forall_mem_cons.mpr ⟨lw_p35, List.forall_mem_cons.mpr ⟨lw_p36, List.forall_mem_cons.mpr ⟨lw_p37, List.forall_mem_cons.mpr ⟨lw_p38, List.forall_mem_cons.mpr ⟨lw_p39, List.forall_mem_cons.mpr ⟨lw_p40, List.forall_mem_cons.mpr ⟨lw_p41, List.forall_mem_cons.mpr ⟨lw_p42, List.forall_mem_cons.mpr ⟨lw_p43, List.forall_mem_cons.mpr ⟨lw_p44, List.forall_mem_cons.mpr ⟨lw_p45, fun _ h => absurd h List.not_mem_nil⟩⟩⟩⟩⟩⟩⟩⟩⟩⟩⟩⟩⟩⟩
def lw_privs : List (MethodName × Nat) := lw_privs_1 ++ (lw_privs_2 ++ (lw_privs_3))
def lw_tbl : List Cond := k2_sels lw_privs ++ tables_1
theorem lw_privs_ok : ∀ q ∈ lw_privs, lw_okq q := by
  show ∀ q ∈ lw_privs_1 ++ (lw_privs_2 ++ (lw_privs_3)), lw_okq q
  exact List.forall_mem_append.mpr ⟨lw_r1, List.forall_mem_append.mpr ⟨lw_r2, lw_r3⟩⟩
/-- the streams that the claim lets the run draw from -/
abbrev lw_cs : List Choice := [Jvm.Choice.named "NaN.bits"]
theorem lw_bits : nanBits ∈ lw_cs := by first | decide | exact List.mem_cons_self | simp [lw_cs, nanBits]
-- ===== end of PART A; then your names; then what follows =====
def RX0 : String := "LongSums$History"
def TX0 : u_T := fun k => match k with
  | 0 => ("LongSums$History", "before", "[LLongSums$Keeper;", true)
  | 1 => ("LongSums$History", "whose", "[I", true)
  | 2 => ("LongSums$History", "kept", "I", false)
  | _ => ("LongSums$History", "latest", "I", false)
def tyX0 : Nat → FieldType := fun k => match k with
  | 0 => .array (.object "LongSums$Keeper")
  | 1 => .array .int
  | 2 => .int
  | _ => .int
abbrev wsX00 : List Cond := u_ws RX0 TX0 4
theorem nmX0 : ∀ a, a < 4 → ∀ b, b < 4 → a ≠ b → (TX0 a).2.1 ≠ (TX0 b).2.1 := by decide +kernel
theorem tyX0_ok : ∀ k, k < 4 → parseFieldDescriptor (TX0 k).2.2.1 = some (tyX0 k) := by decide +kernel
abbrev cX0_init : ByteArray := prog_2_method_1_code
def yX0_init : MethodName := ⟨RX0, "<init>", "()V"⟩
abbrev cX0_keep : ByteArray := prog_2_method_2_code
def yX0_keep : MethodName := ⟨RX0, "keep", "(ILLongSums$Keeper;)V"⟩
abbrev cX0_latestKeeper : ByteArray := prog_2_method_3_code
def yX0_latestKeeper : MethodName := ⟨RX0, "latestKeeper", "()I"⟩
abbrev cX0_takeBack : ByteArray := prog_2_method_4_code
def yX0_takeBack : MethodName := ⟨RX0, "takeBack", "(LLongSums$Keeper;)V"⟩
def RX1 : String := "LongSums$Keeper"
def TX1 : u_T := fun k => match k with
  | 0 => ("LongSums$Keeper", "there", "Z", false)
  | 1 => ("LongSums$Keeper", "kind", "I", false)
  | 2 => ("LongSums$Keeper", "met", "[I", true)
  | _ => ("LongSums$Keeper", "limbs", "[J", true)
def tyX1 : Nat → FieldType := fun k => match k with
  | 0 => .boolean
  | 1 => .int
  | 2 => .array .int
  | _ => .array .long
abbrev wsX10 : List Cond := u_ws RX1 TX1 4
theorem nmX1 : ∀ a, a < 4 → ∀ b, b < 4 → a ≠ b → (TX1 a).2.1 ≠ (TX1 b).2.1 := by decide +kernel
theorem tyX1_ok : ∀ k, k < 4 → parseFieldDescriptor (TX1 k).2.2.1 = some (tyX1 k) := by decide +kernel
abbrev cX1_init : ByteArray := prog_3_method_1_code
def yX1_init : MethodName := ⟨RX1, "<init>", "()V"⟩
abbrev cX1_renew : ByteArray := prog_3_method_2_code
def yX1_renew : MethodName := ⟨RX1, "renew", "(I)V"⟩
abbrev cX1_become : ByteArray := prog_3_method_3_code
def yX1_become : MethodName := ⟨RX1, "become", "(LLongSums$Keeper;)V"⟩
abbrev cX1_state : ByteArray := prog_3_method_4_code
def yX1_state : MethodName := ⟨RX1, "state", "()I"⟩
abbrev cX1_isBelow : ByteArray := prog_3_method_5_code
def yX1_isBelow : MethodName := ⟨RX1, "isBelow", "()Z"⟩
abbrev cX1_isNought : ByteArray := prog_3_method_6_code
def yX1_isNought : MethodName := ⟨RX1, "isNought", "()Z"⟩
abbrev cX1_comparedWith : ByteArray := prog_3_method_7_code
def yX1_comparedWith : MethodName := ⟨RX1, "comparedWith", "(LLongSums$Keeper;)I"⟩
abbrev cX1_gather : ByteArray := prog_3_method_8_code
def yX1_gather : MethodName := ⟨RX1, "gather", "(LLongSums$Row;LLongSums$Row;IIZ)V"⟩
abbrev cX1_gainAll : ByteArray := prog_3_method_9_code
def yX1_gainAll : MethodName := ⟨RX1, "gainAll", "(LLongSums$Keeper;)V"⟩
abbrev cX1_sortOfProduct : ByteArray := prog_3_method_10_code
def yX1_sortOfProduct : MethodName := ⟨RX1, "sortOfProduct", "(LLongSums$Row;LLongSums$Row;I)I"⟩
abbrev cX1_meet : ByteArray := prog_3_method_11_code
def yX1_meet : MethodName := ⟨RX1, "meet", "(IZ)V"⟩
abbrev cX1_gain : ByteArray := prog_3_method_12_code
def yX1_gain : MethodName := ⟨RX1, "gain", "(JJIZ)V"⟩
abbrev cX1_gainPart : ByteArray := prog_3_method_13_code
def yX1_gainPart : MethodName := ⟨RX1, "gainPart", "(JIZ)V"⟩
abbrev cX1_gainHalf : ByteArray := prog_3_method_14_code
def yX1_gainHalf : MethodName := ⟨RX1, "gainHalf", "(JIZ)V"⟩
abbrev cX1_carry : ByteArray := prog_3_method_15_code
def yX1_carry : MethodName := ⟨RX1, "carry", "()V"⟩
def RX2 : String := "LongSums$Row"
def TX2 : u_T := fun k => match k with
  | 0 => ("LongSums$Row", "there", "Z", false)
  | 1 => ("LongSums$Row", "kind", "I", false)
  | 2 => ("LongSums$Row", "places", "I", false)
  | 3 => ("LongSums$Row", "wholes", "[J", true)
  | 4 => ("LongSums$Row", "powers", "[I", true)
  | _ => ("LongSums$Row", "sorts", "[I", true)
def tyX2 : Nat → FieldType := fun k => match k with
  | 0 => .boolean
  | 1 => .int
  | 2 => .int
  | 3 => .array .long
  | 4 => .array .int
  | _ => .array .int
abbrev wsX20 : List Cond := u_ws RX2 TX2 6
theorem nmX2 : ∀ a, a < 6 → ∀ b, b < 6 → a ≠ b → (TX2 a).2.1 ≠ (TX2 b).2.1 := by decide +kernel
theorem tyX2_ok : ∀ k, k < 6 → parseFieldDescriptor (TX2 k).2.2.1 = some (tyX2 k) := by decide +kernel
abbrev cX2_init : ByteArray := prog_4_method_1_code
def yX2_init : MethodName := ⟨RX2, "<init>", "()V"⟩
abbrev cX2_renew : ByteArray := prog_4_method_2_code
def yX2_renew : MethodName := ⟨RX2, "renew", "(II)V"⟩
abbrev cX2_isFloating : ByteArray := prog_4_method_3_code
def yX2_isFloating : MethodName := ⟨RX2, "isFloating", "()Z"⟩
abbrev cX2_has : ByteArray := prog_4_method_4_code
def yX2_has : MethodName := ⟨RX2, "has", "(II)Z"⟩
abbrev cX2_sortAt : ByteArray := prog_4_method_5_code
def yX2_sortAt : MethodName := ⟨RX2, "sortAt", "(I)I"⟩
abbrev cX2_asDouble : ByteArray := prog_4_method_6_code
def yX2_asDouble : MethodName := ⟨RX2, "asDouble", "(I)D"⟩
abbrev cX2_write : ByteArray := prog_4_method_7_code
def yX2_write : MethodName := ⟨RX2, "write", "(IJI)V"⟩
abbrev cX2_writeMark : ByteArray := prog_4_method_8_code
def yX2_writeMark : MethodName := ⟨RX2, "writeMark", "(II)V"⟩
abbrev cX2_writeAll : ByteArray := prog_4_method_9_code
def yX2_writeAll : MethodName := ⟨RX2, "writeAll", "(LLongSums$Row;III)V"⟩
abbrev cX2_writeDouble : ByteArray := prog_4_method_10_code
def yX2_writeDouble : MethodName := ⟨RX2, "writeDouble", "(ID)V"⟩
abbrev cX2_summedPlainly : ByteArray := prog_4_method_11_code
def yX2_summedPlainly : MethodName := ⟨RX2, "summedPlainly", "(II)D"⟩
abbrev cX2_areOpposedEndless : ByteArray := prog_4_method_12_code
def yX2_areOpposedEndless : MethodName := ⟨RX2, "areOpposedEndless", "(DD)Z"⟩
abbrev cX2_topPower : ByteArray := prog_4_method_13_code
def yX2_topPower : MethodName := ⟨RX2, "topPower", "(D)I"⟩
abbrev cX2_writeFloat : ByteArray := prog_4_method_14_code
def yX2_writeFloat : MethodName := ⟨RX2, "writeFloat", "(IJI)V"⟩
abbrev cX2_withoutBits : ByteArray := prog_4_method_15_code
def yX2_withoutBits : MethodName := ⟨RX2, "withoutBits", "(JI)J"⟩
abbrev cX2_writeNumber : ByteArray := prog_4_method_16_code
def yX2_writeNumber : MethodName := ⟨RX2, "writeNumber", "(IJI)V"⟩
abbrev cX2_writeSort : ByteArray := prog_4_method_17_code
def yX2_writeSort : MethodName := ⟨RX2, "writeSort", "(II)V"⟩
def RX3 : String := "LongSums$Size"
def TX3 : u_T := fun k => match k with
  | _ => ("LongSums$Size", "limbs", "[J", true)
def tyX3 : Nat → FieldType := fun k => match k with
  | _ => .array .long
abbrev wsX30 : List Cond := u_ws RX3 TX3 1
theorem nmX3 : ∀ a, a < 1 → ∀ b, b < 1 → a ≠ b → (TX3 a).2.1 ≠ (TX3 b).2.1 := by decide +kernel
theorem tyX3_ok : ∀ k, k < 1 → parseFieldDescriptor (TX3 k).2.2.1 = some (tyX3 k) := by decide +kernel
abbrev cX3_init : ByteArray := prog_5_method_1_code
def yX3_init : MethodName := ⟨RX3, "<init>", "()V"⟩
abbrev cX3_load : ByteArray := prog_5_method_2_code
def yX3_load : MethodName := ⟨RX3, "load", "(LLongSums$Keeper;)V"⟩
abbrev cX3_divideBy : ByteArray := prog_5_method_3_code
def yX3_divideBy : MethodName := ⟨RX3, "divideBy", "(I)Z"⟩
abbrev cX3_topBit : ByteArray := prog_5_method_4_code
def yX3_topBit : MethodName := ⟨RX3, "topBit", "()I"⟩
abbrev cX3_bitAt : ByteArray := prog_5_method_5_code
def yX3_bitAt : MethodName := ⟨RX3, "bitAt", "(I)I"⟩
abbrev cX3_rounded : ByteArray := prog_5_method_6_code
def yX3_rounded : MethodName := ⟨RX3, "rounded", "(ZZIZ)D"⟩
abbrev cX3_rootRounded : ByteArray := prog_5_method_7_code
def yX3_rootRounded : MethodName := ⟨RX3, "rootRounded", "(I)D"⟩
abbrev cX3_limbAt : ByteArray := prog_5_method_8_code
def yX3_limbAt : MethodName := ⟨RX3, "limbAt", "(I)J"⟩
abbrev cX3_wholeFrom : ByteArray := prog_5_method_9_code
def yX3_wholeFrom : MethodName := ⟨RX3, "wholeFrom", "(I)J"⟩
abbrev cX3_hasBitBelow : ByteArray := prog_5_method_10_code
def yX3_hasBitBelow : MethodName := ⟨RX3, "hasBitBelow", "(I)Z"⟩
def RX4 : String := "LongSums"
def TX4 : u_T := fun k => match k with
  | 0 => ("LongSums", "rows", "[LLongSums$Row;", true)
  | 1 => ("LongSums", "keepers", "[LLongSums$Keeper;", true)
  | 2 => ("LongSums", "history", "LLongSums$History;", true)
  | 3 => ("LongSums", "size", "LLongSums$Size;", true)
  | 4 => ("LongSums", "ones", "LLongSums$Row;", true)
  | 5 => ("LongSums", "plainSum", "LLongSums$Row;", true)
  | _ => ("LongSums", "gathered", "I", false)
def tyX4 : Nat → FieldType := fun k => match k with
  | 0 => .array (.object "LongSums$Row")
  | 1 => .array (.object "LongSums$Keeper")
  | 2 => .object "LongSums$History"
  | 3 => .object "LongSums$Size"
  | 4 => .object "LongSums$Row"
  | 5 => .object "LongSums$Row"
  | _ => .int
abbrev wsX40 : List Cond := u_ws RX4 TX4 7
theorem nmX4 : ∀ a, a < 7 → ∀ b, b < 7 → a ≠ b → (TX4 a).2.1 ≠ (TX4 b).2.1 := by decide +kernel
theorem tyX4_ok : ∀ k, k < 7 → parseFieldDescriptor (TX4 k).2.2.1 = some (tyX4 k) := by decide +kernel
abbrev cX4_init : ByteArray := prog_1_method_1_code
def yX4_init : MethodName := ⟨RX4, "<init>", "()V"⟩
abbrev cX4_row : ByteArray := prog_1_method_2_code
def yX4_row : MethodName := ⟨RX4, "row", "(III)I"⟩
abbrev cX4_lose : ByteArray := prog_1_method_3_code
def yX4_lose : MethodName := ⟨RX4, "lose", "(I)I"⟩
abbrev cX4_put : ByteArray := prog_1_method_4_code
def yX4_put : MethodName := ⟨RX4, "put", "(IIJI)I"⟩
abbrev cX4_mark : ByteArray := prog_1_method_5_code
def yX4_mark : MethodName := ⟨RX4, "mark", "(III)I"⟩
abbrev cX4_copy : ByteArray := prog_1_method_6_code
def yX4_copy : MethodName := ⟨RX4, "copy", "(IIIII)I"⟩
abbrev cX4_look : ByteArray := prog_1_method_7_code
def yX4_look : MethodName := ⟨RX4, "look", "(III)J"⟩
abbrev cX4_see : ByteArray := prog_1_method_8_code
def yX4_see : MethodName := ⟨RX4, "see", "(II)D"⟩
abbrev cX4_compare : ByteArray := prog_1_method_9_code
def yX4_compare : MethodName := ⟨RX4, "compare", "(IID)I"⟩
abbrev cX4_keeper : ByteArray := prog_1_method_10_code
def yX4_keeper : MethodName := ⟨RX4, "keeper", "(II)I"⟩
abbrev cX4_add : ByteArray := prog_1_method_11_code
def yX4_add : MethodName := ⟨RX4, "add", "(IIII)I"⟩
abbrev cX4_pair : ByteArray := prog_1_method_12_code
def yX4_pair : MethodName := ⟨RX4, "pair", "(IIIII)I"⟩
abbrev cX4_merge : ByteArray := prog_1_method_13_code
def yX4_merge : MethodName := ⟨RX4, "merge", "(II)I"⟩
abbrev cX4_clear : ByteArray := prog_1_method_14_code
def yX4_clear : MethodName := ⟨RX4, "clear", "(I)I"⟩
abbrev cX4_error : ByteArray := prog_1_method_15_code
def yX4_error : MethodName := ⟨RX4, "error", "(IIII)I"⟩
abbrev cX4_plain : ByteArray := prog_1_method_16_code
def yX4_plain : MethodName := ⟨RX4, "plain", "(III)D"⟩
abbrev cX4_sort : ByteArray := prog_1_method_17_code
def yX4_sort : MethodName := ⟨RX4, "sort", "(I)I"⟩
abbrev cX4_seen : ByteArray := prog_1_method_18_code
def yX4_seen : MethodName := ⟨RX4, "seen", "(II)I"⟩
abbrev cX4_tell : ByteArray := prog_1_method_19_code
def yX4_tell : MethodName := ⟨RX4, "tell", "(IIZ)D"⟩
abbrev cX4_mean : ByteArray := prog_1_method_20_code
def yX4_mean : MethodName := ⟨RX4, "mean", "(III)D"⟩
abbrev cX4_length : ByteArray := prog_1_method_21_code
def yX4_length : MethodName := ⟨RX4, "length", "(IZ)D"⟩
abbrev cX4_sign : ByteArray := prog_1_method_22_code
def yX4_sign : MethodName := ⟨RX4, "sign", "(I)I"⟩
abbrev cX4_high : ByteArray := prog_1_method_23_code
def yX4_high : MethodName := ⟨RX4, "high", "(I)I"⟩
abbrev cX4_bit : ByteArray := prog_1_method_24_code
def yX4_bit : MethodName := ⟨RX4, "bit", "(II)I"⟩
abbrev cX4_order : ByteArray := prog_1_method_25_code
def yX4_order : MethodName := ⟨RX4, "order", "(II)I"⟩
abbrev cX4_undo : ByteArray := prog_1_method_26_code
def yX4_undo : MethodName := ⟨RX4, "undo", "()I"⟩
abbrev cX4_count : ByteArray := prog_1_method_27_code
def yX4_count : MethodName := ⟨RX4, "count", "(I)I"⟩
abbrev cX4_isRow : ByteArray := prog_1_method_28_code
def yX4_isRow : MethodName := ⟨RX4, "isRow", "(I)Z"⟩
abbrev cX4_isKeeper : ByteArray := prog_1_method_29_code
def yX4_isKeeper : MethodName := ⟨RX4, "isKeeper", "(I)Z"⟩
abbrev cX4_isWay : ByteArray := prog_1_method_30_code
def yX4_isWay : MethodName := ⟨RX4, "isWay", "(I)Z"⟩
abbrev cX4_findingOf : ByteArray := prog_1_method_31_code
def yX4_findingOf : MethodName := ⟨RX4, "findingOf", "(I)I"⟩
abbrev cX4_remember : ByteArray := prog_1_method_32_code
def yX4_remember : MethodName := ⟨RX4, "remember", "(I)V"⟩
abbrev cX4_gatherInto : ByteArray := prog_1_method_33_code
def yX4_gatherInto : MethodName := ⟨RX4, "gatherInto", "(ILLongSums$Row;LLongSums$Row;II)I"⟩
abbrev cX4_sharedOut : ByteArray := prog_1_method_34_code
def yX4_sharedOut : MethodName := ⟨RX4, "sharedOut", "(LLongSums$Keeper;IIZ)D"⟩
abbrev cX4_rowsThere : ByteArray := prog_1_method_35_code
def yX4_rowsThere : MethodName := ⟨RX4, "rowsThere", "()I"⟩
abbrev cX4_placesThere : ByteArray := prog_1_method_36_code
def yX4_placesThere : MethodName := ⟨RX4, "placesThere", "()I"⟩
abbrev cX4_keepersThere : ByteArray := prog_1_method_37_code
def yX4_keepersThere : MethodName := ⟨RX4, "keepersThere", "(Z)I"⟩
abbrev cX4_endless : ByteArray := prog_1_method_38_code
def yX4_endless : MethodName := ⟨RX4, "endless", "()D"⟩
abbrev cX4_greatest : ByteArray := prog_1_method_39_code
def yX4_greatest : MethodName := ⟨RX4, "greatest", "(Z)D"⟩
abbrev cX4_power : ByteArray := prog_1_method_40_code
def yX4_power : MethodName := ⟨RX4, "power", "(I)D"⟩
abbrev cX4_bitsIn : ByteArray := prog_1_method_41_code
def yX4_bitsIn : MethodName := ⟨RX4, "bitsIn", "(J)I"⟩
abbrev cX4_stepsAway : ByteArray := prog_1_method_42_code
def yX4_stepsAway : MethodName := ⟨RX4, "stepsAway", "(JZZZI)Z"⟩
abbrev cX4_finished : ByteArray := prog_1_method_43_code
def yX4_finished : MethodName := ⟨RX4, "finished", "(JIZIZ)D"⟩
def RX5 : String := "LongSumsModel"
def TX5 : u_T := fun k => match k with
  | 0 => ("LongSumsModel", "thrown", "I", false)
  | 1 => ("LongSumsModel", "rowKind", "[I", true)
  | 2 => ("LongSumsModel", "rowLong", "[I", true)
  | 3 => ("LongSumsModel", "whole", "[J", true)
  | 4 => ("LongSumsModel", "real", "[D", true)
  | 5 => ("LongSumsModel", "sorts", "[I", true)
  | 6 => ("LongSumsModel", "kinds", "[I", true)
  | 7 => ("LongSumsModel", "sums", "[I", true)
  | 8 => ("LongSumsModel", "seen", "[I", true)
  | 9 => ("LongSumsModel", "added", "I", false)
  | 10 => ("LongSumsModel", "oldKeeper", "[I", true)
  | 11 => ("LongSumsModel", "oldKind", "[I", true)
  | 12 => ("LongSumsModel", "oldSums", "[I", true)
  | 13 => ("LongSumsModel", "oldSeen", "[I", true)
  | 14 => ("LongSumsModel", "keptEnd", "I", false)
  | 15 => ("LongSumsModel", "kept", "I", false)
  | 16 => ("LongSumsModel", "size", "J", false)
  | 17 => ("LongSumsModel", "power", "I", false)
  | 18 => ("LongSumsModel", "minus", "Z", false)
  | 19 => ("LongSumsModel", "hand", "[I", true)
  | 20 => ("LongSumsModel", "handMinus", "Z", false)
  | 21 => ("LongSumsModel", "handRest", "Z", false)
  | _ => ("LongSumsModel", "square", "[I", true)
def tyX5 : Nat → FieldType := fun k => match k with
  | 0 => .int
  | 1 => .array .int
  | 2 => .array .int
  | 3 => .array .long
  | 4 => .array .double
  | 5 => .array .int
  | 6 => .array .int
  | 7 => .array .int
  | 8 => .array .int
  | 9 => .int
  | 10 => .array .int
  | 11 => .array .int
  | 12 => .array .int
  | 13 => .array .int
  | 14 => .int
  | 15 => .int
  | 16 => .long
  | 17 => .int
  | 18 => .boolean
  | 19 => .array .int
  | 20 => .boolean
  | 21 => .boolean
  | _ => .array .int
abbrev wsX50 : List Cond := u_ws RX5 TX5 23
theorem nmX5 : ∀ a, a < 23 → ∀ b, b < 23 → a ≠ b → (TX5 a).2.1 ≠ (TX5 b).2.1 := by decide +kernel
theorem tyX5_ok : ∀ k, k < 23 → parseFieldDescriptor (TX5 k).2.2.1 = some (tyX5 k) := by decide +kernel
abbrev cX5_init : ByteArray := prog_7_method_1_code
def yX5_init : MethodName := ⟨RX5, "<init>", "()V"⟩
abbrev cX5_in : ByteArray := prog_7_method_3_code
def yX5_in : MethodName := ⟨RX5, "in", "(JJJ)Z"⟩
abbrev cX5_isRow : ByteArray := prog_7_method_4_code
def yX5_isRow : MethodName := ⟨RX5, "isRow", "(I)Z"⟩
abbrev cX5_isThere : ByteArray := prog_7_method_5_code
def yX5_isThere : MethodName := ⟨RX5, "isThere", "(I)Z"⟩
abbrev cX5_isReal : ByteArray := prog_7_method_6_code
def yX5_isReal : MethodName := ⟨RX5, "isReal", "(I)Z"⟩
abbrev cX5_isPlace : ByteArray := prog_7_method_7_code
def yX5_isPlace : MethodName := ⟨RX5, "isPlace", "(II)Z"⟩
abbrev cX5_arePlaces : ByteArray := prog_7_method_8_code
def yX5_arePlaces : MethodName := ⟨RX5, "arePlaces", "(III)Z"⟩
abbrev cX5_row : ByteArray := prog_7_method_9_code
def yX5_row : MethodName := ⟨RX5, "row", "(III)I"⟩
abbrev cX5_lose : ByteArray := prog_7_method_10_code
def yX5_lose : MethodName := ⟨RX5, "lose", "(I)I"⟩
abbrev cX5_made : ByteArray := prog_7_method_11_code
def yX5_made : MethodName := ⟨RX5, "made", "(JI)D"⟩
abbrev cX5_put : ByteArray := prog_7_method_12_code
def yX5_put : MethodName := ⟨RX5, "put", "(IIJI)I"⟩
abbrev cX5_putFloat : ByteArray := prog_7_method_13_code
def yX5_putFloat : MethodName := ⟨RX5, "putFloat", "(ID)V"⟩
abbrev cX5_mark : ByteArray := prog_7_method_14_code
def yX5_mark : MethodName := ⟨RX5, "mark", "(III)I"⟩
abbrev cX5_copy : ByteArray := prog_7_method_15_code
def yX5_copy : MethodName := ⟨RX5, "copy", "(IIIII)I"⟩
abbrev cX5_look : ByteArray := prog_7_method_16_code
def yX5_look : MethodName := ⟨RX5, "look", "(III)J"⟩
abbrev cX5_valueOf : ByteArray := prog_7_method_17_code
def yX5_valueOf : MethodName := ⟨RX5, "valueOf", "(II)D"⟩
abbrev cX5_see : ByteArray := prog_7_method_18_code
def yX5_see : MethodName := ⟨RX5, "see", "(II)D"⟩
abbrev cX5_compare : ByteArray := prog_7_method_19_code
def yX5_compare : MethodName := ⟨RX5, "compare", "(IID)I"⟩
abbrev cX5_isKeeper : ByteArray := prog_7_method_20_code
def yX5_isKeeper : MethodName := ⟨RX5, "isKeeper", "(I)Z"⟩
abbrev cX5_keep : ByteArray := prog_7_method_21_code
def yX5_keep : MethodName := ⟨RX5, "keep", "(I)V"⟩
abbrev cX5_undo : ByteArray := prog_7_method_22_code
def yX5_undo : MethodName := ⟨RX5, "undo", "()I"⟩
abbrev cX5_blank : ByteArray := prog_7_method_23_code
def yX5_blank : MethodName := ⟨RX5, "blank", "(I)V"⟩
abbrev cX5_keeper : ByteArray := prog_7_method_24_code
def yX5_keeper : MethodName := ⟨RX5, "keeper", "(II)I"⟩
abbrev cX5_see_ : ByteArray := prog_7_method_25_code
def yX5_see_ : MethodName := ⟨RX5, "see", "(III)V"⟩
abbrev cX5_carry : ByteArray := prog_7_method_26_code
def yX5_carry : MethodName := ⟨RX5, "carry", "(IJJ)J"⟩
abbrev cX5_addBits : ByteArray := prog_7_method_27_code
def yX5_addBits : MethodName := ⟨RX5, "addBits", "(IJJIZ)V"⟩
abbrev cX5_apart : ByteArray := prog_7_method_28_code
def yX5_apart : MethodName := ⟨RX5, "apart", "(II)V"⟩
abbrev cX5_apart_ : ByteArray := prog_7_method_29_code
def yX5_apart_ : MethodName := ⟨RX5, "apart", "(D)V"⟩
abbrev cX5_sortOf : ByteArray := prog_7_method_30_code
def yX5_sortOf : MethodName := ⟨RX5, "sortOf", "(II)I"⟩
abbrev cX5_isZero : ByteArray := prog_7_method_31_code
def yX5_isZero : MethodName := ⟨RX5, "isZero", "(II)Z"⟩
abbrev cX5_isBelow : ByteArray := prog_7_method_32_code
def yX5_isBelow : MethodName := ⟨RX5, "isBelow", "(II)Z"⟩
abbrev cX5_endless : ByteArray := prog_7_method_33_code
def yX5_endless : MethodName := ⟨RX5, "endless", "(IZZ)V"⟩
abbrev cX5_addPlace : ByteArray := prog_7_method_34_code
def yX5_addPlace : MethodName := ⟨RX5, "addPlace", "(IIIZ)V"⟩
abbrev cX5_addProduct : ByteArray := prog_7_method_35_code
def yX5_addProduct : MethodName := ⟨RX5, "addProduct", "(IIIIIZ)V"⟩
abbrev cX5_sizeOf : ByteArray := prog_7_method_36_code
def yX5_sizeOf : MethodName := ⟨RX5, "sizeOf", "(I)I"⟩
abbrev cX5_add : ByteArray := prog_7_method_37_code
def yX5_add : MethodName := ⟨RX5, "add", "(IIII)I"⟩
abbrev cX5_pair : ByteArray := prog_7_method_38_code
def yX5_pair : MethodName := ⟨RX5, "pair", "(IIIII)I"⟩
abbrev cX5_merge : ByteArray := prog_7_method_39_code
def yX5_merge : MethodName := ⟨RX5, "merge", "(II)I"⟩
abbrev cX5_clear : ByteArray := prog_7_method_40_code
def yX5_clear : MethodName := ⟨RX5, "clear", "(I)I"⟩
abbrev cX5_plainOf : ByteArray := prog_7_method_41_code
def yX5_plainOf : MethodName := ⟨RX5, "plainOf", "(III)D"⟩
abbrev cX5_error : ByteArray := prog_7_method_42_code
def yX5_error : MethodName := ⟨RX5, "error", "(IIII)I"⟩
abbrev cX5_plain : ByteArray := prog_7_method_43_code
def yX5_plain : MethodName := ⟨RX5, "plain", "(III)D"⟩
abbrev cX5_sortOf_ : ByteArray := prog_7_method_44_code
def yX5_sortOf_ : MethodName := ⟨RX5, "sortOf", "(I)I"⟩
abbrev cX5_sort : ByteArray := prog_7_method_45_code
def yX5_sort : MethodName := ⟨RX5, "sort", "(I)I"⟩
abbrev cX5_seen : ByteArray := prog_7_method_46_code
def yX5_seen : MethodName := ⟨RX5, "seen", "(II)I"⟩
abbrev cX5_take : ByteArray := prog_7_method_47_code
def yX5_take : MethodName := ⟨RX5, "take", "(I)V"⟩
abbrev cX5_highest : ByteArray := prog_7_method_48_code
def yX5_highest : MethodName := ⟨RX5, "highest", "()I"⟩
abbrev cX5_bitAt : ByteArray := prog_7_method_49_code
def yX5_bitAt : MethodName := ⟨RX5, "bitAt", "(I)I"⟩
abbrev cX5_rounded : ByteArray := prog_7_method_50_code
def yX5_rounded : MethodName := ⟨RX5, "rounded", "(IIII)D"⟩
abbrev cX5_endlessBy : ByteArray := prog_7_method_51_code
def yX5_endlessBy : MethodName := ⟨RX5, "endlessBy", "(I)D"⟩
abbrev cX5_tell : ByteArray := prog_7_method_52_code
def yX5_tell : MethodName := ⟨RX5, "tell", "(IIZ)D"⟩
abbrev cX5_mean : ByteArray := prog_7_method_53_code
def yX5_mean : MethodName := ⟨RX5, "mean", "(III)D"⟩
abbrev cX5_compareSquare : ByteArray := prog_7_method_54_code
def yX5_compareSquare : MethodName := ⟨RX5, "compareSquare", "(J)I"⟩
abbrev cX5_doubleOf : ByteArray := prog_7_method_55_code
def yX5_doubleOf : MethodName := ⟨RX5, "doubleOf", "(J)D"⟩
abbrev cX5_length : ByteArray := prog_7_method_56_code
def yX5_length : MethodName := ⟨RX5, "length", "(IZ)D"⟩
abbrev cX5_sign : ByteArray := prog_7_method_57_code
def yX5_sign : MethodName := ⟨RX5, "sign", "(I)I"⟩
abbrev cX5_high : ByteArray := prog_7_method_58_code
def yX5_high : MethodName := ⟨RX5, "high", "(I)I"⟩
abbrev cX5_bit : ByteArray := prog_7_method_59_code
def yX5_bit : MethodName := ⟨RX5, "bit", "(II)I"⟩
abbrev cX5_order : ByteArray := prog_7_method_60_code
def yX5_order : MethodName := ⟨RX5, "order", "(II)I"⟩
abbrev cX5_count : ByteArray := prog_7_method_61_code
def yX5_count : MethodName := ⟨RX5, "count", "(I)I"⟩
def RJx145de : String := "java/io/Serializable"
def TJx145de : u_T := fun k => match k with
  | _ => ("", "", "", false)
def tyJx145de : Nat → FieldType := fun k => match k with
  | _ => .int
theorem nmJx145de : ∀ a, a < 0 → ∀ b, b < 0 → a ≠ b → (TJx145de a).2.1 ≠ (TJx145de b).2.1 := by decide +kernel
theorem tyJx145de_ok : ∀ k, k < 0 → parseFieldDescriptor (TJx145de k).2.2.1 = some (tyJx145de k) := by decide +kernel
def RJxb160c : String := "java/lang/Comparable"
def TJxb160c : u_T := fun k => match k with
  | _ => ("", "", "", false)
def tyJxb160c : Nat → FieldType := fun k => match k with
  | _ => .int
theorem nmJxb160c : ∀ a, a < 0 → ∀ b, b < 0 → a ≠ b → (TJxb160c a).2.1 ≠ (TJxb160c b).2.1 := by decide +kernel
theorem tyJxb160c_ok : ∀ k, k < 0 → parseFieldDescriptor (TJxb160c k).2.2.1 = some (tyJxb160c k) := by decide +kernel
def RJ6 : String := "java/lang/Integer"
def TJ6 : u_T := fun k => match k with
  | _ => ("", "", "", false)
def tyJ6 : Nat → FieldType := fun k => match k with
  | _ => .int
theorem nmJ6 : ∀ a, a < 0 → ∀ b, b < 0 → a ≠ b → (TJ6 a).2.1 ≠ (TJ6 b).2.1 := by decide +kernel
theorem tyJ6_ok : ∀ k, k < 0 → parseFieldDescriptor (TJ6 k).2.2.1 = some (tyJ6 k) := by decide +kernel
abbrev cJ6_numberOfLeadingZeros_0f7a4 : ByteArray := prog_8_method_47_code
def yJ6_numberOfLeadingZeros_0f7a4 : MethodName := ⟨RJ6, "numberOfLeadingZeros", "(I)I"⟩
def RJ13 : String := "java/lang/Long"
def TJ13 : u_T := fun k => match k with
  | _ => ("", "", "", false)
def tyJ13 : Nat → FieldType := fun k => match k with
  | _ => .int
theorem nmJ13 : ∀ a, a < 0 → ∀ b, b < 0 → a ≠ b → (TJ13 a).2.1 ≠ (TJ13 b).2.1 := by decide +kernel
theorem tyJ13_ok : ∀ k, k < 0 → parseFieldDescriptor (TJ13 k).2.2.1 = some (tyJ13 k) := by decide +kernel
abbrev cJ13_numberOfLeadingZeros_95d88 : ByteArray := prog_9_method_48_code
def yJ13_numberOfLeadingZeros_95d88 : MethodName := ⟨RJ13, "numberOfLeadingZeros", "(J)I"⟩
def RJ9 : String := "java/lang/Math"
def TJ9 : u_T := fun k => match k with
  | _ => ("", "", "", false)
def tyJ9 : Nat → FieldType := fun k => match k with
  | _ => .int
theorem nmJ9 : ∀ a, a < 0 → ∀ b, b < 0 → a ≠ b → (TJ9 a).2.1 ≠ (TJ9 b).2.1 := by decide +kernel
theorem tyJ9_ok : ∀ k, k < 0 → parseFieldDescriptor (TJ9 k).2.2.1 = some (tyJ9 k) := by decide +kernel
abbrev cJ9_multiplyHigh_f86c9 : ByteArray := prog_10_method_45_code
def yJ9_multiplyHigh_f86c9 : MethodName := ⟨RJ9, "multiplyHigh", "(JJ)J"⟩
abbrev cJ9_abs_0f7a4 : ByteArray := prog_10_method_59_code
def yJ9_abs_0f7a4 : MethodName := ⟨RJ9, "abs", "(I)I"⟩
abbrev cJ9_abs_067f4 : ByteArray := prog_10_method_61_code
def yJ9_abs_067f4 : MethodName := ⟨RJ9, "abs", "(J)J"⟩
abbrev cJ9_max_7cf53 : ByteArray := prog_10_method_65_code
def yJ9_max_7cf53 : MethodName := ⟨RJ9, "max", "(II)I"⟩
abbrev cJ9_min_7cf53 : ByteArray := prog_10_method_69_code
def yJ9_min_7cf53 : MethodName := ⟨RJ9, "min", "(II)I"⟩
def RJxd2413 : String := "java/lang/Number"
def TJxd2413 : u_T := fun k => match k with
  | _ => ("", "", "", false)
def tyJxd2413 : Nat → FieldType := fun k => match k with
  | _ => .int
theorem nmJxd2413 : ∀ a, a < 0 → ∀ b, b < 0 → a ≠ b → (TJxd2413 a).2.1 ≠ (TJxd2413 b).2.1 := by decide +kernel
theorem tyJxd2413_ok : ∀ k, k < 0 → parseFieldDescriptor (TJxd2413 k).2.2.1 = some (tyJxd2413 k) := by decide +kernel
def RJ10 : String := "java/lang/System"
def TJ10 : u_T := fun k => match k with
  | _ => ("", "", "", false)
def tyJ10 : Nat → FieldType := fun k => match k with
  | _ => .int
theorem nmJ10 : ∀ a, a < 0 → ∀ b, b < 0 → a ≠ b → (TJ10 a).2.1 ≠ (TJ10 b).2.1 := by decide +kernel
theorem tyJ10_ok : ∀ k, k < 0 → parseFieldDescriptor (TJ10 k).2.2.1 = some (tyJ10 k) := by decide +kernel
def RJxfd54e : String := "java/lang/constant/Constable"
def TJxfd54e : u_T := fun k => match k with
  | _ => ("", "", "", false)
def tyJxfd54e : Nat → FieldType := fun k => match k with
  | _ => .int
theorem nmJxfd54e : ∀ a, a < 0 → ∀ b, b < 0 → a ≠ b → (TJxfd54e a).2.1 ≠ (TJxfd54e b).2.1 := by decide +kernel
theorem tyJxfd54e_ok : ∀ k, k < 0 → parseFieldDescriptor (TJxfd54e k).2.2.1 = some (tyJxfd54e k) := by decide +kernel
def RJx3cf43 : String := "java/lang/constant/ConstantDesc"
def TJx3cf43 : u_T := fun k => match k with
  | _ => ("", "", "", false)
def tyJx3cf43 : Nat → FieldType := fun k => match k with
  | _ => .int
theorem nmJx3cf43 : ∀ a, a < 0 → ∀ b, b < 0 → a ≠ b → (TJx3cf43 a).2.1 ≠ (TJx3cf43 b).2.1 := by decide +kernel
theorem tyJx3cf43_ok : ∀ k, k < 0 → parseFieldDescriptor (TJx3cf43 k).2.2.1 = some (tyJx3cf43 k) := by decide +kernel
def RJ7 : String := "java/util/Arrays"
def TJ7 : u_T := fun k => match k with
  | _ => ("", "", "", false)
def tyJ7 : Nat → FieldType := fun k => match k with
  | _ => .int
theorem nmJ7 : ∀ a, a < 0 → ∀ b, b < 0 → a ≠ b → (TJ7 a).2.1 ≠ (TJ7 b).2.1 := by decide +kernel
theorem tyJ7_ok : ∀ k, k < 0 → parseFieldDescriptor (TJ7 k).2.2.1 = some (tyJ7 k) := by decide +kernel
abbrev cJ7_fill_d0a16 : ByteArray := prog_13_method_101_code
def yJ7_fill_d0a16 : MethodName := ⟨RJ7, "fill", "([JJ)V"⟩
abbrev cJ7_fill_53178 : ByteArray := prog_13_method_103_code
def yJ7_fill_53178 : MethodName := ⟨RJ7, "fill", "([II)V"⟩
def RL : String := "LongSumsLaw"
abbrev cL_law : ByteArray := code
def yL_law : MethodName := ⟨RL, "law", "([I)Z"⟩
end
section
theorem dX0_init_0 : decode cX0_init 0 = .ok (.aload_n 0, 1) := by decide +kernel
theorem dX0_init_1 : decode cX0_init 1 = .ok (.invokespecial 3, 3) := by decide +kernel
theorem dX0_init_4 : decode cX0_init 4 = .ok (.aload_n 0, 1) := by decide +kernel
theorem dX0_init_5 : decode cX0_init 5 = .ok (.bipush 12, 2) := by decide +kernel
theorem dX0_init_7 : decode cX0_init 7 = .ok (.anewarray 9, 3) := by decide +kernel
theorem dX0_init_10 : decode cX0_init 10 = .ok (.putfield 11, 3) := by decide +kernel
theorem dX0_init_13 : decode cX0_init 13 = .ok (.aload_n 0, 1) := by decide +kernel
theorem dX0_init_14 : decode cX0_init 14 = .ok (.bipush 12, 2) := by decide +kernel
theorem dX0_init_16 : decode cX0_init 16 = .ok (.newarray .int, 2) := by decide +kernel
theorem dX0_init_18 : decode cX0_init 18 = .ok (.putfield 17, 3) := by decide +kernel
theorem dX0_init_21 : decode cX0_init 21 = .ok (.aload_n 0, 1) := by decide +kernel
theorem dX0_init_22 : decode cX0_init 22 = .ok (.iconst 0, 1) := by decide +kernel
theorem dX0_init_23 : decode cX0_init 23 = .ok (.putfield 21, 3) := by decide +kernel
theorem dX0_init_26 : decode cX0_init 26 = .ok (.aload_n 0, 1) := by decide +kernel
theorem dX0_init_27 : decode cX0_init 27 = .ok (.iconst 0, 1) := by decide +kernel
theorem dX0_init_28 : decode cX0_init 28 = .ok (.putfield 25, 3) := by decide +kernel
theorem dX0_init_31 : decode cX0_init 31 = .ok (.iconst 0, 1) := by decide +kernel
theorem dX0_init_32 : decode cX0_init 32 = .ok (.istore_n 1, 1) := by decide +kernel
theorem dX0_init_33 : decode cX0_init 33 = .ok (.iload_n 1, 1) := by decide +kernel
theorem dX0_init_34 : decode cX0_init 34 = .ok (.bipush 12, 2) := by decide +kernel
theorem dX0_init_36 : decode cX0_init 36 = .ok (.if_icmp .ge 22, 3) := by decide +kernel
theorem dX0_init_39 : decode cX0_init 39 = .ok (.aload_n 0, 1) := by decide +kernel
theorem dX0_init_40 : decode cX0_init 40 = .ok (.getfield 11, 3) := by decide +kernel
theorem dX0_init_43 : decode cX0_init 43 = .ok (.iload_n 1, 1) := by decide +kernel
theorem dX0_init_44 : decode cX0_init 44 = .ok (.new 9, 3) := by decide +kernel
theorem dX0_init_47 : decode cX0_init 47 = .ok (.dup, 1) := by decide +kernel
theorem dX0_init_48 : decode cX0_init 48 = .ok (.invokespecial 28, 3) := by decide +kernel
theorem dX0_init_51 : decode cX0_init 51 = .ok (.aastore, 1) := by decide +kernel
theorem dX0_init_52 : decode cX0_init 52 = .ok (.iinc 1 1, 3) := by decide +kernel
theorem dX0_init_55 : decode cX0_init 55 = .ok (.goto (-22), 3) := by decide +kernel
theorem dX0_init_58 : decode cX0_init 58 = .ok (.return_, 1) := by decide +kernel
theorem dX0_keep_0 : decode cX0_keep 0 = .ok (.aload_n 0, 1) := by decide +kernel
theorem dX0_keep_1 : decode cX0_keep 1 = .ok (.aload_n 0, 1) := by decide +kernel
theorem dX0_keep_2 : decode cX0_keep 2 = .ok (.getfield 25, 3) := by decide +kernel
theorem dX0_keep_5 : decode cX0_keep 5 = .ok (.iconst 1, 1) := by decide +kernel
theorem dX0_keep_6 : decode cX0_keep 6 = .ok (.iadd, 1) := by decide +kernel
theorem dX0_keep_7 : decode cX0_keep 7 = .ok (.bipush 12, 2) := by decide +kernel
theorem dX0_keep_9 : decode cX0_keep 9 = .ok (.irem, 1) := by decide +kernel
theorem dX0_keep_10 : decode cX0_keep 10 = .ok (.putfield 25, 3) := by decide +kernel
theorem dX0_keep_13 : decode cX0_keep 13 = .ok (.aload_n 0, 1) := by decide +kernel
theorem dX0_keep_14 : decode cX0_keep 14 = .ok (.getfield 11, 3) := by decide +kernel
theorem dX0_keep_17 : decode cX0_keep 17 = .ok (.aload_n 0, 1) := by decide +kernel
theorem dX0_keep_18 : decode cX0_keep 18 = .ok (.getfield 25, 3) := by decide +kernel
theorem dX0_keep_21 : decode cX0_keep 21 = .ok (.aaload, 1) := by decide +kernel
theorem dX0_keep_22 : decode cX0_keep 22 = .ok (.aload_n 2, 1) := by decide +kernel
theorem dX0_keep_23 : decode cX0_keep 23 = .ok (.invokevirtual 29, 3) := by decide +kernel
theorem dX0_keep_26 : decode cX0_keep 26 = .ok (.aload_n 0, 1) := by decide +kernel
theorem dX0_keep_27 : decode cX0_keep 27 = .ok (.getfield 17, 3) := by decide +kernel
theorem dX0_keep_30 : decode cX0_keep 30 = .ok (.aload_n 0, 1) := by decide +kernel
theorem dX0_keep_31 : decode cX0_keep 31 = .ok (.getfield 25, 3) := by decide +kernel
theorem dX0_keep_34 : decode cX0_keep 34 = .ok (.iload_n 1, 1) := by decide +kernel
theorem dX0_keep_35 : decode cX0_keep 35 = .ok (.iastore, 1) := by decide +kernel
theorem dX0_keep_36 : decode cX0_keep 36 = .ok (.aload_n 0, 1) := by decide +kernel
theorem dX0_keep_37 : decode cX0_keep 37 = .ok (.aload_n 0, 1) := by decide +kernel
theorem dX0_keep_38 : decode cX0_keep 38 = .ok (.getfield 21, 3) := by decide +kernel
theorem dX0_keep_41 : decode cX0_keep 41 = .ok (.iconst 1, 1) := by decide +kernel
theorem dX0_keep_42 : decode cX0_keep 42 = .ok (.iadd, 1) := by decide +kernel
theorem dX0_keep_43 : decode cX0_keep 43 = .ok (.bipush 12, 2) := by decide +kernel
theorem dX0_keep_45 : decode cX0_keep 45 = .ok (.invokestatic 33, 3) := by decide +kernel
theorem dX0_keep_48 : decode cX0_keep 48 = .ok (.putfield 21, 3) := by decide +kernel
theorem dX0_keep_51 : decode cX0_keep 51 = .ok (.return_, 1) := by decide +kernel
theorem dX0_latestKeeper_0 : decode cX0_latestKeeper 0 = .ok (.aload_n 0, 1) := by decide +kernel
theorem dX0_latestKeeper_1 : decode cX0_latestKeeper 1 = .ok (.getfield 17, 3) := by decide +kernel
theorem dX0_latestKeeper_4 : decode cX0_latestKeeper 4 = .ok (.aload_n 0, 1) := by decide +kernel
theorem dX0_latestKeeper_5 : decode cX0_latestKeeper 5 = .ok (.getfield 25, 3) := by decide +kernel
theorem dX0_latestKeeper_8 : decode cX0_latestKeeper 8 = .ok (.iaload, 1) := by decide +kernel
theorem dX0_latestKeeper_9 : decode cX0_latestKeeper 9 = .ok (.ireturn, 1) := by decide +kernel
theorem dX0_takeBack_0 : decode cX0_takeBack 0 = .ok (.aload_n 1, 1) := by decide +kernel
theorem dX0_takeBack_1 : decode cX0_takeBack 1 = .ok (.aload_n 0, 1) := by decide +kernel
theorem dX0_takeBack_2 : decode cX0_takeBack 2 = .ok (.getfield 11, 3) := by decide +kernel
theorem dX0_takeBack_5 : decode cX0_takeBack 5 = .ok (.aload_n 0, 1) := by decide +kernel
theorem dX0_takeBack_6 : decode cX0_takeBack 6 = .ok (.getfield 25, 3) := by decide +kernel
theorem dX0_takeBack_9 : decode cX0_takeBack 9 = .ok (.aaload, 1) := by decide +kernel
theorem dX0_takeBack_10 : decode cX0_takeBack 10 = .ok (.invokevirtual 29, 3) := by decide +kernel
theorem dX0_takeBack_13 : decode cX0_takeBack 13 = .ok (.aload_n 0, 1) := by decide +kernel
theorem dX0_takeBack_14 : decode cX0_takeBack 14 = .ok (.aload_n 0, 1) := by decide +kernel
theorem dX0_takeBack_15 : decode cX0_takeBack 15 = .ok (.getfield 25, 3) := by decide +kernel
theorem dX0_takeBack_18 : decode cX0_takeBack 18 = .ok (.bipush 12, 2) := by decide +kernel
theorem dX0_takeBack_20 : decode cX0_takeBack 20 = .ok (.iadd, 1) := by decide +kernel
theorem dX0_takeBack_21 : decode cX0_takeBack 21 = .ok (.iconst 1, 1) := by decide +kernel
theorem dX0_takeBack_22 : decode cX0_takeBack 22 = .ok (.isub, 1) := by decide +kernel
theorem dX0_takeBack_23 : decode cX0_takeBack 23 = .ok (.bipush 12, 2) := by decide +kernel
theorem dX0_takeBack_25 : decode cX0_takeBack 25 = .ok (.irem, 1) := by decide +kernel
theorem dX0_takeBack_26 : decode cX0_takeBack 26 = .ok (.putfield 25, 3) := by decide +kernel
theorem dX0_takeBack_29 : decode cX0_takeBack 29 = .ok (.aload_n 0, 1) := by decide +kernel
theorem dX0_takeBack_30 : decode cX0_takeBack 30 = .ok (.dup, 1) := by decide +kernel
theorem dX0_takeBack_31 : decode cX0_takeBack 31 = .ok (.getfield 21, 3) := by decide +kernel
theorem dX0_takeBack_34 : decode cX0_takeBack 34 = .ok (.iconst 1, 1) := by decide +kernel
theorem dX0_takeBack_35 : decode cX0_takeBack 35 = .ok (.isub, 1) := by decide +kernel
theorem dX0_takeBack_36 : decode cX0_takeBack 36 = .ok (.putfield 21, 3) := by decide +kernel
theorem dX0_takeBack_39 : decode cX0_takeBack 39 = .ok (.return_, 1) := by decide +kernel
theorem dX1_init_0 : decode cX1_init 0 = .ok (.aload_n 0, 1) := by decide +kernel
theorem dX1_init_1 : decode cX1_init 1 = .ok (.invokespecial 3, 3) := by decide +kernel
theorem dX1_init_4 : decode cX1_init 4 = .ok (.aload_n 0, 1) := by decide +kernel
theorem dX1_init_5 : decode cX1_init 5 = .ok (.iconst 0, 1) := by decide +kernel
theorem dX1_init_6 : decode cX1_init 6 = .ok (.putfield 9, 3) := by decide +kernel
theorem dX1_init_9 : decode cX1_init 9 = .ok (.aload_n 0, 1) := by decide +kernel
theorem dX1_init_10 : decode cX1_init 10 = .ok (.iconst 0, 1) := by decide +kernel
theorem dX1_init_11 : decode cX1_init 11 = .ok (.putfield 15, 3) := by decide +kernel
theorem dX1_init_14 : decode cX1_init 14 = .ok (.aload_n 0, 1) := by decide +kernel
theorem dX1_init_15 : decode cX1_init 15 = .ok (.iconst 3, 1) := by decide +kernel
theorem dX1_init_16 : decode cX1_init 16 = .ok (.newarray .int, 2) := by decide +kernel
theorem dX1_init_18 : decode cX1_init 18 = .ok (.putfield 19, 3) := by decide +kernel
theorem dX1_init_21 : decode cX1_init 21 = .ok (.aload_n 0, 1) := by decide +kernel
theorem dX1_init_22 : decode cX1_init 22 = .ok (.sipush 150, 3) := by decide +kernel
theorem dX1_init_25 : decode cX1_init 25 = .ok (.newarray .long, 2) := by decide +kernel
theorem dX1_init_27 : decode cX1_init 27 = .ok (.putfield 23, 3) := by decide +kernel
theorem dX1_init_30 : decode cX1_init 30 = .ok (.return_, 1) := by decide +kernel
theorem dX1_renew_0 : decode cX1_renew 0 = .ok (.aload_n 0, 1) := by decide +kernel
theorem dX1_renew_1 : decode cX1_renew 1 = .ok (.iconst 1, 1) := by decide +kernel
theorem dX1_renew_2 : decode cX1_renew 2 = .ok (.putfield 9, 3) := by decide +kernel
theorem dX1_renew_5 : decode cX1_renew 5 = .ok (.aload_n 0, 1) := by decide +kernel
theorem dX1_renew_6 : decode cX1_renew 6 = .ok (.iload_n 1, 1) := by decide +kernel
theorem dX1_renew_7 : decode cX1_renew 7 = .ok (.putfield 15, 3) := by decide +kernel
theorem dX1_renew_10 : decode cX1_renew 10 = .ok (.aload_n 0, 1) := by decide +kernel
theorem dX1_renew_11 : decode cX1_renew 11 = .ok (.getfield 19, 3) := by decide +kernel
theorem dX1_renew_14 : decode cX1_renew 14 = .ok (.iconst 0, 1) := by decide +kernel
theorem dX1_renew_15 : decode cX1_renew 15 = .ok (.invokestatic 27, 3) := by decide +kernel
theorem dX1_renew_18 : decode cX1_renew 18 = .ok (.aload_n 0, 1) := by decide +kernel
theorem dX1_renew_19 : decode cX1_renew 19 = .ok (.getfield 23, 3) := by decide +kernel
theorem dX1_renew_22 : decode cX1_renew 22 = .ok (.lconst 0, 1) := by decide +kernel
theorem dX1_renew_23 : decode cX1_renew 23 = .ok (.invokestatic 33, 3) := by decide +kernel
theorem dX1_renew_26 : decode cX1_renew 26 = .ok (.return_, 1) := by decide +kernel
theorem dX1_become_0 : decode cX1_become 0 = .ok (.aload_n 0, 1) := by decide +kernel
theorem dX1_become_1 : decode cX1_become 1 = .ok (.aload_n 1, 1) := by decide +kernel
theorem dX1_become_2 : decode cX1_become 2 = .ok (.getfield 9, 3) := by decide +kernel
theorem dX1_become_5 : decode cX1_become 5 = .ok (.putfield 9, 3) := by decide +kernel
theorem dX1_become_8 : decode cX1_become 8 = .ok (.aload_n 0, 1) := by decide +kernel
theorem dX1_become_9 : decode cX1_become 9 = .ok (.aload_n 1, 1) := by decide +kernel
theorem dX1_become_10 : decode cX1_become 10 = .ok (.getfield 15, 3) := by decide +kernel
theorem dX1_become_13 : decode cX1_become 13 = .ok (.putfield 15, 3) := by decide +kernel
theorem dX1_become_16 : decode cX1_become 16 = .ok (.aload_n 1, 1) := by decide +kernel
theorem dX1_become_17 : decode cX1_become 17 = .ok (.getfield 19, 3) := by decide +kernel
theorem dX1_become_20 : decode cX1_become 20 = .ok (.iconst 0, 1) := by decide +kernel
theorem dX1_become_21 : decode cX1_become 21 = .ok (.aload_n 0, 1) := by decide +kernel
theorem dX1_become_22 : decode cX1_become 22 = .ok (.getfield 19, 3) := by decide +kernel
theorem dX1_become_25 : decode cX1_become 25 = .ok (.iconst 0, 1) := by decide +kernel
theorem dX1_become_26 : decode cX1_become 26 = .ok (.aload_n 0, 1) := by decide +kernel
theorem dX1_become_27 : decode cX1_become 27 = .ok (.getfield 19, 3) := by decide +kernel
theorem dX1_become_30 : decode cX1_become 30 = .ok (.arraylength, 1) := by decide +kernel
theorem dX1_become_31 : decode cX1_become 31 = .ok (.invokestatic 36, 3) := by decide +kernel
theorem dX1_become_34 : decode cX1_become 34 = .ok (.aload_n 1, 1) := by decide +kernel
theorem dX1_become_35 : decode cX1_become 35 = .ok (.getfield 23, 3) := by decide +kernel
theorem dX1_become_38 : decode cX1_become 38 = .ok (.iconst 0, 1) := by decide +kernel
theorem dX1_become_39 : decode cX1_become 39 = .ok (.aload_n 0, 1) := by decide +kernel
theorem dX1_become_40 : decode cX1_become 40 = .ok (.getfield 23, 3) := by decide +kernel
theorem dX1_become_43 : decode cX1_become 43 = .ok (.iconst 0, 1) := by decide +kernel
theorem dX1_become_44 : decode cX1_become 44 = .ok (.sipush 150, 3) := by decide +kernel
theorem dX1_become_47 : decode cX1_become 47 = .ok (.invokestatic 36, 3) := by decide +kernel
theorem dX1_become_50 : decode cX1_become 50 = .ok (.return_, 1) := by decide +kernel
theorem dX1_state_0 : decode cX1_state 0 = .ok (.aload_n 0, 1) := by decide +kernel
theorem dX1_state_1 : decode cX1_state 1 = .ok (.getfield 19, 3) := by decide +kernel
theorem dX1_state_4 : decode cX1_state 4 = .ok (.iconst 0, 1) := by decide +kernel
theorem dX1_state_5 : decode cX1_state 5 = .ok (.iaload, 1) := by decide +kernel
theorem dX1_state_6 : decode cX1_state 6 = .ok (.ifCond .gt 21, 3) := by decide +kernel
theorem dX1_state_9 : decode cX1_state 9 = .ok (.aload_n 0, 1) := by decide +kernel
theorem dX1_state_10 : decode cX1_state 10 = .ok (.getfield 19, 3) := by decide +kernel
theorem dX1_state_13 : decode cX1_state 13 = .ok (.iconst 1, 1) := by decide +kernel
theorem dX1_state_14 : decode cX1_state 14 = .ok (.iaload, 1) := by decide +kernel
theorem dX1_state_15 : decode cX1_state 15 = .ok (.ifCond .le 14, 3) := by decide +kernel
theorem dX1_state_18 : decode cX1_state 18 = .ok (.aload_n 0, 1) := by decide +kernel
theorem dX1_state_19 : decode cX1_state 19 = .ok (.getfield 19, 3) := by decide +kernel
theorem dX1_state_22 : decode cX1_state 22 = .ok (.iconst 2, 1) := by decide +kernel
theorem dX1_state_23 : decode cX1_state 23 = .ok (.iaload, 1) := by decide +kernel
theorem dX1_state_24 : decode cX1_state 24 = .ok (.ifCond .le 5, 3) := by decide +kernel
theorem dX1_state_27 : decode cX1_state 27 = .ok (.iconst 3, 1) := by decide +kernel
theorem dX1_state_28 : decode cX1_state 28 = .ok (.ireturn, 1) := by decide +kernel
theorem dX1_state_29 : decode cX1_state 29 = .ok (.aload_n 0, 1) := by decide +kernel
theorem dX1_state_30 : decode cX1_state 30 = .ok (.getfield 19, 3) := by decide +kernel
theorem dX1_state_33 : decode cX1_state 33 = .ok (.iconst 1, 1) := by decide +kernel
theorem dX1_state_34 : decode cX1_state 34 = .ok (.iaload, 1) := by decide +kernel
theorem dX1_state_35 : decode cX1_state 35 = .ok (.ifCond .le 5, 3) := by decide +kernel
theorem dX1_state_38 : decode cX1_state 38 = .ok (.iconst 1, 1) := by decide +kernel
theorem dX1_state_39 : decode cX1_state 39 = .ok (.ireturn, 1) := by decide +kernel
theorem dX1_state_40 : decode cX1_state 40 = .ok (.aload_n 0, 1) := by decide +kernel
theorem dX1_state_41 : decode cX1_state 41 = .ok (.getfield 19, 3) := by decide +kernel
theorem dX1_state_44 : decode cX1_state 44 = .ok (.iconst 2, 1) := by decide +kernel
theorem dX1_state_45 : decode cX1_state 45 = .ok (.iaload, 1) := by decide +kernel
theorem dX1_state_46 : decode cX1_state 46 = .ok (.ifCond .le 7, 3) := by decide +kernel
theorem dX1_state_49 : decode cX1_state 49 = .ok (.iconst 2, 1) := by decide +kernel
theorem dX1_state_50 : decode cX1_state 50 = .ok (.goto 4, 3) := by decide +kernel
theorem dX1_state_53 : decode cX1_state 53 = .ok (.iconst 0, 1) := by decide +kernel
theorem dX1_state_54 : decode cX1_state 54 = .ok (.ireturn, 1) := by decide +kernel
theorem dX1_isBelow_0 : decode cX1_isBelow 0 = .ok (.aload_n 0, 1) := by decide +kernel
theorem dX1_isBelow_1 : decode cX1_isBelow 1 = .ok (.getfield 23, 3) := by decide +kernel
theorem dX1_isBelow_4 : decode cX1_isBelow 4 = .ok (.sipush 149, 3) := by decide +kernel
theorem dX1_isBelow_7 : decode cX1_isBelow 7 = .ok (.laload, 1) := by decide +kernel
theorem dX1_isBelow_8 : decode cX1_isBelow 8 = .ok (.lconst 0, 1) := by decide +kernel
theorem dX1_isBelow_9 : decode cX1_isBelow 9 = .ok (.lcmp, 1) := by decide +kernel
theorem dX1_isBelow_10 : decode cX1_isBelow 10 = .ok (.ifCond .ge 7, 3) := by decide +kernel
theorem dX1_isBelow_13 : decode cX1_isBelow 13 = .ok (.iconst 1, 1) := by decide +kernel
theorem dX1_isBelow_14 : decode cX1_isBelow 14 = .ok (.goto 4, 3) := by decide +kernel
theorem dX1_isBelow_17 : decode cX1_isBelow 17 = .ok (.iconst 0, 1) := by decide +kernel
theorem dX1_isBelow_18 : decode cX1_isBelow 18 = .ok (.ireturn, 1) := by decide +kernel
theorem dX1_isNought_0 : decode cX1_isNought 0 = .ok (.aload_n 0, 1) := by decide +kernel
theorem dX1_isNought_1 : decode cX1_isNought 1 = .ok (.getfield 23, 3) := by decide +kernel
theorem dX1_isNought_4 : decode cX1_isNought 4 = .ok (.astore_n 1, 1) := by decide +kernel
theorem dX1_isNought_5 : decode cX1_isNought 5 = .ok (.aload_n 1, 1) := by decide +kernel
theorem dX1_isNought_6 : decode cX1_isNought 6 = .ok (.arraylength, 1) := by decide +kernel
theorem dX1_isNought_7 : decode cX1_isNought 7 = .ok (.istore_n 2, 1) := by decide +kernel
theorem dX1_isNought_8 : decode cX1_isNought 8 = .ok (.iconst 0, 1) := by decide +kernel
theorem dX1_isNought_9 : decode cX1_isNought 9 = .ok (.istore_n 3, 1) := by decide +kernel
theorem dX1_isNought_10 : decode cX1_isNought 10 = .ok (.iload_n 3, 1) := by decide +kernel
theorem dX1_isNought_11 : decode cX1_isNought 11 = .ok (.iload_n 2, 1) := by decide +kernel
theorem dX1_isNought_12 : decode cX1_isNought 12 = .ok (.if_icmp .ge 23, 3) := by decide +kernel
theorem dX1_isNought_15 : decode cX1_isNought 15 = .ok (.aload_n 1, 1) := by decide +kernel
theorem dX1_isNought_16 : decode cX1_isNought 16 = .ok (.iload_n 3, 1) := by decide +kernel
theorem dX1_isNought_17 : decode cX1_isNought 17 = .ok (.laload, 1) := by decide +kernel
theorem dX1_isNought_18 : decode cX1_isNought 18 = .ok (.lstore 4, 2) := by decide +kernel
theorem dX1_isNought_20 : decode cX1_isNought 20 = .ok (.lload 4, 2) := by decide +kernel
theorem dX1_isNought_22 : decode cX1_isNought 22 = .ok (.lconst 0, 1) := by decide +kernel
theorem dX1_isNought_23 : decode cX1_isNought 23 = .ok (.lcmp, 1) := by decide +kernel
theorem dX1_isNought_24 : decode cX1_isNought 24 = .ok (.ifCond .eq 5, 3) := by decide +kernel
theorem dX1_isNought_27 : decode cX1_isNought 27 = .ok (.iconst 0, 1) := by decide +kernel
theorem dX1_isNought_28 : decode cX1_isNought 28 = .ok (.ireturn, 1) := by decide +kernel
theorem dX1_isNought_29 : decode cX1_isNought 29 = .ok (.iinc 3 1, 3) := by decide +kernel
theorem dX1_isNought_32 : decode cX1_isNought 32 = .ok (.goto (-22), 3) := by decide +kernel
theorem dX1_isNought_35 : decode cX1_isNought 35 = .ok (.iconst 1, 1) := by decide +kernel
theorem dX1_isNought_36 : decode cX1_isNought 36 = .ok (.ireturn, 1) := by decide +kernel
theorem dX1_comparedWith_0 : decode cX1_comparedWith 0 = .ok (.sipush 149, 3) := by decide +kernel
theorem dX1_comparedWith_3 : decode cX1_comparedWith 3 = .ok (.istore_n 2, 1) := by decide +kernel
theorem dX1_comparedWith_4 : decode cX1_comparedWith 4 = .ok (.iload_n 2, 1) := by decide +kernel
theorem dX1_comparedWith_5 : decode cX1_comparedWith 5 = .ok (.ifCond .lt 47, 3) := by decide +kernel
theorem dX1_comparedWith_8 : decode cX1_comparedWith 8 = .ok (.aload_n 0, 1) := by decide +kernel
theorem dX1_comparedWith_9 : decode cX1_comparedWith 9 = .ok (.getfield 23, 3) := by decide +kernel
theorem dX1_comparedWith_12 : decode cX1_comparedWith 12 = .ok (.iload_n 2, 1) := by decide +kernel
theorem dX1_comparedWith_13 : decode cX1_comparedWith 13 = .ok (.laload, 1) := by decide +kernel
theorem dX1_comparedWith_14 : decode cX1_comparedWith 14 = .ok (.aload_n 1, 1) := by decide +kernel
theorem dX1_comparedWith_15 : decode cX1_comparedWith 15 = .ok (.getfield 23, 3) := by decide +kernel
theorem dX1_comparedWith_18 : decode cX1_comparedWith 18 = .ok (.iload_n 2, 1) := by decide +kernel
theorem dX1_comparedWith_19 : decode cX1_comparedWith 19 = .ok (.laload, 1) := by decide +kernel
theorem dX1_comparedWith_20 : decode cX1_comparedWith 20 = .ok (.lcmp, 1) := by decide +kernel
theorem dX1_comparedWith_21 : decode cX1_comparedWith 21 = .ok (.ifCond .eq 25, 3) := by decide +kernel
theorem dX1_comparedWith_24 : decode cX1_comparedWith 24 = .ok (.aload_n 0, 1) := by decide +kernel
theorem dX1_comparedWith_25 : decode cX1_comparedWith 25 = .ok (.getfield 23, 3) := by decide +kernel
theorem dX1_comparedWith_28 : decode cX1_comparedWith 28 = .ok (.iload_n 2, 1) := by decide +kernel
theorem dX1_comparedWith_29 : decode cX1_comparedWith 29 = .ok (.laload, 1) := by decide +kernel
theorem dX1_comparedWith_30 : decode cX1_comparedWith 30 = .ok (.aload_n 1, 1) := by decide +kernel
theorem dX1_comparedWith_31 : decode cX1_comparedWith 31 = .ok (.getfield 23, 3) := by decide +kernel
theorem dX1_comparedWith_34 : decode cX1_comparedWith 34 = .ok (.iload_n 2, 1) := by decide +kernel
theorem dX1_comparedWith_35 : decode cX1_comparedWith 35 = .ok (.laload, 1) := by decide +kernel
theorem dX1_comparedWith_36 : decode cX1_comparedWith 36 = .ok (.lcmp, 1) := by decide +kernel
theorem dX1_comparedWith_37 : decode cX1_comparedWith 37 = .ok (.ifCond .ge 7, 3) := by decide +kernel
theorem dX1_comparedWith_40 : decode cX1_comparedWith 40 = .ok (.iconst (-1), 1) := by decide +kernel
theorem dX1_comparedWith_41 : decode cX1_comparedWith 41 = .ok (.goto 4, 3) := by decide +kernel
theorem dX1_comparedWith_44 : decode cX1_comparedWith 44 = .ok (.iconst 1, 1) := by decide +kernel
theorem dX1_comparedWith_45 : decode cX1_comparedWith 45 = .ok (.ireturn, 1) := by decide +kernel
theorem dX1_comparedWith_46 : decode cX1_comparedWith 46 = .ok (.iinc 2 (-1), 3) := by decide +kernel
theorem dX1_comparedWith_49 : decode cX1_comparedWith 49 = .ok (.goto (-45), 3) := by decide +kernel
theorem dX1_comparedWith_52 : decode cX1_comparedWith 52 = .ok (.iconst 0, 1) := by decide +kernel
theorem dX1_comparedWith_53 : decode cX1_comparedWith 53 = .ok (.ireturn, 1) := by decide +kernel
theorem dX1_gather_0 : decode cX1_gather 0 = .ok (.iload_n 3, 1) := by decide +kernel
theorem dX1_gather_1 : decode cX1_gather 1 = .ok (.istore 6, 2) := by decide +kernel
theorem dX1_gather_3 : decode cX1_gather 3 = .ok (.iload 6, 2) := by decide +kernel
theorem dX1_gather_5 : decode cX1_gather 5 = .ok (.iload_n 3, 1) := by decide +kernel
theorem dX1_gather_6 : decode cX1_gather 6 = .ok (.iload 4, 2) := by decide +kernel
theorem dX1_gather_8 : decode cX1_gather 8 = .ok (.iadd, 1) := by decide +kernel
theorem dX1_gather_9 : decode cX1_gather 9 = .ok (.if_icmp .ge 69, 3) := by decide +kernel
theorem dX1_gather_12 : decode cX1_gather 12 = .ok (.aload_n 1, 1) := by decide +kernel
theorem dX1_gather_13 : decode cX1_gather 13 = .ok (.aload_n 2, 1) := by decide +kernel
theorem dX1_gather_14 : decode cX1_gather 14 = .ok (.iload 6, 2) := by decide +kernel
theorem dX1_gather_16 : decode cX1_gather 16 = .ok (.invokestatic 42, 3) := by decide +kernel
theorem dX1_gather_19 : decode cX1_gather 19 = .ok (.istore 7, 2) := by decide +kernel
theorem dX1_gather_21 : decode cX1_gather 21 = .ok (.iload 7, 2) := by decide +kernel
theorem dX1_gather_23 : decode cX1_gather 23 = .ok (.ifCond .ne 41, 3) := by decide +kernel
theorem dX1_gather_26 : decode cX1_gather 26 = .ok (.aload_n 0, 1) := by decide +kernel
theorem dX1_gather_27 : decode cX1_gather 27 = .ok (.aload_n 1, 1) := by decide +kernel
theorem dX1_gather_28 : decode cX1_gather 28 = .ok (.getfield 46, 3) := by decide +kernel
theorem dX1_gather_31 : decode cX1_gather 31 = .ok (.iload 6, 2) := by decide +kernel
theorem dX1_gather_33 : decode cX1_gather 33 = .ok (.laload, 1) := by decide +kernel
theorem dX1_gather_34 : decode cX1_gather 34 = .ok (.aload_n 2, 1) := by decide +kernel
theorem dX1_gather_35 : decode cX1_gather 35 = .ok (.getfield 46, 3) := by decide +kernel
theorem dX1_gather_38 : decode cX1_gather 38 = .ok (.iload 6, 2) := by decide +kernel
theorem dX1_gather_40 : decode cX1_gather 40 = .ok (.laload, 1) := by decide +kernel
theorem dX1_gather_41 : decode cX1_gather 41 = .ok (.aload_n 1, 1) := by decide +kernel
theorem dX1_gather_42 : decode cX1_gather 42 = .ok (.getfield 51, 3) := by decide +kernel
theorem dX1_gather_45 : decode cX1_gather 45 = .ok (.iload 6, 2) := by decide +kernel
theorem dX1_gather_47 : decode cX1_gather 47 = .ok (.iaload, 1) := by decide +kernel
theorem dX1_gather_48 : decode cX1_gather 48 = .ok (.aload_n 2, 1) := by decide +kernel
theorem dX1_gather_49 : decode cX1_gather 49 = .ok (.getfield 51, 3) := by decide +kernel
theorem dX1_gather_52 : decode cX1_gather 52 = .ok (.iload 6, 2) := by decide +kernel
theorem dX1_gather_54 : decode cX1_gather 54 = .ok (.iaload, 1) := by decide +kernel
theorem dX1_gather_55 : decode cX1_gather 55 = .ok (.iadd, 1) := by decide +kernel
theorem dX1_gather_56 : decode cX1_gather 56 = .ok (.iload 5, 2) := by decide +kernel
theorem dX1_gather_58 : decode cX1_gather 58 = .ok (.invokevirtual 54, 3) := by decide +kernel
theorem dX1_gather_61 : decode cX1_gather 61 = .ok (.goto 11, 3) := by decide +kernel
theorem dX1_gather_64 : decode cX1_gather 64 = .ok (.aload_n 0, 1) := by decide +kernel
theorem dX1_gather_65 : decode cX1_gather 65 = .ok (.iload 7, 2) := by decide +kernel
theorem dX1_gather_67 : decode cX1_gather 67 = .ok (.iload 5, 2) := by decide +kernel
theorem dX1_gather_69 : decode cX1_gather 69 = .ok (.invokevirtual 58, 3) := by decide +kernel
theorem dX1_gather_72 : decode cX1_gather 72 = .ok (.iinc 6 1, 3) := by decide +kernel
theorem dX1_gather_75 : decode cX1_gather 75 = .ok (.goto (-72), 3) := by decide +kernel
theorem dX1_gather_78 : decode cX1_gather 78 = .ok (.aload_n 0, 1) := by decide +kernel
theorem dX1_gather_79 : decode cX1_gather 79 = .ok (.invokevirtual 62, 3) := by decide +kernel
theorem dX1_gather_82 : decode cX1_gather 82 = .ok (.return_, 1) := by decide +kernel
theorem dX1_gainAll_0 : decode cX1_gainAll 0 = .ok (.iconst 0, 1) := by decide +kernel
theorem dX1_gainAll_1 : decode cX1_gainAll 1 = .ok (.istore_n 2, 1) := by decide +kernel
theorem dX1_gainAll_2 : decode cX1_gainAll 2 = .ok (.iload_n 2, 1) := by decide +kernel
theorem dX1_gainAll_3 : decode cX1_gainAll 3 = .ok (.sipush 150, 3) := by decide +kernel
theorem dX1_gainAll_6 : decode cX1_gainAll 6 = .ok (.if_icmp .ge 24, 3) := by decide +kernel
theorem dX1_gainAll_9 : decode cX1_gainAll 9 = .ok (.aload_n 0, 1) := by decide +kernel
theorem dX1_gainAll_10 : decode cX1_gainAll 10 = .ok (.getfield 23, 3) := by decide +kernel
theorem dX1_gainAll_13 : decode cX1_gainAll 13 = .ok (.iload_n 2, 1) := by decide +kernel
theorem dX1_gainAll_14 : decode cX1_gainAll 14 = .ok (.dup2, 1) := by decide +kernel
theorem dX1_gainAll_15 : decode cX1_gainAll 15 = .ok (.laload, 1) := by decide +kernel
theorem dX1_gainAll_16 : decode cX1_gainAll 16 = .ok (.aload_n 1, 1) := by decide +kernel
theorem dX1_gainAll_17 : decode cX1_gainAll 17 = .ok (.getfield 23, 3) := by decide +kernel
theorem dX1_gainAll_20 : decode cX1_gainAll 20 = .ok (.iload_n 2, 1) := by decide +kernel
theorem dX1_gainAll_21 : decode cX1_gainAll 21 = .ok (.laload, 1) := by decide +kernel
theorem dX1_gainAll_22 : decode cX1_gainAll 22 = .ok (.ladd, 1) := by decide +kernel
theorem dX1_gainAll_23 : decode cX1_gainAll 23 = .ok (.lastore, 1) := by decide +kernel
theorem dX1_gainAll_24 : decode cX1_gainAll 24 = .ok (.iinc 2 1, 3) := by decide +kernel
theorem dX1_gainAll_27 : decode cX1_gainAll 27 = .ok (.goto (-25), 3) := by decide +kernel
theorem dX1_gainAll_30 : decode cX1_gainAll 30 = .ok (.aload_n 0, 1) := by decide +kernel
theorem dX1_gainAll_31 : decode cX1_gainAll 31 = .ok (.invokevirtual 62, 3) := by decide +kernel
theorem dX1_gainAll_34 : decode cX1_gainAll 34 = .ok (.iconst 0, 1) := by decide +kernel
theorem dX1_gainAll_35 : decode cX1_gainAll 35 = .ok (.istore_n 2, 1) := by decide +kernel
theorem dX1_gainAll_36 : decode cX1_gainAll 36 = .ok (.iload_n 2, 1) := by decide +kernel
theorem dX1_gainAll_37 : decode cX1_gainAll 37 = .ok (.aload_n 0, 1) := by decide +kernel
theorem dX1_gainAll_38 : decode cX1_gainAll 38 = .ok (.getfield 19, 3) := by decide +kernel
theorem dX1_gainAll_41 : decode cX1_gainAll 41 = .ok (.arraylength, 1) := by decide +kernel
theorem dX1_gainAll_42 : decode cX1_gainAll 42 = .ok (.if_icmp .ge 33, 3) := by decide +kernel
theorem dX1_gainAll_45 : decode cX1_gainAll 45 = .ok (.aload_n 0, 1) := by decide +kernel
theorem dX1_gainAll_46 : decode cX1_gainAll 46 = .ok (.getfield 19, 3) := by decide +kernel
theorem dX1_gainAll_49 : decode cX1_gainAll 49 = .ok (.iload_n 2, 1) := by decide +kernel
theorem dX1_gainAll_50 : decode cX1_gainAll 50 = .ok (.aload_n 0, 1) := by decide +kernel
theorem dX1_gainAll_51 : decode cX1_gainAll 51 = .ok (.getfield 19, 3) := by decide +kernel
theorem dX1_gainAll_54 : decode cX1_gainAll 54 = .ok (.iload_n 2, 1) := by decide +kernel
theorem dX1_gainAll_55 : decode cX1_gainAll 55 = .ok (.iaload, 1) := by decide +kernel
theorem dX1_gainAll_56 : decode cX1_gainAll 56 = .ok (.aload_n 1, 1) := by decide +kernel
theorem dX1_gainAll_57 : decode cX1_gainAll 57 = .ok (.getfield 19, 3) := by decide +kernel
theorem dX1_gainAll_60 : decode cX1_gainAll 60 = .ok (.iload_n 2, 1) := by decide +kernel
theorem dX1_gainAll_61 : decode cX1_gainAll 61 = .ok (.iaload, 1) := by decide +kernel
theorem dX1_gainAll_62 : decode cX1_gainAll 62 = .ok (.iadd, 1) := by decide +kernel
theorem dX1_gainAll_63 : decode cX1_gainAll 63 = .ok (.ldc 65, 2) := by decide +kernel
theorem dX1_gainAll_65 : decode cX1_gainAll 65 = .ok (.invokestatic 66, 3) := by decide +kernel
theorem dX1_gainAll_68 : decode cX1_gainAll 68 = .ok (.iastore, 1) := by decide +kernel
theorem dX1_gainAll_69 : decode cX1_gainAll 69 = .ok (.iinc 2 1, 3) := by decide +kernel
theorem dX1_gainAll_72 : decode cX1_gainAll 72 = .ok (.goto (-36), 3) := by decide +kernel
theorem dX1_gainAll_75 : decode cX1_gainAll 75 = .ok (.return_, 1) := by decide +kernel
theorem dX1_sortOfProduct_0 : decode cX1_sortOfProduct 0 = .ok (.aload_n 0, 1) := by decide +kernel
theorem dX1_sortOfProduct_1 : decode cX1_sortOfProduct 1 = .ok (.iload_n 2, 1) := by decide +kernel
theorem dX1_sortOfProduct_2 : decode cX1_sortOfProduct 2 = .ok (.invokevirtual 72, 3) := by decide +kernel
theorem dX1_sortOfProduct_5 : decode cX1_sortOfProduct 5 = .ok (.istore_n 3, 1) := by decide +kernel
theorem dX1_sortOfProduct_6 : decode cX1_sortOfProduct 6 = .ok (.aload_n 1, 1) := by decide +kernel
theorem dX1_sortOfProduct_7 : decode cX1_sortOfProduct 7 = .ok (.iload_n 2, 1) := by decide +kernel
theorem dX1_sortOfProduct_8 : decode cX1_sortOfProduct 8 = .ok (.invokevirtual 72, 3) := by decide +kernel
theorem dX1_sortOfProduct_11 : decode cX1_sortOfProduct 11 = .ok (.istore 4, 2) := by decide +kernel
theorem dX1_sortOfProduct_13 : decode cX1_sortOfProduct 13 = .ok (.iload_n 3, 1) := by decide +kernel
theorem dX1_sortOfProduct_14 : decode cX1_sortOfProduct 14 = .ok (.iconst 3, 1) := by decide +kernel
theorem dX1_sortOfProduct_15 : decode cX1_sortOfProduct 15 = .ok (.if_icmp .eq 9, 3) := by decide +kernel
theorem dX1_sortOfProduct_18 : decode cX1_sortOfProduct 18 = .ok (.iload 4, 2) := by decide +kernel
theorem dX1_sortOfProduct_20 : decode cX1_sortOfProduct 20 = .ok (.iconst 3, 1) := by decide +kernel
theorem dX1_sortOfProduct_21 : decode cX1_sortOfProduct 21 = .ok (.if_icmp .ne 5, 3) := by decide +kernel
theorem dX1_sortOfProduct_24 : decode cX1_sortOfProduct 24 = .ok (.iconst 3, 1) := by decide +kernel
theorem dX1_sortOfProduct_25 : decode cX1_sortOfProduct 25 = .ok (.ireturn, 1) := by decide +kernel
theorem dX1_sortOfProduct_26 : decode cX1_sortOfProduct 26 = .ok (.iload_n 3, 1) := by decide +kernel
theorem dX1_sortOfProduct_27 : decode cX1_sortOfProduct 27 = .ok (.ifCond .ne 10, 3) := by decide +kernel
theorem dX1_sortOfProduct_30 : decode cX1_sortOfProduct 30 = .ok (.iload 4, 2) := by decide +kernel
theorem dX1_sortOfProduct_32 : decode cX1_sortOfProduct 32 = .ok (.ifCond .ne 5, 3) := by decide +kernel
theorem dX1_sortOfProduct_35 : decode cX1_sortOfProduct 35 = .ok (.iconst 0, 1) := by decide +kernel
theorem dX1_sortOfProduct_36 : decode cX1_sortOfProduct 36 = .ok (.ireturn, 1) := by decide +kernel
theorem dX1_sortOfProduct_37 : decode cX1_sortOfProduct 37 = .ok (.iload_n 3, 1) := by decide +kernel
theorem dX1_sortOfProduct_38 : decode cX1_sortOfProduct 38 = .ok (.ifCond .ne 14, 3) := by decide +kernel
theorem dX1_sortOfProduct_41 : decode cX1_sortOfProduct 41 = .ok (.aload_n 0, 1) := by decide +kernel
theorem dX1_sortOfProduct_42 : decode cX1_sortOfProduct 42 = .ok (.getfield 46, 3) := by decide +kernel
theorem dX1_sortOfProduct_45 : decode cX1_sortOfProduct 45 = .ok (.iload_n 2, 1) := by decide +kernel
theorem dX1_sortOfProduct_46 : decode cX1_sortOfProduct 46 = .ok (.laload, 1) := by decide +kernel
theorem dX1_sortOfProduct_47 : decode cX1_sortOfProduct 47 = .ok (.lconst 0, 1) := by decide +kernel
theorem dX1_sortOfProduct_48 : decode cX1_sortOfProduct 48 = .ok (.lcmp, 1) := by decide +kernel
theorem dX1_sortOfProduct_49 : decode cX1_sortOfProduct 49 = .ok (.ifCond .eq 19, 3) := by decide +kernel
theorem dX1_sortOfProduct_52 : decode cX1_sortOfProduct 52 = .ok (.iload 4, 2) := by decide +kernel
theorem dX1_sortOfProduct_54 : decode cX1_sortOfProduct 54 = .ok (.ifCond .ne 16, 3) := by decide +kernel
theorem dX1_sortOfProduct_57 : decode cX1_sortOfProduct 57 = .ok (.aload_n 1, 1) := by decide +kernel
theorem dX1_sortOfProduct_58 : decode cX1_sortOfProduct 58 = .ok (.getfield 46, 3) := by decide +kernel
theorem dX1_sortOfProduct_61 : decode cX1_sortOfProduct 61 = .ok (.iload_n 2, 1) := by decide +kernel
theorem dX1_sortOfProduct_62 : decode cX1_sortOfProduct 62 = .ok (.laload, 1) := by decide +kernel
theorem dX1_sortOfProduct_63 : decode cX1_sortOfProduct 63 = .ok (.lconst 0, 1) := by decide +kernel
theorem dX1_sortOfProduct_64 : decode cX1_sortOfProduct 64 = .ok (.lcmp, 1) := by decide +kernel
theorem dX1_sortOfProduct_65 : decode cX1_sortOfProduct 65 = .ok (.ifCond .ne 5, 3) := by decide +kernel
theorem dX1_sortOfProduct_68 : decode cX1_sortOfProduct 68 = .ok (.iconst 3, 1) := by decide +kernel
theorem dX1_sortOfProduct_69 : decode cX1_sortOfProduct 69 = .ok (.ireturn, 1) := by decide +kernel
theorem dX1_sortOfProduct_70 : decode cX1_sortOfProduct 70 = .ok (.iload_n 3, 1) := by decide +kernel
theorem dX1_sortOfProduct_71 : decode cX1_sortOfProduct 71 = .ok (.iconst 2, 1) := by decide +kernel
theorem dX1_sortOfProduct_72 : decode cX1_sortOfProduct 72 = .ok (.if_icmp .eq 14, 3) := by decide +kernel
theorem dX1_sortOfProduct_75 : decode cX1_sortOfProduct 75 = .ok (.aload_n 0, 1) := by decide +kernel
theorem dX1_sortOfProduct_76 : decode cX1_sortOfProduct 76 = .ok (.getfield 46, 3) := by decide +kernel
theorem dX1_sortOfProduct_79 : decode cX1_sortOfProduct 79 = .ok (.iload_n 2, 1) := by decide +kernel
theorem dX1_sortOfProduct_80 : decode cX1_sortOfProduct 80 = .ok (.laload, 1) := by decide +kernel
theorem dX1_sortOfProduct_81 : decode cX1_sortOfProduct 81 = .ok (.lconst 0, 1) := by decide +kernel
theorem dX1_sortOfProduct_82 : decode cX1_sortOfProduct 82 = .ok (.lcmp, 1) := by decide +kernel
theorem dX1_sortOfProduct_83 : decode cX1_sortOfProduct 83 = .ok (.ifCond .ge 7, 3) := by decide +kernel
theorem dX1_sortOfProduct_86 : decode cX1_sortOfProduct 86 = .ok (.iconst 1, 1) := by decide +kernel
theorem dX1_sortOfProduct_87 : decode cX1_sortOfProduct 87 = .ok (.goto 4, 3) := by decide +kernel
theorem dX1_sortOfProduct_90 : decode cX1_sortOfProduct 90 = .ok (.iconst 0, 1) := by decide +kernel
theorem dX1_sortOfProduct_91 : decode cX1_sortOfProduct 91 = .ok (.istore 5, 2) := by decide +kernel
theorem dX1_sortOfProduct_93 : decode cX1_sortOfProduct 93 = .ok (.iload 4, 2) := by decide +kernel
theorem dX1_sortOfProduct_95 : decode cX1_sortOfProduct 95 = .ok (.iconst 2, 1) := by decide +kernel
theorem dX1_sortOfProduct_96 : decode cX1_sortOfProduct 96 = .ok (.if_icmp .eq 14, 3) := by decide +kernel
theorem dX1_sortOfProduct_99 : decode cX1_sortOfProduct 99 = .ok (.aload_n 1, 1) := by decide +kernel
theorem dX1_sortOfProduct_100 : decode cX1_sortOfProduct 100 = .ok (.getfield 46, 3) := by decide +kernel
theorem dX1_sortOfProduct_103 : decode cX1_sortOfProduct 103 = .ok (.iload_n 2, 1) := by decide +kernel
theorem dX1_sortOfProduct_104 : decode cX1_sortOfProduct 104 = .ok (.laload, 1) := by decide +kernel
theorem dX1_sortOfProduct_105 : decode cX1_sortOfProduct 105 = .ok (.lconst 0, 1) := by decide +kernel
theorem dX1_sortOfProduct_106 : decode cX1_sortOfProduct 106 = .ok (.lcmp, 1) := by decide +kernel
theorem dX1_sortOfProduct_107 : decode cX1_sortOfProduct 107 = .ok (.ifCond .ge 7, 3) := by decide +kernel
theorem dX1_sortOfProduct_110 : decode cX1_sortOfProduct 110 = .ok (.iconst 1, 1) := by decide +kernel
theorem dX1_sortOfProduct_111 : decode cX1_sortOfProduct 111 = .ok (.goto 4, 3) := by decide +kernel
theorem dX1_sortOfProduct_114 : decode cX1_sortOfProduct 114 = .ok (.iconst 0, 1) := by decide +kernel
theorem dX1_sortOfProduct_115 : decode cX1_sortOfProduct 115 = .ok (.istore 6, 2) := by decide +kernel
theorem dX1_sortOfProduct_117 : decode cX1_sortOfProduct 117 = .ok (.iload 5, 2) := by decide +kernel
theorem dX1_sortOfProduct_119 : decode cX1_sortOfProduct 119 = .ok (.iload 6, 2) := by decide +kernel
theorem dX1_sortOfProduct_121 : decode cX1_sortOfProduct 121 = .ok (.if_icmp .ne 7, 3) := by decide +kernel
theorem dX1_sortOfProduct_124 : decode cX1_sortOfProduct 124 = .ok (.iconst 1, 1) := by decide +kernel
theorem dX1_sortOfProduct_125 : decode cX1_sortOfProduct 125 = .ok (.goto 4, 3) := by decide +kernel
theorem dX1_sortOfProduct_128 : decode cX1_sortOfProduct 128 = .ok (.iconst 2, 1) := by decide +kernel
theorem dX1_sortOfProduct_129 : decode cX1_sortOfProduct 129 = .ok (.ireturn, 1) := by decide +kernel
theorem dX1_meet_0 : decode cX1_meet 0 = .ok (.iconst 0, 1) := by decide +kernel
theorem dX1_meet_1 : decode cX1_meet 1 = .ok (.istore_n 3, 1) := by decide +kernel
theorem dX1_meet_2 : decode cX1_meet 2 = .ok (.iload_n 1, 1) := by decide +kernel
theorem dX1_meet_3 : decode cX1_meet 3 = .ok (.iconst 3, 1) := by decide +kernel
theorem dX1_meet_4 : decode cX1_meet 4 = .ok (.if_icmp .eq 23, 3) := by decide +kernel
theorem dX1_meet_7 : decode cX1_meet 7 = .ok (.iload_n 1, 1) := by decide +kernel
theorem dX1_meet_8 : decode cX1_meet 8 = .ok (.iconst 1, 1) := by decide +kernel
theorem dX1_meet_9 : decode cX1_meet 9 = .ok (.if_icmp .ne 7, 3) := by decide +kernel
theorem dX1_meet_12 : decode cX1_meet 12 = .ok (.iconst 1, 1) := by decide +kernel
theorem dX1_meet_13 : decode cX1_meet 13 = .ok (.goto 4, 3) := by decide +kernel
theorem dX1_meet_16 : decode cX1_meet 16 = .ok (.iconst 0, 1) := by decide +kernel
theorem dX1_meet_17 : decode cX1_meet 17 = .ok (.iload_n 2, 1) := by decide +kernel
theorem dX1_meet_18 : decode cX1_meet 18 = .ok (.if_icmp .ne 7, 3) := by decide +kernel
theorem dX1_meet_21 : decode cX1_meet 21 = .ok (.iconst 2, 1) := by decide +kernel
theorem dX1_meet_22 : decode cX1_meet 22 = .ok (.goto 4, 3) := by decide +kernel
theorem dX1_meet_25 : decode cX1_meet 25 = .ok (.iconst 1, 1) := by decide +kernel
theorem dX1_meet_26 : decode cX1_meet 26 = .ok (.istore_n 3, 1) := by decide +kernel
theorem dX1_meet_27 : decode cX1_meet 27 = .ok (.aload_n 0, 1) := by decide +kernel
theorem dX1_meet_28 : decode cX1_meet 28 = .ok (.getfield 19, 3) := by decide +kernel
theorem dX1_meet_31 : decode cX1_meet 31 = .ok (.iload_n 3, 1) := by decide +kernel
theorem dX1_meet_32 : decode cX1_meet 32 = .ok (.aload_n 0, 1) := by decide +kernel
theorem dX1_meet_33 : decode cX1_meet 33 = .ok (.getfield 19, 3) := by decide +kernel
theorem dX1_meet_36 : decode cX1_meet 36 = .ok (.iload_n 3, 1) := by decide +kernel
theorem dX1_meet_37 : decode cX1_meet 37 = .ok (.iaload, 1) := by decide +kernel
theorem dX1_meet_38 : decode cX1_meet 38 = .ok (.iconst 1, 1) := by decide +kernel
theorem dX1_meet_39 : decode cX1_meet 39 = .ok (.iadd, 1) := by decide +kernel
theorem dX1_meet_40 : decode cX1_meet 40 = .ok (.ldc 65, 2) := by decide +kernel
theorem dX1_meet_42 : decode cX1_meet 42 = .ok (.invokestatic 66, 3) := by decide +kernel
theorem dX1_meet_45 : decode cX1_meet 45 = .ok (.iastore, 1) := by decide +kernel
theorem dX1_meet_46 : decode cX1_meet 46 = .ok (.return_, 1) := by decide +kernel
theorem dX1_gain_0 : decode cX1_gain 0 = .ok (.lload_n 1, 1) := by decide +kernel
theorem dX1_gain_1 : decode cX1_gain 1 = .ok (.invokestatic 76, 3) := by decide +kernel
theorem dX1_gain_4 : decode cX1_gain 4 = .ok (.lstore 7, 2) := by decide +kernel
theorem dX1_gain_6 : decode cX1_gain 6 = .ok (.lload_n 3, 1) := by decide +kernel
theorem dX1_gain_7 : decode cX1_gain 7 = .ok (.invokestatic 76, 3) := by decide +kernel
theorem dX1_gain_10 : decode cX1_gain 10 = .ok (.lstore 9, 2) := by decide +kernel
theorem dX1_gain_12 : decode cX1_gain 12 = .ok (.lload_n 1, 1) := by decide +kernel
theorem dX1_gain_13 : decode cX1_gain 13 = .ok (.lconst 0, 1) := by decide +kernel
theorem dX1_gain_14 : decode cX1_gain 14 = .ok (.lcmp, 1) := by decide +kernel
theorem dX1_gain_15 : decode cX1_gain 15 = .ok (.ifCond .ge 7, 3) := by decide +kernel
theorem dX1_gain_18 : decode cX1_gain 18 = .ok (.iconst 1, 1) := by decide +kernel
theorem dX1_gain_19 : decode cX1_gain 19 = .ok (.goto 4, 3) := by decide +kernel
theorem dX1_gain_22 : decode cX1_gain 22 = .ok (.iconst 0, 1) := by decide +kernel
theorem dX1_gain_23 : decode cX1_gain 23 = .ok (.lload_n 3, 1) := by decide +kernel
theorem dX1_gain_24 : decode cX1_gain 24 = .ok (.lconst 0, 1) := by decide +kernel
theorem dX1_gain_25 : decode cX1_gain 25 = .ok (.lcmp, 1) := by decide +kernel
theorem dX1_gain_26 : decode cX1_gain 26 = .ok (.ifCond .ge 7, 3) := by decide +kernel
theorem dX1_gain_29 : decode cX1_gain 29 = .ok (.iconst 1, 1) := by decide +kernel
theorem dX1_gain_30 : decode cX1_gain 30 = .ok (.goto 4, 3) := by decide +kernel
theorem dX1_gain_33 : decode cX1_gain 33 = .ok (.iconst 0, 1) := by decide +kernel
theorem dX1_gain_34 : decode cX1_gain 34 = .ok (.if_icmp .eq 7, 3) := by decide +kernel
theorem dX1_gain_37 : decode cX1_gain 37 = .ok (.iconst 1, 1) := by decide +kernel
theorem dX1_gain_38 : decode cX1_gain 38 = .ok (.goto 4, 3) := by decide +kernel
theorem dX1_gain_41 : decode cX1_gain 41 = .ok (.iconst 0, 1) := by decide +kernel
theorem dX1_gain_42 : decode cX1_gain 42 = .ok (.iload 6, 2) := by decide +kernel
theorem dX1_gain_44 : decode cX1_gain 44 = .ok (.if_icmp .eq 7, 3) := by decide +kernel
theorem dX1_gain_47 : decode cX1_gain 47 = .ok (.iconst 1, 1) := by decide +kernel
theorem dX1_gain_48 : decode cX1_gain 48 = .ok (.goto 4, 3) := by decide +kernel
theorem dX1_gain_51 : decode cX1_gain 51 = .ok (.iconst 0, 1) := by decide +kernel
theorem dX1_gain_52 : decode cX1_gain 52 = .ok (.istore 11, 2) := by decide +kernel
theorem dX1_gain_54 : decode cX1_gain 54 = .ok (.iload 5, 2) := by decide +kernel
theorem dX1_gain_56 : decode cX1_gain 56 = .ok (.sipush (-2148), 3) := by decide +kernel
theorem dX1_gain_59 : decode cX1_gain 59 = .ok (.isub, 1) := by decide +kernel
theorem dX1_gain_60 : decode cX1_gain 60 = .ok (.istore 12, 2) := by decide +kernel
theorem dX1_gain_62 : decode cX1_gain 62 = .ok (.aload_n 0, 1) := by decide +kernel
theorem dX1_gain_63 : decode cX1_gain 63 = .ok (.lload 7, 2) := by decide +kernel
theorem dX1_gain_65 : decode cX1_gain 65 = .ok (.ldc2_w 80, 3) := by decide +kernel
theorem dX1_gain_68 : decode cX1_gain 68 = .ok (.land, 1) := by decide +kernel
theorem dX1_gain_69 : decode cX1_gain 69 = .ok (.lload 9, 2) := by decide +kernel
theorem dX1_gain_71 : decode cX1_gain 71 = .ok (.ldc2_w 80, 3) := by decide +kernel
theorem dX1_gain_74 : decode cX1_gain 74 = .ok (.land, 1) := by decide +kernel
theorem dX1_gain_75 : decode cX1_gain 75 = .ok (.lmul, 1) := by decide +kernel
theorem dX1_gain_76 : decode cX1_gain 76 = .ok (.iload 12, 2) := by decide +kernel
theorem dX1_gain_78 : decode cX1_gain 78 = .ok (.iload 11, 2) := by decide +kernel
theorem dX1_gain_80 : decode cX1_gain 80 = .ok (.invokevirtual 82, 3) := by decide +kernel
theorem dX1_gain_83 : decode cX1_gain 83 = .ok (.aload_n 0, 1) := by decide +kernel
theorem dX1_gain_84 : decode cX1_gain 84 = .ok (.lload 7, 2) := by decide +kernel
theorem dX1_gain_86 : decode cX1_gain 86 = .ok (.ldc2_w 80, 3) := by decide +kernel
theorem dX1_gain_89 : decode cX1_gain 89 = .ok (.land, 1) := by decide +kernel
theorem dX1_gain_90 : decode cX1_gain 90 = .ok (.lload 9, 2) := by decide +kernel
theorem dX1_gain_92 : decode cX1_gain 92 = .ok (.bipush 32, 2) := by decide +kernel
theorem dX1_gain_94 : decode cX1_gain 94 = .ok (.lushr, 1) := by decide +kernel
theorem dX1_gain_95 : decode cX1_gain 95 = .ok (.lmul, 1) := by decide +kernel
theorem dX1_gain_96 : decode cX1_gain 96 = .ok (.iload 12, 2) := by decide +kernel
theorem dX1_gain_98 : decode cX1_gain 98 = .ok (.bipush 32, 2) := by decide +kernel
theorem dX1_gain_100 : decode cX1_gain 100 = .ok (.iadd, 1) := by decide +kernel
theorem dX1_gain_101 : decode cX1_gain 101 = .ok (.iload 11, 2) := by decide +kernel
theorem dX1_gain_103 : decode cX1_gain 103 = .ok (.invokevirtual 82, 3) := by decide +kernel
theorem dX1_gain_106 : decode cX1_gain 106 = .ok (.aload_n 0, 1) := by decide +kernel
theorem dX1_gain_107 : decode cX1_gain 107 = .ok (.lload 7, 2) := by decide +kernel
theorem dX1_gain_109 : decode cX1_gain 109 = .ok (.bipush 32, 2) := by decide +kernel
theorem dX1_gain_111 : decode cX1_gain 111 = .ok (.lushr, 1) := by decide +kernel
theorem dX1_gain_112 : decode cX1_gain 112 = .ok (.lload 9, 2) := by decide +kernel
theorem dX1_gain_114 : decode cX1_gain 114 = .ok (.ldc2_w 80, 3) := by decide +kernel
theorem dX1_gain_117 : decode cX1_gain 117 = .ok (.land, 1) := by decide +kernel
theorem dX1_gain_118 : decode cX1_gain 118 = .ok (.lmul, 1) := by decide +kernel
theorem dX1_gain_119 : decode cX1_gain 119 = .ok (.iload 12, 2) := by decide +kernel
theorem dX1_gain_121 : decode cX1_gain 121 = .ok (.bipush 32, 2) := by decide +kernel
theorem dX1_gain_123 : decode cX1_gain 123 = .ok (.iadd, 1) := by decide +kernel
theorem dX1_gain_124 : decode cX1_gain 124 = .ok (.iload 11, 2) := by decide +kernel
theorem dX1_gain_126 : decode cX1_gain 126 = .ok (.invokevirtual 82, 3) := by decide +kernel
theorem dX1_gain_129 : decode cX1_gain 129 = .ok (.aload_n 0, 1) := by decide +kernel
theorem dX1_gain_130 : decode cX1_gain 130 = .ok (.lload 7, 2) := by decide +kernel
theorem dX1_gain_132 : decode cX1_gain 132 = .ok (.bipush 32, 2) := by decide +kernel
theorem dX1_gain_134 : decode cX1_gain 134 = .ok (.lushr, 1) := by decide +kernel
theorem dX1_gain_135 : decode cX1_gain 135 = .ok (.lload 9, 2) := by decide +kernel
theorem dX1_gain_137 : decode cX1_gain 137 = .ok (.bipush 32, 2) := by decide +kernel
theorem dX1_gain_139 : decode cX1_gain 139 = .ok (.lushr, 1) := by decide +kernel
theorem dX1_gain_140 : decode cX1_gain 140 = .ok (.lmul, 1) := by decide +kernel
theorem dX1_gain_141 : decode cX1_gain 141 = .ok (.iload 12, 2) := by decide +kernel
theorem dX1_gain_143 : decode cX1_gain 143 = .ok (.bipush 64, 2) := by decide +kernel
theorem dX1_gain_145 : decode cX1_gain 145 = .ok (.iadd, 1) := by decide +kernel
theorem dX1_gain_146 : decode cX1_gain 146 = .ok (.iload 11, 2) := by decide +kernel
theorem dX1_gain_148 : decode cX1_gain 148 = .ok (.invokevirtual 82, 3) := by decide +kernel
theorem dX1_gain_151 : decode cX1_gain 151 = .ok (.return_, 1) := by decide +kernel
theorem dX1_gainPart_0 : decode cX1_gainPart 0 = .ok (.aload_n 0, 1) := by decide +kernel
theorem dX1_gainPart_1 : decode cX1_gainPart 1 = .ok (.lload_n 1, 1) := by decide +kernel
theorem dX1_gainPart_2 : decode cX1_gainPart 2 = .ok (.ldc2_w 80, 3) := by decide +kernel
theorem dX1_gainPart_5 : decode cX1_gainPart 5 = .ok (.land, 1) := by decide +kernel
theorem dX1_gainPart_6 : decode cX1_gainPart 6 = .ok (.iload_n 3, 1) := by decide +kernel
theorem dX1_gainPart_7 : decode cX1_gainPart 7 = .ok (.iload 4, 2) := by decide +kernel
theorem dX1_gainPart_9 : decode cX1_gainPart 9 = .ok (.invokevirtual 86, 3) := by decide +kernel
theorem dX1_gainPart_12 : decode cX1_gainPart 12 = .ok (.aload_n 0, 1) := by decide +kernel
theorem dX1_gainPart_13 : decode cX1_gainPart 13 = .ok (.lload_n 1, 1) := by decide +kernel
theorem dX1_gainPart_14 : decode cX1_gainPart 14 = .ok (.bipush 32, 2) := by decide +kernel
theorem dX1_gainPart_16 : decode cX1_gainPart 16 = .ok (.lushr, 1) := by decide +kernel
theorem dX1_gainPart_17 : decode cX1_gainPart 17 = .ok (.iload_n 3, 1) := by decide +kernel
theorem dX1_gainPart_18 : decode cX1_gainPart 18 = .ok (.bipush 32, 2) := by decide +kernel
theorem dX1_gainPart_20 : decode cX1_gainPart 20 = .ok (.iadd, 1) := by decide +kernel
theorem dX1_gainPart_21 : decode cX1_gainPart 21 = .ok (.iload 4, 2) := by decide +kernel
theorem dX1_gainPart_23 : decode cX1_gainPart 23 = .ok (.invokevirtual 86, 3) := by decide +kernel
theorem dX1_gainPart_26 : decode cX1_gainPart 26 = .ok (.return_, 1) := by decide +kernel
theorem dX1_gainHalf_0 : decode cX1_gainHalf 0 = .ok (.iload_n 3, 1) := by decide +kernel
theorem dX1_gainHalf_1 : decode cX1_gainHalf 1 = .ok (.bipush 32, 2) := by decide +kernel
theorem dX1_gainHalf_3 : decode cX1_gainHalf 3 = .ok (.idiv, 1) := by decide +kernel
theorem dX1_gainHalf_4 : decode cX1_gainHalf 4 = .ok (.istore 5, 2) := by decide +kernel
theorem dX1_gainHalf_6 : decode cX1_gainHalf 6 = .ok (.lload_n 1, 1) := by decide +kernel
theorem dX1_gainHalf_7 : decode cX1_gainHalf 7 = .ok (.lconst 0, 1) := by decide +kernel
theorem dX1_gainHalf_8 : decode cX1_gainHalf 8 = .ok (.lcmp, 1) := by decide +kernel
theorem dX1_gainHalf_9 : decode cX1_gainHalf 9 = .ok (.ifCond .eq 15, 3) := by decide +kernel
theorem dX1_gainHalf_12 : decode cX1_gainHalf 12 = .ok (.iload_n 3, 1) := by decide +kernel
theorem dX1_gainHalf_13 : decode cX1_gainHalf 13 = .ok (.ifCond .lt 11, 3) := by decide +kernel
theorem dX1_gainHalf_16 : decode cX1_gainHalf 16 = .ok (.iload 5, 2) := by decide +kernel
theorem dX1_gainHalf_18 : decode cX1_gainHalf 18 = .ok (.sipush 149, 3) := by decide +kernel
theorem dX1_gainHalf_21 : decode cX1_gainHalf 21 = .ok (.if_icmp .lt 4, 3) := by decide +kernel
theorem dX1_gainHalf_24 : decode cX1_gainHalf 24 = .ok (.return_, 1) := by decide +kernel
theorem dX1_gainHalf_25 : decode cX1_gainHalf 25 = .ok (.lload_n 1, 1) := by decide +kernel
theorem dX1_gainHalf_26 : decode cX1_gainHalf 26 = .ok (.iload_n 3, 1) := by decide +kernel
theorem dX1_gainHalf_27 : decode cX1_gainHalf 27 = .ok (.bipush 32, 2) := by decide +kernel
theorem dX1_gainHalf_29 : decode cX1_gainHalf 29 = .ok (.irem, 1) := by decide +kernel
theorem dX1_gainHalf_30 : decode cX1_gainHalf 30 = .ok (.lshl, 1) := by decide +kernel
theorem dX1_gainHalf_31 : decode cX1_gainHalf 31 = .ok (.lstore 6, 2) := by decide +kernel
theorem dX1_gainHalf_33 : decode cX1_gainHalf 33 = .ok (.lload 6, 2) := by decide +kernel
theorem dX1_gainHalf_35 : decode cX1_gainHalf 35 = .ok (.ldc2_w 80, 3) := by decide +kernel
theorem dX1_gainHalf_38 : decode cX1_gainHalf 38 = .ok (.land, 1) := by decide +kernel
theorem dX1_gainHalf_39 : decode cX1_gainHalf 39 = .ok (.lstore 8, 2) := by decide +kernel
theorem dX1_gainHalf_41 : decode cX1_gainHalf 41 = .ok (.lload 6, 2) := by decide +kernel
theorem dX1_gainHalf_43 : decode cX1_gainHalf 43 = .ok (.bipush 32, 2) := by decide +kernel
theorem dX1_gainHalf_45 : decode cX1_gainHalf 45 = .ok (.lushr, 1) := by decide +kernel
theorem dX1_gainHalf_46 : decode cX1_gainHalf 46 = .ok (.lstore 10, 2) := by decide +kernel
theorem dX1_gainHalf_48 : decode cX1_gainHalf 48 = .ok (.aload_n 0, 1) := by decide +kernel
theorem dX1_gainHalf_49 : decode cX1_gainHalf 49 = .ok (.getfield 23, 3) := by decide +kernel
theorem dX1_gainHalf_52 : decode cX1_gainHalf 52 = .ok (.iload 5, 2) := by decide +kernel
theorem dX1_gainHalf_54 : decode cX1_gainHalf 54 = .ok (.dup2, 1) := by decide +kernel
theorem dX1_gainHalf_55 : decode cX1_gainHalf 55 = .ok (.laload, 1) := by decide +kernel
theorem dX1_gainHalf_56 : decode cX1_gainHalf 56 = .ok (.iload 4, 2) := by decide +kernel
theorem dX1_gainHalf_58 : decode cX1_gainHalf 58 = .ok (.ifCond .eq 9, 3) := by decide +kernel
theorem dX1_gainHalf_61 : decode cX1_gainHalf 61 = .ok (.lload 8, 2) := by decide +kernel
theorem dX1_gainHalf_63 : decode cX1_gainHalf 63 = .ok (.lneg, 1) := by decide +kernel
theorem dX1_gainHalf_64 : decode cX1_gainHalf 64 = .ok (.goto 5, 3) := by decide +kernel
theorem dX1_gainHalf_67 : decode cX1_gainHalf 67 = .ok (.lload 8, 2) := by decide +kernel
theorem dX1_gainHalf_69 : decode cX1_gainHalf 69 = .ok (.ladd, 1) := by decide +kernel
theorem dX1_gainHalf_70 : decode cX1_gainHalf 70 = .ok (.lastore, 1) := by decide +kernel
theorem dX1_gainHalf_71 : decode cX1_gainHalf 71 = .ok (.aload_n 0, 1) := by decide +kernel
theorem dX1_gainHalf_72 : decode cX1_gainHalf 72 = .ok (.getfield 23, 3) := by decide +kernel
theorem dX1_gainHalf_75 : decode cX1_gainHalf 75 = .ok (.iload 5, 2) := by decide +kernel
theorem dX1_gainHalf_77 : decode cX1_gainHalf 77 = .ok (.iconst 1, 1) := by decide +kernel
theorem dX1_gainHalf_78 : decode cX1_gainHalf 78 = .ok (.iadd, 1) := by decide +kernel
theorem dX1_gainHalf_79 : decode cX1_gainHalf 79 = .ok (.dup2, 1) := by decide +kernel
theorem dX1_gainHalf_80 : decode cX1_gainHalf 80 = .ok (.laload, 1) := by decide +kernel
theorem dX1_gainHalf_81 : decode cX1_gainHalf 81 = .ok (.iload 4, 2) := by decide +kernel
theorem dX1_gainHalf_83 : decode cX1_gainHalf 83 = .ok (.ifCond .eq 9, 3) := by decide +kernel
theorem dX1_gainHalf_86 : decode cX1_gainHalf 86 = .ok (.lload 10, 2) := by decide +kernel
theorem dX1_gainHalf_88 : decode cX1_gainHalf 88 = .ok (.lneg, 1) := by decide +kernel
theorem dX1_gainHalf_89 : decode cX1_gainHalf 89 = .ok (.goto 5, 3) := by decide +kernel
theorem dX1_gainHalf_92 : decode cX1_gainHalf 92 = .ok (.lload 10, 2) := by decide +kernel
theorem dX1_gainHalf_94 : decode cX1_gainHalf 94 = .ok (.ladd, 1) := by decide +kernel
theorem dX1_gainHalf_95 : decode cX1_gainHalf 95 = .ok (.lastore, 1) := by decide +kernel
theorem dX1_gainHalf_96 : decode cX1_gainHalf 96 = .ok (.return_, 1) := by decide +kernel
theorem dX1_carry_0 : decode cX1_carry 0 = .ok (.lconst 0, 1) := by decide +kernel
theorem dX1_carry_1 : decode cX1_carry 1 = .ok (.lstore_n 1, 1) := by decide +kernel
theorem dX1_carry_2 : decode cX1_carry 2 = .ok (.iconst 0, 1) := by decide +kernel
theorem dX1_carry_3 : decode cX1_carry 3 = .ok (.istore_n 3, 1) := by decide +kernel
theorem dX1_carry_4 : decode cX1_carry 4 = .ok (.iload_n 3, 1) := by decide +kernel
theorem dX1_carry_5 : decode cX1_carry 5 = .ok (.sipush 149, 3) := by decide +kernel
theorem dX1_carry_8 : decode cX1_carry 8 = .ok (.if_icmp .ge 37, 3) := by decide +kernel
theorem dX1_carry_11 : decode cX1_carry 11 = .ok (.aload_n 0, 1) := by decide +kernel
theorem dX1_carry_12 : decode cX1_carry 12 = .ok (.getfield 23, 3) := by decide +kernel
theorem dX1_carry_15 : decode cX1_carry 15 = .ok (.iload_n 3, 1) := by decide +kernel
theorem dX1_carry_16 : decode cX1_carry 16 = .ok (.laload, 1) := by decide +kernel
theorem dX1_carry_17 : decode cX1_carry 17 = .ok (.lload_n 1, 1) := by decide +kernel
theorem dX1_carry_18 : decode cX1_carry 18 = .ok (.ladd, 1) := by decide +kernel
theorem dX1_carry_19 : decode cX1_carry 19 = .ok (.lstore 4, 2) := by decide +kernel
theorem dX1_carry_21 : decode cX1_carry 21 = .ok (.aload_n 0, 1) := by decide +kernel
theorem dX1_carry_22 : decode cX1_carry 22 = .ok (.getfield 23, 3) := by decide +kernel
theorem dX1_carry_25 : decode cX1_carry 25 = .ok (.iload_n 3, 1) := by decide +kernel
theorem dX1_carry_26 : decode cX1_carry 26 = .ok (.lload 4, 2) := by decide +kernel
theorem dX1_carry_28 : decode cX1_carry 28 = .ok (.ldc2_w 80, 3) := by decide +kernel
theorem dX1_carry_31 : decode cX1_carry 31 = .ok (.land, 1) := by decide +kernel
theorem dX1_carry_32 : decode cX1_carry 32 = .ok (.lastore, 1) := by decide +kernel
theorem dX1_carry_33 : decode cX1_carry 33 = .ok (.lload 4, 2) := by decide +kernel
theorem dX1_carry_35 : decode cX1_carry 35 = .ok (.bipush 32, 2) := by decide +kernel
theorem dX1_carry_37 : decode cX1_carry 37 = .ok (.lshr, 1) := by decide +kernel
theorem dX1_carry_38 : decode cX1_carry 38 = .ok (.lstore_n 1, 1) := by decide +kernel
theorem dX1_carry_39 : decode cX1_carry 39 = .ok (.iinc 3 1, 3) := by decide +kernel
theorem dX1_carry_42 : decode cX1_carry 42 = .ok (.goto (-38), 3) := by decide +kernel
theorem dX1_carry_45 : decode cX1_carry 45 = .ok (.aload_n 0, 1) := by decide +kernel
theorem dX1_carry_46 : decode cX1_carry 46 = .ok (.getfield 23, 3) := by decide +kernel
theorem dX1_carry_49 : decode cX1_carry 49 = .ok (.sipush 149, 3) := by decide +kernel
theorem dX1_carry_52 : decode cX1_carry 52 = .ok (.dup2, 1) := by decide +kernel
theorem dX1_carry_53 : decode cX1_carry 53 = .ok (.laload, 1) := by decide +kernel
theorem dX1_carry_54 : decode cX1_carry 54 = .ok (.lload_n 1, 1) := by decide +kernel
theorem dX1_carry_55 : decode cX1_carry 55 = .ok (.ladd, 1) := by decide +kernel
theorem dX1_carry_56 : decode cX1_carry 56 = .ok (.lastore, 1) := by decide +kernel
theorem dX1_carry_57 : decode cX1_carry 57 = .ok (.return_, 1) := by decide +kernel
theorem dX2_init_0 : decode cX2_init 0 = .ok (.aload_n 0, 1) := by decide +kernel
theorem dX2_init_1 : decode cX2_init 1 = .ok (.invokespecial 3, 3) := by decide +kernel
theorem dX2_init_4 : decode cX2_init 4 = .ok (.aload_n 0, 1) := by decide +kernel
theorem dX2_init_5 : decode cX2_init 5 = .ok (.iconst 0, 1) := by decide +kernel
theorem dX2_init_6 : decode cX2_init 6 = .ok (.putfield 9, 3) := by decide +kernel
theorem dX2_init_9 : decode cX2_init 9 = .ok (.aload_n 0, 1) := by decide +kernel
theorem dX2_init_10 : decode cX2_init 10 = .ok (.iconst 0, 1) := by decide +kernel
theorem dX2_init_11 : decode cX2_init 11 = .ok (.putfield 15, 3) := by decide +kernel
theorem dX2_init_14 : decode cX2_init 14 = .ok (.aload_n 0, 1) := by decide +kernel
theorem dX2_init_15 : decode cX2_init 15 = .ok (.iconst 0, 1) := by decide +kernel
theorem dX2_init_16 : decode cX2_init 16 = .ok (.putfield 19, 3) := by decide +kernel
theorem dX2_init_19 : decode cX2_init 19 = .ok (.aload_n 0, 1) := by decide +kernel
theorem dX2_init_20 : decode cX2_init 20 = .ok (.bipush 40, 2) := by decide +kernel
theorem dX2_init_22 : decode cX2_init 22 = .ok (.newarray .long, 2) := by decide +kernel
theorem dX2_init_24 : decode cX2_init 24 = .ok (.putfield 22, 3) := by decide +kernel
theorem dX2_init_27 : decode cX2_init 27 = .ok (.aload_n 0, 1) := by decide +kernel
theorem dX2_init_28 : decode cX2_init 28 = .ok (.bipush 40, 2) := by decide +kernel
theorem dX2_init_30 : decode cX2_init 30 = .ok (.newarray .int, 2) := by decide +kernel
theorem dX2_init_32 : decode cX2_init 32 = .ok (.putfield 26, 3) := by decide +kernel
theorem dX2_init_35 : decode cX2_init 35 = .ok (.aload_n 0, 1) := by decide +kernel
theorem dX2_init_36 : decode cX2_init 36 = .ok (.bipush 40, 2) := by decide +kernel
theorem dX2_init_38 : decode cX2_init 38 = .ok (.newarray .int, 2) := by decide +kernel
theorem dX2_init_40 : decode cX2_init 40 = .ok (.putfield 30, 3) := by decide +kernel
theorem dX2_init_43 : decode cX2_init 43 = .ok (.return_, 1) := by decide +kernel
theorem dX2_renew_0 : decode cX2_renew 0 = .ok (.aload_n 0, 1) := by decide +kernel
theorem dX2_renew_1 : decode cX2_renew 1 = .ok (.iconst 1, 1) := by decide +kernel
theorem dX2_renew_2 : decode cX2_renew 2 = .ok (.putfield 9, 3) := by decide +kernel
theorem dX2_renew_5 : decode cX2_renew 5 = .ok (.aload_n 0, 1) := by decide +kernel
theorem dX2_renew_6 : decode cX2_renew 6 = .ok (.iload_n 1, 1) := by decide +kernel
theorem dX2_renew_7 : decode cX2_renew 7 = .ok (.putfield 15, 3) := by decide +kernel
theorem dX2_renew_10 : decode cX2_renew 10 = .ok (.aload_n 0, 1) := by decide +kernel
theorem dX2_renew_11 : decode cX2_renew 11 = .ok (.iload_n 2, 1) := by decide +kernel
theorem dX2_renew_12 : decode cX2_renew 12 = .ok (.putfield 19, 3) := by decide +kernel
theorem dX2_renew_15 : decode cX2_renew 15 = .ok (.aload_n 0, 1) := by decide +kernel
theorem dX2_renew_16 : decode cX2_renew 16 = .ok (.getfield 22, 3) := by decide +kernel
theorem dX2_renew_19 : decode cX2_renew 19 = .ok (.lconst 0, 1) := by decide +kernel
theorem dX2_renew_20 : decode cX2_renew 20 = .ok (.invokestatic 33, 3) := by decide +kernel
theorem dX2_renew_23 : decode cX2_renew 23 = .ok (.aload_n 0, 1) := by decide +kernel
theorem dX2_renew_24 : decode cX2_renew 24 = .ok (.getfield 26, 3) := by decide +kernel
theorem dX2_renew_27 : decode cX2_renew 27 = .ok (.iconst 0, 1) := by decide +kernel
theorem dX2_renew_28 : decode cX2_renew 28 = .ok (.invokestatic 39, 3) := by decide +kernel
theorem dX2_renew_31 : decode cX2_renew 31 = .ok (.aload_n 0, 1) := by decide +kernel
theorem dX2_renew_32 : decode cX2_renew 32 = .ok (.getfield 30, 3) := by decide +kernel
theorem dX2_renew_35 : decode cX2_renew 35 = .ok (.iconst 0, 1) := by decide +kernel
theorem dX2_renew_36 : decode cX2_renew 36 = .ok (.invokestatic 39, 3) := by decide +kernel
theorem dX2_renew_39 : decode cX2_renew 39 = .ok (.return_, 1) := by decide +kernel
theorem dX2_isFloating_0 : decode cX2_isFloating 0 = .ok (.aload_n 0, 1) := by decide +kernel
theorem dX2_isFloating_1 : decode cX2_isFloating 1 = .ok (.getfield 15, 3) := by decide +kernel
theorem dX2_isFloating_4 : decode cX2_isFloating 4 = .ok (.iconst 4, 1) := by decide +kernel
theorem dX2_isFloating_5 : decode cX2_isFloating 5 = .ok (.if_icmp .eq 11, 3) := by decide +kernel
theorem dX2_isFloating_8 : decode cX2_isFloating 8 = .ok (.aload_n 0, 1) := by decide +kernel
theorem dX2_isFloating_9 : decode cX2_isFloating 9 = .ok (.getfield 15, 3) := by decide +kernel
theorem dX2_isFloating_12 : decode cX2_isFloating 12 = .ok (.iconst 5, 1) := by decide +kernel
theorem dX2_isFloating_13 : decode cX2_isFloating 13 = .ok (.if_icmp .ne 7, 3) := by decide +kernel
theorem dX2_isFloating_16 : decode cX2_isFloating 16 = .ok (.iconst 1, 1) := by decide +kernel
theorem dX2_isFloating_17 : decode cX2_isFloating 17 = .ok (.goto 4, 3) := by decide +kernel
theorem dX2_isFloating_20 : decode cX2_isFloating 20 = .ok (.iconst 0, 1) := by decide +kernel
theorem dX2_isFloating_21 : decode cX2_isFloating 21 = .ok (.ireturn, 1) := by decide +kernel
theorem dX2_has_0 : decode cX2_has 0 = .ok (.iload_n 1, 1) := by decide +kernel
theorem dX2_has_1 : decode cX2_has 1 = .ok (.ifCond .lt 17, 3) := by decide +kernel
theorem dX2_has_4 : decode cX2_has 4 = .ok (.iload_n 1, 1) := by decide +kernel
theorem dX2_has_5 : decode cX2_has 5 = .ok (.aload_n 0, 1) := by decide +kernel
theorem dX2_has_6 : decode cX2_has 6 = .ok (.getfield 19, 3) := by decide +kernel
theorem dX2_has_9 : decode cX2_has 9 = .ok (.iload_n 2, 1) := by decide +kernel
theorem dX2_has_10 : decode cX2_has 10 = .ok (.isub, 1) := by decide +kernel
theorem dX2_has_11 : decode cX2_has 11 = .ok (.if_icmp .gt 7, 3) := by decide +kernel
theorem dX2_has_14 : decode cX2_has 14 = .ok (.iconst 1, 1) := by decide +kernel
theorem dX2_has_15 : decode cX2_has 15 = .ok (.goto 4, 3) := by decide +kernel
theorem dX2_has_18 : decode cX2_has 18 = .ok (.iconst 0, 1) := by decide +kernel
theorem dX2_has_19 : decode cX2_has 19 = .ok (.ireturn, 1) := by decide +kernel
theorem dX2_sortAt_0 : decode cX2_sortAt 0 = .ok (.aload_n 0, 1) := by decide +kernel
theorem dX2_sortAt_1 : decode cX2_sortAt 1 = .ok (.getfield 30, 3) := by decide +kernel
theorem dX2_sortAt_4 : decode cX2_sortAt 4 = .ok (.iload_n 1, 1) := by decide +kernel
theorem dX2_sortAt_5 : decode cX2_sortAt 5 = .ok (.iaload, 1) := by decide +kernel
theorem dX2_sortAt_6 : decode cX2_sortAt 6 = .ok (.iconst 4, 1) := by decide +kernel
theorem dX2_sortAt_7 : decode cX2_sortAt 7 = .ok (.if_icmp .ne 7, 3) := by decide +kernel
theorem dX2_sortAt_10 : decode cX2_sortAt 10 = .ok (.iconst 0, 1) := by decide +kernel
theorem dX2_sortAt_11 : decode cX2_sortAt 11 = .ok (.goto 9, 3) := by decide +kernel
theorem dX2_sortAt_14 : decode cX2_sortAt 14 = .ok (.aload_n 0, 1) := by decide +kernel
theorem dX2_sortAt_15 : decode cX2_sortAt 15 = .ok (.getfield 30, 3) := by decide +kernel
theorem dX2_sortAt_18 : decode cX2_sortAt 18 = .ok (.iload_n 1, 1) := by decide +kernel
theorem dX2_sortAt_19 : decode cX2_sortAt 19 = .ok (.iaload, 1) := by decide +kernel
theorem dX2_sortAt_20 : decode cX2_sortAt 20 = .ok (.ireturn, 1) := by decide +kernel
theorem dX2_asDouble_0 : decode cX2_asDouble 0 = .ok (.aload_n 0, 1) := by decide +kernel
theorem dX2_asDouble_1 : decode cX2_asDouble 1 = .ok (.getfield 30, 3) := by decide +kernel
theorem dX2_asDouble_4 : decode cX2_asDouble 4 = .ok (.iload_n 1, 1) := by decide +kernel
theorem dX2_asDouble_5 : decode cX2_asDouble 5 = .ok (.iaload, 1) := by decide +kernel
theorem dX2_asDouble_6 : decode cX2_asDouble 6 = .ok (.tableswitch 45 1 4 #[30, 34, 43, 39], 30) := by decide +kernel
theorem dX2_asDouble_36 : decode cX2_asDouble 36 = .ok (.invokestatic 42, 3) := by decide +kernel
theorem dX2_asDouble_39 : decode cX2_asDouble 39 = .ok (.dreturn, 1) := by decide +kernel
theorem dX2_asDouble_40 : decode cX2_asDouble 40 = .ok (.invokestatic 42, 3) := by decide +kernel
theorem dX2_asDouble_43 : decode cX2_asDouble 43 = .ok (.dneg, 1) := by decide +kernel
theorem dX2_asDouble_44 : decode cX2_asDouble 44 = .ok (.dreturn, 1) := by decide +kernel
theorem dX2_asDouble_45 : decode cX2_asDouble 45 = .ok (.ldc2_w 46, 3) := by decide +kernel
theorem dX2_asDouble_48 : decode cX2_asDouble 48 = .ok (.dreturn, 1) := by decide +kernel
theorem dX2_asDouble_49 : decode cX2_asDouble 49 = .ok (.dconst 0, 1) := by decide +kernel
theorem dX2_asDouble_50 : decode cX2_asDouble 50 = .ok (.dreturn, 1) := by decide +kernel
theorem dX2_asDouble_51 : decode cX2_asDouble 51 = .ok (.aload_n 0, 1) := by decide +kernel
theorem dX2_asDouble_52 : decode cX2_asDouble 52 = .ok (.getfield 22, 3) := by decide +kernel
theorem dX2_asDouble_55 : decode cX2_asDouble 55 = .ok (.iload_n 1, 1) := by decide +kernel
theorem dX2_asDouble_56 : decode cX2_asDouble 56 = .ok (.laload, 1) := by decide +kernel
theorem dX2_asDouble_57 : decode cX2_asDouble 57 = .ok (.l2d, 1) := by decide +kernel
theorem dX2_asDouble_58 : decode cX2_asDouble 58 = .ok (.aload_n 0, 1) := by decide +kernel
theorem dX2_asDouble_59 : decode cX2_asDouble 59 = .ok (.getfield 26, 3) := by decide +kernel
theorem dX2_asDouble_62 : decode cX2_asDouble 62 = .ok (.iload_n 1, 1) := by decide +kernel
theorem dX2_asDouble_63 : decode cX2_asDouble 63 = .ok (.iaload, 1) := by decide +kernel
theorem dX2_asDouble_64 : decode cX2_asDouble 64 = .ok (.invokestatic 48, 3) := by decide +kernel
theorem dX2_asDouble_67 : decode cX2_asDouble 67 = .ok (.dmul, 1) := by decide +kernel
theorem dX2_asDouble_68 : decode cX2_asDouble 68 = .ok (.dreturn, 1) := by decide +kernel
theorem dX2_write_0 : decode cX2_write 0 = .ok (.aload_n 0, 1) := by decide +kernel
theorem dX2_write_1 : decode cX2_write 1 = .ok (.getfield 15, 3) := by decide +kernel
theorem dX2_write_4 : decode cX2_write 4 = .ok (.tableswitch 95 0 4 #[36, 49, 62, 74, 84], 36) := by decide +kernel
theorem dX2_write_40 : decode cX2_write 40 = .ok (.aload_n 0, 1) := by decide +kernel
theorem dX2_write_41 : decode cX2_write 41 = .ok (.iload_n 1, 1) := by decide +kernel
theorem dX2_write_42 : decode cX2_write 42 = .ok (.lload_n 2, 1) := by decide +kernel
theorem dX2_write_43 : decode cX2_write 43 = .ok (.l2i, 1) := by decide +kernel
theorem dX2_write_44 : decode cX2_write 44 = .ok (.i2b, 1) := by decide +kernel
theorem dX2_write_45 : decode cX2_write 45 = .ok (.i2l, 1) := by decide +kernel
theorem dX2_write_46 : decode cX2_write 46 = .ok (.iconst 0, 1) := by decide +kernel
theorem dX2_write_47 : decode cX2_write 47 = .ok (.invokevirtual 52, 3) := by decide +kernel
theorem dX2_write_50 : decode cX2_write 50 = .ok (.goto 57, 3) := by decide +kernel
theorem dX2_write_53 : decode cX2_write 53 = .ok (.aload_n 0, 1) := by decide +kernel
theorem dX2_write_54 : decode cX2_write 54 = .ok (.iload_n 1, 1) := by decide +kernel
theorem dX2_write_55 : decode cX2_write 55 = .ok (.lload_n 2, 1) := by decide +kernel
theorem dX2_write_56 : decode cX2_write 56 = .ok (.l2i, 1) := by decide +kernel
theorem dX2_write_57 : decode cX2_write 57 = .ok (.i2s, 1) := by decide +kernel
theorem dX2_write_58 : decode cX2_write 58 = .ok (.i2l, 1) := by decide +kernel
theorem dX2_write_59 : decode cX2_write 59 = .ok (.iconst 0, 1) := by decide +kernel
theorem dX2_write_60 : decode cX2_write 60 = .ok (.invokevirtual 52, 3) := by decide +kernel
theorem dX2_write_63 : decode cX2_write 63 = .ok (.goto 44, 3) := by decide +kernel
theorem dX2_write_66 : decode cX2_write 66 = .ok (.aload_n 0, 1) := by decide +kernel
theorem dX2_write_67 : decode cX2_write 67 = .ok (.iload_n 1, 1) := by decide +kernel
theorem dX2_write_68 : decode cX2_write 68 = .ok (.lload_n 2, 1) := by decide +kernel
theorem dX2_write_69 : decode cX2_write 69 = .ok (.l2i, 1) := by decide +kernel
theorem dX2_write_70 : decode cX2_write 70 = .ok (.i2l, 1) := by decide +kernel
theorem dX2_write_71 : decode cX2_write 71 = .ok (.iconst 0, 1) := by decide +kernel
theorem dX2_write_72 : decode cX2_write 72 = .ok (.invokevirtual 52, 3) := by decide +kernel
theorem dX2_write_75 : decode cX2_write 75 = .ok (.goto 32, 3) := by decide +kernel
theorem dX2_write_78 : decode cX2_write 78 = .ok (.aload_n 0, 1) := by decide +kernel
theorem dX2_write_79 : decode cX2_write 79 = .ok (.iload_n 1, 1) := by decide +kernel
theorem dX2_write_80 : decode cX2_write 80 = .ok (.lload_n 2, 1) := by decide +kernel
theorem dX2_write_81 : decode cX2_write 81 = .ok (.iconst 0, 1) := by decide +kernel
theorem dX2_write_82 : decode cX2_write 82 = .ok (.invokevirtual 52, 3) := by decide +kernel
theorem dX2_write_85 : decode cX2_write 85 = .ok (.goto 22, 3) := by decide +kernel
theorem dX2_write_88 : decode cX2_write 88 = .ok (.aload_n 0, 1) := by decide +kernel
theorem dX2_write_89 : decode cX2_write 89 = .ok (.iload_n 1, 1) := by decide +kernel
theorem dX2_write_90 : decode cX2_write 90 = .ok (.lload_n 2, 1) := by decide +kernel
theorem dX2_write_91 : decode cX2_write 91 = .ok (.iload 4, 2) := by decide +kernel
theorem dX2_write_93 : decode cX2_write 93 = .ok (.invokevirtual 56, 3) := by decide +kernel
theorem dX2_write_96 : decode cX2_write 96 = .ok (.goto 11, 3) := by decide +kernel
theorem dX2_write_99 : decode cX2_write 99 = .ok (.aload_n 0, 1) := by decide +kernel
theorem dX2_write_100 : decode cX2_write 100 = .ok (.iload_n 1, 1) := by decide +kernel
theorem dX2_write_101 : decode cX2_write 101 = .ok (.lload_n 2, 1) := by decide +kernel
theorem dX2_write_102 : decode cX2_write 102 = .ok (.iload 4, 2) := by decide +kernel
theorem dX2_write_104 : decode cX2_write 104 = .ok (.invokevirtual 52, 3) := by decide +kernel
theorem dX2_write_107 : decode cX2_write 107 = .ok (.return_, 1) := by decide +kernel
theorem dX2_writeMark_0 : decode cX2_writeMark 0 = .ok (.aload_n 0, 1) := by decide +kernel
theorem dX2_writeMark_1 : decode cX2_writeMark 1 = .ok (.getfield 15, 3) := by decide +kernel
theorem dX2_writeMark_4 : decode cX2_writeMark 4 = .ok (.iconst 4, 1) := by decide +kernel
theorem dX2_writeMark_5 : decode cX2_writeMark 5 = .ok (.if_icmp .ne 7, 3) := by decide +kernel
theorem dX2_writeMark_8 : decode cX2_writeMark 8 = .ok (.iconst 1, 1) := by decide +kernel
theorem dX2_writeMark_9 : decode cX2_writeMark 9 = .ok (.goto 4, 3) := by decide +kernel
theorem dX2_writeMark_12 : decode cX2_writeMark 12 = .ok (.iconst 0, 1) := by decide +kernel
theorem dX2_writeMark_13 : decode cX2_writeMark 13 = .ok (.istore_n 3, 1) := by decide +kernel
theorem dX2_writeMark_14 : decode cX2_writeMark 14 = .ok (.iload_n 2, 1) := by decide +kernel
theorem dX2_writeMark_15 : decode cX2_writeMark 15 = .ok (.tableswitch 108 0 4 #[33, 42, 51, 60, 69], 33) := by decide +kernel
theorem dX2_writeMark_48 : decode cX2_writeMark 48 = .ok (.aload_n 0, 1) := by decide +kernel
theorem dX2_writeMark_49 : decode cX2_writeMark 49 = .ok (.iload_n 1, 1) := by decide +kernel
theorem dX2_writeMark_50 : decode cX2_writeMark 50 = .ok (.iconst 1, 1) := by decide +kernel
theorem dX2_writeMark_51 : decode cX2_writeMark 51 = .ok (.invokevirtual 59, 3) := by decide +kernel
theorem dX2_writeMark_54 : decode cX2_writeMark 54 = .ok (.goto 88, 3) := by decide +kernel
theorem dX2_writeMark_57 : decode cX2_writeMark 57 = .ok (.aload_n 0, 1) := by decide +kernel
theorem dX2_writeMark_58 : decode cX2_writeMark 58 = .ok (.iload_n 1, 1) := by decide +kernel
theorem dX2_writeMark_59 : decode cX2_writeMark 59 = .ok (.iconst 2, 1) := by decide +kernel
theorem dX2_writeMark_60 : decode cX2_writeMark 60 = .ok (.invokevirtual 59, 3) := by decide +kernel
theorem dX2_writeMark_63 : decode cX2_writeMark 63 = .ok (.goto 79, 3) := by decide +kernel
theorem dX2_writeMark_66 : decode cX2_writeMark 66 = .ok (.aload_n 0, 1) := by decide +kernel
theorem dX2_writeMark_67 : decode cX2_writeMark 67 = .ok (.iload_n 1, 1) := by decide +kernel
theorem dX2_writeMark_68 : decode cX2_writeMark 68 = .ok (.iconst 3, 1) := by decide +kernel
theorem dX2_writeMark_69 : decode cX2_writeMark 69 = .ok (.invokevirtual 59, 3) := by decide +kernel
theorem dX2_writeMark_72 : decode cX2_writeMark 72 = .ok (.goto 70, 3) := by decide +kernel
theorem dX2_writeMark_75 : decode cX2_writeMark 75 = .ok (.aload_n 0, 1) := by decide +kernel
theorem dX2_writeMark_76 : decode cX2_writeMark 76 = .ok (.iload_n 1, 1) := by decide +kernel
theorem dX2_writeMark_77 : decode cX2_writeMark 77 = .ok (.iconst 4, 1) := by decide +kernel
theorem dX2_writeMark_78 : decode cX2_writeMark 78 = .ok (.invokevirtual 59, 3) := by decide +kernel
theorem dX2_writeMark_81 : decode cX2_writeMark 81 = .ok (.goto 61, 3) := by decide +kernel
theorem dX2_writeMark_84 : decode cX2_writeMark 84 = .ok (.lconst 1, 1) := by decide +kernel
theorem dX2_writeMark_85 : decode cX2_writeMark 85 = .ok (.iload_n 3, 1) := by decide +kernel
theorem dX2_writeMark_86 : decode cX2_writeMark 86 = .ok (.ifCond .eq 8, 3) := by decide +kernel
theorem dX2_writeMark_89 : decode cX2_writeMark 89 = .ok (.bipush 24, 2) := by decide +kernel
theorem dX2_writeMark_91 : decode cX2_writeMark 91 = .ok (.goto 5, 3) := by decide +kernel
theorem dX2_writeMark_94 : decode cX2_writeMark 94 = .ok (.bipush 53, 2) := by decide +kernel
theorem dX2_writeMark_96 : decode cX2_writeMark 96 = .ok (.lshl, 1) := by decide +kernel
theorem dX2_writeMark_97 : decode cX2_writeMark 97 = .ok (.lconst 1, 1) := by decide +kernel
theorem dX2_writeMark_98 : decode cX2_writeMark 98 = .ok (.lsub, 1) := by decide +kernel
theorem dX2_writeMark_99 : decode cX2_writeMark 99 = .ok (.lstore 4, 2) := by decide +kernel
theorem dX2_writeMark_101 : decode cX2_writeMark 101 = .ok (.aload_n 0, 1) := by decide +kernel
theorem dX2_writeMark_102 : decode cX2_writeMark 102 = .ok (.iload_n 1, 1) := by decide +kernel
theorem dX2_writeMark_103 : decode cX2_writeMark 103 = .ok (.lload 4, 2) := by decide +kernel
theorem dX2_writeMark_105 : decode cX2_writeMark 105 = .ok (.iload_n 3, 1) := by decide +kernel
theorem dX2_writeMark_106 : decode cX2_writeMark 106 = .ok (.ifCond .eq 8, 3) := by decide +kernel
theorem dX2_writeMark_109 : decode cX2_writeMark 109 = .ok (.bipush 104, 2) := by decide +kernel
theorem dX2_writeMark_111 : decode cX2_writeMark 111 = .ok (.goto 6, 3) := by decide +kernel
theorem dX2_writeMark_114 : decode cX2_writeMark 114 = .ok (.sipush 971, 3) := by decide +kernel
theorem dX2_writeMark_117 : decode cX2_writeMark 117 = .ok (.invokevirtual 52, 3) := by decide +kernel
theorem dX2_writeMark_120 : decode cX2_writeMark 120 = .ok (.goto 22, 3) := by decide +kernel
theorem dX2_writeMark_123 : decode cX2_writeMark 123 = .ok (.aload_n 0, 1) := by decide +kernel
theorem dX2_writeMark_124 : decode cX2_writeMark 124 = .ok (.iload_n 1, 1) := by decide +kernel
theorem dX2_writeMark_125 : decode cX2_writeMark 125 = .ok (.lconst 1, 1) := by decide +kernel
theorem dX2_writeMark_126 : decode cX2_writeMark 126 = .ok (.iload_n 3, 1) := by decide +kernel
theorem dX2_writeMark_127 : decode cX2_writeMark 127 = .ok (.ifCond .eq 9, 3) := by decide +kernel
theorem dX2_writeMark_130 : decode cX2_writeMark 130 = .ok (.sipush (-149), 3) := by decide +kernel
theorem dX2_writeMark_133 : decode cX2_writeMark 133 = .ok (.goto 6, 3) := by decide +kernel
theorem dX2_writeMark_136 : decode cX2_writeMark 136 = .ok (.sipush (-1074), 3) := by decide +kernel
theorem dX2_writeMark_139 : decode cX2_writeMark 139 = .ok (.invokevirtual 52, 3) := by decide +kernel
theorem dX2_writeMark_142 : decode cX2_writeMark 142 = .ok (.return_, 1) := by decide +kernel
theorem dX2_writeAll_0 : decode cX2_writeAll 0 = .ok (.aload_n 1, 1) := by decide +kernel
theorem dX2_writeAll_1 : decode cX2_writeAll 1 = .ok (.getfield 22, 3) := by decide +kernel
theorem dX2_writeAll_4 : decode cX2_writeAll 4 = .ok (.iload_n 2, 1) := by decide +kernel
theorem dX2_writeAll_5 : decode cX2_writeAll 5 = .ok (.aload_n 0, 1) := by decide +kernel
theorem dX2_writeAll_6 : decode cX2_writeAll 6 = .ok (.getfield 22, 3) := by decide +kernel
theorem dX2_writeAll_9 : decode cX2_writeAll 9 = .ok (.iload_n 3, 1) := by decide +kernel
theorem dX2_writeAll_10 : decode cX2_writeAll 10 = .ok (.iload 4, 2) := by decide +kernel
theorem dX2_writeAll_12 : decode cX2_writeAll 12 = .ok (.invokestatic 63, 3) := by decide +kernel
theorem dX2_writeAll_15 : decode cX2_writeAll 15 = .ok (.aload_n 1, 1) := by decide +kernel
theorem dX2_writeAll_16 : decode cX2_writeAll 16 = .ok (.getfield 26, 3) := by decide +kernel
theorem dX2_writeAll_19 : decode cX2_writeAll 19 = .ok (.iload_n 2, 1) := by decide +kernel
theorem dX2_writeAll_20 : decode cX2_writeAll 20 = .ok (.aload_n 0, 1) := by decide +kernel
theorem dX2_writeAll_21 : decode cX2_writeAll 21 = .ok (.getfield 26, 3) := by decide +kernel
theorem dX2_writeAll_24 : decode cX2_writeAll 24 = .ok (.iload_n 3, 1) := by decide +kernel
theorem dX2_writeAll_25 : decode cX2_writeAll 25 = .ok (.iload 4, 2) := by decide +kernel
theorem dX2_writeAll_27 : decode cX2_writeAll 27 = .ok (.invokestatic 63, 3) := by decide +kernel
theorem dX2_writeAll_30 : decode cX2_writeAll 30 = .ok (.aload_n 1, 1) := by decide +kernel
theorem dX2_writeAll_31 : decode cX2_writeAll 31 = .ok (.getfield 30, 3) := by decide +kernel
theorem dX2_writeAll_34 : decode cX2_writeAll 34 = .ok (.iload_n 2, 1) := by decide +kernel
theorem dX2_writeAll_35 : decode cX2_writeAll 35 = .ok (.aload_n 0, 1) := by decide +kernel
theorem dX2_writeAll_36 : decode cX2_writeAll 36 = .ok (.getfield 30, 3) := by decide +kernel
theorem dX2_writeAll_39 : decode cX2_writeAll 39 = .ok (.iload_n 3, 1) := by decide +kernel
theorem dX2_writeAll_40 : decode cX2_writeAll 40 = .ok (.iload 4, 2) := by decide +kernel
theorem dX2_writeAll_42 : decode cX2_writeAll 42 = .ok (.invokestatic 63, 3) := by decide +kernel
theorem dX2_writeAll_45 : decode cX2_writeAll 45 = .ok (.return_, 1) := by decide +kernel
theorem dX2_writeDouble_0 : decode cX2_writeDouble 0 = .ok (.dload_n 2, 1) := by decide +kernel
theorem dX2_writeDouble_1 : decode cX2_writeDouble 1 = .ok (.dconst 0, 1) := by decide +kernel
theorem dX2_writeDouble_2 : decode cX2_writeDouble 2 = .ok (.dcmp .g, 1) := by decide +kernel
theorem dX2_writeDouble_3 : decode cX2_writeDouble 3 = .ok (.ifCond .ge 8, 3) := by decide +kernel
theorem dX2_writeDouble_6 : decode cX2_writeDouble 6 = .ok (.dload_n 2, 1) := by decide +kernel
theorem dX2_writeDouble_7 : decode cX2_writeDouble 7 = .ok (.dneg, 1) := by decide +kernel
theorem dX2_writeDouble_8 : decode cX2_writeDouble 8 = .ok (.goto 4, 3) := by decide +kernel
theorem dX2_writeDouble_11 : decode cX2_writeDouble 11 = .ok (.dload_n 2, 1) := by decide +kernel
theorem dX2_writeDouble_12 : decode cX2_writeDouble 12 = .ok (.dstore 4, 2) := by decide +kernel
theorem dX2_writeDouble_14 : decode cX2_writeDouble 14 = .ok (.dload 4, 2) := by decide +kernel
theorem dX2_writeDouble_16 : decode cX2_writeDouble 16 = .ok (.iconst 0, 1) := by decide +kernel
theorem dX2_writeDouble_17 : decode cX2_writeDouble 17 = .ok (.invokestatic 69, 3) := by decide +kernel
theorem dX2_writeDouble_20 : decode cX2_writeDouble 20 = .ok (.dcmp .l, 1) := by decide +kernel
theorem dX2_writeDouble_21 : decode cX2_writeDouble 21 = .ok (.ifCond .le 20, 3) := by decide +kernel
theorem dX2_writeDouble_24 : decode cX2_writeDouble 24 = .ok (.aload_n 0, 1) := by decide +kernel
theorem dX2_writeDouble_25 : decode cX2_writeDouble 25 = .ok (.iload_n 1, 1) := by decide +kernel
theorem dX2_writeDouble_26 : decode cX2_writeDouble 26 = .ok (.dload_n 2, 1) := by decide +kernel
theorem dX2_writeDouble_27 : decode cX2_writeDouble 27 = .ok (.dconst 0, 1) := by decide +kernel
theorem dX2_writeDouble_28 : decode cX2_writeDouble 28 = .ok (.dcmp .g, 1) := by decide +kernel
theorem dX2_writeDouble_29 : decode cX2_writeDouble 29 = .ok (.ifCond .ge 7, 3) := by decide +kernel
theorem dX2_writeDouble_32 : decode cX2_writeDouble 32 = .ok (.iconst 2, 1) := by decide +kernel
theorem dX2_writeDouble_33 : decode cX2_writeDouble 33 = .ok (.goto 4, 3) := by decide +kernel
theorem dX2_writeDouble_36 : decode cX2_writeDouble 36 = .ok (.iconst 1, 1) := by decide +kernel
theorem dX2_writeDouble_37 : decode cX2_writeDouble 37 = .ok (.invokevirtual 59, 3) := by decide +kernel
theorem dX2_writeDouble_40 : decode cX2_writeDouble 40 = .ok (.return_, 1) := by decide +kernel
theorem dX2_writeDouble_41 : decode cX2_writeDouble 41 = .ok (.dload 4, 2) := by decide +kernel
theorem dX2_writeDouble_43 : decode cX2_writeDouble 43 = .ok (.dconst 0, 1) := by decide +kernel
theorem dX2_writeDouble_44 : decode cX2_writeDouble 44 = .ok (.dcmp .l, 1) := by decide +kernel
theorem dX2_writeDouble_45 : decode cX2_writeDouble 45 = .ok (.ifCond .ne 11, 3) := by decide +kernel
theorem dX2_writeDouble_48 : decode cX2_writeDouble 48 = .ok (.aload_n 0, 1) := by decide +kernel
theorem dX2_writeDouble_49 : decode cX2_writeDouble 49 = .ok (.iload_n 1, 1) := by decide +kernel
theorem dX2_writeDouble_50 : decode cX2_writeDouble 50 = .ok (.lconst 0, 1) := by decide +kernel
theorem dX2_writeDouble_51 : decode cX2_writeDouble 51 = .ok (.iconst 0, 1) := by decide +kernel
theorem dX2_writeDouble_52 : decode cX2_writeDouble 52 = .ok (.invokevirtual 52, 3) := by decide +kernel
theorem dX2_writeDouble_55 : decode cX2_writeDouble 55 = .ok (.return_, 1) := by decide +kernel
theorem dX2_writeDouble_56 : decode cX2_writeDouble 56 = .ok (.dload 4, 2) := by decide +kernel
theorem dX2_writeDouble_58 : decode cX2_writeDouble 58 = .ok (.invokestatic 73, 3) := by decide +kernel
theorem dX2_writeDouble_61 : decode cX2_writeDouble 61 = .ok (.bipush 53, 2) := by decide +kernel
theorem dX2_writeDouble_63 : decode cX2_writeDouble 63 = .ok (.isub, 1) := by decide +kernel
theorem dX2_writeDouble_64 : decode cX2_writeDouble 64 = .ok (.iconst 1, 1) := by decide +kernel
theorem dX2_writeDouble_65 : decode cX2_writeDouble 65 = .ok (.iadd, 1) := by decide +kernel
theorem dX2_writeDouble_66 : decode cX2_writeDouble 66 = .ok (.sipush (-1074), 3) := by decide +kernel
theorem dX2_writeDouble_69 : decode cX2_writeDouble 69 = .ok (.invokestatic 77, 3) := by decide +kernel
theorem dX2_writeDouble_72 : decode cX2_writeDouble 72 = .ok (.istore 6, 2) := by decide +kernel
theorem dX2_writeDouble_74 : decode cX2_writeDouble 74 = .ok (.dload 4, 2) := by decide +kernel
theorem dX2_writeDouble_76 : decode cX2_writeDouble 76 = .ok (.iload 6, 2) := by decide +kernel
theorem dX2_writeDouble_78 : decode cX2_writeDouble 78 = .ok (.invokestatic 48, 3) := by decide +kernel
theorem dX2_writeDouble_81 : decode cX2_writeDouble 81 = .ok (.ddiv, 1) := by decide +kernel
theorem dX2_writeDouble_82 : decode cX2_writeDouble 82 = .ok (.d2l, 1) := by decide +kernel
theorem dX2_writeDouble_83 : decode cX2_writeDouble 83 = .ok (.lstore 7, 2) := by decide +kernel
theorem dX2_writeDouble_85 : decode cX2_writeDouble 85 = .ok (.aload_n 0, 1) := by decide +kernel
theorem dX2_writeDouble_86 : decode cX2_writeDouble 86 = .ok (.iload_n 1, 1) := by decide +kernel
theorem dX2_writeDouble_87 : decode cX2_writeDouble 87 = .ok (.dload_n 2, 1) := by decide +kernel
theorem dX2_writeDouble_88 : decode cX2_writeDouble 88 = .ok (.dconst 0, 1) := by decide +kernel
theorem dX2_writeDouble_89 : decode cX2_writeDouble 89 = .ok (.dcmp .g, 1) := by decide +kernel
theorem dX2_writeDouble_90 : decode cX2_writeDouble 90 = .ok (.ifCond .ge 9, 3) := by decide +kernel
theorem dX2_writeDouble_93 : decode cX2_writeDouble 93 = .ok (.lload 7, 2) := by decide +kernel
theorem dX2_writeDouble_95 : decode cX2_writeDouble 95 = .ok (.lneg, 1) := by decide +kernel
theorem dX2_writeDouble_96 : decode cX2_writeDouble 96 = .ok (.goto 5, 3) := by decide +kernel
theorem dX2_writeDouble_99 : decode cX2_writeDouble 99 = .ok (.lload 7, 2) := by decide +kernel
theorem dX2_writeDouble_101 : decode cX2_writeDouble 101 = .ok (.iload 6, 2) := by decide +kernel
theorem dX2_writeDouble_103 : decode cX2_writeDouble 103 = .ok (.invokevirtual 52, 3) := by decide +kernel
theorem dX2_writeDouble_106 : decode cX2_writeDouble 106 = .ok (.return_, 1) := by decide +kernel
theorem dX2_summedPlainly_0 : decode cX2_summedPlainly 0 = .ok (.dconst 0, 1) := by decide +kernel
theorem dX2_summedPlainly_1 : decode cX2_summedPlainly 1 = .ok (.dstore_n 3, 1) := by decide +kernel
theorem dX2_summedPlainly_2 : decode cX2_summedPlainly 2 = .ok (.iload_n 1, 1) := by decide +kernel
theorem dX2_summedPlainly_3 : decode cX2_summedPlainly 3 = .ok (.istore 5, 2) := by decide +kernel
theorem dX2_summedPlainly_5 : decode cX2_summedPlainly 5 = .ok (.iload 5, 2) := by decide +kernel
theorem dX2_summedPlainly_7 : decode cX2_summedPlainly 7 = .ok (.iload_n 1, 1) := by decide +kernel
theorem dX2_summedPlainly_8 : decode cX2_summedPlainly 8 = .ok (.iload_n 2, 1) := by decide +kernel
theorem dX2_summedPlainly_9 : decode cX2_summedPlainly 9 = .ok (.iadd, 1) := by decide +kernel
theorem dX2_summedPlainly_10 : decode cX2_summedPlainly 10 = .ok (.if_icmp .ge 44, 3) := by decide +kernel
theorem dX2_summedPlainly_13 : decode cX2_summedPlainly 13 = .ok (.aload_n 0, 1) := by decide +kernel
theorem dX2_summedPlainly_14 : decode cX2_summedPlainly 14 = .ok (.iload 5, 2) := by decide +kernel
theorem dX2_summedPlainly_16 : decode cX2_summedPlainly 16 = .ok (.invokevirtual 83, 3) := by decide +kernel
theorem dX2_summedPlainly_19 : decode cX2_summedPlainly 19 = .ok (.dstore 6, 2) := by decide +kernel
theorem dX2_summedPlainly_21 : decode cX2_summedPlainly 21 = .ok (.aload_n 0, 1) := by decide +kernel
theorem dX2_summedPlainly_22 : decode cX2_summedPlainly 22 = .ok (.getfield 30, 3) := by decide +kernel
theorem dX2_summedPlainly_25 : decode cX2_summedPlainly 25 = .ok (.iload 5, 2) := by decide +kernel
theorem dX2_summedPlainly_27 : decode cX2_summedPlainly 27 = .ok (.iaload, 1) := by decide +kernel
theorem dX2_summedPlainly_28 : decode cX2_summedPlainly 28 = .ok (.iconst 3, 1) := by decide +kernel
theorem dX2_summedPlainly_29 : decode cX2_summedPlainly 29 = .ok (.if_icmp .eq 12, 3) := by decide +kernel
theorem dX2_summedPlainly_32 : decode cX2_summedPlainly 32 = .ok (.dload_n 3, 1) := by decide +kernel
theorem dX2_summedPlainly_33 : decode cX2_summedPlainly 33 = .ok (.dload 6, 2) := by decide +kernel
theorem dX2_summedPlainly_35 : decode cX2_summedPlainly 35 = .ok (.invokestatic 86, 3) := by decide +kernel
theorem dX2_summedPlainly_38 : decode cX2_summedPlainly 38 = .ok (.ifCond .eq 5, 3) := by decide +kernel
theorem dX2_summedPlainly_41 : decode cX2_summedPlainly 41 = .ok (.dconst 0, 1) := by decide +kernel
theorem dX2_summedPlainly_42 : decode cX2_summedPlainly 42 = .ok (.dreturn, 1) := by decide +kernel
theorem dX2_summedPlainly_43 : decode cX2_summedPlainly 43 = .ok (.dload_n 3, 1) := by decide +kernel
theorem dX2_summedPlainly_44 : decode cX2_summedPlainly 44 = .ok (.dload 6, 2) := by decide +kernel
theorem dX2_summedPlainly_46 : decode cX2_summedPlainly 46 = .ok (.dadd, 1) := by decide +kernel
theorem dX2_summedPlainly_47 : decode cX2_summedPlainly 47 = .ok (.dstore_n 3, 1) := by decide +kernel
theorem dX2_summedPlainly_48 : decode cX2_summedPlainly 48 = .ok (.iinc 5 1, 3) := by decide +kernel
theorem dX2_summedPlainly_51 : decode cX2_summedPlainly 51 = .ok (.goto (-46), 3) := by decide +kernel
theorem dX2_summedPlainly_54 : decode cX2_summedPlainly 54 = .ok (.dload_n 3, 1) := by decide +kernel
theorem dX2_summedPlainly_55 : decode cX2_summedPlainly 55 = .ok (.dreturn, 1) := by decide +kernel
theorem dX2_areOpposedEndless_0 : decode cX2_areOpposedEndless 0 = .ok (.iconst 0, 1) := by decide +kernel
theorem dX2_areOpposedEndless_1 : decode cX2_areOpposedEndless 1 = .ok (.invokestatic 69, 3) := by decide +kernel
theorem dX2_areOpposedEndless_4 : decode cX2_areOpposedEndless 4 = .ok (.dstore 4, 2) := by decide +kernel
theorem dX2_areOpposedEndless_6 : decode cX2_areOpposedEndless 6 = .ok (.dload_n 0, 1) := by decide +kernel
theorem dX2_areOpposedEndless_7 : decode cX2_areOpposedEndless 7 = .ok (.dload 4, 2) := by decide +kernel
theorem dX2_areOpposedEndless_9 : decode cX2_areOpposedEndless 9 = .ok (.dcmp .l, 1) := by decide +kernel
theorem dX2_areOpposedEndless_10 : decode cX2_areOpposedEndless 10 = .ok (.ifCond .le 11, 3) := by decide +kernel
theorem dX2_areOpposedEndless_13 : decode cX2_areOpposedEndless 13 = .ok (.dload_n 2, 1) := by decide +kernel
theorem dX2_areOpposedEndless_14 : decode cX2_areOpposedEndless 14 = .ok (.dload 4, 2) := by decide +kernel
theorem dX2_areOpposedEndless_16 : decode cX2_areOpposedEndless 16 = .ok (.dneg, 1) := by decide +kernel
theorem dX2_areOpposedEndless_17 : decode cX2_areOpposedEndless 17 = .ok (.dcmp .g, 1) := by decide +kernel
theorem dX2_areOpposedEndless_18 : decode cX2_areOpposedEndless 18 = .ok (.ifCond .lt 18, 3) := by decide +kernel
theorem dX2_areOpposedEndless_21 : decode cX2_areOpposedEndless 21 = .ok (.dload_n 0, 1) := by decide +kernel
theorem dX2_areOpposedEndless_22 : decode cX2_areOpposedEndless 22 = .ok (.dload 4, 2) := by decide +kernel
theorem dX2_areOpposedEndless_24 : decode cX2_areOpposedEndless 24 = .ok (.dneg, 1) := by decide +kernel
theorem dX2_areOpposedEndless_25 : decode cX2_areOpposedEndless 25 = .ok (.dcmp .g, 1) := by decide +kernel
theorem dX2_areOpposedEndless_26 : decode cX2_areOpposedEndless 26 = .ok (.ifCond .ge 14, 3) := by decide +kernel
theorem dX2_areOpposedEndless_29 : decode cX2_areOpposedEndless 29 = .ok (.dload_n 2, 1) := by decide +kernel
theorem dX2_areOpposedEndless_30 : decode cX2_areOpposedEndless 30 = .ok (.dload 4, 2) := by decide +kernel
theorem dX2_areOpposedEndless_32 : decode cX2_areOpposedEndless 32 = .ok (.dcmp .l, 1) := by decide +kernel
theorem dX2_areOpposedEndless_33 : decode cX2_areOpposedEndless 33 = .ok (.ifCond .le 7, 3) := by decide +kernel
theorem dX2_areOpposedEndless_36 : decode cX2_areOpposedEndless 36 = .ok (.iconst 1, 1) := by decide +kernel
theorem dX2_areOpposedEndless_37 : decode cX2_areOpposedEndless 37 = .ok (.goto 4, 3) := by decide +kernel
theorem dX2_areOpposedEndless_40 : decode cX2_areOpposedEndless 40 = .ok (.iconst 0, 1) := by decide +kernel
theorem dX2_areOpposedEndless_41 : decode cX2_areOpposedEndless 41 = .ok (.ireturn, 1) := by decide +kernel
theorem dX2_topPower_0 : decode cX2_topPower 0 = .ok (.sipush (-1074), 3) := by decide +kernel
theorem dX2_topPower_3 : decode cX2_topPower 3 = .ok (.istore_n 2, 1) := by decide +kernel
theorem dX2_topPower_4 : decode cX2_topPower 4 = .ok (.sipush 2048, 3) := by decide +kernel
theorem dX2_topPower_7 : decode cX2_topPower 7 = .ok (.istore_n 3, 1) := by decide +kernel
theorem dX2_topPower_8 : decode cX2_topPower 8 = .ok (.iload_n 3, 1) := by decide +kernel
theorem dX2_topPower_9 : decode cX2_topPower 9 = .ok (.ifCond .le 36, 3) := by decide +kernel
theorem dX2_topPower_12 : decode cX2_topPower 12 = .ok (.iload_n 2, 1) := by decide +kernel
theorem dX2_topPower_13 : decode cX2_topPower 13 = .ok (.iload_n 3, 1) := by decide +kernel
theorem dX2_topPower_14 : decode cX2_topPower 14 = .ok (.iadd, 1) := by decide +kernel
theorem dX2_topPower_15 : decode cX2_topPower 15 = .ok (.istore 4, 2) := by decide +kernel
theorem dX2_topPower_17 : decode cX2_topPower 17 = .ok (.iload 4, 2) := by decide +kernel
theorem dX2_topPower_19 : decode cX2_topPower 19 = .ok (.sipush 1024, 3) := by decide +kernel
theorem dX2_topPower_22 : decode cX2_topPower 22 = .ok (.if_icmp .ge 16, 3) := by decide +kernel
theorem dX2_topPower_25 : decode cX2_topPower 25 = .ok (.dload_n 0, 1) := by decide +kernel
theorem dX2_topPower_26 : decode cX2_topPower 26 = .ok (.iload 4, 2) := by decide +kernel
theorem dX2_topPower_28 : decode cX2_topPower 28 = .ok (.invokestatic 48, 3) := by decide +kernel
theorem dX2_topPower_31 : decode cX2_topPower 31 = .ok (.dcmp .l, 1) := by decide +kernel
theorem dX2_topPower_32 : decode cX2_topPower 32 = .ok (.ifCond .lt 6, 3) := by decide +kernel
theorem dX2_topPower_35 : decode cX2_topPower 35 = .ok (.iload 4, 2) := by decide +kernel
theorem dX2_topPower_37 : decode cX2_topPower 37 = .ok (.istore_n 2, 1) := by decide +kernel
theorem dX2_topPower_38 : decode cX2_topPower 38 = .ok (.iload_n 3, 1) := by decide +kernel
theorem dX2_topPower_39 : decode cX2_topPower 39 = .ok (.iconst 1, 1) := by decide +kernel
theorem dX2_topPower_40 : decode cX2_topPower 40 = .ok (.ishr, 1) := by decide +kernel
theorem dX2_topPower_41 : decode cX2_topPower 41 = .ok (.istore_n 3, 1) := by decide +kernel
theorem dX2_topPower_42 : decode cX2_topPower 42 = .ok (.goto (-34), 3) := by decide +kernel
theorem dX2_topPower_45 : decode cX2_topPower 45 = .ok (.iload_n 2, 1) := by decide +kernel
theorem dX2_topPower_46 : decode cX2_topPower 46 = .ok (.ireturn, 1) := by decide +kernel
theorem dX2_writeFloat_0 : decode cX2_writeFloat 0 = .ok (.lload_n 2, 1) := by decide +kernel
theorem dX2_writeFloat_1 : decode cX2_writeFloat 1 = .ok (.invokestatic 90, 3) := by decide +kernel
theorem dX2_writeFloat_4 : decode cX2_writeFloat 4 = .ok (.lstore 5, 2) := by decide +kernel
theorem dX2_writeFloat_6 : decode cX2_writeFloat 6 = .ok (.iload 4, 2) := by decide +kernel
theorem dX2_writeFloat_8 : decode cX2_writeFloat 8 = .ok (.lload 5, 2) := by decide +kernel
theorem dX2_writeFloat_10 : decode cX2_writeFloat 10 = .ok (.invokestatic 94, 3) := by decide +kernel
theorem dX2_writeFloat_13 : decode cX2_writeFloat 13 = .ok (.iload 4, 2) := by decide +kernel
theorem dX2_writeFloat_15 : decode cX2_writeFloat 15 = .ok (.iadd, 1) := by decide +kernel
theorem dX2_writeFloat_16 : decode cX2_writeFloat 16 = .ok (.bipush 24, 2) := by decide +kernel
theorem dX2_writeFloat_18 : decode cX2_writeFloat 18 = .ok (.isub, 1) := by decide +kernel
theorem dX2_writeFloat_19 : decode cX2_writeFloat 19 = .ok (.sipush (-149), 3) := by decide +kernel
theorem dX2_writeFloat_22 : decode cX2_writeFloat 22 = .ok (.invokestatic 77, 3) := by decide +kernel
theorem dX2_writeFloat_25 : decode cX2_writeFloat 25 = .ok (.invokestatic 77, 3) := by decide +kernel
theorem dX2_writeFloat_28 : decode cX2_writeFloat 28 = .ok (.istore 7, 2) := by decide +kernel
theorem dX2_writeFloat_30 : decode cX2_writeFloat 30 = .ok (.lload 5, 2) := by decide +kernel
theorem dX2_writeFloat_32 : decode cX2_writeFloat 32 = .ok (.iload 7, 2) := by decide +kernel
theorem dX2_writeFloat_34 : decode cX2_writeFloat 34 = .ok (.iload 4, 2) := by decide +kernel
theorem dX2_writeFloat_36 : decode cX2_writeFloat 36 = .ok (.isub, 1) := by decide +kernel
theorem dX2_writeFloat_37 : decode cX2_writeFloat 37 = .ok (.invokestatic 98, 3) := by decide +kernel
theorem dX2_writeFloat_40 : decode cX2_writeFloat 40 = .ok (.lstore 8, 2) := by decide +kernel
theorem dX2_writeFloat_42 : decode cX2_writeFloat 42 = .ok (.lload 8, 2) := by decide +kernel
theorem dX2_writeFloat_44 : decode cX2_writeFloat 44 = .ok (.lconst 0, 1) := by decide +kernel
theorem dX2_writeFloat_45 : decode cX2_writeFloat 45 = .ok (.lcmp, 1) := by decide +kernel
theorem dX2_writeFloat_46 : decode cX2_writeFloat 46 = .ok (.ifCond .ne 22, 3) := by decide +kernel
theorem dX2_writeFloat_49 : decode cX2_writeFloat 49 = .ok (.aload_n 0, 1) := by decide +kernel
theorem dX2_writeFloat_50 : decode cX2_writeFloat 50 = .ok (.iload_n 1, 1) := by decide +kernel
theorem dX2_writeFloat_51 : decode cX2_writeFloat 51 = .ok (.lload_n 2, 1) := by decide +kernel
theorem dX2_writeFloat_52 : decode cX2_writeFloat 52 = .ok (.lconst 0, 1) := by decide +kernel
theorem dX2_writeFloat_53 : decode cX2_writeFloat 53 = .ok (.lcmp, 1) := by decide +kernel
theorem dX2_writeFloat_54 : decode cX2_writeFloat 54 = .ok (.ifCond .ge 7, 3) := by decide +kernel
theorem dX2_writeFloat_57 : decode cX2_writeFloat 57 = .ok (.iconst 4, 1) := by decide +kernel
theorem dX2_writeFloat_58 : decode cX2_writeFloat 58 = .ok (.goto 4, 3) := by decide +kernel
theorem dX2_writeFloat_61 : decode cX2_writeFloat 61 = .ok (.iconst 0, 1) := by decide +kernel
theorem dX2_writeFloat_62 : decode cX2_writeFloat 62 = .ok (.invokevirtual 59, 3) := by decide +kernel
theorem dX2_writeFloat_65 : decode cX2_writeFloat 65 = .ok (.goto 57, 3) := by decide +kernel
theorem dX2_writeFloat_68 : decode cX2_writeFloat 68 = .ok (.lload 8, 2) := by decide +kernel
theorem dX2_writeFloat_70 : decode cX2_writeFloat 70 = .ok (.invokestatic 94, 3) := by decide +kernel
theorem dX2_writeFloat_73 : decode cX2_writeFloat 73 = .ok (.iload 7, 2) := by decide +kernel
theorem dX2_writeFloat_75 : decode cX2_writeFloat 75 = .ok (.iadd, 1) := by decide +kernel
theorem dX2_writeFloat_76 : decode cX2_writeFloat 76 = .ok (.sipush 128, 3) := by decide +kernel
theorem dX2_writeFloat_79 : decode cX2_writeFloat 79 = .ok (.if_icmp .le 22, 3) := by decide +kernel
theorem dX2_writeFloat_82 : decode cX2_writeFloat 82 = .ok (.aload_n 0, 1) := by decide +kernel
theorem dX2_writeFloat_83 : decode cX2_writeFloat 83 = .ok (.iload_n 1, 1) := by decide +kernel
theorem dX2_writeFloat_84 : decode cX2_writeFloat 84 = .ok (.lload_n 2, 1) := by decide +kernel
theorem dX2_writeFloat_85 : decode cX2_writeFloat 85 = .ok (.lconst 0, 1) := by decide +kernel
theorem dX2_writeFloat_86 : decode cX2_writeFloat 86 = .ok (.lcmp, 1) := by decide +kernel
theorem dX2_writeFloat_87 : decode cX2_writeFloat 87 = .ok (.ifCond .ge 7, 3) := by decide +kernel
theorem dX2_writeFloat_90 : decode cX2_writeFloat 90 = .ok (.iconst 2, 1) := by decide +kernel
theorem dX2_writeFloat_91 : decode cX2_writeFloat 91 = .ok (.goto 4, 3) := by decide +kernel
theorem dX2_writeFloat_94 : decode cX2_writeFloat 94 = .ok (.iconst 1, 1) := by decide +kernel
theorem dX2_writeFloat_95 : decode cX2_writeFloat 95 = .ok (.invokevirtual 59, 3) := by decide +kernel
theorem dX2_writeFloat_98 : decode cX2_writeFloat 98 = .ok (.goto 24, 3) := by decide +kernel
theorem dX2_writeFloat_101 : decode cX2_writeFloat 101 = .ok (.aload_n 0, 1) := by decide +kernel
theorem dX2_writeFloat_102 : decode cX2_writeFloat 102 = .ok (.iload_n 1, 1) := by decide +kernel
theorem dX2_writeFloat_103 : decode cX2_writeFloat 103 = .ok (.lload_n 2, 1) := by decide +kernel
theorem dX2_writeFloat_104 : decode cX2_writeFloat 104 = .ok (.lconst 0, 1) := by decide +kernel
theorem dX2_writeFloat_105 : decode cX2_writeFloat 105 = .ok (.lcmp, 1) := by decide +kernel
theorem dX2_writeFloat_106 : decode cX2_writeFloat 106 = .ok (.ifCond .ge 9, 3) := by decide +kernel
theorem dX2_writeFloat_109 : decode cX2_writeFloat 109 = .ok (.lload 8, 2) := by decide +kernel
theorem dX2_writeFloat_111 : decode cX2_writeFloat 111 = .ok (.lneg, 1) := by decide +kernel
theorem dX2_writeFloat_112 : decode cX2_writeFloat 112 = .ok (.goto 5, 3) := by decide +kernel
theorem dX2_writeFloat_115 : decode cX2_writeFloat 115 = .ok (.lload 8, 2) := by decide +kernel
theorem dX2_writeFloat_117 : decode cX2_writeFloat 117 = .ok (.iload 7, 2) := by decide +kernel
theorem dX2_writeFloat_119 : decode cX2_writeFloat 119 = .ok (.invokevirtual 52, 3) := by decide +kernel
theorem dX2_writeFloat_122 : decode cX2_writeFloat 122 = .ok (.return_, 1) := by decide +kernel
theorem dX2_withoutBits_0 : decode cX2_withoutBits 0 = .ok (.iload_n 2, 1) := by decide +kernel
theorem dX2_withoutBits_1 : decode cX2_withoutBits 1 = .ok (.ifCond .gt 5, 3) := by decide +kernel
theorem dX2_withoutBits_4 : decode cX2_withoutBits 4 = .ok (.lload_n 0, 1) := by decide +kernel
theorem dX2_withoutBits_5 : decode cX2_withoutBits 5 = .ok (.lreturn, 1) := by decide +kernel
theorem dX2_withoutBits_6 : decode cX2_withoutBits 6 = .ok (.iload_n 2, 1) := by decide +kernel
theorem dX2_withoutBits_7 : decode cX2_withoutBits 7 = .ok (.bipush 53, 2) := by decide +kernel
theorem dX2_withoutBits_9 : decode cX2_withoutBits 9 = .ok (.if_icmp .le 5, 3) := by decide +kernel
theorem dX2_withoutBits_12 : decode cX2_withoutBits 12 = .ok (.lconst 0, 1) := by decide +kernel
theorem dX2_withoutBits_13 : decode cX2_withoutBits 13 = .ok (.lreturn, 1) := by decide +kernel
theorem dX2_withoutBits_14 : decode cX2_withoutBits 14 = .ok (.lload_n 0, 1) := by decide +kernel
theorem dX2_withoutBits_15 : decode cX2_withoutBits 15 = .ok (.iload_n 2, 1) := by decide +kernel
theorem dX2_withoutBits_16 : decode cX2_withoutBits 16 = .ok (.lushr, 1) := by decide +kernel
theorem dX2_withoutBits_17 : decode cX2_withoutBits 17 = .ok (.lstore_n 3, 1) := by decide +kernel
theorem dX2_withoutBits_18 : decode cX2_withoutBits 18 = .ok (.lload_n 0, 1) := by decide +kernel
theorem dX2_withoutBits_19 : decode cX2_withoutBits 19 = .ok (.iload_n 2, 1) := by decide +kernel
theorem dX2_withoutBits_20 : decode cX2_withoutBits 20 = .ok (.iconst 1, 1) := by decide +kernel
theorem dX2_withoutBits_21 : decode cX2_withoutBits 21 = .ok (.isub, 1) := by decide +kernel
theorem dX2_withoutBits_22 : decode cX2_withoutBits 22 = .ok (.lushr, 1) := by decide +kernel
theorem dX2_withoutBits_23 : decode cX2_withoutBits 23 = .ok (.lconst 1, 1) := by decide +kernel
theorem dX2_withoutBits_24 : decode cX2_withoutBits 24 = .ok (.land, 1) := by decide +kernel
theorem dX2_withoutBits_25 : decode cX2_withoutBits 25 = .ok (.lconst 1, 1) := by decide +kernel
theorem dX2_withoutBits_26 : decode cX2_withoutBits 26 = .ok (.lcmp, 1) := by decide +kernel
theorem dX2_withoutBits_27 : decode cX2_withoutBits 27 = .ok (.ifCond .ne 7, 3) := by decide +kernel
theorem dX2_withoutBits_30 : decode cX2_withoutBits 30 = .ok (.iconst 1, 1) := by decide +kernel
theorem dX2_withoutBits_31 : decode cX2_withoutBits 31 = .ok (.goto 4, 3) := by decide +kernel
theorem dX2_withoutBits_34 : decode cX2_withoutBits 34 = .ok (.iconst 0, 1) := by decide +kernel
theorem dX2_withoutBits_35 : decode cX2_withoutBits 35 = .ok (.istore 5, 2) := by decide +kernel
theorem dX2_withoutBits_37 : decode cX2_withoutBits 37 = .ok (.lload_n 0, 1) := by decide +kernel
theorem dX2_withoutBits_38 : decode cX2_withoutBits 38 = .ok (.lconst 1, 1) := by decide +kernel
theorem dX2_withoutBits_39 : decode cX2_withoutBits 39 = .ok (.iload_n 2, 1) := by decide +kernel
theorem dX2_withoutBits_40 : decode cX2_withoutBits 40 = .ok (.iconst 1, 1) := by decide +kernel
theorem dX2_withoutBits_41 : decode cX2_withoutBits 41 = .ok (.isub, 1) := by decide +kernel
theorem dX2_withoutBits_42 : decode cX2_withoutBits 42 = .ok (.lshl, 1) := by decide +kernel
theorem dX2_withoutBits_43 : decode cX2_withoutBits 43 = .ok (.lconst 1, 1) := by decide +kernel
theorem dX2_withoutBits_44 : decode cX2_withoutBits 44 = .ok (.lsub, 1) := by decide +kernel
theorem dX2_withoutBits_45 : decode cX2_withoutBits 45 = .ok (.land, 1) := by decide +kernel
theorem dX2_withoutBits_46 : decode cX2_withoutBits 46 = .ok (.lconst 0, 1) := by decide +kernel
theorem dX2_withoutBits_47 : decode cX2_withoutBits 47 = .ok (.lcmp, 1) := by decide +kernel
theorem dX2_withoutBits_48 : decode cX2_withoutBits 48 = .ok (.ifCond .eq 7, 3) := by decide +kernel
theorem dX2_withoutBits_51 : decode cX2_withoutBits 51 = .ok (.iconst 1, 1) := by decide +kernel
theorem dX2_withoutBits_52 : decode cX2_withoutBits 52 = .ok (.goto 4, 3) := by decide +kernel
theorem dX2_withoutBits_55 : decode cX2_withoutBits 55 = .ok (.iconst 0, 1) := by decide +kernel
theorem dX2_withoutBits_56 : decode cX2_withoutBits 56 = .ok (.istore 6, 2) := by decide +kernel
theorem dX2_withoutBits_58 : decode cX2_withoutBits 58 = .ok (.lload_n 3, 1) := by decide +kernel
theorem dX2_withoutBits_59 : decode cX2_withoutBits 59 = .ok (.iload 5, 2) := by decide +kernel
theorem dX2_withoutBits_61 : decode cX2_withoutBits 61 = .ok (.iload 6, 2) := by decide +kernel
theorem dX2_withoutBits_63 : decode cX2_withoutBits 63 = .ok (.iconst 0, 1) := by decide +kernel
theorem dX2_withoutBits_64 : decode cX2_withoutBits 64 = .ok (.iconst 0, 1) := by decide +kernel
theorem dX2_withoutBits_65 : decode cX2_withoutBits 65 = .ok (.invokestatic 102, 3) := by decide +kernel
theorem dX2_withoutBits_68 : decode cX2_withoutBits 68 = .ok (.ifCond .eq 9, 3) := by decide +kernel
theorem dX2_withoutBits_71 : decode cX2_withoutBits 71 = .ok (.lload_n 3, 1) := by decide +kernel
theorem dX2_withoutBits_72 : decode cX2_withoutBits 72 = .ok (.lconst 1, 1) := by decide +kernel
theorem dX2_withoutBits_73 : decode cX2_withoutBits 73 = .ok (.ladd, 1) := by decide +kernel
theorem dX2_withoutBits_74 : decode cX2_withoutBits 74 = .ok (.goto 4, 3) := by decide +kernel
theorem dX2_withoutBits_77 : decode cX2_withoutBits 77 = .ok (.lload_n 3, 1) := by decide +kernel
theorem dX2_withoutBits_78 : decode cX2_withoutBits 78 = .ok (.lreturn, 1) := by decide +kernel
theorem dX2_writeNumber_0 : decode cX2_writeNumber 0 = .ok (.aload_n 0, 1) := by decide +kernel
theorem dX2_writeNumber_1 : decode cX2_writeNumber 1 = .ok (.getfield 22, 3) := by decide +kernel
theorem dX2_writeNumber_4 : decode cX2_writeNumber 4 = .ok (.iload_n 1, 1) := by decide +kernel
theorem dX2_writeNumber_5 : decode cX2_writeNumber 5 = .ok (.lload_n 2, 1) := by decide +kernel
theorem dX2_writeNumber_6 : decode cX2_writeNumber 6 = .ok (.lastore, 1) := by decide +kernel
theorem dX2_writeNumber_7 : decode cX2_writeNumber 7 = .ok (.aload_n 0, 1) := by decide +kernel
theorem dX2_writeNumber_8 : decode cX2_writeNumber 8 = .ok (.getfield 26, 3) := by decide +kernel
theorem dX2_writeNumber_11 : decode cX2_writeNumber 11 = .ok (.iload_n 1, 1) := by decide +kernel
theorem dX2_writeNumber_12 : decode cX2_writeNumber 12 = .ok (.iload 4, 2) := by decide +kernel
theorem dX2_writeNumber_14 : decode cX2_writeNumber 14 = .ok (.iastore, 1) := by decide +kernel
theorem dX2_writeNumber_15 : decode cX2_writeNumber 15 = .ok (.aload_n 0, 1) := by decide +kernel
theorem dX2_writeNumber_16 : decode cX2_writeNumber 16 = .ok (.getfield 30, 3) := by decide +kernel
theorem dX2_writeNumber_19 : decode cX2_writeNumber 19 = .ok (.iload_n 1, 1) := by decide +kernel
theorem dX2_writeNumber_20 : decode cX2_writeNumber 20 = .ok (.iconst 0, 1) := by decide +kernel
theorem dX2_writeNumber_21 : decode cX2_writeNumber 21 = .ok (.iastore, 1) := by decide +kernel
theorem dX2_writeNumber_22 : decode cX2_writeNumber 22 = .ok (.return_, 1) := by decide +kernel
theorem dX2_writeSort_0 : decode cX2_writeSort 0 = .ok (.aload_n 0, 1) := by decide +kernel
theorem dX2_writeSort_1 : decode cX2_writeSort 1 = .ok (.getfield 22, 3) := by decide +kernel
theorem dX2_writeSort_4 : decode cX2_writeSort 4 = .ok (.iload_n 1, 1) := by decide +kernel
theorem dX2_writeSort_5 : decode cX2_writeSort 5 = .ok (.lconst 0, 1) := by decide +kernel
theorem dX2_writeSort_6 : decode cX2_writeSort 6 = .ok (.lastore, 1) := by decide +kernel
theorem dX2_writeSort_7 : decode cX2_writeSort 7 = .ok (.aload_n 0, 1) := by decide +kernel
theorem dX2_writeSort_8 : decode cX2_writeSort 8 = .ok (.getfield 26, 3) := by decide +kernel
theorem dX2_writeSort_11 : decode cX2_writeSort 11 = .ok (.iload_n 1, 1) := by decide +kernel
theorem dX2_writeSort_12 : decode cX2_writeSort 12 = .ok (.iconst 0, 1) := by decide +kernel
theorem dX2_writeSort_13 : decode cX2_writeSort 13 = .ok (.iastore, 1) := by decide +kernel
theorem dX2_writeSort_14 : decode cX2_writeSort 14 = .ok (.aload_n 0, 1) := by decide +kernel
theorem dX2_writeSort_15 : decode cX2_writeSort 15 = .ok (.getfield 30, 3) := by decide +kernel
theorem dX2_writeSort_18 : decode cX2_writeSort 18 = .ok (.iload_n 1, 1) := by decide +kernel
theorem dX2_writeSort_19 : decode cX2_writeSort 19 = .ok (.iload_n 2, 1) := by decide +kernel
theorem dX2_writeSort_20 : decode cX2_writeSort 20 = .ok (.iastore, 1) := by decide +kernel
theorem dX2_writeSort_21 : decode cX2_writeSort 21 = .ok (.return_, 1) := by decide +kernel
theorem dX3_init_0 : decode cX3_init 0 = .ok (.aload_n 0, 1) := by decide +kernel
theorem dX3_init_1 : decode cX3_init 1 = .ok (.invokespecial 3, 3) := by decide +kernel
theorem dX3_init_4 : decode cX3_init 4 = .ok (.aload_n 0, 1) := by decide +kernel
theorem dX3_init_5 : decode cX3_init 5 = .ok (.sipush 150, 3) := by decide +kernel
theorem dX3_init_8 : decode cX3_init 8 = .ok (.newarray .long, 2) := by decide +kernel
theorem dX3_init_10 : decode cX3_init 10 = .ok (.putfield 9, 3) := by decide +kernel
theorem dX3_init_13 : decode cX3_init 13 = .ok (.return_, 1) := by decide +kernel
theorem dX3_load_0 : decode cX3_load 0 = .ok (.aload_n 1, 1) := by decide +kernel
theorem dX3_load_1 : decode cX3_load 1 = .ok (.invokevirtual 15, 3) := by decide +kernel
theorem dX3_load_4 : decode cX3_load 4 = .ok (.istore_n 2, 1) := by decide +kernel
theorem dX3_load_5 : decode cX3_load 5 = .ok (.lconst 0, 1) := by decide +kernel
theorem dX3_load_6 : decode cX3_load 6 = .ok (.lstore_n 3, 1) := by decide +kernel
theorem dX3_load_7 : decode cX3_load 7 = .ok (.iconst 0, 1) := by decide +kernel
theorem dX3_load_8 : decode cX3_load 8 = .ok (.istore 5, 2) := by decide +kernel
theorem dX3_load_10 : decode cX3_load 10 = .ok (.iload 5, 2) := by decide +kernel
theorem dX3_load_12 : decode cX3_load 12 = .ok (.sipush 150, 3) := by decide +kernel
theorem dX3_load_15 : decode cX3_load 15 = .ok (.if_icmp .ge 54, 3) := by decide +kernel
theorem dX3_load_18 : decode cX3_load 18 = .ok (.iload_n 2, 1) := by decide +kernel
theorem dX3_load_19 : decode cX3_load 19 = .ok (.ifCond .eq 14, 3) := by decide +kernel
theorem dX3_load_22 : decode cX3_load 22 = .ok (.aload_n 1, 1) := by decide +kernel
theorem dX3_load_23 : decode cX3_load 23 = .ok (.getfield 21, 3) := by decide +kernel
theorem dX3_load_26 : decode cX3_load 26 = .ok (.iload 5, 2) := by decide +kernel
theorem dX3_load_28 : decode cX3_load 28 = .ok (.laload, 1) := by decide +kernel
theorem dX3_load_29 : decode cX3_load 29 = .ok (.lneg, 1) := by decide +kernel
theorem dX3_load_30 : decode cX3_load 30 = .ok (.goto 10, 3) := by decide +kernel
theorem dX3_load_33 : decode cX3_load 33 = .ok (.aload_n 1, 1) := by decide +kernel
theorem dX3_load_34 : decode cX3_load 34 = .ok (.getfield 21, 3) := by decide +kernel
theorem dX3_load_37 : decode cX3_load 37 = .ok (.iload 5, 2) := by decide +kernel
theorem dX3_load_39 : decode cX3_load 39 = .ok (.laload, 1) := by decide +kernel
theorem dX3_load_40 : decode cX3_load 40 = .ok (.lload_n 3, 1) := by decide +kernel
theorem dX3_load_41 : decode cX3_load 41 = .ok (.ladd, 1) := by decide +kernel
theorem dX3_load_42 : decode cX3_load 42 = .ok (.lstore 6, 2) := by decide +kernel
theorem dX3_load_44 : decode cX3_load 44 = .ok (.aload_n 0, 1) := by decide +kernel
theorem dX3_load_45 : decode cX3_load 45 = .ok (.getfield 9, 3) := by decide +kernel
theorem dX3_load_48 : decode cX3_load 48 = .ok (.iload 5, 2) := by decide +kernel
theorem dX3_load_50 : decode cX3_load 50 = .ok (.lload 6, 2) := by decide +kernel
theorem dX3_load_52 : decode cX3_load 52 = .ok (.ldc2_w 22, 3) := by decide +kernel
theorem dX3_load_55 : decode cX3_load 55 = .ok (.land, 1) := by decide +kernel
theorem dX3_load_56 : decode cX3_load 56 = .ok (.lastore, 1) := by decide +kernel
theorem dX3_load_57 : decode cX3_load 57 = .ok (.lload 6, 2) := by decide +kernel
theorem dX3_load_59 : decode cX3_load 59 = .ok (.bipush 32, 2) := by decide +kernel
theorem dX3_load_61 : decode cX3_load 61 = .ok (.lshr, 1) := by decide +kernel
theorem dX3_load_62 : decode cX3_load 62 = .ok (.lstore_n 3, 1) := by decide +kernel
theorem dX3_load_63 : decode cX3_load 63 = .ok (.iinc 5 1, 3) := by decide +kernel
theorem dX3_load_66 : decode cX3_load 66 = .ok (.goto (-56), 3) := by decide +kernel
theorem dX3_load_69 : decode cX3_load 69 = .ok (.return_, 1) := by decide +kernel
theorem dX3_divideBy_0 : decode cX3_divideBy 0 = .ok (.iload_n 1, 1) := by decide +kernel
theorem dX3_divideBy_1 : decode cX3_divideBy 1 = .ok (.iconst 1, 1) := by decide +kernel
theorem dX3_divideBy_2 : decode cX3_divideBy 2 = .ok (.if_icmp .gt 5, 3) := by decide +kernel
theorem dX3_divideBy_5 : decode cX3_divideBy 5 = .ok (.iconst 0, 1) := by decide +kernel
theorem dX3_divideBy_6 : decode cX3_divideBy 6 = .ok (.ireturn, 1) := by decide +kernel
theorem dX3_divideBy_7 : decode cX3_divideBy 7 = .ok (.lconst 0, 1) := by decide +kernel
theorem dX3_divideBy_8 : decode cX3_divideBy 8 = .ok (.lstore_n 2, 1) := by decide +kernel
theorem dX3_divideBy_9 : decode cX3_divideBy 9 = .ok (.sipush 149, 3) := by decide +kernel
theorem dX3_divideBy_12 : decode cX3_divideBy 12 = .ok (.istore 4, 2) := by decide +kernel
theorem dX3_divideBy_14 : decode cX3_divideBy 14 = .ok (.iload 4, 2) := by decide +kernel
theorem dX3_divideBy_16 : decode cX3_divideBy 16 = .ok (.ifCond .lt 41, 3) := by decide +kernel
theorem dX3_divideBy_19 : decode cX3_divideBy 19 = .ok (.lload_n 2, 1) := by decide +kernel
theorem dX3_divideBy_20 : decode cX3_divideBy 20 = .ok (.bipush 32, 2) := by decide +kernel
theorem dX3_divideBy_22 : decode cX3_divideBy 22 = .ok (.lshl, 1) := by decide +kernel
theorem dX3_divideBy_23 : decode cX3_divideBy 23 = .ok (.aload_n 0, 1) := by decide +kernel
theorem dX3_divideBy_24 : decode cX3_divideBy 24 = .ok (.getfield 9, 3) := by decide +kernel
theorem dX3_divideBy_27 : decode cX3_divideBy 27 = .ok (.iload 4, 2) := by decide +kernel
theorem dX3_divideBy_29 : decode cX3_divideBy 29 = .ok (.laload, 1) := by decide +kernel
theorem dX3_divideBy_30 : decode cX3_divideBy 30 = .ok (.lor, 1) := by decide +kernel
theorem dX3_divideBy_31 : decode cX3_divideBy 31 = .ok (.lstore 5, 2) := by decide +kernel
theorem dX3_divideBy_33 : decode cX3_divideBy 33 = .ok (.aload_n 0, 1) := by decide +kernel
theorem dX3_divideBy_34 : decode cX3_divideBy 34 = .ok (.getfield 9, 3) := by decide +kernel
theorem dX3_divideBy_37 : decode cX3_divideBy 37 = .ok (.iload 4, 2) := by decide +kernel
theorem dX3_divideBy_39 : decode cX3_divideBy 39 = .ok (.lload 5, 2) := by decide +kernel
theorem dX3_divideBy_41 : decode cX3_divideBy 41 = .ok (.iload_n 1, 1) := by decide +kernel
theorem dX3_divideBy_42 : decode cX3_divideBy 42 = .ok (.i2l, 1) := by decide +kernel
theorem dX3_divideBy_43 : decode cX3_divideBy 43 = .ok (.ldiv, 1) := by decide +kernel
theorem dX3_divideBy_44 : decode cX3_divideBy 44 = .ok (.lastore, 1) := by decide +kernel
theorem dX3_divideBy_45 : decode cX3_divideBy 45 = .ok (.lload 5, 2) := by decide +kernel
theorem dX3_divideBy_47 : decode cX3_divideBy 47 = .ok (.iload_n 1, 1) := by decide +kernel
theorem dX3_divideBy_48 : decode cX3_divideBy 48 = .ok (.i2l, 1) := by decide +kernel
theorem dX3_divideBy_49 : decode cX3_divideBy 49 = .ok (.lrem, 1) := by decide +kernel
theorem dX3_divideBy_50 : decode cX3_divideBy 50 = .ok (.lstore_n 2, 1) := by decide +kernel
theorem dX3_divideBy_51 : decode cX3_divideBy 51 = .ok (.iinc 4 (-1), 3) := by decide +kernel
theorem dX3_divideBy_54 : decode cX3_divideBy 54 = .ok (.goto (-40), 3) := by decide +kernel
theorem dX3_divideBy_57 : decode cX3_divideBy 57 = .ok (.lload_n 2, 1) := by decide +kernel
theorem dX3_divideBy_58 : decode cX3_divideBy 58 = .ok (.lconst 0, 1) := by decide +kernel
theorem dX3_divideBy_59 : decode cX3_divideBy 59 = .ok (.lcmp, 1) := by decide +kernel
theorem dX3_divideBy_60 : decode cX3_divideBy 60 = .ok (.ifCond .eq 7, 3) := by decide +kernel
theorem dX3_divideBy_63 : decode cX3_divideBy 63 = .ok (.iconst 1, 1) := by decide +kernel
theorem dX3_divideBy_64 : decode cX3_divideBy 64 = .ok (.goto 4, 3) := by decide +kernel
theorem dX3_divideBy_67 : decode cX3_divideBy 67 = .ok (.iconst 0, 1) := by decide +kernel
theorem dX3_divideBy_68 : decode cX3_divideBy 68 = .ok (.ireturn, 1) := by decide +kernel
theorem dX3_topBit_0 : decode cX3_topBit 0 = .ok (.sipush 149, 3) := by decide +kernel
theorem dX3_topBit_3 : decode cX3_topBit 3 = .ok (.istore_n 1, 1) := by decide +kernel
theorem dX3_topBit_4 : decode cX3_topBit 4 = .ok (.iload_n 1, 1) := by decide +kernel
theorem dX3_topBit_5 : decode cX3_topBit 5 = .ok (.ifCond .lt 37, 3) := by decide +kernel
theorem dX3_topBit_8 : decode cX3_topBit 8 = .ok (.aload_n 0, 1) := by decide +kernel
theorem dX3_topBit_9 : decode cX3_topBit 9 = .ok (.getfield 9, 3) := by decide +kernel
theorem dX3_topBit_12 : decode cX3_topBit 12 = .ok (.iload_n 1, 1) := by decide +kernel
theorem dX3_topBit_13 : decode cX3_topBit 13 = .ok (.laload, 1) := by decide +kernel
theorem dX3_topBit_14 : decode cX3_topBit 14 = .ok (.lconst 0, 1) := by decide +kernel
theorem dX3_topBit_15 : decode cX3_topBit 15 = .ok (.lcmp, 1) := by decide +kernel
theorem dX3_topBit_16 : decode cX3_topBit 16 = .ok (.ifCond .eq 20, 3) := by decide +kernel
theorem dX3_topBit_19 : decode cX3_topBit 19 = .ok (.iload_n 1, 1) := by decide +kernel
theorem dX3_topBit_20 : decode cX3_topBit 20 = .ok (.bipush 32, 2) := by decide +kernel
theorem dX3_topBit_22 : decode cX3_topBit 22 = .ok (.imul, 1) := by decide +kernel
theorem dX3_topBit_23 : decode cX3_topBit 23 = .ok (.aload_n 0, 1) := by decide +kernel
theorem dX3_topBit_24 : decode cX3_topBit 24 = .ok (.getfield 9, 3) := by decide +kernel
theorem dX3_topBit_27 : decode cX3_topBit 27 = .ok (.iload_n 1, 1) := by decide +kernel
theorem dX3_topBit_28 : decode cX3_topBit 28 = .ok (.laload, 1) := by decide +kernel
theorem dX3_topBit_29 : decode cX3_topBit 29 = .ok (.invokestatic 24, 3) := by decide +kernel
theorem dX3_topBit_32 : decode cX3_topBit 32 = .ok (.iadd, 1) := by decide +kernel
theorem dX3_topBit_33 : decode cX3_topBit 33 = .ok (.iconst 1, 1) := by decide +kernel
theorem dX3_topBit_34 : decode cX3_topBit 34 = .ok (.isub, 1) := by decide +kernel
theorem dX3_topBit_35 : decode cX3_topBit 35 = .ok (.ireturn, 1) := by decide +kernel
theorem dX3_topBit_36 : decode cX3_topBit 36 = .ok (.iinc 1 (-1), 3) := by decide +kernel
theorem dX3_topBit_39 : decode cX3_topBit 39 = .ok (.goto (-35), 3) := by decide +kernel
theorem dX3_topBit_42 : decode cX3_topBit 42 = .ok (.iconst (-1), 1) := by decide +kernel
theorem dX3_topBit_43 : decode cX3_topBit 43 = .ok (.ireturn, 1) := by decide +kernel
theorem dX3_bitAt_0 : decode cX3_bitAt 0 = .ok (.aload_n 0, 1) := by decide +kernel
theorem dX3_bitAt_1 : decode cX3_bitAt 1 = .ok (.iload_n 1, 1) := by decide +kernel
theorem dX3_bitAt_2 : decode cX3_bitAt 2 = .ok (.bipush 32, 2) := by decide +kernel
theorem dX3_bitAt_4 : decode cX3_bitAt 4 = .ok (.idiv, 1) := by decide +kernel
theorem dX3_bitAt_5 : decode cX3_bitAt 5 = .ok (.invokevirtual 28, 3) := by decide +kernel
theorem dX3_bitAt_8 : decode cX3_bitAt 8 = .ok (.iload_n 1, 1) := by decide +kernel
theorem dX3_bitAt_9 : decode cX3_bitAt 9 = .ok (.bipush 32, 2) := by decide +kernel
theorem dX3_bitAt_11 : decode cX3_bitAt 11 = .ok (.irem, 1) := by decide +kernel
theorem dX3_bitAt_12 : decode cX3_bitAt 12 = .ok (.lushr, 1) := by decide +kernel
theorem dX3_bitAt_13 : decode cX3_bitAt 13 = .ok (.lconst 1, 1) := by decide +kernel
theorem dX3_bitAt_14 : decode cX3_bitAt 14 = .ok (.land, 1) := by decide +kernel
theorem dX3_bitAt_15 : decode cX3_bitAt 15 = .ok (.l2i, 1) := by decide +kernel
theorem dX3_bitAt_16 : decode cX3_bitAt 16 = .ok (.ireturn, 1) := by decide +kernel
theorem dX3_rounded_0 : decode cX3_rounded 0 = .ok (.aload_n 0, 1) := by decide +kernel
theorem dX3_rounded_1 : decode cX3_rounded 1 = .ok (.invokevirtual 32, 3) := by decide +kernel
theorem dX3_rounded_4 : decode cX3_rounded 4 = .ok (.istore 5, 2) := by decide +kernel
theorem dX3_rounded_6 : decode cX3_rounded 6 = .ok (.iload 4, 2) := by decide +kernel
theorem dX3_rounded_8 : decode cX3_rounded 8 = .ok (.ifCond .eq 9, 3) := by decide +kernel
theorem dX3_rounded_11 : decode cX3_rounded 11 = .ok (.sipush (-149), 3) := by decide +kernel
theorem dX3_rounded_14 : decode cX3_rounded 14 = .ok (.goto 6, 3) := by decide +kernel
theorem dX3_rounded_17 : decode cX3_rounded 17 = .ok (.sipush (-1074), 3) := by decide +kernel
theorem dX3_rounded_20 : decode cX3_rounded 20 = .ok (.sipush (-2148), 3) := by decide +kernel
theorem dX3_rounded_23 : decode cX3_rounded 23 = .ok (.isub, 1) := by decide +kernel
theorem dX3_rounded_24 : decode cX3_rounded 24 = .ok (.istore 6, 2) := by decide +kernel
theorem dX3_rounded_26 : decode cX3_rounded 26 = .ok (.iload 5, 2) := by decide +kernel
theorem dX3_rounded_28 : decode cX3_rounded 28 = .ok (.iload 4, 2) := by decide +kernel
theorem dX3_rounded_30 : decode cX3_rounded 30 = .ok (.ifCond .eq 8, 3) := by decide +kernel
theorem dX3_rounded_33 : decode cX3_rounded 33 = .ok (.bipush 24, 2) := by decide +kernel
theorem dX3_rounded_35 : decode cX3_rounded 35 = .ok (.goto 5, 3) := by decide +kernel
theorem dX3_rounded_38 : decode cX3_rounded 38 = .ok (.bipush 53, 2) := by decide +kernel
theorem dX3_rounded_40 : decode cX3_rounded 40 = .ok (.isub, 1) := by decide +kernel
theorem dX3_rounded_41 : decode cX3_rounded 41 = .ok (.iconst 1, 1) := by decide +kernel
theorem dX3_rounded_42 : decode cX3_rounded 42 = .ok (.iadd, 1) := by decide +kernel
theorem dX3_rounded_43 : decode cX3_rounded 43 = .ok (.iload 6, 2) := by decide +kernel
theorem dX3_rounded_45 : decode cX3_rounded 45 = .ok (.invokestatic 36, 3) := by decide +kernel
theorem dX3_rounded_48 : decode cX3_rounded 48 = .ok (.istore 7, 2) := by decide +kernel
theorem dX3_rounded_50 : decode cX3_rounded 50 = .ok (.aload_n 0, 1) := by decide +kernel
theorem dX3_rounded_51 : decode cX3_rounded 51 = .ok (.iload 7, 2) := by decide +kernel
theorem dX3_rounded_53 : decode cX3_rounded 53 = .ok (.invokevirtual 42, 3) := by decide +kernel
theorem dX3_rounded_56 : decode cX3_rounded 56 = .ok (.lstore 8, 2) := by decide +kernel
theorem dX3_rounded_58 : decode cX3_rounded 58 = .ok (.aload_n 0, 1) := by decide +kernel
theorem dX3_rounded_59 : decode cX3_rounded 59 = .ok (.iload 7, 2) := by decide +kernel
theorem dX3_rounded_61 : decode cX3_rounded 61 = .ok (.iconst 1, 1) := by decide +kernel
theorem dX3_rounded_62 : decode cX3_rounded 62 = .ok (.isub, 1) := by decide +kernel
theorem dX3_rounded_63 : decode cX3_rounded 63 = .ok (.invokevirtual 45, 3) := by decide +kernel
theorem dX3_rounded_66 : decode cX3_rounded 66 = .ok (.iconst 1, 1) := by decide +kernel
theorem dX3_rounded_67 : decode cX3_rounded 67 = .ok (.if_icmp .ne 7, 3) := by decide +kernel
theorem dX3_rounded_70 : decode cX3_rounded 70 = .ok (.iconst 1, 1) := by decide +kernel
theorem dX3_rounded_71 : decode cX3_rounded 71 = .ok (.goto 4, 3) := by decide +kernel
theorem dX3_rounded_74 : decode cX3_rounded 74 = .ok (.iconst 0, 1) := by decide +kernel
theorem dX3_rounded_75 : decode cX3_rounded 75 = .ok (.istore 10, 2) := by decide +kernel
theorem dX3_rounded_77 : decode cX3_rounded 77 = .ok (.iload_n 2, 1) := by decide +kernel
theorem dX3_rounded_78 : decode cX3_rounded 78 = .ok (.ifCond .ne 14, 3) := by decide +kernel
theorem dX3_rounded_81 : decode cX3_rounded 81 = .ok (.aload_n 0, 1) := by decide +kernel
theorem dX3_rounded_82 : decode cX3_rounded 82 = .ok (.iload 7, 2) := by decide +kernel
theorem dX3_rounded_84 : decode cX3_rounded 84 = .ok (.iconst 1, 1) := by decide +kernel
theorem dX3_rounded_85 : decode cX3_rounded 85 = .ok (.isub, 1) := by decide +kernel
theorem dX3_rounded_86 : decode cX3_rounded 86 = .ok (.invokevirtual 49, 3) := by decide +kernel
theorem dX3_rounded_89 : decode cX3_rounded 89 = .ok (.ifCond .eq 7, 3) := by decide +kernel
theorem dX3_rounded_92 : decode cX3_rounded 92 = .ok (.iconst 1, 1) := by decide +kernel
theorem dX3_rounded_93 : decode cX3_rounded 93 = .ok (.goto 4, 3) := by decide +kernel
theorem dX3_rounded_96 : decode cX3_rounded 96 = .ok (.iconst 0, 1) := by decide +kernel
theorem dX3_rounded_97 : decode cX3_rounded 97 = .ok (.istore 11, 2) := by decide +kernel
theorem dX3_rounded_99 : decode cX3_rounded 99 = .ok (.lload 8, 2) := by decide +kernel
theorem dX3_rounded_101 : decode cX3_rounded 101 = .ok (.iload 10, 2) := by decide +kernel
theorem dX3_rounded_103 : decode cX3_rounded 103 = .ok (.iload 11, 2) := by decide +kernel
theorem dX3_rounded_105 : decode cX3_rounded 105 = .ok (.iload_n 1, 1) := by decide +kernel
theorem dX3_rounded_106 : decode cX3_rounded 106 = .ok (.iload_n 3, 1) := by decide +kernel
theorem dX3_rounded_107 : decode cX3_rounded 107 = .ok (.invokestatic 53, 3) := by decide +kernel
theorem dX3_rounded_110 : decode cX3_rounded 110 = .ok (.ifCond .eq 9, 3) := by decide +kernel
theorem dX3_rounded_113 : decode cX3_rounded 113 = .ok (.lload 8, 2) := by decide +kernel
theorem dX3_rounded_115 : decode cX3_rounded 115 = .ok (.lconst 1, 1) := by decide +kernel
theorem dX3_rounded_116 : decode cX3_rounded 116 = .ok (.ladd, 1) := by decide +kernel
theorem dX3_rounded_117 : decode cX3_rounded 117 = .ok (.lstore 8, 2) := by decide +kernel
theorem dX3_rounded_119 : decode cX3_rounded 119 = .ok (.lload 8, 2) := by decide +kernel
theorem dX3_rounded_121 : decode cX3_rounded 121 = .ok (.iload 7, 2) := by decide +kernel
theorem dX3_rounded_123 : decode cX3_rounded 123 = .ok (.sipush (-2148), 3) := by decide +kernel
theorem dX3_rounded_126 : decode cX3_rounded 126 = .ok (.iadd, 1) := by decide +kernel
theorem dX3_rounded_127 : decode cX3_rounded 127 = .ok (.iload_n 1, 1) := by decide +kernel
theorem dX3_rounded_128 : decode cX3_rounded 128 = .ok (.iload_n 3, 1) := by decide +kernel
theorem dX3_rounded_129 : decode cX3_rounded 129 = .ok (.iload 4, 2) := by decide +kernel
theorem dX3_rounded_131 : decode cX3_rounded 131 = .ok (.invokestatic 57, 3) := by decide +kernel
theorem dX3_rounded_134 : decode cX3_rounded 134 = .ok (.dreturn, 1) := by decide +kernel
theorem dX3_rootRounded_0 : decode cX3_rootRounded 0 = .ok (.aload_n 0, 1) := by decide +kernel
theorem dX3_rootRounded_1 : decode cX3_rootRounded 1 = .ok (.invokevirtual 32, 3) := by decide +kernel
theorem dX3_rootRounded_4 : decode cX3_rootRounded 4 = .ok (.iconst 2, 1) := by decide +kernel
theorem dX3_rootRounded_5 : decode cX3_rootRounded 5 = .ok (.idiv, 1) := by decide +kernel
theorem dX3_rootRounded_6 : decode cX3_rootRounded 6 = .ok (.istore_n 2, 1) := by decide +kernel
theorem dX3_rootRounded_7 : decode cX3_rootRounded 7 = .ok (.iload_n 2, 1) := by decide +kernel
theorem dX3_rootRounded_8 : decode cX3_rootRounded 8 = .ok (.bipush 53, 2) := by decide +kernel
theorem dX3_rootRounded_10 : decode cX3_rootRounded 10 = .ok (.isub, 1) := by decide +kernel
theorem dX3_rootRounded_11 : decode cX3_rootRounded 11 = .ok (.iconst 1, 1) := by decide +kernel
theorem dX3_rootRounded_12 : decode cX3_rootRounded 12 = .ok (.iadd, 1) := by decide +kernel
theorem dX3_rootRounded_13 : decode cX3_rootRounded 13 = .ok (.iconst 0, 1) := by decide +kernel
theorem dX3_rootRounded_14 : decode cX3_rootRounded 14 = .ok (.invokestatic 36, 3) := by decide +kernel
theorem dX3_rootRounded_17 : decode cX3_rootRounded 17 = .ok (.istore_n 3, 1) := by decide +kernel
theorem dX3_rootRounded_18 : decode cX3_rootRounded 18 = .ok (.lconst 0, 1) := by decide +kernel
theorem dX3_rootRounded_19 : decode cX3_rootRounded 19 = .ok (.lstore 4, 2) := by decide +kernel
theorem dX3_rootRounded_21 : decode cX3_rootRounded 21 = .ok (.lconst 0, 1) := by decide +kernel
theorem dX3_rootRounded_22 : decode cX3_rootRounded 22 = .ok (.lstore 6, 2) := by decide +kernel
theorem dX3_rootRounded_24 : decode cX3_rootRounded 24 = .ok (.iload_n 2, 1) := by decide +kernel
theorem dX3_rootRounded_25 : decode cX3_rootRounded 25 = .ok (.istore 8, 2) := by decide +kernel
theorem dX3_rootRounded_27 : decode cX3_rootRounded 27 = .ok (.iload 8, 2) := by decide +kernel
theorem dX3_rootRounded_29 : decode cX3_rootRounded 29 = .ok (.iload_n 3, 1) := by decide +kernel
theorem dX3_rootRounded_30 : decode cX3_rootRounded 30 = .ok (.if_icmp .lt 74, 3) := by decide +kernel
theorem dX3_rootRounded_33 : decode cX3_rootRounded 33 = .ok (.lload 6, 2) := by decide +kernel
theorem dX3_rootRounded_35 : decode cX3_rootRounded 35 = .ok (.iconst 2, 1) := by decide +kernel
theorem dX3_rootRounded_36 : decode cX3_rootRounded 36 = .ok (.lshl, 1) := by decide +kernel
theorem dX3_rootRounded_37 : decode cX3_rootRounded 37 = .ok (.aload_n 0, 1) := by decide +kernel
theorem dX3_rootRounded_38 : decode cX3_rootRounded 38 = .ok (.iconst 2, 1) := by decide +kernel
theorem dX3_rootRounded_39 : decode cX3_rootRounded 39 = .ok (.iload 8, 2) := by decide +kernel
theorem dX3_rootRounded_41 : decode cX3_rootRounded 41 = .ok (.imul, 1) := by decide +kernel
theorem dX3_rootRounded_42 : decode cX3_rootRounded 42 = .ok (.iconst 1, 1) := by decide +kernel
theorem dX3_rootRounded_43 : decode cX3_rootRounded 43 = .ok (.iadd, 1) := by decide +kernel
theorem dX3_rootRounded_44 : decode cX3_rootRounded 44 = .ok (.invokevirtual 45, 3) := by decide +kernel
theorem dX3_rootRounded_47 : decode cX3_rootRounded 47 = .ok (.iconst 1, 1) := by decide +kernel
theorem dX3_rootRounded_48 : decode cX3_rootRounded 48 = .ok (.ishl, 1) := by decide +kernel
theorem dX3_rootRounded_49 : decode cX3_rootRounded 49 = .ok (.i2l, 1) := by decide +kernel
theorem dX3_rootRounded_50 : decode cX3_rootRounded 50 = .ok (.lor, 1) := by decide +kernel
theorem dX3_rootRounded_51 : decode cX3_rootRounded 51 = .ok (.aload_n 0, 1) := by decide +kernel
theorem dX3_rootRounded_52 : decode cX3_rootRounded 52 = .ok (.iconst 2, 1) := by decide +kernel
theorem dX3_rootRounded_53 : decode cX3_rootRounded 53 = .ok (.iload 8, 2) := by decide +kernel
theorem dX3_rootRounded_55 : decode cX3_rootRounded 55 = .ok (.imul, 1) := by decide +kernel
theorem dX3_rootRounded_56 : decode cX3_rootRounded 56 = .ok (.invokevirtual 45, 3) := by decide +kernel
theorem dX3_rootRounded_59 : decode cX3_rootRounded 59 = .ok (.i2l, 1) := by decide +kernel
theorem dX3_rootRounded_60 : decode cX3_rootRounded 60 = .ok (.lor, 1) := by decide +kernel
theorem dX3_rootRounded_61 : decode cX3_rootRounded 61 = .ok (.lstore 6, 2) := by decide +kernel
theorem dX3_rootRounded_63 : decode cX3_rootRounded 63 = .ok (.lload 4, 2) := by decide +kernel
theorem dX3_rootRounded_65 : decode cX3_rootRounded 65 = .ok (.iconst 2, 1) := by decide +kernel
theorem dX3_rootRounded_66 : decode cX3_rootRounded 66 = .ok (.lshl, 1) := by decide +kernel
theorem dX3_rootRounded_67 : decode cX3_rootRounded 67 = .ok (.lconst 1, 1) := by decide +kernel
theorem dX3_rootRounded_68 : decode cX3_rootRounded 68 = .ok (.lor, 1) := by decide +kernel
theorem dX3_rootRounded_69 : decode cX3_rootRounded 69 = .ok (.lstore 9, 2) := by decide +kernel
theorem dX3_rootRounded_71 : decode cX3_rootRounded 71 = .ok (.lload 4, 2) := by decide +kernel
theorem dX3_rootRounded_73 : decode cX3_rootRounded 73 = .ok (.iconst 1, 1) := by decide +kernel
theorem dX3_rootRounded_74 : decode cX3_rootRounded 74 = .ok (.lshl, 1) := by decide +kernel
theorem dX3_rootRounded_75 : decode cX3_rootRounded 75 = .ok (.lstore 4, 2) := by decide +kernel
theorem dX3_rootRounded_77 : decode cX3_rootRounded 77 = .ok (.lload 6, 2) := by decide +kernel
theorem dX3_rootRounded_79 : decode cX3_rootRounded 79 = .ok (.lload 9, 2) := by decide +kernel
theorem dX3_rootRounded_81 : decode cX3_rootRounded 81 = .ok (.lcmp, 1) := by decide +kernel
theorem dX3_rootRounded_82 : decode cX3_rootRounded 82 = .ok (.ifCond .lt 16, 3) := by decide +kernel
theorem dX3_rootRounded_85 : decode cX3_rootRounded 85 = .ok (.lload 6, 2) := by decide +kernel
theorem dX3_rootRounded_87 : decode cX3_rootRounded 87 = .ok (.lload 9, 2) := by decide +kernel
theorem dX3_rootRounded_89 : decode cX3_rootRounded 89 = .ok (.lsub, 1) := by decide +kernel
theorem dX3_rootRounded_90 : decode cX3_rootRounded 90 = .ok (.lstore 6, 2) := by decide +kernel
theorem dX3_rootRounded_92 : decode cX3_rootRounded 92 = .ok (.lload 4, 2) := by decide +kernel
theorem dX3_rootRounded_94 : decode cX3_rootRounded 94 = .ok (.lconst 1, 1) := by decide +kernel
theorem dX3_rootRounded_95 : decode cX3_rootRounded 95 = .ok (.lor, 1) := by decide +kernel
theorem dX3_rootRounded_96 : decode cX3_rootRounded 96 = .ok (.lstore 4, 2) := by decide +kernel
theorem dX3_rootRounded_98 : decode cX3_rootRounded 98 = .ok (.iinc 8 (-1), 3) := by decide +kernel
theorem dX3_rootRounded_101 : decode cX3_rootRounded 101 = .ok (.goto (-74), 3) := by decide +kernel
theorem dX3_rootRounded_104 : decode cX3_rootRounded 104 = .ok (.lload 6, 2) := by decide +kernel
theorem dX3_rootRounded_106 : decode cX3_rootRounded 106 = .ok (.lconst 0, 1) := by decide +kernel
theorem dX3_rootRounded_107 : decode cX3_rootRounded 107 = .ok (.lcmp, 1) := by decide +kernel
theorem dX3_rootRounded_108 : decode cX3_rootRounded 108 = .ok (.ifCond .ne 13, 3) := by decide +kernel
theorem dX3_rootRounded_111 : decode cX3_rootRounded 111 = .ok (.aload_n 0, 1) := by decide +kernel
theorem dX3_rootRounded_112 : decode cX3_rootRounded 112 = .ok (.iconst 2, 1) := by decide +kernel
theorem dX3_rootRounded_113 : decode cX3_rootRounded 113 = .ok (.iload_n 3, 1) := by decide +kernel
theorem dX3_rootRounded_114 : decode cX3_rootRounded 114 = .ok (.imul, 1) := by decide +kernel
theorem dX3_rootRounded_115 : decode cX3_rootRounded 115 = .ok (.invokevirtual 49, 3) := by decide +kernel
theorem dX3_rootRounded_118 : decode cX3_rootRounded 118 = .ok (.ifCond .eq 7, 3) := by decide +kernel
theorem dX3_rootRounded_121 : decode cX3_rootRounded 121 = .ok (.iconst 1, 1) := by decide +kernel
theorem dX3_rootRounded_122 : decode cX3_rootRounded 122 = .ok (.goto 4, 3) := by decide +kernel
theorem dX3_rootRounded_125 : decode cX3_rootRounded 125 = .ok (.iconst 0, 1) := by decide +kernel
theorem dX3_rootRounded_126 : decode cX3_rootRounded 126 = .ok (.istore 8, 2) := by decide +kernel
theorem dX3_rootRounded_128 : decode cX3_rootRounded 128 = .ok (.lload 4, 2) := by decide +kernel
theorem dX3_rootRounded_130 : decode cX3_rootRounded 130 = .ok (.iconst 0, 1) := by decide +kernel
theorem dX3_rootRounded_131 : decode cX3_rootRounded 131 = .ok (.iload 8, 2) := by decide +kernel
theorem dX3_rootRounded_133 : decode cX3_rootRounded 133 = .ok (.iconst 0, 1) := by decide +kernel
theorem dX3_rootRounded_134 : decode cX3_rootRounded 134 = .ok (.iload_n 1, 1) := by decide +kernel
theorem dX3_rootRounded_135 : decode cX3_rootRounded 135 = .ok (.invokestatic 53, 3) := by decide +kernel
theorem dX3_rootRounded_138 : decode cX3_rootRounded 138 = .ok (.ifCond .eq 9, 3) := by decide +kernel
theorem dX3_rootRounded_141 : decode cX3_rootRounded 141 = .ok (.lload 4, 2) := by decide +kernel
theorem dX3_rootRounded_143 : decode cX3_rootRounded 143 = .ok (.lconst 1, 1) := by decide +kernel
theorem dX3_rootRounded_144 : decode cX3_rootRounded 144 = .ok (.ladd, 1) := by decide +kernel
theorem dX3_rootRounded_145 : decode cX3_rootRounded 145 = .ok (.lstore 4, 2) := by decide +kernel
theorem dX3_rootRounded_147 : decode cX3_rootRounded 147 = .ok (.lload 4, 2) := by decide +kernel
theorem dX3_rootRounded_149 : decode cX3_rootRounded 149 = .ok (.iload_n 3, 1) := by decide +kernel
theorem dX3_rootRounded_150 : decode cX3_rootRounded 150 = .ok (.sipush (-1074), 3) := by decide +kernel
theorem dX3_rootRounded_153 : decode cX3_rootRounded 153 = .ok (.iadd, 1) := by decide +kernel
theorem dX3_rootRounded_154 : decode cX3_rootRounded 154 = .ok (.iconst 0, 1) := by decide +kernel
theorem dX3_rootRounded_155 : decode cX3_rootRounded 155 = .ok (.iload_n 1, 1) := by decide +kernel
theorem dX3_rootRounded_156 : decode cX3_rootRounded 156 = .ok (.iconst 0, 1) := by decide +kernel
theorem dX3_rootRounded_157 : decode cX3_rootRounded 157 = .ok (.invokestatic 57, 3) := by decide +kernel
theorem dX3_rootRounded_160 : decode cX3_rootRounded 160 = .ok (.dreturn, 1) := by decide +kernel
theorem dX3_limbAt_0 : decode cX3_limbAt 0 = .ok (.iload_n 1, 1) := by decide +kernel
theorem dX3_limbAt_1 : decode cX3_limbAt 1 = .ok (.ifCond .lt 19, 3) := by decide +kernel
theorem dX3_limbAt_4 : decode cX3_limbAt 4 = .ok (.iload_n 1, 1) := by decide +kernel
theorem dX3_limbAt_5 : decode cX3_limbAt 5 = .ok (.sipush 150, 3) := by decide +kernel
theorem dX3_limbAt_8 : decode cX3_limbAt 8 = .ok (.if_icmp .ge 12, 3) := by decide +kernel
theorem dX3_limbAt_11 : decode cX3_limbAt 11 = .ok (.aload_n 0, 1) := by decide +kernel
theorem dX3_limbAt_12 : decode cX3_limbAt 12 = .ok (.getfield 9, 3) := by decide +kernel
theorem dX3_limbAt_15 : decode cX3_limbAt 15 = .ok (.iload_n 1, 1) := by decide +kernel
theorem dX3_limbAt_16 : decode cX3_limbAt 16 = .ok (.laload, 1) := by decide +kernel
theorem dX3_limbAt_17 : decode cX3_limbAt 17 = .ok (.goto 4, 3) := by decide +kernel
theorem dX3_limbAt_20 : decode cX3_limbAt 20 = .ok (.lconst 0, 1) := by decide +kernel
theorem dX3_limbAt_21 : decode cX3_limbAt 21 = .ok (.lreturn, 1) := by decide +kernel
theorem dX3_wholeFrom_0 : decode cX3_wholeFrom 0 = .ok (.iload_n 1, 1) := by decide +kernel
theorem dX3_wholeFrom_1 : decode cX3_wholeFrom 1 = .ok (.bipush 32, 2) := by decide +kernel
theorem dX3_wholeFrom_3 : decode cX3_wholeFrom 3 = .ok (.idiv, 1) := by decide +kernel
end
section
theorem dX3_wholeFrom_4 : decode cX3_wholeFrom 4 = .ok (.istore_n 2, 1) := by decide +kernel
theorem dX3_wholeFrom_5 : decode cX3_wholeFrom 5 = .ok (.iload_n 1, 1) := by decide +kernel
theorem dX3_wholeFrom_6 : decode cX3_wholeFrom 6 = .ok (.bipush 32, 2) := by decide +kernel
theorem dX3_wholeFrom_8 : decode cX3_wholeFrom 8 = .ok (.irem, 1) := by decide +kernel
theorem dX3_wholeFrom_9 : decode cX3_wholeFrom 9 = .ok (.istore_n 3, 1) := by decide +kernel
theorem dX3_wholeFrom_10 : decode cX3_wholeFrom 10 = .ok (.aload_n 0, 1) := by decide +kernel
theorem dX3_wholeFrom_11 : decode cX3_wholeFrom 11 = .ok (.iload_n 2, 1) := by decide +kernel
theorem dX3_wholeFrom_12 : decode cX3_wholeFrom 12 = .ok (.iconst 1, 1) := by decide +kernel
theorem dX3_wholeFrom_13 : decode cX3_wholeFrom 13 = .ok (.iadd, 1) := by decide +kernel
theorem dX3_wholeFrom_14 : decode cX3_wholeFrom 14 = .ok (.invokevirtual 28, 3) := by decide +kernel
theorem dX3_wholeFrom_17 : decode cX3_wholeFrom 17 = .ok (.bipush 32, 2) := by decide +kernel
theorem dX3_wholeFrom_19 : decode cX3_wholeFrom 19 = .ok (.lshl, 1) := by decide +kernel
theorem dX3_wholeFrom_20 : decode cX3_wholeFrom 20 = .ok (.aload_n 0, 1) := by decide +kernel
theorem dX3_wholeFrom_21 : decode cX3_wholeFrom 21 = .ok (.iload_n 2, 1) := by decide +kernel
theorem dX3_wholeFrom_22 : decode cX3_wholeFrom 22 = .ok (.invokevirtual 28, 3) := by decide +kernel
theorem dX3_wholeFrom_25 : decode cX3_wholeFrom 25 = .ok (.lor, 1) := by decide +kernel
theorem dX3_wholeFrom_26 : decode cX3_wholeFrom 26 = .ok (.iload_n 3, 1) := by decide +kernel
theorem dX3_wholeFrom_27 : decode cX3_wholeFrom 27 = .ok (.lushr, 1) := by decide +kernel
theorem dX3_wholeFrom_28 : decode cX3_wholeFrom 28 = .ok (.lstore 4, 2) := by decide +kernel
theorem dX3_wholeFrom_30 : decode cX3_wholeFrom 30 = .ok (.iload_n 3, 1) := by decide +kernel
theorem dX3_wholeFrom_31 : decode cX3_wholeFrom 31 = .ok (.ifCond .ne 8, 3) := by decide +kernel
theorem dX3_wholeFrom_34 : decode cX3_wholeFrom 34 = .ok (.lload 4, 2) := by decide +kernel
theorem dX3_wholeFrom_36 : decode cX3_wholeFrom 36 = .ok (.goto 18, 3) := by decide +kernel
theorem dX3_wholeFrom_39 : decode cX3_wholeFrom 39 = .ok (.lload 4, 2) := by decide +kernel
theorem dX3_wholeFrom_41 : decode cX3_wholeFrom 41 = .ok (.aload_n 0, 1) := by decide +kernel
theorem dX3_wholeFrom_42 : decode cX3_wholeFrom 42 = .ok (.iload_n 2, 1) := by decide +kernel
theorem dX3_wholeFrom_43 : decode cX3_wholeFrom 43 = .ok (.iconst 2, 1) := by decide +kernel
theorem dX3_wholeFrom_44 : decode cX3_wholeFrom 44 = .ok (.iadd, 1) := by decide +kernel
theorem dX3_wholeFrom_45 : decode cX3_wholeFrom 45 = .ok (.invokevirtual 28, 3) := by decide +kernel
theorem dX3_wholeFrom_48 : decode cX3_wholeFrom 48 = .ok (.bipush 64, 2) := by decide +kernel
theorem dX3_wholeFrom_50 : decode cX3_wholeFrom 50 = .ok (.iload_n 3, 1) := by decide +kernel
theorem dX3_wholeFrom_51 : decode cX3_wholeFrom 51 = .ok (.isub, 1) := by decide +kernel
theorem dX3_wholeFrom_52 : decode cX3_wholeFrom 52 = .ok (.lshl, 1) := by decide +kernel
theorem dX3_wholeFrom_53 : decode cX3_wholeFrom 53 = .ok (.lor, 1) := by decide +kernel
theorem dX3_wholeFrom_54 : decode cX3_wholeFrom 54 = .ok (.lreturn, 1) := by decide +kernel
theorem dX3_hasBitBelow_0 : decode cX3_hasBitBelow 0 = .ok (.iload_n 1, 1) := by decide +kernel
theorem dX3_hasBitBelow_1 : decode cX3_hasBitBelow 1 = .ok (.bipush 32, 2) := by decide +kernel
theorem dX3_hasBitBelow_3 : decode cX3_hasBitBelow 3 = .ok (.idiv, 1) := by decide +kernel
theorem dX3_hasBitBelow_4 : decode cX3_hasBitBelow 4 = .ok (.istore_n 2, 1) := by decide +kernel
theorem dX3_hasBitBelow_5 : decode cX3_hasBitBelow 5 = .ok (.iconst 0, 1) := by decide +kernel
theorem dX3_hasBitBelow_6 : decode cX3_hasBitBelow 6 = .ok (.istore_n 3, 1) := by decide +kernel
theorem dX3_hasBitBelow_7 : decode cX3_hasBitBelow 7 = .ok (.iload_n 3, 1) := by decide +kernel
theorem dX3_hasBitBelow_8 : decode cX3_hasBitBelow 8 = .ok (.iload_n 2, 1) := by decide +kernel
theorem dX3_hasBitBelow_9 : decode cX3_hasBitBelow 9 = .ok (.if_icmp .ge 29, 3) := by decide +kernel
theorem dX3_hasBitBelow_12 : decode cX3_hasBitBelow 12 = .ok (.iload_n 3, 1) := by decide +kernel
theorem dX3_hasBitBelow_13 : decode cX3_hasBitBelow 13 = .ok (.sipush 150, 3) := by decide +kernel
theorem dX3_hasBitBelow_16 : decode cX3_hasBitBelow 16 = .ok (.if_icmp .ge 22, 3) := by decide +kernel
theorem dX3_hasBitBelow_19 : decode cX3_hasBitBelow 19 = .ok (.aload_n 0, 1) := by decide +kernel
theorem dX3_hasBitBelow_20 : decode cX3_hasBitBelow 20 = .ok (.getfield 9, 3) := by decide +kernel
theorem dX3_hasBitBelow_23 : decode cX3_hasBitBelow 23 = .ok (.iload_n 3, 1) := by decide +kernel
theorem dX3_hasBitBelow_24 : decode cX3_hasBitBelow 24 = .ok (.laload, 1) := by decide +kernel
theorem dX3_hasBitBelow_25 : decode cX3_hasBitBelow 25 = .ok (.lconst 0, 1) := by decide +kernel
theorem dX3_hasBitBelow_26 : decode cX3_hasBitBelow 26 = .ok (.lcmp, 1) := by decide +kernel
theorem dX3_hasBitBelow_27 : decode cX3_hasBitBelow 27 = .ok (.ifCond .eq 5, 3) := by decide +kernel
theorem dX3_hasBitBelow_30 : decode cX3_hasBitBelow 30 = .ok (.iconst 1, 1) := by decide +kernel
theorem dX3_hasBitBelow_31 : decode cX3_hasBitBelow 31 = .ok (.ireturn, 1) := by decide +kernel
theorem dX3_hasBitBelow_32 : decode cX3_hasBitBelow 32 = .ok (.iinc 3 1, 3) := by decide +kernel
theorem dX3_hasBitBelow_35 : decode cX3_hasBitBelow 35 = .ok (.goto (-28), 3) := by decide +kernel
theorem dX3_hasBitBelow_38 : decode cX3_hasBitBelow 38 = .ok (.aload_n 0, 1) := by decide +kernel
theorem dX3_hasBitBelow_39 : decode cX3_hasBitBelow 39 = .ok (.iload_n 2, 1) := by decide +kernel
theorem dX3_hasBitBelow_40 : decode cX3_hasBitBelow 40 = .ok (.invokevirtual 28, 3) := by decide +kernel
theorem dX3_hasBitBelow_43 : decode cX3_hasBitBelow 43 = .ok (.lconst 1, 1) := by decide +kernel
theorem dX3_hasBitBelow_44 : decode cX3_hasBitBelow 44 = .ok (.iload_n 1, 1) := by decide +kernel
theorem dX3_hasBitBelow_45 : decode cX3_hasBitBelow 45 = .ok (.bipush 32, 2) := by decide +kernel
theorem dX3_hasBitBelow_47 : decode cX3_hasBitBelow 47 = .ok (.irem, 1) := by decide +kernel
theorem dX3_hasBitBelow_48 : decode cX3_hasBitBelow 48 = .ok (.lshl, 1) := by decide +kernel
theorem dX3_hasBitBelow_49 : decode cX3_hasBitBelow 49 = .ok (.lconst 1, 1) := by decide +kernel
theorem dX3_hasBitBelow_50 : decode cX3_hasBitBelow 50 = .ok (.lsub, 1) := by decide +kernel
theorem dX3_hasBitBelow_51 : decode cX3_hasBitBelow 51 = .ok (.land, 1) := by decide +kernel
theorem dX3_hasBitBelow_52 : decode cX3_hasBitBelow 52 = .ok (.lconst 0, 1) := by decide +kernel
theorem dX3_hasBitBelow_53 : decode cX3_hasBitBelow 53 = .ok (.lcmp, 1) := by decide +kernel
theorem dX3_hasBitBelow_54 : decode cX3_hasBitBelow 54 = .ok (.ifCond .eq 7, 3) := by decide +kernel
theorem dX3_hasBitBelow_57 : decode cX3_hasBitBelow 57 = .ok (.iconst 1, 1) := by decide +kernel
theorem dX3_hasBitBelow_58 : decode cX3_hasBitBelow 58 = .ok (.goto 4, 3) := by decide +kernel
theorem dX3_hasBitBelow_61 : decode cX3_hasBitBelow 61 = .ok (.iconst 0, 1) := by decide +kernel
theorem dX3_hasBitBelow_62 : decode cX3_hasBitBelow 62 = .ok (.ireturn, 1) := by decide +kernel
theorem dX4_init_0 : decode cX4_init 0 = .ok (.aload_n 0, 1) := by decide +kernel
theorem dX4_init_1 : decode cX4_init 1 = .ok (.invokespecial 1, 3) := by decide +kernel
theorem dX4_init_4 : decode cX4_init 4 = .ok (.aload_n 0, 1) := by decide +kernel
theorem dX4_init_5 : decode cX4_init 5 = .ok (.bipush 12, 2) := by decide +kernel
theorem dX4_init_7 : decode cX4_init 7 = .ok (.anewarray 9, 3) := by decide +kernel
theorem dX4_init_10 : decode cX4_init 10 = .ok (.putfield 11, 3) := by decide +kernel
theorem dX4_init_13 : decode cX4_init 13 = .ok (.aload_n 0, 1) := by decide +kernel
theorem dX4_init_14 : decode cX4_init 14 = .ok (.bipush 6, 2) := by decide +kernel
theorem dX4_init_16 : decode cX4_init 16 = .ok (.anewarray 15, 3) := by decide +kernel
theorem dX4_init_19 : decode cX4_init 19 = .ok (.putfield 17, 3) := by decide +kernel
theorem dX4_init_22 : decode cX4_init 22 = .ok (.aload_n 0, 1) := by decide +kernel
theorem dX4_init_23 : decode cX4_init 23 = .ok (.new 21, 3) := by decide +kernel
theorem dX4_init_26 : decode cX4_init 26 = .ok (.dup, 1) := by decide +kernel
theorem dX4_init_27 : decode cX4_init 27 = .ok (.invokespecial 23, 3) := by decide +kernel
theorem dX4_init_30 : decode cX4_init 30 = .ok (.putfield 24, 3) := by decide +kernel
theorem dX4_init_33 : decode cX4_init 33 = .ok (.aload_n 0, 1) := by decide +kernel
theorem dX4_init_34 : decode cX4_init 34 = .ok (.new 28, 3) := by decide +kernel
theorem dX4_init_37 : decode cX4_init 37 = .ok (.dup, 1) := by decide +kernel
theorem dX4_init_38 : decode cX4_init 38 = .ok (.invokespecial 30, 3) := by decide +kernel
theorem dX4_init_41 : decode cX4_init 41 = .ok (.putfield 31, 3) := by decide +kernel
theorem dX4_init_44 : decode cX4_init 44 = .ok (.aload_n 0, 1) := by decide +kernel
theorem dX4_init_45 : decode cX4_init 45 = .ok (.new 9, 3) := by decide +kernel
theorem dX4_init_48 : decode cX4_init 48 = .ok (.dup, 1) := by decide +kernel
theorem dX4_init_49 : decode cX4_init 49 = .ok (.invokespecial 35, 3) := by decide +kernel
theorem dX4_init_52 : decode cX4_init 52 = .ok (.putfield 36, 3) := by decide +kernel
theorem dX4_init_55 : decode cX4_init 55 = .ok (.aload_n 0, 1) := by decide +kernel
theorem dX4_init_56 : decode cX4_init 56 = .ok (.new 9, 3) := by decide +kernel
theorem dX4_init_59 : decode cX4_init 59 = .ok (.dup, 1) := by decide +kernel
theorem dX4_init_60 : decode cX4_init 60 = .ok (.invokespecial 35, 3) := by decide +kernel
theorem dX4_init_63 : decode cX4_init 63 = .ok (.putfield 40, 3) := by decide +kernel
theorem dX4_init_66 : decode cX4_init 66 = .ok (.aload_n 0, 1) := by decide +kernel
theorem dX4_init_67 : decode cX4_init 67 = .ok (.iconst 0, 1) := by decide +kernel
theorem dX4_init_68 : decode cX4_init 68 = .ok (.putfield 43, 3) := by decide +kernel
theorem dX4_init_71 : decode cX4_init 71 = .ok (.iconst 0, 1) := by decide +kernel
theorem dX4_init_72 : decode cX4_init 72 = .ok (.istore_n 1, 1) := by decide +kernel
theorem dX4_init_73 : decode cX4_init 73 = .ok (.iload_n 1, 1) := by decide +kernel
theorem dX4_init_74 : decode cX4_init 74 = .ok (.bipush 12, 2) := by decide +kernel
theorem dX4_init_76 : decode cX4_init 76 = .ok (.if_icmp .ge 22, 3) := by decide +kernel
theorem dX4_init_79 : decode cX4_init 79 = .ok (.aload_n 0, 1) := by decide +kernel
theorem dX4_init_80 : decode cX4_init 80 = .ok (.getfield 11, 3) := by decide +kernel
theorem dX4_init_83 : decode cX4_init 83 = .ok (.iload_n 1, 1) := by decide +kernel
theorem dX4_init_84 : decode cX4_init 84 = .ok (.new 9, 3) := by decide +kernel
theorem dX4_init_87 : decode cX4_init 87 = .ok (.dup, 1) := by decide +kernel
theorem dX4_init_88 : decode cX4_init 88 = .ok (.invokespecial 35, 3) := by decide +kernel
theorem dX4_init_91 : decode cX4_init 91 = .ok (.aastore, 1) := by decide +kernel
theorem dX4_init_92 : decode cX4_init 92 = .ok (.iinc 1 1, 3) := by decide +kernel
theorem dX4_init_95 : decode cX4_init 95 = .ok (.goto (-22), 3) := by decide +kernel
theorem dX4_init_98 : decode cX4_init 98 = .ok (.iconst 0, 1) := by decide +kernel
theorem dX4_init_99 : decode cX4_init 99 = .ok (.istore_n 1, 1) := by decide +kernel
theorem dX4_init_100 : decode cX4_init 100 = .ok (.iload_n 1, 1) := by decide +kernel
theorem dX4_init_101 : decode cX4_init 101 = .ok (.bipush 6, 2) := by decide +kernel
theorem dX4_init_103 : decode cX4_init 103 = .ok (.if_icmp .ge 22, 3) := by decide +kernel
theorem dX4_init_106 : decode cX4_init 106 = .ok (.aload_n 0, 1) := by decide +kernel
theorem dX4_init_107 : decode cX4_init 107 = .ok (.getfield 17, 3) := by decide +kernel
theorem dX4_init_110 : decode cX4_init 110 = .ok (.iload_n 1, 1) := by decide +kernel
theorem dX4_init_111 : decode cX4_init 111 = .ok (.new 15, 3) := by decide +kernel
theorem dX4_init_114 : decode cX4_init 114 = .ok (.dup, 1) := by decide +kernel
theorem dX4_init_115 : decode cX4_init 115 = .ok (.invokespecial 47, 3) := by decide +kernel
theorem dX4_init_118 : decode cX4_init 118 = .ok (.aastore, 1) := by decide +kernel
theorem dX4_init_119 : decode cX4_init 119 = .ok (.iinc 1 1, 3) := by decide +kernel
theorem dX4_init_122 : decode cX4_init 122 = .ok (.goto (-22), 3) := by decide +kernel
theorem dX4_init_125 : decode cX4_init 125 = .ok (.aload_n 0, 1) := by decide +kernel
theorem dX4_init_126 : decode cX4_init 126 = .ok (.getfield 40, 3) := by decide +kernel
theorem dX4_init_129 : decode cX4_init 129 = .ok (.iconst 5, 1) := by decide +kernel
theorem dX4_init_130 : decode cX4_init 130 = .ok (.iconst 1, 1) := by decide +kernel
theorem dX4_init_131 : decode cX4_init 131 = .ok (.invokevirtual 48, 3) := by decide +kernel
theorem dX4_init_134 : decode cX4_init 134 = .ok (.aload_n 0, 1) := by decide +kernel
theorem dX4_init_135 : decode cX4_init 135 = .ok (.getfield 36, 3) := by decide +kernel
theorem dX4_init_138 : decode cX4_init 138 = .ok (.iconst 3, 1) := by decide +kernel
theorem dX4_init_139 : decode cX4_init 139 = .ok (.bipush 40, 2) := by decide +kernel
theorem dX4_init_141 : decode cX4_init 141 = .ok (.invokevirtual 48, 3) := by decide +kernel
theorem dX4_init_144 : decode cX4_init 144 = .ok (.iconst 0, 1) := by decide +kernel
theorem dX4_init_145 : decode cX4_init 145 = .ok (.istore_n 1, 1) := by decide +kernel
theorem dX4_init_146 : decode cX4_init 146 = .ok (.iload_n 1, 1) := by decide +kernel
theorem dX4_init_147 : decode cX4_init 147 = .ok (.bipush 40, 2) := by decide +kernel
theorem dX4_init_149 : decode cX4_init 149 = .ok (.if_icmp .ge 19, 3) := by decide +kernel
theorem dX4_init_152 : decode cX4_init 152 = .ok (.aload_n 0, 1) := by decide +kernel
theorem dX4_init_153 : decode cX4_init 153 = .ok (.getfield 36, 3) := by decide +kernel
theorem dX4_init_156 : decode cX4_init 156 = .ok (.iload_n 1, 1) := by decide +kernel
theorem dX4_init_157 : decode cX4_init 157 = .ok (.lconst 1, 1) := by decide +kernel
theorem dX4_init_158 : decode cX4_init 158 = .ok (.iconst 0, 1) := by decide +kernel
theorem dX4_init_159 : decode cX4_init 159 = .ok (.invokevirtual 52, 3) := by decide +kernel
theorem dX4_init_162 : decode cX4_init 162 = .ok (.iinc 1 1, 3) := by decide +kernel
theorem dX4_init_165 : decode cX4_init 165 = .ok (.goto (-19), 3) := by decide +kernel
theorem dX4_init_168 : decode cX4_init 168 = .ok (.return_, 1) := by decide +kernel
theorem dX4_row_0 : decode cX4_row 0 = .ok (.iload_n 1, 1) := by decide +kernel
theorem dX4_row_1 : decode cX4_row 1 = .ok (.invokestatic 56, 3) := by decide +kernel
theorem dX4_row_4 : decode cX4_row 4 = .ok (.ifCond .eq 18, 3) := by decide +kernel
theorem dX4_row_7 : decode cX4_row 7 = .ok (.iload_n 2, 1) := by decide +kernel
theorem dX4_row_8 : decode cX4_row 8 = .ok (.ifCond .lt 14, 3) := by decide +kernel
theorem dX4_row_11 : decode cX4_row 11 = .ok (.iload_n 2, 1) := by decide +kernel
theorem dX4_row_12 : decode cX4_row 12 = .ok (.iconst 5, 1) := by decide +kernel
theorem dX4_row_13 : decode cX4_row 13 = .ok (.if_icmp .gt 9, 3) := by decide +kernel
theorem dX4_row_16 : decode cX4_row 16 = .ok (.iload_n 3, 1) := by decide +kernel
theorem dX4_row_17 : decode cX4_row 17 = .ok (.bipush 40, 2) := by decide +kernel
theorem dX4_row_19 : decode cX4_row 19 = .ok (.if_icmp .le 6, 3) := by decide +kernel
theorem dX4_row_22 : decode cX4_row 22 = .ok (.bipush (-3), 2) := by decide +kernel
theorem dX4_row_24 : decode cX4_row 24 = .ok (.ireturn, 1) := by decide +kernel
theorem dX4_row_25 : decode cX4_row 25 = .ok (.iload_n 3, 1) := by decide +kernel
theorem dX4_row_26 : decode cX4_row 26 = .ok (.ifCond .ge 6, 3) := by decide +kernel
theorem dX4_row_29 : decode cX4_row 29 = .ok (.bipush (-14), 2) := by decide +kernel
theorem dX4_row_31 : decode cX4_row 31 = .ok (.ireturn, 1) := by decide +kernel
theorem dX4_row_32 : decode cX4_row 32 = .ok (.aload_n 0, 1) := by decide +kernel
theorem dX4_row_33 : decode cX4_row 33 = .ok (.getfield 11, 3) := by decide +kernel
theorem dX4_row_36 : decode cX4_row 36 = .ok (.iload_n 1, 1) := by decide +kernel
theorem dX4_row_37 : decode cX4_row 37 = .ok (.aaload, 1) := by decide +kernel
theorem dX4_row_38 : decode cX4_row 38 = .ok (.iload_n 2, 1) := by decide +kernel
theorem dX4_row_39 : decode cX4_row 39 = .ok (.iload_n 3, 1) := by decide +kernel
theorem dX4_row_40 : decode cX4_row 40 = .ok (.invokevirtual 48, 3) := by decide +kernel
theorem dX4_row_43 : decode cX4_row 43 = .ok (.iload_n 3, 1) := by decide +kernel
theorem dX4_row_44 : decode cX4_row 44 = .ok (.ireturn, 1) := by decide +kernel
theorem dX4_lose_0 : decode cX4_lose 0 = .ok (.iload_n 1, 1) := by decide +kernel
theorem dX4_lose_1 : decode cX4_lose 1 = .ok (.invokestatic 56, 3) := by decide +kernel
theorem dX4_lose_4 : decode cX4_lose 4 = .ok (.ifCond .ne 6, 3) := by decide +kernel
theorem dX4_lose_7 : decode cX4_lose 7 = .ok (.bipush (-3), 2) := by decide +kernel
theorem dX4_lose_9 : decode cX4_lose 9 = .ok (.ireturn, 1) := by decide +kernel
theorem dX4_lose_10 : decode cX4_lose 10 = .ok (.aload_n 0, 1) := by decide +kernel
theorem dX4_lose_11 : decode cX4_lose 11 = .ok (.getfield 11, 3) := by decide +kernel
theorem dX4_lose_14 : decode cX4_lose 14 = .ok (.iload_n 1, 1) := by decide +kernel
theorem dX4_lose_15 : decode cX4_lose 15 = .ok (.aaload, 1) := by decide +kernel
theorem dX4_lose_16 : decode cX4_lose 16 = .ok (.astore_n 2, 1) := by decide +kernel
theorem dX4_lose_17 : decode cX4_lose 17 = .ok (.aload_n 2, 1) := by decide +kernel
theorem dX4_lose_18 : decode cX4_lose 18 = .ok (.getfield 60, 3) := by decide +kernel
theorem dX4_lose_21 : decode cX4_lose 21 = .ok (.ifCond .ne 6, 3) := by decide +kernel
theorem dX4_lose_24 : decode cX4_lose 24 = .ok (.bipush (-11), 2) := by decide +kernel
theorem dX4_lose_26 : decode cX4_lose 26 = .ok (.ireturn, 1) := by decide +kernel
theorem dX4_lose_27 : decode cX4_lose 27 = .ok (.aload_n 2, 1) := by decide +kernel
theorem dX4_lose_28 : decode cX4_lose 28 = .ok (.iconst 0, 1) := by decide +kernel
theorem dX4_lose_29 : decode cX4_lose 29 = .ok (.putfield 60, 3) := by decide +kernel
theorem dX4_lose_32 : decode cX4_lose 32 = .ok (.aload_n 2, 1) := by decide +kernel
theorem dX4_lose_33 : decode cX4_lose 33 = .ok (.getfield 64, 3) := by decide +kernel
theorem dX4_lose_36 : decode cX4_lose 36 = .ok (.ireturn, 1) := by decide +kernel
theorem dX4_put_0 : decode cX4_put 0 = .ok (.iload_n 1, 1) := by decide +kernel
theorem dX4_put_1 : decode cX4_put 1 = .ok (.invokestatic 56, 3) := by decide +kernel
theorem dX4_put_4 : decode cX4_put 4 = .ok (.ifCond .eq 35, 3) := by decide +kernel
theorem dX4_put_7 : decode cX4_put 7 = .ok (.lload_n 3, 1) := by decide +kernel
theorem dX4_put_8 : decode cX4_put 8 = .ok (.ldc2_w 67, 3) := by decide +kernel
theorem dX4_put_11 : decode cX4_put 11 = .ok (.lcmp, 1) := by decide +kernel
theorem dX4_put_12 : decode cX4_put 12 = .ok (.ifCond .le 27, 3) := by decide +kernel
theorem dX4_put_15 : decode cX4_put 15 = .ok (.lload_n 3, 1) := by decide +kernel
theorem dX4_put_16 : decode cX4_put 16 = .ok (.ldc2_w 69, 3) := by decide +kernel
theorem dX4_put_19 : decode cX4_put 19 = .ok (.lcmp, 1) := by decide +kernel
theorem dX4_put_20 : decode cX4_put 20 = .ok (.ifCond .ge 19, 3) := by decide +kernel
theorem dX4_put_23 : decode cX4_put 23 = .ok (.iload 5, 2) := by decide +kernel
theorem dX4_put_25 : decode cX4_put 25 = .ok (.sipush (-1074), 3) := by decide +kernel
theorem dX4_put_28 : decode cX4_put 28 = .ok (.if_icmp .lt 11, 3) := by decide +kernel
theorem dX4_put_31 : decode cX4_put 31 = .ok (.iload 5, 2) := by decide +kernel
theorem dX4_put_33 : decode cX4_put 33 = .ok (.sipush 971, 3) := by decide +kernel
theorem dX4_put_36 : decode cX4_put 36 = .ok (.if_icmp .le 6, 3) := by decide +kernel
theorem dX4_put_39 : decode cX4_put 39 = .ok (.bipush (-3), 2) := by decide +kernel
theorem dX4_put_41 : decode cX4_put 41 = .ok (.ireturn, 1) := by decide +kernel
theorem dX4_put_42 : decode cX4_put 42 = .ok (.aload_n 0, 1) := by decide +kernel
theorem dX4_put_43 : decode cX4_put 43 = .ok (.getfield 11, 3) := by decide +kernel
theorem dX4_put_46 : decode cX4_put 46 = .ok (.iload_n 1, 1) := by decide +kernel
theorem dX4_put_47 : decode cX4_put 47 = .ok (.aaload, 1) := by decide +kernel
theorem dX4_put_48 : decode cX4_put 48 = .ok (.astore 6, 2) := by decide +kernel
theorem dX4_put_50 : decode cX4_put 50 = .ok (.aload 6, 2) := by decide +kernel
theorem dX4_put_52 : decode cX4_put 52 = .ok (.getfield 60, 3) := by decide +kernel
theorem dX4_put_55 : decode cX4_put 55 = .ok (.ifCond .ne 6, 3) := by decide +kernel
theorem dX4_put_58 : decode cX4_put 58 = .ok (.bipush (-11), 2) := by decide +kernel
theorem dX4_put_60 : decode cX4_put 60 = .ok (.ireturn, 1) := by decide +kernel
theorem dX4_put_61 : decode cX4_put 61 = .ok (.aload 6, 2) := by decide +kernel
theorem dX4_put_63 : decode cX4_put 63 = .ok (.iload_n 2, 1) := by decide +kernel
theorem dX4_put_64 : decode cX4_put 64 = .ok (.iconst 1, 1) := by decide +kernel
theorem dX4_put_65 : decode cX4_put 65 = .ok (.invokevirtual 71, 3) := by decide +kernel
theorem dX4_put_68 : decode cX4_put 68 = .ok (.ifCond .ne 6, 3) := by decide +kernel
theorem dX4_put_71 : decode cX4_put 71 = .ok (.bipush (-13), 2) := by decide +kernel
theorem dX4_put_73 : decode cX4_put 73 = .ok (.ireturn, 1) := by decide +kernel
theorem dX4_put_74 : decode cX4_put 74 = .ok (.aload 6, 2) := by decide +kernel
theorem dX4_put_76 : decode cX4_put 76 = .ok (.iload_n 2, 1) := by decide +kernel
theorem dX4_put_77 : decode cX4_put 77 = .ok (.lload_n 3, 1) := by decide +kernel
theorem dX4_put_78 : decode cX4_put 78 = .ok (.iload 5, 2) := by decide +kernel
theorem dX4_put_80 : decode cX4_put 80 = .ok (.invokevirtual 52, 3) := by decide +kernel
theorem dX4_put_83 : decode cX4_put 83 = .ok (.iconst 0, 1) := by decide +kernel
theorem dX4_put_84 : decode cX4_put 84 = .ok (.ireturn, 1) := by decide +kernel
theorem dX4_mark_0 : decode cX4_mark 0 = .ok (.iload_n 1, 1) := by decide +kernel
theorem dX4_mark_1 : decode cX4_mark 1 = .ok (.invokestatic 56, 3) := by decide +kernel
theorem dX4_mark_4 : decode cX4_mark 4 = .ok (.ifCond .eq 12, 3) := by decide +kernel
theorem dX4_mark_7 : decode cX4_mark 7 = .ok (.iload_n 3, 1) := by decide +kernel
theorem dX4_mark_8 : decode cX4_mark 8 = .ok (.ifCond .lt 8, 3) := by decide +kernel
theorem dX4_mark_11 : decode cX4_mark 11 = .ok (.iload_n 3, 1) := by decide +kernel
theorem dX4_mark_12 : decode cX4_mark 12 = .ok (.iconst 5, 1) := by decide +kernel
theorem dX4_mark_13 : decode cX4_mark 13 = .ok (.if_icmp .le 6, 3) := by decide +kernel
theorem dX4_mark_16 : decode cX4_mark 16 = .ok (.bipush (-3), 2) := by decide +kernel
theorem dX4_mark_18 : decode cX4_mark 18 = .ok (.ireturn, 1) := by decide +kernel
theorem dX4_mark_19 : decode cX4_mark 19 = .ok (.aload_n 0, 1) := by decide +kernel
theorem dX4_mark_20 : decode cX4_mark 20 = .ok (.getfield 11, 3) := by decide +kernel
theorem dX4_mark_23 : decode cX4_mark 23 = .ok (.iload_n 1, 1) := by decide +kernel
theorem dX4_mark_24 : decode cX4_mark 24 = .ok (.aaload, 1) := by decide +kernel
theorem dX4_mark_25 : decode cX4_mark 25 = .ok (.astore 4, 2) := by decide +kernel
theorem dX4_mark_27 : decode cX4_mark 27 = .ok (.aload 4, 2) := by decide +kernel
theorem dX4_mark_29 : decode cX4_mark 29 = .ok (.getfield 60, 3) := by decide +kernel
theorem dX4_mark_32 : decode cX4_mark 32 = .ok (.ifCond .ne 6, 3) := by decide +kernel
theorem dX4_mark_35 : decode cX4_mark 35 = .ok (.bipush (-11), 2) := by decide +kernel
theorem dX4_mark_37 : decode cX4_mark 37 = .ok (.ireturn, 1) := by decide +kernel
theorem dX4_mark_38 : decode cX4_mark 38 = .ok (.aload 4, 2) := by decide +kernel
theorem dX4_mark_40 : decode cX4_mark 40 = .ok (.invokevirtual 75, 3) := by decide +kernel
theorem dX4_mark_43 : decode cX4_mark 43 = .ok (.ifCond .ne 6, 3) := by decide +kernel
theorem dX4_mark_46 : decode cX4_mark 46 = .ok (.bipush (-12), 2) := by decide +kernel
theorem dX4_mark_48 : decode cX4_mark 48 = .ok (.ireturn, 1) := by decide +kernel
theorem dX4_mark_49 : decode cX4_mark 49 = .ok (.aload 4, 2) := by decide +kernel
theorem dX4_mark_51 : decode cX4_mark 51 = .ok (.iload_n 2, 1) := by decide +kernel
theorem dX4_mark_52 : decode cX4_mark 52 = .ok (.iconst 1, 1) := by decide +kernel
theorem dX4_mark_53 : decode cX4_mark 53 = .ok (.invokevirtual 71, 3) := by decide +kernel
theorem dX4_mark_56 : decode cX4_mark 56 = .ok (.ifCond .ne 6, 3) := by decide +kernel
theorem dX4_mark_59 : decode cX4_mark 59 = .ok (.bipush (-13), 2) := by decide +kernel
theorem dX4_mark_61 : decode cX4_mark 61 = .ok (.ireturn, 1) := by decide +kernel
theorem dX4_mark_62 : decode cX4_mark 62 = .ok (.aload 4, 2) := by decide +kernel
theorem dX4_mark_64 : decode cX4_mark 64 = .ok (.iload_n 2, 1) := by decide +kernel
theorem dX4_mark_65 : decode cX4_mark 65 = .ok (.iload_n 3, 1) := by decide +kernel
theorem dX4_mark_66 : decode cX4_mark 66 = .ok (.invokevirtual 79, 3) := by decide +kernel
theorem dX4_mark_69 : decode cX4_mark 69 = .ok (.iconst 0, 1) := by decide +kernel
theorem dX4_mark_70 : decode cX4_mark 70 = .ok (.ireturn, 1) := by decide +kernel
theorem dX4_copy_0 : decode cX4_copy 0 = .ok (.iload_n 1, 1) := by decide +kernel
theorem dX4_copy_1 : decode cX4_copy 1 = .ok (.invokestatic 56, 3) := by decide +kernel
theorem dX4_copy_4 : decode cX4_copy 4 = .ok (.ifCond .eq 10, 3) := by decide +kernel
theorem dX4_copy_7 : decode cX4_copy 7 = .ok (.iload_n 3, 1) := by decide +kernel
theorem dX4_copy_8 : decode cX4_copy 8 = .ok (.invokestatic 56, 3) := by decide +kernel
theorem dX4_copy_11 : decode cX4_copy 11 = .ok (.ifCond .ne 6, 3) := by decide +kernel
theorem dX4_copy_14 : decode cX4_copy 14 = .ok (.bipush (-3), 2) := by decide +kernel
theorem dX4_copy_16 : decode cX4_copy 16 = .ok (.ireturn, 1) := by decide +kernel
theorem dX4_copy_17 : decode cX4_copy 17 = .ok (.aload_n 0, 1) := by decide +kernel
theorem dX4_copy_18 : decode cX4_copy 18 = .ok (.getfield 11, 3) := by decide +kernel
theorem dX4_copy_21 : decode cX4_copy 21 = .ok (.iload_n 1, 1) := by decide +kernel
theorem dX4_copy_22 : decode cX4_copy 22 = .ok (.aaload, 1) := by decide +kernel
theorem dX4_copy_23 : decode cX4_copy 23 = .ok (.astore 6, 2) := by decide +kernel
theorem dX4_copy_25 : decode cX4_copy 25 = .ok (.aload_n 0, 1) := by decide +kernel
theorem dX4_copy_26 : decode cX4_copy 26 = .ok (.getfield 11, 3) := by decide +kernel
theorem dX4_copy_29 : decode cX4_copy 29 = .ok (.iload_n 3, 1) := by decide +kernel
theorem dX4_copy_30 : decode cX4_copy 30 = .ok (.aaload, 1) := by decide +kernel
theorem dX4_copy_31 : decode cX4_copy 31 = .ok (.astore 7, 2) := by decide +kernel
theorem dX4_copy_33 : decode cX4_copy 33 = .ok (.aload 6, 2) := by decide +kernel
theorem dX4_copy_35 : decode cX4_copy 35 = .ok (.getfield 60, 3) := by decide +kernel
theorem dX4_copy_38 : decode cX4_copy 38 = .ok (.ifCond .eq 11, 3) := by decide +kernel
theorem dX4_copy_41 : decode cX4_copy 41 = .ok (.aload 7, 2) := by decide +kernel
theorem dX4_copy_43 : decode cX4_copy 43 = .ok (.getfield 60, 3) := by decide +kernel
theorem dX4_copy_46 : decode cX4_copy 46 = .ok (.ifCond .ne 6, 3) := by decide +kernel
theorem dX4_copy_49 : decode cX4_copy 49 = .ok (.bipush (-11), 2) := by decide +kernel
theorem dX4_copy_51 : decode cX4_copy 51 = .ok (.ireturn, 1) := by decide +kernel
theorem dX4_copy_52 : decode cX4_copy 52 = .ok (.aload 6, 2) := by decide +kernel
theorem dX4_copy_54 : decode cX4_copy 54 = .ok (.getfield 82, 3) := by decide +kernel
theorem dX4_copy_57 : decode cX4_copy 57 = .ok (.aload 7, 2) := by decide +kernel
theorem dX4_copy_59 : decode cX4_copy 59 = .ok (.getfield 82, 3) := by decide +kernel
theorem dX4_copy_62 : decode cX4_copy 62 = .ok (.if_icmp .eq 6, 3) := by decide +kernel
theorem dX4_copy_65 : decode cX4_copy 65 = .ok (.bipush (-12), 2) := by decide +kernel
theorem dX4_copy_67 : decode cX4_copy 67 = .ok (.ireturn, 1) := by decide +kernel
theorem dX4_copy_68 : decode cX4_copy 68 = .ok (.iload 5, 2) := by decide +kernel
theorem dX4_copy_70 : decode cX4_copy 70 = .ok (.ifCond .lt 26, 3) := by decide +kernel
theorem dX4_copy_73 : decode cX4_copy 73 = .ok (.aload 6, 2) := by decide +kernel
theorem dX4_copy_75 : decode cX4_copy 75 = .ok (.iload_n 2, 1) := by decide +kernel
theorem dX4_copy_76 : decode cX4_copy 76 = .ok (.iload 5, 2) := by decide +kernel
theorem dX4_copy_78 : decode cX4_copy 78 = .ok (.invokevirtual 71, 3) := by decide +kernel
theorem dX4_copy_81 : decode cX4_copy 81 = .ok (.ifCond .eq 15, 3) := by decide +kernel
theorem dX4_copy_84 : decode cX4_copy 84 = .ok (.aload 7, 2) := by decide +kernel
theorem dX4_copy_86 : decode cX4_copy 86 = .ok (.iload 4, 2) := by decide +kernel
theorem dX4_copy_88 : decode cX4_copy 88 = .ok (.iload 5, 2) := by decide +kernel
theorem dX4_copy_90 : decode cX4_copy 90 = .ok (.invokevirtual 71, 3) := by decide +kernel
theorem dX4_copy_93 : decode cX4_copy 93 = .ok (.ifCond .ne 6, 3) := by decide +kernel
theorem dX4_copy_96 : decode cX4_copy 96 = .ok (.bipush (-13), 2) := by decide +kernel
theorem dX4_copy_98 : decode cX4_copy 98 = .ok (.ireturn, 1) := by decide +kernel
theorem dX4_copy_99 : decode cX4_copy 99 = .ok (.aload 7, 2) := by decide +kernel
theorem dX4_copy_101 : decode cX4_copy 101 = .ok (.aload 6, 2) := by decide +kernel
theorem dX4_copy_103 : decode cX4_copy 103 = .ok (.iload_n 2, 1) := by decide +kernel
theorem dX4_copy_104 : decode cX4_copy 104 = .ok (.iload 4, 2) := by decide +kernel
theorem dX4_copy_106 : decode cX4_copy 106 = .ok (.iload 5, 2) := by decide +kernel
theorem dX4_copy_108 : decode cX4_copy 108 = .ok (.invokevirtual 85, 3) := by decide +kernel
theorem dX4_copy_111 : decode cX4_copy 111 = .ok (.iload 5, 2) := by decide +kernel
theorem dX4_copy_113 : decode cX4_copy 113 = .ok (.ireturn, 1) := by decide +kernel
theorem dX4_look_0 : decode cX4_look 0 = .ok (.iload_n 1, 1) := by decide +kernel
theorem dX4_look_1 : decode cX4_look 1 = .ok (.invokestatic 56, 3) := by decide +kernel
theorem dX4_look_4 : decode cX4_look 4 = .ok (.ifCond .eq 12, 3) := by decide +kernel
theorem dX4_look_7 : decode cX4_look 7 = .ok (.iload_n 2, 1) := by decide +kernel
theorem dX4_look_8 : decode cX4_look 8 = .ok (.ifCond .lt 8, 3) := by decide +kernel
theorem dX4_look_11 : decode cX4_look 11 = .ok (.iload_n 2, 1) := by decide +kernel
theorem dX4_look_12 : decode cX4_look 12 = .ok (.iconst 3, 1) := by decide +kernel
theorem dX4_look_13 : decode cX4_look 13 = .ok (.if_icmp .le 7, 3) := by decide +kernel
theorem dX4_look_16 : decode cX4_look 16 = .ok (.ldc2_w 89, 3) := by decide +kernel
theorem dX4_look_19 : decode cX4_look 19 = .ok (.lreturn, 1) := by decide +kernel
theorem dX4_look_20 : decode cX4_look 20 = .ok (.aload_n 0, 1) := by decide +kernel
theorem dX4_look_21 : decode cX4_look 21 = .ok (.getfield 11, 3) := by decide +kernel
theorem dX4_look_24 : decode cX4_look 24 = .ok (.iload_n 1, 1) := by decide +kernel
theorem dX4_look_25 : decode cX4_look 25 = .ok (.aaload, 1) := by decide +kernel
theorem dX4_look_26 : decode cX4_look 26 = .ok (.astore 4, 2) := by decide +kernel
theorem dX4_look_28 : decode cX4_look 28 = .ok (.aload 4, 2) := by decide +kernel
theorem dX4_look_30 : decode cX4_look 30 = .ok (.getfield 60, 3) := by decide +kernel
theorem dX4_look_33 : decode cX4_look 33 = .ok (.ifCond .ne 7, 3) := by decide +kernel
theorem dX4_look_36 : decode cX4_look 36 = .ok (.ldc2_w 91, 3) := by decide +kernel
theorem dX4_look_39 : decode cX4_look 39 = .ok (.lreturn, 1) := by decide +kernel
theorem dX4_look_40 : decode cX4_look 40 = .ok (.aload 4, 2) := by decide +kernel
theorem dX4_look_42 : decode cX4_look 42 = .ok (.getfield 82, 3) := by decide +kernel
theorem dX4_look_45 : decode cX4_look 45 = .ok (.iload_n 2, 1) := by decide +kernel
theorem dX4_look_46 : decode cX4_look 46 = .ok (.if_icmp .eq 7, 3) := by decide +kernel
theorem dX4_look_49 : decode cX4_look 49 = .ok (.ldc2_w 93, 3) := by decide +kernel
theorem dX4_look_52 : decode cX4_look 52 = .ok (.lreturn, 1) := by decide +kernel
theorem dX4_look_53 : decode cX4_look 53 = .ok (.aload 4, 2) := by decide +kernel
theorem dX4_look_55 : decode cX4_look 55 = .ok (.iload_n 3, 1) := by decide +kernel
theorem dX4_look_56 : decode cX4_look 56 = .ok (.iconst 1, 1) := by decide +kernel
theorem dX4_look_57 : decode cX4_look 57 = .ok (.invokevirtual 71, 3) := by decide +kernel
theorem dX4_look_60 : decode cX4_look 60 = .ok (.ifCond .ne 7, 3) := by decide +kernel
theorem dX4_look_63 : decode cX4_look 63 = .ok (.ldc2_w 95, 3) := by decide +kernel
theorem dX4_look_66 : decode cX4_look 66 = .ok (.lreturn, 1) := by decide +kernel
theorem dX4_look_67 : decode cX4_look 67 = .ok (.aload 4, 2) := by decide +kernel
theorem dX4_look_69 : decode cX4_look 69 = .ok (.getfield 97, 3) := by decide +kernel
theorem dX4_look_72 : decode cX4_look 72 = .ok (.iload_n 3, 1) := by decide +kernel
theorem dX4_look_73 : decode cX4_look 73 = .ok (.laload, 1) := by decide +kernel
theorem dX4_look_74 : decode cX4_look 74 = .ok (.lreturn, 1) := by decide +kernel
theorem dX4_see_0 : decode cX4_see 0 = .ok (.iload_n 1, 1) := by decide +kernel
theorem dX4_see_1 : decode cX4_see 1 = .ok (.invokestatic 56, 3) := by decide +kernel
theorem dX4_see_4 : decode cX4_see 4 = .ok (.ifCond .ne 5, 3) := by decide +kernel
theorem dX4_see_7 : decode cX4_see 7 = .ok (.dconst 0, 1) := by decide +kernel
theorem dX4_see_8 : decode cX4_see 8 = .ok (.dreturn, 1) := by decide +kernel
theorem dX4_see_9 : decode cX4_see 9 = .ok (.aload_n 0, 1) := by decide +kernel
theorem dX4_see_10 : decode cX4_see 10 = .ok (.getfield 11, 3) := by decide +kernel
theorem dX4_see_13 : decode cX4_see 13 = .ok (.iload_n 1, 1) := by decide +kernel
theorem dX4_see_14 : decode cX4_see 14 = .ok (.aaload, 1) := by decide +kernel
theorem dX4_see_15 : decode cX4_see 15 = .ok (.astore_n 3, 1) := by decide +kernel
theorem dX4_see_16 : decode cX4_see 16 = .ok (.aload_n 3, 1) := by decide +kernel
theorem dX4_see_17 : decode cX4_see 17 = .ok (.getfield 60, 3) := by decide +kernel
theorem dX4_see_20 : decode cX4_see 20 = .ok (.ifCond .eq 19, 3) := by decide +kernel
theorem dX4_see_23 : decode cX4_see 23 = .ok (.aload_n 3, 1) := by decide +kernel
theorem dX4_see_24 : decode cX4_see 24 = .ok (.invokevirtual 75, 3) := by decide +kernel
theorem dX4_see_27 : decode cX4_see 27 = .ok (.ifCond .eq 12, 3) := by decide +kernel
theorem dX4_see_30 : decode cX4_see 30 = .ok (.aload_n 3, 1) := by decide +kernel
theorem dX4_see_31 : decode cX4_see 31 = .ok (.iload_n 2, 1) := by decide +kernel
theorem dX4_see_32 : decode cX4_see 32 = .ok (.iconst 1, 1) := by decide +kernel
theorem dX4_see_33 : decode cX4_see 33 = .ok (.invokevirtual 71, 3) := by decide +kernel
theorem dX4_see_36 : decode cX4_see 36 = .ok (.ifCond .ne 5, 3) := by decide +kernel
theorem dX4_see_39 : decode cX4_see 39 = .ok (.dconst 0, 1) := by decide +kernel
theorem dX4_see_40 : decode cX4_see 40 = .ok (.dreturn, 1) := by decide +kernel
theorem dX4_see_41 : decode cX4_see 41 = .ok (.aload_n 3, 1) := by decide +kernel
theorem dX4_see_42 : decode cX4_see 42 = .ok (.iload_n 2, 1) := by decide +kernel
theorem dX4_see_43 : decode cX4_see 43 = .ok (.invokevirtual 101, 3) := by decide +kernel
theorem dX4_see_46 : decode cX4_see 46 = .ok (.dreturn, 1) := by decide +kernel
theorem dX4_compare_0 : decode cX4_compare 0 = .ok (.iload_n 1, 1) := by decide +kernel
theorem dX4_compare_1 : decode cX4_compare 1 = .ok (.invokestatic 56, 3) := by decide +kernel
theorem dX4_compare_4 : decode cX4_compare 4 = .ok (.ifCond .ne 6, 3) := by decide +kernel
theorem dX4_compare_7 : decode cX4_compare 7 = .ok (.bipush (-3), 2) := by decide +kernel
theorem dX4_compare_9 : decode cX4_compare 9 = .ok (.ireturn, 1) := by decide +kernel
theorem dX4_compare_10 : decode cX4_compare 10 = .ok (.aload_n 0, 1) := by decide +kernel
theorem dX4_compare_11 : decode cX4_compare 11 = .ok (.getfield 11, 3) := by decide +kernel
theorem dX4_compare_14 : decode cX4_compare 14 = .ok (.iload_n 1, 1) := by decide +kernel
theorem dX4_compare_15 : decode cX4_compare 15 = .ok (.aaload, 1) := by decide +kernel
theorem dX4_compare_16 : decode cX4_compare 16 = .ok (.astore 5, 2) := by decide +kernel
theorem dX4_compare_18 : decode cX4_compare 18 = .ok (.aload 5, 2) := by decide +kernel
theorem dX4_compare_20 : decode cX4_compare 20 = .ok (.getfield 60, 3) := by decide +kernel
theorem dX4_compare_23 : decode cX4_compare 23 = .ok (.ifCond .ne 6, 3) := by decide +kernel
theorem dX4_compare_26 : decode cX4_compare 26 = .ok (.bipush (-11), 2) := by decide +kernel
theorem dX4_compare_28 : decode cX4_compare 28 = .ok (.ireturn, 1) := by decide +kernel
theorem dX4_compare_29 : decode cX4_compare 29 = .ok (.aload 5, 2) := by decide +kernel
theorem dX4_compare_31 : decode cX4_compare 31 = .ok (.iload_n 2, 1) := by decide +kernel
theorem dX4_compare_32 : decode cX4_compare 32 = .ok (.iconst 1, 1) := by decide +kernel
theorem dX4_compare_33 : decode cX4_compare 33 = .ok (.invokevirtual 71, 3) := by decide +kernel
theorem dX4_compare_36 : decode cX4_compare 36 = .ok (.ifCond .ne 6, 3) := by decide +kernel
theorem dX4_compare_39 : decode cX4_compare 39 = .ok (.bipush (-13), 2) := by decide +kernel
theorem dX4_compare_41 : decode cX4_compare 41 = .ok (.ireturn, 1) := by decide +kernel
theorem dX4_compare_42 : decode cX4_compare 42 = .ok (.aload 5, 2) := by decide +kernel
theorem dX4_compare_44 : decode cX4_compare 44 = .ok (.iload_n 2, 1) := by decide +kernel
theorem dX4_compare_45 : decode cX4_compare 45 = .ok (.invokevirtual 105, 3) := by decide +kernel
theorem dX4_compare_48 : decode cX4_compare 48 = .ok (.iconst 3, 1) := by decide +kernel
theorem dX4_compare_49 : decode cX4_compare 49 = .ok (.if_icmp .ne 5, 3) := by decide +kernel
theorem dX4_compare_52 : decode cX4_compare 52 = .ok (.iconst 0, 1) := by decide +kernel
theorem dX4_compare_53 : decode cX4_compare 53 = .ok (.ireturn, 1) := by decide +kernel
theorem dX4_compare_54 : decode cX4_compare 54 = .ok (.aload 5, 2) := by decide +kernel
theorem dX4_compare_56 : decode cX4_compare 56 = .ok (.iload_n 2, 1) := by decide +kernel
theorem dX4_compare_57 : decode cX4_compare 57 = .ok (.invokevirtual 101, 3) := by decide +kernel
theorem dX4_compare_60 : decode cX4_compare 60 = .ok (.dstore 6, 2) := by decide +kernel
theorem dX4_compare_62 : decode cX4_compare 62 = .ok (.dload 6, 2) := by decide +kernel
theorem dX4_compare_64 : decode cX4_compare 64 = .ok (.dload_n 3, 1) := by decide +kernel
theorem dX4_compare_65 : decode cX4_compare 65 = .ok (.dcmp .g, 1) := by decide +kernel
theorem dX4_compare_66 : decode cX4_compare 66 = .ok (.ifCond .ge 5, 3) := by decide +kernel
theorem dX4_compare_69 : decode cX4_compare 69 = .ok (.iconst 1, 1) := by decide +kernel
theorem dX4_compare_70 : decode cX4_compare 70 = .ok (.ireturn, 1) := by decide +kernel
theorem dX4_compare_71 : decode cX4_compare 71 = .ok (.dload 6, 2) := by decide +kernel
theorem dX4_compare_73 : decode cX4_compare 73 = .ok (.dload_n 3, 1) := by decide +kernel
theorem dX4_compare_74 : decode cX4_compare 74 = .ok (.dcmp .l, 1) := by decide +kernel
theorem dX4_compare_75 : decode cX4_compare 75 = .ok (.ifCond .ne 5, 3) := by decide +kernel
theorem dX4_compare_78 : decode cX4_compare 78 = .ok (.iconst 2, 1) := by decide +kernel
theorem dX4_compare_79 : decode cX4_compare 79 = .ok (.ireturn, 1) := by decide +kernel
theorem dX4_compare_80 : decode cX4_compare 80 = .ok (.dload 6, 2) := by decide +kernel
theorem dX4_compare_82 : decode cX4_compare 82 = .ok (.dload_n 3, 1) := by decide +kernel
theorem dX4_compare_83 : decode cX4_compare 83 = .ok (.dcmp .l, 1) := by decide +kernel
theorem dX4_compare_84 : decode cX4_compare 84 = .ok (.ifCond .le 7, 3) := by decide +kernel
theorem dX4_compare_87 : decode cX4_compare 87 = .ok (.iconst 3, 1) := by decide +kernel
theorem dX4_compare_88 : decode cX4_compare 88 = .ok (.goto 4, 3) := by decide +kernel
theorem dX4_compare_91 : decode cX4_compare 91 = .ok (.iconst 0, 1) := by decide +kernel
theorem dX4_compare_92 : decode cX4_compare 92 = .ok (.ireturn, 1) := by decide +kernel
theorem dX4_keeper_0 : decode cX4_keeper 0 = .ok (.iload_n 1, 1) := by decide +kernel
theorem dX4_keeper_1 : decode cX4_keeper 1 = .ok (.invokestatic 109, 3) := by decide +kernel
theorem dX4_keeper_4 : decode cX4_keeper 4 = .ok (.ifCond .eq 12, 3) := by decide +kernel
theorem dX4_keeper_7 : decode cX4_keeper 7 = .ok (.iload_n 2, 1) := by decide +kernel
theorem dX4_keeper_8 : decode cX4_keeper 8 = .ok (.ifCond .lt 8, 3) := by decide +kernel
theorem dX4_keeper_11 : decode cX4_keeper 11 = .ok (.iload_n 2, 1) := by decide +kernel
theorem dX4_keeper_12 : decode cX4_keeper 12 = .ok (.iconst 2, 1) := by decide +kernel
theorem dX4_keeper_13 : decode cX4_keeper 13 = .ok (.if_icmp .le 6, 3) := by decide +kernel
theorem dX4_keeper_16 : decode cX4_keeper 16 = .ok (.bipush (-3), 2) := by decide +kernel
theorem dX4_keeper_18 : decode cX4_keeper 18 = .ok (.ireturn, 1) := by decide +kernel
theorem dX4_keeper_19 : decode cX4_keeper 19 = .ok (.aload_n 0, 1) := by decide +kernel
theorem dX4_keeper_20 : decode cX4_keeper 20 = .ok (.iload_n 1, 1) := by decide +kernel
theorem dX4_keeper_21 : decode cX4_keeper 21 = .ok (.invokevirtual 112, 3) := by decide +kernel
theorem dX4_keeper_24 : decode cX4_keeper 24 = .ok (.aload_n 0, 1) := by decide +kernel
theorem dX4_keeper_25 : decode cX4_keeper 25 = .ok (.getfield 17, 3) := by decide +kernel
theorem dX4_keeper_28 : decode cX4_keeper 28 = .ok (.iload_n 1, 1) := by decide +kernel
theorem dX4_keeper_29 : decode cX4_keeper 29 = .ok (.aaload, 1) := by decide +kernel
theorem dX4_keeper_30 : decode cX4_keeper 30 = .ok (.iload_n 2, 1) := by decide +kernel
theorem dX4_keeper_31 : decode cX4_keeper 31 = .ok (.invokevirtual 116, 3) := by decide +kernel
theorem dX4_keeper_34 : decode cX4_keeper 34 = .ok (.iconst 0, 1) := by decide +kernel
theorem dX4_keeper_35 : decode cX4_keeper 35 = .ok (.ireturn, 1) := by decide +kernel
theorem dX4_add_0 : decode cX4_add 0 = .ok (.iload_n 1, 1) := by decide +kernel
theorem dX4_add_1 : decode cX4_add 1 = .ok (.invokestatic 109, 3) := by decide +kernel
theorem dX4_add_4 : decode cX4_add 4 = .ok (.ifCond .eq 24, 3) := by decide +kernel
theorem dX4_add_7 : decode cX4_add 7 = .ok (.iload_n 2, 1) := by decide +kernel
theorem dX4_add_8 : decode cX4_add 8 = .ok (.invokestatic 56, 3) := by decide +kernel
theorem dX4_add_11 : decode cX4_add 11 = .ok (.ifCond .eq 17, 3) := by decide +kernel
theorem dX4_add_14 : decode cX4_add 14 = .ok (.iload 4, 2) := by decide +kernel
theorem dX4_add_16 : decode cX4_add 16 = .ok (.bipush (-40), 2) := by decide +kernel
theorem dX4_add_18 : decode cX4_add 18 = .ok (.if_icmp .lt 10, 3) := by decide +kernel
theorem dX4_add_21 : decode cX4_add 21 = .ok (.iload 4, 2) := by decide +kernel
theorem dX4_add_23 : decode cX4_add 23 = .ok (.bipush 40, 2) := by decide +kernel
theorem dX4_add_25 : decode cX4_add 25 = .ok (.if_icmp .le 6, 3) := by decide +kernel
theorem dX4_add_28 : decode cX4_add 28 = .ok (.bipush (-3), 2) := by decide +kernel
theorem dX4_add_30 : decode cX4_add 30 = .ok (.ireturn, 1) := by decide +kernel
theorem dX4_add_31 : decode cX4_add 31 = .ok (.aload_n 0, 1) := by decide +kernel
theorem dX4_add_32 : decode cX4_add 32 = .ok (.getfield 17, 3) := by decide +kernel
theorem dX4_add_35 : decode cX4_add 35 = .ok (.iload_n 1, 1) := by decide +kernel
theorem dX4_add_36 : decode cX4_add 36 = .ok (.aaload, 1) := by decide +kernel
theorem dX4_add_37 : decode cX4_add 37 = .ok (.astore 5, 2) := by decide +kernel
theorem dX4_add_39 : decode cX4_add 39 = .ok (.aload_n 0, 1) := by decide +kernel
theorem dX4_add_40 : decode cX4_add 40 = .ok (.getfield 11, 3) := by decide +kernel
theorem dX4_add_43 : decode cX4_add 43 = .ok (.iload_n 2, 1) := by decide +kernel
theorem dX4_add_44 : decode cX4_add 44 = .ok (.aaload, 1) := by decide +kernel
theorem dX4_add_45 : decode cX4_add 45 = .ok (.astore 6, 2) := by decide +kernel
theorem dX4_add_47 : decode cX4_add 47 = .ok (.aload 5, 2) := by decide +kernel
theorem dX4_add_49 : decode cX4_add 49 = .ok (.getfield 118, 3) := by decide +kernel
theorem dX4_add_52 : decode cX4_add 52 = .ok (.ifCond .eq 11, 3) := by decide +kernel
theorem dX4_add_55 : decode cX4_add 55 = .ok (.aload 6, 2) := by decide +kernel
theorem dX4_add_57 : decode cX4_add 57 = .ok (.getfield 60, 3) := by decide +kernel
theorem dX4_add_60 : decode cX4_add 60 = .ok (.ifCond .ne 6, 3) := by decide +kernel
theorem dX4_add_63 : decode cX4_add 63 = .ok (.bipush (-11), 2) := by decide +kernel
theorem dX4_add_65 : decode cX4_add 65 = .ok (.ireturn, 1) := by decide +kernel
theorem dX4_add_66 : decode cX4_add 66 = .ok (.aload 5, 2) := by decide +kernel
theorem dX4_add_68 : decode cX4_add 68 = .ok (.getfield 119, 3) := by decide +kernel
theorem dX4_add_71 : decode cX4_add 71 = .ok (.iconst 1, 1) := by decide +kernel
theorem dX4_add_72 : decode cX4_add 72 = .ok (.if_icmp .ne 6, 3) := by decide +kernel
theorem dX4_add_75 : decode cX4_add 75 = .ok (.bipush (-12), 2) := by decide +kernel
theorem dX4_add_77 : decode cX4_add 77 = .ok (.ireturn, 1) := by decide +kernel
theorem dX4_add_78 : decode cX4_add 78 = .ok (.aload 6, 2) := by decide +kernel
theorem dX4_add_80 : decode cX4_add 80 = .ok (.iload_n 3, 1) := by decide +kernel
theorem dX4_add_81 : decode cX4_add 81 = .ok (.iload 4, 2) := by decide +kernel
theorem dX4_add_83 : decode cX4_add 83 = .ok (.invokestatic 120, 3) := by decide +kernel
theorem dX4_add_86 : decode cX4_add 86 = .ok (.invokevirtual 71, 3) := by decide +kernel
theorem dX4_add_89 : decode cX4_add 89 = .ok (.ifCond .ne 6, 3) := by decide +kernel
theorem dX4_add_92 : decode cX4_add 92 = .ok (.bipush (-13), 2) := by decide +kernel
theorem dX4_add_94 : decode cX4_add 94 = .ok (.ireturn, 1) := by decide +kernel
theorem dX4_add_95 : decode cX4_add 95 = .ok (.aload_n 0, 1) := by decide +kernel
theorem dX4_add_96 : decode cX4_add 96 = .ok (.iload_n 1, 1) := by decide +kernel
theorem dX4_add_97 : decode cX4_add 97 = .ok (.aload 6, 2) := by decide +kernel
theorem dX4_add_99 : decode cX4_add 99 = .ok (.aload 5, 2) := by decide +kernel
theorem dX4_add_101 : decode cX4_add 101 = .ok (.getfield 119, 3) := by decide +kernel
theorem dX4_add_104 : decode cX4_add 104 = .ok (.iconst 2, 1) := by decide +kernel
theorem dX4_add_105 : decode cX4_add 105 = .ok (.if_icmp .ne 8, 3) := by decide +kernel
theorem dX4_add_108 : decode cX4_add 108 = .ok (.aload 6, 2) := by decide +kernel
theorem dX4_add_110 : decode cX4_add 110 = .ok (.goto 7, 3) := by decide +kernel
theorem dX4_add_113 : decode cX4_add 113 = .ok (.aload_n 0, 1) := by decide +kernel
theorem dX4_add_114 : decode cX4_add 114 = .ok (.getfield 36, 3) := by decide +kernel
theorem dX4_add_117 : decode cX4_add 117 = .ok (.iload_n 3, 1) := by decide +kernel
theorem dX4_add_118 : decode cX4_add 118 = .ok (.iload 4, 2) := by decide +kernel
theorem dX4_add_120 : decode cX4_add 120 = .ok (.invokevirtual 125, 3) := by decide +kernel
theorem dX4_add_123 : decode cX4_add 123 = .ok (.ireturn, 1) := by decide +kernel
theorem dX4_pair_0 : decode cX4_pair 0 = .ok (.iload_n 1, 1) := by decide +kernel
theorem dX4_pair_1 : decode cX4_pair 1 = .ok (.invokestatic 109, 3) := by decide +kernel
theorem dX4_pair_4 : decode cX4_pair 4 = .ok (.ifCond .eq 31, 3) := by decide +kernel
theorem dX4_pair_7 : decode cX4_pair 7 = .ok (.iload_n 2, 1) := by decide +kernel
theorem dX4_pair_8 : decode cX4_pair 8 = .ok (.invokestatic 56, 3) := by decide +kernel
theorem dX4_pair_11 : decode cX4_pair 11 = .ok (.ifCond .eq 24, 3) := by decide +kernel
theorem dX4_pair_14 : decode cX4_pair 14 = .ok (.iload_n 3, 1) := by decide +kernel
theorem dX4_pair_15 : decode cX4_pair 15 = .ok (.invokestatic 56, 3) := by decide +kernel
theorem dX4_pair_18 : decode cX4_pair 18 = .ok (.ifCond .eq 17, 3) := by decide +kernel
theorem dX4_pair_21 : decode cX4_pair 21 = .ok (.iload 5, 2) := by decide +kernel
theorem dX4_pair_23 : decode cX4_pair 23 = .ok (.bipush (-40), 2) := by decide +kernel
theorem dX4_pair_25 : decode cX4_pair 25 = .ok (.if_icmp .lt 10, 3) := by decide +kernel
theorem dX4_pair_28 : decode cX4_pair 28 = .ok (.iload 5, 2) := by decide +kernel
theorem dX4_pair_30 : decode cX4_pair 30 = .ok (.bipush 40, 2) := by decide +kernel
theorem dX4_pair_32 : decode cX4_pair 32 = .ok (.if_icmp .le 6, 3) := by decide +kernel
theorem dX4_pair_35 : decode cX4_pair 35 = .ok (.bipush (-3), 2) := by decide +kernel
theorem dX4_pair_37 : decode cX4_pair 37 = .ok (.ireturn, 1) := by decide +kernel
theorem dX4_pair_38 : decode cX4_pair 38 = .ok (.aload_n 0, 1) := by decide +kernel
theorem dX4_pair_39 : decode cX4_pair 39 = .ok (.getfield 11, 3) := by decide +kernel
theorem dX4_pair_42 : decode cX4_pair 42 = .ok (.iload_n 2, 1) := by decide +kernel
theorem dX4_pair_43 : decode cX4_pair 43 = .ok (.aaload, 1) := by decide +kernel
theorem dX4_pair_44 : decode cX4_pair 44 = .ok (.astore 6, 2) := by decide +kernel
theorem dX4_pair_46 : decode cX4_pair 46 = .ok (.aload_n 0, 1) := by decide +kernel
theorem dX4_pair_47 : decode cX4_pair 47 = .ok (.getfield 11, 3) := by decide +kernel
theorem dX4_pair_50 : decode cX4_pair 50 = .ok (.iload_n 3, 1) := by decide +kernel
theorem dX4_pair_51 : decode cX4_pair 51 = .ok (.aaload, 1) := by decide +kernel
theorem dX4_pair_52 : decode cX4_pair 52 = .ok (.astore 7, 2) := by decide +kernel
theorem dX4_pair_54 : decode cX4_pair 54 = .ok (.aload_n 0, 1) := by decide +kernel
theorem dX4_pair_55 : decode cX4_pair 55 = .ok (.getfield 17, 3) := by decide +kernel
theorem dX4_pair_58 : decode cX4_pair 58 = .ok (.iload_n 1, 1) := by decide +kernel
theorem dX4_pair_59 : decode cX4_pair 59 = .ok (.aaload, 1) := by decide +kernel
theorem dX4_pair_60 : decode cX4_pair 60 = .ok (.getfield 118, 3) := by decide +kernel
theorem dX4_pair_63 : decode cX4_pair 63 = .ok (.ifCond .eq 19, 3) := by decide +kernel
theorem dX4_pair_66 : decode cX4_pair 66 = .ok (.aload 6, 2) := by decide +kernel
theorem dX4_pair_68 : decode cX4_pair 68 = .ok (.getfield 60, 3) := by decide +kernel
theorem dX4_pair_71 : decode cX4_pair 71 = .ok (.ifCond .eq 11, 3) := by decide +kernel
theorem dX4_pair_74 : decode cX4_pair 74 = .ok (.aload 7, 2) := by decide +kernel
theorem dX4_pair_76 : decode cX4_pair 76 = .ok (.getfield 60, 3) := by decide +kernel
theorem dX4_pair_79 : decode cX4_pair 79 = .ok (.ifCond .ne 6, 3) := by decide +kernel
theorem dX4_pair_82 : decode cX4_pair 82 = .ok (.bipush (-11), 2) := by decide +kernel
theorem dX4_pair_84 : decode cX4_pair 84 = .ok (.ireturn, 1) := by decide +kernel
theorem dX4_pair_85 : decode cX4_pair 85 = .ok (.aload_n 0, 1) := by decide +kernel
theorem dX4_pair_86 : decode cX4_pair 86 = .ok (.getfield 17, 3) := by decide +kernel
theorem dX4_pair_89 : decode cX4_pair 89 = .ok (.iload_n 1, 1) := by decide +kernel
theorem dX4_pair_90 : decode cX4_pair 90 = .ok (.aaload, 1) := by decide +kernel
theorem dX4_pair_91 : decode cX4_pair 91 = .ok (.getfield 119, 3) := by decide +kernel
theorem dX4_pair_94 : decode cX4_pair 94 = .ok (.ifCond .ne 6, 3) := by decide +kernel
theorem dX4_pair_97 : decode cX4_pair 97 = .ok (.bipush (-12), 2) := by decide +kernel
theorem dX4_pair_99 : decode cX4_pair 99 = .ok (.ireturn, 1) := by decide +kernel
theorem dX4_pair_100 : decode cX4_pair 100 = .ok (.aload 6, 2) := by decide +kernel
theorem dX4_pair_102 : decode cX4_pair 102 = .ok (.iload 4, 2) := by decide +kernel
theorem dX4_pair_104 : decode cX4_pair 104 = .ok (.iload 5, 2) := by decide +kernel
theorem dX4_pair_106 : decode cX4_pair 106 = .ok (.invokestatic 120, 3) := by decide +kernel
theorem dX4_pair_109 : decode cX4_pair 109 = .ok (.invokevirtual 71, 3) := by decide +kernel
theorem dX4_pair_112 : decode cX4_pair 112 = .ok (.ifCond .eq 18, 3) := by decide +kernel
theorem dX4_pair_115 : decode cX4_pair 115 = .ok (.aload 7, 2) := by decide +kernel
theorem dX4_pair_117 : decode cX4_pair 117 = .ok (.iload 4, 2) := by decide +kernel
theorem dX4_pair_119 : decode cX4_pair 119 = .ok (.iload 5, 2) := by decide +kernel
theorem dX4_pair_121 : decode cX4_pair 121 = .ok (.invokestatic 120, 3) := by decide +kernel
theorem dX4_pair_124 : decode cX4_pair 124 = .ok (.invokevirtual 71, 3) := by decide +kernel
theorem dX4_pair_127 : decode cX4_pair 127 = .ok (.ifCond .ne 6, 3) := by decide +kernel
theorem dX4_pair_130 : decode cX4_pair 130 = .ok (.bipush (-13), 2) := by decide +kernel
theorem dX4_pair_132 : decode cX4_pair 132 = .ok (.ireturn, 1) := by decide +kernel
theorem dX4_pair_133 : decode cX4_pair 133 = .ok (.aload_n 0, 1) := by decide +kernel
theorem dX4_pair_134 : decode cX4_pair 134 = .ok (.iload_n 1, 1) := by decide +kernel
theorem dX4_pair_135 : decode cX4_pair 135 = .ok (.aload 6, 2) := by decide +kernel
theorem dX4_pair_137 : decode cX4_pair 137 = .ok (.aload 7, 2) := by decide +kernel
theorem dX4_pair_139 : decode cX4_pair 139 = .ok (.iload 4, 2) := by decide +kernel
theorem dX4_pair_141 : decode cX4_pair 141 = .ok (.iload 5, 2) := by decide +kernel
theorem dX4_pair_143 : decode cX4_pair 143 = .ok (.invokevirtual 125, 3) := by decide +kernel
theorem dX4_pair_146 : decode cX4_pair 146 = .ok (.ireturn, 1) := by decide +kernel
theorem dX4_merge_0 : decode cX4_merge 0 = .ok (.iload_n 1, 1) := by decide +kernel
theorem dX4_merge_1 : decode cX4_merge 1 = .ok (.invokestatic 109, 3) := by decide +kernel
theorem dX4_merge_4 : decode cX4_merge 4 = .ok (.ifCond .eq 10, 3) := by decide +kernel
theorem dX4_merge_7 : decode cX4_merge 7 = .ok (.iload_n 2, 1) := by decide +kernel
theorem dX4_merge_8 : decode cX4_merge 8 = .ok (.invokestatic 109, 3) := by decide +kernel
theorem dX4_merge_11 : decode cX4_merge 11 = .ok (.ifCond .ne 6, 3) := by decide +kernel
theorem dX4_merge_14 : decode cX4_merge 14 = .ok (.bipush (-3), 2) := by decide +kernel
theorem dX4_merge_16 : decode cX4_merge 16 = .ok (.ireturn, 1) := by decide +kernel
theorem dX4_merge_17 : decode cX4_merge 17 = .ok (.aload_n 0, 1) := by decide +kernel
theorem dX4_merge_18 : decode cX4_merge 18 = .ok (.getfield 17, 3) := by decide +kernel
theorem dX4_merge_21 : decode cX4_merge 21 = .ok (.iload_n 1, 1) := by decide +kernel
theorem dX4_merge_22 : decode cX4_merge 22 = .ok (.aaload, 1) := by decide +kernel
theorem dX4_merge_23 : decode cX4_merge 23 = .ok (.astore_n 3, 1) := by decide +kernel
theorem dX4_merge_24 : decode cX4_merge 24 = .ok (.aload_n 0, 1) := by decide +kernel
theorem dX4_merge_25 : decode cX4_merge 25 = .ok (.getfield 17, 3) := by decide +kernel
theorem dX4_merge_28 : decode cX4_merge 28 = .ok (.iload_n 2, 1) := by decide +kernel
theorem dX4_merge_29 : decode cX4_merge 29 = .ok (.aaload, 1) := by decide +kernel
theorem dX4_merge_30 : decode cX4_merge 30 = .ok (.astore 4, 2) := by decide +kernel
theorem dX4_merge_32 : decode cX4_merge 32 = .ok (.aload_n 3, 1) := by decide +kernel
theorem dX4_merge_33 : decode cX4_merge 33 = .ok (.getfield 118, 3) := by decide +kernel
theorem dX4_merge_36 : decode cX4_merge 36 = .ok (.ifCond .eq 11, 3) := by decide +kernel
theorem dX4_merge_39 : decode cX4_merge 39 = .ok (.aload 4, 2) := by decide +kernel
theorem dX4_merge_41 : decode cX4_merge 41 = .ok (.getfield 118, 3) := by decide +kernel
theorem dX4_merge_44 : decode cX4_merge 44 = .ok (.ifCond .ne 6, 3) := by decide +kernel
theorem dX4_merge_47 : decode cX4_merge 47 = .ok (.bipush (-11), 2) := by decide +kernel
theorem dX4_merge_49 : decode cX4_merge 49 = .ok (.ireturn, 1) := by decide +kernel
theorem dX4_merge_50 : decode cX4_merge 50 = .ok (.aload_n 3, 1) := by decide +kernel
theorem dX4_merge_51 : decode cX4_merge 51 = .ok (.getfield 119, 3) := by decide +kernel
theorem dX4_merge_54 : decode cX4_merge 54 = .ok (.ifCond .ne 7, 3) := by decide +kernel
theorem dX4_merge_57 : decode cX4_merge 57 = .ok (.iconst 1, 1) := by decide +kernel
theorem dX4_merge_58 : decode cX4_merge 58 = .ok (.goto 4, 3) := by decide +kernel
theorem dX4_merge_61 : decode cX4_merge 61 = .ok (.iconst 0, 1) := by decide +kernel
theorem dX4_merge_62 : decode cX4_merge 62 = .ok (.aload 4, 2) := by decide +kernel
theorem dX4_merge_64 : decode cX4_merge 64 = .ok (.getfield 119, 3) := by decide +kernel
theorem dX4_merge_67 : decode cX4_merge 67 = .ok (.ifCond .ne 7, 3) := by decide +kernel
theorem dX4_merge_70 : decode cX4_merge 70 = .ok (.iconst 1, 1) := by decide +kernel
theorem dX4_merge_71 : decode cX4_merge 71 = .ok (.goto 4, 3) := by decide +kernel
theorem dX4_merge_74 : decode cX4_merge 74 = .ok (.iconst 0, 1) := by decide +kernel
theorem dX4_merge_75 : decode cX4_merge 75 = .ok (.if_icmp .eq 6, 3) := by decide +kernel
theorem dX4_merge_78 : decode cX4_merge 78 = .ok (.bipush (-12), 2) := by decide +kernel
theorem dX4_merge_80 : decode cX4_merge 80 = .ok (.ireturn, 1) := by decide +kernel
theorem dX4_merge_81 : decode cX4_merge 81 = .ok (.aload_n 0, 1) := by decide +kernel
theorem dX4_merge_82 : decode cX4_merge 82 = .ok (.iload_n 1, 1) := by decide +kernel
theorem dX4_merge_83 : decode cX4_merge 83 = .ok (.invokevirtual 112, 3) := by decide +kernel
theorem dX4_merge_86 : decode cX4_merge 86 = .ok (.aload_n 3, 1) := by decide +kernel
theorem dX4_merge_87 : decode cX4_merge 87 = .ok (.aload 4, 2) := by decide +kernel
theorem dX4_merge_89 : decode cX4_merge 89 = .ok (.invokevirtual 129, 3) := by decide +kernel
theorem dX4_merge_92 : decode cX4_merge 92 = .ok (.iconst 0, 1) := by decide +kernel
theorem dX4_merge_93 : decode cX4_merge 93 = .ok (.ireturn, 1) := by decide +kernel
theorem dX4_clear_0 : decode cX4_clear 0 = .ok (.iload_n 1, 1) := by decide +kernel
theorem dX4_clear_1 : decode cX4_clear 1 = .ok (.invokestatic 109, 3) := by decide +kernel
theorem dX4_clear_4 : decode cX4_clear 4 = .ok (.ifCond .ne 6, 3) := by decide +kernel
theorem dX4_clear_7 : decode cX4_clear 7 = .ok (.bipush (-3), 2) := by decide +kernel
theorem dX4_clear_9 : decode cX4_clear 9 = .ok (.ireturn, 1) := by decide +kernel
theorem dX4_clear_10 : decode cX4_clear 10 = .ok (.aload_n 0, 1) := by decide +kernel
theorem dX4_clear_11 : decode cX4_clear 11 = .ok (.getfield 17, 3) := by decide +kernel
theorem dX4_clear_14 : decode cX4_clear 14 = .ok (.iload_n 1, 1) := by decide +kernel
theorem dX4_clear_15 : decode cX4_clear 15 = .ok (.aaload, 1) := by decide +kernel
theorem dX4_clear_16 : decode cX4_clear 16 = .ok (.astore_n 2, 1) := by decide +kernel
theorem dX4_clear_17 : decode cX4_clear 17 = .ok (.aload_n 2, 1) := by decide +kernel
theorem dX4_clear_18 : decode cX4_clear 18 = .ok (.getfield 118, 3) := by decide +kernel
theorem dX4_clear_21 : decode cX4_clear 21 = .ok (.ifCond .ne 6, 3) := by decide +kernel
theorem dX4_clear_24 : decode cX4_clear 24 = .ok (.bipush (-11), 2) := by decide +kernel
theorem dX4_clear_26 : decode cX4_clear 26 = .ok (.ireturn, 1) := by decide +kernel
theorem dX4_clear_27 : decode cX4_clear 27 = .ok (.aload_n 0, 1) := by decide +kernel
theorem dX4_clear_28 : decode cX4_clear 28 = .ok (.iload_n 1, 1) := by decide +kernel
theorem dX4_clear_29 : decode cX4_clear 29 = .ok (.invokevirtual 112, 3) := by decide +kernel
theorem dX4_clear_32 : decode cX4_clear 32 = .ok (.aload_n 2, 1) := by decide +kernel
theorem dX4_clear_33 : decode cX4_clear 33 = .ok (.aload_n 2, 1) := by decide +kernel
theorem dX4_clear_34 : decode cX4_clear 34 = .ok (.getfield 119, 3) := by decide +kernel
theorem dX4_clear_37 : decode cX4_clear 37 = .ok (.invokevirtual 116, 3) := by decide +kernel
theorem dX4_clear_40 : decode cX4_clear 40 = .ok (.iconst 0, 1) := by decide +kernel
theorem dX4_clear_41 : decode cX4_clear 41 = .ok (.ireturn, 1) := by decide +kernel
theorem dX4_error_0 : decode cX4_error 0 = .ok (.iload_n 1, 1) := by decide +kernel
theorem dX4_error_1 : decode cX4_error 1 = .ok (.invokestatic 109, 3) := by decide +kernel
theorem dX4_error_4 : decode cX4_error 4 = .ok (.ifCond .eq 22, 3) := by decide +kernel
theorem dX4_error_7 : decode cX4_error 7 = .ok (.iload_n 2, 1) := by decide +kernel
theorem dX4_error_8 : decode cX4_error 8 = .ok (.invokestatic 56, 3) := by decide +kernel
theorem dX4_error_11 : decode cX4_error 11 = .ok (.ifCond .eq 15, 3) := by decide +kernel
theorem dX4_error_14 : decode cX4_error 14 = .ok (.iload 4, 2) := by decide +kernel
theorem dX4_error_16 : decode cX4_error 16 = .ok (.ifCond .lt 10, 3) := by decide +kernel
theorem dX4_error_19 : decode cX4_error 19 = .ok (.iload 4, 2) := by decide +kernel
theorem dX4_error_21 : decode cX4_error 21 = .ok (.bipush 40, 2) := by decide +kernel
theorem dX4_error_23 : decode cX4_error 23 = .ok (.if_icmp .le 6, 3) := by decide +kernel
theorem dX4_error_26 : decode cX4_error 26 = .ok (.bipush (-3), 2) := by decide +kernel
theorem dX4_error_28 : decode cX4_error 28 = .ok (.ireturn, 1) := by decide +kernel
theorem dX4_error_29 : decode cX4_error 29 = .ok (.aload_n 0, 1) := by decide +kernel
theorem dX4_error_30 : decode cX4_error 30 = .ok (.getfield 17, 3) := by decide +kernel
theorem dX4_error_33 : decode cX4_error 33 = .ok (.iload_n 1, 1) := by decide +kernel
theorem dX4_error_34 : decode cX4_error 34 = .ok (.aaload, 1) := by decide +kernel
theorem dX4_error_35 : decode cX4_error 35 = .ok (.astore 5, 2) := by decide +kernel
theorem dX4_error_37 : decode cX4_error 37 = .ok (.aload_n 0, 1) := by decide +kernel
theorem dX4_error_38 : decode cX4_error 38 = .ok (.getfield 11, 3) := by decide +kernel
theorem dX4_error_41 : decode cX4_error 41 = .ok (.iload_n 2, 1) := by decide +kernel
theorem dX4_error_42 : decode cX4_error 42 = .ok (.aaload, 1) := by decide +kernel
theorem dX4_error_43 : decode cX4_error 43 = .ok (.astore 6, 2) := by decide +kernel
theorem dX4_error_45 : decode cX4_error 45 = .ok (.aload 5, 2) := by decide +kernel
theorem dX4_error_47 : decode cX4_error 47 = .ok (.getfield 118, 3) := by decide +kernel
theorem dX4_error_50 : decode cX4_error 50 = .ok (.ifCond .eq 11, 3) := by decide +kernel
theorem dX4_error_53 : decode cX4_error 53 = .ok (.aload 6, 2) := by decide +kernel
theorem dX4_error_55 : decode cX4_error 55 = .ok (.getfield 60, 3) := by decide +kernel
theorem dX4_error_58 : decode cX4_error 58 = .ok (.ifCond .ne 6, 3) := by decide +kernel
theorem dX4_error_61 : decode cX4_error 61 = .ok (.bipush (-11), 2) := by decide +kernel
theorem dX4_error_63 : decode cX4_error 63 = .ok (.ireturn, 1) := by decide +kernel
theorem dX4_error_64 : decode cX4_error 64 = .ok (.aload 5, 2) := by decide +kernel
theorem dX4_error_66 : decode cX4_error 66 = .ok (.getfield 119, 3) := by decide +kernel
theorem dX4_error_69 : decode cX4_error 69 = .ok (.ifCond .eq 6, 3) := by decide +kernel
theorem dX4_error_72 : decode cX4_error 72 = .ok (.bipush (-12), 2) := by decide +kernel
theorem dX4_error_74 : decode cX4_error 74 = .ok (.ireturn, 1) := by decide +kernel
theorem dX4_error_75 : decode cX4_error 75 = .ok (.aload 6, 2) := by decide +kernel
theorem dX4_error_77 : decode cX4_error 77 = .ok (.iload_n 3, 1) := by decide +kernel
theorem dX4_error_78 : decode cX4_error 78 = .ok (.iload 4, 2) := by decide +kernel
theorem dX4_error_80 : decode cX4_error 80 = .ok (.invokevirtual 71, 3) := by decide +kernel
theorem dX4_error_83 : decode cX4_error 83 = .ok (.ifCond .ne 6, 3) := by decide +kernel
theorem dX4_error_86 : decode cX4_error 86 = .ok (.bipush (-13), 2) := by decide +kernel
theorem dX4_error_88 : decode cX4_error 88 = .ok (.ireturn, 1) := by decide +kernel
theorem dX4_error_89 : decode cX4_error 89 = .ok (.aload_n 0, 1) := by decide +kernel
theorem dX4_error_90 : decode cX4_error 90 = .ok (.iload_n 1, 1) := by decide +kernel
theorem dX4_error_91 : decode cX4_error 91 = .ok (.invokevirtual 112, 3) := by decide +kernel
theorem dX4_error_94 : decode cX4_error 94 = .ok (.aload 5, 2) := by decide +kernel
theorem dX4_error_96 : decode cX4_error 96 = .ok (.iconst 0, 1) := by decide +kernel
theorem dX4_error_97 : decode cX4_error 97 = .ok (.invokevirtual 116, 3) := by decide +kernel
theorem dX4_error_100 : decode cX4_error 100 = .ok (.aload_n 0, 1) := by decide +kernel
theorem dX4_error_101 : decode cX4_error 101 = .ok (.getfield 40, 3) := by decide +kernel
theorem dX4_error_104 : decode cX4_error 104 = .ok (.iconst 0, 1) := by decide +kernel
theorem dX4_error_105 : decode cX4_error 105 = .ok (.aload 6, 2) := by decide +kernel
theorem dX4_error_107 : decode cX4_error 107 = .ok (.iload_n 3, 1) := by decide +kernel
theorem dX4_error_108 : decode cX4_error 108 = .ok (.iload 4, 2) := by decide +kernel
theorem dX4_error_110 : decode cX4_error 110 = .ok (.invokevirtual 133, 3) := by decide +kernel
theorem dX4_error_113 : decode cX4_error 113 = .ok (.invokevirtual 137, 3) := by decide +kernel
theorem dX4_error_116 : decode cX4_error 116 = .ok (.aload 5, 2) := by decide +kernel
theorem dX4_error_118 : decode cX4_error 118 = .ok (.aload 6, 2) := by decide +kernel
theorem dX4_error_120 : decode cX4_error 120 = .ok (.aload_n 0, 1) := by decide +kernel
theorem dX4_error_121 : decode cX4_error 121 = .ok (.getfield 36, 3) := by decide +kernel
theorem dX4_error_124 : decode cX4_error 124 = .ok (.iload_n 3, 1) := by decide +kernel
theorem dX4_error_125 : decode cX4_error 125 = .ok (.iload 4, 2) := by decide +kernel
theorem dX4_error_127 : decode cX4_error 127 = .ok (.iconst 0, 1) := by decide +kernel
theorem dX4_error_128 : decode cX4_error 128 = .ok (.invokevirtual 141, 3) := by decide +kernel
theorem dX4_error_131 : decode cX4_error 131 = .ok (.aload 5, 2) := by decide +kernel
theorem dX4_error_133 : decode cX4_error 133 = .ok (.aload_n 0, 1) := by decide +kernel
theorem dX4_error_134 : decode cX4_error 134 = .ok (.getfield 40, 3) := by decide +kernel
theorem dX4_error_137 : decode cX4_error 137 = .ok (.aload_n 0, 1) := by decide +kernel
theorem dX4_error_138 : decode cX4_error 138 = .ok (.getfield 36, 3) := by decide +kernel
theorem dX4_error_141 : decode cX4_error 141 = .ok (.iconst 0, 1) := by decide +kernel
theorem dX4_error_142 : decode cX4_error 142 = .ok (.iconst 1, 1) := by decide +kernel
theorem dX4_error_143 : decode cX4_error 143 = .ok (.iconst 1, 1) := by decide +kernel
theorem dX4_error_144 : decode cX4_error 144 = .ok (.invokevirtual 141, 3) := by decide +kernel
theorem dX4_error_147 : decode cX4_error 147 = .ok (.aload_n 0, 1) := by decide +kernel
theorem dX4_error_148 : decode cX4_error 148 = .ok (.dup, 1) := by decide +kernel
theorem dX4_error_149 : decode cX4_error 149 = .ok (.getfield 43, 3) := by decide +kernel
theorem dX4_error_152 : decode cX4_error 152 = .ok (.iload 4, 2) := by decide +kernel
theorem dX4_error_154 : decode cX4_error 154 = .ok (.iadd, 1) := by decide +kernel
theorem dX4_error_155 : decode cX4_error 155 = .ok (.putfield 43, 3) := by decide +kernel
theorem dX4_error_158 : decode cX4_error 158 = .ok (.iload 4, 2) := by decide +kernel
theorem dX4_error_160 : decode cX4_error 160 = .ok (.ireturn, 1) := by decide +kernel
theorem dX4_plain_0 : decode cX4_plain 0 = .ok (.iload_n 1, 1) := by decide +kernel
theorem dX4_plain_1 : decode cX4_plain 1 = .ok (.invokestatic 56, 3) := by decide +kernel
theorem dX4_plain_4 : decode cX4_plain 4 = .ok (.ifCond .eq 13, 3) := by decide +kernel
theorem dX4_plain_7 : decode cX4_plain 7 = .ok (.iload_n 3, 1) := by decide +kernel
theorem dX4_plain_8 : decode cX4_plain 8 = .ok (.ifCond .lt 9, 3) := by decide +kernel
theorem dX4_plain_11 : decode cX4_plain 11 = .ok (.iload_n 3, 1) := by decide +kernel
theorem dX4_plain_12 : decode cX4_plain 12 = .ok (.bipush 40, 2) := by decide +kernel
theorem dX4_plain_14 : decode cX4_plain 14 = .ok (.if_icmp .le 5, 3) := by decide +kernel
theorem dX4_plain_17 : decode cX4_plain 17 = .ok (.dconst 0, 1) := by decide +kernel
theorem dX4_plain_18 : decode cX4_plain 18 = .ok (.dreturn, 1) := by decide +kernel
theorem dX4_plain_19 : decode cX4_plain 19 = .ok (.aload_n 0, 1) := by decide +kernel
theorem dX4_plain_20 : decode cX4_plain 20 = .ok (.getfield 11, 3) := by decide +kernel
theorem dX4_plain_23 : decode cX4_plain 23 = .ok (.iload_n 1, 1) := by decide +kernel
theorem dX4_plain_24 : decode cX4_plain 24 = .ok (.aaload, 1) := by decide +kernel
theorem dX4_plain_25 : decode cX4_plain 25 = .ok (.astore 4, 2) := by decide +kernel
theorem dX4_plain_27 : decode cX4_plain 27 = .ok (.aload 4, 2) := by decide +kernel
theorem dX4_plain_29 : decode cX4_plain 29 = .ok (.getfield 60, 3) := by decide +kernel
theorem dX4_plain_32 : decode cX4_plain 32 = .ok (.ifCond .eq 13, 3) := by decide +kernel
theorem dX4_plain_35 : decode cX4_plain 35 = .ok (.aload 4, 2) := by decide +kernel
theorem dX4_plain_37 : decode cX4_plain 37 = .ok (.iload_n 2, 1) := by decide +kernel
theorem dX4_plain_38 : decode cX4_plain 38 = .ok (.iload_n 3, 1) := by decide +kernel
theorem dX4_plain_39 : decode cX4_plain 39 = .ok (.invokevirtual 71, 3) := by decide +kernel
theorem dX4_plain_42 : decode cX4_plain 42 = .ok (.ifCond .ne 5, 3) := by decide +kernel
theorem dX4_plain_45 : decode cX4_plain 45 = .ok (.dconst 0, 1) := by decide +kernel
theorem dX4_plain_46 : decode cX4_plain 46 = .ok (.dreturn, 1) := by decide +kernel
theorem dX4_plain_47 : decode cX4_plain 47 = .ok (.aload 4, 2) := by decide +kernel
theorem dX4_plain_49 : decode cX4_plain 49 = .ok (.iload_n 2, 1) := by decide +kernel
theorem dX4_plain_50 : decode cX4_plain 50 = .ok (.iload_n 3, 1) := by decide +kernel
theorem dX4_plain_51 : decode cX4_plain 51 = .ok (.invokevirtual 133, 3) := by decide +kernel
theorem dX4_plain_54 : decode cX4_plain 54 = .ok (.dreturn, 1) := by decide +kernel
theorem dX4_sort_0 : decode cX4_sort 0 = .ok (.aload_n 0, 1) := by decide +kernel
theorem dX4_sort_1 : decode cX4_sort 1 = .ok (.iload_n 1, 1) := by decide +kernel
theorem dX4_sort_2 : decode cX4_sort 2 = .ok (.invokevirtual 145, 3) := by decide +kernel
theorem dX4_sort_5 : decode cX4_sort 5 = .ok (.istore_n 2, 1) := by decide +kernel
theorem dX4_sort_6 : decode cX4_sort 6 = .ok (.iload_n 2, 1) := by decide +kernel
theorem dX4_sort_7 : decode cX4_sort 7 = .ok (.ifCond .eq 7, 3) := by decide +kernel
theorem dX4_sort_10 : decode cX4_sort 10 = .ok (.iload_n 2, 1) := by decide +kernel
theorem dX4_sort_11 : decode cX4_sort 11 = .ok (.goto 12, 3) := by decide +kernel
theorem dX4_sort_14 : decode cX4_sort 14 = .ok (.aload_n 0, 1) := by decide +kernel
theorem dX4_sort_15 : decode cX4_sort 15 = .ok (.getfield 17, 3) := by decide +kernel
theorem dX4_sort_18 : decode cX4_sort 18 = .ok (.iload_n 1, 1) := by decide +kernel
theorem dX4_sort_19 : decode cX4_sort 19 = .ok (.aaload, 1) := by decide +kernel
theorem dX4_sort_20 : decode cX4_sort 20 = .ok (.invokevirtual 148, 3) := by decide +kernel
theorem dX4_sort_23 : decode cX4_sort 23 = .ok (.ireturn, 1) := by decide +kernel
theorem dX4_seen_0 : decode cX4_seen 0 = .ok (.iload_n 1, 1) := by decide +kernel
theorem dX4_seen_1 : decode cX4_seen 1 = .ok (.invokestatic 109, 3) := by decide +kernel
theorem dX4_seen_4 : decode cX4_seen 4 = .ok (.ifCond .eq 12, 3) := by decide +kernel
theorem dX4_seen_7 : decode cX4_seen 7 = .ok (.iload_n 2, 1) := by decide +kernel
theorem dX4_seen_8 : decode cX4_seen 8 = .ok (.ifCond .lt 8, 3) := by decide +kernel
theorem dX4_seen_11 : decode cX4_seen 11 = .ok (.iload_n 2, 1) := by decide +kernel
theorem dX4_seen_12 : decode cX4_seen 12 = .ok (.iconst 2, 1) := by decide +kernel
theorem dX4_seen_13 : decode cX4_seen 13 = .ok (.if_icmp .le 6, 3) := by decide +kernel
theorem dX4_seen_16 : decode cX4_seen 16 = .ok (.bipush (-3), 2) := by decide +kernel
theorem dX4_seen_18 : decode cX4_seen 18 = .ok (.ireturn, 1) := by decide +kernel
theorem dX4_seen_19 : decode cX4_seen 19 = .ok (.aload_n 0, 1) := by decide +kernel
theorem dX4_seen_20 : decode cX4_seen 20 = .ok (.getfield 17, 3) := by decide +kernel
theorem dX4_seen_23 : decode cX4_seen 23 = .ok (.iload_n 1, 1) := by decide +kernel
theorem dX4_seen_24 : decode cX4_seen 24 = .ok (.aaload, 1) := by decide +kernel
theorem dX4_seen_25 : decode cX4_seen 25 = .ok (.astore_n 3, 1) := by decide +kernel
theorem dX4_seen_26 : decode cX4_seen 26 = .ok (.aload_n 3, 1) := by decide +kernel
theorem dX4_seen_27 : decode cX4_seen 27 = .ok (.getfield 118, 3) := by decide +kernel
theorem dX4_seen_30 : decode cX4_seen 30 = .ok (.ifCond .eq 12, 3) := by decide +kernel
theorem dX4_seen_33 : decode cX4_seen 33 = .ok (.aload_n 3, 1) := by decide +kernel
theorem dX4_seen_34 : decode cX4_seen 34 = .ok (.getfield 152, 3) := by decide +kernel
theorem dX4_seen_37 : decode cX4_seen 37 = .ok (.iload_n 2, 1) := by decide +kernel
theorem dX4_seen_38 : decode cX4_seen 38 = .ok (.iaload, 1) := by decide +kernel
theorem dX4_seen_39 : decode cX4_seen 39 = .ok (.goto 5, 3) := by decide +kernel
theorem dX4_seen_42 : decode cX4_seen 42 = .ok (.bipush (-11), 2) := by decide +kernel
theorem dX4_seen_44 : decode cX4_seen 44 = .ok (.ireturn, 1) := by decide +kernel
theorem dX4_tell_0 : decode cX4_tell 0 = .ok (.aload_n 0, 1) := by decide +kernel
theorem dX4_tell_1 : decode cX4_tell 1 = .ok (.iload_n 1, 1) := by decide +kernel
theorem dX4_tell_2 : decode cX4_tell 2 = .ok (.invokevirtual 145, 3) := by decide +kernel
theorem dX4_tell_5 : decode cX4_tell 5 = .ok (.ifCond .ne 10, 3) := by decide +kernel
theorem dX4_tell_8 : decode cX4_tell 8 = .ok (.iload_n 2, 1) := by decide +kernel
theorem dX4_tell_9 : decode cX4_tell 9 = .ok (.invokestatic 156, 3) := by decide +kernel
theorem dX4_tell_12 : decode cX4_tell 12 = .ok (.ifCond .ne 5, 3) := by decide +kernel
theorem dX4_tell_15 : decode cX4_tell 15 = .ok (.dconst 0, 1) := by decide +kernel
theorem dX4_tell_16 : decode cX4_tell 16 = .ok (.dreturn, 1) := by decide +kernel
theorem dX4_tell_17 : decode cX4_tell 17 = .ok (.aload_n 0, 1) := by decide +kernel
theorem dX4_tell_18 : decode cX4_tell 18 = .ok (.aload_n 0, 1) := by decide +kernel
theorem dX4_tell_19 : decode cX4_tell 19 = .ok (.getfield 17, 3) := by decide +kernel
theorem dX4_tell_22 : decode cX4_tell 22 = .ok (.iload_n 1, 1) := by decide +kernel
theorem dX4_tell_23 : decode cX4_tell 23 = .ok (.aaload, 1) := by decide +kernel
theorem dX4_tell_24 : decode cX4_tell 24 = .ok (.iconst 1, 1) := by decide +kernel
theorem dX4_tell_25 : decode cX4_tell 25 = .ok (.iload_n 2, 1) := by decide +kernel
theorem dX4_tell_26 : decode cX4_tell 26 = .ok (.iload_n 3, 1) := by decide +kernel
theorem dX4_tell_27 : decode cX4_tell 27 = .ok (.invokevirtual 159, 3) := by decide +kernel
theorem dX4_tell_30 : decode cX4_tell 30 = .ok (.dreturn, 1) := by decide +kernel
theorem dX4_mean_0 : decode cX4_mean 0 = .ok (.aload_n 0, 1) := by decide +kernel
theorem dX4_mean_1 : decode cX4_mean 1 = .ok (.iload_n 1, 1) := by decide +kernel
theorem dX4_mean_2 : decode cX4_mean 2 = .ok (.invokevirtual 145, 3) := by decide +kernel
theorem dX4_mean_5 : decode cX4_mean 5 = .ok (.ifCond .ne 21, 3) := by decide +kernel
theorem dX4_mean_8 : decode cX4_mean 8 = .ok (.iload_n 3, 1) := by decide +kernel
theorem dX4_mean_9 : decode cX4_mean 9 = .ok (.invokestatic 156, 3) := by decide +kernel
theorem dX4_mean_12 : decode cX4_mean 12 = .ok (.ifCond .eq 14, 3) := by decide +kernel
theorem dX4_mean_15 : decode cX4_mean 15 = .ok (.iload_n 2, 1) := by decide +kernel
theorem dX4_mean_16 : decode cX4_mean 16 = .ok (.iconst 1, 1) := by decide +kernel
theorem dX4_mean_17 : decode cX4_mean 17 = .ok (.if_icmp .lt 9, 3) := by decide +kernel
theorem dX4_mean_20 : decode cX4_mean 20 = .ok (.iload_n 2, 1) := by decide +kernel
theorem dX4_mean_21 : decode cX4_mean 21 = .ok (.ldc 163, 2) := by decide +kernel
theorem dX4_mean_23 : decode cX4_mean 23 = .ok (.if_icmp .le 5, 3) := by decide +kernel
theorem dX4_mean_26 : decode cX4_mean 26 = .ok (.dconst 0, 1) := by decide +kernel
theorem dX4_mean_27 : decode cX4_mean 27 = .ok (.dreturn, 1) := by decide +kernel
theorem dX4_mean_28 : decode cX4_mean 28 = .ok (.aload_n 0, 1) := by decide +kernel
theorem dX4_mean_29 : decode cX4_mean 29 = .ok (.aload_n 0, 1) := by decide +kernel
theorem dX4_mean_30 : decode cX4_mean 30 = .ok (.getfield 17, 3) := by decide +kernel
theorem dX4_mean_33 : decode cX4_mean 33 = .ok (.iload_n 1, 1) := by decide +kernel
theorem dX4_mean_34 : decode cX4_mean 34 = .ok (.aaload, 1) := by decide +kernel
theorem dX4_mean_35 : decode cX4_mean 35 = .ok (.iload_n 2, 1) := by decide +kernel
theorem dX4_mean_36 : decode cX4_mean 36 = .ok (.iload_n 3, 1) := by decide +kernel
theorem dX4_mean_37 : decode cX4_mean 37 = .ok (.iconst 0, 1) := by decide +kernel
theorem dX4_mean_38 : decode cX4_mean 38 = .ok (.invokevirtual 159, 3) := by decide +kernel
theorem dX4_mean_41 : decode cX4_mean 41 = .ok (.dreturn, 1) := by decide +kernel
theorem dX4_length_0 : decode cX4_length 0 = .ok (.aload_n 0, 1) := by decide +kernel
theorem dX4_length_1 : decode cX4_length 1 = .ok (.iload_n 1, 1) := by decide +kernel
theorem dX4_length_2 : decode cX4_length 2 = .ok (.invokevirtual 145, 3) := by decide +kernel
theorem dX4_length_5 : decode cX4_length 5 = .ok (.ifCond .eq 5, 3) := by decide +kernel
theorem dX4_length_8 : decode cX4_length 8 = .ok (.dconst 0, 1) := by decide +kernel
theorem dX4_length_9 : decode cX4_length 9 = .ok (.dreturn, 1) := by decide +kernel
theorem dX4_length_10 : decode cX4_length 10 = .ok (.aload_n 0, 1) := by decide +kernel
theorem dX4_length_11 : decode cX4_length 11 = .ok (.getfield 17, 3) := by decide +kernel
theorem dX4_length_14 : decode cX4_length 14 = .ok (.iload_n 1, 1) := by decide +kernel
theorem dX4_length_15 : decode cX4_length 15 = .ok (.aaload, 1) := by decide +kernel
theorem dX4_length_16 : decode cX4_length 16 = .ok (.astore_n 3, 1) := by decide +kernel
theorem dX4_length_17 : decode cX4_length 17 = .ok (.aload_n 3, 1) := by decide +kernel
theorem dX4_length_18 : decode cX4_length 18 = .ok (.invokevirtual 148, 3) := by decide +kernel
theorem dX4_length_21 : decode cX4_length 21 = .ok (.istore 4, 2) := by decide +kernel
theorem dX4_length_23 : decode cX4_length 23 = .ok (.aload_n 3, 1) := by decide +kernel
theorem dX4_length_24 : decode cX4_length 24 = .ok (.getfield 119, 3) := by decide +kernel
theorem dX4_length_27 : decode cX4_length 27 = .ok (.ifCond .eq 15, 3) := by decide +kernel
theorem dX4_length_30 : decode cX4_length 30 = .ok (.iload 4, 2) := by decide +kernel
theorem dX4_length_32 : decode cX4_length 32 = .ok (.iconst 3, 1) := by decide +kernel
theorem dX4_length_33 : decode cX4_length 33 = .ok (.if_icmp .eq 9, 3) := by decide +kernel
theorem dX4_length_36 : decode cX4_length 36 = .ok (.iload 4, 2) := by decide +kernel
theorem dX4_length_38 : decode cX4_length 38 = .ok (.iconst 2, 1) := by decide +kernel
theorem dX4_length_39 : decode cX4_length 39 = .ok (.if_icmp .ne 5, 3) := by decide +kernel
theorem dX4_length_42 : decode cX4_length 42 = .ok (.dconst 0, 1) := by decide +kernel
theorem dX4_length_43 : decode cX4_length 43 = .ok (.dreturn, 1) := by decide +kernel
theorem dX4_length_44 : decode cX4_length 44 = .ok (.iload 4, 2) := by decide +kernel
theorem dX4_length_46 : decode cX4_length 46 = .ok (.iconst 1, 1) := by decide +kernel
theorem dX4_length_47 : decode cX4_length 47 = .ok (.if_icmp .ne 7, 3) := by decide +kernel
theorem dX4_length_50 : decode cX4_length 50 = .ok (.invokestatic 164, 3) := by decide +kernel
theorem dX4_length_53 : decode cX4_length 53 = .ok (.dreturn, 1) := by decide +kernel
theorem dX4_length_54 : decode cX4_length 54 = .ok (.aload_n 3, 1) := by decide +kernel
theorem dX4_length_55 : decode cX4_length 55 = .ok (.invokevirtual 168, 3) := by decide +kernel
theorem dX4_length_58 : decode cX4_length 58 = .ok (.ifCond .eq 5, 3) := by decide +kernel
theorem dX4_length_61 : decode cX4_length 61 = .ok (.dconst 0, 1) := by decide +kernel
theorem dX4_length_62 : decode cX4_length 62 = .ok (.dreturn, 1) := by decide +kernel
theorem dX4_length_63 : decode cX4_length 63 = .ok (.aload_n 0, 1) := by decide +kernel
theorem dX4_length_64 : decode cX4_length 64 = .ok (.getfield 31, 3) := by decide +kernel
theorem dX4_length_67 : decode cX4_length 67 = .ok (.aload_n 3, 1) := by decide +kernel
theorem dX4_length_68 : decode cX4_length 68 = .ok (.invokevirtual 171, 3) := by decide +kernel
theorem dX4_length_71 : decode cX4_length 71 = .ok (.aload_n 0, 1) := by decide +kernel
theorem dX4_length_72 : decode cX4_length 72 = .ok (.getfield 31, 3) := by decide +kernel
theorem dX4_length_75 : decode cX4_length 75 = .ok (.iload_n 2, 1) := by decide +kernel
theorem dX4_length_76 : decode cX4_length 76 = .ok (.ifCond .eq 7, 3) := by decide +kernel
theorem dX4_length_79 : decode cX4_length 79 = .ok (.iconst 2, 1) := by decide +kernel
theorem dX4_length_80 : decode cX4_length 80 = .ok (.goto 4, 3) := by decide +kernel
theorem dX4_length_83 : decode cX4_length 83 = .ok (.iconst 1, 1) := by decide +kernel
theorem dX4_length_84 : decode cX4_length 84 = .ok (.invokevirtual 174, 3) := by decide +kernel
theorem dX4_length_87 : decode cX4_length 87 = .ok (.dreturn, 1) := by decide +kernel
theorem dX4_sign_0 : decode cX4_sign 0 = .ok (.aload_n 0, 1) := by decide +kernel
theorem dX4_sign_1 : decode cX4_sign 1 = .ok (.iload_n 1, 1) := by decide +kernel
theorem dX4_sign_2 : decode cX4_sign 2 = .ok (.invokevirtual 145, 3) := by decide +kernel
theorem dX4_sign_5 : decode cX4_sign 5 = .ok (.istore_n 2, 1) := by decide +kernel
theorem dX4_sign_6 : decode cX4_sign 6 = .ok (.iload_n 2, 1) := by decide +kernel
theorem dX4_sign_7 : decode cX4_sign 7 = .ok (.ifCond .eq 5, 3) := by decide +kernel
theorem dX4_sign_10 : decode cX4_sign 10 = .ok (.iload_n 2, 1) := by decide +kernel
theorem dX4_sign_11 : decode cX4_sign 11 = .ok (.ireturn, 1) := by decide +kernel
theorem dX4_sign_12 : decode cX4_sign 12 = .ok (.aload_n 0, 1) := by decide +kernel
theorem dX4_sign_13 : decode cX4_sign 13 = .ok (.getfield 17, 3) := by decide +kernel
theorem dX4_sign_16 : decode cX4_sign 16 = .ok (.iload_n 1, 1) := by decide +kernel
theorem dX4_sign_17 : decode cX4_sign 17 = .ok (.aaload, 1) := by decide +kernel
theorem dX4_sign_18 : decode cX4_sign 18 = .ok (.astore_n 3, 1) := by decide +kernel
theorem dX4_sign_19 : decode cX4_sign 19 = .ok (.aload_n 3, 1) := by decide +kernel
theorem dX4_sign_20 : decode cX4_sign 20 = .ok (.invokevirtual 168, 3) := by decide +kernel
theorem dX4_sign_23 : decode cX4_sign 23 = .ok (.ifCond .eq 5, 3) := by decide +kernel
theorem dX4_sign_26 : decode cX4_sign 26 = .ok (.iconst 2, 1) := by decide +kernel
theorem dX4_sign_27 : decode cX4_sign 27 = .ok (.ireturn, 1) := by decide +kernel
theorem dX4_sign_28 : decode cX4_sign 28 = .ok (.aload_n 3, 1) := by decide +kernel
theorem dX4_sign_29 : decode cX4_sign 29 = .ok (.invokevirtual 177, 3) := by decide +kernel
theorem dX4_sign_32 : decode cX4_sign 32 = .ok (.ifCond .eq 7, 3) := by decide +kernel
theorem dX4_sign_35 : decode cX4_sign 35 = .ok (.iconst 0, 1) := by decide +kernel
theorem dX4_sign_36 : decode cX4_sign 36 = .ok (.goto 4, 3) := by decide +kernel
theorem dX4_sign_39 : decode cX4_sign 39 = .ok (.iconst 1, 1) := by decide +kernel
theorem dX4_sign_40 : decode cX4_sign 40 = .ok (.ireturn, 1) := by decide +kernel
theorem dX4_high_0 : decode cX4_high 0 = .ok (.aload_n 0, 1) := by decide +kernel
theorem dX4_high_1 : decode cX4_high 1 = .ok (.iload_n 1, 1) := by decide +kernel
theorem dX4_high_2 : decode cX4_high 2 = .ok (.invokevirtual 145, 3) := by decide +kernel
theorem dX4_high_5 : decode cX4_high 5 = .ok (.istore_n 2, 1) := by decide +kernel
theorem dX4_high_6 : decode cX4_high 6 = .ok (.iload_n 2, 1) := by decide +kernel
theorem dX4_high_7 : decode cX4_high 7 = .ok (.ifCond .eq 9, 3) := by decide +kernel
theorem dX4_high_10 : decode cX4_high 10 = .ok (.iload_n 2, 1) := by decide +kernel
theorem dX4_high_11 : decode cX4_high 11 = .ok (.sipush (-9999), 3) := by decide +kernel
theorem dX4_high_14 : decode cX4_high 14 = .ok (.iadd, 1) := by decide +kernel
theorem dX4_high_15 : decode cX4_high 15 = .ok (.ireturn, 1) := by decide +kernel
theorem dX4_high_16 : decode cX4_high 16 = .ok (.aload_n 0, 1) := by decide +kernel
theorem dX4_high_17 : decode cX4_high 17 = .ok (.getfield 31, 3) := by decide +kernel
theorem dX4_high_20 : decode cX4_high 20 = .ok (.aload_n 0, 1) := by decide +kernel
theorem dX4_high_21 : decode cX4_high 21 = .ok (.getfield 17, 3) := by decide +kernel
theorem dX4_high_24 : decode cX4_high 24 = .ok (.iload_n 1, 1) := by decide +kernel
theorem dX4_high_25 : decode cX4_high 25 = .ok (.aaload, 1) := by decide +kernel
theorem dX4_high_26 : decode cX4_high 26 = .ok (.invokevirtual 171, 3) := by decide +kernel
theorem dX4_high_29 : decode cX4_high 29 = .ok (.aload_n 0, 1) := by decide +kernel
theorem dX4_high_30 : decode cX4_high 30 = .ok (.getfield 31, 3) := by decide +kernel
theorem dX4_high_33 : decode cX4_high 33 = .ok (.invokevirtual 180, 3) := by decide +kernel
theorem dX4_high_36 : decode cX4_high 36 = .ok (.istore_n 3, 1) := by decide +kernel
theorem dX4_high_37 : decode cX4_high 37 = .ok (.iload_n 3, 1) := by decide +kernel
theorem dX4_high_38 : decode cX4_high 38 = .ok (.ifCond .ge 9, 3) := by decide +kernel
theorem dX4_high_41 : decode cX4_high 41 = .ok (.sipush (-10000), 3) := by decide +kernel
theorem dX4_high_44 : decode cX4_high 44 = .ok (.goto 8, 3) := by decide +kernel
theorem dX4_high_47 : decode cX4_high 47 = .ok (.iload_n 3, 1) := by decide +kernel
theorem dX4_high_48 : decode cX4_high 48 = .ok (.sipush (-2148), 3) := by decide +kernel
theorem dX4_high_51 : decode cX4_high 51 = .ok (.iadd, 1) := by decide +kernel
theorem dX4_high_52 : decode cX4_high 52 = .ok (.ireturn, 1) := by decide +kernel
theorem dX4_bit_0 : decode cX4_bit 0 = .ok (.iload_n 1, 1) := by decide +kernel
theorem dX4_bit_1 : decode cX4_bit 1 = .ok (.invokestatic 109, 3) := by decide +kernel
theorem dX4_bit_4 : decode cX4_bit 4 = .ok (.ifCond .eq 17, 3) := by decide +kernel
theorem dX4_bit_7 : decode cX4_bit 7 = .ok (.iload_n 2, 1) := by decide +kernel
theorem dX4_bit_8 : decode cX4_bit 8 = .ok (.sipush (-2148), 3) := by decide +kernel
theorem dX4_bit_11 : decode cX4_bit 11 = .ok (.if_icmp .lt 10, 3) := by decide +kernel
theorem dX4_bit_14 : decode cX4_bit 14 = .ok (.iload_n 2, 1) := by decide +kernel
theorem dX4_bit_15 : decode cX4_bit 15 = .ok (.sipush 2200, 3) := by decide +kernel
theorem dX4_bit_18 : decode cX4_bit 18 = .ok (.if_icmp .le 6, 3) := by decide +kernel
theorem dX4_bit_21 : decode cX4_bit 21 = .ok (.bipush (-3), 2) := by decide +kernel
theorem dX4_bit_23 : decode cX4_bit 23 = .ok (.ireturn, 1) := by decide +kernel
theorem dX4_bit_24 : decode cX4_bit 24 = .ok (.aload_n 0, 1) := by decide +kernel
theorem dX4_bit_25 : decode cX4_bit 25 = .ok (.getfield 17, 3) := by decide +kernel
theorem dX4_bit_28 : decode cX4_bit 28 = .ok (.iload_n 1, 1) := by decide +kernel
theorem dX4_bit_29 : decode cX4_bit 29 = .ok (.aaload, 1) := by decide +kernel
theorem dX4_bit_30 : decode cX4_bit 30 = .ok (.astore_n 3, 1) := by decide +kernel
theorem dX4_bit_31 : decode cX4_bit 31 = .ok (.aload_n 3, 1) := by decide +kernel
theorem dX4_bit_32 : decode cX4_bit 32 = .ok (.getfield 118, 3) := by decide +kernel
theorem dX4_bit_35 : decode cX4_bit 35 = .ok (.ifCond .ne 6, 3) := by decide +kernel
theorem dX4_bit_38 : decode cX4_bit 38 = .ok (.bipush (-11), 2) := by decide +kernel
theorem dX4_bit_40 : decode cX4_bit 40 = .ok (.ireturn, 1) := by decide +kernel
theorem dX4_bit_41 : decode cX4_bit 41 = .ok (.aload_n 0, 1) := by decide +kernel
theorem dX4_bit_42 : decode cX4_bit 42 = .ok (.getfield 31, 3) := by decide +kernel
theorem dX4_bit_45 : decode cX4_bit 45 = .ok (.aload_n 3, 1) := by decide +kernel
theorem dX4_bit_46 : decode cX4_bit 46 = .ok (.invokevirtual 171, 3) := by decide +kernel
theorem dX4_bit_49 : decode cX4_bit 49 = .ok (.aload_n 0, 1) := by decide +kernel
theorem dX4_bit_50 : decode cX4_bit 50 = .ok (.getfield 31, 3) := by decide +kernel
theorem dX4_bit_53 : decode cX4_bit 53 = .ok (.iload_n 2, 1) := by decide +kernel
theorem dX4_bit_54 : decode cX4_bit 54 = .ok (.sipush (-2148), 3) := by decide +kernel
theorem dX4_bit_57 : decode cX4_bit 57 = .ok (.isub, 1) := by decide +kernel
theorem dX4_bit_58 : decode cX4_bit 58 = .ok (.invokevirtual 183, 3) := by decide +kernel
theorem dX4_bit_61 : decode cX4_bit 61 = .ok (.ireturn, 1) := by decide +kernel
theorem dX4_order_0 : decode cX4_order 0 = .ok (.iload_n 1, 1) := by decide +kernel
theorem dX4_order_1 : decode cX4_order 1 = .ok (.invokestatic 109, 3) := by decide +kernel
theorem dX4_order_4 : decode cX4_order 4 = .ok (.ifCond .eq 10, 3) := by decide +kernel
theorem dX4_order_7 : decode cX4_order 7 = .ok (.iload_n 2, 1) := by decide +kernel
theorem dX4_order_8 : decode cX4_order 8 = .ok (.invokestatic 109, 3) := by decide +kernel
theorem dX4_order_11 : decode cX4_order 11 = .ok (.ifCond .ne 6, 3) := by decide +kernel
theorem dX4_order_14 : decode cX4_order 14 = .ok (.bipush (-3), 2) := by decide +kernel
theorem dX4_order_16 : decode cX4_order 16 = .ok (.ireturn, 1) := by decide +kernel
theorem dX4_order_17 : decode cX4_order 17 = .ok (.aload_n 0, 1) := by decide +kernel
theorem dX4_order_18 : decode cX4_order 18 = .ok (.getfield 17, 3) := by decide +kernel
theorem dX4_order_21 : decode cX4_order 21 = .ok (.iload_n 1, 1) := by decide +kernel
theorem dX4_order_22 : decode cX4_order 22 = .ok (.aaload, 1) := by decide +kernel
theorem dX4_order_23 : decode cX4_order 23 = .ok (.astore_n 3, 1) := by decide +kernel
theorem dX4_order_24 : decode cX4_order 24 = .ok (.aload_n 0, 1) := by decide +kernel
theorem dX4_order_25 : decode cX4_order 25 = .ok (.getfield 17, 3) := by decide +kernel
theorem dX4_order_28 : decode cX4_order 28 = .ok (.iload_n 2, 1) := by decide +kernel
theorem dX4_order_29 : decode cX4_order 29 = .ok (.aaload, 1) := by decide +kernel
theorem dX4_order_30 : decode cX4_order 30 = .ok (.astore 4, 2) := by decide +kernel
theorem dX4_order_32 : decode cX4_order 32 = .ok (.aload_n 3, 1) := by decide +kernel
theorem dX4_order_33 : decode cX4_order 33 = .ok (.getfield 118, 3) := by decide +kernel
theorem dX4_order_36 : decode cX4_order 36 = .ok (.ifCond .eq 11, 3) := by decide +kernel
theorem dX4_order_39 : decode cX4_order 39 = .ok (.aload 4, 2) := by decide +kernel
theorem dX4_order_41 : decode cX4_order 41 = .ok (.getfield 118, 3) := by decide +kernel
theorem dX4_order_44 : decode cX4_order 44 = .ok (.ifCond .ne 6, 3) := by decide +kernel
theorem dX4_order_47 : decode cX4_order 47 = .ok (.bipush (-11), 2) := by decide +kernel
theorem dX4_order_49 : decode cX4_order 49 = .ok (.ireturn, 1) := by decide +kernel
theorem dX4_order_50 : decode cX4_order 50 = .ok (.aload_n 3, 1) := by decide +kernel
theorem dX4_order_51 : decode cX4_order 51 = .ok (.aload 4, 2) := by decide +kernel
theorem dX4_order_53 : decode cX4_order 53 = .ok (.invokevirtual 186, 3) := by decide +kernel
theorem dX4_order_56 : decode cX4_order 56 = .ok (.istore 5, 2) := by decide +kernel
theorem dX4_order_58 : decode cX4_order 58 = .ok (.iload 5, 2) := by decide +kernel
theorem dX4_order_60 : decode cX4_order 60 = .ok (.ifCond .ne 5, 3) := by decide +kernel
theorem dX4_order_63 : decode cX4_order 63 = .ok (.iconst 1, 1) := by decide +kernel
theorem dX4_order_64 : decode cX4_order 64 = .ok (.ireturn, 1) := by decide +kernel
theorem dX4_order_65 : decode cX4_order 65 = .ok (.iload 5, 2) := by decide +kernel
theorem dX4_order_67 : decode cX4_order 67 = .ok (.ifCond .ge 7, 3) := by decide +kernel
theorem dX4_order_70 : decode cX4_order 70 = .ok (.iconst 2, 1) := by decide +kernel
theorem dX4_order_71 : decode cX4_order 71 = .ok (.goto 4, 3) := by decide +kernel
theorem dX4_order_74 : decode cX4_order 74 = .ok (.iconst 3, 1) := by decide +kernel
theorem dX4_order_75 : decode cX4_order 75 = .ok (.ireturn, 1) := by decide +kernel
theorem dX4_undo_0 : decode cX4_undo 0 = .ok (.aload_n 0, 1) := by decide +kernel
theorem dX4_undo_1 : decode cX4_undo 1 = .ok (.getfield 24, 3) := by decide +kernel
theorem dX4_undo_4 : decode cX4_undo 4 = .ok (.getfield 190, 3) := by decide +kernel
theorem dX4_undo_7 : decode cX4_undo 7 = .ok (.ifCond .ne 5, 3) := by decide +kernel
theorem dX4_undo_10 : decode cX4_undo 10 = .ok (.iconst (-1), 1) := by decide +kernel
theorem dX4_undo_11 : decode cX4_undo 11 = .ok (.ireturn, 1) := by decide +kernel
theorem dX4_undo_12 : decode cX4_undo 12 = .ok (.aload_n 0, 1) := by decide +kernel
theorem dX4_undo_13 : decode cX4_undo 13 = .ok (.getfield 24, 3) := by decide +kernel
theorem dX4_undo_16 : decode cX4_undo 16 = .ok (.invokevirtual 193, 3) := by decide +kernel
theorem dX4_undo_19 : decode cX4_undo 19 = .ok (.istore_n 1, 1) := by decide +kernel
theorem dX4_undo_20 : decode cX4_undo 20 = .ok (.iload_n 1, 1) := by decide +kernel
theorem dX4_undo_21 : decode cX4_undo 21 = .ok (.invokestatic 109, 3) := by decide +kernel
theorem dX4_undo_24 : decode cX4_undo 24 = .ok (.ifCond .ne 5, 3) := by decide +kernel
theorem dX4_undo_27 : decode cX4_undo 27 = .ok (.iconst (-1), 1) := by decide +kernel
theorem dX4_undo_28 : decode cX4_undo 28 = .ok (.ireturn, 1) := by decide +kernel
theorem dX4_undo_29 : decode cX4_undo 29 = .ok (.aload_n 0, 1) := by decide +kernel
theorem dX4_undo_30 : decode cX4_undo 30 = .ok (.getfield 24, 3) := by decide +kernel
theorem dX4_undo_33 : decode cX4_undo 33 = .ok (.aload_n 0, 1) := by decide +kernel
theorem dX4_undo_34 : decode cX4_undo 34 = .ok (.getfield 17, 3) := by decide +kernel
theorem dX4_undo_37 : decode cX4_undo 37 = .ok (.iload_n 1, 1) := by decide +kernel
theorem dX4_undo_38 : decode cX4_undo 38 = .ok (.aaload, 1) := by decide +kernel
theorem dX4_undo_39 : decode cX4_undo 39 = .ok (.invokevirtual 196, 3) := by decide +kernel
theorem dX4_undo_42 : decode cX4_undo 42 = .ok (.iload_n 1, 1) := by decide +kernel
theorem dX4_undo_43 : decode cX4_undo 43 = .ok (.ireturn, 1) := by decide +kernel
theorem dX4_count_0 : decode cX4_count 0 = .ok (.iload_n 1, 1) := by decide +kernel
theorem dX4_count_1 : decode cX4_count 1 = .ok (.tableswitch 74 0 5 #[39, 44, 50, 58, 63, 68], 39) := by decide +kernel
theorem dX4_count_40 : decode cX4_count 40 = .ok (.aload_n 0, 1) := by decide +kernel
theorem dX4_count_41 : decode cX4_count 41 = .ok (.invokevirtual 199, 3) := by decide +kernel
theorem dX4_count_44 : decode cX4_count 44 = .ok (.ireturn, 1) := by decide +kernel
theorem dX4_count_45 : decode cX4_count 45 = .ok (.aload_n 0, 1) := by decide +kernel
theorem dX4_count_46 : decode cX4_count 46 = .ok (.iconst 0, 1) := by decide +kernel
theorem dX4_count_47 : decode cX4_count 47 = .ok (.invokevirtual 202, 3) := by decide +kernel
theorem dX4_count_50 : decode cX4_count 50 = .ok (.ireturn, 1) := by decide +kernel
theorem dX4_count_51 : decode cX4_count 51 = .ok (.aload_n 0, 1) := by decide +kernel
theorem dX4_count_52 : decode cX4_count 52 = .ok (.getfield 24, 3) := by decide +kernel
theorem dX4_count_55 : decode cX4_count 55 = .ok (.getfield 190, 3) := by decide +kernel
theorem dX4_count_58 : decode cX4_count 58 = .ok (.ireturn, 1) := by decide +kernel
theorem dX4_count_59 : decode cX4_count 59 = .ok (.aload_n 0, 1) := by decide +kernel
theorem dX4_count_60 : decode cX4_count 60 = .ok (.invokevirtual 206, 3) := by decide +kernel
theorem dX4_count_63 : decode cX4_count 63 = .ok (.ireturn, 1) := by decide +kernel
theorem dX4_count_64 : decode cX4_count 64 = .ok (.aload_n 0, 1) := by decide +kernel
theorem dX4_count_65 : decode cX4_count 65 = .ok (.getfield 43, 3) := by decide +kernel
theorem dX4_count_68 : decode cX4_count 68 = .ok (.ireturn, 1) := by decide +kernel
theorem dX4_count_69 : decode cX4_count 69 = .ok (.aload_n 0, 1) := by decide +kernel
theorem dX4_count_70 : decode cX4_count 70 = .ok (.iconst 1, 1) := by decide +kernel
theorem dX4_count_71 : decode cX4_count 71 = .ok (.invokevirtual 202, 3) := by decide +kernel
theorem dX4_count_74 : decode cX4_count 74 = .ok (.ireturn, 1) := by decide +kernel
theorem dX4_count_75 : decode cX4_count 75 = .ok (.bipush (-3), 2) := by decide +kernel
theorem dX4_count_77 : decode cX4_count 77 = .ok (.ireturn, 1) := by decide +kernel
theorem dX4_isRow_0 : decode cX4_isRow 0 = .ok (.iload_n 0, 1) := by decide +kernel
theorem dX4_isRow_1 : decode cX4_isRow 1 = .ok (.ifCond .lt 13, 3) := by decide +kernel
theorem dX4_isRow_4 : decode cX4_isRow 4 = .ok (.iload_n 0, 1) := by decide +kernel
theorem dX4_isRow_5 : decode cX4_isRow 5 = .ok (.bipush 12, 2) := by decide +kernel
theorem dX4_isRow_7 : decode cX4_isRow 7 = .ok (.if_icmp .ge 7, 3) := by decide +kernel
theorem dX4_isRow_10 : decode cX4_isRow 10 = .ok (.iconst 1, 1) := by decide +kernel
theorem dX4_isRow_11 : decode cX4_isRow 11 = .ok (.goto 4, 3) := by decide +kernel
theorem dX4_isRow_14 : decode cX4_isRow 14 = .ok (.iconst 0, 1) := by decide +kernel
theorem dX4_isRow_15 : decode cX4_isRow 15 = .ok (.ireturn, 1) := by decide +kernel
theorem dX4_isKeeper_0 : decode cX4_isKeeper 0 = .ok (.iload_n 0, 1) := by decide +kernel
theorem dX4_isKeeper_1 : decode cX4_isKeeper 1 = .ok (.ifCond .lt 13, 3) := by decide +kernel
theorem dX4_isKeeper_4 : decode cX4_isKeeper 4 = .ok (.iload_n 0, 1) := by decide +kernel
theorem dX4_isKeeper_5 : decode cX4_isKeeper 5 = .ok (.bipush 6, 2) := by decide +kernel
theorem dX4_isKeeper_7 : decode cX4_isKeeper 7 = .ok (.if_icmp .ge 7, 3) := by decide +kernel
theorem dX4_isKeeper_10 : decode cX4_isKeeper 10 = .ok (.iconst 1, 1) := by decide +kernel
theorem dX4_isKeeper_11 : decode cX4_isKeeper 11 = .ok (.goto 4, 3) := by decide +kernel
theorem dX4_isKeeper_14 : decode cX4_isKeeper 14 = .ok (.iconst 0, 1) := by decide +kernel
theorem dX4_isKeeper_15 : decode cX4_isKeeper 15 = .ok (.ireturn, 1) := by decide +kernel
theorem dX4_isWay_0 : decode cX4_isWay 0 = .ok (.iload_n 0, 1) := by decide +kernel
theorem dX4_isWay_1 : decode cX4_isWay 1 = .ok (.ifCond .lt 12, 3) := by decide +kernel
theorem dX4_isWay_4 : decode cX4_isWay 4 = .ok (.iload_n 0, 1) := by decide +kernel
theorem dX4_isWay_5 : decode cX4_isWay 5 = .ok (.iconst 3, 1) := by decide +kernel
theorem dX4_isWay_6 : decode cX4_isWay 6 = .ok (.if_icmp .gt 7, 3) := by decide +kernel
theorem dX4_isWay_9 : decode cX4_isWay 9 = .ok (.iconst 1, 1) := by decide +kernel
theorem dX4_isWay_10 : decode cX4_isWay 10 = .ok (.goto 4, 3) := by decide +kernel
theorem dX4_isWay_13 : decode cX4_isWay 13 = .ok (.iconst 0, 1) := by decide +kernel
theorem dX4_isWay_14 : decode cX4_isWay 14 = .ok (.ireturn, 1) := by decide +kernel
theorem dX4_findingOf_0 : decode cX4_findingOf 0 = .ok (.iload_n 1, 1) := by decide +kernel
theorem dX4_findingOf_1 : decode cX4_findingOf 1 = .ok (.invokestatic 109, 3) := by decide +kernel
theorem dX4_findingOf_4 : decode cX4_findingOf 4 = .ok (.ifCond .ne 6, 3) := by decide +kernel
theorem dX4_findingOf_7 : decode cX4_findingOf 7 = .ok (.bipush (-3), 2) := by decide +kernel
theorem dX4_findingOf_9 : decode cX4_findingOf 9 = .ok (.ireturn, 1) := by decide +kernel
theorem dX4_findingOf_10 : decode cX4_findingOf 10 = .ok (.aload_n 0, 1) := by decide +kernel
theorem dX4_findingOf_11 : decode cX4_findingOf 11 = .ok (.getfield 17, 3) := by decide +kernel
theorem dX4_findingOf_14 : decode cX4_findingOf 14 = .ok (.iload_n 1, 1) := by decide +kernel
theorem dX4_findingOf_15 : decode cX4_findingOf 15 = .ok (.aaload, 1) := by decide +kernel
theorem dX4_findingOf_16 : decode cX4_findingOf 16 = .ok (.getfield 118, 3) := by decide +kernel
theorem dX4_findingOf_19 : decode cX4_findingOf 19 = .ok (.ifCond .eq 7, 3) := by decide +kernel
theorem dX4_findingOf_22 : decode cX4_findingOf 22 = .ok (.iconst 0, 1) := by decide +kernel
theorem dX4_findingOf_23 : decode cX4_findingOf 23 = .ok (.goto 5, 3) := by decide +kernel
theorem dX4_findingOf_26 : decode cX4_findingOf 26 = .ok (.bipush (-11), 2) := by decide +kernel
theorem dX4_findingOf_28 : decode cX4_findingOf 28 = .ok (.ireturn, 1) := by decide +kernel
theorem dX4_remember_0 : decode cX4_remember 0 = .ok (.aload_n 0, 1) := by decide +kernel
theorem dX4_remember_1 : decode cX4_remember 1 = .ok (.getfield 24, 3) := by decide +kernel
theorem dX4_remember_4 : decode cX4_remember 4 = .ok (.iload_n 1, 1) := by decide +kernel
theorem dX4_remember_5 : decode cX4_remember 5 = .ok (.aload_n 0, 1) := by decide +kernel
theorem dX4_remember_6 : decode cX4_remember 6 = .ok (.getfield 17, 3) := by decide +kernel
theorem dX4_remember_9 : decode cX4_remember 9 = .ok (.iload_n 1, 1) := by decide +kernel
theorem dX4_remember_10 : decode cX4_remember 10 = .ok (.aaload, 1) := by decide +kernel
theorem dX4_remember_11 : decode cX4_remember 11 = .ok (.invokevirtual 209, 3) := by decide +kernel
theorem dX4_remember_14 : decode cX4_remember 14 = .ok (.return_, 1) := by decide +kernel
theorem dX4_gatherInto_0 : decode cX4_gatherInto 0 = .ok (.iload 5, 2) := by decide +kernel
theorem dX4_gatherInto_2 : decode cX4_gatherInto 2 = .ok (.invokestatic 120, 3) := by decide +kernel
theorem dX4_gatherInto_5 : decode cX4_gatherInto 5 = .ok (.istore 6, 2) := by decide +kernel
theorem dX4_gatherInto_7 : decode cX4_gatherInto 7 = .ok (.aload_n 0, 1) := by decide +kernel
theorem dX4_gatherInto_8 : decode cX4_gatherInto 8 = .ok (.iload_n 1, 1) := by decide +kernel
theorem dX4_gatherInto_9 : decode cX4_gatherInto 9 = .ok (.invokevirtual 112, 3) := by decide +kernel
theorem dX4_gatherInto_12 : decode cX4_gatherInto 12 = .ok (.aload_n 0, 1) := by decide +kernel
theorem dX4_gatherInto_13 : decode cX4_gatherInto 13 = .ok (.getfield 17, 3) := by decide +kernel
theorem dX4_gatherInto_16 : decode cX4_gatherInto 16 = .ok (.iload_n 1, 1) := by decide +kernel
theorem dX4_gatherInto_17 : decode cX4_gatherInto 17 = .ok (.aaload, 1) := by decide +kernel
theorem dX4_gatherInto_18 : decode cX4_gatherInto 18 = .ok (.aload_n 2, 1) := by decide +kernel
theorem dX4_gatherInto_19 : decode cX4_gatherInto 19 = .ok (.aload_n 3, 1) := by decide +kernel
theorem dX4_gatherInto_20 : decode cX4_gatherInto 20 = .ok (.iload 4, 2) := by decide +kernel
theorem dX4_gatherInto_22 : decode cX4_gatherInto 22 = .ok (.iload 6, 2) := by decide +kernel
theorem dX4_gatherInto_24 : decode cX4_gatherInto 24 = .ok (.iload 5, 2) := by decide +kernel
theorem dX4_gatherInto_26 : decode cX4_gatherInto 26 = .ok (.ifCond .ge 7, 3) := by decide +kernel
theorem dX4_gatherInto_29 : decode cX4_gatherInto 29 = .ok (.iconst 1, 1) := by decide +kernel
theorem dX4_gatherInto_30 : decode cX4_gatherInto 30 = .ok (.goto 4, 3) := by decide +kernel
theorem dX4_gatherInto_33 : decode cX4_gatherInto 33 = .ok (.iconst 0, 1) := by decide +kernel
theorem dX4_gatherInto_34 : decode cX4_gatherInto 34 = .ok (.invokevirtual 141, 3) := by decide +kernel
theorem dX4_gatherInto_37 : decode cX4_gatherInto 37 = .ok (.aload_n 0, 1) := by decide +kernel
theorem dX4_gatherInto_38 : decode cX4_gatherInto 38 = .ok (.dup, 1) := by decide +kernel
theorem dX4_gatherInto_39 : decode cX4_gatherInto 39 = .ok (.getfield 43, 3) := by decide +kernel
theorem dX4_gatherInto_42 : decode cX4_gatherInto 42 = .ok (.iload 6, 2) := by decide +kernel
theorem dX4_gatherInto_44 : decode cX4_gatherInto 44 = .ok (.iadd, 1) := by decide +kernel
theorem dX4_gatherInto_45 : decode cX4_gatherInto 45 = .ok (.putfield 43, 3) := by decide +kernel
theorem dX4_gatherInto_48 : decode cX4_gatherInto 48 = .ok (.iload 6, 2) := by decide +kernel
theorem dX4_gatherInto_50 : decode cX4_gatherInto 50 = .ok (.ireturn, 1) := by decide +kernel
theorem dX4_sharedOut_0 : decode cX4_sharedOut 0 = .ok (.aload_n 1, 1) := by decide +kernel
theorem dX4_sharedOut_1 : decode cX4_sharedOut 1 = .ok (.invokevirtual 148, 3) := by decide +kernel
theorem dX4_sharedOut_4 : decode cX4_sharedOut 4 = .ok (.tableswitch 39 1 3 #[28, 32, 37], 28) := by decide +kernel
theorem dX4_sharedOut_32 : decode cX4_sharedOut 32 = .ok (.invokestatic 164, 3) := by decide +kernel
theorem dX4_sharedOut_35 : decode cX4_sharedOut 35 = .ok (.dreturn, 1) := by decide +kernel
theorem dX4_sharedOut_36 : decode cX4_sharedOut 36 = .ok (.invokestatic 164, 3) := by decide +kernel
theorem dX4_sharedOut_39 : decode cX4_sharedOut 39 = .ok (.dneg, 1) := by decide +kernel
theorem dX4_sharedOut_40 : decode cX4_sharedOut 40 = .ok (.dreturn, 1) := by decide +kernel
theorem dX4_sharedOut_41 : decode cX4_sharedOut 41 = .ok (.dconst 0, 1) := by decide +kernel
theorem dX4_sharedOut_42 : decode cX4_sharedOut 42 = .ok (.dreturn, 1) := by decide +kernel
theorem dX4_sharedOut_43 : decode cX4_sharedOut 43 = .ok (.aload_n 0, 1) := by decide +kernel
theorem dX4_sharedOut_44 : decode cX4_sharedOut 44 = .ok (.getfield 31, 3) := by decide +kernel
theorem dX4_sharedOut_47 : decode cX4_sharedOut 47 = .ok (.aload_n 1, 1) := by decide +kernel
theorem dX4_sharedOut_48 : decode cX4_sharedOut 48 = .ok (.invokevirtual 171, 3) := by decide +kernel
theorem dX4_sharedOut_51 : decode cX4_sharedOut 51 = .ok (.aload_n 0, 1) := by decide +kernel
theorem dX4_sharedOut_52 : decode cX4_sharedOut 52 = .ok (.getfield 31, 3) := by decide +kernel
theorem dX4_sharedOut_55 : decode cX4_sharedOut 55 = .ok (.iload_n 2, 1) := by decide +kernel
theorem dX4_sharedOut_56 : decode cX4_sharedOut 56 = .ok (.invokevirtual 213, 3) := by decide +kernel
theorem dX4_sharedOut_59 : decode cX4_sharedOut 59 = .ok (.istore 5, 2) := by decide +kernel
theorem dX4_sharedOut_61 : decode cX4_sharedOut 61 = .ok (.aload_n 0, 1) := by decide +kernel
theorem dX4_sharedOut_62 : decode cX4_sharedOut 62 = .ok (.getfield 31, 3) := by decide +kernel
theorem dX4_sharedOut_65 : decode cX4_sharedOut 65 = .ok (.aload_n 1, 1) := by decide +kernel
theorem dX4_sharedOut_66 : decode cX4_sharedOut 66 = .ok (.invokevirtual 168, 3) := by decide +kernel
theorem dX4_sharedOut_69 : decode cX4_sharedOut 69 = .ok (.iload 5, 2) := by decide +kernel
theorem dX4_sharedOut_71 : decode cX4_sharedOut 71 = .ok (.iload_n 3, 1) := by decide +kernel
theorem dX4_sharedOut_72 : decode cX4_sharedOut 72 = .ok (.iload 4, 2) := by decide +kernel
theorem dX4_sharedOut_74 : decode cX4_sharedOut 74 = .ok (.invokevirtual 216, 3) := by decide +kernel
theorem dX4_sharedOut_77 : decode cX4_sharedOut 77 = .ok (.dreturn, 1) := by decide +kernel
theorem dX4_rowsThere_0 : decode cX4_rowsThere 0 = .ok (.iconst 0, 1) := by decide +kernel
theorem dX4_rowsThere_1 : decode cX4_rowsThere 1 = .ok (.istore_n 1, 1) := by decide +kernel
theorem dX4_rowsThere_2 : decode cX4_rowsThere 2 = .ok (.aload_n 0, 1) := by decide +kernel
theorem dX4_rowsThere_3 : decode cX4_rowsThere 3 = .ok (.getfield 11, 3) := by decide +kernel
theorem dX4_rowsThere_6 : decode cX4_rowsThere 6 = .ok (.astore_n 2, 1) := by decide +kernel
theorem dX4_rowsThere_7 : decode cX4_rowsThere 7 = .ok (.aload_n 2, 1) := by decide +kernel
theorem dX4_rowsThere_8 : decode cX4_rowsThere 8 = .ok (.arraylength, 1) := by decide +kernel
theorem dX4_rowsThere_9 : decode cX4_rowsThere 9 = .ok (.istore_n 3, 1) := by decide +kernel
theorem dX4_rowsThere_10 : decode cX4_rowsThere 10 = .ok (.iconst 0, 1) := by decide +kernel
theorem dX4_rowsThere_11 : decode cX4_rowsThere 11 = .ok (.istore 4, 2) := by decide +kernel
theorem dX4_rowsThere_13 : decode cX4_rowsThere 13 = .ok (.iload 4, 2) := by decide +kernel
theorem dX4_rowsThere_15 : decode cX4_rowsThere 15 = .ok (.iload_n 3, 1) := by decide +kernel
theorem dX4_rowsThere_16 : decode cX4_rowsThere 16 = .ok (.if_icmp .ge 31, 3) := by decide +kernel
theorem dX4_rowsThere_19 : decode cX4_rowsThere 19 = .ok (.aload_n 2, 1) := by decide +kernel
theorem dX4_rowsThere_20 : decode cX4_rowsThere 20 = .ok (.iload 4, 2) := by decide +kernel
theorem dX4_rowsThere_22 : decode cX4_rowsThere 22 = .ok (.aaload, 1) := by decide +kernel
theorem dX4_rowsThere_23 : decode cX4_rowsThere 23 = .ok (.astore 5, 2) := by decide +kernel
theorem dX4_rowsThere_25 : decode cX4_rowsThere 25 = .ok (.iload_n 1, 1) := by decide +kernel
theorem dX4_rowsThere_26 : decode cX4_rowsThere 26 = .ok (.aload 5, 2) := by decide +kernel
theorem dX4_rowsThere_28 : decode cX4_rowsThere 28 = .ok (.getfield 60, 3) := by decide +kernel
theorem dX4_rowsThere_31 : decode cX4_rowsThere 31 = .ok (.ifCond .eq 7, 3) := by decide +kernel
theorem dX4_rowsThere_34 : decode cX4_rowsThere 34 = .ok (.iconst 1, 1) := by decide +kernel
theorem dX4_rowsThere_35 : decode cX4_rowsThere 35 = .ok (.goto 4, 3) := by decide +kernel
theorem dX4_rowsThere_38 : decode cX4_rowsThere 38 = .ok (.iconst 0, 1) := by decide +kernel
theorem dX4_rowsThere_39 : decode cX4_rowsThere 39 = .ok (.iadd, 1) := by decide +kernel
theorem dX4_rowsThere_40 : decode cX4_rowsThere 40 = .ok (.istore_n 1, 1) := by decide +kernel
theorem dX4_rowsThere_41 : decode cX4_rowsThere 41 = .ok (.iinc 4 1, 3) := by decide +kernel
theorem dX4_rowsThere_44 : decode cX4_rowsThere 44 = .ok (.goto (-31), 3) := by decide +kernel
theorem dX4_rowsThere_47 : decode cX4_rowsThere 47 = .ok (.iload_n 1, 1) := by decide +kernel
theorem dX4_rowsThere_48 : decode cX4_rowsThere 48 = .ok (.ireturn, 1) := by decide +kernel
theorem dX4_placesThere_0 : decode cX4_placesThere 0 = .ok (.iconst 0, 1) := by decide +kernel
theorem dX4_placesThere_1 : decode cX4_placesThere 1 = .ok (.istore_n 1, 1) := by decide +kernel
theorem dX4_placesThere_2 : decode cX4_placesThere 2 = .ok (.aload_n 0, 1) := by decide +kernel
theorem dX4_placesThere_3 : decode cX4_placesThere 3 = .ok (.getfield 11, 3) := by decide +kernel
theorem dX4_placesThere_6 : decode cX4_placesThere 6 = .ok (.astore_n 2, 1) := by decide +kernel
theorem dX4_placesThere_7 : decode cX4_placesThere 7 = .ok (.aload_n 2, 1) := by decide +kernel
theorem dX4_placesThere_8 : decode cX4_placesThere 8 = .ok (.arraylength, 1) := by decide +kernel
theorem dX4_placesThere_9 : decode cX4_placesThere 9 = .ok (.istore_n 3, 1) := by decide +kernel
theorem dX4_placesThere_10 : decode cX4_placesThere 10 = .ok (.iconst 0, 1) := by decide +kernel
theorem dX4_placesThere_11 : decode cX4_placesThere 11 = .ok (.istore 4, 2) := by decide +kernel
theorem dX4_placesThere_13 : decode cX4_placesThere 13 = .ok (.iload 4, 2) := by decide +kernel
theorem dX4_placesThere_15 : decode cX4_placesThere 15 = .ok (.iload_n 3, 1) := by decide +kernel
theorem dX4_placesThere_16 : decode cX4_placesThere 16 = .ok (.if_icmp .ge 35, 3) := by decide +kernel
theorem dX4_placesThere_19 : decode cX4_placesThere 19 = .ok (.aload_n 2, 1) := by decide +kernel
theorem dX4_placesThere_20 : decode cX4_placesThere 20 = .ok (.iload 4, 2) := by decide +kernel
theorem dX4_placesThere_22 : decode cX4_placesThere 22 = .ok (.aaload, 1) := by decide +kernel
theorem dX4_placesThere_23 : decode cX4_placesThere 23 = .ok (.astore 5, 2) := by decide +kernel
theorem dX4_placesThere_25 : decode cX4_placesThere 25 = .ok (.iload_n 1, 1) := by decide +kernel
theorem dX4_placesThere_26 : decode cX4_placesThere 26 = .ok (.aload 5, 2) := by decide +kernel
theorem dX4_placesThere_28 : decode cX4_placesThere 28 = .ok (.getfield 60, 3) := by decide +kernel
theorem dX4_placesThere_31 : decode cX4_placesThere 31 = .ok (.ifCond .eq 11, 3) := by decide +kernel
theorem dX4_placesThere_34 : decode cX4_placesThere 34 = .ok (.aload 5, 2) := by decide +kernel
theorem dX4_placesThere_36 : decode cX4_placesThere 36 = .ok (.getfield 64, 3) := by decide +kernel
theorem dX4_placesThere_39 : decode cX4_placesThere 39 = .ok (.goto 4, 3) := by decide +kernel
theorem dX4_placesThere_42 : decode cX4_placesThere 42 = .ok (.iconst 0, 1) := by decide +kernel
theorem dX4_placesThere_43 : decode cX4_placesThere 43 = .ok (.iadd, 1) := by decide +kernel
theorem dX4_placesThere_44 : decode cX4_placesThere 44 = .ok (.istore_n 1, 1) := by decide +kernel
theorem dX4_placesThere_45 : decode cX4_placesThere 45 = .ok (.iinc 4 1, 3) := by decide +kernel
theorem dX4_placesThere_48 : decode cX4_placesThere 48 = .ok (.goto (-35), 3) := by decide +kernel
theorem dX4_placesThere_51 : decode cX4_placesThere 51 = .ok (.iload_n 1, 1) := by decide +kernel
theorem dX4_placesThere_52 : decode cX4_placesThere 52 = .ok (.ireturn, 1) := by decide +kernel
theorem dX4_keepersThere_0 : decode cX4_keepersThere 0 = .ok (.iconst 0, 1) := by decide +kernel
theorem dX4_keepersThere_1 : decode cX4_keepersThere 1 = .ok (.istore_n 2, 1) := by decide +kernel
theorem dX4_keepersThere_2 : decode cX4_keepersThere 2 = .ok (.aload_n 0, 1) := by decide +kernel
theorem dX4_keepersThere_3 : decode cX4_keepersThere 3 = .ok (.getfield 17, 3) := by decide +kernel
theorem dX4_keepersThere_6 : decode cX4_keepersThere 6 = .ok (.astore_n 3, 1) := by decide +kernel
theorem dX4_keepersThere_7 : decode cX4_keepersThere 7 = .ok (.aload_n 3, 1) := by decide +kernel
theorem dX4_keepersThere_8 : decode cX4_keepersThere 8 = .ok (.arraylength, 1) := by decide +kernel
theorem dX4_keepersThere_9 : decode cX4_keepersThere 9 = .ok (.istore 4, 2) := by decide +kernel
theorem dX4_keepersThere_11 : decode cX4_keepersThere 11 = .ok (.iconst 0, 1) := by decide +kernel
theorem dX4_keepersThere_12 : decode cX4_keepersThere 12 = .ok (.istore 5, 2) := by decide +kernel
theorem dX4_keepersThere_14 : decode cX4_keepersThere 14 = .ok (.iload 5, 2) := by decide +kernel
theorem dX4_keepersThere_16 : decode cX4_keepersThere 16 = .ok (.iload 4, 2) := by decide +kernel
theorem dX4_keepersThere_18 : decode cX4_keepersThere 18 = .ok (.if_icmp .ge 39, 3) := by decide +kernel
theorem dX4_keepersThere_21 : decode cX4_keepersThere 21 = .ok (.aload_n 3, 1) := by decide +kernel
theorem dX4_keepersThere_22 : decode cX4_keepersThere 22 = .ok (.iload 5, 2) := by decide +kernel
theorem dX4_keepersThere_24 : decode cX4_keepersThere 24 = .ok (.aaload, 1) := by decide +kernel
theorem dX4_keepersThere_25 : decode cX4_keepersThere 25 = .ok (.astore 6, 2) := by decide +kernel
theorem dX4_keepersThere_27 : decode cX4_keepersThere 27 = .ok (.aload 6, 2) := by decide +kernel
theorem dX4_keepersThere_29 : decode cX4_keepersThere 29 = .ok (.getfield 118, 3) := by decide +kernel
theorem dX4_keepersThere_32 : decode cX4_keepersThere 32 = .ok (.ifCond .eq 19, 3) := by decide +kernel
theorem dX4_keepersThere_35 : decode cX4_keepersThere 35 = .ok (.iload_n 1, 1) := by decide +kernel
theorem dX4_keepersThere_36 : decode cX4_keepersThere 36 = .ok (.ifCond .eq 12, 3) := by decide +kernel
theorem dX4_keepersThere_39 : decode cX4_keepersThere 39 = .ok (.aload 6, 2) := by decide +kernel
theorem dX4_keepersThere_41 : decode cX4_keepersThere 41 = .ok (.invokevirtual 148, 3) := by decide +kernel
theorem dX4_keepersThere_44 : decode cX4_keepersThere 44 = .ok (.iconst 3, 1) := by decide +kernel
theorem dX4_keepersThere_45 : decode cX4_keepersThere 45 = .ok (.if_icmp .ne 6, 3) := by decide +kernel
theorem dX4_keepersThere_48 : decode cX4_keepersThere 48 = .ok (.iinc 2 1, 3) := by decide +kernel
theorem dX4_keepersThere_51 : decode cX4_keepersThere 51 = .ok (.iinc 5 1, 3) := by decide +kernel
theorem dX4_keepersThere_54 : decode cX4_keepersThere 54 = .ok (.goto (-40), 3) := by decide +kernel
theorem dX4_keepersThere_57 : decode cX4_keepersThere 57 = .ok (.iload_n 2, 1) := by decide +kernel
theorem dX4_keepersThere_58 : decode cX4_keepersThere 58 = .ok (.ireturn, 1) := by decide +kernel
theorem dX4_endless_0 : decode cX4_endless 0 = .ok (.ldc2_w 220, 3) := by decide +kernel
theorem dX4_endless_3 : decode cX4_endless 3 = .ok (.dreturn, 1) := by decide +kernel
theorem dX4_greatest_0 : decode cX4_greatest 0 = .ok (.iload_n 0, 1) := by decide +kernel
theorem dX4_greatest_1 : decode cX4_greatest 1 = .ok (.ifCond .eq 9, 3) := by decide +kernel
theorem dX4_greatest_4 : decode cX4_greatest 4 = .ok (.ldc2_w 222, 3) := by decide +kernel
theorem dX4_greatest_7 : decode cX4_greatest 7 = .ok (.goto 6, 3) := by decide +kernel
theorem dX4_greatest_10 : decode cX4_greatest 10 = .ok (.ldc2_w 224, 3) := by decide +kernel
theorem dX4_greatest_13 : decode cX4_greatest 13 = .ok (.dreturn, 1) := by decide +kernel
theorem dX4_power_0 : decode cX4_power 0 = .ok (.iload_n 0, 1) := by decide +kernel
theorem dX4_power_1 : decode cX4_power 1 = .ok (.ifCond .ge 9, 3) := by decide +kernel
theorem dX4_power_4 : decode cX4_power 4 = .ok (.ldc2_w 226, 3) := by decide +kernel
theorem dX4_power_7 : decode cX4_power 7 = .ok (.goto 6, 3) := by decide +kernel
theorem dX4_power_10 : decode cX4_power 10 = .ok (.ldc2_w 228, 3) := by decide +kernel
theorem dX4_power_13 : decode cX4_power 13 = .ok (.dstore_n 1, 1) := by decide +kernel
theorem dX4_power_14 : decode cX4_power 14 = .ok (.dconst 1, 1) := by decide +kernel
theorem dX4_power_15 : decode cX4_power 15 = .ok (.dstore_n 3, 1) := by decide +kernel
theorem dX4_power_16 : decode cX4_power 16 = .ok (.iload_n 0, 1) := by decide +kernel
theorem dX4_power_17 : decode cX4_power 17 = .ok (.invokestatic 120, 3) := by decide +kernel
theorem dX4_power_20 : decode cX4_power 20 = .ok (.istore 5, 2) := by decide +kernel
theorem dX4_power_22 : decode cX4_power 22 = .ok (.iload 5, 2) := by decide +kernel
theorem dX4_power_24 : decode cX4_power 24 = .ok (.ifCond .le 28, 3) := by decide +kernel
theorem dX4_power_27 : decode cX4_power 27 = .ok (.iload 5, 2) := by decide +kernel
theorem dX4_power_29 : decode cX4_power 29 = .ok (.iconst 1, 1) := by decide +kernel
theorem dX4_power_30 : decode cX4_power 30 = .ok (.iand, 1) := by decide +kernel
theorem dX4_power_31 : decode cX4_power 31 = .ok (.iconst 1, 1) := by decide +kernel
theorem dX4_power_32 : decode cX4_power 32 = .ok (.if_icmp .ne 7, 3) := by decide +kernel
theorem dX4_power_35 : decode cX4_power 35 = .ok (.dload_n 3, 1) := by decide +kernel
theorem dX4_power_36 : decode cX4_power 36 = .ok (.dload_n 1, 1) := by decide +kernel
theorem dX4_power_37 : decode cX4_power 37 = .ok (.dmul, 1) := by decide +kernel
theorem dX4_power_38 : decode cX4_power 38 = .ok (.dstore_n 3, 1) := by decide +kernel
theorem dX4_power_39 : decode cX4_power 39 = .ok (.dload_n 1, 1) := by decide +kernel
theorem dX4_power_40 : decode cX4_power 40 = .ok (.dload_n 1, 1) := by decide +kernel
theorem dX4_power_41 : decode cX4_power 41 = .ok (.dmul, 1) := by decide +kernel
theorem dX4_power_42 : decode cX4_power 42 = .ok (.dstore_n 1, 1) := by decide +kernel
theorem dX4_power_43 : decode cX4_power 43 = .ok (.iload 5, 2) := by decide +kernel
theorem dX4_power_45 : decode cX4_power 45 = .ok (.iconst 1, 1) := by decide +kernel
theorem dX4_power_46 : decode cX4_power 46 = .ok (.ishr, 1) := by decide +kernel
theorem dX4_power_47 : decode cX4_power 47 = .ok (.istore 5, 2) := by decide +kernel
theorem dX4_power_49 : decode cX4_power 49 = .ok (.goto (-27), 3) := by decide +kernel
theorem dX4_power_52 : decode cX4_power 52 = .ok (.dload_n 3, 1) := by decide +kernel
theorem dX4_power_53 : decode cX4_power 53 = .ok (.dreturn, 1) := by decide +kernel
theorem dX4_bitsIn_0 : decode cX4_bitsIn 0 = .ok (.bipush 64, 2) := by decide +kernel
theorem dX4_bitsIn_2 : decode cX4_bitsIn 2 = .ok (.lload_n 0, 1) := by decide +kernel
theorem dX4_bitsIn_3 : decode cX4_bitsIn 3 = .ok (.invokestatic 230, 3) := by decide +kernel
theorem dX4_bitsIn_6 : decode cX4_bitsIn 6 = .ok (.isub, 1) := by decide +kernel
theorem dX4_bitsIn_7 : decode cX4_bitsIn 7 = .ok (.ireturn, 1) := by decide +kernel
theorem dX4_stepsAway_0 : decode cX4_stepsAway 0 = .ok (.iload 5, 2) := by decide +kernel
theorem dX4_stepsAway_2 : decode cX4_stepsAway 2 = .ok (.tableswitch 90 0 3 #[30, 90, 52, 71], 30) := by decide +kernel
theorem dX4_stepsAway_32 : decode cX4_stepsAway 32 = .ok (.iload_n 2, 1) := by decide +kernel
theorem dX4_stepsAway_33 : decode cX4_stepsAway 33 = .ok (.ifCond .eq 19, 3) := by decide +kernel
theorem dX4_stepsAway_36 : decode cX4_stepsAway 36 = .ok (.iload_n 3, 1) := by decide +kernel
theorem dX4_stepsAway_37 : decode cX4_stepsAway 37 = .ok (.ifCond .ne 11, 3) := by decide +kernel
theorem dX4_stepsAway_40 : decode cX4_stepsAway 40 = .ok (.lload_n 0, 1) := by decide +kernel
theorem dX4_stepsAway_41 : decode cX4_stepsAway 41 = .ok (.lconst 1, 1) := by decide +kernel
theorem dX4_stepsAway_42 : decode cX4_stepsAway 42 = .ok (.land, 1) := by decide +kernel
theorem dX4_stepsAway_43 : decode cX4_stepsAway 43 = .ok (.lconst 1, 1) := by decide +kernel
theorem dX4_stepsAway_44 : decode cX4_stepsAway 44 = .ok (.lcmp, 1) := by decide +kernel
theorem dX4_stepsAway_45 : decode cX4_stepsAway 45 = .ok (.ifCond .ne 7, 3) := by decide +kernel
theorem dX4_stepsAway_48 : decode cX4_stepsAway 48 = .ok (.iconst 1, 1) := by decide +kernel
theorem dX4_stepsAway_49 : decode cX4_stepsAway 49 = .ok (.goto 4, 3) := by decide +kernel
theorem dX4_stepsAway_52 : decode cX4_stepsAway 52 = .ok (.iconst 0, 1) := by decide +kernel
theorem dX4_stepsAway_53 : decode cX4_stepsAway 53 = .ok (.ireturn, 1) := by decide +kernel
theorem dX4_stepsAway_54 : decode cX4_stepsAway 54 = .ok (.iload 4, 2) := by decide +kernel
theorem dX4_stepsAway_56 : decode cX4_stepsAway 56 = .ok (.ifCond .ne 15, 3) := by decide +kernel
theorem dX4_stepsAway_59 : decode cX4_stepsAway 59 = .ok (.iload_n 2, 1) := by decide +kernel
theorem dX4_stepsAway_60 : decode cX4_stepsAway 60 = .ok (.ifCond .ne 7, 3) := by decide +kernel
theorem dX4_stepsAway_63 : decode cX4_stepsAway 63 = .ok (.iload_n 3, 1) := by decide +kernel
theorem dX4_stepsAway_64 : decode cX4_stepsAway 64 = .ok (.ifCond .eq 7, 3) := by decide +kernel
theorem dX4_stepsAway_67 : decode cX4_stepsAway 67 = .ok (.iconst 1, 1) := by decide +kernel
theorem dX4_stepsAway_68 : decode cX4_stepsAway 68 = .ok (.goto 4, 3) := by decide +kernel
theorem dX4_stepsAway_71 : decode cX4_stepsAway 71 = .ok (.iconst 0, 1) := by decide +kernel
theorem dX4_stepsAway_72 : decode cX4_stepsAway 72 = .ok (.ireturn, 1) := by decide +kernel
theorem dX4_stepsAway_73 : decode cX4_stepsAway 73 = .ok (.iload 4, 2) := by decide +kernel
theorem dX4_stepsAway_75 : decode cX4_stepsAway 75 = .ok (.ifCond .eq 15, 3) := by decide +kernel
theorem dX4_stepsAway_78 : decode cX4_stepsAway 78 = .ok (.iload_n 2, 1) := by decide +kernel
theorem dX4_stepsAway_79 : decode cX4_stepsAway 79 = .ok (.ifCond .ne 7, 3) := by decide +kernel
theorem dX4_stepsAway_82 : decode cX4_stepsAway 82 = .ok (.iload_n 3, 1) := by decide +kernel
theorem dX4_stepsAway_83 : decode cX4_stepsAway 83 = .ok (.ifCond .eq 7, 3) := by decide +kernel
theorem dX4_stepsAway_86 : decode cX4_stepsAway 86 = .ok (.iconst 1, 1) := by decide +kernel
theorem dX4_stepsAway_87 : decode cX4_stepsAway 87 = .ok (.goto 4, 3) := by decide +kernel
theorem dX4_stepsAway_90 : decode cX4_stepsAway 90 = .ok (.iconst 0, 1) := by decide +kernel
theorem dX4_stepsAway_91 : decode cX4_stepsAway 91 = .ok (.ireturn, 1) := by decide +kernel
theorem dX4_stepsAway_92 : decode cX4_stepsAway 92 = .ok (.iconst 0, 1) := by decide +kernel
theorem dX4_stepsAway_93 : decode cX4_stepsAway 93 = .ok (.ireturn, 1) := by decide +kernel
theorem dX4_finished_0 : decode cX4_finished 0 = .ok (.lload_n 0, 1) := by decide +kernel
theorem dX4_finished_1 : decode cX4_finished 1 = .ok (.lconst 0, 1) := by decide +kernel
theorem dX4_finished_2 : decode cX4_finished 2 = .ok (.lcmp, 1) := by decide +kernel
theorem dX4_finished_3 : decode cX4_finished 3 = .ok (.ifCond .ne 5, 3) := by decide +kernel
theorem dX4_finished_6 : decode cX4_finished 6 = .ok (.dconst 0, 1) := by decide +kernel
theorem dX4_finished_7 : decode cX4_finished 7 = .ok (.dreturn, 1) := by decide +kernel
theorem dX4_finished_8 : decode cX4_finished 8 = .ok (.iload 5, 2) := by decide +kernel
theorem dX4_finished_10 : decode cX4_finished 10 = .ok (.ifCond .eq 9, 3) := by decide +kernel
theorem dX4_finished_13 : decode cX4_finished 13 = .ok (.sipush 128, 3) := by decide +kernel
theorem dX4_finished_16 : decode cX4_finished 16 = .ok (.goto 6, 3) := by decide +kernel
theorem dX4_finished_19 : decode cX4_finished 19 = .ok (.sipush 1024, 3) := by decide +kernel
theorem dX4_finished_22 : decode cX4_finished 22 = .ok (.istore 6, 2) := by decide +kernel
theorem dX4_finished_24 : decode cX4_finished 24 = .ok (.lload_n 0, 1) := by decide +kernel
theorem dX4_finished_25 : decode cX4_finished 25 = .ok (.invokestatic 236, 3) := by decide +kernel
theorem dX4_finished_28 : decode cX4_finished 28 = .ok (.iload_n 2, 1) := by decide +kernel
theorem dX4_finished_29 : decode cX4_finished 29 = .ok (.iadd, 1) := by decide +kernel
theorem dX4_finished_30 : decode cX4_finished 30 = .ok (.iload 6, 2) := by decide +kernel
theorem dX4_finished_32 : decode cX4_finished 32 = .ok (.if_icmp .le 50, 3) := by decide +kernel
theorem dX4_finished_35 : decode cX4_finished 35 = .ok (.iload 4, 2) := by decide +kernel
theorem dX4_finished_37 : decode cX4_finished 37 = .ok (.ifCond .eq 17, 3) := by decide +kernel
theorem dX4_finished_40 : decode cX4_finished 40 = .ok (.iload 4, 2) := by decide +kernel
theorem dX4_finished_42 : decode cX4_finished 42 = .ok (.iload_n 3, 1) := by decide +kernel
theorem dX4_finished_43 : decode cX4_finished 43 = .ok (.ifCond .eq 7, 3) := by decide +kernel
theorem dX4_finished_46 : decode cX4_finished 46 = .ok (.iconst 3, 1) := by decide +kernel
theorem dX4_finished_47 : decode cX4_finished 47 = .ok (.goto 4, 3) := by decide +kernel
theorem dX4_finished_50 : decode cX4_finished 50 = .ok (.iconst 2, 1) := by decide +kernel
theorem dX4_finished_51 : decode cX4_finished 51 = .ok (.if_icmp .ne 7, 3) := by decide +kernel
theorem dX4_finished_54 : decode cX4_finished 54 = .ok (.iconst 1, 1) := by decide +kernel
theorem dX4_finished_55 : decode cX4_finished 55 = .ok (.goto 4, 3) := by decide +kernel
theorem dX4_finished_58 : decode cX4_finished 58 = .ok (.iconst 0, 1) := by decide +kernel
theorem dX4_finished_59 : decode cX4_finished 59 = .ok (.istore 9, 2) := by decide +kernel
theorem dX4_finished_61 : decode cX4_finished 61 = .ok (.iload 9, 2) := by decide +kernel
theorem dX4_finished_63 : decode cX4_finished 63 = .ok (.ifCond .eq 9, 3) := by decide +kernel
theorem dX4_finished_66 : decode cX4_finished 66 = .ok (.invokestatic 164, 3) := by decide +kernel
theorem dX4_finished_69 : decode cX4_finished 69 = .ok (.goto 8, 3) := by decide +kernel
theorem dX4_finished_72 : decode cX4_finished 72 = .ok (.iload 5, 2) := by decide +kernel
theorem dX4_finished_74 : decode cX4_finished 74 = .ok (.invokestatic 239, 3) := by decide +kernel
theorem dX4_finished_77 : decode cX4_finished 77 = .ok (.dstore 7, 2) := by decide +kernel
theorem dX4_finished_79 : decode cX4_finished 79 = .ok (.goto 12, 3) := by decide +kernel
theorem dX4_finished_82 : decode cX4_finished 82 = .ok (.lload_n 0, 1) := by decide +kernel
theorem dX4_finished_83 : decode cX4_finished 83 = .ok (.l2d, 1) := by decide +kernel
theorem dX4_finished_84 : decode cX4_finished 84 = .ok (.iload_n 2, 1) := by decide +kernel
theorem dX4_finished_85 : decode cX4_finished 85 = .ok (.invokestatic 243, 3) := by decide +kernel
theorem dX4_finished_88 : decode cX4_finished 88 = .ok (.dmul, 1) := by decide +kernel
theorem dX4_finished_89 : decode cX4_finished 89 = .ok (.dstore 7, 2) := by decide +kernel
theorem dX4_finished_91 : decode cX4_finished 91 = .ok (.iload_n 3, 1) := by decide +kernel
theorem dX4_finished_92 : decode cX4_finished 92 = .ok (.ifCond .eq 9, 3) := by decide +kernel
theorem dX4_finished_95 : decode cX4_finished 95 = .ok (.dload 7, 2) := by decide +kernel
theorem dX4_finished_97 : decode cX4_finished 97 = .ok (.dneg, 1) := by decide +kernel
theorem dX4_finished_98 : decode cX4_finished 98 = .ok (.goto 5, 3) := by decide +kernel
theorem dX4_finished_101 : decode cX4_finished 101 = .ok (.dload 7, 2) := by decide +kernel
theorem dX4_finished_103 : decode cX4_finished 103 = .ok (.dreturn, 1) := by decide +kernel
theorem dX5_init_0 : decode cX5_init 0 = .ok (.aload_n 0, 1) := by decide +kernel
theorem dX5_init_1 : decode cX5_init 1 = .ok (.invokespecial 1, 3) := by decide +kernel
theorem dX5_init_4 : decode cX5_init 4 = .ok (.aload_n 0, 1) := by decide +kernel
theorem dX5_init_5 : decode cX5_init 5 = .ok (.bipush 12, 2) := by decide +kernel
theorem dX5_init_7 : decode cX5_init 7 = .ok (.newarray .int, 2) := by decide +kernel
theorem dX5_init_9 : decode cX5_init 9 = .ok (.putfield 7, 3) := by decide +kernel
theorem dX5_init_12 : decode cX5_init 12 = .ok (.aload_n 0, 1) := by decide +kernel
theorem dX5_init_13 : decode cX5_init 13 = .ok (.bipush 12, 2) := by decide +kernel
theorem dX5_init_15 : decode cX5_init 15 = .ok (.newarray .int, 2) := by decide +kernel
theorem dX5_init_17 : decode cX5_init 17 = .ok (.putfield 13, 3) := by decide +kernel
theorem dX5_init_20 : decode cX5_init 20 = .ok (.aload_n 0, 1) := by decide +kernel
theorem dX5_init_21 : decode cX5_init 21 = .ok (.sipush 480, 3) := by decide +kernel
theorem dX5_init_24 : decode cX5_init 24 = .ok (.newarray .long, 2) := by decide +kernel
theorem dX5_init_26 : decode cX5_init 26 = .ok (.putfield 16, 3) := by decide +kernel
theorem dX5_init_29 : decode cX5_init 29 = .ok (.aload_n 0, 1) := by decide +kernel
theorem dX5_init_30 : decode cX5_init 30 = .ok (.sipush 480, 3) := by decide +kernel
theorem dX5_init_33 : decode cX5_init 33 = .ok (.newarray .double, 2) := by decide +kernel
theorem dX5_init_35 : decode cX5_init 35 = .ok (.putfield 20, 3) := by decide +kernel
theorem dX5_init_38 : decode cX5_init 38 = .ok (.aload_n 0, 1) := by decide +kernel
theorem dX5_init_39 : decode cX5_init 39 = .ok (.sipush 480, 3) := by decide +kernel
theorem dX5_init_42 : decode cX5_init 42 = .ok (.newarray .int, 2) := by decide +kernel
theorem dX5_init_44 : decode cX5_init 44 = .ok (.putfield 24, 3) := by decide +kernel
theorem dX5_init_47 : decode cX5_init 47 = .ok (.aload_n 0, 1) := by decide +kernel
theorem dX5_init_48 : decode cX5_init 48 = .ok (.bipush 7, 2) := by decide +kernel
theorem dX5_init_50 : decode cX5_init 50 = .ok (.newarray .int, 2) := by decide +kernel
theorem dX5_init_52 : decode cX5_init 52 = .ok (.putfield 27, 3) := by decide +kernel
theorem dX5_init_55 : decode cX5_init 55 = .ok (.aload_n 0, 1) := by decide +kernel
theorem dX5_init_56 : decode cX5_init 56 = .ok (.sipush 1064, 3) := by decide +kernel
theorem dX5_init_59 : decode cX5_init 59 = .ok (.newarray .int, 2) := by decide +kernel
theorem dX5_init_61 : decode cX5_init 61 = .ok (.putfield 30, 3) := by decide +kernel
theorem dX5_init_64 : decode cX5_init 64 = .ok (.aload_n 0, 1) := by decide +kernel
theorem dX5_init_65 : decode cX5_init 65 = .ok (.bipush 21, 2) := by decide +kernel
theorem dX5_init_67 : decode cX5_init 67 = .ok (.newarray .int, 2) := by decide +kernel
theorem dX5_init_69 : decode cX5_init 69 = .ok (.putfield 33, 3) := by decide +kernel
theorem dX5_init_72 : decode cX5_init 72 = .ok (.aload_n 0, 1) := by decide +kernel
theorem dX5_init_73 : decode cX5_init 73 = .ok (.bipush 12, 2) := by decide +kernel
theorem dX5_init_75 : decode cX5_init 75 = .ok (.newarray .int, 2) := by decide +kernel
theorem dX5_init_77 : decode cX5_init 77 = .ok (.putfield 36, 3) := by decide +kernel
theorem dX5_init_80 : decode cX5_init 80 = .ok (.aload_n 0, 1) := by decide +kernel
theorem dX5_init_81 : decode cX5_init 81 = .ok (.bipush 12, 2) := by decide +kernel
theorem dX5_init_83 : decode cX5_init 83 = .ok (.newarray .int, 2) := by decide +kernel
theorem dX5_init_85 : decode cX5_init 85 = .ok (.putfield 39, 3) := by decide +kernel
theorem dX5_init_88 : decode cX5_init 88 = .ok (.aload_n 0, 1) := by decide +kernel
theorem dX5_init_89 : decode cX5_init 89 = .ok (.sipush 1824, 3) := by decide +kernel
theorem dX5_init_92 : decode cX5_init 92 = .ok (.newarray .int, 2) := by decide +kernel
theorem dX5_init_94 : decode cX5_init 94 = .ok (.putfield 42, 3) := by decide +kernel
theorem dX5_init_97 : decode cX5_init 97 = .ok (.aload_n 0, 1) := by decide +kernel
theorem dX5_init_98 : decode cX5_init 98 = .ok (.bipush 36, 2) := by decide +kernel
theorem dX5_init_100 : decode cX5_init 100 = .ok (.newarray .int, 2) := by decide +kernel
theorem dX5_init_102 : decode cX5_init 102 = .ok (.putfield 45, 3) := by decide +kernel
theorem dX5_init_105 : decode cX5_init 105 = .ok (.aload_n 0, 1) := by decide +kernel
theorem dX5_init_106 : decode cX5_init 106 = .ok (.sipush 152, 3) := by decide +kernel
theorem dX5_init_109 : decode cX5_init 109 = .ok (.newarray .int, 2) := by decide +kernel
theorem dX5_init_111 : decode cX5_init 111 = .ok (.putfield 48, 3) := by decide +kernel
theorem dX5_init_114 : decode cX5_init 114 = .ok (.aload_n 0, 1) := by decide +kernel
theorem dX5_init_115 : decode cX5_init 115 = .ok (.sipush 152, 3) := by decide +kernel
theorem dX5_init_118 : decode cX5_init 118 = .ok (.newarray .int, 2) := by decide +kernel
theorem dX5_init_120 : decode cX5_init 120 = .ok (.putfield 51, 3) := by decide +kernel
theorem dX5_init_123 : decode cX5_init 123 = .ok (.iconst 0, 1) := by decide +kernel
end
section
theorem dX5_init_124 : decode cX5_init 124 = .ok (.istore_n 1, 1) := by decide +kernel
theorem dX5_init_125 : decode cX5_init 125 = .ok (.iload_n 1, 1) := by decide +kernel
theorem dX5_init_126 : decode cX5_init 126 = .ok (.bipush 12, 2) := by decide +kernel
theorem dX5_init_128 : decode cX5_init 128 = .ok (.if_icmp .ge 16, 3) := by decide +kernel
theorem dX5_init_131 : decode cX5_init 131 = .ok (.aload_n 0, 1) := by decide +kernel
theorem dX5_init_132 : decode cX5_init 132 = .ok (.getfield 7, 3) := by decide +kernel
theorem dX5_init_135 : decode cX5_init 135 = .ok (.iload_n 1, 1) := by decide +kernel
theorem dX5_init_136 : decode cX5_init 136 = .ok (.iconst (-1), 1) := by decide +kernel
theorem dX5_init_137 : decode cX5_init 137 = .ok (.iastore, 1) := by decide +kernel
theorem dX5_init_138 : decode cX5_init 138 = .ok (.iinc 1 1, 3) := by decide +kernel
theorem dX5_init_141 : decode cX5_init 141 = .ok (.goto (-16), 3) := by decide +kernel
theorem dX5_init_144 : decode cX5_init 144 = .ok (.iconst 0, 1) := by decide +kernel
theorem dX5_init_145 : decode cX5_init 145 = .ok (.istore_n 1, 1) := by decide +kernel
theorem dX5_init_146 : decode cX5_init 146 = .ok (.iload_n 1, 1) := by decide +kernel
theorem dX5_init_147 : decode cX5_init 147 = .ok (.bipush 7, 2) := by decide +kernel
theorem dX5_init_149 : decode cX5_init 149 = .ok (.if_icmp .ge 16, 3) := by decide +kernel
theorem dX5_init_152 : decode cX5_init 152 = .ok (.aload_n 0, 1) := by decide +kernel
theorem dX5_init_153 : decode cX5_init 153 = .ok (.getfield 27, 3) := by decide +kernel
theorem dX5_init_156 : decode cX5_init 156 = .ok (.iload_n 1, 1) := by decide +kernel
theorem dX5_init_157 : decode cX5_init 157 = .ok (.iconst (-1), 1) := by decide +kernel
theorem dX5_init_158 : decode cX5_init 158 = .ok (.iastore, 1) := by decide +kernel
theorem dX5_init_159 : decode cX5_init 159 = .ok (.iinc 1 1, 3) := by decide +kernel
theorem dX5_init_162 : decode cX5_init 162 = .ok (.goto (-16), 3) := by decide +kernel
theorem dX5_init_165 : decode cX5_init 165 = .ok (.return_, 1) := by decide +kernel
theorem dX5_in_0 : decode cX5_in 0 = .ok (.lload_n 0, 1) := by decide +kernel
theorem dX5_in_1 : decode cX5_in 1 = .ok (.lload_n 2, 1) := by decide +kernel
theorem dX5_in_2 : decode cX5_in 2 = .ok (.lcmp, 1) := by decide +kernel
theorem dX5_in_3 : decode cX5_in 3 = .ok (.ifCond .lt 14, 3) := by decide +kernel
theorem dX5_in_6 : decode cX5_in 6 = .ok (.lload_n 0, 1) := by decide +kernel
theorem dX5_in_7 : decode cX5_in 7 = .ok (.lload 4, 2) := by decide +kernel
theorem dX5_in_9 : decode cX5_in 9 = .ok (.lcmp, 1) := by decide +kernel
theorem dX5_in_10 : decode cX5_in 10 = .ok (.ifCond .gt 7, 3) := by decide +kernel
theorem dX5_in_13 : decode cX5_in 13 = .ok (.iconst 1, 1) := by decide +kernel
theorem dX5_in_14 : decode cX5_in 14 = .ok (.goto 4, 3) := by decide +kernel
theorem dX5_in_17 : decode cX5_in 17 = .ok (.iconst 0, 1) := by decide +kernel
theorem dX5_in_18 : decode cX5_in 18 = .ok (.ireturn, 1) := by decide +kernel
theorem dX5_isRow_0 : decode cX5_isRow 0 = .ok (.iload_n 0, 1) := by decide +kernel
theorem dX5_isRow_1 : decode cX5_isRow 1 = .ok (.i2l, 1) := by decide +kernel
theorem dX5_isRow_2 : decode cX5_isRow 2 = .ok (.lconst 0, 1) := by decide +kernel
theorem dX5_isRow_3 : decode cX5_isRow 3 = .ok (.ldc2_w 58, 3) := by decide +kernel
theorem dX5_isRow_6 : decode cX5_isRow 6 = .ok (.invokestatic 60, 3) := by decide +kernel
theorem dX5_isRow_9 : decode cX5_isRow 9 = .ok (.ireturn, 1) := by decide +kernel
theorem dX5_isThere_0 : decode cX5_isThere 0 = .ok (.aload_n 0, 1) := by decide +kernel
theorem dX5_isThere_1 : decode cX5_isThere 1 = .ok (.getfield 7, 3) := by decide +kernel
theorem dX5_isThere_4 : decode cX5_isThere 4 = .ok (.iload_n 1, 1) := by decide +kernel
theorem dX5_isThere_5 : decode cX5_isThere 5 = .ok (.iaload, 1) := by decide +kernel
theorem dX5_isThere_6 : decode cX5_isThere 6 = .ok (.iconst (-1), 1) := by decide +kernel
theorem dX5_isThere_7 : decode cX5_isThere 7 = .ok (.if_icmp .eq 7, 3) := by decide +kernel
theorem dX5_isThere_10 : decode cX5_isThere 10 = .ok (.iconst 1, 1) := by decide +kernel
theorem dX5_isThere_11 : decode cX5_isThere 11 = .ok (.goto 4, 3) := by decide +kernel
theorem dX5_isThere_14 : decode cX5_isThere 14 = .ok (.iconst 0, 1) := by decide +kernel
theorem dX5_isThere_15 : decode cX5_isThere 15 = .ok (.ireturn, 1) := by decide +kernel
theorem dX5_isReal_0 : decode cX5_isReal 0 = .ok (.aload_n 0, 1) := by decide +kernel
theorem dX5_isReal_1 : decode cX5_isReal 1 = .ok (.getfield 7, 3) := by decide +kernel
theorem dX5_isReal_4 : decode cX5_isReal 4 = .ok (.iload_n 1, 1) := by decide +kernel
theorem dX5_isReal_5 : decode cX5_isReal 5 = .ok (.iaload, 1) := by decide +kernel
theorem dX5_isReal_6 : decode cX5_isReal 6 = .ok (.iconst 4, 1) := by decide +kernel
theorem dX5_isReal_7 : decode cX5_isReal 7 = .ok (.if_icmp .lt 7, 3) := by decide +kernel
theorem dX5_isReal_10 : decode cX5_isReal 10 = .ok (.iconst 1, 1) := by decide +kernel
theorem dX5_isReal_11 : decode cX5_isReal 11 = .ok (.goto 4, 3) := by decide +kernel
theorem dX5_isReal_14 : decode cX5_isReal 14 = .ok (.iconst 0, 1) := by decide +kernel
theorem dX5_isReal_15 : decode cX5_isReal 15 = .ok (.ireturn, 1) := by decide +kernel
theorem dX5_isPlace_0 : decode cX5_isPlace 0 = .ok (.iload_n 2, 1) := by decide +kernel
theorem dX5_isPlace_1 : decode cX5_isPlace 1 = .ok (.i2l, 1) := by decide +kernel
theorem dX5_isPlace_2 : decode cX5_isPlace 2 = .ok (.lconst 0, 1) := by decide +kernel
theorem dX5_isPlace_3 : decode cX5_isPlace 3 = .ok (.aload_n 0, 1) := by decide +kernel
theorem dX5_isPlace_4 : decode cX5_isPlace 4 = .ok (.getfield 13, 3) := by decide +kernel
theorem dX5_isPlace_7 : decode cX5_isPlace 7 = .ok (.iload_n 1, 1) := by decide +kernel
theorem dX5_isPlace_8 : decode cX5_isPlace 8 = .ok (.iaload, 1) := by decide +kernel
theorem dX5_isPlace_9 : decode cX5_isPlace 9 = .ok (.iconst 1, 1) := by decide +kernel
theorem dX5_isPlace_10 : decode cX5_isPlace 10 = .ok (.isub, 1) := by decide +kernel
theorem dX5_isPlace_11 : decode cX5_isPlace 11 = .ok (.i2l, 1) := by decide +kernel
theorem dX5_isPlace_12 : decode cX5_isPlace 12 = .ok (.invokestatic 60, 3) := by decide +kernel
theorem dX5_isPlace_15 : decode cX5_isPlace 15 = .ok (.ireturn, 1) := by decide +kernel
theorem dX5_arePlaces_0 : decode cX5_arePlaces 0 = .ok (.iload_n 3, 1) := by decide +kernel
theorem dX5_arePlaces_1 : decode cX5_arePlaces 1 = .ok (.i2l, 1) := by decide +kernel
theorem dX5_arePlaces_2 : decode cX5_arePlaces 2 = .ok (.lconst 0, 1) := by decide +kernel
theorem dX5_arePlaces_3 : decode cX5_arePlaces 3 = .ok (.aload_n 0, 1) := by decide +kernel
theorem dX5_arePlaces_4 : decode cX5_arePlaces 4 = .ok (.getfield 13, 3) := by decide +kernel
theorem dX5_arePlaces_7 : decode cX5_arePlaces 7 = .ok (.iload_n 1, 1) := by decide +kernel
theorem dX5_arePlaces_8 : decode cX5_arePlaces 8 = .ok (.iaload, 1) := by decide +kernel
theorem dX5_arePlaces_9 : decode cX5_arePlaces 9 = .ok (.i2l, 1) := by decide +kernel
theorem dX5_arePlaces_10 : decode cX5_arePlaces 10 = .ok (.invokestatic 60, 3) := by decide +kernel
theorem dX5_arePlaces_13 : decode cX5_arePlaces 13 = .ok (.ifCond .eq 25, 3) := by decide +kernel
theorem dX5_arePlaces_16 : decode cX5_arePlaces 16 = .ok (.iload_n 2, 1) := by decide +kernel
theorem dX5_arePlaces_17 : decode cX5_arePlaces 17 = .ok (.i2l, 1) := by decide +kernel
theorem dX5_arePlaces_18 : decode cX5_arePlaces 18 = .ok (.lconst 0, 1) := by decide +kernel
theorem dX5_arePlaces_19 : decode cX5_arePlaces 19 = .ok (.aload_n 0, 1) := by decide +kernel
theorem dX5_arePlaces_20 : decode cX5_arePlaces 20 = .ok (.getfield 13, 3) := by decide +kernel
theorem dX5_arePlaces_23 : decode cX5_arePlaces 23 = .ok (.iload_n 1, 1) := by decide +kernel
theorem dX5_arePlaces_24 : decode cX5_arePlaces 24 = .ok (.iaload, 1) := by decide +kernel
theorem dX5_arePlaces_25 : decode cX5_arePlaces 25 = .ok (.iload_n 3, 1) := by decide +kernel
theorem dX5_arePlaces_26 : decode cX5_arePlaces 26 = .ok (.isub, 1) := by decide +kernel
theorem dX5_arePlaces_27 : decode cX5_arePlaces 27 = .ok (.i2l, 1) := by decide +kernel
theorem dX5_arePlaces_28 : decode cX5_arePlaces 28 = .ok (.invokestatic 60, 3) := by decide +kernel
theorem dX5_arePlaces_31 : decode cX5_arePlaces 31 = .ok (.ifCond .eq 7, 3) := by decide +kernel
theorem dX5_arePlaces_34 : decode cX5_arePlaces 34 = .ok (.iconst 1, 1) := by decide +kernel
theorem dX5_arePlaces_35 : decode cX5_arePlaces 35 = .ok (.goto 4, 3) := by decide +kernel
theorem dX5_arePlaces_38 : decode cX5_arePlaces 38 = .ok (.iconst 0, 1) := by decide +kernel
theorem dX5_arePlaces_39 : decode cX5_arePlaces 39 = .ok (.ireturn, 1) := by decide +kernel
theorem dX5_row_0 : decode cX5_row 0 = .ok (.aload_n 0, 1) := by decide +kernel
theorem dX5_row_1 : decode cX5_row 1 = .ok (.iconst 0, 1) := by decide +kernel
theorem dX5_row_2 : decode cX5_row 2 = .ok (.putfield 54, 3) := by decide +kernel
theorem dX5_row_5 : decode cX5_row 5 = .ok (.iload_n 1, 1) := by decide +kernel
theorem dX5_row_6 : decode cX5_row 6 = .ok (.invokestatic 64, 3) := by decide +kernel
theorem dX5_row_9 : decode cX5_row 9 = .ok (.ifCond .eq 21, 3) := by decide +kernel
theorem dX5_row_12 : decode cX5_row 12 = .ok (.iload_n 2, 1) := by decide +kernel
theorem dX5_row_13 : decode cX5_row 13 = .ok (.i2l, 1) := by decide +kernel
theorem dX5_row_14 : decode cX5_row 14 = .ok (.lconst 0, 1) := by decide +kernel
theorem dX5_row_15 : decode cX5_row 15 = .ok (.ldc2_w 68, 3) := by decide +kernel
theorem dX5_row_18 : decode cX5_row 18 = .ok (.invokestatic 60, 3) := by decide +kernel
theorem dX5_row_21 : decode cX5_row 21 = .ok (.ifCond .eq 9, 3) := by decide +kernel
theorem dX5_row_24 : decode cX5_row 24 = .ok (.iload_n 3, 1) := by decide +kernel
theorem dX5_row_25 : decode cX5_row 25 = .ok (.bipush 40, 2) := by decide +kernel
theorem dX5_row_27 : decode cX5_row 27 = .ok (.if_icmp .le 6, 3) := by decide +kernel
theorem dX5_row_30 : decode cX5_row 30 = .ok (.bipush (-3), 2) := by decide +kernel
theorem dX5_row_32 : decode cX5_row 32 = .ok (.ireturn, 1) := by decide +kernel
theorem dX5_row_33 : decode cX5_row 33 = .ok (.iload_n 3, 1) := by decide +kernel
theorem dX5_row_34 : decode cX5_row 34 = .ok (.ifCond .ge 6, 3) := by decide +kernel
theorem dX5_row_37 : decode cX5_row 37 = .ok (.bipush (-14), 2) := by decide +kernel
theorem dX5_row_39 : decode cX5_row 39 = .ok (.ireturn, 1) := by decide +kernel
theorem dX5_row_40 : decode cX5_row 40 = .ok (.aload_n 0, 1) := by decide +kernel
theorem dX5_row_41 : decode cX5_row 41 = .ok (.getfield 7, 3) := by decide +kernel
theorem dX5_row_44 : decode cX5_row 44 = .ok (.iload_n 1, 1) := by decide +kernel
theorem dX5_row_45 : decode cX5_row 45 = .ok (.iload_n 2, 1) := by decide +kernel
theorem dX5_row_46 : decode cX5_row 46 = .ok (.iastore, 1) := by decide +kernel
theorem dX5_row_47 : decode cX5_row 47 = .ok (.aload_n 0, 1) := by decide +kernel
theorem dX5_row_48 : decode cX5_row 48 = .ok (.getfield 13, 3) := by decide +kernel
theorem dX5_row_51 : decode cX5_row 51 = .ok (.iload_n 1, 1) := by decide +kernel
theorem dX5_row_52 : decode cX5_row 52 = .ok (.iload_n 3, 1) := by decide +kernel
theorem dX5_row_53 : decode cX5_row 53 = .ok (.iastore, 1) := by decide +kernel
theorem dX5_row_54 : decode cX5_row 54 = .ok (.bipush 40, 2) := by decide +kernel
theorem dX5_row_56 : decode cX5_row 56 = .ok (.iload_n 1, 1) := by decide +kernel
theorem dX5_row_57 : decode cX5_row 57 = .ok (.imul, 1) := by decide +kernel
theorem dX5_row_58 : decode cX5_row 58 = .ok (.istore 4, 2) := by decide +kernel
theorem dX5_row_60 : decode cX5_row 60 = .ok (.iload 4, 2) := by decide +kernel
theorem dX5_row_62 : decode cX5_row 62 = .ok (.bipush 40, 2) := by decide +kernel
theorem dX5_row_64 : decode cX5_row 64 = .ok (.iload_n 1, 1) := by decide +kernel
theorem dX5_row_65 : decode cX5_row 65 = .ok (.imul, 1) := by decide +kernel
theorem dX5_row_66 : decode cX5_row 66 = .ok (.bipush 40, 2) := by decide +kernel
theorem dX5_row_68 : decode cX5_row 68 = .ok (.iadd, 1) := by decide +kernel
theorem dX5_row_69 : decode cX5_row 69 = .ok (.if_icmp .ge 33, 3) := by decide +kernel
theorem dX5_row_72 : decode cX5_row 72 = .ok (.aload_n 0, 1) := by decide +kernel
theorem dX5_row_73 : decode cX5_row 73 = .ok (.getfield 16, 3) := by decide +kernel
theorem dX5_row_76 : decode cX5_row 76 = .ok (.iload 4, 2) := by decide +kernel
theorem dX5_row_78 : decode cX5_row 78 = .ok (.lconst 0, 1) := by decide +kernel
theorem dX5_row_79 : decode cX5_row 79 = .ok (.lastore, 1) := by decide +kernel
theorem dX5_row_80 : decode cX5_row 80 = .ok (.aload_n 0, 1) := by decide +kernel
theorem dX5_row_81 : decode cX5_row 81 = .ok (.getfield 20, 3) := by decide +kernel
theorem dX5_row_84 : decode cX5_row 84 = .ok (.iload 4, 2) := by decide +kernel
theorem dX5_row_86 : decode cX5_row 86 = .ok (.dconst 0, 1) := by decide +kernel
theorem dX5_row_87 : decode cX5_row 87 = .ok (.dastore, 1) := by decide +kernel
theorem dX5_row_88 : decode cX5_row 88 = .ok (.aload_n 0, 1) := by decide +kernel
theorem dX5_row_89 : decode cX5_row 89 = .ok (.getfield 24, 3) := by decide +kernel
theorem dX5_row_92 : decode cX5_row 92 = .ok (.iload 4, 2) := by decide +kernel
theorem dX5_row_94 : decode cX5_row 94 = .ok (.iconst 0, 1) := by decide +kernel
theorem dX5_row_95 : decode cX5_row 95 = .ok (.iastore, 1) := by decide +kernel
theorem dX5_row_96 : decode cX5_row 96 = .ok (.iinc 4 1, 3) := by decide +kernel
theorem dX5_row_99 : decode cX5_row 99 = .ok (.goto (-39), 3) := by decide +kernel
theorem dX5_row_102 : decode cX5_row 102 = .ok (.iload_n 3, 1) := by decide +kernel
theorem dX5_row_103 : decode cX5_row 103 = .ok (.ireturn, 1) := by decide +kernel
theorem dX5_lose_0 : decode cX5_lose 0 = .ok (.aload_n 0, 1) := by decide +kernel
theorem dX5_lose_1 : decode cX5_lose 1 = .ok (.iconst 0, 1) := by decide +kernel
theorem dX5_lose_2 : decode cX5_lose 2 = .ok (.putfield 54, 3) := by decide +kernel
theorem dX5_lose_5 : decode cX5_lose 5 = .ok (.iload_n 1, 1) := by decide +kernel
theorem dX5_lose_6 : decode cX5_lose 6 = .ok (.invokestatic 64, 3) := by decide +kernel
theorem dX5_lose_9 : decode cX5_lose 9 = .ok (.ifCond .ne 6, 3) := by decide +kernel
theorem dX5_lose_12 : decode cX5_lose 12 = .ok (.bipush (-3), 2) := by decide +kernel
theorem dX5_lose_14 : decode cX5_lose 14 = .ok (.ireturn, 1) := by decide +kernel
theorem dX5_lose_15 : decode cX5_lose 15 = .ok (.aload_n 0, 1) := by decide +kernel
theorem dX5_lose_16 : decode cX5_lose 16 = .ok (.iload_n 1, 1) := by decide +kernel
theorem dX5_lose_17 : decode cX5_lose 17 = .ok (.invokevirtual 70, 3) := by decide +kernel
theorem dX5_lose_20 : decode cX5_lose 20 = .ok (.ifCond .ne 6, 3) := by decide +kernel
theorem dX5_lose_23 : decode cX5_lose 23 = .ok (.bipush (-11), 2) := by decide +kernel
theorem dX5_lose_25 : decode cX5_lose 25 = .ok (.ireturn, 1) := by decide +kernel
theorem dX5_lose_26 : decode cX5_lose 26 = .ok (.aload_n 0, 1) := by decide +kernel
theorem dX5_lose_27 : decode cX5_lose 27 = .ok (.getfield 7, 3) := by decide +kernel
theorem dX5_lose_30 : decode cX5_lose 30 = .ok (.iload_n 1, 1) := by decide +kernel
theorem dX5_lose_31 : decode cX5_lose 31 = .ok (.iconst (-1), 1) := by decide +kernel
theorem dX5_lose_32 : decode cX5_lose 32 = .ok (.iastore, 1) := by decide +kernel
theorem dX5_lose_33 : decode cX5_lose 33 = .ok (.aload_n 0, 1) := by decide +kernel
theorem dX5_lose_34 : decode cX5_lose 34 = .ok (.getfield 13, 3) := by decide +kernel
theorem dX5_lose_37 : decode cX5_lose 37 = .ok (.iload_n 1, 1) := by decide +kernel
theorem dX5_lose_38 : decode cX5_lose 38 = .ok (.iaload, 1) := by decide +kernel
theorem dX5_lose_39 : decode cX5_lose 39 = .ok (.istore_n 2, 1) := by decide +kernel
theorem dX5_lose_40 : decode cX5_lose 40 = .ok (.aload_n 0, 1) := by decide +kernel
theorem dX5_lose_41 : decode cX5_lose 41 = .ok (.getfield 13, 3) := by decide +kernel
theorem dX5_lose_44 : decode cX5_lose 44 = .ok (.iload_n 1, 1) := by decide +kernel
theorem dX5_lose_45 : decode cX5_lose 45 = .ok (.iconst 0, 1) := by decide +kernel
theorem dX5_lose_46 : decode cX5_lose 46 = .ok (.iastore, 1) := by decide +kernel
theorem dX5_lose_47 : decode cX5_lose 47 = .ok (.iload_n 2, 1) := by decide +kernel
theorem dX5_lose_48 : decode cX5_lose 48 = .ok (.ireturn, 1) := by decide +kernel
theorem dX5_made_0 : decode cX5_made 0 = .ok (.lload_n 0, 1) := by decide +kernel
theorem dX5_made_1 : decode cX5_made 1 = .ok (.l2d, 1) := by decide +kernel
theorem dX5_made_2 : decode cX5_made 2 = .ok (.dstore_n 3, 1) := by decide +kernel
theorem dX5_made_3 : decode cX5_made 3 = .ok (.iconst 0, 1) := by decide +kernel
theorem dX5_made_4 : decode cX5_made 4 = .ok (.istore 5, 2) := by decide +kernel
theorem dX5_made_6 : decode cX5_made 6 = .ok (.iload 5, 2) := by decide +kernel
theorem dX5_made_8 : decode cX5_made 8 = .ok (.iload_n 2, 1) := by decide +kernel
theorem dX5_made_9 : decode cX5_made 9 = .ok (.if_icmp .ge 15, 3) := by decide +kernel
theorem dX5_made_12 : decode cX5_made 12 = .ok (.dload_n 3, 1) := by decide +kernel
theorem dX5_made_13 : decode cX5_made 13 = .ok (.ldc2_w 73, 3) := by decide +kernel
theorem dX5_made_16 : decode cX5_made 16 = .ok (.dmul, 1) := by decide +kernel
theorem dX5_made_17 : decode cX5_made 17 = .ok (.dstore_n 3, 1) := by decide +kernel
theorem dX5_made_18 : decode cX5_made 18 = .ok (.iinc 5 1, 3) := by decide +kernel
theorem dX5_made_21 : decode cX5_made 21 = .ok (.goto (-15), 3) := by decide +kernel
theorem dX5_made_24 : decode cX5_made 24 = .ok (.iconst 0, 1) := by decide +kernel
theorem dX5_made_25 : decode cX5_made 25 = .ok (.istore 5, 2) := by decide +kernel
theorem dX5_made_27 : decode cX5_made 27 = .ok (.iload 5, 2) := by decide +kernel
theorem dX5_made_29 : decode cX5_made 29 = .ok (.iload_n 2, 1) := by decide +kernel
theorem dX5_made_30 : decode cX5_made 30 = .ok (.if_icmp .le 15, 3) := by decide +kernel
theorem dX5_made_33 : decode cX5_made 33 = .ok (.dload_n 3, 1) := by decide +kernel
theorem dX5_made_34 : decode cX5_made 34 = .ok (.ldc2_w 75, 3) := by decide +kernel
theorem dX5_made_37 : decode cX5_made 37 = .ok (.dmul, 1) := by decide +kernel
theorem dX5_made_38 : decode cX5_made 38 = .ok (.dstore_n 3, 1) := by decide +kernel
theorem dX5_made_39 : decode cX5_made 39 = .ok (.iinc 5 (-1), 3) := by decide +kernel
theorem dX5_made_42 : decode cX5_made 42 = .ok (.goto (-15), 3) := by decide +kernel
theorem dX5_made_45 : decode cX5_made 45 = .ok (.dload_n 3, 1) := by decide +kernel
theorem dX5_made_46 : decode cX5_made 46 = .ok (.dreturn, 1) := by decide +kernel
theorem dX5_put_0 : decode cX5_put 0 = .ok (.aload_n 0, 1) := by decide +kernel
theorem dX5_put_1 : decode cX5_put 1 = .ok (.iconst 0, 1) := by decide +kernel
theorem dX5_put_2 : decode cX5_put 2 = .ok (.putfield 54, 3) := by decide +kernel
theorem dX5_put_5 : decode cX5_put 5 = .ok (.iload_n 1, 1) := by decide +kernel
theorem dX5_put_6 : decode cX5_put 6 = .ok (.invokestatic 64, 3) := by decide +kernel
theorem dX5_put_9 : decode cX5_put 9 = .ok (.ifCond .eq 31, 3) := by decide +kernel
theorem dX5_put_12 : decode cX5_put 12 = .ok (.lload_n 3, 1) := by decide +kernel
theorem dX5_put_13 : decode cX5_put 13 = .ok (.ldc2_w 77, 3) := by decide +kernel
theorem dX5_put_16 : decode cX5_put 16 = .ok (.ldc2_w 79, 3) := by decide +kernel
theorem dX5_put_19 : decode cX5_put 19 = .ok (.invokestatic 60, 3) := by decide +kernel
theorem dX5_put_22 : decode cX5_put 22 = .ok (.ifCond .eq 18, 3) := by decide +kernel
theorem dX5_put_25 : decode cX5_put 25 = .ok (.iload 5, 2) := by decide +kernel
theorem dX5_put_27 : decode cX5_put 27 = .ok (.i2l, 1) := by decide +kernel
theorem dX5_put_28 : decode cX5_put 28 = .ok (.ldc2_w 81, 3) := by decide +kernel
theorem dX5_put_31 : decode cX5_put 31 = .ok (.ldc2_w 83, 3) := by decide +kernel
theorem dX5_put_34 : decode cX5_put 34 = .ok (.invokestatic 60, 3) := by decide +kernel
theorem dX5_put_37 : decode cX5_put 37 = .ok (.ifCond .ne 6, 3) := by decide +kernel
theorem dX5_put_40 : decode cX5_put 40 = .ok (.bipush (-3), 2) := by decide +kernel
theorem dX5_put_42 : decode cX5_put 42 = .ok (.ireturn, 1) := by decide +kernel
theorem dX5_put_43 : decode cX5_put 43 = .ok (.aload_n 0, 1) := by decide +kernel
theorem dX5_put_44 : decode cX5_put 44 = .ok (.iload_n 1, 1) := by decide +kernel
theorem dX5_put_45 : decode cX5_put 45 = .ok (.invokevirtual 70, 3) := by decide +kernel
theorem dX5_put_48 : decode cX5_put 48 = .ok (.ifCond .ne 6, 3) := by decide +kernel
theorem dX5_put_51 : decode cX5_put 51 = .ok (.bipush (-11), 2) := by decide +kernel
theorem dX5_put_53 : decode cX5_put 53 = .ok (.ireturn, 1) := by decide +kernel
theorem dX5_put_54 : decode cX5_put 54 = .ok (.aload_n 0, 1) := by decide +kernel
theorem dX5_put_55 : decode cX5_put 55 = .ok (.iload_n 1, 1) := by decide +kernel
theorem dX5_put_56 : decode cX5_put 56 = .ok (.iload_n 2, 1) := by decide +kernel
theorem dX5_put_57 : decode cX5_put 57 = .ok (.invokevirtual 85, 3) := by decide +kernel
theorem dX5_put_60 : decode cX5_put 60 = .ok (.ifCond .ne 6, 3) := by decide +kernel
theorem dX5_put_63 : decode cX5_put 63 = .ok (.bipush (-13), 2) := by decide +kernel
theorem dX5_put_65 : decode cX5_put 65 = .ok (.ireturn, 1) := by decide +kernel
theorem dX5_put_66 : decode cX5_put 66 = .ok (.bipush 40, 2) := by decide +kernel
theorem dX5_put_68 : decode cX5_put 68 = .ok (.iload_n 1, 1) := by decide +kernel
theorem dX5_put_69 : decode cX5_put 69 = .ok (.imul, 1) := by decide +kernel
theorem dX5_put_70 : decode cX5_put 70 = .ok (.iload_n 2, 1) := by decide +kernel
theorem dX5_put_71 : decode cX5_put 71 = .ok (.iadd, 1) := by decide +kernel
theorem dX5_put_72 : decode cX5_put 72 = .ok (.istore 6, 2) := by decide +kernel
theorem dX5_put_74 : decode cX5_put 74 = .ok (.aload_n 0, 1) := by decide +kernel
theorem dX5_put_75 : decode cX5_put 75 = .ok (.getfield 7, 3) := by decide +kernel
theorem dX5_put_78 : decode cX5_put 78 = .ok (.iload_n 1, 1) := by decide +kernel
theorem dX5_put_79 : decode cX5_put 79 = .ok (.iaload, 1) := by decide +kernel
theorem dX5_put_80 : decode cX5_put 80 = .ok (.tableswitch 103 0 4 #[36, 50, 64, 77, 88], 36) := by decide +kernel
theorem dX5_put_116 : decode cX5_put 116 = .ok (.aload_n 0, 1) := by decide +kernel
theorem dX5_put_117 : decode cX5_put 117 = .ok (.getfield 16, 3) := by decide +kernel
theorem dX5_put_120 : decode cX5_put 120 = .ok (.iload 6, 2) := by decide +kernel
theorem dX5_put_122 : decode cX5_put 122 = .ok (.lload_n 3, 1) := by decide +kernel
theorem dX5_put_123 : decode cX5_put 123 = .ok (.l2i, 1) := by decide +kernel
theorem dX5_put_124 : decode cX5_put 124 = .ok (.i2b, 1) := by decide +kernel
theorem dX5_put_125 : decode cX5_put 125 = .ok (.i2l, 1) := by decide +kernel
theorem dX5_put_126 : decode cX5_put 126 = .ok (.lastore, 1) := by decide +kernel
theorem dX5_put_127 : decode cX5_put 127 = .ok (.goto 77, 3) := by decide +kernel
theorem dX5_put_130 : decode cX5_put 130 = .ok (.aload_n 0, 1) := by decide +kernel
theorem dX5_put_131 : decode cX5_put 131 = .ok (.getfield 16, 3) := by decide +kernel
theorem dX5_put_134 : decode cX5_put 134 = .ok (.iload 6, 2) := by decide +kernel
theorem dX5_put_136 : decode cX5_put 136 = .ok (.lload_n 3, 1) := by decide +kernel
theorem dX5_put_137 : decode cX5_put 137 = .ok (.l2i, 1) := by decide +kernel
theorem dX5_put_138 : decode cX5_put 138 = .ok (.i2s, 1) := by decide +kernel
theorem dX5_put_139 : decode cX5_put 139 = .ok (.i2l, 1) := by decide +kernel
theorem dX5_put_140 : decode cX5_put 140 = .ok (.lastore, 1) := by decide +kernel
theorem dX5_put_141 : decode cX5_put 141 = .ok (.goto 63, 3) := by decide +kernel
theorem dX5_put_144 : decode cX5_put 144 = .ok (.aload_n 0, 1) := by decide +kernel
theorem dX5_put_145 : decode cX5_put 145 = .ok (.getfield 16, 3) := by decide +kernel
theorem dX5_put_148 : decode cX5_put 148 = .ok (.iload 6, 2) := by decide +kernel
theorem dX5_put_150 : decode cX5_put 150 = .ok (.lload_n 3, 1) := by decide +kernel
theorem dX5_put_151 : decode cX5_put 151 = .ok (.l2i, 1) := by decide +kernel
theorem dX5_put_152 : decode cX5_put 152 = .ok (.i2l, 1) := by decide +kernel
theorem dX5_put_153 : decode cX5_put 153 = .ok (.lastore, 1) := by decide +kernel
theorem dX5_put_154 : decode cX5_put 154 = .ok (.goto 50, 3) := by decide +kernel
theorem dX5_put_157 : decode cX5_put 157 = .ok (.aload_n 0, 1) := by decide +kernel
theorem dX5_put_158 : decode cX5_put 158 = .ok (.getfield 16, 3) := by decide +kernel
theorem dX5_put_161 : decode cX5_put 161 = .ok (.iload 6, 2) := by decide +kernel
theorem dX5_put_163 : decode cX5_put 163 = .ok (.lload_n 3, 1) := by decide +kernel
theorem dX5_put_164 : decode cX5_put 164 = .ok (.lastore, 1) := by decide +kernel
theorem dX5_put_165 : decode cX5_put 165 = .ok (.goto 39, 3) := by decide +kernel
theorem dX5_put_168 : decode cX5_put 168 = .ok (.aload_n 0, 1) := by decide +kernel
theorem dX5_put_169 : decode cX5_put 169 = .ok (.iload 6, 2) := by decide +kernel
theorem dX5_put_171 : decode cX5_put 171 = .ok (.lload_n 3, 1) := by decide +kernel
theorem dX5_put_172 : decode cX5_put 172 = .ok (.iload 5, 2) := by decide +kernel
theorem dX5_put_174 : decode cX5_put 174 = .ok (.invokestatic 89, 3) := by decide +kernel
theorem dX5_put_177 : decode cX5_put 177 = .ok (.invokevirtual 93, 3) := by decide +kernel
theorem dX5_put_180 : decode cX5_put 180 = .ok (.goto 24, 3) := by decide +kernel
theorem dX5_put_183 : decode cX5_put 183 = .ok (.aload_n 0, 1) := by decide +kernel
theorem dX5_put_184 : decode cX5_put 184 = .ok (.getfield 24, 3) := by decide +kernel
theorem dX5_put_187 : decode cX5_put 187 = .ok (.iload 6, 2) := by decide +kernel
theorem dX5_put_189 : decode cX5_put 189 = .ok (.iconst 0, 1) := by decide +kernel
theorem dX5_put_190 : decode cX5_put 190 = .ok (.iastore, 1) := by decide +kernel
theorem dX5_put_191 : decode cX5_put 191 = .ok (.aload_n 0, 1) := by decide +kernel
theorem dX5_put_192 : decode cX5_put 192 = .ok (.getfield 20, 3) := by decide +kernel
theorem dX5_put_195 : decode cX5_put 195 = .ok (.iload 6, 2) := by decide +kernel
theorem dX5_put_197 : decode cX5_put 197 = .ok (.lload_n 3, 1) := by decide +kernel
theorem dX5_put_198 : decode cX5_put 198 = .ok (.iload 5, 2) := by decide +kernel
theorem dX5_put_200 : decode cX5_put 200 = .ok (.invokestatic 89, 3) := by decide +kernel
theorem dX5_put_203 : decode cX5_put 203 = .ok (.dastore, 1) := by decide +kernel
theorem dX5_put_204 : decode cX5_put 204 = .ok (.iconst 0, 1) := by decide +kernel
theorem dX5_put_205 : decode cX5_put 205 = .ok (.ireturn, 1) := by decide +kernel
theorem dX5_putFloat_0 : decode cX5_putFloat 0 = .ok (.ldc2_w 97, 3) := by decide +kernel
theorem dX5_putFloat_3 : decode cX5_putFloat 3 = .ok (.bipush 103, 2) := by decide +kernel
theorem dX5_putFloat_5 : decode cX5_putFloat 5 = .ok (.invokestatic 89, 3) := by decide +kernel
theorem dX5_putFloat_8 : decode cX5_putFloat 8 = .ok (.dstore 4, 2) := by decide +kernel
theorem dX5_putFloat_10 : decode cX5_putFloat 10 = .ok (.aload_n 0, 1) := by decide +kernel
theorem dX5_putFloat_11 : decode cX5_putFloat 11 = .ok (.getfield 24, 3) := by decide +kernel
theorem dX5_putFloat_14 : decode cX5_putFloat 14 = .ok (.iload_n 1, 1) := by decide +kernel
theorem dX5_putFloat_15 : decode cX5_putFloat 15 = .ok (.dload_n 2, 1) := by decide +kernel
theorem dX5_putFloat_16 : decode cX5_putFloat 16 = .ok (.dload 4, 2) := by decide +kernel
theorem dX5_putFloat_18 : decode cX5_putFloat 18 = .ok (.dcmp .l, 1) := by decide +kernel
theorem dX5_putFloat_19 : decode cX5_putFloat 19 = .ok (.ifCond .lt 7, 3) := by decide +kernel
theorem dX5_putFloat_22 : decode cX5_putFloat 22 = .ok (.iconst 1, 1) := by decide +kernel
theorem dX5_putFloat_23 : decode cX5_putFloat 23 = .ok (.goto 16, 3) := by decide +kernel
theorem dX5_putFloat_26 : decode cX5_putFloat 26 = .ok (.dload_n 2, 1) := by decide +kernel
theorem dX5_putFloat_27 : decode cX5_putFloat 27 = .ok (.dload 4, 2) := by decide +kernel
theorem dX5_putFloat_29 : decode cX5_putFloat 29 = .ok (.dneg, 1) := by decide +kernel
theorem dX5_putFloat_30 : decode cX5_putFloat 30 = .ok (.dcmp .g, 1) := by decide +kernel
theorem dX5_putFloat_31 : decode cX5_putFloat 31 = .ok (.ifCond .gt 7, 3) := by decide +kernel
theorem dX5_putFloat_34 : decode cX5_putFloat 34 = .ok (.iconst 2, 1) := by decide +kernel
theorem dX5_putFloat_35 : decode cX5_putFloat 35 = .ok (.goto 4, 3) := by decide +kernel
theorem dX5_putFloat_38 : decode cX5_putFloat 38 = .ok (.iconst 0, 1) := by decide +kernel
theorem dX5_putFloat_39 : decode cX5_putFloat 39 = .ok (.iastore, 1) := by decide +kernel
theorem dX5_putFloat_40 : decode cX5_putFloat 40 = .ok (.aload_n 0, 1) := by decide +kernel
theorem dX5_putFloat_41 : decode cX5_putFloat 41 = .ok (.getfield 20, 3) := by decide +kernel
theorem dX5_putFloat_44 : decode cX5_putFloat 44 = .ok (.iload_n 1, 1) := by decide +kernel
theorem dX5_putFloat_45 : decode cX5_putFloat 45 = .ok (.aload_n 0, 1) := by decide +kernel
theorem dX5_putFloat_46 : decode cX5_putFloat 46 = .ok (.getfield 24, 3) := by decide +kernel
theorem dX5_putFloat_49 : decode cX5_putFloat 49 = .ok (.iload_n 1, 1) := by decide +kernel
theorem dX5_putFloat_50 : decode cX5_putFloat 50 = .ok (.iaload, 1) := by decide +kernel
theorem dX5_putFloat_51 : decode cX5_putFloat 51 = .ok (.ifCond .ne 9, 3) := by decide +kernel
theorem dX5_putFloat_54 : decode cX5_putFloat 54 = .ok (.dload_n 2, 1) := by decide +kernel
theorem dX5_putFloat_55 : decode cX5_putFloat 55 = .ok (.d2f, 1) := by decide +kernel
theorem dX5_putFloat_56 : decode cX5_putFloat 56 = .ok (.f2d, 1) := by decide +kernel
theorem dX5_putFloat_57 : decode cX5_putFloat 57 = .ok (.goto 4, 3) := by decide +kernel
theorem dX5_putFloat_60 : decode cX5_putFloat 60 = .ok (.dconst 0, 1) := by decide +kernel
theorem dX5_putFloat_61 : decode cX5_putFloat 61 = .ok (.dastore, 1) := by decide +kernel
theorem dX5_putFloat_62 : decode cX5_putFloat 62 = .ok (.return_, 1) := by decide +kernel
theorem dX5_mark_0 : decode cX5_mark 0 = .ok (.aload_n 0, 1) := by decide +kernel
theorem dX5_mark_1 : decode cX5_mark 1 = .ok (.iconst 0, 1) := by decide +kernel
theorem dX5_mark_2 : decode cX5_mark 2 = .ok (.putfield 54, 3) := by decide +kernel
theorem dX5_mark_5 : decode cX5_mark 5 = .ok (.iload_n 1, 1) := by decide +kernel
theorem dX5_mark_6 : decode cX5_mark 6 = .ok (.invokestatic 64, 3) := by decide +kernel
theorem dX5_mark_9 : decode cX5_mark 9 = .ok (.ifCond .eq 15, 3) := by decide +kernel
theorem dX5_mark_12 : decode cX5_mark 12 = .ok (.iload_n 3, 1) := by decide +kernel
theorem dX5_mark_13 : decode cX5_mark 13 = .ok (.i2l, 1) := by decide +kernel
theorem dX5_mark_14 : decode cX5_mark 14 = .ok (.lconst 0, 1) := by decide +kernel
theorem dX5_mark_15 : decode cX5_mark 15 = .ok (.ldc2_w 68, 3) := by decide +kernel
theorem dX5_mark_18 : decode cX5_mark 18 = .ok (.invokestatic 60, 3) := by decide +kernel
theorem dX5_mark_21 : decode cX5_mark 21 = .ok (.ifCond .ne 6, 3) := by decide +kernel
theorem dX5_mark_24 : decode cX5_mark 24 = .ok (.bipush (-3), 2) := by decide +kernel
theorem dX5_mark_26 : decode cX5_mark 26 = .ok (.ireturn, 1) := by decide +kernel
theorem dX5_mark_27 : decode cX5_mark 27 = .ok (.aload_n 0, 1) := by decide +kernel
theorem dX5_mark_28 : decode cX5_mark 28 = .ok (.iload_n 1, 1) := by decide +kernel
theorem dX5_mark_29 : decode cX5_mark 29 = .ok (.invokevirtual 70, 3) := by decide +kernel
theorem dX5_mark_32 : decode cX5_mark 32 = .ok (.ifCond .ne 6, 3) := by decide +kernel
theorem dX5_mark_35 : decode cX5_mark 35 = .ok (.bipush (-11), 2) := by decide +kernel
theorem dX5_mark_37 : decode cX5_mark 37 = .ok (.ireturn, 1) := by decide +kernel
theorem dX5_mark_38 : decode cX5_mark 38 = .ok (.aload_n 0, 1) := by decide +kernel
theorem dX5_mark_39 : decode cX5_mark 39 = .ok (.iload_n 1, 1) := by decide +kernel
theorem dX5_mark_40 : decode cX5_mark 40 = .ok (.invokevirtual 99, 3) := by decide +kernel
theorem dX5_mark_43 : decode cX5_mark 43 = .ok (.ifCond .ne 6, 3) := by decide +kernel
theorem dX5_mark_46 : decode cX5_mark 46 = .ok (.bipush (-12), 2) := by decide +kernel
theorem dX5_mark_48 : decode cX5_mark 48 = .ok (.ireturn, 1) := by decide +kernel
theorem dX5_mark_49 : decode cX5_mark 49 = .ok (.aload_n 0, 1) := by decide +kernel
theorem dX5_mark_50 : decode cX5_mark 50 = .ok (.iload_n 1, 1) := by decide +kernel
theorem dX5_mark_51 : decode cX5_mark 51 = .ok (.iload_n 2, 1) := by decide +kernel
theorem dX5_mark_52 : decode cX5_mark 52 = .ok (.invokevirtual 85, 3) := by decide +kernel
theorem dX5_mark_55 : decode cX5_mark 55 = .ok (.ifCond .ne 6, 3) := by decide +kernel
theorem dX5_mark_58 : decode cX5_mark 58 = .ok (.bipush (-13), 2) := by decide +kernel
theorem dX5_mark_60 : decode cX5_mark 60 = .ok (.ireturn, 1) := by decide +kernel
theorem dX5_mark_61 : decode cX5_mark 61 = .ok (.bipush 40, 2) := by decide +kernel
theorem dX5_mark_63 : decode cX5_mark 63 = .ok (.iload_n 1, 1) := by decide +kernel
theorem dX5_mark_64 : decode cX5_mark 64 = .ok (.imul, 1) := by decide +kernel
theorem dX5_mark_65 : decode cX5_mark 65 = .ok (.iload_n 2, 1) := by decide +kernel
theorem dX5_mark_66 : decode cX5_mark 66 = .ok (.iadd, 1) := by decide +kernel
theorem dX5_mark_67 : decode cX5_mark 67 = .ok (.istore 4, 2) := by decide +kernel
theorem dX5_mark_69 : decode cX5_mark 69 = .ok (.aload_n 0, 1) := by decide +kernel
theorem dX5_mark_70 : decode cX5_mark 70 = .ok (.getfield 7, 3) := by decide +kernel
theorem dX5_mark_73 : decode cX5_mark 73 = .ok (.iload_n 1, 1) := by decide +kernel
theorem dX5_mark_74 : decode cX5_mark 74 = .ok (.iaload, 1) := by decide +kernel
theorem dX5_mark_75 : decode cX5_mark 75 = .ok (.iconst 4, 1) := by decide +kernel
theorem dX5_mark_76 : decode cX5_mark 76 = .ok (.if_icmp .ne 7, 3) := by decide +kernel
theorem dX5_mark_79 : decode cX5_mark 79 = .ok (.iconst 1, 1) := by decide +kernel
theorem dX5_mark_80 : decode cX5_mark 80 = .ok (.goto 4, 3) := by decide +kernel
theorem dX5_mark_83 : decode cX5_mark 83 = .ok (.iconst 0, 1) := by decide +kernel
theorem dX5_mark_84 : decode cX5_mark 84 = .ok (.istore 5, 2) := by decide +kernel
theorem dX5_mark_86 : decode cX5_mark 86 = .ok (.aload_n 0, 1) := by decide +kernel
theorem dX5_mark_87 : decode cX5_mark 87 = .ok (.getfield 24, 3) := by decide +kernel
theorem dX5_mark_90 : decode cX5_mark 90 = .ok (.iload 4, 2) := by decide +kernel
theorem dX5_mark_92 : decode cX5_mark 92 = .ok (.iload_n 3, 1) := by decide +kernel
theorem dX5_mark_93 : decode cX5_mark 93 = .ok (.ifCond .ne 7, 3) := by decide +kernel
theorem dX5_mark_96 : decode cX5_mark 96 = .ok (.iconst 1, 1) := by decide +kernel
theorem dX5_mark_97 : decode cX5_mark 97 = .ok (.goto 22, 3) := by decide +kernel
theorem dX5_mark_100 : decode cX5_mark 100 = .ok (.iload_n 3, 1) := by decide +kernel
theorem dX5_mark_101 : decode cX5_mark 101 = .ok (.iconst 1, 1) := by decide +kernel
theorem dX5_mark_102 : decode cX5_mark 102 = .ok (.if_icmp .ne 7, 3) := by decide +kernel
theorem dX5_mark_105 : decode cX5_mark 105 = .ok (.iconst 2, 1) := by decide +kernel
theorem dX5_mark_106 : decode cX5_mark 106 = .ok (.goto 13, 3) := by decide +kernel
theorem dX5_mark_109 : decode cX5_mark 109 = .ok (.iload_n 3, 1) := by decide +kernel
theorem dX5_mark_110 : decode cX5_mark 110 = .ok (.iconst 2, 1) := by decide +kernel
theorem dX5_mark_111 : decode cX5_mark 111 = .ok (.if_icmp .ne 7, 3) := by decide +kernel
theorem dX5_mark_114 : decode cX5_mark 114 = .ok (.iconst 3, 1) := by decide +kernel
theorem dX5_mark_115 : decode cX5_mark 115 = .ok (.goto 4, 3) := by decide +kernel
theorem dX5_mark_118 : decode cX5_mark 118 = .ok (.iconst 0, 1) := by decide +kernel
theorem dX5_mark_119 : decode cX5_mark 119 = .ok (.iastore, 1) := by decide +kernel
theorem dX5_mark_120 : decode cX5_mark 120 = .ok (.aload_n 0, 1) := by decide +kernel
theorem dX5_mark_121 : decode cX5_mark 121 = .ok (.getfield 20, 3) := by decide +kernel
theorem dX5_mark_124 : decode cX5_mark 124 = .ok (.iload 4, 2) := by decide +kernel
theorem dX5_mark_126 : decode cX5_mark 126 = .ok (.iload_n 3, 1) := by decide +kernel
theorem dX5_mark_127 : decode cX5_mark 127 = .ok (.iconst 3, 1) := by decide +kernel
theorem dX5_mark_128 : decode cX5_mark 128 = .ok (.if_icmp .ne 9, 3) := by decide +kernel
theorem dX5_mark_131 : decode cX5_mark 131 = .ok (.ldc2_w 102, 3) := by decide +kernel
theorem dX5_mark_134 : decode cX5_mark 134 = .ok (.goto 67, 3) := by decide +kernel
theorem dX5_mark_137 : decode cX5_mark 137 = .ok (.iload_n 3, 1) := by decide +kernel
theorem dX5_mark_138 : decode cX5_mark 138 = .ok (.iconst 4, 1) := by decide +kernel
theorem dX5_mark_139 : decode cX5_mark 139 = .ok (.if_icmp .ne 31, 3) := by decide +kernel
theorem dX5_mark_142 : decode cX5_mark 142 = .ok (.iload 5, 2) := by decide +kernel
theorem dX5_mark_144 : decode cX5_mark 144 = .ok (.ifCond .eq 14, 3) := by decide +kernel
theorem dX5_mark_147 : decode cX5_mark 147 = .ok (.ldc2_w 104, 3) := by decide +kernel
theorem dX5_mark_150 : decode cX5_mark 150 = .ok (.bipush 104, 2) := by decide +kernel
theorem dX5_mark_152 : decode cX5_mark 152 = .ok (.invokestatic 89, 3) := by decide +kernel
theorem dX5_mark_155 : decode cX5_mark 155 = .ok (.goto 46, 3) := by decide +kernel
theorem dX5_mark_158 : decode cX5_mark 158 = .ok (.ldc2_w 79, 3) := by decide +kernel
theorem dX5_mark_161 : decode cX5_mark 161 = .ok (.sipush 971, 3) := by decide +kernel
theorem dX5_mark_164 : decode cX5_mark 164 = .ok (.invokestatic 89, 3) := by decide +kernel
theorem dX5_mark_167 : decode cX5_mark 167 = .ok (.goto 34, 3) := by decide +kernel
theorem dX5_mark_170 : decode cX5_mark 170 = .ok (.iload_n 3, 1) := by decide +kernel
theorem dX5_mark_171 : decode cX5_mark 171 = .ok (.iconst 5, 1) := by decide +kernel
theorem dX5_mark_172 : decode cX5_mark 172 = .ok (.if_icmp .ne 28, 3) := by decide +kernel
theorem dX5_mark_175 : decode cX5_mark 175 = .ok (.iload 5, 2) := by decide +kernel
theorem dX5_mark_177 : decode cX5_mark 177 = .ok (.ifCond .eq 13, 3) := by decide +kernel
theorem dX5_mark_180 : decode cX5_mark 180 = .ok (.lconst 1, 1) := by decide +kernel
theorem dX5_mark_181 : decode cX5_mark 181 = .ok (.sipush (-149), 3) := by decide +kernel
theorem dX5_mark_184 : decode cX5_mark 184 = .ok (.invokestatic 89, 3) := by decide +kernel
theorem dX5_mark_187 : decode cX5_mark 187 = .ok (.goto 14, 3) := by decide +kernel
theorem dX5_mark_190 : decode cX5_mark 190 = .ok (.lconst 1, 1) := by decide +kernel
theorem dX5_mark_191 : decode cX5_mark 191 = .ok (.sipush (-1074), 3) := by decide +kernel
theorem dX5_mark_194 : decode cX5_mark 194 = .ok (.invokestatic 89, 3) := by decide +kernel
theorem dX5_mark_197 : decode cX5_mark 197 = .ok (.goto 4, 3) := by decide +kernel
theorem dX5_mark_200 : decode cX5_mark 200 = .ok (.dconst 0, 1) := by decide +kernel
theorem dX5_mark_201 : decode cX5_mark 201 = .ok (.dastore, 1) := by decide +kernel
theorem dX5_mark_202 : decode cX5_mark 202 = .ok (.iconst 0, 1) := by decide +kernel
theorem dX5_mark_203 : decode cX5_mark 203 = .ok (.ireturn, 1) := by decide +kernel
theorem dX5_copy_0 : decode cX5_copy 0 = .ok (.aload_n 0, 1) := by decide +kernel
theorem dX5_copy_1 : decode cX5_copy 1 = .ok (.iconst 0, 1) := by decide +kernel
theorem dX5_copy_2 : decode cX5_copy 2 = .ok (.putfield 54, 3) := by decide +kernel
theorem dX5_copy_5 : decode cX5_copy 5 = .ok (.iload_n 1, 1) := by decide +kernel
theorem dX5_copy_6 : decode cX5_copy 6 = .ok (.invokestatic 64, 3) := by decide +kernel
theorem dX5_copy_9 : decode cX5_copy 9 = .ok (.ifCond .eq 10, 3) := by decide +kernel
theorem dX5_copy_12 : decode cX5_copy 12 = .ok (.iload_n 3, 1) := by decide +kernel
theorem dX5_copy_13 : decode cX5_copy 13 = .ok (.invokestatic 64, 3) := by decide +kernel
theorem dX5_copy_16 : decode cX5_copy 16 = .ok (.ifCond .ne 6, 3) := by decide +kernel
theorem dX5_copy_19 : decode cX5_copy 19 = .ok (.bipush (-3), 2) := by decide +kernel
theorem dX5_copy_21 : decode cX5_copy 21 = .ok (.ireturn, 1) := by decide +kernel
theorem dX5_copy_22 : decode cX5_copy 22 = .ok (.aload_n 0, 1) := by decide +kernel
theorem dX5_copy_23 : decode cX5_copy 23 = .ok (.iload_n 1, 1) := by decide +kernel
theorem dX5_copy_24 : decode cX5_copy 24 = .ok (.invokevirtual 70, 3) := by decide +kernel
theorem dX5_copy_27 : decode cX5_copy 27 = .ok (.ifCond .eq 11, 3) := by decide +kernel
theorem dX5_copy_30 : decode cX5_copy 30 = .ok (.aload_n 0, 1) := by decide +kernel
theorem dX5_copy_31 : decode cX5_copy 31 = .ok (.iload_n 3, 1) := by decide +kernel
theorem dX5_copy_32 : decode cX5_copy 32 = .ok (.invokevirtual 70, 3) := by decide +kernel
theorem dX5_copy_35 : decode cX5_copy 35 = .ok (.ifCond .ne 6, 3) := by decide +kernel
theorem dX5_copy_38 : decode cX5_copy 38 = .ok (.bipush (-11), 2) := by decide +kernel
theorem dX5_copy_40 : decode cX5_copy 40 = .ok (.ireturn, 1) := by decide +kernel
theorem dX5_copy_41 : decode cX5_copy 41 = .ok (.aload_n 0, 1) := by decide +kernel
theorem dX5_copy_42 : decode cX5_copy 42 = .ok (.getfield 7, 3) := by decide +kernel
theorem dX5_copy_45 : decode cX5_copy 45 = .ok (.iload_n 1, 1) := by decide +kernel
theorem dX5_copy_46 : decode cX5_copy 46 = .ok (.iaload, 1) := by decide +kernel
theorem dX5_copy_47 : decode cX5_copy 47 = .ok (.aload_n 0, 1) := by decide +kernel
theorem dX5_copy_48 : decode cX5_copy 48 = .ok (.getfield 7, 3) := by decide +kernel
theorem dX5_copy_51 : decode cX5_copy 51 = .ok (.iload_n 3, 1) := by decide +kernel
theorem dX5_copy_52 : decode cX5_copy 52 = .ok (.iaload, 1) := by decide +kernel
theorem dX5_copy_53 : decode cX5_copy 53 = .ok (.if_icmp .eq 6, 3) := by decide +kernel
theorem dX5_copy_56 : decode cX5_copy 56 = .ok (.bipush (-12), 2) := by decide +kernel
theorem dX5_copy_58 : decode cX5_copy 58 = .ok (.ireturn, 1) := by decide +kernel
theorem dX5_copy_59 : decode cX5_copy 59 = .ok (.aload_n 0, 1) := by decide +kernel
theorem dX5_copy_60 : decode cX5_copy 60 = .ok (.iload_n 1, 1) := by decide +kernel
theorem dX5_copy_61 : decode cX5_copy 61 = .ok (.iload_n 2, 1) := by decide +kernel
theorem dX5_copy_62 : decode cX5_copy 62 = .ok (.iload 5, 2) := by decide +kernel
theorem dX5_copy_64 : decode cX5_copy 64 = .ok (.invokevirtual 106, 3) := by decide +kernel
theorem dX5_copy_67 : decode cX5_copy 67 = .ok (.ifCond .eq 15, 3) := by decide +kernel
theorem dX5_copy_70 : decode cX5_copy 70 = .ok (.aload_n 0, 1) := by decide +kernel
theorem dX5_copy_71 : decode cX5_copy 71 = .ok (.iload_n 3, 1) := by decide +kernel
theorem dX5_copy_72 : decode cX5_copy 72 = .ok (.iload 4, 2) := by decide +kernel
theorem dX5_copy_74 : decode cX5_copy 74 = .ok (.iload 5, 2) := by decide +kernel
theorem dX5_copy_76 : decode cX5_copy 76 = .ok (.invokevirtual 106, 3) := by decide +kernel
theorem dX5_copy_79 : decode cX5_copy 79 = .ok (.ifCond .ne 6, 3) := by decide +kernel
theorem dX5_copy_82 : decode cX5_copy 82 = .ok (.bipush (-13), 2) := by decide +kernel
theorem dX5_copy_84 : decode cX5_copy 84 = .ok (.ireturn, 1) := by decide +kernel
theorem dX5_copy_85 : decode cX5_copy 85 = .ok (.bipush 40, 2) := by decide +kernel
theorem dX5_copy_87 : decode cX5_copy 87 = .ok (.iload_n 1, 1) := by decide +kernel
theorem dX5_copy_88 : decode cX5_copy 88 = .ok (.imul, 1) := by decide +kernel
theorem dX5_copy_89 : decode cX5_copy 89 = .ok (.iload_n 2, 1) := by decide +kernel
theorem dX5_copy_90 : decode cX5_copy 90 = .ok (.iadd, 1) := by decide +kernel
theorem dX5_copy_91 : decode cX5_copy 91 = .ok (.istore 6, 2) := by decide +kernel
theorem dX5_copy_93 : decode cX5_copy 93 = .ok (.bipush 40, 2) := by decide +kernel
theorem dX5_copy_95 : decode cX5_copy 95 = .ok (.iload_n 3, 1) := by decide +kernel
theorem dX5_copy_96 : decode cX5_copy 96 = .ok (.imul, 1) := by decide +kernel
theorem dX5_copy_97 : decode cX5_copy 97 = .ok (.iload 4, 2) := by decide +kernel
theorem dX5_copy_99 : decode cX5_copy 99 = .ok (.iadd, 1) := by decide +kernel
theorem dX5_copy_100 : decode cX5_copy 100 = .ok (.istore 7, 2) := by decide +kernel
theorem dX5_copy_102 : decode cX5_copy 102 = .ok (.iconst 0, 1) := by decide +kernel
theorem dX5_copy_103 : decode cX5_copy 103 = .ok (.istore 8, 2) := by decide +kernel
theorem dX5_copy_105 : decode cX5_copy 105 = .ok (.iload 8, 2) := by decide +kernel
theorem dX5_copy_107 : decode cX5_copy 107 = .ok (.iload 5, 2) := by decide +kernel
theorem dX5_copy_109 : decode cX5_copy 109 = .ok (.if_icmp .ge 90, 3) := by decide +kernel
theorem dX5_copy_112 : decode cX5_copy 112 = .ok (.iload 7, 2) := by decide +kernel
theorem dX5_copy_114 : decode cX5_copy 114 = .ok (.iload 6, 2) := by decide +kernel
theorem dX5_copy_116 : decode cX5_copy 116 = .ok (.if_icmp .le 13, 3) := by decide +kernel
theorem dX5_copy_119 : decode cX5_copy 119 = .ok (.iload 5, 2) := by decide +kernel
theorem dX5_copy_121 : decode cX5_copy 121 = .ok (.iconst 1, 1) := by decide +kernel
theorem dX5_copy_122 : decode cX5_copy 122 = .ok (.isub, 1) := by decide +kernel
theorem dX5_copy_123 : decode cX5_copy 123 = .ok (.iload 8, 2) := by decide +kernel
theorem dX5_copy_125 : decode cX5_copy 125 = .ok (.isub, 1) := by decide +kernel
theorem dX5_copy_126 : decode cX5_copy 126 = .ok (.goto 5, 3) := by decide +kernel
theorem dX5_copy_129 : decode cX5_copy 129 = .ok (.iload 8, 2) := by decide +kernel
theorem dX5_copy_131 : decode cX5_copy 131 = .ok (.istore 9, 2) := by decide +kernel
theorem dX5_copy_133 : decode cX5_copy 133 = .ok (.aload_n 0, 1) := by decide +kernel
theorem dX5_copy_134 : decode cX5_copy 134 = .ok (.getfield 16, 3) := by decide +kernel
theorem dX5_copy_137 : decode cX5_copy 137 = .ok (.iload 7, 2) := by decide +kernel
theorem dX5_copy_139 : decode cX5_copy 139 = .ok (.iload 9, 2) := by decide +kernel
theorem dX5_copy_141 : decode cX5_copy 141 = .ok (.iadd, 1) := by decide +kernel
theorem dX5_copy_142 : decode cX5_copy 142 = .ok (.aload_n 0, 1) := by decide +kernel
theorem dX5_copy_143 : decode cX5_copy 143 = .ok (.getfield 16, 3) := by decide +kernel
theorem dX5_copy_146 : decode cX5_copy 146 = .ok (.iload 6, 2) := by decide +kernel
theorem dX5_copy_148 : decode cX5_copy 148 = .ok (.iload 9, 2) := by decide +kernel
theorem dX5_copy_150 : decode cX5_copy 150 = .ok (.iadd, 1) := by decide +kernel
theorem dX5_copy_151 : decode cX5_copy 151 = .ok (.laload, 1) := by decide +kernel
theorem dX5_copy_152 : decode cX5_copy 152 = .ok (.lastore, 1) := by decide +kernel
theorem dX5_copy_153 : decode cX5_copy 153 = .ok (.aload_n 0, 1) := by decide +kernel
theorem dX5_copy_154 : decode cX5_copy 154 = .ok (.getfield 20, 3) := by decide +kernel
theorem dX5_copy_157 : decode cX5_copy 157 = .ok (.iload 7, 2) := by decide +kernel
theorem dX5_copy_159 : decode cX5_copy 159 = .ok (.iload 9, 2) := by decide +kernel
theorem dX5_copy_161 : decode cX5_copy 161 = .ok (.iadd, 1) := by decide +kernel
theorem dX5_copy_162 : decode cX5_copy 162 = .ok (.aload_n 0, 1) := by decide +kernel
theorem dX5_copy_163 : decode cX5_copy 163 = .ok (.getfield 20, 3) := by decide +kernel
theorem dX5_copy_166 : decode cX5_copy 166 = .ok (.iload 6, 2) := by decide +kernel
theorem dX5_copy_168 : decode cX5_copy 168 = .ok (.iload 9, 2) := by decide +kernel
theorem dX5_copy_170 : decode cX5_copy 170 = .ok (.iadd, 1) := by decide +kernel
theorem dX5_copy_171 : decode cX5_copy 171 = .ok (.daload, 1) := by decide +kernel
theorem dX5_copy_172 : decode cX5_copy 172 = .ok (.dastore, 1) := by decide +kernel
theorem dX5_copy_173 : decode cX5_copy 173 = .ok (.aload_n 0, 1) := by decide +kernel
theorem dX5_copy_174 : decode cX5_copy 174 = .ok (.getfield 24, 3) := by decide +kernel
theorem dX5_copy_177 : decode cX5_copy 177 = .ok (.iload 7, 2) := by decide +kernel
theorem dX5_copy_179 : decode cX5_copy 179 = .ok (.iload 9, 2) := by decide +kernel
theorem dX5_copy_181 : decode cX5_copy 181 = .ok (.iadd, 1) := by decide +kernel
theorem dX5_copy_182 : decode cX5_copy 182 = .ok (.aload_n 0, 1) := by decide +kernel
theorem dX5_copy_183 : decode cX5_copy 183 = .ok (.getfield 24, 3) := by decide +kernel
theorem dX5_copy_186 : decode cX5_copy 186 = .ok (.iload 6, 2) := by decide +kernel
theorem dX5_copy_188 : decode cX5_copy 188 = .ok (.iload 9, 2) := by decide +kernel
theorem dX5_copy_190 : decode cX5_copy 190 = .ok (.iadd, 1) := by decide +kernel
theorem dX5_copy_191 : decode cX5_copy 191 = .ok (.iaload, 1) := by decide +kernel
theorem dX5_copy_192 : decode cX5_copy 192 = .ok (.iastore, 1) := by decide +kernel
theorem dX5_copy_193 : decode cX5_copy 193 = .ok (.iinc 8 1, 3) := by decide +kernel
theorem dX5_copy_196 : decode cX5_copy 196 = .ok (.goto (-91), 3) := by decide +kernel
theorem dX5_copy_199 : decode cX5_copy 199 = .ok (.iload 5, 2) := by decide +kernel
theorem dX5_copy_201 : decode cX5_copy 201 = .ok (.ireturn, 1) := by decide +kernel
theorem dX5_look_0 : decode cX5_look 0 = .ok (.aload_n 0, 1) := by decide +kernel
theorem dX5_look_1 : decode cX5_look 1 = .ok (.iconst 0, 1) := by decide +kernel
theorem dX5_look_2 : decode cX5_look 2 = .ok (.putfield 54, 3) := by decide +kernel
theorem dX5_look_5 : decode cX5_look 5 = .ok (.iload_n 1, 1) := by decide +kernel
theorem dX5_look_6 : decode cX5_look 6 = .ok (.invokestatic 64, 3) := by decide +kernel
theorem dX5_look_9 : decode cX5_look 9 = .ok (.ifCond .eq 15, 3) := by decide +kernel
theorem dX5_look_12 : decode cX5_look 12 = .ok (.iload_n 2, 1) := by decide +kernel
theorem dX5_look_13 : decode cX5_look 13 = .ok (.i2l, 1) := by decide +kernel
theorem dX5_look_14 : decode cX5_look 14 = .ok (.lconst 0, 1) := by decide +kernel
theorem dX5_look_15 : decode cX5_look 15 = .ok (.ldc2_w 110, 3) := by decide +kernel
theorem dX5_look_18 : decode cX5_look 18 = .ok (.invokestatic 60, 3) := by decide +kernel
theorem dX5_look_21 : decode cX5_look 21 = .ok (.ifCond .ne 7, 3) := by decide +kernel
theorem dX5_look_24 : decode cX5_look 24 = .ok (.ldc2_w 112, 3) := by decide +kernel
theorem dX5_look_27 : decode cX5_look 27 = .ok (.lreturn, 1) := by decide +kernel
theorem dX5_look_28 : decode cX5_look 28 = .ok (.aload_n 0, 1) := by decide +kernel
theorem dX5_look_29 : decode cX5_look 29 = .ok (.iload_n 1, 1) := by decide +kernel
theorem dX5_look_30 : decode cX5_look 30 = .ok (.invokevirtual 70, 3) := by decide +kernel
theorem dX5_look_33 : decode cX5_look 33 = .ok (.ifCond .ne 7, 3) := by decide +kernel
theorem dX5_look_36 : decode cX5_look 36 = .ok (.ldc2_w 114, 3) := by decide +kernel
theorem dX5_look_39 : decode cX5_look 39 = .ok (.lreturn, 1) := by decide +kernel
theorem dX5_look_40 : decode cX5_look 40 = .ok (.aload_n 0, 1) := by decide +kernel
theorem dX5_look_41 : decode cX5_look 41 = .ok (.getfield 7, 3) := by decide +kernel
theorem dX5_look_44 : decode cX5_look 44 = .ok (.iload_n 1, 1) := by decide +kernel
theorem dX5_look_45 : decode cX5_look 45 = .ok (.iaload, 1) := by decide +kernel
theorem dX5_look_46 : decode cX5_look 46 = .ok (.iload_n 2, 1) := by decide +kernel
theorem dX5_look_47 : decode cX5_look 47 = .ok (.if_icmp .eq 7, 3) := by decide +kernel
theorem dX5_look_50 : decode cX5_look 50 = .ok (.ldc2_w 116, 3) := by decide +kernel
theorem dX5_look_53 : decode cX5_look 53 = .ok (.lreturn, 1) := by decide +kernel
theorem dX5_look_54 : decode cX5_look 54 = .ok (.aload_n 0, 1) := by decide +kernel
theorem dX5_look_55 : decode cX5_look 55 = .ok (.iload_n 1, 1) := by decide +kernel
theorem dX5_look_56 : decode cX5_look 56 = .ok (.iload_n 3, 1) := by decide +kernel
theorem dX5_look_57 : decode cX5_look 57 = .ok (.invokevirtual 85, 3) := by decide +kernel
theorem dX5_look_60 : decode cX5_look 60 = .ok (.ifCond .eq 17, 3) := by decide +kernel
theorem dX5_look_63 : decode cX5_look 63 = .ok (.aload_n 0, 1) := by decide +kernel
theorem dX5_look_64 : decode cX5_look 64 = .ok (.getfield 16, 3) := by decide +kernel
theorem dX5_look_67 : decode cX5_look 67 = .ok (.bipush 40, 2) := by decide +kernel
theorem dX5_look_69 : decode cX5_look 69 = .ok (.iload_n 1, 1) := by decide +kernel
theorem dX5_look_70 : decode cX5_look 70 = .ok (.imul, 1) := by decide +kernel
theorem dX5_look_71 : decode cX5_look 71 = .ok (.iload_n 3, 1) := by decide +kernel
theorem dX5_look_72 : decode cX5_look 72 = .ok (.iadd, 1) := by decide +kernel
theorem dX5_look_73 : decode cX5_look 73 = .ok (.laload, 1) := by decide +kernel
theorem dX5_look_74 : decode cX5_look 74 = .ok (.goto 6, 3) := by decide +kernel
theorem dX5_look_77 : decode cX5_look 77 = .ok (.ldc2_w 118, 3) := by decide +kernel
theorem dX5_look_80 : decode cX5_look 80 = .ok (.lreturn, 1) := by decide +kernel
theorem dX5_valueOf_0 : decode cX5_valueOf 0 = .ok (.aload_n 0, 1) := by decide +kernel
theorem dX5_valueOf_1 : decode cX5_valueOf 1 = .ok (.iload_n 1, 1) := by decide +kernel
theorem dX5_valueOf_2 : decode cX5_valueOf 2 = .ok (.invokevirtual 99, 3) := by decide +kernel
theorem dX5_valueOf_5 : decode cX5_valueOf 5 = .ok (.ifCond .ne 11, 3) := by decide +kernel
theorem dX5_valueOf_8 : decode cX5_valueOf 8 = .ok (.aload_n 0, 1) := by decide +kernel
theorem dX5_valueOf_9 : decode cX5_valueOf 9 = .ok (.getfield 16, 3) := by decide +kernel
theorem dX5_valueOf_12 : decode cX5_valueOf 12 = .ok (.iload_n 2, 1) := by decide +kernel
theorem dX5_valueOf_13 : decode cX5_valueOf 13 = .ok (.laload, 1) := by decide +kernel
theorem dX5_valueOf_14 : decode cX5_valueOf 14 = .ok (.l2d, 1) := by decide +kernel
theorem dX5_valueOf_15 : decode cX5_valueOf 15 = .ok (.dreturn, 1) := by decide +kernel
theorem dX5_valueOf_16 : decode cX5_valueOf 16 = .ok (.aload_n 0, 1) := by decide +kernel
theorem dX5_valueOf_17 : decode cX5_valueOf 17 = .ok (.getfield 24, 3) := by decide +kernel
theorem dX5_valueOf_20 : decode cX5_valueOf 20 = .ok (.iload_n 2, 1) := by decide +kernel
theorem dX5_valueOf_21 : decode cX5_valueOf 21 = .ok (.iaload, 1) := by decide +kernel
theorem dX5_valueOf_22 : decode cX5_valueOf 22 = .ok (.iconst 1, 1) := by decide +kernel
theorem dX5_valueOf_23 : decode cX5_valueOf 23 = .ok (.if_icmp .ne 9, 3) := by decide +kernel
theorem dX5_valueOf_26 : decode cX5_valueOf 26 = .ok (.ldc2_w 122, 3) := by decide +kernel
theorem dX5_valueOf_29 : decode cX5_valueOf 29 = .ok (.goto 25, 3) := by decide +kernel
theorem dX5_valueOf_32 : decode cX5_valueOf 32 = .ok (.aload_n 0, 1) := by decide +kernel
theorem dX5_valueOf_33 : decode cX5_valueOf 33 = .ok (.getfield 24, 3) := by decide +kernel
theorem dX5_valueOf_36 : decode cX5_valueOf 36 = .ok (.iload_n 2, 1) := by decide +kernel
theorem dX5_valueOf_37 : decode cX5_valueOf 37 = .ok (.iaload, 1) := by decide +kernel
theorem dX5_valueOf_38 : decode cX5_valueOf 38 = .ok (.iconst 2, 1) := by decide +kernel
theorem dX5_valueOf_39 : decode cX5_valueOf 39 = .ok (.if_icmp .ne 9, 3) := by decide +kernel
theorem dX5_valueOf_42 : decode cX5_valueOf 42 = .ok (.ldc2_w 124, 3) := by decide +kernel
theorem dX5_valueOf_45 : decode cX5_valueOf 45 = .ok (.goto 9, 3) := by decide +kernel
theorem dX5_valueOf_48 : decode cX5_valueOf 48 = .ok (.aload_n 0, 1) := by decide +kernel
theorem dX5_valueOf_49 : decode cX5_valueOf 49 = .ok (.getfield 20, 3) := by decide +kernel
theorem dX5_valueOf_52 : decode cX5_valueOf 52 = .ok (.iload_n 2, 1) := by decide +kernel
theorem dX5_valueOf_53 : decode cX5_valueOf 53 = .ok (.daload, 1) := by decide +kernel
theorem dX5_valueOf_54 : decode cX5_valueOf 54 = .ok (.dreturn, 1) := by decide +kernel
theorem dX5_see_0 : decode cX5_see 0 = .ok (.aload_n 0, 1) := by decide +kernel
theorem dX5_see_1 : decode cX5_see 1 = .ok (.iconst 0, 1) := by decide +kernel
theorem dX5_see_2 : decode cX5_see 2 = .ok (.putfield 54, 3) := by decide +kernel
theorem dX5_see_5 : decode cX5_see 5 = .ok (.iload_n 1, 1) := by decide +kernel
theorem dX5_see_6 : decode cX5_see 6 = .ok (.invokestatic 64, 3) := by decide +kernel
theorem dX5_see_9 : decode cX5_see 9 = .ok (.ifCond .eq 28, 3) := by decide +kernel
theorem dX5_see_12 : decode cX5_see 12 = .ok (.aload_n 0, 1) := by decide +kernel
theorem dX5_see_13 : decode cX5_see 13 = .ok (.iload_n 1, 1) := by decide +kernel
theorem dX5_see_14 : decode cX5_see 14 = .ok (.invokevirtual 70, 3) := by decide +kernel
theorem dX5_see_17 : decode cX5_see 17 = .ok (.ifCond .eq 20, 3) := by decide +kernel
theorem dX5_see_20 : decode cX5_see 20 = .ok (.aload_n 0, 1) := by decide +kernel
theorem dX5_see_21 : decode cX5_see 21 = .ok (.iload_n 1, 1) := by decide +kernel
theorem dX5_see_22 : decode cX5_see 22 = .ok (.invokevirtual 99, 3) := by decide +kernel
theorem dX5_see_25 : decode cX5_see 25 = .ok (.ifCond .eq 12, 3) := by decide +kernel
theorem dX5_see_28 : decode cX5_see 28 = .ok (.aload_n 0, 1) := by decide +kernel
theorem dX5_see_29 : decode cX5_see 29 = .ok (.iload_n 1, 1) := by decide +kernel
theorem dX5_see_30 : decode cX5_see 30 = .ok (.iload_n 2, 1) := by decide +kernel
theorem dX5_see_31 : decode cX5_see 31 = .ok (.invokevirtual 85, 3) := by decide +kernel
theorem dX5_see_34 : decode cX5_see 34 = .ok (.ifCond .ne 5, 3) := by decide +kernel
theorem dX5_see_37 : decode cX5_see 37 = .ok (.dconst 0, 1) := by decide +kernel
theorem dX5_see_38 : decode cX5_see 38 = .ok (.dreturn, 1) := by decide +kernel
theorem dX5_see_39 : decode cX5_see 39 = .ok (.aload_n 0, 1) := by decide +kernel
theorem dX5_see_40 : decode cX5_see 40 = .ok (.iload_n 1, 1) := by decide +kernel
theorem dX5_see_41 : decode cX5_see 41 = .ok (.bipush 40, 2) := by decide +kernel
theorem dX5_see_43 : decode cX5_see 43 = .ok (.iload_n 1, 1) := by decide +kernel
theorem dX5_see_44 : decode cX5_see 44 = .ok (.imul, 1) := by decide +kernel
theorem dX5_see_45 : decode cX5_see 45 = .ok (.iload_n 2, 1) := by decide +kernel
theorem dX5_see_46 : decode cX5_see 46 = .ok (.iadd, 1) := by decide +kernel
theorem dX5_see_47 : decode cX5_see 47 = .ok (.invokevirtual 126, 3) := by decide +kernel
theorem dX5_see_50 : decode cX5_see 50 = .ok (.dreturn, 1) := by decide +kernel
theorem dX5_compare_0 : decode cX5_compare 0 = .ok (.aload_n 0, 1) := by decide +kernel
theorem dX5_compare_1 : decode cX5_compare 1 = .ok (.iconst 0, 1) := by decide +kernel
theorem dX5_compare_2 : decode cX5_compare 2 = .ok (.putfield 54, 3) := by decide +kernel
theorem dX5_compare_5 : decode cX5_compare 5 = .ok (.iload_n 1, 1) := by decide +kernel
theorem dX5_compare_6 : decode cX5_compare 6 = .ok (.invokestatic 64, 3) := by decide +kernel
theorem dX5_compare_9 : decode cX5_compare 9 = .ok (.ifCond .ne 6, 3) := by decide +kernel
theorem dX5_compare_12 : decode cX5_compare 12 = .ok (.bipush (-3), 2) := by decide +kernel
theorem dX5_compare_14 : decode cX5_compare 14 = .ok (.ireturn, 1) := by decide +kernel
theorem dX5_compare_15 : decode cX5_compare 15 = .ok (.aload_n 0, 1) := by decide +kernel
theorem dX5_compare_16 : decode cX5_compare 16 = .ok (.iload_n 1, 1) := by decide +kernel
theorem dX5_compare_17 : decode cX5_compare 17 = .ok (.invokevirtual 70, 3) := by decide +kernel
theorem dX5_compare_20 : decode cX5_compare 20 = .ok (.ifCond .ne 6, 3) := by decide +kernel
theorem dX5_compare_23 : decode cX5_compare 23 = .ok (.bipush (-11), 2) := by decide +kernel
theorem dX5_compare_25 : decode cX5_compare 25 = .ok (.ireturn, 1) := by decide +kernel
theorem dX5_compare_26 : decode cX5_compare 26 = .ok (.aload_n 0, 1) := by decide +kernel
theorem dX5_compare_27 : decode cX5_compare 27 = .ok (.iload_n 1, 1) := by decide +kernel
theorem dX5_compare_28 : decode cX5_compare 28 = .ok (.iload_n 2, 1) := by decide +kernel
theorem dX5_compare_29 : decode cX5_compare 29 = .ok (.invokevirtual 85, 3) := by decide +kernel
theorem dX5_compare_32 : decode cX5_compare 32 = .ok (.ifCond .ne 6, 3) := by decide +kernel
theorem dX5_compare_35 : decode cX5_compare 35 = .ok (.bipush (-13), 2) := by decide +kernel
theorem dX5_compare_37 : decode cX5_compare 37 = .ok (.ireturn, 1) := by decide +kernel
theorem dX5_compare_38 : decode cX5_compare 38 = .ok (.bipush 40, 2) := by decide +kernel
theorem dX5_compare_40 : decode cX5_compare 40 = .ok (.iload_n 1, 1) := by decide +kernel
theorem dX5_compare_41 : decode cX5_compare 41 = .ok (.imul, 1) := by decide +kernel
theorem dX5_compare_42 : decode cX5_compare 42 = .ok (.iload_n 2, 1) := by decide +kernel
theorem dX5_compare_43 : decode cX5_compare 43 = .ok (.iadd, 1) := by decide +kernel
theorem dX5_compare_44 : decode cX5_compare 44 = .ok (.istore 5, 2) := by decide +kernel
theorem dX5_compare_46 : decode cX5_compare 46 = .ok (.aload_n 0, 1) := by decide +kernel
theorem dX5_compare_47 : decode cX5_compare 47 = .ok (.iload_n 1, 1) := by decide +kernel
theorem dX5_compare_48 : decode cX5_compare 48 = .ok (.invokevirtual 99, 3) := by decide +kernel
theorem dX5_compare_51 : decode cX5_compare 51 = .ok (.ifCond .eq 16, 3) := by decide +kernel
theorem dX5_compare_54 : decode cX5_compare 54 = .ok (.aload_n 0, 1) := by decide +kernel
theorem dX5_compare_55 : decode cX5_compare 55 = .ok (.getfield 24, 3) := by decide +kernel
theorem dX5_compare_58 : decode cX5_compare 58 = .ok (.iload 5, 2) := by decide +kernel
theorem dX5_compare_60 : decode cX5_compare 60 = .ok (.iaload, 1) := by decide +kernel
theorem dX5_compare_61 : decode cX5_compare 61 = .ok (.iconst 3, 1) := by decide +kernel
theorem dX5_compare_62 : decode cX5_compare 62 = .ok (.if_icmp .ne 5, 3) := by decide +kernel
theorem dX5_compare_65 : decode cX5_compare 65 = .ok (.iconst 0, 1) := by decide +kernel
theorem dX5_compare_66 : decode cX5_compare 66 = .ok (.ireturn, 1) := by decide +kernel
theorem dX5_compare_67 : decode cX5_compare 67 = .ok (.aload_n 0, 1) := by decide +kernel
theorem dX5_compare_68 : decode cX5_compare 68 = .ok (.iload_n 1, 1) := by decide +kernel
theorem dX5_compare_69 : decode cX5_compare 69 = .ok (.iload 5, 2) := by decide +kernel
theorem dX5_compare_71 : decode cX5_compare 71 = .ok (.invokevirtual 126, 3) := by decide +kernel
theorem dX5_compare_74 : decode cX5_compare 74 = .ok (.dstore 6, 2) := by decide +kernel
theorem dX5_compare_76 : decode cX5_compare 76 = .ok (.dload 6, 2) := by decide +kernel
theorem dX5_compare_78 : decode cX5_compare 78 = .ok (.dload_n 3, 1) := by decide +kernel
theorem dX5_compare_79 : decode cX5_compare 79 = .ok (.dcmp .g, 1) := by decide +kernel
theorem dX5_compare_80 : decode cX5_compare 80 = .ok (.ifCond .ge 7, 3) := by decide +kernel
theorem dX5_compare_83 : decode cX5_compare 83 = .ok (.iconst 1, 1) := by decide +kernel
theorem dX5_compare_84 : decode cX5_compare 84 = .ok (.goto 26, 3) := by decide +kernel
theorem dX5_compare_87 : decode cX5_compare 87 = .ok (.dload 6, 2) := by decide +kernel
theorem dX5_compare_89 : decode cX5_compare 89 = .ok (.dload_n 3, 1) := by decide +kernel
theorem dX5_compare_90 : decode cX5_compare 90 = .ok (.dcmp .l, 1) := by decide +kernel
theorem dX5_compare_91 : decode cX5_compare 91 = .ok (.ifCond .ne 7, 3) := by decide +kernel
theorem dX5_compare_94 : decode cX5_compare 94 = .ok (.iconst 2, 1) := by decide +kernel
theorem dX5_compare_95 : decode cX5_compare 95 = .ok (.goto 15, 3) := by decide +kernel
theorem dX5_compare_98 : decode cX5_compare 98 = .ok (.dload 6, 2) := by decide +kernel
theorem dX5_compare_100 : decode cX5_compare 100 = .ok (.dload_n 3, 1) := by decide +kernel
theorem dX5_compare_101 : decode cX5_compare 101 = .ok (.dcmp .l, 1) := by decide +kernel
theorem dX5_compare_102 : decode cX5_compare 102 = .ok (.ifCond .le 7, 3) := by decide +kernel
theorem dX5_compare_105 : decode cX5_compare 105 = .ok (.iconst 3, 1) := by decide +kernel
theorem dX5_compare_106 : decode cX5_compare 106 = .ok (.goto 4, 3) := by decide +kernel
theorem dX5_compare_109 : decode cX5_compare 109 = .ok (.iconst 0, 1) := by decide +kernel
theorem dX5_compare_110 : decode cX5_compare 110 = .ok (.ireturn, 1) := by decide +kernel
theorem dX5_isKeeper_0 : decode cX5_isKeeper 0 = .ok (.iload_n 0, 1) := by decide +kernel
theorem dX5_isKeeper_1 : decode cX5_isKeeper 1 = .ok (.i2l, 1) := by decide +kernel
theorem dX5_isKeeper_2 : decode cX5_isKeeper 2 = .ok (.lconst 0, 1) := by decide +kernel
theorem dX5_isKeeper_3 : decode cX5_isKeeper 3 = .ok (.ldc2_w 68, 3) := by decide +kernel
theorem dX5_isKeeper_6 : decode cX5_isKeeper 6 = .ok (.invokestatic 60, 3) := by decide +kernel
theorem dX5_isKeeper_9 : decode cX5_isKeeper 9 = .ok (.ireturn, 1) := by decide +kernel
theorem dX5_keep_0 : decode cX5_keep 0 = .ok (.aload_n 0, 1) := by decide +kernel
theorem dX5_keep_1 : decode cX5_keep 1 = .ok (.getfield 130, 3) := by decide +kernel
theorem dX5_keep_4 : decode cX5_keep 4 = .ok (.istore_n 2, 1) := by decide +kernel
theorem dX5_keep_5 : decode cX5_keep 5 = .ok (.aload_n 0, 1) := by decide +kernel
theorem dX5_keep_6 : decode cX5_keep 6 = .ok (.getfield 36, 3) := by decide +kernel
theorem dX5_keep_9 : decode cX5_keep 9 = .ok (.iload_n 2, 1) := by decide +kernel
theorem dX5_keep_10 : decode cX5_keep 10 = .ok (.iload_n 1, 1) := by decide +kernel
theorem dX5_keep_11 : decode cX5_keep 11 = .ok (.iastore, 1) := by decide +kernel
theorem dX5_keep_12 : decode cX5_keep 12 = .ok (.aload_n 0, 1) := by decide +kernel
theorem dX5_keep_13 : decode cX5_keep 13 = .ok (.getfield 39, 3) := by decide +kernel
theorem dX5_keep_16 : decode cX5_keep 16 = .ok (.iload_n 2, 1) := by decide +kernel
theorem dX5_keep_17 : decode cX5_keep 17 = .ok (.aload_n 0, 1) := by decide +kernel
theorem dX5_keep_18 : decode cX5_keep 18 = .ok (.getfield 27, 3) := by decide +kernel
theorem dX5_keep_21 : decode cX5_keep 21 = .ok (.iload_n 1, 1) := by decide +kernel
theorem dX5_keep_22 : decode cX5_keep 22 = .ok (.iaload, 1) := by decide +kernel
theorem dX5_keep_23 : decode cX5_keep 23 = .ok (.iastore, 1) := by decide +kernel
theorem dX5_keep_24 : decode cX5_keep 24 = .ok (.iconst 0, 1) := by decide +kernel
theorem dX5_keep_25 : decode cX5_keep 25 = .ok (.istore_n 3, 1) := by decide +kernel
theorem dX5_keep_26 : decode cX5_keep 26 = .ok (.iload_n 3, 1) := by decide +kernel
theorem dX5_keep_27 : decode cX5_keep 27 = .ok (.sipush 152, 3) := by decide +kernel
theorem dX5_keep_30 : decode cX5_keep 30 = .ok (.if_icmp .ge 33, 3) := by decide +kernel
theorem dX5_keep_33 : decode cX5_keep 33 = .ok (.aload_n 0, 1) := by decide +kernel
theorem dX5_keep_34 : decode cX5_keep 34 = .ok (.getfield 42, 3) := by decide +kernel
theorem dX5_keep_37 : decode cX5_keep 37 = .ok (.sipush 152, 3) := by decide +kernel
theorem dX5_keep_40 : decode cX5_keep 40 = .ok (.iload_n 2, 1) := by decide +kernel
theorem dX5_keep_41 : decode cX5_keep 41 = .ok (.imul, 1) := by decide +kernel
theorem dX5_keep_42 : decode cX5_keep 42 = .ok (.iload_n 3, 1) := by decide +kernel
theorem dX5_keep_43 : decode cX5_keep 43 = .ok (.iadd, 1) := by decide +kernel
theorem dX5_keep_44 : decode cX5_keep 44 = .ok (.aload_n 0, 1) := by decide +kernel
theorem dX5_keep_45 : decode cX5_keep 45 = .ok (.getfield 30, 3) := by decide +kernel
theorem dX5_keep_48 : decode cX5_keep 48 = .ok (.sipush 152, 3) := by decide +kernel
theorem dX5_keep_51 : decode cX5_keep 51 = .ok (.iload_n 1, 1) := by decide +kernel
theorem dX5_keep_52 : decode cX5_keep 52 = .ok (.imul, 1) := by decide +kernel
theorem dX5_keep_53 : decode cX5_keep 53 = .ok (.iload_n 3, 1) := by decide +kernel
theorem dX5_keep_54 : decode cX5_keep 54 = .ok (.iadd, 1) := by decide +kernel
theorem dX5_keep_55 : decode cX5_keep 55 = .ok (.iaload, 1) := by decide +kernel
theorem dX5_keep_56 : decode cX5_keep 56 = .ok (.iastore, 1) := by decide +kernel
theorem dX5_keep_57 : decode cX5_keep 57 = .ok (.iinc 3 1, 3) := by decide +kernel
theorem dX5_keep_60 : decode cX5_keep 60 = .ok (.goto (-34), 3) := by decide +kernel
theorem dX5_keep_63 : decode cX5_keep 63 = .ok (.iconst 0, 1) := by decide +kernel
theorem dX5_keep_64 : decode cX5_keep 64 = .ok (.istore_n 3, 1) := by decide +kernel
theorem dX5_keep_65 : decode cX5_keep 65 = .ok (.iload_n 3, 1) := by decide +kernel
theorem dX5_keep_66 : decode cX5_keep 66 = .ok (.iconst 3, 1) := by decide +kernel
theorem dX5_keep_67 : decode cX5_keep 67 = .ok (.if_icmp .ge 29, 3) := by decide +kernel
theorem dX5_keep_70 : decode cX5_keep 70 = .ok (.aload_n 0, 1) := by decide +kernel
theorem dX5_keep_71 : decode cX5_keep 71 = .ok (.getfield 45, 3) := by decide +kernel
theorem dX5_keep_74 : decode cX5_keep 74 = .ok (.iconst 3, 1) := by decide +kernel
theorem dX5_keep_75 : decode cX5_keep 75 = .ok (.iload_n 2, 1) := by decide +kernel
theorem dX5_keep_76 : decode cX5_keep 76 = .ok (.imul, 1) := by decide +kernel
theorem dX5_keep_77 : decode cX5_keep 77 = .ok (.iload_n 3, 1) := by decide +kernel
theorem dX5_keep_78 : decode cX5_keep 78 = .ok (.iadd, 1) := by decide +kernel
theorem dX5_keep_79 : decode cX5_keep 79 = .ok (.aload_n 0, 1) := by decide +kernel
theorem dX5_keep_80 : decode cX5_keep 80 = .ok (.getfield 33, 3) := by decide +kernel
theorem dX5_keep_83 : decode cX5_keep 83 = .ok (.iconst 3, 1) := by decide +kernel
theorem dX5_keep_84 : decode cX5_keep 84 = .ok (.iload_n 1, 1) := by decide +kernel
theorem dX5_keep_85 : decode cX5_keep 85 = .ok (.imul, 1) := by decide +kernel
theorem dX5_keep_86 : decode cX5_keep 86 = .ok (.iload_n 3, 1) := by decide +kernel
theorem dX5_keep_87 : decode cX5_keep 87 = .ok (.iadd, 1) := by decide +kernel
theorem dX5_keep_88 : decode cX5_keep 88 = .ok (.iaload, 1) := by decide +kernel
theorem dX5_keep_89 : decode cX5_keep 89 = .ok (.iastore, 1) := by decide +kernel
theorem dX5_keep_90 : decode cX5_keep 90 = .ok (.iinc 3 1, 3) := by decide +kernel
theorem dX5_keep_93 : decode cX5_keep 93 = .ok (.goto (-28), 3) := by decide +kernel
theorem dX5_keep_96 : decode cX5_keep 96 = .ok (.aload_n 0, 1) := by decide +kernel
theorem dX5_keep_97 : decode cX5_keep 97 = .ok (.iload_n 2, 1) := by decide +kernel
theorem dX5_keep_98 : decode cX5_keep 98 = .ok (.iconst 1, 1) := by decide +kernel
theorem dX5_keep_99 : decode cX5_keep 99 = .ok (.iadd, 1) := by decide +kernel
theorem dX5_keep_100 : decode cX5_keep 100 = .ok (.bipush 12, 2) := by decide +kernel
theorem dX5_keep_102 : decode cX5_keep 102 = .ok (.irem, 1) := by decide +kernel
theorem dX5_keep_103 : decode cX5_keep 103 = .ok (.putfield 130, 3) := by decide +kernel
theorem dX5_keep_106 : decode cX5_keep 106 = .ok (.aload_n 0, 1) := by decide +kernel
theorem dX5_keep_107 : decode cX5_keep 107 = .ok (.aload_n 0, 1) := by decide +kernel
theorem dX5_keep_108 : decode cX5_keep 108 = .ok (.getfield 133, 3) := by decide +kernel
theorem dX5_keep_111 : decode cX5_keep 111 = .ok (.bipush 12, 2) := by decide +kernel
theorem dX5_keep_113 : decode cX5_keep 113 = .ok (.if_icmp .ge 12, 3) := by decide +kernel
theorem dX5_keep_116 : decode cX5_keep 116 = .ok (.aload_n 0, 1) := by decide +kernel
theorem dX5_keep_117 : decode cX5_keep 117 = .ok (.getfield 133, 3) := by decide +kernel
theorem dX5_keep_120 : decode cX5_keep 120 = .ok (.iconst 1, 1) := by decide +kernel
theorem dX5_keep_121 : decode cX5_keep 121 = .ok (.iadd, 1) := by decide +kernel
theorem dX5_keep_122 : decode cX5_keep 122 = .ok (.goto 5, 3) := by decide +kernel
theorem dX5_keep_125 : decode cX5_keep 125 = .ok (.bipush 12, 2) := by decide +kernel
theorem dX5_keep_127 : decode cX5_keep 127 = .ok (.putfield 133, 3) := by decide +kernel
theorem dX5_keep_130 : decode cX5_keep 130 = .ok (.return_, 1) := by decide +kernel
theorem dX5_undo_0 : decode cX5_undo 0 = .ok (.aload_n 0, 1) := by decide +kernel
theorem dX5_undo_1 : decode cX5_undo 1 = .ok (.iconst 0, 1) := by decide +kernel
theorem dX5_undo_2 : decode cX5_undo 2 = .ok (.putfield 54, 3) := by decide +kernel
theorem dX5_undo_5 : decode cX5_undo 5 = .ok (.aload_n 0, 1) := by decide +kernel
theorem dX5_undo_6 : decode cX5_undo 6 = .ok (.getfield 133, 3) := by decide +kernel
theorem dX5_undo_9 : decode cX5_undo 9 = .ok (.ifCond .ne 5, 3) := by decide +kernel
theorem dX5_undo_12 : decode cX5_undo 12 = .ok (.iconst (-1), 1) := by decide +kernel
theorem dX5_undo_13 : decode cX5_undo 13 = .ok (.ireturn, 1) := by decide +kernel
theorem dX5_undo_14 : decode cX5_undo 14 = .ok (.aload_n 0, 1) := by decide +kernel
theorem dX5_undo_15 : decode cX5_undo 15 = .ok (.aload_n 0, 1) := by decide +kernel
theorem dX5_undo_16 : decode cX5_undo 16 = .ok (.getfield 130, 3) := by decide +kernel
theorem dX5_undo_19 : decode cX5_undo 19 = .ok (.bipush 12, 2) := by decide +kernel
theorem dX5_undo_21 : decode cX5_undo 21 = .ok (.iadd, 1) := by decide +kernel
theorem dX5_undo_22 : decode cX5_undo 22 = .ok (.iconst 1, 1) := by decide +kernel
theorem dX5_undo_23 : decode cX5_undo 23 = .ok (.isub, 1) := by decide +kernel
theorem dX5_undo_24 : decode cX5_undo 24 = .ok (.bipush 12, 2) := by decide +kernel
theorem dX5_undo_26 : decode cX5_undo 26 = .ok (.irem, 1) := by decide +kernel
theorem dX5_undo_27 : decode cX5_undo 27 = .ok (.putfield 130, 3) := by decide +kernel
theorem dX5_undo_30 : decode cX5_undo 30 = .ok (.aload_n 0, 1) := by decide +kernel
theorem dX5_undo_31 : decode cX5_undo 31 = .ok (.dup, 1) := by decide +kernel
theorem dX5_undo_32 : decode cX5_undo 32 = .ok (.getfield 133, 3) := by decide +kernel
theorem dX5_undo_35 : decode cX5_undo 35 = .ok (.iconst 1, 1) := by decide +kernel
theorem dX5_undo_36 : decode cX5_undo 36 = .ok (.isub, 1) := by decide +kernel
theorem dX5_undo_37 : decode cX5_undo 37 = .ok (.putfield 133, 3) := by decide +kernel
theorem dX5_undo_40 : decode cX5_undo 40 = .ok (.aload_n 0, 1) := by decide +kernel
theorem dX5_undo_41 : decode cX5_undo 41 = .ok (.getfield 130, 3) := by decide +kernel
theorem dX5_undo_44 : decode cX5_undo 44 = .ok (.istore_n 1, 1) := by decide +kernel
theorem dX5_undo_45 : decode cX5_undo 45 = .ok (.aload_n 0, 1) := by decide +kernel
theorem dX5_undo_46 : decode cX5_undo 46 = .ok (.getfield 36, 3) := by decide +kernel
theorem dX5_undo_49 : decode cX5_undo 49 = .ok (.iload_n 1, 1) := by decide +kernel
theorem dX5_undo_50 : decode cX5_undo 50 = .ok (.iaload, 1) := by decide +kernel
theorem dX5_undo_51 : decode cX5_undo 51 = .ok (.istore_n 2, 1) := by decide +kernel
theorem dX5_undo_52 : decode cX5_undo 52 = .ok (.aload_n 0, 1) := by decide +kernel
theorem dX5_undo_53 : decode cX5_undo 53 = .ok (.getfield 27, 3) := by decide +kernel
theorem dX5_undo_56 : decode cX5_undo 56 = .ok (.iload_n 2, 1) := by decide +kernel
theorem dX5_undo_57 : decode cX5_undo 57 = .ok (.aload_n 0, 1) := by decide +kernel
theorem dX5_undo_58 : decode cX5_undo 58 = .ok (.getfield 39, 3) := by decide +kernel
theorem dX5_undo_61 : decode cX5_undo 61 = .ok (.iload_n 1, 1) := by decide +kernel
theorem dX5_undo_62 : decode cX5_undo 62 = .ok (.iaload, 1) := by decide +kernel
theorem dX5_undo_63 : decode cX5_undo 63 = .ok (.iastore, 1) := by decide +kernel
theorem dX5_undo_64 : decode cX5_undo 64 = .ok (.iconst 0, 1) := by decide +kernel
theorem dX5_undo_65 : decode cX5_undo 65 = .ok (.istore_n 3, 1) := by decide +kernel
theorem dX5_undo_66 : decode cX5_undo 66 = .ok (.iload_n 3, 1) := by decide +kernel
theorem dX5_undo_67 : decode cX5_undo 67 = .ok (.sipush 152, 3) := by decide +kernel
theorem dX5_undo_70 : decode cX5_undo 70 = .ok (.if_icmp .ge 33, 3) := by decide +kernel
theorem dX5_undo_73 : decode cX5_undo 73 = .ok (.aload_n 0, 1) := by decide +kernel
theorem dX5_undo_74 : decode cX5_undo 74 = .ok (.getfield 30, 3) := by decide +kernel
theorem dX5_undo_77 : decode cX5_undo 77 = .ok (.sipush 152, 3) := by decide +kernel
theorem dX5_undo_80 : decode cX5_undo 80 = .ok (.iload_n 2, 1) := by decide +kernel
theorem dX5_undo_81 : decode cX5_undo 81 = .ok (.imul, 1) := by decide +kernel
theorem dX5_undo_82 : decode cX5_undo 82 = .ok (.iload_n 3, 1) := by decide +kernel
theorem dX5_undo_83 : decode cX5_undo 83 = .ok (.iadd, 1) := by decide +kernel
theorem dX5_undo_84 : decode cX5_undo 84 = .ok (.aload_n 0, 1) := by decide +kernel
theorem dX5_undo_85 : decode cX5_undo 85 = .ok (.getfield 42, 3) := by decide +kernel
theorem dX5_undo_88 : decode cX5_undo 88 = .ok (.sipush 152, 3) := by decide +kernel
theorem dX5_undo_91 : decode cX5_undo 91 = .ok (.iload_n 1, 1) := by decide +kernel
theorem dX5_undo_92 : decode cX5_undo 92 = .ok (.imul, 1) := by decide +kernel
theorem dX5_undo_93 : decode cX5_undo 93 = .ok (.iload_n 3, 1) := by decide +kernel
theorem dX5_undo_94 : decode cX5_undo 94 = .ok (.iadd, 1) := by decide +kernel
theorem dX5_undo_95 : decode cX5_undo 95 = .ok (.iaload, 1) := by decide +kernel
theorem dX5_undo_96 : decode cX5_undo 96 = .ok (.iastore, 1) := by decide +kernel
theorem dX5_undo_97 : decode cX5_undo 97 = .ok (.iinc 3 1, 3) := by decide +kernel
theorem dX5_undo_100 : decode cX5_undo 100 = .ok (.goto (-34), 3) := by decide +kernel
theorem dX5_undo_103 : decode cX5_undo 103 = .ok (.iconst 0, 1) := by decide +kernel
theorem dX5_undo_104 : decode cX5_undo 104 = .ok (.istore_n 3, 1) := by decide +kernel
theorem dX5_undo_105 : decode cX5_undo 105 = .ok (.iload_n 3, 1) := by decide +kernel
theorem dX5_undo_106 : decode cX5_undo 106 = .ok (.iconst 3, 1) := by decide +kernel
theorem dX5_undo_107 : decode cX5_undo 107 = .ok (.if_icmp .ge 29, 3) := by decide +kernel
theorem dX5_undo_110 : decode cX5_undo 110 = .ok (.aload_n 0, 1) := by decide +kernel
theorem dX5_undo_111 : decode cX5_undo 111 = .ok (.getfield 33, 3) := by decide +kernel
theorem dX5_undo_114 : decode cX5_undo 114 = .ok (.iconst 3, 1) := by decide +kernel
theorem dX5_undo_115 : decode cX5_undo 115 = .ok (.iload_n 2, 1) := by decide +kernel
theorem dX5_undo_116 : decode cX5_undo 116 = .ok (.imul, 1) := by decide +kernel
theorem dX5_undo_117 : decode cX5_undo 117 = .ok (.iload_n 3, 1) := by decide +kernel
theorem dX5_undo_118 : decode cX5_undo 118 = .ok (.iadd, 1) := by decide +kernel
theorem dX5_undo_119 : decode cX5_undo 119 = .ok (.aload_n 0, 1) := by decide +kernel
theorem dX5_undo_120 : decode cX5_undo 120 = .ok (.getfield 45, 3) := by decide +kernel
theorem dX5_undo_123 : decode cX5_undo 123 = .ok (.iconst 3, 1) := by decide +kernel
theorem dX5_undo_124 : decode cX5_undo 124 = .ok (.iload_n 1, 1) := by decide +kernel
theorem dX5_undo_125 : decode cX5_undo 125 = .ok (.imul, 1) := by decide +kernel
theorem dX5_undo_126 : decode cX5_undo 126 = .ok (.iload_n 3, 1) := by decide +kernel
theorem dX5_undo_127 : decode cX5_undo 127 = .ok (.iadd, 1) := by decide +kernel
theorem dX5_undo_128 : decode cX5_undo 128 = .ok (.iaload, 1) := by decide +kernel
theorem dX5_undo_129 : decode cX5_undo 129 = .ok (.iastore, 1) := by decide +kernel
theorem dX5_undo_130 : decode cX5_undo 130 = .ok (.iinc 3 1, 3) := by decide +kernel
theorem dX5_undo_133 : decode cX5_undo 133 = .ok (.goto (-28), 3) := by decide +kernel
theorem dX5_undo_136 : decode cX5_undo 136 = .ok (.iload_n 2, 1) := by decide +kernel
theorem dX5_undo_137 : decode cX5_undo 137 = .ok (.ireturn, 1) := by decide +kernel
theorem dX5_blank_0 : decode cX5_blank 0 = .ok (.iconst 0, 1) := by decide +kernel
theorem dX5_blank_1 : decode cX5_blank 1 = .ok (.istore_n 2, 1) := by decide +kernel
theorem dX5_blank_2 : decode cX5_blank 2 = .ok (.iload_n 2, 1) := by decide +kernel
theorem dX5_blank_3 : decode cX5_blank 3 = .ok (.sipush 152, 3) := by decide +kernel
theorem dX5_blank_6 : decode cX5_blank 6 = .ok (.if_icmp .ge 22, 3) := by decide +kernel
theorem dX5_blank_9 : decode cX5_blank 9 = .ok (.aload_n 0, 1) := by decide +kernel
theorem dX5_blank_10 : decode cX5_blank 10 = .ok (.getfield 30, 3) := by decide +kernel
theorem dX5_blank_13 : decode cX5_blank 13 = .ok (.sipush 152, 3) := by decide +kernel
theorem dX5_blank_16 : decode cX5_blank 16 = .ok (.iload_n 1, 1) := by decide +kernel
theorem dX5_blank_17 : decode cX5_blank 17 = .ok (.imul, 1) := by decide +kernel
theorem dX5_blank_18 : decode cX5_blank 18 = .ok (.iload_n 2, 1) := by decide +kernel
theorem dX5_blank_19 : decode cX5_blank 19 = .ok (.iadd, 1) := by decide +kernel
theorem dX5_blank_20 : decode cX5_blank 20 = .ok (.iconst 0, 1) := by decide +kernel
theorem dX5_blank_21 : decode cX5_blank 21 = .ok (.iastore, 1) := by decide +kernel
theorem dX5_blank_22 : decode cX5_blank 22 = .ok (.iinc 2 1, 3) := by decide +kernel
theorem dX5_blank_25 : decode cX5_blank 25 = .ok (.goto (-23), 3) := by decide +kernel
theorem dX5_blank_28 : decode cX5_blank 28 = .ok (.iconst 0, 1) := by decide +kernel
theorem dX5_blank_29 : decode cX5_blank 29 = .ok (.istore_n 2, 1) := by decide +kernel
theorem dX5_blank_30 : decode cX5_blank 30 = .ok (.iload_n 2, 1) := by decide +kernel
theorem dX5_blank_31 : decode cX5_blank 31 = .ok (.iconst 3, 1) := by decide +kernel
theorem dX5_blank_32 : decode cX5_blank 32 = .ok (.if_icmp .ge 20, 3) := by decide +kernel
theorem dX5_blank_35 : decode cX5_blank 35 = .ok (.aload_n 0, 1) := by decide +kernel
theorem dX5_blank_36 : decode cX5_blank 36 = .ok (.getfield 33, 3) := by decide +kernel
theorem dX5_blank_39 : decode cX5_blank 39 = .ok (.iconst 3, 1) := by decide +kernel
theorem dX5_blank_40 : decode cX5_blank 40 = .ok (.iload_n 1, 1) := by decide +kernel
theorem dX5_blank_41 : decode cX5_blank 41 = .ok (.imul, 1) := by decide +kernel
theorem dX5_blank_42 : decode cX5_blank 42 = .ok (.iload_n 2, 1) := by decide +kernel
theorem dX5_blank_43 : decode cX5_blank 43 = .ok (.iadd, 1) := by decide +kernel
theorem dX5_blank_44 : decode cX5_blank 44 = .ok (.iconst 0, 1) := by decide +kernel
theorem dX5_blank_45 : decode cX5_blank 45 = .ok (.iastore, 1) := by decide +kernel
theorem dX5_blank_46 : decode cX5_blank 46 = .ok (.iinc 2 1, 3) := by decide +kernel
theorem dX5_blank_49 : decode cX5_blank 49 = .ok (.goto (-19), 3) := by decide +kernel
theorem dX5_blank_52 : decode cX5_blank 52 = .ok (.return_, 1) := by decide +kernel
theorem dX5_keeper_0 : decode cX5_keeper 0 = .ok (.aload_n 0, 1) := by decide +kernel
theorem dX5_keeper_1 : decode cX5_keeper 1 = .ok (.iconst 0, 1) := by decide +kernel
theorem dX5_keeper_2 : decode cX5_keeper 2 = .ok (.putfield 54, 3) := by decide +kernel
theorem dX5_keeper_5 : decode cX5_keeper 5 = .ok (.iload_n 1, 1) := by decide +kernel
theorem dX5_keeper_6 : decode cX5_keeper 6 = .ok (.invokestatic 136, 3) := by decide +kernel
theorem dX5_keeper_9 : decode cX5_keeper 9 = .ok (.ifCond .eq 15, 3) := by decide +kernel
theorem dX5_keeper_12 : decode cX5_keeper 12 = .ok (.iload_n 2, 1) := by decide +kernel
theorem dX5_keeper_13 : decode cX5_keeper 13 = .ok (.i2l, 1) := by decide +kernel
theorem dX5_keeper_14 : decode cX5_keeper 14 = .ok (.lconst 0, 1) := by decide +kernel
theorem dX5_keeper_15 : decode cX5_keeper 15 = .ok (.ldc2_w 139, 3) := by decide +kernel
theorem dX5_keeper_18 : decode cX5_keeper 18 = .ok (.invokestatic 60, 3) := by decide +kernel
theorem dX5_keeper_21 : decode cX5_keeper 21 = .ok (.ifCond .ne 6, 3) := by decide +kernel
theorem dX5_keeper_24 : decode cX5_keeper 24 = .ok (.bipush (-3), 2) := by decide +kernel
theorem dX5_keeper_26 : decode cX5_keeper 26 = .ok (.ireturn, 1) := by decide +kernel
theorem dX5_keeper_27 : decode cX5_keeper 27 = .ok (.aload_n 0, 1) := by decide +kernel
theorem dX5_keeper_28 : decode cX5_keeper 28 = .ok (.iload_n 1, 1) := by decide +kernel
theorem dX5_keeper_29 : decode cX5_keeper 29 = .ok (.invokevirtual 141, 3) := by decide +kernel
theorem dX5_keeper_32 : decode cX5_keeper 32 = .ok (.aload_n 0, 1) := by decide +kernel
theorem dX5_keeper_33 : decode cX5_keeper 33 = .ok (.getfield 27, 3) := by decide +kernel
theorem dX5_keeper_36 : decode cX5_keeper 36 = .ok (.iload_n 1, 1) := by decide +kernel
theorem dX5_keeper_37 : decode cX5_keeper 37 = .ok (.iload_n 2, 1) := by decide +kernel
theorem dX5_keeper_38 : decode cX5_keeper 38 = .ok (.iastore, 1) := by decide +kernel
theorem dX5_keeper_39 : decode cX5_keeper 39 = .ok (.aload_n 0, 1) := by decide +kernel
theorem dX5_keeper_40 : decode cX5_keeper 40 = .ok (.iload_n 1, 1) := by decide +kernel
theorem dX5_keeper_41 : decode cX5_keeper 41 = .ok (.invokevirtual 145, 3) := by decide +kernel
theorem dX5_keeper_44 : decode cX5_keeper 44 = .ok (.iconst 0, 1) := by decide +kernel
theorem dX5_keeper_45 : decode cX5_keeper 45 = .ok (.ireturn, 1) := by decide +kernel
theorem dX5_see__0 : decode cX5_see_ 0 = .ok (.aload_n 0, 1) := by decide +kernel
theorem dX5_see__1 : decode cX5_see_ 1 = .ok (.getfield 33, 3) := by decide +kernel
theorem dX5_see__4 : decode cX5_see_ 4 = .ok (.iconst 3, 1) := by decide +kernel
theorem dX5_see__5 : decode cX5_see_ 5 = .ok (.iload_n 1, 1) := by decide +kernel
theorem dX5_see__6 : decode cX5_see_ 6 = .ok (.imul, 1) := by decide +kernel
theorem dX5_see__7 : decode cX5_see_ 7 = .ok (.iload_n 2, 1) := by decide +kernel
theorem dX5_see__8 : decode cX5_see_ 8 = .ok (.iadd, 1) := by decide +kernel
theorem dX5_see__9 : decode cX5_see_ 9 = .ok (.iaload, 1) := by decide +kernel
theorem dX5_see__10 : decode cX5_see_ 10 = .ok (.i2l, 1) := by decide +kernel
theorem dX5_see__11 : decode cX5_see_ 11 = .ok (.iload_n 3, 1) := by decide +kernel
theorem dX5_see__12 : decode cX5_see_ 12 = .ok (.i2l, 1) := by decide +kernel
theorem dX5_see__13 : decode cX5_see_ 13 = .ok (.ladd, 1) := by decide +kernel
theorem dX5_see__14 : decode cX5_see_ 14 = .ok (.lstore 4, 2) := by decide +kernel
theorem dX5_see__16 : decode cX5_see_ 16 = .ok (.aload_n 0, 1) := by decide +kernel
theorem dX5_see__17 : decode cX5_see_ 17 = .ok (.getfield 33, 3) := by decide +kernel
theorem dX5_see__20 : decode cX5_see_ 20 = .ok (.iconst 3, 1) := by decide +kernel
theorem dX5_see__21 : decode cX5_see_ 21 = .ok (.iload_n 1, 1) := by decide +kernel
theorem dX5_see__22 : decode cX5_see_ 22 = .ok (.imul, 1) := by decide +kernel
theorem dX5_see__23 : decode cX5_see_ 23 = .ok (.iload_n 2, 1) := by decide +kernel
theorem dX5_see__24 : decode cX5_see_ 24 = .ok (.iadd, 1) := by decide +kernel
theorem dX5_see__25 : decode cX5_see_ 25 = .ok (.lload 4, 2) := by decide +kernel
theorem dX5_see__27 : decode cX5_see_ 27 = .ok (.ldc2_w 148, 3) := by decide +kernel
theorem dX5_see__30 : decode cX5_see_ 30 = .ok (.lcmp, 1) := by decide +kernel
theorem dX5_see__31 : decode cX5_see_ 31 = .ok (.ifCond .le 9, 3) := by decide +kernel
theorem dX5_see__34 : decode cX5_see_ 34 = .ok (.ldc2_w 148, 3) := by decide +kernel
theorem dX5_see__37 : decode cX5_see_ 37 = .ok (.goto 5, 3) := by decide +kernel
theorem dX5_see__40 : decode cX5_see_ 40 = .ok (.lload 4, 2) := by decide +kernel
theorem dX5_see__42 : decode cX5_see_ 42 = .ok (.l2i, 1) := by decide +kernel
theorem dX5_see__43 : decode cX5_see_ 43 = .ok (.iastore, 1) := by decide +kernel
theorem dX5_see__44 : decode cX5_see_ 44 = .ok (.return_, 1) := by decide +kernel
theorem dX5_carry_0 : decode cX5_carry 0 = .ok (.aload_n 0, 1) := by decide +kernel
theorem dX5_carry_1 : decode cX5_carry 1 = .ok (.getfield 30, 3) := by decide +kernel
theorem dX5_carry_4 : decode cX5_carry 4 = .ok (.iload_n 1, 1) := by decide +kernel
theorem dX5_carry_5 : decode cX5_carry 5 = .ok (.iaload, 1) := by decide +kernel
theorem dX5_carry_6 : decode cX5_carry 6 = .ok (.i2l, 1) := by decide +kernel
theorem dX5_carry_7 : decode cX5_carry 7 = .ok (.ldc2_w 150, 3) := by decide +kernel
theorem dX5_carry_10 : decode cX5_carry 10 = .ok (.land, 1) := by decide +kernel
theorem dX5_carry_11 : decode cX5_carry 11 = .ok (.lload_n 2, 1) := by decide +kernel
theorem dX5_carry_12 : decode cX5_carry 12 = .ok (.ladd, 1) := by decide +kernel
theorem dX5_carry_13 : decode cX5_carry 13 = .ok (.lload 4, 2) := by decide +kernel
theorem dX5_carry_15 : decode cX5_carry 15 = .ok (.ladd, 1) := by decide +kernel
theorem dX5_carry_16 : decode cX5_carry 16 = .ok (.lstore 6, 2) := by decide +kernel
theorem dX5_carry_18 : decode cX5_carry 18 = .ok (.aload_n 0, 1) := by decide +kernel
theorem dX5_carry_19 : decode cX5_carry 19 = .ok (.getfield 30, 3) := by decide +kernel
theorem dX5_carry_22 : decode cX5_carry 22 = .ok (.iload_n 1, 1) := by decide +kernel
theorem dX5_carry_23 : decode cX5_carry 23 = .ok (.lload 6, 2) := by decide +kernel
theorem dX5_carry_25 : decode cX5_carry 25 = .ok (.l2i, 1) := by decide +kernel
theorem dX5_carry_26 : decode cX5_carry 26 = .ok (.iastore, 1) := by decide +kernel
theorem dX5_carry_27 : decode cX5_carry 27 = .ok (.lload 6, 2) := by decide +kernel
theorem dX5_carry_29 : decode cX5_carry 29 = .ok (.bipush 32, 2) := by decide +kernel
theorem dX5_carry_31 : decode cX5_carry 31 = .ok (.lushr, 1) := by decide +kernel
theorem dX5_carry_32 : decode cX5_carry 32 = .ok (.lreturn, 1) := by decide +kernel
theorem dX5_addBits_0 : decode cX5_addBits 0 = .ok (.iload 6, 2) := by decide +kernel
theorem dX5_addBits_2 : decode cX5_addBits 2 = .ok (.sipush 2148, 3) := by decide +kernel
theorem dX5_addBits_5 : decode cX5_addBits 5 = .ok (.iadd, 1) := by decide +kernel
theorem dX5_addBits_6 : decode cX5_addBits 6 = .ok (.istore 8, 2) := by decide +kernel
theorem dX5_addBits_8 : decode cX5_addBits 8 = .ok (.iload 8, 2) := by decide +kernel
theorem dX5_addBits_10 : decode cX5_addBits 10 = .ok (.bipush 32, 2) := by decide +kernel
theorem dX5_addBits_12 : decode cX5_addBits 12 = .ok (.idiv, 1) := by decide +kernel
theorem dX5_addBits_13 : decode cX5_addBits 13 = .ok (.istore 9, 2) := by decide +kernel
theorem dX5_addBits_15 : decode cX5_addBits 15 = .ok (.iload 8, 2) := by decide +kernel
theorem dX5_addBits_17 : decode cX5_addBits 17 = .ok (.bipush 32, 2) := by decide +kernel
theorem dX5_addBits_19 : decode cX5_addBits 19 = .ok (.irem, 1) := by decide +kernel
theorem dX5_addBits_20 : decode cX5_addBits 20 = .ok (.istore 10, 2) := by decide +kernel
theorem dX5_addBits_22 : decode cX5_addBits 22 = .ok (.iload 7, 2) := by decide +kernel
theorem dX5_addBits_24 : decode cX5_addBits 24 = .ok (.ifCond .eq 7, 3) := by decide +kernel
theorem dX5_addBits_27 : decode cX5_addBits 27 = .ok (.lconst 1, 1) := by decide +kernel
theorem dX5_addBits_28 : decode cX5_addBits 28 = .ok (.goto 4, 3) := by decide +kernel
theorem dX5_addBits_31 : decode cX5_addBits 31 = .ok (.lconst 0, 1) := by decide +kernel
theorem dX5_addBits_32 : decode cX5_addBits 32 = .ok (.lstore 11, 2) := by decide +kernel
theorem dX5_addBits_34 : decode cX5_addBits 34 = .ok (.iconst 0, 1) := by decide +kernel
theorem dX5_addBits_35 : decode cX5_addBits 35 = .ok (.istore 13, 2) := by decide +kernel
theorem dX5_addBits_37 : decode cX5_addBits 37 = .ok (.iload 13, 2) := by decide +kernel
theorem dX5_addBits_39 : decode cX5_addBits 39 = .ok (.sipush 152, 3) := by decide +kernel
theorem dX5_addBits_42 : decode cX5_addBits 42 = .ok (.if_icmp .ge 150, 3) := by decide +kernel
theorem dX5_addBits_45 : decode cX5_addBits 45 = .ok (.lconst 0, 1) := by decide +kernel
theorem dX5_addBits_46 : decode cX5_addBits 46 = .ok (.lstore 14, 2) := by decide +kernel
theorem dX5_addBits_48 : decode cX5_addBits 48 = .ok (.iconst 0, 1) := by decide +kernel
theorem dX5_addBits_49 : decode cX5_addBits 49 = .ok (.istore 16, 2) := by decide +kernel
theorem dX5_addBits_51 : decode cX5_addBits 51 = .ok (.iload 16, 2) := by decide +kernel
theorem dX5_addBits_53 : decode cX5_addBits 53 = .ok (.bipush 32, 2) := by decide +kernel
theorem dX5_addBits_55 : decode cX5_addBits 55 = .ok (.if_icmp .ge 95, 3) := by decide +kernel
theorem dX5_addBits_58 : decode cX5_addBits 58 = .ok (.iload 13, 2) := by decide +kernel
theorem dX5_addBits_60 : decode cX5_addBits 60 = .ok (.iload 9, 2) := by decide +kernel
theorem dX5_addBits_62 : decode cX5_addBits 62 = .ok (.if_icmp .lt 88, 3) := by decide +kernel
theorem dX5_addBits_65 : decode cX5_addBits 65 = .ok (.iload 13, 2) := by decide +kernel
theorem dX5_addBits_67 : decode cX5_addBits 67 = .ok (.iload 9, 2) := by decide +kernel
theorem dX5_addBits_69 : decode cX5_addBits 69 = .ok (.iconst 5, 1) := by decide +kernel
theorem dX5_addBits_70 : decode cX5_addBits 70 = .ok (.iadd, 1) := by decide +kernel
theorem dX5_addBits_71 : decode cX5_addBits 71 = .ok (.if_icmp .ge 79, 3) := by decide +kernel
theorem dX5_addBits_74 : decode cX5_addBits 74 = .ok (.bipush 32, 2) := by decide +kernel
theorem dX5_addBits_76 : decode cX5_addBits 76 = .ok (.iload 13, 2) := by decide +kernel
theorem dX5_addBits_78 : decode cX5_addBits 78 = .ok (.iload 9, 2) := by decide +kernel
theorem dX5_addBits_80 : decode cX5_addBits 80 = .ok (.isub, 1) := by decide +kernel
theorem dX5_addBits_81 : decode cX5_addBits 81 = .ok (.imul, 1) := by decide +kernel
theorem dX5_addBits_82 : decode cX5_addBits 82 = .ok (.iload 16, 2) := by decide +kernel
theorem dX5_addBits_84 : decode cX5_addBits 84 = .ok (.iadd, 1) := by decide +kernel
theorem dX5_addBits_85 : decode cX5_addBits 85 = .ok (.iload 10, 2) := by decide +kernel
theorem dX5_addBits_87 : decode cX5_addBits 87 = .ok (.isub, 1) := by decide +kernel
theorem dX5_addBits_88 : decode cX5_addBits 88 = .ok (.istore 17, 2) := by decide +kernel
theorem dX5_addBits_90 : decode cX5_addBits 90 = .ok (.iload 17, 2) := by decide +kernel
theorem dX5_addBits_92 : decode cX5_addBits 92 = .ok (.ifCond .lt 10, 3) := by decide +kernel
theorem dX5_addBits_95 : decode cX5_addBits 95 = .ok (.iload 17, 2) := by decide +kernel
theorem dX5_addBits_97 : decode cX5_addBits 97 = .ok (.bipush 127, 2) := by decide +kernel
theorem dX5_addBits_99 : decode cX5_addBits 99 = .ok (.if_icmp .le 7, 3) := by decide +kernel
theorem dX5_addBits_102 : decode cX5_addBits 102 = .ok (.lconst 0, 1) := by decide +kernel
theorem dX5_addBits_103 : decode cX5_addBits 103 = .ok (.goto 29, 3) := by decide +kernel
theorem dX5_addBits_106 : decode cX5_addBits 106 = .ok (.iload 17, 2) := by decide +kernel
theorem dX5_addBits_108 : decode cX5_addBits 108 = .ok (.bipush 64, 2) := by decide +kernel
theorem dX5_addBits_110 : decode cX5_addBits 110 = .ok (.if_icmp .ge 13, 3) := by decide +kernel
theorem dX5_addBits_113 : decode cX5_addBits 113 = .ok (.lload 4, 2) := by decide +kernel
theorem dX5_addBits_115 : decode cX5_addBits 115 = .ok (.iload 17, 2) := by decide +kernel
theorem dX5_addBits_117 : decode cX5_addBits 117 = .ok (.lushr, 1) := by decide +kernel
theorem dX5_addBits_118 : decode cX5_addBits 118 = .ok (.lconst 1, 1) := by decide +kernel
theorem dX5_addBits_119 : decode cX5_addBits 119 = .ok (.land, 1) := by decide +kernel
theorem dX5_addBits_120 : decode cX5_addBits 120 = .ok (.goto 12, 3) := by decide +kernel
theorem dX5_addBits_123 : decode cX5_addBits 123 = .ok (.lload_n 2, 1) := by decide +kernel
theorem dX5_addBits_124 : decode cX5_addBits 124 = .ok (.iload 17, 2) := by decide +kernel
theorem dX5_addBits_126 : decode cX5_addBits 126 = .ok (.bipush 64, 2) := by decide +kernel
theorem dX5_addBits_128 : decode cX5_addBits 128 = .ok (.isub, 1) := by decide +kernel
theorem dX5_addBits_129 : decode cX5_addBits 129 = .ok (.lushr, 1) := by decide +kernel
theorem dX5_addBits_130 : decode cX5_addBits 130 = .ok (.lconst 1, 1) := by decide +kernel
theorem dX5_addBits_131 : decode cX5_addBits 131 = .ok (.land, 1) := by decide +kernel
theorem dX5_addBits_132 : decode cX5_addBits 132 = .ok (.lstore 18, 2) := by decide +kernel
theorem dX5_addBits_134 : decode cX5_addBits 134 = .ok (.lload 14, 2) := by decide +kernel
theorem dX5_addBits_136 : decode cX5_addBits 136 = .ok (.lload 18, 2) := by decide +kernel
theorem dX5_addBits_138 : decode cX5_addBits 138 = .ok (.iload 16, 2) := by decide +kernel
theorem dX5_addBits_140 : decode cX5_addBits 140 = .ok (.lshl, 1) := by decide +kernel
theorem dX5_addBits_141 : decode cX5_addBits 141 = .ok (.lor, 1) := by decide +kernel
theorem dX5_addBits_142 : decode cX5_addBits 142 = .ok (.lstore 14, 2) := by decide +kernel
theorem dX5_addBits_144 : decode cX5_addBits 144 = .ok (.iinc 16 1, 3) := by decide +kernel
theorem dX5_addBits_147 : decode cX5_addBits 147 = .ok (.goto (-96), 3) := by decide +kernel
theorem dX5_addBits_150 : decode cX5_addBits 150 = .ok (.aload_n 0, 1) := by decide +kernel
theorem dX5_addBits_151 : decode cX5_addBits 151 = .ok (.sipush 152, 3) := by decide +kernel
theorem dX5_addBits_154 : decode cX5_addBits 154 = .ok (.iload_n 1, 1) := by decide +kernel
theorem dX5_addBits_155 : decode cX5_addBits 155 = .ok (.imul, 1) := by decide +kernel
theorem dX5_addBits_156 : decode cX5_addBits 156 = .ok (.iload 13, 2) := by decide +kernel
theorem dX5_addBits_158 : decode cX5_addBits 158 = .ok (.iadd, 1) := by decide +kernel
theorem dX5_addBits_159 : decode cX5_addBits 159 = .ok (.iload 7, 2) := by decide +kernel
theorem dX5_addBits_161 : decode cX5_addBits 161 = .ok (.ifCond .eq 16, 3) := by decide +kernel
theorem dX5_addBits_164 : decode cX5_addBits 164 = .ok (.lload 14, 2) := by decide +kernel
theorem dX5_addBits_166 : decode cX5_addBits 166 = .ok (.ldc2_w 152, 3) := by decide +kernel
theorem dX5_addBits_169 : decode cX5_addBits 169 = .ok (.lxor, 1) := by decide +kernel
theorem dX5_addBits_170 : decode cX5_addBits 170 = .ok (.ldc2_w 150, 3) := by decide +kernel
theorem dX5_addBits_173 : decode cX5_addBits 173 = .ok (.land, 1) := by decide +kernel
theorem dX5_addBits_174 : decode cX5_addBits 174 = .ok (.goto 5, 3) := by decide +kernel
theorem dX5_addBits_177 : decode cX5_addBits 177 = .ok (.lload 14, 2) := by decide +kernel
theorem dX5_addBits_179 : decode cX5_addBits 179 = .ok (.lload 11, 2) := by decide +kernel
theorem dX5_addBits_181 : decode cX5_addBits 181 = .ok (.invokevirtual 154, 3) := by decide +kernel
theorem dX5_addBits_184 : decode cX5_addBits 184 = .ok (.lstore 11, 2) := by decide +kernel
theorem dX5_addBits_186 : decode cX5_addBits 186 = .ok (.iinc 13 1, 3) := by decide +kernel
theorem dX5_addBits_189 : decode cX5_addBits 189 = .ok (.goto (-152), 3) := by decide +kernel
theorem dX5_addBits_192 : decode cX5_addBits 192 = .ok (.return_, 1) := by decide +kernel
theorem dX5_apart_0 : decode cX5_apart 0 = .ok (.aload_n 0, 1) := by decide +kernel
theorem dX5_apart_1 : decode cX5_apart 1 = .ok (.iconst 0, 1) := by decide +kernel
theorem dX5_apart_2 : decode cX5_apart 2 = .ok (.putfield 158, 3) := by decide +kernel
theorem dX5_apart_5 : decode cX5_apart 5 = .ok (.aload_n 0, 1) := by decide +kernel
theorem dX5_apart_6 : decode cX5_apart 6 = .ok (.iload_n 1, 1) := by decide +kernel
theorem dX5_apart_7 : decode cX5_apart 7 = .ok (.invokevirtual 99, 3) := by decide +kernel
theorem dX5_apart_10 : decode cX5_apart 10 = .ok (.ifCond .ne 51, 3) := by decide +kernel
theorem dX5_apart_13 : decode cX5_apart 13 = .ok (.aload_n 0, 1) := by decide +kernel
theorem dX5_apart_14 : decode cX5_apart 14 = .ok (.aload_n 0, 1) := by decide +kernel
theorem dX5_apart_15 : decode cX5_apart 15 = .ok (.getfield 16, 3) := by decide +kernel
theorem dX5_apart_18 : decode cX5_apart 18 = .ok (.iload_n 2, 1) := by decide +kernel
theorem dX5_apart_19 : decode cX5_apart 19 = .ok (.laload, 1) := by decide +kernel
theorem dX5_apart_20 : decode cX5_apart 20 = .ok (.lconst 0, 1) := by decide +kernel
theorem dX5_apart_21 : decode cX5_apart 21 = .ok (.lcmp, 1) := by decide +kernel
theorem dX5_apart_22 : decode cX5_apart 22 = .ok (.ifCond .ge 7, 3) := by decide +kernel
theorem dX5_apart_25 : decode cX5_apart 25 = .ok (.iconst 1, 1) := by decide +kernel
theorem dX5_apart_26 : decode cX5_apart 26 = .ok (.goto 4, 3) := by decide +kernel
theorem dX5_apart_29 : decode cX5_apart 29 = .ok (.iconst 0, 1) := by decide +kernel
theorem dX5_apart_30 : decode cX5_apart 30 = .ok (.putfield 161, 3) := by decide +kernel
theorem dX5_apart_33 : decode cX5_apart 33 = .ok (.aload_n 0, 1) := by decide +kernel
theorem dX5_apart_34 : decode cX5_apart 34 = .ok (.aload_n 0, 1) := by decide +kernel
theorem dX5_apart_35 : decode cX5_apart 35 = .ok (.getfield 161, 3) := by decide +kernel
theorem dX5_apart_38 : decode cX5_apart 38 = .ok (.ifCond .eq 13, 3) := by decide +kernel
theorem dX5_apart_41 : decode cX5_apart 41 = .ok (.aload_n 0, 1) := by decide +kernel
theorem dX5_apart_42 : decode cX5_apart 42 = .ok (.getfield 16, 3) := by decide +kernel
theorem dX5_apart_45 : decode cX5_apart 45 = .ok (.iload_n 2, 1) := by decide +kernel
theorem dX5_apart_46 : decode cX5_apart 46 = .ok (.laload, 1) := by decide +kernel
theorem dX5_apart_47 : decode cX5_apart 47 = .ok (.lneg, 1) := by decide +kernel
theorem dX5_apart_48 : decode cX5_apart 48 = .ok (.goto 9, 3) := by decide +kernel
theorem dX5_apart_51 : decode cX5_apart 51 = .ok (.aload_n 0, 1) := by decide +kernel
theorem dX5_apart_52 : decode cX5_apart 52 = .ok (.getfield 16, 3) := by decide +kernel
theorem dX5_apart_55 : decode cX5_apart 55 = .ok (.iload_n 2, 1) := by decide +kernel
theorem dX5_apart_56 : decode cX5_apart 56 = .ok (.laload, 1) := by decide +kernel
theorem dX5_apart_57 : decode cX5_apart 57 = .ok (.putfield 165, 3) := by decide +kernel
theorem dX5_apart_60 : decode cX5_apart 60 = .ok (.return_, 1) := by decide +kernel
theorem dX5_apart_61 : decode cX5_apart 61 = .ok (.aload_n 0, 1) := by decide +kernel
theorem dX5_apart_62 : decode cX5_apart 62 = .ok (.aload_n 0, 1) := by decide +kernel
theorem dX5_apart_63 : decode cX5_apart 63 = .ok (.getfield 20, 3) := by decide +kernel
theorem dX5_apart_66 : decode cX5_apart 66 = .ok (.iload_n 2, 1) := by decide +kernel
theorem dX5_apart_67 : decode cX5_apart 67 = .ok (.daload, 1) := by decide +kernel
theorem dX5_apart_68 : decode cX5_apart 68 = .ok (.invokevirtual 169, 3) := by decide +kernel
theorem dX5_apart_71 : decode cX5_apart 71 = .ok (.return_, 1) := by decide +kernel
theorem dX5_apart__0 : decode cX5_apart_ 0 = .ok (.aload_n 0, 1) := by decide +kernel
theorem dX5_apart__1 : decode cX5_apart_ 1 = .ok (.iconst 0, 1) := by decide +kernel
theorem dX5_apart__2 : decode cX5_apart_ 2 = .ok (.putfield 158, 3) := by decide +kernel
theorem dX5_apart__5 : decode cX5_apart_ 5 = .ok (.aload_n 0, 1) := by decide +kernel
theorem dX5_apart__6 : decode cX5_apart_ 6 = .ok (.dload_n 1, 1) := by decide +kernel
theorem dX5_apart__7 : decode cX5_apart_ 7 = .ok (.dconst 0, 1) := by decide +kernel
theorem dX5_apart__8 : decode cX5_apart_ 8 = .ok (.dcmp .g, 1) := by decide +kernel
theorem dX5_apart__9 : decode cX5_apart_ 9 = .ok (.ifCond .ge 7, 3) := by decide +kernel
theorem dX5_apart__12 : decode cX5_apart_ 12 = .ok (.iconst 1, 1) := by decide +kernel
theorem dX5_apart__13 : decode cX5_apart_ 13 = .ok (.goto 4, 3) := by decide +kernel
theorem dX5_apart__16 : decode cX5_apart_ 16 = .ok (.iconst 0, 1) := by decide +kernel
theorem dX5_apart__17 : decode cX5_apart_ 17 = .ok (.putfield 161, 3) := by decide +kernel
theorem dX5_apart__20 : decode cX5_apart_ 20 = .ok (.aload_n 0, 1) := by decide +kernel
theorem dX5_apart__21 : decode cX5_apart_ 21 = .ok (.getfield 161, 3) := by decide +kernel
theorem dX5_apart__24 : decode cX5_apart_ 24 = .ok (.ifCond .eq 8, 3) := by decide +kernel
theorem dX5_apart__27 : decode cX5_apart_ 27 = .ok (.dload_n 1, 1) := by decide +kernel
theorem dX5_apart__28 : decode cX5_apart_ 28 = .ok (.dneg, 1) := by decide +kernel
theorem dX5_apart__29 : decode cX5_apart_ 29 = .ok (.goto 4, 3) := by decide +kernel
theorem dX5_apart__32 : decode cX5_apart_ 32 = .ok (.dload_n 1, 1) := by decide +kernel
theorem dX5_apart__33 : decode cX5_apart_ 33 = .ok (.dstore_n 3, 1) := by decide +kernel
theorem dX5_apart__34 : decode cX5_apart_ 34 = .ok (.dload_n 3, 1) := by decide +kernel
theorem dX5_apart__35 : decode cX5_apart_ 35 = .ok (.ldc2_w 173, 3) := by decide +kernel
theorem dX5_apart__38 : decode cX5_apart_ 38 = .ok (.dcmp .l, 1) := by decide +kernel
theorem dX5_apart__39 : decode cX5_apart_ 39 = .ok (.ifCond .lt 22, 3) := by decide +kernel
theorem dX5_apart__42 : decode cX5_apart_ 42 = .ok (.dload_n 3, 1) := by decide +kernel
theorem dX5_apart__43 : decode cX5_apart_ 43 = .ok (.ldc2_w 75, 3) := by decide +kernel
theorem dX5_apart__46 : decode cX5_apart_ 46 = .ok (.dmul, 1) := by decide +kernel
theorem dX5_apart__47 : decode cX5_apart_ 47 = .ok (.dstore_n 3, 1) := by decide +kernel
theorem dX5_apart__48 : decode cX5_apart_ 48 = .ok (.aload_n 0, 1) := by decide +kernel
theorem dX5_apart__49 : decode cX5_apart_ 49 = .ok (.dup, 1) := by decide +kernel
theorem dX5_apart__50 : decode cX5_apart_ 50 = .ok (.getfield 158, 3) := by decide +kernel
theorem dX5_apart__53 : decode cX5_apart_ 53 = .ok (.iconst 1, 1) := by decide +kernel
theorem dX5_apart__54 : decode cX5_apart_ 54 = .ok (.iadd, 1) := by decide +kernel
theorem dX5_apart__55 : decode cX5_apart_ 55 = .ok (.putfield 158, 3) := by decide +kernel
theorem dX5_apart__58 : decode cX5_apart_ 58 = .ok (.goto (-24), 3) := by decide +kernel
theorem dX5_apart__61 : decode cX5_apart_ 61 = .ok (.dload_n 3, 1) := by decide +kernel
theorem dX5_apart__62 : decode cX5_apart_ 62 = .ok (.dload_n 3, 1) := by decide +kernel
theorem dX5_apart__63 : decode cX5_apart_ 63 = .ok (.d2l, 1) := by decide +kernel
theorem dX5_apart__64 : decode cX5_apart_ 64 = .ok (.l2d, 1) := by decide +kernel
theorem dX5_apart__65 : decode cX5_apart_ 65 = .ok (.dcmp .l, 1) := by decide +kernel
theorem dX5_apart__66 : decode cX5_apart_ 66 = .ok (.ifCond .eq 22, 3) := by decide +kernel
theorem dX5_apart__69 : decode cX5_apart_ 69 = .ok (.dload_n 3, 1) := by decide +kernel
theorem dX5_apart__70 : decode cX5_apart_ 70 = .ok (.ldc2_w 73, 3) := by decide +kernel
theorem dX5_apart__73 : decode cX5_apart_ 73 = .ok (.dmul, 1) := by decide +kernel
theorem dX5_apart__74 : decode cX5_apart_ 74 = .ok (.dstore_n 3, 1) := by decide +kernel
theorem dX5_apart__75 : decode cX5_apart_ 75 = .ok (.aload_n 0, 1) := by decide +kernel
theorem dX5_apart__76 : decode cX5_apart_ 76 = .ok (.dup, 1) := by decide +kernel
theorem dX5_apart__77 : decode cX5_apart_ 77 = .ok (.getfield 158, 3) := by decide +kernel
theorem dX5_apart__80 : decode cX5_apart_ 80 = .ok (.iconst 1, 1) := by decide +kernel
theorem dX5_apart__81 : decode cX5_apart_ 81 = .ok (.isub, 1) := by decide +kernel
theorem dX5_apart__82 : decode cX5_apart_ 82 = .ok (.putfield 158, 3) := by decide +kernel
theorem dX5_apart__85 : decode cX5_apart_ 85 = .ok (.goto (-24), 3) := by decide +kernel
theorem dX5_apart__88 : decode cX5_apart_ 88 = .ok (.aload_n 0, 1) := by decide +kernel
theorem dX5_apart__89 : decode cX5_apart_ 89 = .ok (.dload_n 3, 1) := by decide +kernel
theorem dX5_apart__90 : decode cX5_apart_ 90 = .ok (.d2l, 1) := by decide +kernel
theorem dX5_apart__91 : decode cX5_apart_ 91 = .ok (.putfield 165, 3) := by decide +kernel
theorem dX5_apart__94 : decode cX5_apart_ 94 = .ok (.return_, 1) := by decide +kernel
theorem dX5_sortOf_0 : decode cX5_sortOf 0 = .ok (.aload_n 0, 1) := by decide +kernel
theorem dX5_sortOf_1 : decode cX5_sortOf 1 = .ok (.iload_n 1, 1) := by decide +kernel
theorem dX5_sortOf_2 : decode cX5_sortOf 2 = .ok (.invokevirtual 99, 3) := by decide +kernel
theorem dX5_sortOf_5 : decode cX5_sortOf 5 = .ok (.ifCond .eq 12, 3) := by decide +kernel
theorem dX5_sortOf_8 : decode cX5_sortOf 8 = .ok (.aload_n 0, 1) := by decide +kernel
theorem dX5_sortOf_9 : decode cX5_sortOf 9 = .ok (.getfield 24, 3) := by decide +kernel
theorem dX5_sortOf_12 : decode cX5_sortOf 12 = .ok (.iload_n 2, 1) := by decide +kernel
theorem dX5_sortOf_13 : decode cX5_sortOf 13 = .ok (.iaload, 1) := by decide +kernel
theorem dX5_sortOf_14 : decode cX5_sortOf 14 = .ok (.goto 4, 3) := by decide +kernel
theorem dX5_sortOf_17 : decode cX5_sortOf 17 = .ok (.iconst 0, 1) := by decide +kernel
theorem dX5_sortOf_18 : decode cX5_sortOf 18 = .ok (.ireturn, 1) := by decide +kernel
theorem dX5_isZero_0 : decode cX5_isZero 0 = .ok (.aload_n 0, 1) := by decide +kernel
theorem dX5_isZero_1 : decode cX5_isZero 1 = .ok (.iload_n 1, 1) := by decide +kernel
theorem dX5_isZero_2 : decode cX5_isZero 2 = .ok (.invokevirtual 99, 3) := by decide +kernel
theorem dX5_isZero_5 : decode cX5_isZero 5 = .ok (.ifCond .eq 31, 3) := by decide +kernel
theorem dX5_isZero_8 : decode cX5_isZero 8 = .ok (.aload_n 0, 1) := by decide +kernel
theorem dX5_isZero_9 : decode cX5_isZero 9 = .ok (.getfield 24, 3) := by decide +kernel
theorem dX5_isZero_12 : decode cX5_isZero 12 = .ok (.iload_n 2, 1) := by decide +kernel
theorem dX5_isZero_13 : decode cX5_isZero 13 = .ok (.iaload, 1) := by decide +kernel
theorem dX5_isZero_14 : decode cX5_isZero 14 = .ok (.ifCond .ne 18, 3) := by decide +kernel
theorem dX5_isZero_17 : decode cX5_isZero 17 = .ok (.aload_n 0, 1) := by decide +kernel
theorem dX5_isZero_18 : decode cX5_isZero 18 = .ok (.getfield 20, 3) := by decide +kernel
theorem dX5_isZero_21 : decode cX5_isZero 21 = .ok (.iload_n 2, 1) := by decide +kernel
theorem dX5_isZero_22 : decode cX5_isZero 22 = .ok (.daload, 1) := by decide +kernel
theorem dX5_isZero_23 : decode cX5_isZero 23 = .ok (.dconst 0, 1) := by decide +kernel
theorem dX5_isZero_24 : decode cX5_isZero 24 = .ok (.dcmp .l, 1) := by decide +kernel
theorem dX5_isZero_25 : decode cX5_isZero 25 = .ok (.ifCond .ne 7, 3) := by decide +kernel
theorem dX5_isZero_28 : decode cX5_isZero 28 = .ok (.iconst 1, 1) := by decide +kernel
theorem dX5_isZero_29 : decode cX5_isZero 29 = .ok (.goto 23, 3) := by decide +kernel
theorem dX5_isZero_32 : decode cX5_isZero 32 = .ok (.iconst 0, 1) := by decide +kernel
theorem dX5_isZero_33 : decode cX5_isZero 33 = .ok (.goto 19, 3) := by decide +kernel
theorem dX5_isZero_36 : decode cX5_isZero 36 = .ok (.aload_n 0, 1) := by decide +kernel
theorem dX5_isZero_37 : decode cX5_isZero 37 = .ok (.getfield 16, 3) := by decide +kernel
theorem dX5_isZero_40 : decode cX5_isZero 40 = .ok (.iload_n 2, 1) := by decide +kernel
theorem dX5_isZero_41 : decode cX5_isZero 41 = .ok (.laload, 1) := by decide +kernel
theorem dX5_isZero_42 : decode cX5_isZero 42 = .ok (.lconst 0, 1) := by decide +kernel
theorem dX5_isZero_43 : decode cX5_isZero 43 = .ok (.lcmp, 1) := by decide +kernel
theorem dX5_isZero_44 : decode cX5_isZero 44 = .ok (.ifCond .ne 7, 3) := by decide +kernel
theorem dX5_isZero_47 : decode cX5_isZero 47 = .ok (.iconst 1, 1) := by decide +kernel
theorem dX5_isZero_48 : decode cX5_isZero 48 = .ok (.goto 4, 3) := by decide +kernel
theorem dX5_isZero_51 : decode cX5_isZero 51 = .ok (.iconst 0, 1) := by decide +kernel
theorem dX5_isZero_52 : decode cX5_isZero 52 = .ok (.ireturn, 1) := by decide +kernel
theorem dX5_isBelow_0 : decode cX5_isBelow 0 = .ok (.aload_n 0, 1) := by decide +kernel
theorem dX5_isBelow_1 : decode cX5_isBelow 1 = .ok (.iload_n 1, 1) := by decide +kernel
theorem dX5_isBelow_2 : decode cX5_isBelow 2 = .ok (.invokevirtual 99, 3) := by decide +kernel
theorem dX5_isBelow_5 : decode cX5_isBelow 5 = .ok (.ifCond .eq 41, 3) := by decide +kernel
theorem dX5_isBelow_8 : decode cX5_isBelow 8 = .ok (.aload_n 0, 1) := by decide +kernel
theorem dX5_isBelow_9 : decode cX5_isBelow 9 = .ok (.getfield 24, 3) := by decide +kernel
theorem dX5_isBelow_12 : decode cX5_isBelow 12 = .ok (.iload_n 2, 1) := by decide +kernel
theorem dX5_isBelow_13 : decode cX5_isBelow 13 = .ok (.iaload, 1) := by decide +kernel
theorem dX5_isBelow_14 : decode cX5_isBelow 14 = .ok (.iconst 2, 1) := by decide +kernel
theorem dX5_isBelow_15 : decode cX5_isBelow 15 = .ok (.if_icmp .eq 23, 3) := by decide +kernel
theorem dX5_isBelow_18 : decode cX5_isBelow 18 = .ok (.aload_n 0, 1) := by decide +kernel
theorem dX5_isBelow_19 : decode cX5_isBelow 19 = .ok (.getfield 24, 3) := by decide +kernel
theorem dX5_isBelow_22 : decode cX5_isBelow 22 = .ok (.iload_n 2, 1) := by decide +kernel
theorem dX5_isBelow_23 : decode cX5_isBelow 23 = .ok (.iaload, 1) := by decide +kernel
theorem dX5_isBelow_24 : decode cX5_isBelow 24 = .ok (.ifCond .ne 18, 3) := by decide +kernel
theorem dX5_isBelow_27 : decode cX5_isBelow 27 = .ok (.aload_n 0, 1) := by decide +kernel
theorem dX5_isBelow_28 : decode cX5_isBelow 28 = .ok (.getfield 20, 3) := by decide +kernel
theorem dX5_isBelow_31 : decode cX5_isBelow 31 = .ok (.iload_n 2, 1) := by decide +kernel
theorem dX5_isBelow_32 : decode cX5_isBelow 32 = .ok (.daload, 1) := by decide +kernel
theorem dX5_isBelow_33 : decode cX5_isBelow 33 = .ok (.dconst 0, 1) := by decide +kernel
theorem dX5_isBelow_34 : decode cX5_isBelow 34 = .ok (.dcmp .g, 1) := by decide +kernel
theorem dX5_isBelow_35 : decode cX5_isBelow 35 = .ok (.ifCond .ge 7, 3) := by decide +kernel
theorem dX5_isBelow_38 : decode cX5_isBelow 38 = .ok (.iconst 1, 1) := by decide +kernel
theorem dX5_isBelow_39 : decode cX5_isBelow 39 = .ok (.goto 23, 3) := by decide +kernel
theorem dX5_isBelow_42 : decode cX5_isBelow 42 = .ok (.iconst 0, 1) := by decide +kernel
theorem dX5_isBelow_43 : decode cX5_isBelow 43 = .ok (.goto 19, 3) := by decide +kernel
theorem dX5_isBelow_46 : decode cX5_isBelow 46 = .ok (.aload_n 0, 1) := by decide +kernel
theorem dX5_isBelow_47 : decode cX5_isBelow 47 = .ok (.getfield 16, 3) := by decide +kernel
theorem dX5_isBelow_50 : decode cX5_isBelow 50 = .ok (.iload_n 2, 1) := by decide +kernel
theorem dX5_isBelow_51 : decode cX5_isBelow 51 = .ok (.laload, 1) := by decide +kernel
theorem dX5_isBelow_52 : decode cX5_isBelow 52 = .ok (.lconst 0, 1) := by decide +kernel
theorem dX5_isBelow_53 : decode cX5_isBelow 53 = .ok (.lcmp, 1) := by decide +kernel
theorem dX5_isBelow_54 : decode cX5_isBelow 54 = .ok (.ifCond .ge 7, 3) := by decide +kernel
theorem dX5_isBelow_57 : decode cX5_isBelow 57 = .ok (.iconst 1, 1) := by decide +kernel
theorem dX5_isBelow_58 : decode cX5_isBelow 58 = .ok (.goto 4, 3) := by decide +kernel
theorem dX5_isBelow_61 : decode cX5_isBelow 61 = .ok (.iconst 0, 1) := by decide +kernel
theorem dX5_isBelow_62 : decode cX5_isBelow 62 = .ok (.ireturn, 1) := by decide +kernel
theorem dX5_endless_0 : decode cX5_endless 0 = .ok (.aload_n 0, 1) := by decide +kernel
theorem dX5_endless_1 : decode cX5_endless 1 = .ok (.iload_n 1, 1) := by decide +kernel
theorem dX5_endless_2 : decode cX5_endless 2 = .ok (.iload_n 2, 1) := by decide +kernel
theorem dX5_endless_3 : decode cX5_endless 3 = .ok (.iload_n 3, 1) := by decide +kernel
theorem dX5_endless_4 : decode cX5_endless 4 = .ok (.if_icmp .eq 7, 3) := by decide +kernel
theorem dX5_endless_7 : decode cX5_endless 7 = .ok (.iconst 2, 1) := by decide +kernel
theorem dX5_endless_8 : decode cX5_endless 8 = .ok (.goto 4, 3) := by decide +kernel
theorem dX5_endless_11 : decode cX5_endless 11 = .ok (.iconst 1, 1) := by decide +kernel
theorem dX5_endless_12 : decode cX5_endless 12 = .ok (.iconst 1, 1) := by decide +kernel
theorem dX5_endless_13 : decode cX5_endless 13 = .ok (.invokevirtual 175, 3) := by decide +kernel
theorem dX5_endless_16 : decode cX5_endless 16 = .ok (.return_, 1) := by decide +kernel
theorem dX5_addPlace_0 : decode cX5_addPlace 0 = .ok (.aload_n 0, 1) := by decide +kernel
theorem dX5_addPlace_1 : decode cX5_addPlace 1 = .ok (.iload_n 2, 1) := by decide +kernel
theorem dX5_addPlace_2 : decode cX5_addPlace 2 = .ok (.iload_n 3, 1) := by decide +kernel
theorem dX5_addPlace_3 : decode cX5_addPlace 3 = .ok (.invokevirtual 179, 3) := by decide +kernel
theorem dX5_addPlace_6 : decode cX5_addPlace 6 = .ok (.istore 5, 2) := by decide +kernel
theorem dX5_addPlace_8 : decode cX5_addPlace 8 = .ok (.iload 5, 2) := by decide +kernel
theorem dX5_addPlace_10 : decode cX5_addPlace 10 = .ok (.iconst 3, 1) := by decide +kernel
theorem dX5_addPlace_11 : decode cX5_addPlace 11 = .ok (.if_icmp .ne 13, 3) := by decide +kernel
theorem dX5_addPlace_14 : decode cX5_addPlace 14 = .ok (.aload_n 0, 1) := by decide +kernel
theorem dX5_addPlace_15 : decode cX5_addPlace 15 = .ok (.iload_n 1, 1) := by decide +kernel
theorem dX5_addPlace_16 : decode cX5_addPlace 16 = .ok (.iconst 0, 1) := by decide +kernel
theorem dX5_addPlace_17 : decode cX5_addPlace 17 = .ok (.iconst 1, 1) := by decide +kernel
theorem dX5_addPlace_18 : decode cX5_addPlace 18 = .ok (.invokevirtual 175, 3) := by decide +kernel
theorem dX5_addPlace_21 : decode cX5_addPlace 21 = .ok (.goto 63, 3) := by decide +kernel
theorem dX5_addPlace_24 : decode cX5_addPlace 24 = .ok (.iload 5, 2) := by decide +kernel
theorem dX5_addPlace_26 : decode cX5_addPlace 26 = .ok (.ifCond .eq 24, 3) := by decide +kernel
theorem dX5_addPlace_29 : decode cX5_addPlace 29 = .ok (.aload_n 0, 1) := by decide +kernel
theorem dX5_addPlace_30 : decode cX5_addPlace 30 = .ok (.iload_n 1, 1) := by decide +kernel
theorem dX5_addPlace_31 : decode cX5_addPlace 31 = .ok (.iload 5, 2) := by decide +kernel
theorem dX5_addPlace_33 : decode cX5_addPlace 33 = .ok (.iconst 2, 1) := by decide +kernel
theorem dX5_addPlace_34 : decode cX5_addPlace 34 = .ok (.if_icmp .ne 7, 3) := by decide +kernel
theorem dX5_addPlace_37 : decode cX5_addPlace 37 = .ok (.iconst 1, 1) := by decide +kernel
theorem dX5_addPlace_38 : decode cX5_addPlace 38 = .ok (.goto 4, 3) := by decide +kernel
theorem dX5_addPlace_41 : decode cX5_addPlace 41 = .ok (.iconst 0, 1) := by decide +kernel
theorem dX5_addPlace_42 : decode cX5_addPlace 42 = .ok (.iload 4, 2) := by decide +kernel
theorem dX5_addPlace_44 : decode cX5_addPlace 44 = .ok (.invokevirtual 183, 3) := by decide +kernel
theorem dX5_addPlace_47 : decode cX5_addPlace 47 = .ok (.goto 37, 3) := by decide +kernel
theorem dX5_addPlace_50 : decode cX5_addPlace 50 = .ok (.aload_n 0, 1) := by decide +kernel
theorem dX5_addPlace_51 : decode cX5_addPlace 51 = .ok (.iload_n 2, 1) := by decide +kernel
theorem dX5_addPlace_52 : decode cX5_addPlace 52 = .ok (.iload_n 3, 1) := by decide +kernel
theorem dX5_addPlace_53 : decode cX5_addPlace 53 = .ok (.invokevirtual 187, 3) := by decide +kernel
theorem dX5_addPlace_56 : decode cX5_addPlace 56 = .ok (.aload_n 0, 1) := by decide +kernel
theorem dX5_addPlace_57 : decode cX5_addPlace 57 = .ok (.iload_n 1, 1) := by decide +kernel
theorem dX5_addPlace_58 : decode cX5_addPlace 58 = .ok (.lconst 0, 1) := by decide +kernel
theorem dX5_addPlace_59 : decode cX5_addPlace 59 = .ok (.aload_n 0, 1) := by decide +kernel
theorem dX5_addPlace_60 : decode cX5_addPlace 60 = .ok (.getfield 165, 3) := by decide +kernel
theorem dX5_addPlace_63 : decode cX5_addPlace 63 = .ok (.aload_n 0, 1) := by decide +kernel
theorem dX5_addPlace_64 : decode cX5_addPlace 64 = .ok (.getfield 158, 3) := by decide +kernel
theorem dX5_addPlace_67 : decode cX5_addPlace 67 = .ok (.aload_n 0, 1) := by decide +kernel
theorem dX5_addPlace_68 : decode cX5_addPlace 68 = .ok (.getfield 161, 3) := by decide +kernel
theorem dX5_addPlace_71 : decode cX5_addPlace 71 = .ok (.iload 4, 2) := by decide +kernel
theorem dX5_addPlace_73 : decode cX5_addPlace 73 = .ok (.if_icmp .eq 7, 3) := by decide +kernel
theorem dX5_addPlace_76 : decode cX5_addPlace 76 = .ok (.iconst 1, 1) := by decide +kernel
theorem dX5_addPlace_77 : decode cX5_addPlace 77 = .ok (.goto 4, 3) := by decide +kernel
theorem dX5_addPlace_80 : decode cX5_addPlace 80 = .ok (.iconst 0, 1) := by decide +kernel
theorem dX5_addPlace_81 : decode cX5_addPlace 81 = .ok (.invokevirtual 190, 3) := by decide +kernel
theorem dX5_addPlace_84 : decode cX5_addPlace 84 = .ok (.return_, 1) := by decide +kernel
theorem dX5_addProduct_0 : decode cX5_addProduct 0 = .ok (.aload_n 0, 1) := by decide +kernel
theorem dX5_addProduct_1 : decode cX5_addProduct 1 = .ok (.iload_n 2, 1) := by decide +kernel
theorem dX5_addProduct_2 : decode cX5_addProduct 2 = .ok (.iload_n 3, 1) := by decide +kernel
theorem dX5_addProduct_3 : decode cX5_addProduct 3 = .ok (.invokevirtual 179, 3) := by decide +kernel
theorem dX5_addProduct_6 : decode cX5_addProduct 6 = .ok (.istore 7, 2) := by decide +kernel
theorem dX5_addProduct_8 : decode cX5_addProduct 8 = .ok (.aload_n 0, 1) := by decide +kernel
theorem dX5_addProduct_9 : decode cX5_addProduct 9 = .ok (.iload 4, 2) := by decide +kernel
theorem dX5_addProduct_11 : decode cX5_addProduct 11 = .ok (.iload 5, 2) := by decide +kernel
theorem dX5_addProduct_13 : decode cX5_addProduct 13 = .ok (.invokevirtual 179, 3) := by decide +kernel
theorem dX5_addProduct_16 : decode cX5_addProduct 16 = .ok (.istore 8, 2) := by decide +kernel
theorem dX5_addProduct_18 : decode cX5_addProduct 18 = .ok (.iload 7, 2) := by decide +kernel
theorem dX5_addProduct_20 : decode cX5_addProduct 20 = .ok (.iconst 3, 1) := by decide +kernel
theorem dX5_addProduct_21 : decode cX5_addProduct 21 = .ok (.if_icmp .eq 39, 3) := by decide +kernel
theorem dX5_addProduct_24 : decode cX5_addProduct 24 = .ok (.iload 8, 2) := by decide +kernel
theorem dX5_addProduct_26 : decode cX5_addProduct 26 = .ok (.iconst 3, 1) := by decide +kernel
theorem dX5_addProduct_27 : decode cX5_addProduct 27 = .ok (.if_icmp .eq 33, 3) := by decide +kernel
theorem dX5_addProduct_30 : decode cX5_addProduct 30 = .ok (.iload 7, 2) := by decide +kernel
theorem dX5_addProduct_32 : decode cX5_addProduct 32 = .ok (.ifCond .eq 14, 3) := by decide +kernel
theorem dX5_addProduct_35 : decode cX5_addProduct 35 = .ok (.aload_n 0, 1) := by decide +kernel
theorem dX5_addProduct_36 : decode cX5_addProduct 36 = .ok (.iload 4, 2) := by decide +kernel
theorem dX5_addProduct_38 : decode cX5_addProduct 38 = .ok (.iload 5, 2) := by decide +kernel
theorem dX5_addProduct_40 : decode cX5_addProduct 40 = .ok (.invokevirtual 194, 3) := by decide +kernel
theorem dX5_addProduct_43 : decode cX5_addProduct 43 = .ok (.ifCond .ne 17, 3) := by decide +kernel
theorem dX5_addProduct_46 : decode cX5_addProduct 46 = .ok (.iload 8, 2) := by decide +kernel
theorem dX5_addProduct_48 : decode cX5_addProduct 48 = .ok (.ifCond .eq 16, 3) := by decide +kernel
theorem dX5_addProduct_51 : decode cX5_addProduct 51 = .ok (.aload_n 0, 1) := by decide +kernel
theorem dX5_addProduct_52 : decode cX5_addProduct 52 = .ok (.iload_n 2, 1) := by decide +kernel
theorem dX5_addProduct_53 : decode cX5_addProduct 53 = .ok (.iload_n 3, 1) := by decide +kernel
theorem dX5_addProduct_54 : decode cX5_addProduct 54 = .ok (.invokevirtual 194, 3) := by decide +kernel
theorem dX5_addProduct_57 : decode cX5_addProduct 57 = .ok (.ifCond .eq 7, 3) := by decide +kernel
theorem dX5_addProduct_60 : decode cX5_addProduct 60 = .ok (.iconst 1, 1) := by decide +kernel
theorem dX5_addProduct_61 : decode cX5_addProduct 61 = .ok (.goto 4, 3) := by decide +kernel
theorem dX5_addProduct_64 : decode cX5_addProduct 64 = .ok (.iconst 0, 1) := by decide +kernel
theorem dX5_addProduct_65 : decode cX5_addProduct 65 = .ok (.istore 9, 2) := by decide +kernel
theorem dX5_addProduct_67 : decode cX5_addProduct 67 = .ok (.iload 9, 2) := by decide +kernel
theorem dX5_addProduct_69 : decode cX5_addProduct 69 = .ok (.ifCond .eq 13, 3) := by decide +kernel
theorem dX5_addProduct_72 : decode cX5_addProduct 72 = .ok (.aload_n 0, 1) := by decide +kernel
theorem dX5_addProduct_73 : decode cX5_addProduct 73 = .ok (.iload_n 1, 1) := by decide +kernel
theorem dX5_addProduct_74 : decode cX5_addProduct 74 = .ok (.iconst 0, 1) := by decide +kernel
theorem dX5_addProduct_75 : decode cX5_addProduct 75 = .ok (.iconst 1, 1) := by decide +kernel
theorem dX5_addProduct_76 : decode cX5_addProduct 76 = .ok (.invokevirtual 175, 3) := by decide +kernel
theorem dX5_addProduct_79 : decode cX5_addProduct 79 = .ok (.goto 165, 3) := by decide +kernel
theorem dX5_addProduct_82 : decode cX5_addProduct 82 = .ok (.iload 7, 2) := by decide +kernel
theorem dX5_addProduct_84 : decode cX5_addProduct 84 = .ok (.ifCond .ne 8, 3) := by decide +kernel
theorem dX5_addProduct_87 : decode cX5_addProduct 87 = .ok (.iload 8, 2) := by decide +kernel
theorem dX5_addProduct_89 : decode cX5_addProduct 89 = .ok (.ifCond .eq 35, 3) := by decide +kernel
theorem dX5_addProduct_92 : decode cX5_addProduct 92 = .ok (.aload_n 0, 1) := by decide +kernel
theorem dX5_addProduct_93 : decode cX5_addProduct 93 = .ok (.iload_n 1, 1) := by decide +kernel
theorem dX5_addProduct_94 : decode cX5_addProduct 94 = .ok (.aload_n 0, 1) := by decide +kernel
theorem dX5_addProduct_95 : decode cX5_addProduct 95 = .ok (.iload_n 2, 1) := by decide +kernel
theorem dX5_addProduct_96 : decode cX5_addProduct 96 = .ok (.iload_n 3, 1) := by decide +kernel
theorem dX5_addProduct_97 : decode cX5_addProduct 97 = .ok (.invokevirtual 197, 3) := by decide +kernel
theorem dX5_addProduct_100 : decode cX5_addProduct 100 = .ok (.aload_n 0, 1) := by decide +kernel
theorem dX5_addProduct_101 : decode cX5_addProduct 101 = .ok (.iload 4, 2) := by decide +kernel
theorem dX5_addProduct_103 : decode cX5_addProduct 103 = .ok (.iload 5, 2) := by decide +kernel
theorem dX5_addProduct_105 : decode cX5_addProduct 105 = .ok (.invokevirtual 197, 3) := by decide +kernel
theorem dX5_addProduct_108 : decode cX5_addProduct 108 = .ok (.if_icmp .eq 7, 3) := by decide +kernel
theorem dX5_addProduct_111 : decode cX5_addProduct 111 = .ok (.iconst 1, 1) := by decide +kernel
theorem dX5_addProduct_112 : decode cX5_addProduct 112 = .ok (.goto 4, 3) := by decide +kernel
theorem dX5_addProduct_115 : decode cX5_addProduct 115 = .ok (.iconst 0, 1) := by decide +kernel
theorem dX5_addProduct_116 : decode cX5_addProduct 116 = .ok (.iload 6, 2) := by decide +kernel
theorem dX5_addProduct_118 : decode cX5_addProduct 118 = .ok (.invokevirtual 183, 3) := by decide +kernel
theorem dX5_addProduct_121 : decode cX5_addProduct 121 = .ok (.goto 123, 3) := by decide +kernel
theorem dX5_addProduct_124 : decode cX5_addProduct 124 = .ok (.aload_n 0, 1) := by decide +kernel
theorem dX5_addProduct_125 : decode cX5_addProduct 125 = .ok (.iload_n 2, 1) := by decide +kernel
theorem dX5_addProduct_126 : decode cX5_addProduct 126 = .ok (.iload_n 3, 1) := by decide +kernel
theorem dX5_addProduct_127 : decode cX5_addProduct 127 = .ok (.invokevirtual 187, 3) := by decide +kernel
theorem dX5_addProduct_130 : decode cX5_addProduct 130 = .ok (.aload_n 0, 1) := by decide +kernel
theorem dX5_addProduct_131 : decode cX5_addProduct 131 = .ok (.getfield 165, 3) := by decide +kernel
theorem dX5_addProduct_134 : decode cX5_addProduct 134 = .ok (.lstore 10, 2) := by decide +kernel
theorem dX5_addProduct_136 : decode cX5_addProduct 136 = .ok (.aload_n 0, 1) := by decide +kernel
theorem dX5_addProduct_137 : decode cX5_addProduct 137 = .ok (.getfield 158, 3) := by decide +kernel
theorem dX5_addProduct_140 : decode cX5_addProduct 140 = .ok (.istore 12, 2) := by decide +kernel
theorem dX5_addProduct_142 : decode cX5_addProduct 142 = .ok (.aload_n 0, 1) := by decide +kernel
theorem dX5_addProduct_143 : decode cX5_addProduct 143 = .ok (.getfield 161, 3) := by decide +kernel
theorem dX5_addProduct_146 : decode cX5_addProduct 146 = .ok (.istore 13, 2) := by decide +kernel
theorem dX5_addProduct_148 : decode cX5_addProduct 148 = .ok (.aload_n 0, 1) := by decide +kernel
theorem dX5_addProduct_149 : decode cX5_addProduct 149 = .ok (.iload 4, 2) := by decide +kernel
theorem dX5_addProduct_151 : decode cX5_addProduct 151 = .ok (.iload 5, 2) := by decide +kernel
theorem dX5_addProduct_153 : decode cX5_addProduct 153 = .ok (.invokevirtual 187, 3) := by decide +kernel
theorem dX5_addProduct_156 : decode cX5_addProduct 156 = .ok (.lload 10, 2) := by decide +kernel
theorem dX5_addProduct_158 : decode cX5_addProduct 158 = .ok (.aload_n 0, 1) := by decide +kernel
theorem dX5_addProduct_159 : decode cX5_addProduct 159 = .ok (.getfield 165, 3) := by decide +kernel
theorem dX5_addProduct_162 : decode cX5_addProduct 162 = .ok (.invokestatic 200, 3) := by decide +kernel
theorem dX5_addProduct_165 : decode cX5_addProduct 165 = .ok (.lload 10, 2) := by decide +kernel
theorem dX5_addProduct_167 : decode cX5_addProduct 167 = .ok (.lconst 0, 1) := by decide +kernel
theorem dX5_addProduct_168 : decode cX5_addProduct 168 = .ok (.lcmp, 1) := by decide +kernel
theorem dX5_addProduct_169 : decode cX5_addProduct 169 = .ok (.ifCond .ge 10, 3) := by decide +kernel
theorem dX5_addProduct_172 : decode cX5_addProduct 172 = .ok (.aload_n 0, 1) := by decide +kernel
theorem dX5_addProduct_173 : decode cX5_addProduct 173 = .ok (.getfield 165, 3) := by decide +kernel
theorem dX5_addProduct_176 : decode cX5_addProduct 176 = .ok (.goto 4, 3) := by decide +kernel
theorem dX5_addProduct_179 : decode cX5_addProduct 179 = .ok (.lconst 0, 1) := by decide +kernel
theorem dX5_addProduct_180 : decode cX5_addProduct 180 = .ok (.ladd, 1) := by decide +kernel
theorem dX5_addProduct_181 : decode cX5_addProduct 181 = .ok (.aload_n 0, 1) := by decide +kernel
theorem dX5_addProduct_182 : decode cX5_addProduct 182 = .ok (.getfield 165, 3) := by decide +kernel
theorem dX5_addProduct_185 : decode cX5_addProduct 185 = .ok (.lconst 0, 1) := by decide +kernel
theorem dX5_addProduct_186 : decode cX5_addProduct 186 = .ok (.lcmp, 1) := by decide +kernel
theorem dX5_addProduct_187 : decode cX5_addProduct 187 = .ok (.ifCond .ge 8, 3) := by decide +kernel
theorem dX5_addProduct_190 : decode cX5_addProduct 190 = .ok (.lload 10, 2) := by decide +kernel
theorem dX5_addProduct_192 : decode cX5_addProduct 192 = .ok (.goto 4, 3) := by decide +kernel
theorem dX5_addProduct_195 : decode cX5_addProduct 195 = .ok (.lconst 0, 1) := by decide +kernel
theorem dX5_addProduct_196 : decode cX5_addProduct 196 = .ok (.ladd, 1) := by decide +kernel
theorem dX5_addProduct_197 : decode cX5_addProduct 197 = .ok (.lstore 14, 2) := by decide +kernel
theorem dX5_addProduct_199 : decode cX5_addProduct 199 = .ok (.aload_n 0, 1) := by decide +kernel
theorem dX5_addProduct_200 : decode cX5_addProduct 200 = .ok (.iload_n 1, 1) := by decide +kernel
theorem dX5_addProduct_201 : decode cX5_addProduct 201 = .ok (.lload 14, 2) := by decide +kernel
theorem dX5_addProduct_203 : decode cX5_addProduct 203 = .ok (.lload 10, 2) := by decide +kernel
theorem dX5_addProduct_205 : decode cX5_addProduct 205 = .ok (.aload_n 0, 1) := by decide +kernel
theorem dX5_addProduct_206 : decode cX5_addProduct 206 = .ok (.getfield 165, 3) := by decide +kernel
theorem dX5_addProduct_209 : decode cX5_addProduct 209 = .ok (.lmul, 1) := by decide +kernel
theorem dX5_addProduct_210 : decode cX5_addProduct 210 = .ok (.iload 12, 2) := by decide +kernel
theorem dX5_addProduct_212 : decode cX5_addProduct 212 = .ok (.aload_n 0, 1) := by decide +kernel
theorem dX5_addProduct_213 : decode cX5_addProduct 213 = .ok (.getfield 158, 3) := by decide +kernel
theorem dX5_addProduct_216 : decode cX5_addProduct 216 = .ok (.iadd, 1) := by decide +kernel
theorem dX5_addProduct_217 : decode cX5_addProduct 217 = .ok (.iload 13, 2) := by decide +kernel
theorem dX5_addProduct_219 : decode cX5_addProduct 219 = .ok (.aload_n 0, 1) := by decide +kernel
theorem dX5_addProduct_220 : decode cX5_addProduct 220 = .ok (.getfield 161, 3) := by decide +kernel
theorem dX5_addProduct_223 : decode cX5_addProduct 223 = .ok (.if_icmp .eq 7, 3) := by decide +kernel
theorem dX5_addProduct_226 : decode cX5_addProduct 226 = .ok (.iconst 1, 1) := by decide +kernel
theorem dX5_addProduct_227 : decode cX5_addProduct 227 = .ok (.goto 4, 3) := by decide +kernel
theorem dX5_addProduct_230 : decode cX5_addProduct 230 = .ok (.iconst 0, 1) := by decide +kernel
theorem dX5_addProduct_231 : decode cX5_addProduct 231 = .ok (.iload 6, 2) := by decide +kernel
theorem dX5_addProduct_233 : decode cX5_addProduct 233 = .ok (.if_icmp .eq 7, 3) := by decide +kernel
theorem dX5_addProduct_236 : decode cX5_addProduct 236 = .ok (.iconst 1, 1) := by decide +kernel
theorem dX5_addProduct_237 : decode cX5_addProduct 237 = .ok (.goto 4, 3) := by decide +kernel
theorem dX5_addProduct_240 : decode cX5_addProduct 240 = .ok (.iconst 0, 1) := by decide +kernel
theorem dX5_addProduct_241 : decode cX5_addProduct 241 = .ok (.invokevirtual 190, 3) := by decide +kernel
theorem dX5_addProduct_244 : decode cX5_addProduct 244 = .ok (.return_, 1) := by decide +kernel
theorem dX5_sizeOf_0 : decode cX5_sizeOf 0 = .ok (.iload_n 0, 1) := by decide +kernel
theorem dX5_sizeOf_1 : decode cX5_sizeOf 1 = .ok (.ifCond .ge 8, 3) := by decide +kernel
theorem dX5_sizeOf_4 : decode cX5_sizeOf 4 = .ok (.iload_n 0, 1) := by decide +kernel
theorem dX5_sizeOf_5 : decode cX5_sizeOf 5 = .ok (.ineg, 1) := by decide +kernel
theorem dX5_sizeOf_6 : decode cX5_sizeOf 6 = .ok (.goto 4, 3) := by decide +kernel
theorem dX5_sizeOf_9 : decode cX5_sizeOf 9 = .ok (.iload_n 0, 1) := by decide +kernel
end
section
theorem dX5_sizeOf_10 : decode cX5_sizeOf 10 = .ok (.ireturn, 1) := by decide +kernel
theorem dX5_add_0 : decode cX5_add 0 = .ok (.aload_n 0, 1) := by decide +kernel
theorem dX5_add_1 : decode cX5_add 1 = .ok (.iconst 0, 1) := by decide +kernel
theorem dX5_add_2 : decode cX5_add 2 = .ok (.putfield 54, 3) := by decide +kernel
theorem dX5_add_5 : decode cX5_add 5 = .ok (.iload_n 1, 1) := by decide +kernel
theorem dX5_add_6 : decode cX5_add 6 = .ok (.invokestatic 136, 3) := by decide +kernel
theorem dX5_add_9 : decode cX5_add 9 = .ok (.ifCond .eq 25, 3) := by decide +kernel
theorem dX5_add_12 : decode cX5_add 12 = .ok (.iload_n 2, 1) := by decide +kernel
theorem dX5_add_13 : decode cX5_add 13 = .ok (.invokestatic 64, 3) := by decide +kernel
theorem dX5_add_16 : decode cX5_add 16 = .ok (.ifCond .eq 18, 3) := by decide +kernel
theorem dX5_add_19 : decode cX5_add 19 = .ok (.iload 4, 2) := by decide +kernel
theorem dX5_add_21 : decode cX5_add 21 = .ok (.i2l, 1) := by decide +kernel
theorem dX5_add_22 : decode cX5_add 22 = .ok (.ldc2_w 206, 3) := by decide +kernel
theorem dX5_add_25 : decode cX5_add 25 = .ok (.ldc2_w 208, 3) := by decide +kernel
theorem dX5_add_28 : decode cX5_add 28 = .ok (.invokestatic 60, 3) := by decide +kernel
theorem dX5_add_31 : decode cX5_add 31 = .ok (.ifCond .ne 6, 3) := by decide +kernel
theorem dX5_add_34 : decode cX5_add 34 = .ok (.bipush (-3), 2) := by decide +kernel
theorem dX5_add_36 : decode cX5_add 36 = .ok (.ireturn, 1) := by decide +kernel
theorem dX5_add_37 : decode cX5_add 37 = .ok (.aload_n 0, 1) := by decide +kernel
theorem dX5_add_38 : decode cX5_add 38 = .ok (.getfield 27, 3) := by decide +kernel
theorem dX5_add_41 : decode cX5_add 41 = .ok (.iload_n 1, 1) := by decide +kernel
theorem dX5_add_42 : decode cX5_add 42 = .ok (.iaload, 1) := by decide +kernel
theorem dX5_add_43 : decode cX5_add 43 = .ok (.iconst (-1), 1) := by decide +kernel
theorem dX5_add_44 : decode cX5_add 44 = .ok (.if_icmp .eq 11, 3) := by decide +kernel
theorem dX5_add_47 : decode cX5_add 47 = .ok (.aload_n 0, 1) := by decide +kernel
theorem dX5_add_48 : decode cX5_add 48 = .ok (.iload_n 2, 1) := by decide +kernel
theorem dX5_add_49 : decode cX5_add 49 = .ok (.invokevirtual 70, 3) := by decide +kernel
theorem dX5_add_52 : decode cX5_add 52 = .ok (.ifCond .ne 6, 3) := by decide +kernel
theorem dX5_add_55 : decode cX5_add 55 = .ok (.bipush (-11), 2) := by decide +kernel
theorem dX5_add_57 : decode cX5_add 57 = .ok (.ireturn, 1) := by decide +kernel
theorem dX5_add_58 : decode cX5_add 58 = .ok (.aload_n 0, 1) := by decide +kernel
theorem dX5_add_59 : decode cX5_add 59 = .ok (.getfield 27, 3) := by decide +kernel
theorem dX5_add_62 : decode cX5_add 62 = .ok (.iload_n 1, 1) := by decide +kernel
theorem dX5_add_63 : decode cX5_add 63 = .ok (.iaload, 1) := by decide +kernel
theorem dX5_add_64 : decode cX5_add 64 = .ok (.iconst 1, 1) := by decide +kernel
theorem dX5_add_65 : decode cX5_add 65 = .ok (.if_icmp .ne 6, 3) := by decide +kernel
theorem dX5_add_68 : decode cX5_add 68 = .ok (.bipush (-12), 2) := by decide +kernel
theorem dX5_add_70 : decode cX5_add 70 = .ok (.ireturn, 1) := by decide +kernel
theorem dX5_add_71 : decode cX5_add 71 = .ok (.iload 4, 2) := by decide +kernel
theorem dX5_add_73 : decode cX5_add 73 = .ok (.invokestatic 210, 3) := by decide +kernel
theorem dX5_add_76 : decode cX5_add 76 = .ok (.istore 5, 2) := by decide +kernel
theorem dX5_add_78 : decode cX5_add 78 = .ok (.aload_n 0, 1) := by decide +kernel
theorem dX5_add_79 : decode cX5_add 79 = .ok (.iload_n 2, 1) := by decide +kernel
theorem dX5_add_80 : decode cX5_add 80 = .ok (.iload_n 3, 1) := by decide +kernel
theorem dX5_add_81 : decode cX5_add 81 = .ok (.iload 5, 2) := by decide +kernel
theorem dX5_add_83 : decode cX5_add 83 = .ok (.invokevirtual 106, 3) := by decide +kernel
theorem dX5_add_86 : decode cX5_add 86 = .ok (.ifCond .ne 6, 3) := by decide +kernel
theorem dX5_add_89 : decode cX5_add 89 = .ok (.bipush (-13), 2) := by decide +kernel
theorem dX5_add_91 : decode cX5_add 91 = .ok (.ireturn, 1) := by decide +kernel
theorem dX5_add_92 : decode cX5_add 92 = .ok (.aload_n 0, 1) := by decide +kernel
theorem dX5_add_93 : decode cX5_add 93 = .ok (.iload_n 1, 1) := by decide +kernel
theorem dX5_add_94 : decode cX5_add 94 = .ok (.invokevirtual 141, 3) := by decide +kernel
theorem dX5_add_97 : decode cX5_add 97 = .ok (.iconst 0, 1) := by decide +kernel
theorem dX5_add_98 : decode cX5_add 98 = .ok (.istore 6, 2) := by decide +kernel
theorem dX5_add_100 : decode cX5_add 100 = .ok (.iload 6, 2) := by decide +kernel
theorem dX5_add_102 : decode cX5_add 102 = .ok (.iload 5, 2) := by decide +kernel
theorem dX5_add_104 : decode cX5_add 104 = .ok (.if_icmp .ge 72, 3) := by decide +kernel
theorem dX5_add_107 : decode cX5_add 107 = .ok (.bipush 40, 2) := by decide +kernel
theorem dX5_add_109 : decode cX5_add 109 = .ok (.iload_n 2, 1) := by decide +kernel
theorem dX5_add_110 : decode cX5_add 110 = .ok (.imul, 1) := by decide +kernel
theorem dX5_add_111 : decode cX5_add 111 = .ok (.iload_n 3, 1) := by decide +kernel
theorem dX5_add_112 : decode cX5_add 112 = .ok (.iadd, 1) := by decide +kernel
theorem dX5_add_113 : decode cX5_add 113 = .ok (.iload 6, 2) := by decide +kernel
theorem dX5_add_115 : decode cX5_add 115 = .ok (.iadd, 1) := by decide +kernel
theorem dX5_add_116 : decode cX5_add 116 = .ok (.istore 7, 2) := by decide +kernel
theorem dX5_add_118 : decode cX5_add 118 = .ok (.aload_n 0, 1) := by decide +kernel
theorem dX5_add_119 : decode cX5_add 119 = .ok (.getfield 27, 3) := by decide +kernel
theorem dX5_add_122 : decode cX5_add 122 = .ok (.iload_n 1, 1) := by decide +kernel
theorem dX5_add_123 : decode cX5_add 123 = .ok (.iaload, 1) := by decide +kernel
theorem dX5_add_124 : decode cX5_add 124 = .ok (.iconst 2, 1) := by decide +kernel
theorem dX5_add_125 : decode cX5_add 125 = .ok (.if_icmp .ne 27, 3) := by decide +kernel
theorem dX5_add_128 : decode cX5_add 128 = .ok (.aload_n 0, 1) := by decide +kernel
theorem dX5_add_129 : decode cX5_add 129 = .ok (.iload_n 1, 1) := by decide +kernel
theorem dX5_add_130 : decode cX5_add 130 = .ok (.iload_n 2, 1) := by decide +kernel
theorem dX5_add_131 : decode cX5_add 131 = .ok (.iload 7, 2) := by decide +kernel
theorem dX5_add_133 : decode cX5_add 133 = .ok (.iload_n 2, 1) := by decide +kernel
theorem dX5_add_134 : decode cX5_add 134 = .ok (.iload 7, 2) := by decide +kernel
theorem dX5_add_136 : decode cX5_add 136 = .ok (.iload 4, 2) := by decide +kernel
theorem dX5_add_138 : decode cX5_add 138 = .ok (.ifCond .ge 7, 3) := by decide +kernel
theorem dX5_add_141 : decode cX5_add 141 = .ok (.iconst 1, 1) := by decide +kernel
theorem dX5_add_142 : decode cX5_add 142 = .ok (.goto 4, 3) := by decide +kernel
theorem dX5_add_145 : decode cX5_add 145 = .ok (.iconst 0, 1) := by decide +kernel
theorem dX5_add_146 : decode cX5_add 146 = .ok (.invokevirtual 214, 3) := by decide +kernel
theorem dX5_add_149 : decode cX5_add 149 = .ok (.goto 21, 3) := by decide +kernel
theorem dX5_add_152 : decode cX5_add 152 = .ok (.aload_n 0, 1) := by decide +kernel
theorem dX5_add_153 : decode cX5_add 153 = .ok (.iload_n 1, 1) := by decide +kernel
theorem dX5_add_154 : decode cX5_add 154 = .ok (.iload_n 2, 1) := by decide +kernel
theorem dX5_add_155 : decode cX5_add 155 = .ok (.iload 7, 2) := by decide +kernel
theorem dX5_add_157 : decode cX5_add 157 = .ok (.iload 4, 2) := by decide +kernel
theorem dX5_add_159 : decode cX5_add 159 = .ok (.ifCond .ge 7, 3) := by decide +kernel
theorem dX5_add_162 : decode cX5_add 162 = .ok (.iconst 1, 1) := by decide +kernel
theorem dX5_add_163 : decode cX5_add 163 = .ok (.goto 4, 3) := by decide +kernel
theorem dX5_add_166 : decode cX5_add 166 = .ok (.iconst 0, 1) := by decide +kernel
theorem dX5_add_167 : decode cX5_add 167 = .ok (.invokevirtual 218, 3) := by decide +kernel
theorem dX5_add_170 : decode cX5_add 170 = .ok (.iinc 6 1, 3) := by decide +kernel
theorem dX5_add_173 : decode cX5_add 173 = .ok (.goto (-73), 3) := by decide +kernel
theorem dX5_add_176 : decode cX5_add 176 = .ok (.aload_n 0, 1) := by decide +kernel
theorem dX5_add_177 : decode cX5_add 177 = .ok (.dup, 1) := by decide +kernel
theorem dX5_add_178 : decode cX5_add 178 = .ok (.getfield 222, 3) := by decide +kernel
theorem dX5_add_181 : decode cX5_add 181 = .ok (.iload 5, 2) := by decide +kernel
theorem dX5_add_183 : decode cX5_add 183 = .ok (.iadd, 1) := by decide +kernel
theorem dX5_add_184 : decode cX5_add 184 = .ok (.putfield 222, 3) := by decide +kernel
theorem dX5_add_187 : decode cX5_add 187 = .ok (.iload 5, 2) := by decide +kernel
theorem dX5_add_189 : decode cX5_add 189 = .ok (.ireturn, 1) := by decide +kernel
theorem dX5_pair_0 : decode cX5_pair 0 = .ok (.aload_n 0, 1) := by decide +kernel
theorem dX5_pair_1 : decode cX5_pair 1 = .ok (.iconst 0, 1) := by decide +kernel
theorem dX5_pair_2 : decode cX5_pair 2 = .ok (.putfield 54, 3) := by decide +kernel
theorem dX5_pair_5 : decode cX5_pair 5 = .ok (.iload_n 1, 1) := by decide +kernel
theorem dX5_pair_6 : decode cX5_pair 6 = .ok (.invokestatic 136, 3) := by decide +kernel
theorem dX5_pair_9 : decode cX5_pair 9 = .ok (.ifCond .eq 32, 3) := by decide +kernel
theorem dX5_pair_12 : decode cX5_pair 12 = .ok (.iload_n 2, 1) := by decide +kernel
theorem dX5_pair_13 : decode cX5_pair 13 = .ok (.invokestatic 64, 3) := by decide +kernel
theorem dX5_pair_16 : decode cX5_pair 16 = .ok (.ifCond .eq 25, 3) := by decide +kernel
theorem dX5_pair_19 : decode cX5_pair 19 = .ok (.iload_n 3, 1) := by decide +kernel
theorem dX5_pair_20 : decode cX5_pair 20 = .ok (.invokestatic 64, 3) := by decide +kernel
theorem dX5_pair_23 : decode cX5_pair 23 = .ok (.ifCond .eq 18, 3) := by decide +kernel
theorem dX5_pair_26 : decode cX5_pair 26 = .ok (.iload 5, 2) := by decide +kernel
theorem dX5_pair_28 : decode cX5_pair 28 = .ok (.i2l, 1) := by decide +kernel
theorem dX5_pair_29 : decode cX5_pair 29 = .ok (.ldc2_w 206, 3) := by decide +kernel
theorem dX5_pair_32 : decode cX5_pair 32 = .ok (.ldc2_w 208, 3) := by decide +kernel
theorem dX5_pair_35 : decode cX5_pair 35 = .ok (.invokestatic 60, 3) := by decide +kernel
theorem dX5_pair_38 : decode cX5_pair 38 = .ok (.ifCond .ne 6, 3) := by decide +kernel
theorem dX5_pair_41 : decode cX5_pair 41 = .ok (.bipush (-3), 2) := by decide +kernel
theorem dX5_pair_43 : decode cX5_pair 43 = .ok (.ireturn, 1) := by decide +kernel
theorem dX5_pair_44 : decode cX5_pair 44 = .ok (.aload_n 0, 1) := by decide +kernel
theorem dX5_pair_45 : decode cX5_pair 45 = .ok (.getfield 27, 3) := by decide +kernel
theorem dX5_pair_48 : decode cX5_pair 48 = .ok (.iload_n 1, 1) := by decide +kernel
theorem dX5_pair_49 : decode cX5_pair 49 = .ok (.iaload, 1) := by decide +kernel
theorem dX5_pair_50 : decode cX5_pair 50 = .ok (.iconst (-1), 1) := by decide +kernel
theorem dX5_pair_51 : decode cX5_pair 51 = .ok (.if_icmp .eq 19, 3) := by decide +kernel
theorem dX5_pair_54 : decode cX5_pair 54 = .ok (.aload_n 0, 1) := by decide +kernel
theorem dX5_pair_55 : decode cX5_pair 55 = .ok (.iload_n 2, 1) := by decide +kernel
theorem dX5_pair_56 : decode cX5_pair 56 = .ok (.invokevirtual 70, 3) := by decide +kernel
theorem dX5_pair_59 : decode cX5_pair 59 = .ok (.ifCond .eq 11, 3) := by decide +kernel
theorem dX5_pair_62 : decode cX5_pair 62 = .ok (.aload_n 0, 1) := by decide +kernel
theorem dX5_pair_63 : decode cX5_pair 63 = .ok (.iload_n 3, 1) := by decide +kernel
theorem dX5_pair_64 : decode cX5_pair 64 = .ok (.invokevirtual 70, 3) := by decide +kernel
theorem dX5_pair_67 : decode cX5_pair 67 = .ok (.ifCond .ne 6, 3) := by decide +kernel
theorem dX5_pair_70 : decode cX5_pair 70 = .ok (.bipush (-11), 2) := by decide +kernel
theorem dX5_pair_72 : decode cX5_pair 72 = .ok (.ireturn, 1) := by decide +kernel
theorem dX5_pair_73 : decode cX5_pair 73 = .ok (.aload_n 0, 1) := by decide +kernel
theorem dX5_pair_74 : decode cX5_pair 74 = .ok (.getfield 27, 3) := by decide +kernel
theorem dX5_pair_77 : decode cX5_pair 77 = .ok (.iload_n 1, 1) := by decide +kernel
theorem dX5_pair_78 : decode cX5_pair 78 = .ok (.iaload, 1) := by decide +kernel
theorem dX5_pair_79 : decode cX5_pair 79 = .ok (.ifCond .ne 6, 3) := by decide +kernel
theorem dX5_pair_82 : decode cX5_pair 82 = .ok (.bipush (-12), 2) := by decide +kernel
theorem dX5_pair_84 : decode cX5_pair 84 = .ok (.ireturn, 1) := by decide +kernel
theorem dX5_pair_85 : decode cX5_pair 85 = .ok (.iload 5, 2) := by decide +kernel
theorem dX5_pair_87 : decode cX5_pair 87 = .ok (.invokestatic 210, 3) := by decide +kernel
theorem dX5_pair_90 : decode cX5_pair 90 = .ok (.istore 6, 2) := by decide +kernel
theorem dX5_pair_92 : decode cX5_pair 92 = .ok (.aload_n 0, 1) := by decide +kernel
theorem dX5_pair_93 : decode cX5_pair 93 = .ok (.iload_n 2, 1) := by decide +kernel
theorem dX5_pair_94 : decode cX5_pair 94 = .ok (.iload 4, 2) := by decide +kernel
theorem dX5_pair_96 : decode cX5_pair 96 = .ok (.iload 6, 2) := by decide +kernel
theorem dX5_pair_98 : decode cX5_pair 98 = .ok (.invokevirtual 106, 3) := by decide +kernel
theorem dX5_pair_101 : decode cX5_pair 101 = .ok (.ifCond .eq 15, 3) := by decide +kernel
theorem dX5_pair_104 : decode cX5_pair 104 = .ok (.aload_n 0, 1) := by decide +kernel
theorem dX5_pair_105 : decode cX5_pair 105 = .ok (.iload_n 3, 1) := by decide +kernel
theorem dX5_pair_106 : decode cX5_pair 106 = .ok (.iload 4, 2) := by decide +kernel
theorem dX5_pair_108 : decode cX5_pair 108 = .ok (.iload 6, 2) := by decide +kernel
theorem dX5_pair_110 : decode cX5_pair 110 = .ok (.invokevirtual 106, 3) := by decide +kernel
theorem dX5_pair_113 : decode cX5_pair 113 = .ok (.ifCond .ne 6, 3) := by decide +kernel
theorem dX5_pair_116 : decode cX5_pair 116 = .ok (.bipush (-13), 2) := by decide +kernel
theorem dX5_pair_118 : decode cX5_pair 118 = .ok (.ireturn, 1) := by decide +kernel
theorem dX5_pair_119 : decode cX5_pair 119 = .ok (.aload_n 0, 1) := by decide +kernel
theorem dX5_pair_120 : decode cX5_pair 120 = .ok (.iload_n 1, 1) := by decide +kernel
theorem dX5_pair_121 : decode cX5_pair 121 = .ok (.invokevirtual 141, 3) := by decide +kernel
theorem dX5_pair_124 : decode cX5_pair 124 = .ok (.iconst 0, 1) := by decide +kernel
theorem dX5_pair_125 : decode cX5_pair 125 = .ok (.istore 7, 2) := by decide +kernel
theorem dX5_pair_127 : decode cX5_pair 127 = .ok (.iload 7, 2) := by decide +kernel
theorem dX5_pair_129 : decode cX5_pair 129 = .ok (.iload 6, 2) := by decide +kernel
theorem dX5_pair_131 : decode cX5_pair 131 = .ok (.if_icmp .ge 46, 3) := by decide +kernel
theorem dX5_pair_134 : decode cX5_pair 134 = .ok (.aload_n 0, 1) := by decide +kernel
theorem dX5_pair_135 : decode cX5_pair 135 = .ok (.iload_n 1, 1) := by decide +kernel
theorem dX5_pair_136 : decode cX5_pair 136 = .ok (.iload_n 2, 1) := by decide +kernel
theorem dX5_pair_137 : decode cX5_pair 137 = .ok (.bipush 40, 2) := by decide +kernel
theorem dX5_pair_139 : decode cX5_pair 139 = .ok (.iload_n 2, 1) := by decide +kernel
theorem dX5_pair_140 : decode cX5_pair 140 = .ok (.imul, 1) := by decide +kernel
theorem dX5_pair_141 : decode cX5_pair 141 = .ok (.iload 4, 2) := by decide +kernel
theorem dX5_pair_143 : decode cX5_pair 143 = .ok (.iadd, 1) := by decide +kernel
theorem dX5_pair_144 : decode cX5_pair 144 = .ok (.iload 7, 2) := by decide +kernel
theorem dX5_pair_146 : decode cX5_pair 146 = .ok (.iadd, 1) := by decide +kernel
theorem dX5_pair_147 : decode cX5_pair 147 = .ok (.iload_n 3, 1) := by decide +kernel
theorem dX5_pair_148 : decode cX5_pair 148 = .ok (.bipush 40, 2) := by decide +kernel
theorem dX5_pair_150 : decode cX5_pair 150 = .ok (.iload_n 3, 1) := by decide +kernel
theorem dX5_pair_151 : decode cX5_pair 151 = .ok (.imul, 1) := by decide +kernel
theorem dX5_pair_152 : decode cX5_pair 152 = .ok (.iload 4, 2) := by decide +kernel
theorem dX5_pair_154 : decode cX5_pair 154 = .ok (.iadd, 1) := by decide +kernel
theorem dX5_pair_155 : decode cX5_pair 155 = .ok (.iload 7, 2) := by decide +kernel
theorem dX5_pair_157 : decode cX5_pair 157 = .ok (.iadd, 1) := by decide +kernel
theorem dX5_pair_158 : decode cX5_pair 158 = .ok (.iload 5, 2) := by decide +kernel
theorem dX5_pair_160 : decode cX5_pair 160 = .ok (.ifCond .ge 7, 3) := by decide +kernel
theorem dX5_pair_163 : decode cX5_pair 163 = .ok (.iconst 1, 1) := by decide +kernel
theorem dX5_pair_164 : decode cX5_pair 164 = .ok (.goto 4, 3) := by decide +kernel
theorem dX5_pair_167 : decode cX5_pair 167 = .ok (.iconst 0, 1) := by decide +kernel
theorem dX5_pair_168 : decode cX5_pair 168 = .ok (.invokevirtual 214, 3) := by decide +kernel
theorem dX5_pair_171 : decode cX5_pair 171 = .ok (.iinc 7 1, 3) := by decide +kernel
theorem dX5_pair_174 : decode cX5_pair 174 = .ok (.goto (-47), 3) := by decide +kernel
theorem dX5_pair_177 : decode cX5_pair 177 = .ok (.aload_n 0, 1) := by decide +kernel
theorem dX5_pair_178 : decode cX5_pair 178 = .ok (.dup, 1) := by decide +kernel
theorem dX5_pair_179 : decode cX5_pair 179 = .ok (.getfield 222, 3) := by decide +kernel
theorem dX5_pair_182 : decode cX5_pair 182 = .ok (.iload 6, 2) := by decide +kernel
theorem dX5_pair_184 : decode cX5_pair 184 = .ok (.iadd, 1) := by decide +kernel
theorem dX5_pair_185 : decode cX5_pair 185 = .ok (.putfield 222, 3) := by decide +kernel
theorem dX5_pair_188 : decode cX5_pair 188 = .ok (.iload 6, 2) := by decide +kernel
theorem dX5_pair_190 : decode cX5_pair 190 = .ok (.ireturn, 1) := by decide +kernel
theorem dX5_merge_0 : decode cX5_merge 0 = .ok (.aload_n 0, 1) := by decide +kernel
theorem dX5_merge_1 : decode cX5_merge 1 = .ok (.iconst 0, 1) := by decide +kernel
theorem dX5_merge_2 : decode cX5_merge 2 = .ok (.putfield 54, 3) := by decide +kernel
theorem dX5_merge_5 : decode cX5_merge 5 = .ok (.iload_n 1, 1) := by decide +kernel
theorem dX5_merge_6 : decode cX5_merge 6 = .ok (.invokestatic 136, 3) := by decide +kernel
theorem dX5_merge_9 : decode cX5_merge 9 = .ok (.ifCond .eq 10, 3) := by decide +kernel
theorem dX5_merge_12 : decode cX5_merge 12 = .ok (.iload_n 2, 1) := by decide +kernel
theorem dX5_merge_13 : decode cX5_merge 13 = .ok (.invokestatic 136, 3) := by decide +kernel
theorem dX5_merge_16 : decode cX5_merge 16 = .ok (.ifCond .ne 6, 3) := by decide +kernel
theorem dX5_merge_19 : decode cX5_merge 19 = .ok (.bipush (-3), 2) := by decide +kernel
theorem dX5_merge_21 : decode cX5_merge 21 = .ok (.ireturn, 1) := by decide +kernel
theorem dX5_merge_22 : decode cX5_merge 22 = .ok (.aload_n 0, 1) := by decide +kernel
theorem dX5_merge_23 : decode cX5_merge 23 = .ok (.getfield 27, 3) := by decide +kernel
theorem dX5_merge_26 : decode cX5_merge 26 = .ok (.iload_n 1, 1) := by decide +kernel
theorem dX5_merge_27 : decode cX5_merge 27 = .ok (.iaload, 1) := by decide +kernel
theorem dX5_merge_28 : decode cX5_merge 28 = .ok (.iconst (-1), 1) := by decide +kernel
theorem dX5_merge_29 : decode cX5_merge 29 = .ok (.if_icmp .eq 13, 3) := by decide +kernel
theorem dX5_merge_32 : decode cX5_merge 32 = .ok (.aload_n 0, 1) := by decide +kernel
theorem dX5_merge_33 : decode cX5_merge 33 = .ok (.getfield 27, 3) := by decide +kernel
theorem dX5_merge_36 : decode cX5_merge 36 = .ok (.iload_n 2, 1) := by decide +kernel
theorem dX5_merge_37 : decode cX5_merge 37 = .ok (.iaload, 1) := by decide +kernel
theorem dX5_merge_38 : decode cX5_merge 38 = .ok (.iconst (-1), 1) := by decide +kernel
theorem dX5_merge_39 : decode cX5_merge 39 = .ok (.if_icmp .ne 6, 3) := by decide +kernel
theorem dX5_merge_42 : decode cX5_merge 42 = .ok (.bipush (-11), 2) := by decide +kernel
theorem dX5_merge_44 : decode cX5_merge 44 = .ok (.ireturn, 1) := by decide +kernel
theorem dX5_merge_45 : decode cX5_merge 45 = .ok (.aload_n 0, 1) := by decide +kernel
theorem dX5_merge_46 : decode cX5_merge 46 = .ok (.getfield 27, 3) := by decide +kernel
theorem dX5_merge_49 : decode cX5_merge 49 = .ok (.iload_n 1, 1) := by decide +kernel
theorem dX5_merge_50 : decode cX5_merge 50 = .ok (.iaload, 1) := by decide +kernel
theorem dX5_merge_51 : decode cX5_merge 51 = .ok (.ifCond .ne 7, 3) := by decide +kernel
theorem dX5_merge_54 : decode cX5_merge 54 = .ok (.iconst 1, 1) := by decide +kernel
theorem dX5_merge_55 : decode cX5_merge 55 = .ok (.goto 4, 3) := by decide +kernel
theorem dX5_merge_58 : decode cX5_merge 58 = .ok (.iconst 0, 1) := by decide +kernel
theorem dX5_merge_59 : decode cX5_merge 59 = .ok (.aload_n 0, 1) := by decide +kernel
theorem dX5_merge_60 : decode cX5_merge 60 = .ok (.getfield 27, 3) := by decide +kernel
theorem dX5_merge_63 : decode cX5_merge 63 = .ok (.iload_n 2, 1) := by decide +kernel
theorem dX5_merge_64 : decode cX5_merge 64 = .ok (.iaload, 1) := by decide +kernel
theorem dX5_merge_65 : decode cX5_merge 65 = .ok (.ifCond .ne 7, 3) := by decide +kernel
theorem dX5_merge_68 : decode cX5_merge 68 = .ok (.iconst 1, 1) := by decide +kernel
theorem dX5_merge_69 : decode cX5_merge 69 = .ok (.goto 4, 3) := by decide +kernel
theorem dX5_merge_72 : decode cX5_merge 72 = .ok (.iconst 0, 1) := by decide +kernel
theorem dX5_merge_73 : decode cX5_merge 73 = .ok (.if_icmp .eq 6, 3) := by decide +kernel
theorem dX5_merge_76 : decode cX5_merge 76 = .ok (.bipush (-12), 2) := by decide +kernel
theorem dX5_merge_78 : decode cX5_merge 78 = .ok (.ireturn, 1) := by decide +kernel
theorem dX5_merge_79 : decode cX5_merge 79 = .ok (.aload_n 0, 1) := by decide +kernel
theorem dX5_merge_80 : decode cX5_merge 80 = .ok (.iload_n 1, 1) := by decide +kernel
theorem dX5_merge_81 : decode cX5_merge 81 = .ok (.invokevirtual 141, 3) := by decide +kernel
theorem dX5_merge_84 : decode cX5_merge 84 = .ok (.lconst 0, 1) := by decide +kernel
theorem dX5_merge_85 : decode cX5_merge 85 = .ok (.lstore_n 3, 1) := by decide +kernel
theorem dX5_merge_86 : decode cX5_merge 86 = .ok (.iconst 0, 1) := by decide +kernel
theorem dX5_merge_87 : decode cX5_merge 87 = .ok (.istore 5, 2) := by decide +kernel
theorem dX5_merge_89 : decode cX5_merge 89 = .ok (.iload 5, 2) := by decide +kernel
theorem dX5_merge_91 : decode cX5_merge 91 = .ok (.sipush 152, 3) := by decide +kernel
theorem dX5_merge_94 : decode cX5_merge 94 = .ok (.if_icmp .ge 41, 3) := by decide +kernel
theorem dX5_merge_97 : decode cX5_merge 97 = .ok (.aload_n 0, 1) := by decide +kernel
theorem dX5_merge_98 : decode cX5_merge 98 = .ok (.sipush 152, 3) := by decide +kernel
theorem dX5_merge_101 : decode cX5_merge 101 = .ok (.iload_n 1, 1) := by decide +kernel
theorem dX5_merge_102 : decode cX5_merge 102 = .ok (.imul, 1) := by decide +kernel
theorem dX5_merge_103 : decode cX5_merge 103 = .ok (.iload 5, 2) := by decide +kernel
theorem dX5_merge_105 : decode cX5_merge 105 = .ok (.iadd, 1) := by decide +kernel
theorem dX5_merge_106 : decode cX5_merge 106 = .ok (.aload_n 0, 1) := by decide +kernel
theorem dX5_merge_107 : decode cX5_merge 107 = .ok (.getfield 30, 3) := by decide +kernel
theorem dX5_merge_110 : decode cX5_merge 110 = .ok (.sipush 152, 3) := by decide +kernel
theorem dX5_merge_113 : decode cX5_merge 113 = .ok (.iload_n 2, 1) := by decide +kernel
theorem dX5_merge_114 : decode cX5_merge 114 = .ok (.imul, 1) := by decide +kernel
theorem dX5_merge_115 : decode cX5_merge 115 = .ok (.iload 5, 2) := by decide +kernel
theorem dX5_merge_117 : decode cX5_merge 117 = .ok (.iadd, 1) := by decide +kernel
theorem dX5_merge_118 : decode cX5_merge 118 = .ok (.iaload, 1) := by decide +kernel
theorem dX5_merge_119 : decode cX5_merge 119 = .ok (.i2l, 1) := by decide +kernel
theorem dX5_merge_120 : decode cX5_merge 120 = .ok (.ldc2_w 150, 3) := by decide +kernel
theorem dX5_merge_123 : decode cX5_merge 123 = .ok (.land, 1) := by decide +kernel
theorem dX5_merge_124 : decode cX5_merge 124 = .ok (.lload_n 3, 1) := by decide +kernel
theorem dX5_merge_125 : decode cX5_merge 125 = .ok (.invokevirtual 154, 3) := by decide +kernel
theorem dX5_merge_128 : decode cX5_merge 128 = .ok (.lstore_n 3, 1) := by decide +kernel
theorem dX5_merge_129 : decode cX5_merge 129 = .ok (.iinc 5 1, 3) := by decide +kernel
theorem dX5_merge_132 : decode cX5_merge 132 = .ok (.goto (-43), 3) := by decide +kernel
theorem dX5_merge_135 : decode cX5_merge 135 = .ok (.iconst 0, 1) := by decide +kernel
theorem dX5_merge_136 : decode cX5_merge 136 = .ok (.istore 5, 2) := by decide +kernel
theorem dX5_merge_138 : decode cX5_merge 138 = .ok (.iload 5, 2) := by decide +kernel
theorem dX5_merge_140 : decode cX5_merge 140 = .ok (.iconst 3, 1) := by decide +kernel
theorem dX5_merge_141 : decode cX5_merge 141 = .ok (.if_icmp .ge 27, 3) := by decide +kernel
theorem dX5_merge_144 : decode cX5_merge 144 = .ok (.aload_n 0, 1) := by decide +kernel
theorem dX5_merge_145 : decode cX5_merge 145 = .ok (.iload_n 1, 1) := by decide +kernel
theorem dX5_merge_146 : decode cX5_merge 146 = .ok (.iload 5, 2) := by decide +kernel
theorem dX5_merge_148 : decode cX5_merge 148 = .ok (.aload_n 0, 1) := by decide +kernel
theorem dX5_merge_149 : decode cX5_merge 149 = .ok (.getfield 33, 3) := by decide +kernel
theorem dX5_merge_152 : decode cX5_merge 152 = .ok (.iconst 3, 1) := by decide +kernel
theorem dX5_merge_153 : decode cX5_merge 153 = .ok (.iload_n 2, 1) := by decide +kernel
theorem dX5_merge_154 : decode cX5_merge 154 = .ok (.imul, 1) := by decide +kernel
theorem dX5_merge_155 : decode cX5_merge 155 = .ok (.iload 5, 2) := by decide +kernel
theorem dX5_merge_157 : decode cX5_merge 157 = .ok (.iadd, 1) := by decide +kernel
theorem dX5_merge_158 : decode cX5_merge 158 = .ok (.iaload, 1) := by decide +kernel
theorem dX5_merge_159 : decode cX5_merge 159 = .ok (.invokevirtual 175, 3) := by decide +kernel
theorem dX5_merge_162 : decode cX5_merge 162 = .ok (.iinc 5 1, 3) := by decide +kernel
theorem dX5_merge_165 : decode cX5_merge 165 = .ok (.goto (-27), 3) := by decide +kernel
theorem dX5_merge_168 : decode cX5_merge 168 = .ok (.iconst 0, 1) := by decide +kernel
theorem dX5_merge_169 : decode cX5_merge 169 = .ok (.ireturn, 1) := by decide +kernel
theorem dX5_clear_0 : decode cX5_clear 0 = .ok (.aload_n 0, 1) := by decide +kernel
theorem dX5_clear_1 : decode cX5_clear 1 = .ok (.iconst 0, 1) := by decide +kernel
theorem dX5_clear_2 : decode cX5_clear 2 = .ok (.putfield 54, 3) := by decide +kernel
theorem dX5_clear_5 : decode cX5_clear 5 = .ok (.iload_n 1, 1) := by decide +kernel
theorem dX5_clear_6 : decode cX5_clear 6 = .ok (.invokestatic 136, 3) := by decide +kernel
theorem dX5_clear_9 : decode cX5_clear 9 = .ok (.ifCond .ne 6, 3) := by decide +kernel
theorem dX5_clear_12 : decode cX5_clear 12 = .ok (.bipush (-3), 2) := by decide +kernel
theorem dX5_clear_14 : decode cX5_clear 14 = .ok (.ireturn, 1) := by decide +kernel
theorem dX5_clear_15 : decode cX5_clear 15 = .ok (.aload_n 0, 1) := by decide +kernel
theorem dX5_clear_16 : decode cX5_clear 16 = .ok (.getfield 27, 3) := by decide +kernel
theorem dX5_clear_19 : decode cX5_clear 19 = .ok (.iload_n 1, 1) := by decide +kernel
theorem dX5_clear_20 : decode cX5_clear 20 = .ok (.iaload, 1) := by decide +kernel
theorem dX5_clear_21 : decode cX5_clear 21 = .ok (.iconst (-1), 1) := by decide +kernel
theorem dX5_clear_22 : decode cX5_clear 22 = .ok (.if_icmp .ne 6, 3) := by decide +kernel
theorem dX5_clear_25 : decode cX5_clear 25 = .ok (.bipush (-11), 2) := by decide +kernel
theorem dX5_clear_27 : decode cX5_clear 27 = .ok (.ireturn, 1) := by decide +kernel
theorem dX5_clear_28 : decode cX5_clear 28 = .ok (.aload_n 0, 1) := by decide +kernel
theorem dX5_clear_29 : decode cX5_clear 29 = .ok (.iload_n 1, 1) := by decide +kernel
theorem dX5_clear_30 : decode cX5_clear 30 = .ok (.invokevirtual 141, 3) := by decide +kernel
theorem dX5_clear_33 : decode cX5_clear 33 = .ok (.aload_n 0, 1) := by decide +kernel
theorem dX5_clear_34 : decode cX5_clear 34 = .ok (.iload_n 1, 1) := by decide +kernel
theorem dX5_clear_35 : decode cX5_clear 35 = .ok (.invokevirtual 145, 3) := by decide +kernel
theorem dX5_clear_38 : decode cX5_clear 38 = .ok (.iconst 0, 1) := by decide +kernel
theorem dX5_clear_39 : decode cX5_clear 39 = .ok (.ireturn, 1) := by decide +kernel
theorem dX5_plainOf_0 : decode cX5_plainOf 0 = .ok (.dconst 0, 1) := by decide +kernel
theorem dX5_plainOf_1 : decode cX5_plainOf 1 = .ok (.dstore 4, 2) := by decide +kernel
theorem dX5_plainOf_3 : decode cX5_plainOf 3 = .ok (.iconst 0, 1) := by decide +kernel
theorem dX5_plainOf_4 : decode cX5_plainOf 4 = .ok (.istore 6, 2) := by decide +kernel
theorem dX5_plainOf_6 : decode cX5_plainOf 6 = .ok (.iload 6, 2) := by decide +kernel
theorem dX5_plainOf_8 : decode cX5_plainOf 8 = .ok (.iload_n 3, 1) := by decide +kernel
theorem dX5_plainOf_9 : decode cX5_plainOf 9 = .ok (.if_icmp .ge 91, 3) := by decide +kernel
theorem dX5_plainOf_12 : decode cX5_plainOf 12 = .ok (.bipush 40, 2) := by decide +kernel
theorem dX5_plainOf_14 : decode cX5_plainOf 14 = .ok (.iload_n 1, 1) := by decide +kernel
theorem dX5_plainOf_15 : decode cX5_plainOf 15 = .ok (.imul, 1) := by decide +kernel
theorem dX5_plainOf_16 : decode cX5_plainOf 16 = .ok (.iload_n 2, 1) := by decide +kernel
theorem dX5_plainOf_17 : decode cX5_plainOf 17 = .ok (.iadd, 1) := by decide +kernel
theorem dX5_plainOf_18 : decode cX5_plainOf 18 = .ok (.iload 6, 2) := by decide +kernel
theorem dX5_plainOf_20 : decode cX5_plainOf 20 = .ok (.iadd, 1) := by decide +kernel
theorem dX5_plainOf_21 : decode cX5_plainOf 21 = .ok (.istore 7, 2) := by decide +kernel
theorem dX5_plainOf_23 : decode cX5_plainOf 23 = .ok (.aload_n 0, 1) := by decide +kernel
theorem dX5_plainOf_24 : decode cX5_plainOf 24 = .ok (.iload_n 1, 1) := by decide +kernel
theorem dX5_plainOf_25 : decode cX5_plainOf 25 = .ok (.iload 7, 2) := by decide +kernel
theorem dX5_plainOf_27 : decode cX5_plainOf 27 = .ok (.invokevirtual 179, 3) := by decide +kernel
theorem dX5_plainOf_30 : decode cX5_plainOf 30 = .ok (.istore 8, 2) := by decide +kernel
theorem dX5_plainOf_32 : decode cX5_plainOf 32 = .ok (.iload 8, 2) := by decide +kernel
theorem dX5_plainOf_34 : decode cX5_plainOf 34 = .ok (.iconst 1, 1) := by decide +kernel
theorem dX5_plainOf_35 : decode cX5_plainOf 35 = .ok (.if_icmp .ne 12, 3) := by decide +kernel
theorem dX5_plainOf_38 : decode cX5_plainOf 38 = .ok (.dload 4, 2) := by decide +kernel
theorem dX5_plainOf_40 : decode cX5_plainOf 40 = .ok (.ldc2_w 124, 3) := by decide +kernel
theorem dX5_plainOf_43 : decode cX5_plainOf 43 = .ok (.dcmp .l, 1) := by decide +kernel
theorem dX5_plainOf_44 : decode cX5_plainOf 44 = .ok (.ifCond .eq 18, 3) := by decide +kernel
theorem dX5_plainOf_47 : decode cX5_plainOf 47 = .ok (.iload 8, 2) := by decide +kernel
theorem dX5_plainOf_49 : decode cX5_plainOf 49 = .ok (.iconst 2, 1) := by decide +kernel
theorem dX5_plainOf_50 : decode cX5_plainOf 50 = .ok (.if_icmp .ne 16, 3) := by decide +kernel
theorem dX5_plainOf_53 : decode cX5_plainOf 53 = .ok (.dload 4, 2) := by decide +kernel
theorem dX5_plainOf_55 : decode cX5_plainOf 55 = .ok (.ldc2_w 122, 3) := by decide +kernel
theorem dX5_plainOf_58 : decode cX5_plainOf 58 = .ok (.dcmp .l, 1) := by decide +kernel
theorem dX5_plainOf_59 : decode cX5_plainOf 59 = .ok (.ifCond .ne 7, 3) := by decide +kernel
theorem dX5_plainOf_62 : decode cX5_plainOf 62 = .ok (.iconst 1, 1) := by decide +kernel
theorem dX5_plainOf_63 : decode cX5_plainOf 63 = .ok (.goto 4, 3) := by decide +kernel
theorem dX5_plainOf_66 : decode cX5_plainOf 66 = .ok (.iconst 0, 1) := by decide +kernel
theorem dX5_plainOf_67 : decode cX5_plainOf 67 = .ok (.istore 9, 2) := by decide +kernel
theorem dX5_plainOf_69 : decode cX5_plainOf 69 = .ok (.iload 8, 2) := by decide +kernel
theorem dX5_plainOf_71 : decode cX5_plainOf 71 = .ok (.iconst 3, 1) := by decide +kernel
theorem dX5_plainOf_72 : decode cX5_plainOf 72 = .ok (.if_icmp .eq 8, 3) := by decide +kernel
theorem dX5_plainOf_75 : decode cX5_plainOf 75 = .ok (.iload 9, 2) := by decide +kernel
theorem dX5_plainOf_77 : decode cX5_plainOf 77 = .ok (.ifCond .eq 5, 3) := by decide +kernel
theorem dX5_plainOf_80 : decode cX5_plainOf 80 = .ok (.dconst 0, 1) := by decide +kernel
theorem dX5_plainOf_81 : decode cX5_plainOf 81 = .ok (.dreturn, 1) := by decide +kernel
theorem dX5_plainOf_82 : decode cX5_plainOf 82 = .ok (.dload 4, 2) := by decide +kernel
theorem dX5_plainOf_84 : decode cX5_plainOf 84 = .ok (.aload_n 0, 1) := by decide +kernel
theorem dX5_plainOf_85 : decode cX5_plainOf 85 = .ok (.iload_n 1, 1) := by decide +kernel
theorem dX5_plainOf_86 : decode cX5_plainOf 86 = .ok (.iload 7, 2) := by decide +kernel
theorem dX5_plainOf_88 : decode cX5_plainOf 88 = .ok (.invokevirtual 126, 3) := by decide +kernel
theorem dX5_plainOf_91 : decode cX5_plainOf 91 = .ok (.dadd, 1) := by decide +kernel
theorem dX5_plainOf_92 : decode cX5_plainOf 92 = .ok (.dstore 4, 2) := by decide +kernel
theorem dX5_plainOf_94 : decode cX5_plainOf 94 = .ok (.iinc 6 1, 3) := by decide +kernel
theorem dX5_plainOf_97 : decode cX5_plainOf 97 = .ok (.goto (-91), 3) := by decide +kernel
theorem dX5_plainOf_100 : decode cX5_plainOf 100 = .ok (.dload 4, 2) := by decide +kernel
theorem dX5_plainOf_102 : decode cX5_plainOf 102 = .ok (.dreturn, 1) := by decide +kernel
theorem dX5_error_0 : decode cX5_error 0 = .ok (.aload_n 0, 1) := by decide +kernel
theorem dX5_error_1 : decode cX5_error 1 = .ok (.iconst 0, 1) := by decide +kernel
theorem dX5_error_2 : decode cX5_error 2 = .ok (.putfield 54, 3) := by decide +kernel
theorem dX5_error_5 : decode cX5_error 5 = .ok (.iload_n 1, 1) := by decide +kernel
theorem dX5_error_6 : decode cX5_error 6 = .ok (.invokestatic 136, 3) := by decide +kernel
theorem dX5_error_9 : decode cX5_error 9 = .ok (.ifCond .eq 23, 3) := by decide +kernel
theorem dX5_error_12 : decode cX5_error 12 = .ok (.iload_n 2, 1) := by decide +kernel
theorem dX5_error_13 : decode cX5_error 13 = .ok (.invokestatic 64, 3) := by decide +kernel
theorem dX5_error_16 : decode cX5_error 16 = .ok (.ifCond .eq 16, 3) := by decide +kernel
theorem dX5_error_19 : decode cX5_error 19 = .ok (.iload 4, 2) := by decide +kernel
theorem dX5_error_21 : decode cX5_error 21 = .ok (.i2l, 1) := by decide +kernel
theorem dX5_error_22 : decode cX5_error 22 = .ok (.lconst 0, 1) := by decide +kernel
theorem dX5_error_23 : decode cX5_error 23 = .ok (.ldc2_w 208, 3) := by decide +kernel
theorem dX5_error_26 : decode cX5_error 26 = .ok (.invokestatic 60, 3) := by decide +kernel
theorem dX5_error_29 : decode cX5_error 29 = .ok (.ifCond .ne 6, 3) := by decide +kernel
theorem dX5_error_32 : decode cX5_error 32 = .ok (.bipush (-3), 2) := by decide +kernel
theorem dX5_error_34 : decode cX5_error 34 = .ok (.ireturn, 1) := by decide +kernel
theorem dX5_error_35 : decode cX5_error 35 = .ok (.aload_n 0, 1) := by decide +kernel
theorem dX5_error_36 : decode cX5_error 36 = .ok (.getfield 27, 3) := by decide +kernel
theorem dX5_error_39 : decode cX5_error 39 = .ok (.iload_n 1, 1) := by decide +kernel
theorem dX5_error_40 : decode cX5_error 40 = .ok (.iaload, 1) := by decide +kernel
theorem dX5_error_41 : decode cX5_error 41 = .ok (.iconst (-1), 1) := by decide +kernel
theorem dX5_error_42 : decode cX5_error 42 = .ok (.if_icmp .eq 11, 3) := by decide +kernel
theorem dX5_error_45 : decode cX5_error 45 = .ok (.aload_n 0, 1) := by decide +kernel
theorem dX5_error_46 : decode cX5_error 46 = .ok (.iload_n 2, 1) := by decide +kernel
theorem dX5_error_47 : decode cX5_error 47 = .ok (.invokevirtual 70, 3) := by decide +kernel
theorem dX5_error_50 : decode cX5_error 50 = .ok (.ifCond .ne 6, 3) := by decide +kernel
theorem dX5_error_53 : decode cX5_error 53 = .ok (.bipush (-11), 2) := by decide +kernel
theorem dX5_error_55 : decode cX5_error 55 = .ok (.ireturn, 1) := by decide +kernel
theorem dX5_error_56 : decode cX5_error 56 = .ok (.aload_n 0, 1) := by decide +kernel
theorem dX5_error_57 : decode cX5_error 57 = .ok (.getfield 27, 3) := by decide +kernel
theorem dX5_error_60 : decode cX5_error 60 = .ok (.iload_n 1, 1) := by decide +kernel
theorem dX5_error_61 : decode cX5_error 61 = .ok (.iaload, 1) := by decide +kernel
theorem dX5_error_62 : decode cX5_error 62 = .ok (.ifCond .eq 6, 3) := by decide +kernel
theorem dX5_error_65 : decode cX5_error 65 = .ok (.bipush (-12), 2) := by decide +kernel
theorem dX5_error_67 : decode cX5_error 67 = .ok (.ireturn, 1) := by decide +kernel
theorem dX5_error_68 : decode cX5_error 68 = .ok (.aload_n 0, 1) := by decide +kernel
theorem dX5_error_69 : decode cX5_error 69 = .ok (.iload_n 2, 1) := by decide +kernel
theorem dX5_error_70 : decode cX5_error 70 = .ok (.iload_n 3, 1) := by decide +kernel
theorem dX5_error_71 : decode cX5_error 71 = .ok (.iload 4, 2) := by decide +kernel
theorem dX5_error_73 : decode cX5_error 73 = .ok (.invokevirtual 106, 3) := by decide +kernel
theorem dX5_error_76 : decode cX5_error 76 = .ok (.ifCond .ne 6, 3) := by decide +kernel
theorem dX5_error_79 : decode cX5_error 79 = .ok (.bipush (-13), 2) := by decide +kernel
theorem dX5_error_81 : decode cX5_error 81 = .ok (.ireturn, 1) := by decide +kernel
theorem dX5_error_82 : decode cX5_error 82 = .ok (.aload_n 0, 1) := by decide +kernel
theorem dX5_error_83 : decode cX5_error 83 = .ok (.iload_n 1, 1) := by decide +kernel
theorem dX5_error_84 : decode cX5_error 84 = .ok (.invokevirtual 141, 3) := by decide +kernel
theorem dX5_error_87 : decode cX5_error 87 = .ok (.aload_n 0, 1) := by decide +kernel
theorem dX5_error_88 : decode cX5_error 88 = .ok (.iload_n 1, 1) := by decide +kernel
theorem dX5_error_89 : decode cX5_error 89 = .ok (.invokevirtual 145, 3) := by decide +kernel
theorem dX5_error_92 : decode cX5_error 92 = .ok (.iconst 0, 1) := by decide +kernel
theorem dX5_error_93 : decode cX5_error 93 = .ok (.istore 5, 2) := by decide +kernel
theorem dX5_error_95 : decode cX5_error 95 = .ok (.iload 5, 2) := by decide +kernel
theorem dX5_error_97 : decode cX5_error 97 = .ok (.iload 4, 2) := by decide +kernel
theorem dX5_error_99 : decode cX5_error 99 = .ok (.if_icmp .ge 25, 3) := by decide +kernel
theorem dX5_error_102 : decode cX5_error 102 = .ok (.aload_n 0, 1) := by decide +kernel
theorem dX5_error_103 : decode cX5_error 103 = .ok (.iload_n 1, 1) := by decide +kernel
theorem dX5_error_104 : decode cX5_error 104 = .ok (.iload_n 2, 1) := by decide +kernel
theorem dX5_error_105 : decode cX5_error 105 = .ok (.bipush 40, 2) := by decide +kernel
theorem dX5_error_107 : decode cX5_error 107 = .ok (.iload_n 2, 1) := by decide +kernel
theorem dX5_error_108 : decode cX5_error 108 = .ok (.imul, 1) := by decide +kernel
theorem dX5_error_109 : decode cX5_error 109 = .ok (.iload_n 3, 1) := by decide +kernel
theorem dX5_error_110 : decode cX5_error 110 = .ok (.iadd, 1) := by decide +kernel
theorem dX5_error_111 : decode cX5_error 111 = .ok (.iload 5, 2) := by decide +kernel
theorem dX5_error_113 : decode cX5_error 113 = .ok (.iadd, 1) := by decide +kernel
theorem dX5_error_114 : decode cX5_error 114 = .ok (.iconst 0, 1) := by decide +kernel
theorem dX5_error_115 : decode cX5_error 115 = .ok (.invokevirtual 218, 3) := by decide +kernel
theorem dX5_error_118 : decode cX5_error 118 = .ok (.iinc 5 1, 3) := by decide +kernel
theorem dX5_error_121 : decode cX5_error 121 = .ok (.goto (-26), 3) := by decide +kernel
theorem dX5_error_124 : decode cX5_error 124 = .ok (.aload_n 0, 1) := by decide +kernel
theorem dX5_error_125 : decode cX5_error 125 = .ok (.iload_n 2, 1) := by decide +kernel
theorem dX5_error_126 : decode cX5_error 126 = .ok (.iload_n 3, 1) := by decide +kernel
theorem dX5_error_127 : decode cX5_error 127 = .ok (.iload 4, 2) := by decide +kernel
theorem dX5_error_129 : decode cX5_error 129 = .ok (.invokevirtual 225, 3) := by decide +kernel
theorem dX5_error_132 : decode cX5_error 132 = .ok (.dstore 5, 2) := by decide +kernel
theorem dX5_error_134 : decode cX5_error 134 = .ok (.dload 5, 2) := by decide +kernel
theorem dX5_error_136 : decode cX5_error 136 = .ok (.ldc2_w 122, 3) := by decide +kernel
theorem dX5_error_139 : decode cX5_error 139 = .ok (.dcmp .l, 1) := by decide +kernel
theorem dX5_error_140 : decode cX5_error 140 = .ok (.ifCond .eq 12, 3) := by decide +kernel
theorem dX5_error_143 : decode cX5_error 143 = .ok (.dload 5, 2) := by decide +kernel
theorem dX5_error_145 : decode cX5_error 145 = .ok (.ldc2_w 124, 3) := by decide +kernel
theorem dX5_error_148 : decode cX5_error 148 = .ok (.dcmp .l, 1) := by decide +kernel
theorem dX5_error_149 : decode cX5_error 149 = .ok (.ifCond .ne 24, 3) := by decide +kernel
theorem dX5_error_152 : decode cX5_error 152 = .ok (.aload_n 0, 1) := by decide +kernel
theorem dX5_error_153 : decode cX5_error 153 = .ok (.iload_n 1, 1) := by decide +kernel
theorem dX5_error_154 : decode cX5_error 154 = .ok (.dload 5, 2) := by decide +kernel
theorem dX5_error_156 : decode cX5_error 156 = .ok (.dconst 0, 1) := by decide +kernel
theorem dX5_error_157 : decode cX5_error 157 = .ok (.dcmp .g, 1) := by decide +kernel
theorem dX5_error_158 : decode cX5_error 158 = .ok (.ifCond .ge 7, 3) := by decide +kernel
theorem dX5_error_161 : decode cX5_error 161 = .ok (.iconst 1, 1) := by decide +kernel
theorem dX5_error_162 : decode cX5_error 162 = .ok (.goto 4, 3) := by decide +kernel
theorem dX5_error_165 : decode cX5_error 165 = .ok (.iconst 0, 1) := by decide +kernel
theorem dX5_error_166 : decode cX5_error 166 = .ok (.iconst 1, 1) := by decide +kernel
theorem dX5_error_167 : decode cX5_error 167 = .ok (.invokevirtual 183, 3) := by decide +kernel
theorem dX5_error_170 : decode cX5_error 170 = .ok (.goto 35, 3) := by decide +kernel
theorem dX5_error_173 : decode cX5_error 173 = .ok (.aload_n 0, 1) := by decide +kernel
theorem dX5_error_174 : decode cX5_error 174 = .ok (.dload 5, 2) := by decide +kernel
theorem dX5_error_176 : decode cX5_error 176 = .ok (.invokevirtual 169, 3) := by decide +kernel
theorem dX5_error_179 : decode cX5_error 179 = .ok (.aload_n 0, 1) := by decide +kernel
theorem dX5_error_180 : decode cX5_error 180 = .ok (.iload_n 1, 1) := by decide +kernel
theorem dX5_error_181 : decode cX5_error 181 = .ok (.lconst 0, 1) := by decide +kernel
theorem dX5_error_182 : decode cX5_error 182 = .ok (.aload_n 0, 1) := by decide +kernel
theorem dX5_error_183 : decode cX5_error 183 = .ok (.getfield 165, 3) := by decide +kernel
theorem dX5_error_186 : decode cX5_error 186 = .ok (.aload_n 0, 1) := by decide +kernel
theorem dX5_error_187 : decode cX5_error 187 = .ok (.getfield 158, 3) := by decide +kernel
theorem dX5_error_190 : decode cX5_error 190 = .ok (.aload_n 0, 1) := by decide +kernel
theorem dX5_error_191 : decode cX5_error 191 = .ok (.getfield 161, 3) := by decide +kernel
theorem dX5_error_194 : decode cX5_error 194 = .ok (.ifCond .ne 7, 3) := by decide +kernel
theorem dX5_error_197 : decode cX5_error 197 = .ok (.iconst 1, 1) := by decide +kernel
theorem dX5_error_198 : decode cX5_error 198 = .ok (.goto 4, 3) := by decide +kernel
theorem dX5_error_201 : decode cX5_error 201 = .ok (.iconst 0, 1) := by decide +kernel
theorem dX5_error_202 : decode cX5_error 202 = .ok (.invokevirtual 190, 3) := by decide +kernel
theorem dX5_error_205 : decode cX5_error 205 = .ok (.aload_n 0, 1) := by decide +kernel
theorem dX5_error_206 : decode cX5_error 206 = .ok (.dup, 1) := by decide +kernel
theorem dX5_error_207 : decode cX5_error 207 = .ok (.getfield 222, 3) := by decide +kernel
theorem dX5_error_210 : decode cX5_error 210 = .ok (.iload 4, 2) := by decide +kernel
theorem dX5_error_212 : decode cX5_error 212 = .ok (.iadd, 1) := by decide +kernel
theorem dX5_error_213 : decode cX5_error 213 = .ok (.putfield 222, 3) := by decide +kernel
theorem dX5_error_216 : decode cX5_error 216 = .ok (.iload 4, 2) := by decide +kernel
theorem dX5_error_218 : decode cX5_error 218 = .ok (.ireturn, 1) := by decide +kernel
theorem dX5_plain_0 : decode cX5_plain 0 = .ok (.aload_n 0, 1) := by decide +kernel
theorem dX5_plain_1 : decode cX5_plain 1 = .ok (.iconst 0, 1) := by decide +kernel
theorem dX5_plain_2 : decode cX5_plain 2 = .ok (.putfield 54, 3) := by decide +kernel
theorem dX5_plain_5 : decode cX5_plain 5 = .ok (.iload_n 1, 1) := by decide +kernel
theorem dX5_plain_6 : decode cX5_plain 6 = .ok (.invokestatic 64, 3) := by decide +kernel
theorem dX5_plain_9 : decode cX5_plain 9 = .ok (.ifCond .eq 33, 3) := by decide +kernel
theorem dX5_plain_12 : decode cX5_plain 12 = .ok (.iload_n 3, 1) := by decide +kernel
theorem dX5_plain_13 : decode cX5_plain 13 = .ok (.i2l, 1) := by decide +kernel
theorem dX5_plain_14 : decode cX5_plain 14 = .ok (.lconst 0, 1) := by decide +kernel
theorem dX5_plain_15 : decode cX5_plain 15 = .ok (.ldc2_w 208, 3) := by decide +kernel
theorem dX5_plain_18 : decode cX5_plain 18 = .ok (.invokestatic 60, 3) := by decide +kernel
theorem dX5_plain_21 : decode cX5_plain 21 = .ok (.ifCond .eq 21, 3) := by decide +kernel
theorem dX5_plain_24 : decode cX5_plain 24 = .ok (.aload_n 0, 1) := by decide +kernel
theorem dX5_plain_25 : decode cX5_plain 25 = .ok (.iload_n 1, 1) := by decide +kernel
theorem dX5_plain_26 : decode cX5_plain 26 = .ok (.invokevirtual 70, 3) := by decide +kernel
theorem dX5_plain_29 : decode cX5_plain 29 = .ok (.ifCond .eq 13, 3) := by decide +kernel
theorem dX5_plain_32 : decode cX5_plain 32 = .ok (.aload_n 0, 1) := by decide +kernel
theorem dX5_plain_33 : decode cX5_plain 33 = .ok (.iload_n 1, 1) := by decide +kernel
theorem dX5_plain_34 : decode cX5_plain 34 = .ok (.iload_n 2, 1) := by decide +kernel
theorem dX5_plain_35 : decode cX5_plain 35 = .ok (.iload_n 3, 1) := by decide +kernel
theorem dX5_plain_36 : decode cX5_plain 36 = .ok (.invokevirtual 106, 3) := by decide +kernel
theorem dX5_plain_39 : decode cX5_plain 39 = .ok (.ifCond .ne 5, 3) := by decide +kernel
theorem dX5_plain_42 : decode cX5_plain 42 = .ok (.dconst 0, 1) := by decide +kernel
theorem dX5_plain_43 : decode cX5_plain 43 = .ok (.dreturn, 1) := by decide +kernel
theorem dX5_plain_44 : decode cX5_plain 44 = .ok (.aload_n 0, 1) := by decide +kernel
theorem dX5_plain_45 : decode cX5_plain 45 = .ok (.iload_n 1, 1) := by decide +kernel
theorem dX5_plain_46 : decode cX5_plain 46 = .ok (.iload_n 2, 1) := by decide +kernel
theorem dX5_plain_47 : decode cX5_plain 47 = .ok (.iload_n 3, 1) := by decide +kernel
theorem dX5_plain_48 : decode cX5_plain 48 = .ok (.invokevirtual 225, 3) := by decide +kernel
theorem dX5_plain_51 : decode cX5_plain 51 = .ok (.dreturn, 1) := by decide +kernel
theorem dX5_sortOf__0 : decode cX5_sortOf_ 0 = .ok (.aload_n 0, 1) := by decide +kernel
theorem dX5_sortOf__1 : decode cX5_sortOf_ 1 = .ok (.getfield 33, 3) := by decide +kernel
theorem dX5_sortOf__4 : decode cX5_sortOf_ 4 = .ok (.iconst 3, 1) := by decide +kernel
theorem dX5_sortOf__5 : decode cX5_sortOf_ 5 = .ok (.iload_n 1, 1) := by decide +kernel
theorem dX5_sortOf__6 : decode cX5_sortOf_ 6 = .ok (.imul, 1) := by decide +kernel
theorem dX5_sortOf__7 : decode cX5_sortOf_ 7 = .ok (.iconst 1, 1) := by decide +kernel
theorem dX5_sortOf__8 : decode cX5_sortOf_ 8 = .ok (.iadd, 1) := by decide +kernel
theorem dX5_sortOf__9 : decode cX5_sortOf_ 9 = .ok (.iaload, 1) := by decide +kernel
theorem dX5_sortOf__10 : decode cX5_sortOf_ 10 = .ok (.ifCond .le 7, 3) := by decide +kernel
theorem dX5_sortOf__13 : decode cX5_sortOf_ 13 = .ok (.iconst 1, 1) := by decide +kernel
theorem dX5_sortOf__14 : decode cX5_sortOf_ 14 = .ok (.goto 4, 3) := by decide +kernel
theorem dX5_sortOf__17 : decode cX5_sortOf_ 17 = .ok (.iconst 0, 1) := by decide +kernel
theorem dX5_sortOf__18 : decode cX5_sortOf_ 18 = .ok (.istore_n 2, 1) := by decide +kernel
theorem dX5_sortOf__19 : decode cX5_sortOf_ 19 = .ok (.aload_n 0, 1) := by decide +kernel
theorem dX5_sortOf__20 : decode cX5_sortOf_ 20 = .ok (.getfield 33, 3) := by decide +kernel
theorem dX5_sortOf__23 : decode cX5_sortOf_ 23 = .ok (.iconst 3, 1) := by decide +kernel
theorem dX5_sortOf__24 : decode cX5_sortOf_ 24 = .ok (.iload_n 1, 1) := by decide +kernel
theorem dX5_sortOf__25 : decode cX5_sortOf_ 25 = .ok (.imul, 1) := by decide +kernel
theorem dX5_sortOf__26 : decode cX5_sortOf_ 26 = .ok (.iconst 2, 1) := by decide +kernel
theorem dX5_sortOf__27 : decode cX5_sortOf_ 27 = .ok (.iadd, 1) := by decide +kernel
theorem dX5_sortOf__28 : decode cX5_sortOf_ 28 = .ok (.iaload, 1) := by decide +kernel
theorem dX5_sortOf__29 : decode cX5_sortOf_ 29 = .ok (.ifCond .le 7, 3) := by decide +kernel
theorem dX5_sortOf__32 : decode cX5_sortOf_ 32 = .ok (.iconst 1, 1) := by decide +kernel
theorem dX5_sortOf__33 : decode cX5_sortOf_ 33 = .ok (.goto 4, 3) := by decide +kernel
theorem dX5_sortOf__36 : decode cX5_sortOf_ 36 = .ok (.iconst 0, 1) := by decide +kernel
theorem dX5_sortOf__37 : decode cX5_sortOf_ 37 = .ok (.istore_n 3, 1) := by decide +kernel
theorem dX5_sortOf__38 : decode cX5_sortOf_ 38 = .ok (.aload_n 0, 1) := by decide +kernel
theorem dX5_sortOf__39 : decode cX5_sortOf_ 39 = .ok (.getfield 33, 3) := by decide +kernel
theorem dX5_sortOf__42 : decode cX5_sortOf_ 42 = .ok (.iconst 3, 1) := by decide +kernel
theorem dX5_sortOf__43 : decode cX5_sortOf_ 43 = .ok (.iload_n 1, 1) := by decide +kernel
theorem dX5_sortOf__44 : decode cX5_sortOf_ 44 = .ok (.imul, 1) := by decide +kernel
theorem dX5_sortOf__45 : decode cX5_sortOf_ 45 = .ok (.iaload, 1) := by decide +kernel
theorem dX5_sortOf__46 : decode cX5_sortOf_ 46 = .ok (.ifCond .gt 11, 3) := by decide +kernel
theorem dX5_sortOf__49 : decode cX5_sortOf_ 49 = .ok (.iload_n 2, 1) := by decide +kernel
theorem dX5_sortOf__50 : decode cX5_sortOf_ 50 = .ok (.ifCond .eq 11, 3) := by decide +kernel
theorem dX5_sortOf__53 : decode cX5_sortOf_ 53 = .ok (.iload_n 3, 1) := by decide +kernel
theorem dX5_sortOf__54 : decode cX5_sortOf_ 54 = .ok (.ifCond .eq 7, 3) := by decide +kernel
theorem dX5_sortOf__57 : decode cX5_sortOf_ 57 = .ok (.iconst 3, 1) := by decide +kernel
theorem dX5_sortOf__58 : decode cX5_sortOf_ 58 = .ok (.goto 20, 3) := by decide +kernel
theorem dX5_sortOf__61 : decode cX5_sortOf_ 61 = .ok (.iload_n 2, 1) := by decide +kernel
theorem dX5_sortOf__62 : decode cX5_sortOf_ 62 = .ok (.ifCond .eq 7, 3) := by decide +kernel
theorem dX5_sortOf__65 : decode cX5_sortOf_ 65 = .ok (.iconst 1, 1) := by decide +kernel
theorem dX5_sortOf__66 : decode cX5_sortOf_ 66 = .ok (.goto 12, 3) := by decide +kernel
theorem dX5_sortOf__69 : decode cX5_sortOf_ 69 = .ok (.iload_n 3, 1) := by decide +kernel
theorem dX5_sortOf__70 : decode cX5_sortOf_ 70 = .ok (.ifCond .eq 7, 3) := by decide +kernel
theorem dX5_sortOf__73 : decode cX5_sortOf_ 73 = .ok (.iconst 2, 1) := by decide +kernel
theorem dX5_sortOf__74 : decode cX5_sortOf_ 74 = .ok (.goto 4, 3) := by decide +kernel
theorem dX5_sortOf__77 : decode cX5_sortOf_ 77 = .ok (.iconst 0, 1) := by decide +kernel
theorem dX5_sortOf__78 : decode cX5_sortOf_ 78 = .ok (.ireturn, 1) := by decide +kernel
theorem dX5_sort_0 : decode cX5_sort 0 = .ok (.aload_n 0, 1) := by decide +kernel
theorem dX5_sort_1 : decode cX5_sort 1 = .ok (.iconst 0, 1) := by decide +kernel
theorem dX5_sort_2 : decode cX5_sort 2 = .ok (.putfield 54, 3) := by decide +kernel
theorem dX5_sort_5 : decode cX5_sort 5 = .ok (.iload_n 1, 1) := by decide +kernel
theorem dX5_sort_6 : decode cX5_sort 6 = .ok (.invokestatic 136, 3) := by decide +kernel
theorem dX5_sort_9 : decode cX5_sort 9 = .ok (.ifCond .ne 8, 3) := by decide +kernel
theorem dX5_sort_12 : decode cX5_sort 12 = .ok (.bipush (-3), 2) := by decide +kernel
theorem dX5_sort_14 : decode cX5_sort 14 = .ok (.goto 23, 3) := by decide +kernel
theorem dX5_sort_17 : decode cX5_sort 17 = .ok (.aload_n 0, 1) := by decide +kernel
theorem dX5_sort_18 : decode cX5_sort 18 = .ok (.getfield 27, 3) := by decide +kernel
theorem dX5_sort_21 : decode cX5_sort 21 = .ok (.iload_n 1, 1) := by decide +kernel
theorem dX5_sort_22 : decode cX5_sort 22 = .ok (.iaload, 1) := by decide +kernel
theorem dX5_sort_23 : decode cX5_sort 23 = .ok (.iconst (-1), 1) := by decide +kernel
theorem dX5_sort_24 : decode cX5_sort 24 = .ok (.if_icmp .ne 8, 3) := by decide +kernel
theorem dX5_sort_27 : decode cX5_sort 27 = .ok (.bipush (-11), 2) := by decide +kernel
theorem dX5_sort_29 : decode cX5_sort 29 = .ok (.goto 8, 3) := by decide +kernel
theorem dX5_sort_32 : decode cX5_sort 32 = .ok (.aload_n 0, 1) := by decide +kernel
theorem dX5_sort_33 : decode cX5_sort 33 = .ok (.iload_n 1, 1) := by decide +kernel
theorem dX5_sort_34 : decode cX5_sort 34 = .ok (.invokevirtual 229, 3) := by decide +kernel
theorem dX5_sort_37 : decode cX5_sort 37 = .ok (.ireturn, 1) := by decide +kernel
theorem dX5_seen_0 : decode cX5_seen 0 = .ok (.aload_n 0, 1) := by decide +kernel
theorem dX5_seen_1 : decode cX5_seen 1 = .ok (.iconst 0, 1) := by decide +kernel
theorem dX5_seen_2 : decode cX5_seen 2 = .ok (.putfield 54, 3) := by decide +kernel
theorem dX5_seen_5 : decode cX5_seen 5 = .ok (.iload_n 1, 1) := by decide +kernel
theorem dX5_seen_6 : decode cX5_seen 6 = .ok (.invokestatic 136, 3) := by decide +kernel
theorem dX5_seen_9 : decode cX5_seen 9 = .ok (.ifCond .eq 15, 3) := by decide +kernel
theorem dX5_seen_12 : decode cX5_seen 12 = .ok (.iload_n 2, 1) := by decide +kernel
theorem dX5_seen_13 : decode cX5_seen 13 = .ok (.i2l, 1) := by decide +kernel
theorem dX5_seen_14 : decode cX5_seen 14 = .ok (.lconst 0, 1) := by decide +kernel
theorem dX5_seen_15 : decode cX5_seen 15 = .ok (.ldc2_w 139, 3) := by decide +kernel
theorem dX5_seen_18 : decode cX5_seen 18 = .ok (.invokestatic 60, 3) := by decide +kernel
theorem dX5_seen_21 : decode cX5_seen 21 = .ok (.ifCond .ne 6, 3) := by decide +kernel
theorem dX5_seen_24 : decode cX5_seen 24 = .ok (.bipush (-3), 2) := by decide +kernel
theorem dX5_seen_26 : decode cX5_seen 26 = .ok (.ireturn, 1) := by decide +kernel
theorem dX5_seen_27 : decode cX5_seen 27 = .ok (.aload_n 0, 1) := by decide +kernel
theorem dX5_seen_28 : decode cX5_seen 28 = .ok (.getfield 27, 3) := by decide +kernel
theorem dX5_seen_31 : decode cX5_seen 31 = .ok (.iload_n 1, 1) := by decide +kernel
theorem dX5_seen_32 : decode cX5_seen 32 = .ok (.iaload, 1) := by decide +kernel
theorem dX5_seen_33 : decode cX5_seen 33 = .ok (.iconst (-1), 1) := by decide +kernel
theorem dX5_seen_34 : decode cX5_seen 34 = .ok (.if_icmp .ne 8, 3) := by decide +kernel
theorem dX5_seen_37 : decode cX5_seen 37 = .ok (.bipush (-11), 2) := by decide +kernel
theorem dX5_seen_39 : decode cX5_seen 39 = .ok (.goto 13, 3) := by decide +kernel
theorem dX5_seen_42 : decode cX5_seen 42 = .ok (.aload_n 0, 1) := by decide +kernel
theorem dX5_seen_43 : decode cX5_seen 43 = .ok (.getfield 33, 3) := by decide +kernel
theorem dX5_seen_46 : decode cX5_seen 46 = .ok (.iconst 3, 1) := by decide +kernel
theorem dX5_seen_47 : decode cX5_seen 47 = .ok (.iload_n 1, 1) := by decide +kernel
theorem dX5_seen_48 : decode cX5_seen 48 = .ok (.imul, 1) := by decide +kernel
theorem dX5_seen_49 : decode cX5_seen 49 = .ok (.iload_n 2, 1) := by decide +kernel
theorem dX5_seen_50 : decode cX5_seen 50 = .ok (.iadd, 1) := by decide +kernel
theorem dX5_seen_51 : decode cX5_seen 51 = .ok (.iaload, 1) := by decide +kernel
theorem dX5_seen_52 : decode cX5_seen 52 = .ok (.ireturn, 1) := by decide +kernel
theorem dX5_take_0 : decode cX5_take 0 = .ok (.aload_n 0, 1) := by decide +kernel
theorem dX5_take_1 : decode cX5_take 1 = .ok (.aload_n 0, 1) := by decide +kernel
theorem dX5_take_2 : decode cX5_take 2 = .ok (.getfield 30, 3) := by decide +kernel
theorem dX5_take_5 : decode cX5_take 5 = .ok (.sipush 152, 3) := by decide +kernel
theorem dX5_take_8 : decode cX5_take 8 = .ok (.iload_n 1, 1) := by decide +kernel
theorem dX5_take_9 : decode cX5_take 9 = .ok (.imul, 1) := by decide +kernel
theorem dX5_take_10 : decode cX5_take 10 = .ok (.sipush 152, 3) := by decide +kernel
theorem dX5_take_13 : decode cX5_take 13 = .ok (.iadd, 1) := by decide +kernel
theorem dX5_take_14 : decode cX5_take 14 = .ok (.iconst 1, 1) := by decide +kernel
theorem dX5_take_15 : decode cX5_take 15 = .ok (.isub, 1) := by decide +kernel
theorem dX5_take_16 : decode cX5_take 16 = .ok (.iaload, 1) := by decide +kernel
theorem dX5_take_17 : decode cX5_take 17 = .ok (.ifCond .ge 7, 3) := by decide +kernel
theorem dX5_take_20 : decode cX5_take 20 = .ok (.iconst 1, 1) := by decide +kernel
theorem dX5_take_21 : decode cX5_take 21 = .ok (.goto 4, 3) := by decide +kernel
theorem dX5_take_24 : decode cX5_take 24 = .ok (.iconst 0, 1) := by decide +kernel
theorem dX5_take_25 : decode cX5_take 25 = .ok (.putfield 231, 3) := by decide +kernel
theorem dX5_take_28 : decode cX5_take 28 = .ok (.aload_n 0, 1) := by decide +kernel
theorem dX5_take_29 : decode cX5_take 29 = .ok (.iconst 0, 1) := by decide +kernel
theorem dX5_take_30 : decode cX5_take 30 = .ok (.putfield 234, 3) := by decide +kernel
theorem dX5_take_33 : decode cX5_take 33 = .ok (.aload_n 0, 1) := by decide +kernel
theorem dX5_take_34 : decode cX5_take 34 = .ok (.getfield 231, 3) := by decide +kernel
theorem dX5_take_37 : decode cX5_take 37 = .ok (.ifCond .eq 7, 3) := by decide +kernel
theorem dX5_take_40 : decode cX5_take 40 = .ok (.lconst 1, 1) := by decide +kernel
theorem dX5_take_41 : decode cX5_take 41 = .ok (.goto 4, 3) := by decide +kernel
theorem dX5_take_44 : decode cX5_take 44 = .ok (.lconst 0, 1) := by decide +kernel
theorem dX5_take_45 : decode cX5_take 45 = .ok (.lstore_n 2, 1) := by decide +kernel
theorem dX5_take_46 : decode cX5_take 46 = .ok (.iconst 0, 1) := by decide +kernel
theorem dX5_take_47 : decode cX5_take 47 = .ok (.istore 4, 2) := by decide +kernel
theorem dX5_take_49 : decode cX5_take 49 = .ok (.iload 4, 2) := by decide +kernel
theorem dX5_take_51 : decode cX5_take 51 = .ok (.sipush 152, 3) := by decide +kernel
theorem dX5_take_54 : decode cX5_take 54 = .ok (.if_icmp .ge 65, 3) := by decide +kernel
theorem dX5_take_57 : decode cX5_take 57 = .ok (.aload_n 0, 1) := by decide +kernel
theorem dX5_take_58 : decode cX5_take 58 = .ok (.getfield 30, 3) := by decide +kernel
theorem dX5_take_61 : decode cX5_take 61 = .ok (.sipush 152, 3) := by decide +kernel
theorem dX5_take_64 : decode cX5_take 64 = .ok (.iload_n 1, 1) := by decide +kernel
theorem dX5_take_65 : decode cX5_take 65 = .ok (.imul, 1) := by decide +kernel
theorem dX5_take_66 : decode cX5_take 66 = .ok (.iload 4, 2) := by decide +kernel
theorem dX5_take_68 : decode cX5_take 68 = .ok (.iadd, 1) := by decide +kernel
theorem dX5_take_69 : decode cX5_take 69 = .ok (.iaload, 1) := by decide +kernel
theorem dX5_take_70 : decode cX5_take 70 = .ok (.istore 5, 2) := by decide +kernel
theorem dX5_take_72 : decode cX5_take 72 = .ok (.aload_n 0, 1) := by decide +kernel
theorem dX5_take_73 : decode cX5_take 73 = .ok (.getfield 231, 3) := by decide +kernel
theorem dX5_take_76 : decode cX5_take 76 = .ok (.ifCond .eq 10, 3) := by decide +kernel
theorem dX5_take_79 : decode cX5_take 79 = .ok (.iload 5, 2) := by decide +kernel
theorem dX5_take_81 : decode cX5_take 81 = .ok (.iconst (-1), 1) := by decide +kernel
theorem dX5_take_82 : decode cX5_take 82 = .ok (.ixor, 1) := by decide +kernel
theorem dX5_take_83 : decode cX5_take 83 = .ok (.goto 5, 3) := by decide +kernel
theorem dX5_take_86 : decode cX5_take 86 = .ok (.iload 5, 2) := by decide +kernel
theorem dX5_take_88 : decode cX5_take 88 = .ok (.i2l, 1) := by decide +kernel
theorem dX5_take_89 : decode cX5_take 89 = .ok (.ldc2_w 150, 3) := by decide +kernel
theorem dX5_take_92 : decode cX5_take 92 = .ok (.land, 1) := by decide +kernel
theorem dX5_take_93 : decode cX5_take 93 = .ok (.lload_n 2, 1) := by decide +kernel
theorem dX5_take_94 : decode cX5_take 94 = .ok (.ladd, 1) := by decide +kernel
theorem dX5_take_95 : decode cX5_take 95 = .ok (.lstore 6, 2) := by decide +kernel
theorem dX5_take_97 : decode cX5_take 97 = .ok (.aload_n 0, 1) := by decide +kernel
theorem dX5_take_98 : decode cX5_take 98 = .ok (.getfield 48, 3) := by decide +kernel
theorem dX5_take_101 : decode cX5_take 101 = .ok (.iload 4, 2) := by decide +kernel
theorem dX5_take_103 : decode cX5_take 103 = .ok (.lload 6, 2) := by decide +kernel
theorem dX5_take_105 : decode cX5_take 105 = .ok (.l2i, 1) := by decide +kernel
theorem dX5_take_106 : decode cX5_take 106 = .ok (.iastore, 1) := by decide +kernel
theorem dX5_take_107 : decode cX5_take 107 = .ok (.lload 6, 2) := by decide +kernel
theorem dX5_take_109 : decode cX5_take 109 = .ok (.bipush 32, 2) := by decide +kernel
theorem dX5_take_111 : decode cX5_take 111 = .ok (.lushr, 1) := by decide +kernel
theorem dX5_take_112 : decode cX5_take 112 = .ok (.lstore_n 2, 1) := by decide +kernel
theorem dX5_take_113 : decode cX5_take 113 = .ok (.iinc 4 1, 3) := by decide +kernel
theorem dX5_take_116 : decode cX5_take 116 = .ok (.goto (-67), 3) := by decide +kernel
theorem dX5_take_119 : decode cX5_take 119 = .ok (.return_, 1) := by decide +kernel
theorem dX5_highest_0 : decode cX5_highest 0 = .ok (.sipush 4863, 3) := by decide +kernel
theorem dX5_highest_3 : decode cX5_highest 3 = .ok (.istore_n 1, 1) := by decide +kernel
theorem dX5_highest_4 : decode cX5_highest 4 = .ok (.iload_n 1, 1) := by decide +kernel
theorem dX5_highest_5 : decode cX5_highest 5 = .ok (.ifCond .lt 20, 3) := by decide +kernel
theorem dX5_highest_8 : decode cX5_highest 8 = .ok (.aload_n 0, 1) := by decide +kernel
theorem dX5_highest_9 : decode cX5_highest 9 = .ok (.iload_n 1, 1) := by decide +kernel
theorem dX5_highest_10 : decode cX5_highest 10 = .ok (.invokevirtual 237, 3) := by decide +kernel
theorem dX5_highest_13 : decode cX5_highest 13 = .ok (.iconst 1, 1) := by decide +kernel
theorem dX5_highest_14 : decode cX5_highest 14 = .ok (.if_icmp .ne 5, 3) := by decide +kernel
theorem dX5_highest_17 : decode cX5_highest 17 = .ok (.iload_n 1, 1) := by decide +kernel
theorem dX5_highest_18 : decode cX5_highest 18 = .ok (.ireturn, 1) := by decide +kernel
theorem dX5_highest_19 : decode cX5_highest 19 = .ok (.iinc 1 (-1), 3) := by decide +kernel
theorem dX5_highest_22 : decode cX5_highest 22 = .ok (.goto (-18), 3) := by decide +kernel
theorem dX5_highest_25 : decode cX5_highest 25 = .ok (.iconst (-1), 1) := by decide +kernel
theorem dX5_highest_26 : decode cX5_highest 26 = .ok (.ireturn, 1) := by decide +kernel
theorem dX5_bitAt_0 : decode cX5_bitAt 0 = .ok (.iload_n 1, 1) := by decide +kernel
theorem dX5_bitAt_1 : decode cX5_bitAt 1 = .ok (.ifCond .lt 10, 3) := by decide +kernel
theorem dX5_bitAt_4 : decode cX5_bitAt 4 = .ok (.iload_n 1, 1) := by decide +kernel
theorem dX5_bitAt_5 : decode cX5_bitAt 5 = .ok (.sipush 4864, 3) := by decide +kernel
theorem dX5_bitAt_8 : decode cX5_bitAt 8 = .ok (.if_icmp .lt 7, 3) := by decide +kernel
theorem dX5_bitAt_11 : decode cX5_bitAt 11 = .ok (.iconst 0, 1) := by decide +kernel
theorem dX5_bitAt_12 : decode cX5_bitAt 12 = .ok (.goto 19, 3) := by decide +kernel
theorem dX5_bitAt_15 : decode cX5_bitAt 15 = .ok (.aload_n 0, 1) := by decide +kernel
theorem dX5_bitAt_16 : decode cX5_bitAt 16 = .ok (.getfield 48, 3) := by decide +kernel
theorem dX5_bitAt_19 : decode cX5_bitAt 19 = .ok (.iload_n 1, 1) := by decide +kernel
theorem dX5_bitAt_20 : decode cX5_bitAt 20 = .ok (.bipush 32, 2) := by decide +kernel
theorem dX5_bitAt_22 : decode cX5_bitAt 22 = .ok (.idiv, 1) := by decide +kernel
theorem dX5_bitAt_23 : decode cX5_bitAt 23 = .ok (.iaload, 1) := by decide +kernel
theorem dX5_bitAt_24 : decode cX5_bitAt 24 = .ok (.iload_n 1, 1) := by decide +kernel
theorem dX5_bitAt_25 : decode cX5_bitAt 25 = .ok (.bipush 32, 2) := by decide +kernel
theorem dX5_bitAt_27 : decode cX5_bitAt 27 = .ok (.irem, 1) := by decide +kernel
theorem dX5_bitAt_28 : decode cX5_bitAt 28 = .ok (.ishr, 1) := by decide +kernel
theorem dX5_bitAt_29 : decode cX5_bitAt 29 = .ok (.iconst 1, 1) := by decide +kernel
theorem dX5_bitAt_30 : decode cX5_bitAt 30 = .ok (.iand, 1) := by decide +kernel
theorem dX5_bitAt_31 : decode cX5_bitAt 31 = .ok (.ireturn, 1) := by decide +kernel
theorem dX5_rounded_0 : decode cX5_rounded 0 = .ok (.aload_n 0, 1) := by decide +kernel
theorem dX5_rounded_1 : decode cX5_rounded 1 = .ok (.invokevirtual 240, 3) := by decide +kernel
theorem dX5_rounded_4 : decode cX5_rounded 4 = .ok (.istore 5, 2) := by decide +kernel
theorem dX5_rounded_6 : decode cX5_rounded 6 = .ok (.iload 5, 2) := by decide +kernel
theorem dX5_rounded_8 : decode cX5_rounded 8 = .ok (.iconst (-1), 1) := by decide +kernel
theorem dX5_rounded_9 : decode cX5_rounded 9 = .ok (.if_icmp .ne 12, 3) := by decide +kernel
theorem dX5_rounded_12 : decode cX5_rounded 12 = .ok (.aload_n 0, 1) := by decide +kernel
theorem dX5_rounded_13 : decode cX5_rounded 13 = .ok (.getfield 234, 3) := by decide +kernel
theorem dX5_rounded_16 : decode cX5_rounded 16 = .ok (.ifCond .ne 5, 3) := by decide +kernel
theorem dX5_rounded_19 : decode cX5_rounded 19 = .ok (.dconst 0, 1) := by decide +kernel
theorem dX5_rounded_20 : decode cX5_rounded 20 = .ok (.dreturn, 1) := by decide +kernel
theorem dX5_rounded_21 : decode cX5_rounded 21 = .ok (.iload 5, 2) := by decide +kernel
theorem dX5_rounded_23 : decode cX5_rounded 23 = .ok (.iload_n 2, 1) := by decide +kernel
theorem dX5_rounded_24 : decode cX5_rounded 24 = .ok (.isub, 1) := by decide +kernel
theorem dX5_rounded_25 : decode cX5_rounded 25 = .ok (.iconst 1, 1) := by decide +kernel
theorem dX5_rounded_26 : decode cX5_rounded 26 = .ok (.iadd, 1) := by decide +kernel
theorem dX5_rounded_27 : decode cX5_rounded 27 = .ok (.iload_n 3, 1) := by decide +kernel
theorem dX5_rounded_28 : decode cX5_rounded 28 = .ok (.sipush 2148, 3) := by decide +kernel
theorem dX5_rounded_31 : decode cX5_rounded 31 = .ok (.iadd, 1) := by decide +kernel
theorem dX5_rounded_32 : decode cX5_rounded 32 = .ok (.if_icmp .le 12, 3) := by decide +kernel
theorem dX5_rounded_35 : decode cX5_rounded 35 = .ok (.iload 5, 2) := by decide +kernel
theorem dX5_rounded_37 : decode cX5_rounded 37 = .ok (.iload_n 2, 1) := by decide +kernel
theorem dX5_rounded_38 : decode cX5_rounded 38 = .ok (.isub, 1) := by decide +kernel
theorem dX5_rounded_39 : decode cX5_rounded 39 = .ok (.iconst 1, 1) := by decide +kernel
theorem dX5_rounded_40 : decode cX5_rounded 40 = .ok (.iadd, 1) := by decide +kernel
theorem dX5_rounded_41 : decode cX5_rounded 41 = .ok (.goto 8, 3) := by decide +kernel
theorem dX5_rounded_44 : decode cX5_rounded 44 = .ok (.iload_n 3, 1) := by decide +kernel
theorem dX5_rounded_45 : decode cX5_rounded 45 = .ok (.sipush 2148, 3) := by decide +kernel
theorem dX5_rounded_48 : decode cX5_rounded 48 = .ok (.iadd, 1) := by decide +kernel
theorem dX5_rounded_49 : decode cX5_rounded 49 = .ok (.istore 6, 2) := by decide +kernel
theorem dX5_rounded_51 : decode cX5_rounded 51 = .ok (.lconst 0, 1) := by decide +kernel
theorem dX5_rounded_52 : decode cX5_rounded 52 = .ok (.lstore 7, 2) := by decide +kernel
theorem dX5_rounded_54 : decode cX5_rounded 54 = .ok (.iload 5, 2) := by decide +kernel
theorem dX5_rounded_56 : decode cX5_rounded 56 = .ok (.istore 9, 2) := by decide +kernel
theorem dX5_rounded_58 : decode cX5_rounded 58 = .ok (.iload 9, 2) := by decide +kernel
theorem dX5_rounded_60 : decode cX5_rounded 60 = .ok (.iload 6, 2) := by decide +kernel
theorem dX5_rounded_62 : decode cX5_rounded 62 = .ok (.if_icmp .lt 25, 3) := by decide +kernel
theorem dX5_rounded_65 : decode cX5_rounded 65 = .ok (.ldc2_w 139, 3) := by decide +kernel
theorem dX5_rounded_68 : decode cX5_rounded 68 = .ok (.lload 7, 2) := by decide +kernel
theorem dX5_rounded_70 : decode cX5_rounded 70 = .ok (.lmul, 1) := by decide +kernel
theorem dX5_rounded_71 : decode cX5_rounded 71 = .ok (.aload_n 0, 1) := by decide +kernel
theorem dX5_rounded_72 : decode cX5_rounded 72 = .ok (.iload 9, 2) := by decide +kernel
theorem dX5_rounded_74 : decode cX5_rounded 74 = .ok (.invokevirtual 237, 3) := by decide +kernel
theorem dX5_rounded_77 : decode cX5_rounded 77 = .ok (.i2l, 1) := by decide +kernel
theorem dX5_rounded_78 : decode cX5_rounded 78 = .ok (.ladd, 1) := by decide +kernel
theorem dX5_rounded_79 : decode cX5_rounded 79 = .ok (.lstore 7, 2) := by decide +kernel
theorem dX5_rounded_81 : decode cX5_rounded 81 = .ok (.iinc 9 (-1), 3) := by decide +kernel
theorem dX5_rounded_84 : decode cX5_rounded 84 = .ok (.goto (-26), 3) := by decide +kernel
theorem dX5_rounded_87 : decode cX5_rounded 87 = .ok (.aload_n 0, 1) := by decide +kernel
theorem dX5_rounded_88 : decode cX5_rounded 88 = .ok (.iload 6, 2) := by decide +kernel
theorem dX5_rounded_90 : decode cX5_rounded 90 = .ok (.iconst 1, 1) := by decide +kernel
theorem dX5_rounded_91 : decode cX5_rounded 91 = .ok (.isub, 1) := by decide +kernel
theorem dX5_rounded_92 : decode cX5_rounded 92 = .ok (.invokevirtual 237, 3) := by decide +kernel
theorem dX5_rounded_95 : decode cX5_rounded 95 = .ok (.iconst 1, 1) := by decide +kernel
theorem dX5_rounded_96 : decode cX5_rounded 96 = .ok (.if_icmp .ne 7, 3) := by decide +kernel
theorem dX5_rounded_99 : decode cX5_rounded 99 = .ok (.iconst 1, 1) := by decide +kernel
theorem dX5_rounded_100 : decode cX5_rounded 100 = .ok (.goto 4, 3) := by decide +kernel
theorem dX5_rounded_103 : decode cX5_rounded 103 = .ok (.iconst 0, 1) := by decide +kernel
theorem dX5_rounded_104 : decode cX5_rounded 104 = .ok (.istore 9, 2) := by decide +kernel
theorem dX5_rounded_106 : decode cX5_rounded 106 = .ok (.aload_n 0, 1) := by decide +kernel
theorem dX5_rounded_107 : decode cX5_rounded 107 = .ok (.getfield 234, 3) := by decide +kernel
theorem dX5_rounded_110 : decode cX5_rounded 110 = .ok (.istore 10, 2) := by decide +kernel
theorem dX5_rounded_112 : decode cX5_rounded 112 = .ok (.iconst 0, 1) := by decide +kernel
theorem dX5_rounded_113 : decode cX5_rounded 113 = .ok (.istore 11, 2) := by decide +kernel
theorem dX5_rounded_115 : decode cX5_rounded 115 = .ok (.iload 11, 2) := by decide +kernel
theorem dX5_rounded_117 : decode cX5_rounded 117 = .ok (.iload 6, 2) := by decide +kernel
theorem dX5_rounded_119 : decode cX5_rounded 119 = .ok (.iconst 1, 1) := by decide +kernel
theorem dX5_rounded_120 : decode cX5_rounded 120 = .ok (.isub, 1) := by decide +kernel
theorem dX5_rounded_121 : decode cX5_rounded 121 = .ok (.if_icmp .ge 31, 3) := by decide +kernel
theorem dX5_rounded_124 : decode cX5_rounded 124 = .ok (.iload 10, 2) := by decide +kernel
theorem dX5_rounded_126 : decode cX5_rounded 126 = .ok (.ifCond .ne 26, 3) := by decide +kernel
theorem dX5_rounded_129 : decode cX5_rounded 129 = .ok (.aload_n 0, 1) := by decide +kernel
theorem dX5_rounded_130 : decode cX5_rounded 130 = .ok (.iload 11, 2) := by decide +kernel
theorem dX5_rounded_132 : decode cX5_rounded 132 = .ok (.invokevirtual 237, 3) := by decide +kernel
theorem dX5_rounded_135 : decode cX5_rounded 135 = .ok (.iconst 1, 1) := by decide +kernel
theorem dX5_rounded_136 : decode cX5_rounded 136 = .ok (.if_icmp .ne 7, 3) := by decide +kernel
theorem dX5_rounded_139 : decode cX5_rounded 139 = .ok (.iconst 1, 1) := by decide +kernel
theorem dX5_rounded_140 : decode cX5_rounded 140 = .ok (.goto 4, 3) := by decide +kernel
theorem dX5_rounded_143 : decode cX5_rounded 143 = .ok (.iconst 0, 1) := by decide +kernel
theorem dX5_rounded_144 : decode cX5_rounded 144 = .ok (.istore 10, 2) := by decide +kernel
theorem dX5_rounded_146 : decode cX5_rounded 146 = .ok (.iinc 11 1, 3) := by decide +kernel
theorem dX5_rounded_149 : decode cX5_rounded 149 = .ok (.goto (-34), 3) := by decide +kernel
theorem dX5_rounded_152 : decode cX5_rounded 152 = .ok (.iload_n 1, 1) := by decide +kernel
theorem dX5_rounded_153 : decode cX5_rounded 153 = .ok (.iconst 2, 1) := by decide +kernel
theorem dX5_rounded_154 : decode cX5_rounded 154 = .ok (.if_icmp .ne 10, 3) := by decide +kernel
theorem dX5_rounded_157 : decode cX5_rounded 157 = .ok (.aload_n 0, 1) := by decide +kernel
theorem dX5_rounded_158 : decode cX5_rounded 158 = .ok (.getfield 231, 3) := by decide +kernel
theorem dX5_rounded_161 : decode cX5_rounded 161 = .ok (.ifCond .eq 15, 3) := by decide +kernel
theorem dX5_rounded_164 : decode cX5_rounded 164 = .ok (.iload_n 1, 1) := by decide +kernel
theorem dX5_rounded_165 : decode cX5_rounded 165 = .ok (.iconst 3, 1) := by decide +kernel
theorem dX5_rounded_166 : decode cX5_rounded 166 = .ok (.if_icmp .ne 14, 3) := by decide +kernel
theorem dX5_rounded_169 : decode cX5_rounded 169 = .ok (.aload_n 0, 1) := by decide +kernel
theorem dX5_rounded_170 : decode cX5_rounded 170 = .ok (.getfield 231, 3) := by decide +kernel
theorem dX5_rounded_173 : decode cX5_rounded 173 = .ok (.ifCond .eq 7, 3) := by decide +kernel
theorem dX5_rounded_176 : decode cX5_rounded 176 = .ok (.iconst 1, 1) := by decide +kernel
theorem dX5_rounded_177 : decode cX5_rounded 177 = .ok (.goto 4, 3) := by decide +kernel
theorem dX5_rounded_180 : decode cX5_rounded 180 = .ok (.iconst 0, 1) := by decide +kernel
theorem dX5_rounded_181 : decode cX5_rounded 181 = .ok (.istore 11, 2) := by decide +kernel
theorem dX5_rounded_183 : decode cX5_rounded 183 = .ok (.iload_n 1, 1) := by decide +kernel
theorem dX5_rounded_184 : decode cX5_rounded 184 = .ok (.ifCond .ne 30, 3) := by decide +kernel
theorem dX5_rounded_187 : decode cX5_rounded 187 = .ok (.iload 9, 2) := by decide +kernel
theorem dX5_rounded_189 : decode cX5_rounded 189 = .ok (.ifCond .eq 21, 3) := by decide +kernel
theorem dX5_rounded_192 : decode cX5_rounded 192 = .ok (.iload 10, 2) := by decide +kernel
theorem dX5_rounded_194 : decode cX5_rounded 194 = .ok (.ifCond .ne 12, 3) := by decide +kernel
theorem dX5_rounded_197 : decode cX5_rounded 197 = .ok (.lload 7, 2) := by decide +kernel
theorem dX5_rounded_199 : decode cX5_rounded 199 = .ok (.lconst 1, 1) := by decide +kernel
theorem dX5_rounded_200 : decode cX5_rounded 200 = .ok (.land, 1) := by decide +kernel
theorem dX5_rounded_201 : decode cX5_rounded 201 = .ok (.lconst 1, 1) := by decide +kernel
theorem dX5_rounded_202 : decode cX5_rounded 202 = .ok (.lcmp, 1) := by decide +kernel
theorem dX5_rounded_203 : decode cX5_rounded 203 = .ok (.ifCond .ne 7, 3) := by decide +kernel
theorem dX5_rounded_206 : decode cX5_rounded 206 = .ok (.iconst 1, 1) := by decide +kernel
theorem dX5_rounded_207 : decode cX5_rounded 207 = .ok (.goto 27, 3) := by decide +kernel
theorem dX5_rounded_210 : decode cX5_rounded 210 = .ok (.iconst 0, 1) := by decide +kernel
theorem dX5_rounded_211 : decode cX5_rounded 211 = .ok (.goto 23, 3) := by decide +kernel
theorem dX5_rounded_214 : decode cX5_rounded 214 = .ok (.iload 11, 2) := by decide +kernel
theorem dX5_rounded_216 : decode cX5_rounded 216 = .ok (.ifCond .eq 17, 3) := by decide +kernel
theorem dX5_rounded_219 : decode cX5_rounded 219 = .ok (.iload 9, 2) := by decide +kernel
theorem dX5_rounded_221 : decode cX5_rounded 221 = .ok (.ifCond .ne 8, 3) := by decide +kernel
theorem dX5_rounded_224 : decode cX5_rounded 224 = .ok (.iload 10, 2) := by decide +kernel
theorem dX5_rounded_226 : decode cX5_rounded 226 = .ok (.ifCond .eq 7, 3) := by decide +kernel
theorem dX5_rounded_229 : decode cX5_rounded 229 = .ok (.iconst 1, 1) := by decide +kernel
theorem dX5_rounded_230 : decode cX5_rounded 230 = .ok (.goto 4, 3) := by decide +kernel
theorem dX5_rounded_233 : decode cX5_rounded 233 = .ok (.iconst 0, 1) := by decide +kernel
theorem dX5_rounded_234 : decode cX5_rounded 234 = .ok (.istore 12, 2) := by decide +kernel
theorem dX5_rounded_236 : decode cX5_rounded 236 = .ok (.iload 5, 2) := by decide +kernel
theorem dX5_rounded_238 : decode cX5_rounded 238 = .ok (.iload 4, 2) := by decide +kernel
theorem dX5_rounded_240 : decode cX5_rounded 240 = .ok (.sipush 2148, 3) := by decide +kernel
theorem dX5_rounded_243 : decode cX5_rounded 243 = .ok (.iadd, 1) := by decide +kernel
theorem dX5_rounded_244 : decode cX5_rounded 244 = .ok (.if_icmp .lt 7, 3) := by decide +kernel
theorem dX5_rounded_247 : decode cX5_rounded 247 = .ok (.iconst 1, 1) := by decide +kernel
theorem dX5_rounded_248 : decode cX5_rounded 248 = .ok (.goto 4, 3) := by decide +kernel
theorem dX5_rounded_251 : decode cX5_rounded 251 = .ok (.iconst 0, 1) := by decide +kernel
theorem dX5_rounded_252 : decode cX5_rounded 252 = .ok (.istore 13, 2) := by decide +kernel
theorem dX5_rounded_254 : decode cX5_rounded 254 = .ok (.lload 7, 2) := by decide +kernel
theorem dX5_rounded_256 : decode cX5_rounded 256 = .ok (.iload 12, 2) := by decide +kernel
theorem dX5_rounded_258 : decode cX5_rounded 258 = .ok (.ifCond .eq 7, 3) := by decide +kernel
theorem dX5_rounded_261 : decode cX5_rounded 261 = .ok (.lconst 1, 1) := by decide +kernel
theorem dX5_rounded_262 : decode cX5_rounded 262 = .ok (.goto 4, 3) := by decide +kernel
theorem dX5_rounded_265 : decode cX5_rounded 265 = .ok (.lconst 0, 1) := by decide +kernel
theorem dX5_rounded_266 : decode cX5_rounded 266 = .ok (.ladd, 1) := by decide +kernel
theorem dX5_rounded_267 : decode cX5_rounded 267 = .ok (.lstore 7, 2) := by decide +kernel
theorem dX5_rounded_269 : decode cX5_rounded 269 = .ok (.lconst 1, 1) := by decide +kernel
theorem dX5_rounded_270 : decode cX5_rounded 270 = .ok (.iload_n 2, 1) := by decide +kernel
theorem dX5_rounded_271 : decode cX5_rounded 271 = .ok (.lshl, 1) := by decide +kernel
theorem dX5_rounded_272 : decode cX5_rounded 272 = .ok (.lconst 1, 1) := by decide +kernel
theorem dX5_rounded_273 : decode cX5_rounded 273 = .ok (.lsub, 1) := by decide +kernel
theorem dX5_rounded_274 : decode cX5_rounded 274 = .ok (.iload 4, 2) := by decide +kernel
theorem dX5_rounded_276 : decode cX5_rounded 276 = .ok (.iload_n 2, 1) := by decide +kernel
theorem dX5_rounded_277 : decode cX5_rounded 277 = .ok (.isub, 1) := by decide +kernel
theorem dX5_rounded_278 : decode cX5_rounded 278 = .ok (.invokestatic 89, 3) := by decide +kernel
theorem dX5_rounded_281 : decode cX5_rounded 281 = .ok (.dstore 14, 2) := by decide +kernel
theorem dX5_rounded_283 : decode cX5_rounded 283 = .ok (.dconst 0, 1) := by decide +kernel
theorem dX5_rounded_284 : decode cX5_rounded 284 = .ok (.dstore 16, 2) := by decide +kernel
theorem dX5_rounded_286 : decode cX5_rounded 286 = .ok (.iload 13, 2) := by decide +kernel
theorem dX5_rounded_288 : decode cX5_rounded 288 = .ok (.ifCond .eq 25, 3) := by decide +kernel
theorem dX5_rounded_291 : decode cX5_rounded 291 = .ok (.iload_n 1, 1) := by decide +kernel
theorem dX5_rounded_292 : decode cX5_rounded 292 = .ok (.ifCond .eq 8, 3) := by decide +kernel
theorem dX5_rounded_295 : decode cX5_rounded 295 = .ok (.iload 11, 2) := by decide +kernel
theorem dX5_rounded_297 : decode cX5_rounded 297 = .ok (.ifCond .eq 9, 3) := by decide +kernel
theorem dX5_rounded_300 : decode cX5_rounded 300 = .ok (.ldc2_w 122, 3) := by decide +kernel
theorem dX5_rounded_303 : decode cX5_rounded 303 = .ok (.goto 5, 3) := by decide +kernel
theorem dX5_rounded_306 : decode cX5_rounded 306 = .ok (.dload 14, 2) := by decide +kernel
theorem dX5_rounded_308 : decode cX5_rounded 308 = .ok (.dstore 16, 2) := by decide +kernel
theorem dX5_rounded_310 : decode cX5_rounded 310 = .ok (.goto 46, 3) := by decide +kernel
theorem dX5_rounded_313 : decode cX5_rounded 313 = .ok (.lload 7, 2) := by decide +kernel
theorem dX5_rounded_315 : decode cX5_rounded 315 = .ok (.lconst 1, 1) := by decide +kernel
theorem dX5_rounded_316 : decode cX5_rounded 316 = .ok (.iload_n 2, 1) := by decide +kernel
theorem dX5_rounded_317 : decode cX5_rounded 317 = .ok (.lshl, 1) := by decide +kernel
theorem dX5_rounded_318 : decode cX5_rounded 318 = .ok (.lcmp, 1) := by decide +kernel
theorem dX5_rounded_319 : decode cX5_rounded 319 = .ok (.ifCond .ne 24, 3) := by decide +kernel
theorem dX5_rounded_322 : decode cX5_rounded 322 = .ok (.iload 6, 2) := by decide +kernel
theorem dX5_rounded_324 : decode cX5_rounded 324 = .ok (.sipush 2148, 3) := by decide +kernel
theorem dX5_rounded_327 : decode cX5_rounded 327 = .ok (.isub, 1) := by decide +kernel
theorem dX5_rounded_328 : decode cX5_rounded 328 = .ok (.iload_n 2, 1) := by decide +kernel
theorem dX5_rounded_329 : decode cX5_rounded 329 = .ok (.iadd, 1) := by decide +kernel
theorem dX5_rounded_330 : decode cX5_rounded 330 = .ok (.iload 4, 2) := by decide +kernel
theorem dX5_rounded_332 : decode cX5_rounded 332 = .ok (.if_icmp .ne 11, 3) := by decide +kernel
theorem dX5_rounded_335 : decode cX5_rounded 335 = .ok (.ldc2_w 122, 3) := by decide +kernel
theorem dX5_rounded_338 : decode cX5_rounded 338 = .ok (.dstore 16, 2) := by decide +kernel
theorem dX5_rounded_340 : decode cX5_rounded 340 = .ok (.goto 16, 3) := by decide +kernel
theorem dX5_rounded_343 : decode cX5_rounded 343 = .ok (.lload 7, 2) := by decide +kernel
theorem dX5_rounded_345 : decode cX5_rounded 345 = .ok (.iload 6, 2) := by decide +kernel
theorem dX5_rounded_347 : decode cX5_rounded 347 = .ok (.sipush 2148, 3) := by decide +kernel
theorem dX5_rounded_350 : decode cX5_rounded 350 = .ok (.isub, 1) := by decide +kernel
theorem dX5_rounded_351 : decode cX5_rounded 351 = .ok (.invokestatic 89, 3) := by decide +kernel
theorem dX5_rounded_354 : decode cX5_rounded 354 = .ok (.dstore 16, 2) := by decide +kernel
theorem dX5_rounded_356 : decode cX5_rounded 356 = .ok (.dload 16, 2) := by decide +kernel
theorem dX5_rounded_358 : decode cX5_rounded 358 = .ok (.dconst 0, 1) := by decide +kernel
theorem dX5_rounded_359 : decode cX5_rounded 359 = .ok (.dcmp .l, 1) := by decide +kernel
theorem dX5_rounded_360 : decode cX5_rounded 360 = .ok (.ifCond .ne 7, 3) := by decide +kernel
theorem dX5_rounded_363 : decode cX5_rounded 363 = .ok (.dconst 0, 1) := by decide +kernel
theorem dX5_rounded_364 : decode cX5_rounded 364 = .ok (.goto 18, 3) := by decide +kernel
theorem dX5_rounded_367 : decode cX5_rounded 367 = .ok (.aload_n 0, 1) := by decide +kernel
theorem dX5_rounded_368 : decode cX5_rounded 368 = .ok (.getfield 231, 3) := by decide +kernel
theorem dX5_rounded_371 : decode cX5_rounded 371 = .ok (.ifCond .eq 9, 3) := by decide +kernel
theorem dX5_rounded_374 : decode cX5_rounded 374 = .ok (.dload 16, 2) := by decide +kernel
theorem dX5_rounded_376 : decode cX5_rounded 376 = .ok (.dneg, 1) := by decide +kernel
theorem dX5_rounded_377 : decode cX5_rounded 377 = .ok (.goto 5, 3) := by decide +kernel
theorem dX5_rounded_380 : decode cX5_rounded 380 = .ok (.dload 16, 2) := by decide +kernel
theorem dX5_rounded_382 : decode cX5_rounded 382 = .ok (.dreturn, 1) := by decide +kernel
theorem dX5_endlessBy_0 : decode cX5_endlessBy 0 = .ok (.iload_n 1, 1) := by decide +kernel
theorem dX5_endlessBy_1 : decode cX5_endlessBy 1 = .ok (.iconst 1, 1) := by decide +kernel
theorem dX5_endlessBy_2 : decode cX5_endlessBy 2 = .ok (.if_icmp .ne 9, 3) := by decide +kernel
theorem dX5_endlessBy_5 : decode cX5_endlessBy 5 = .ok (.ldc2_w 122, 3) := by decide +kernel
theorem dX5_endlessBy_8 : decode cX5_endlessBy 8 = .ok (.goto 15, 3) := by decide +kernel
theorem dX5_endlessBy_11 : decode cX5_endlessBy 11 = .ok (.iload_n 1, 1) := by decide +kernel
theorem dX5_endlessBy_12 : decode cX5_endlessBy 12 = .ok (.iconst 2, 1) := by decide +kernel
theorem dX5_endlessBy_13 : decode cX5_endlessBy 13 = .ok (.if_icmp .ne 9, 3) := by decide +kernel
theorem dX5_endlessBy_16 : decode cX5_endlessBy 16 = .ok (.ldc2_w 124, 3) := by decide +kernel
theorem dX5_endlessBy_19 : decode cX5_endlessBy 19 = .ok (.goto 4, 3) := by decide +kernel
theorem dX5_endlessBy_22 : decode cX5_endlessBy 22 = .ok (.dconst 0, 1) := by decide +kernel
theorem dX5_endlessBy_23 : decode cX5_endlessBy 23 = .ok (.dreturn, 1) := by decide +kernel
theorem dX5_tell_0 : decode cX5_tell 0 = .ok (.aload_n 0, 1) := by decide +kernel
theorem dX5_tell_1 : decode cX5_tell 1 = .ok (.iconst 0, 1) := by decide +kernel
theorem dX5_tell_2 : decode cX5_tell 2 = .ok (.putfield 54, 3) := by decide +kernel
theorem dX5_tell_5 : decode cX5_tell 5 = .ok (.iload_n 1, 1) := by decide +kernel
theorem dX5_tell_6 : decode cX5_tell 6 = .ok (.invokestatic 136, 3) := by decide +kernel
theorem dX5_tell_9 : decode cX5_tell 9 = .ok (.ifCond .eq 25, 3) := by decide +kernel
theorem dX5_tell_12 : decode cX5_tell 12 = .ok (.iload_n 2, 1) := by decide +kernel
theorem dX5_tell_13 : decode cX5_tell 13 = .ok (.i2l, 1) := by decide +kernel
theorem dX5_tell_14 : decode cX5_tell 14 = .ok (.lconst 0, 1) := by decide +kernel
theorem dX5_tell_15 : decode cX5_tell 15 = .ok (.ldc2_w 110, 3) := by decide +kernel
theorem dX5_tell_18 : decode cX5_tell 18 = .ok (.invokestatic 60, 3) := by decide +kernel
theorem dX5_tell_21 : decode cX5_tell 21 = .ok (.ifCond .eq 13, 3) := by decide +kernel
theorem dX5_tell_24 : decode cX5_tell 24 = .ok (.aload_n 0, 1) := by decide +kernel
theorem dX5_tell_25 : decode cX5_tell 25 = .ok (.getfield 27, 3) := by decide +kernel
theorem dX5_tell_28 : decode cX5_tell 28 = .ok (.iload_n 1, 1) := by decide +kernel
theorem dX5_tell_29 : decode cX5_tell 29 = .ok (.iaload, 1) := by decide +kernel
theorem dX5_tell_30 : decode cX5_tell 30 = .ok (.iconst (-1), 1) := by decide +kernel
theorem dX5_tell_31 : decode cX5_tell 31 = .ok (.if_icmp .ne 5, 3) := by decide +kernel
theorem dX5_tell_34 : decode cX5_tell 34 = .ok (.dconst 0, 1) := by decide +kernel
theorem dX5_tell_35 : decode cX5_tell 35 = .ok (.dreturn, 1) := by decide +kernel
theorem dX5_tell_36 : decode cX5_tell 36 = .ok (.aload_n 0, 1) := by decide +kernel
theorem dX5_tell_37 : decode cX5_tell 37 = .ok (.iload_n 1, 1) := by decide +kernel
theorem dX5_tell_38 : decode cX5_tell 38 = .ok (.invokevirtual 229, 3) := by decide +kernel
theorem dX5_tell_41 : decode cX5_tell 41 = .ok (.istore 4, 2) := by decide +kernel
theorem dX5_tell_43 : decode cX5_tell 43 = .ok (.iload 4, 2) := by decide +kernel
theorem dX5_tell_45 : decode cX5_tell 45 = .ok (.ifCond .eq 10, 3) := by decide +kernel
theorem dX5_tell_48 : decode cX5_tell 48 = .ok (.aload_n 0, 1) := by decide +kernel
theorem dX5_tell_49 : decode cX5_tell 49 = .ok (.iload 4, 2) := by decide +kernel
theorem dX5_tell_51 : decode cX5_tell 51 = .ok (.invokevirtual 244, 3) := by decide +kernel
theorem dX5_tell_54 : decode cX5_tell 54 = .ok (.dreturn, 1) := by decide +kernel
theorem dX5_tell_55 : decode cX5_tell 55 = .ok (.aload_n 0, 1) := by decide +kernel
theorem dX5_tell_56 : decode cX5_tell 56 = .ok (.iload_n 1, 1) := by decide +kernel
theorem dX5_tell_57 : decode cX5_tell 57 = .ok (.invokevirtual 248, 3) := by decide +kernel
theorem dX5_tell_60 : decode cX5_tell 60 = .ok (.iload_n 3, 1) := by decide +kernel
theorem dX5_tell_61 : decode cX5_tell 61 = .ok (.ifCond .eq 19, 3) := by decide +kernel
theorem dX5_tell_64 : decode cX5_tell 64 = .ok (.aload_n 0, 1) := by decide +kernel
theorem dX5_tell_65 : decode cX5_tell 65 = .ok (.iload_n 2, 1) := by decide +kernel
theorem dX5_tell_66 : decode cX5_tell 66 = .ok (.bipush 24, 2) := by decide +kernel
theorem dX5_tell_68 : decode cX5_tell 68 = .ok (.sipush (-149), 3) := by decide +kernel
theorem dX5_tell_71 : decode cX5_tell 71 = .ok (.sipush 128, 3) := by decide +kernel
theorem dX5_tell_74 : decode cX5_tell 74 = .ok (.invokevirtual 251, 3) := by decide +kernel
theorem dX5_tell_77 : decode cX5_tell 77 = .ok (.goto 16, 3) := by decide +kernel
theorem dX5_tell_80 : decode cX5_tell 80 = .ok (.aload_n 0, 1) := by decide +kernel
theorem dX5_tell_81 : decode cX5_tell 81 = .ok (.iload_n 2, 1) := by decide +kernel
theorem dX5_tell_82 : decode cX5_tell 82 = .ok (.bipush 53, 2) := by decide +kernel
theorem dX5_tell_84 : decode cX5_tell 84 = .ok (.sipush (-1074), 3) := by decide +kernel
theorem dX5_tell_87 : decode cX5_tell 87 = .ok (.sipush 1024, 3) := by decide +kernel
theorem dX5_tell_90 : decode cX5_tell 90 = .ok (.invokevirtual 251, 3) := by decide +kernel
theorem dX5_tell_93 : decode cX5_tell 93 = .ok (.dreturn, 1) := by decide +kernel
theorem dX5_mean_0 : decode cX5_mean 0 = .ok (.aload_n 0, 1) := by decide +kernel
theorem dX5_mean_1 : decode cX5_mean 1 = .ok (.iconst 0, 1) := by decide +kernel
theorem dX5_mean_2 : decode cX5_mean 2 = .ok (.putfield 54, 3) := by decide +kernel
theorem dX5_mean_5 : decode cX5_mean 5 = .ok (.iload_n 1, 1) := by decide +kernel
theorem dX5_mean_6 : decode cX5_mean 6 = .ok (.invokestatic 136, 3) := by decide +kernel
theorem dX5_mean_9 : decode cX5_mean 9 = .ok (.ifCond .eq 37, 3) := by decide +kernel
theorem dX5_mean_12 : decode cX5_mean 12 = .ok (.iload_n 3, 1) := by decide +kernel
theorem dX5_mean_13 : decode cX5_mean 13 = .ok (.i2l, 1) := by decide +kernel
theorem dX5_mean_14 : decode cX5_mean 14 = .ok (.lconst 0, 1) := by decide +kernel
theorem dX5_mean_15 : decode cX5_mean 15 = .ok (.ldc2_w 110, 3) := by decide +kernel
theorem dX5_mean_18 : decode cX5_mean 18 = .ok (.invokestatic 60, 3) := by decide +kernel
theorem dX5_mean_21 : decode cX5_mean 21 = .ok (.ifCond .eq 25, 3) := by decide +kernel
theorem dX5_mean_24 : decode cX5_mean 24 = .ok (.aload_n 0, 1) := by decide +kernel
theorem dX5_mean_25 : decode cX5_mean 25 = .ok (.getfield 27, 3) := by decide +kernel
theorem dX5_mean_28 : decode cX5_mean 28 = .ok (.iload_n 1, 1) := by decide +kernel
theorem dX5_mean_29 : decode cX5_mean 29 = .ok (.iaload, 1) := by decide +kernel
theorem dX5_mean_30 : decode cX5_mean 30 = .ok (.iconst (-1), 1) := by decide +kernel
theorem dX5_mean_31 : decode cX5_mean 31 = .ok (.if_icmp .eq 15, 3) := by decide +kernel
theorem dX5_mean_34 : decode cX5_mean 34 = .ok (.iload_n 2, 1) := by decide +kernel
theorem dX5_mean_35 : decode cX5_mean 35 = .ok (.i2l, 1) := by decide +kernel
theorem dX5_mean_36 : decode cX5_mean 36 = .ok (.lconst 1, 1) := by decide +kernel
theorem dX5_mean_37 : decode cX5_mean 37 = .ok (.ldc2_w 255, 3) := by decide +kernel
theorem dX5_mean_40 : decode cX5_mean 40 = .ok (.invokestatic 60, 3) := by decide +kernel
theorem dX5_mean_43 : decode cX5_mean 43 = .ok (.ifCond .ne 5, 3) := by decide +kernel
theorem dX5_mean_46 : decode cX5_mean 46 = .ok (.dconst 0, 1) := by decide +kernel
theorem dX5_mean_47 : decode cX5_mean 47 = .ok (.dreturn, 1) := by decide +kernel
theorem dX5_mean_48 : decode cX5_mean 48 = .ok (.aload_n 0, 1) := by decide +kernel
theorem dX5_mean_49 : decode cX5_mean 49 = .ok (.iload_n 1, 1) := by decide +kernel
theorem dX5_mean_50 : decode cX5_mean 50 = .ok (.invokevirtual 229, 3) := by decide +kernel
theorem dX5_mean_53 : decode cX5_mean 53 = .ok (.istore 4, 2) := by decide +kernel
theorem dX5_mean_55 : decode cX5_mean 55 = .ok (.iload 4, 2) := by decide +kernel
theorem dX5_mean_57 : decode cX5_mean 57 = .ok (.ifCond .eq 10, 3) := by decide +kernel
theorem dX5_mean_60 : decode cX5_mean 60 = .ok (.aload_n 0, 1) := by decide +kernel
theorem dX5_mean_61 : decode cX5_mean 61 = .ok (.iload 4, 2) := by decide +kernel
theorem dX5_mean_63 : decode cX5_mean 63 = .ok (.invokevirtual 244, 3) := by decide +kernel
theorem dX5_mean_66 : decode cX5_mean 66 = .ok (.dreturn, 1) := by decide +kernel
theorem dX5_mean_67 : decode cX5_mean 67 = .ok (.aload_n 0, 1) := by decide +kernel
theorem dX5_mean_68 : decode cX5_mean 68 = .ok (.iload_n 1, 1) := by decide +kernel
theorem dX5_mean_69 : decode cX5_mean 69 = .ok (.invokevirtual 248, 3) := by decide +kernel
theorem dX5_mean_72 : decode cX5_mean 72 = .ok (.lconst 0, 1) := by decide +kernel
theorem dX5_mean_73 : decode cX5_mean 73 = .ok (.lstore 5, 2) := by decide +kernel
theorem dX5_mean_75 : decode cX5_mean 75 = .ok (.sipush 151, 3) := by decide +kernel
theorem dX5_mean_78 : decode cX5_mean 78 = .ok (.istore 7, 2) := by decide +kernel
theorem dX5_mean_80 : decode cX5_mean 80 = .ok (.iload 7, 2) := by decide +kernel
theorem dX5_mean_82 : decode cX5_mean 82 = .ok (.ifCond .lt 49, 3) := by decide +kernel
theorem dX5_mean_85 : decode cX5_mean 85 = .ok (.lload 5, 2) := by decide +kernel
theorem dX5_mean_87 : decode cX5_mean 87 = .ok (.bipush 32, 2) := by decide +kernel
theorem dX5_mean_89 : decode cX5_mean 89 = .ok (.lshl, 1) := by decide +kernel
theorem dX5_mean_90 : decode cX5_mean 90 = .ok (.aload_n 0, 1) := by decide +kernel
theorem dX5_mean_91 : decode cX5_mean 91 = .ok (.getfield 48, 3) := by decide +kernel
theorem dX5_mean_94 : decode cX5_mean 94 = .ok (.iload 7, 2) := by decide +kernel
theorem dX5_mean_96 : decode cX5_mean 96 = .ok (.iaload, 1) := by decide +kernel
theorem dX5_mean_97 : decode cX5_mean 97 = .ok (.i2l, 1) := by decide +kernel
theorem dX5_mean_98 : decode cX5_mean 98 = .ok (.ldc2_w 150, 3) := by decide +kernel
theorem dX5_mean_101 : decode cX5_mean 101 = .ok (.land, 1) := by decide +kernel
theorem dX5_mean_102 : decode cX5_mean 102 = .ok (.lor, 1) := by decide +kernel
theorem dX5_mean_103 : decode cX5_mean 103 = .ok (.lstore 8, 2) := by decide +kernel
theorem dX5_mean_105 : decode cX5_mean 105 = .ok (.aload_n 0, 1) := by decide +kernel
theorem dX5_mean_106 : decode cX5_mean 106 = .ok (.getfield 48, 3) := by decide +kernel
theorem dX5_mean_109 : decode cX5_mean 109 = .ok (.iload 7, 2) := by decide +kernel
theorem dX5_mean_111 : decode cX5_mean 111 = .ok (.lload 8, 2) := by decide +kernel
theorem dX5_mean_113 : decode cX5_mean 113 = .ok (.iload_n 2, 1) := by decide +kernel
theorem dX5_mean_114 : decode cX5_mean 114 = .ok (.i2l, 1) := by decide +kernel
theorem dX5_mean_115 : decode cX5_mean 115 = .ok (.ldiv, 1) := by decide +kernel
theorem dX5_mean_116 : decode cX5_mean 116 = .ok (.l2i, 1) := by decide +kernel
theorem dX5_mean_117 : decode cX5_mean 117 = .ok (.iastore, 1) := by decide +kernel
theorem dX5_mean_118 : decode cX5_mean 118 = .ok (.lload 8, 2) := by decide +kernel
theorem dX5_mean_120 : decode cX5_mean 120 = .ok (.iload_n 2, 1) := by decide +kernel
theorem dX5_mean_121 : decode cX5_mean 121 = .ok (.i2l, 1) := by decide +kernel
theorem dX5_mean_122 : decode cX5_mean 122 = .ok (.lrem, 1) := by decide +kernel
theorem dX5_mean_123 : decode cX5_mean 123 = .ok (.lstore 5, 2) := by decide +kernel
theorem dX5_mean_125 : decode cX5_mean 125 = .ok (.iinc 7 (-1), 3) := by decide +kernel
theorem dX5_mean_128 : decode cX5_mean 128 = .ok (.goto (-48), 3) := by decide +kernel
theorem dX5_mean_131 : decode cX5_mean 131 = .ok (.aload_n 0, 1) := by decide +kernel
theorem dX5_mean_132 : decode cX5_mean 132 = .ok (.lload 5, 2) := by decide +kernel
theorem dX5_mean_134 : decode cX5_mean 134 = .ok (.lconst 0, 1) := by decide +kernel
theorem dX5_mean_135 : decode cX5_mean 135 = .ok (.lcmp, 1) := by decide +kernel
theorem dX5_mean_136 : decode cX5_mean 136 = .ok (.ifCond .eq 7, 3) := by decide +kernel
theorem dX5_mean_139 : decode cX5_mean 139 = .ok (.iconst 1, 1) := by decide +kernel
theorem dX5_mean_140 : decode cX5_mean 140 = .ok (.goto 4, 3) := by decide +kernel
theorem dX5_mean_143 : decode cX5_mean 143 = .ok (.iconst 0, 1) := by decide +kernel
theorem dX5_mean_144 : decode cX5_mean 144 = .ok (.putfield 234, 3) := by decide +kernel
theorem dX5_mean_147 : decode cX5_mean 147 = .ok (.aload_n 0, 1) := by decide +kernel
theorem dX5_mean_148 : decode cX5_mean 148 = .ok (.iload_n 3, 1) := by decide +kernel
theorem dX5_mean_149 : decode cX5_mean 149 = .ok (.bipush 53, 2) := by decide +kernel
theorem dX5_mean_151 : decode cX5_mean 151 = .ok (.sipush (-1074), 3) := by decide +kernel
theorem dX5_mean_154 : decode cX5_mean 154 = .ok (.sipush 1024, 3) := by decide +kernel
theorem dX5_mean_157 : decode cX5_mean 157 = .ok (.invokevirtual 251, 3) := by decide +kernel
theorem dX5_mean_160 : decode cX5_mean 160 = .ok (.dreturn, 1) := by decide +kernel
theorem dX5_compareSquare_0 : decode cX5_compareSquare 0 = .ok (.lload_n 1, 1) := by decide +kernel
theorem dX5_compareSquare_1 : decode cX5_compareSquare 1 = .ok (.bipush 52, 2) := by decide +kernel
theorem dX5_compareSquare_3 : decode cX5_compareSquare 3 = .ok (.lshr, 1) := by decide +kernel
theorem dX5_compareSquare_4 : decode cX5_compareSquare 4 = .ok (.l2i, 1) := by decide +kernel
theorem dX5_compareSquare_5 : decode cX5_compareSquare 5 = .ok (.istore_n 3, 1) := by decide +kernel
theorem dX5_compareSquare_6 : decode cX5_compareSquare 6 = .ok (.lload_n 1, 1) := by decide +kernel
theorem dX5_compareSquare_7 : decode cX5_compareSquare 7 = .ok (.ldc2_w 257, 3) := by decide +kernel
theorem dX5_compareSquare_10 : decode cX5_compareSquare 10 = .ok (.land, 1) := by decide +kernel
theorem dX5_compareSquare_11 : decode cX5_compareSquare 11 = .ok (.iload_n 3, 1) := by decide +kernel
theorem dX5_compareSquare_12 : decode cX5_compareSquare 12 = .ok (.ifCond .le 9, 3) := by decide +kernel
theorem dX5_compareSquare_15 : decode cX5_compareSquare 15 = .ok (.ldc2_w 259, 3) := by decide +kernel
theorem dX5_compareSquare_18 : decode cX5_compareSquare 18 = .ok (.goto 4, 3) := by decide +kernel
theorem dX5_compareSquare_21 : decode cX5_compareSquare 21 = .ok (.lconst 0, 1) := by decide +kernel
theorem dX5_compareSquare_22 : decode cX5_compareSquare 22 = .ok (.lor, 1) := by decide +kernel
theorem dX5_compareSquare_23 : decode cX5_compareSquare 23 = .ok (.lstore 4, 2) := by decide +kernel
theorem dX5_compareSquare_25 : decode cX5_compareSquare 25 = .ok (.iconst 2, 1) := by decide +kernel
theorem dX5_compareSquare_26 : decode cX5_compareSquare 26 = .ok (.iload_n 3, 1) := by decide +kernel
theorem dX5_compareSquare_27 : decode cX5_compareSquare 27 = .ok (.ifCond .le 11, 3) := by decide +kernel
theorem dX5_compareSquare_30 : decode cX5_compareSquare 30 = .ok (.iload_n 3, 1) := by decide +kernel
theorem dX5_compareSquare_31 : decode cX5_compareSquare 31 = .ok (.sipush 1075, 3) := by decide +kernel
theorem dX5_compareSquare_34 : decode cX5_compareSquare 34 = .ok (.isub, 1) := by decide +kernel
theorem dX5_compareSquare_35 : decode cX5_compareSquare 35 = .ok (.goto 6, 3) := by decide +kernel
theorem dX5_compareSquare_38 : decode cX5_compareSquare 38 = .ok (.sipush (-1074), 3) := by decide +kernel
theorem dX5_compareSquare_41 : decode cX5_compareSquare 41 = .ok (.imul, 1) := by decide +kernel
theorem dX5_compareSquare_42 : decode cX5_compareSquare 42 = .ok (.sipush 2148, 3) := by decide +kernel
theorem dX5_compareSquare_45 : decode cX5_compareSquare 45 = .ok (.iadd, 1) := by decide +kernel
theorem dX5_compareSquare_46 : decode cX5_compareSquare 46 = .ok (.istore 6, 2) := by decide +kernel
theorem dX5_compareSquare_48 : decode cX5_compareSquare 48 = .ok (.lload 4, 2) := by decide +kernel
theorem dX5_compareSquare_50 : decode cX5_compareSquare 50 = .ok (.lload 4, 2) := by decide +kernel
theorem dX5_compareSquare_52 : decode cX5_compareSquare 52 = .ok (.invokestatic 200, 3) := by decide +kernel
theorem dX5_compareSquare_55 : decode cX5_compareSquare 55 = .ok (.lstore 7, 2) := by decide +kernel
theorem dX5_compareSquare_57 : decode cX5_compareSquare 57 = .ok (.lload 4, 2) := by decide +kernel
theorem dX5_compareSquare_59 : decode cX5_compareSquare 59 = .ok (.lload 4, 2) := by decide +kernel
theorem dX5_compareSquare_61 : decode cX5_compareSquare 61 = .ok (.lmul, 1) := by decide +kernel
theorem dX5_compareSquare_62 : decode cX5_compareSquare 62 = .ok (.lstore 9, 2) := by decide +kernel
theorem dX5_compareSquare_64 : decode cX5_compareSquare 64 = .ok (.sipush 151, 3) := by decide +kernel
theorem dX5_compareSquare_67 : decode cX5_compareSquare 67 = .ok (.istore 11, 2) := by decide +kernel
theorem dX5_compareSquare_69 : decode cX5_compareSquare 69 = .ok (.iload 11, 2) := by decide +kernel
theorem dX5_compareSquare_71 : decode cX5_compareSquare 71 = .ok (.ifCond .lt 104, 3) := by decide +kernel
theorem dX5_compareSquare_74 : decode cX5_compareSquare 74 = .ok (.iconst 0, 1) := by decide +kernel
theorem dX5_compareSquare_75 : decode cX5_compareSquare 75 = .ok (.istore 12, 2) := by decide +kernel
theorem dX5_compareSquare_77 : decode cX5_compareSquare 77 = .ok (.bipush 31, 2) := by decide +kernel
theorem dX5_compareSquare_79 : decode cX5_compareSquare 79 = .ok (.istore 13, 2) := by decide +kernel
theorem dX5_compareSquare_81 : decode cX5_compareSquare 81 = .ok (.iload 13, 2) := by decide +kernel
theorem dX5_compareSquare_83 : decode cX5_compareSquare 83 = .ok (.ifCond .lt 77, 3) := by decide +kernel
theorem dX5_compareSquare_86 : decode cX5_compareSquare 86 = .ok (.bipush 32, 2) := by decide +kernel
theorem dX5_compareSquare_88 : decode cX5_compareSquare 88 = .ok (.iload 11, 2) := by decide +kernel
theorem dX5_compareSquare_90 : decode cX5_compareSquare 90 = .ok (.imul, 1) := by decide +kernel
theorem dX5_compareSquare_91 : decode cX5_compareSquare 91 = .ok (.iload 13, 2) := by decide +kernel
theorem dX5_compareSquare_93 : decode cX5_compareSquare 93 = .ok (.iadd, 1) := by decide +kernel
theorem dX5_compareSquare_94 : decode cX5_compareSquare 94 = .ok (.iload 6, 2) := by decide +kernel
theorem dX5_compareSquare_96 : decode cX5_compareSquare 96 = .ok (.isub, 1) := by decide +kernel
theorem dX5_compareSquare_97 : decode cX5_compareSquare 97 = .ok (.istore 14, 2) := by decide +kernel
theorem dX5_compareSquare_99 : decode cX5_compareSquare 99 = .ok (.iload 14, 2) := by decide +kernel
theorem dX5_compareSquare_101 : decode cX5_compareSquare 101 = .ok (.ifCond .lt 10, 3) := by decide +kernel
theorem dX5_compareSquare_104 : decode cX5_compareSquare 104 = .ok (.iload 14, 2) := by decide +kernel
theorem dX5_compareSquare_106 : decode cX5_compareSquare 106 = .ok (.bipush 127, 2) := by decide +kernel
theorem dX5_compareSquare_108 : decode cX5_compareSquare 108 = .ok (.if_icmp .le 7, 3) := by decide +kernel
theorem dX5_compareSquare_111 : decode cX5_compareSquare 111 = .ok (.lconst 0, 1) := by decide +kernel
theorem dX5_compareSquare_112 : decode cX5_compareSquare 112 = .ok (.goto 30, 3) := by decide +kernel
theorem dX5_compareSquare_115 : decode cX5_compareSquare 115 = .ok (.iload 14, 2) := by decide +kernel
theorem dX5_compareSquare_117 : decode cX5_compareSquare 117 = .ok (.bipush 64, 2) := by decide +kernel
theorem dX5_compareSquare_119 : decode cX5_compareSquare 119 = .ok (.if_icmp .ge 13, 3) := by decide +kernel
theorem dX5_compareSquare_122 : decode cX5_compareSquare 122 = .ok (.lload 9, 2) := by decide +kernel
theorem dX5_compareSquare_124 : decode cX5_compareSquare 124 = .ok (.iload 14, 2) := by decide +kernel
theorem dX5_compareSquare_126 : decode cX5_compareSquare 126 = .ok (.lushr, 1) := by decide +kernel
theorem dX5_compareSquare_127 : decode cX5_compareSquare 127 = .ok (.lconst 1, 1) := by decide +kernel
theorem dX5_compareSquare_128 : decode cX5_compareSquare 128 = .ok (.land, 1) := by decide +kernel
theorem dX5_compareSquare_129 : decode cX5_compareSquare 129 = .ok (.goto 13, 3) := by decide +kernel
theorem dX5_compareSquare_132 : decode cX5_compareSquare 132 = .ok (.lload 7, 2) := by decide +kernel
theorem dX5_compareSquare_134 : decode cX5_compareSquare 134 = .ok (.iload 14, 2) := by decide +kernel
theorem dX5_compareSquare_136 : decode cX5_compareSquare 136 = .ok (.bipush 64, 2) := by decide +kernel
theorem dX5_compareSquare_138 : decode cX5_compareSquare 138 = .ok (.isub, 1) := by decide +kernel
theorem dX5_compareSquare_139 : decode cX5_compareSquare 139 = .ok (.lushr, 1) := by decide +kernel
theorem dX5_compareSquare_140 : decode cX5_compareSquare 140 = .ok (.lconst 1, 1) := by decide +kernel
theorem dX5_compareSquare_141 : decode cX5_compareSquare 141 = .ok (.land, 1) := by decide +kernel
theorem dX5_compareSquare_142 : decode cX5_compareSquare 142 = .ok (.lstore 15, 2) := by decide +kernel
theorem dX5_compareSquare_144 : decode cX5_compareSquare 144 = .ok (.iload 12, 2) := by decide +kernel
theorem dX5_compareSquare_146 : decode cX5_compareSquare 146 = .ok (.iconst 1, 1) := by decide +kernel
theorem dX5_compareSquare_147 : decode cX5_compareSquare 147 = .ok (.ishl, 1) := by decide +kernel
theorem dX5_compareSquare_148 : decode cX5_compareSquare 148 = .ok (.lload 15, 2) := by decide +kernel
theorem dX5_compareSquare_150 : decode cX5_compareSquare 150 = .ok (.l2i, 1) := by decide +kernel
theorem dX5_compareSquare_151 : decode cX5_compareSquare 151 = .ok (.ior, 1) := by decide +kernel
theorem dX5_compareSquare_152 : decode cX5_compareSquare 152 = .ok (.istore 12, 2) := by decide +kernel
theorem dX5_compareSquare_154 : decode cX5_compareSquare 154 = .ok (.iinc 13 (-1), 3) := by decide +kernel
theorem dX5_compareSquare_157 : decode cX5_compareSquare 157 = .ok (.goto (-76), 3) := by decide +kernel
theorem dX5_compareSquare_160 : decode cX5_compareSquare 160 = .ok (.aload_n 0, 1) := by decide +kernel
theorem dX5_compareSquare_161 : decode cX5_compareSquare 161 = .ok (.getfield 51, 3) := by decide +kernel
theorem dX5_compareSquare_164 : decode cX5_compareSquare 164 = .ok (.iload 11, 2) := by decide +kernel
theorem dX5_compareSquare_166 : decode cX5_compareSquare 166 = .ok (.iload 12, 2) := by decide +kernel
theorem dX5_compareSquare_168 : decode cX5_compareSquare 168 = .ok (.iastore, 1) := by decide +kernel
theorem dX5_compareSquare_169 : decode cX5_compareSquare 169 = .ok (.iinc 11 (-1), 3) := by decide +kernel
theorem dX5_compareSquare_172 : decode cX5_compareSquare 172 = .ok (.goto (-103), 3) := by decide +kernel
theorem dX5_compareSquare_175 : decode cX5_compareSquare 175 = .ok (.sipush 151, 3) := by decide +kernel
theorem dX5_compareSquare_178 : decode cX5_compareSquare 178 = .ok (.istore 11, 2) := by decide +kernel
theorem dX5_compareSquare_180 : decode cX5_compareSquare 180 = .ok (.iload 11, 2) := by decide +kernel
theorem dX5_compareSquare_182 : decode cX5_compareSquare 182 = .ok (.ifCond .lt 60, 3) := by decide +kernel
theorem dX5_compareSquare_185 : decode cX5_compareSquare 185 = .ok (.aload_n 0, 1) := by decide +kernel
theorem dX5_compareSquare_186 : decode cX5_compareSquare 186 = .ok (.getfield 51, 3) := by decide +kernel
theorem dX5_compareSquare_189 : decode cX5_compareSquare 189 = .ok (.iload 11, 2) := by decide +kernel
theorem dX5_compareSquare_191 : decode cX5_compareSquare 191 = .ok (.iaload, 1) := by decide +kernel
theorem dX5_compareSquare_192 : decode cX5_compareSquare 192 = .ok (.aload_n 0, 1) := by decide +kernel
theorem dX5_compareSquare_193 : decode cX5_compareSquare 193 = .ok (.getfield 48, 3) := by decide +kernel
theorem dX5_compareSquare_196 : decode cX5_compareSquare 196 = .ok (.iload 11, 2) := by decide +kernel
theorem dX5_compareSquare_198 : decode cX5_compareSquare 198 = .ok (.iaload, 1) := by decide +kernel
theorem dX5_compareSquare_199 : decode cX5_compareSquare 199 = .ok (.if_icmp .eq 37, 3) := by decide +kernel
theorem dX5_compareSquare_202 : decode cX5_compareSquare 202 = .ok (.aload_n 0, 1) := by decide +kernel
theorem dX5_compareSquare_203 : decode cX5_compareSquare 203 = .ok (.getfield 51, 3) := by decide +kernel
theorem dX5_compareSquare_206 : decode cX5_compareSquare 206 = .ok (.iload 11, 2) := by decide +kernel
theorem dX5_compareSquare_208 : decode cX5_compareSquare 208 = .ok (.iaload, 1) := by decide +kernel
theorem dX5_compareSquare_209 : decode cX5_compareSquare 209 = .ok (.i2l, 1) := by decide +kernel
theorem dX5_compareSquare_210 : decode cX5_compareSquare 210 = .ok (.ldc2_w 150, 3) := by decide +kernel
theorem dX5_compareSquare_213 : decode cX5_compareSquare 213 = .ok (.land, 1) := by decide +kernel
theorem dX5_compareSquare_214 : decode cX5_compareSquare 214 = .ok (.aload_n 0, 1) := by decide +kernel
theorem dX5_compareSquare_215 : decode cX5_compareSquare 215 = .ok (.getfield 48, 3) := by decide +kernel
theorem dX5_compareSquare_218 : decode cX5_compareSquare 218 = .ok (.iload 11, 2) := by decide +kernel
theorem dX5_compareSquare_220 : decode cX5_compareSquare 220 = .ok (.iaload, 1) := by decide +kernel
theorem dX5_compareSquare_221 : decode cX5_compareSquare 221 = .ok (.i2l, 1) := by decide +kernel
theorem dX5_compareSquare_222 : decode cX5_compareSquare 222 = .ok (.ldc2_w 150, 3) := by decide +kernel
theorem dX5_compareSquare_225 : decode cX5_compareSquare 225 = .ok (.land, 1) := by decide +kernel
theorem dX5_compareSquare_226 : decode cX5_compareSquare 226 = .ok (.lcmp, 1) := by decide +kernel
theorem dX5_compareSquare_227 : decode cX5_compareSquare 227 = .ok (.ifCond .ge 7, 3) := by decide +kernel
theorem dX5_compareSquare_230 : decode cX5_compareSquare 230 = .ok (.iconst (-1), 1) := by decide +kernel
theorem dX5_compareSquare_231 : decode cX5_compareSquare 231 = .ok (.goto 4, 3) := by decide +kernel
theorem dX5_compareSquare_234 : decode cX5_compareSquare 234 = .ok (.iconst 1, 1) := by decide +kernel
theorem dX5_compareSquare_235 : decode cX5_compareSquare 235 = .ok (.ireturn, 1) := by decide +kernel
theorem dX5_compareSquare_236 : decode cX5_compareSquare 236 = .ok (.iinc 11 (-1), 3) := by decide +kernel
theorem dX5_compareSquare_239 : decode cX5_compareSquare 239 = .ok (.goto (-59), 3) := by decide +kernel
theorem dX5_compareSquare_242 : decode cX5_compareSquare 242 = .ok (.iconst 0, 1) := by decide +kernel
theorem dX5_compareSquare_243 : decode cX5_compareSquare 243 = .ok (.ireturn, 1) := by decide +kernel
theorem dX5_doubleOf_0 : decode cX5_doubleOf 0 = .ok (.lload_n 1, 1) := by decide +kernel
theorem dX5_doubleOf_1 : decode cX5_doubleOf 1 = .ok (.bipush 52, 2) := by decide +kernel
theorem dX5_doubleOf_3 : decode cX5_doubleOf 3 = .ok (.lshr, 1) := by decide +kernel
theorem dX5_doubleOf_4 : decode cX5_doubleOf 4 = .ok (.l2i, 1) := by decide +kernel
theorem dX5_doubleOf_5 : decode cX5_doubleOf 5 = .ok (.istore_n 3, 1) := by decide +kernel
theorem dX5_doubleOf_6 : decode cX5_doubleOf 6 = .ok (.lload_n 1, 1) := by decide +kernel
theorem dX5_doubleOf_7 : decode cX5_doubleOf 7 = .ok (.ldc2_w 257, 3) := by decide +kernel
theorem dX5_doubleOf_10 : decode cX5_doubleOf 10 = .ok (.land, 1) := by decide +kernel
theorem dX5_doubleOf_11 : decode cX5_doubleOf 11 = .ok (.lstore 4, 2) := by decide +kernel
theorem dX5_doubleOf_13 : decode cX5_doubleOf 13 = .ok (.iload_n 3, 1) := by decide +kernel
theorem dX5_doubleOf_14 : decode cX5_doubleOf 14 = .ok (.ifCond .ne 14, 3) := by decide +kernel
theorem dX5_doubleOf_17 : decode cX5_doubleOf 17 = .ok (.lload 4, 2) := by decide +kernel
theorem dX5_doubleOf_19 : decode cX5_doubleOf 19 = .ok (.sipush (-1074), 3) := by decide +kernel
theorem dX5_doubleOf_22 : decode cX5_doubleOf 22 = .ok (.invokestatic 89, 3) := by decide +kernel
theorem dX5_doubleOf_25 : decode cX5_doubleOf 25 = .ok (.goto 17, 3) := by decide +kernel
theorem dX5_doubleOf_28 : decode cX5_doubleOf 28 = .ok (.lload 4, 2) := by decide +kernel
theorem dX5_doubleOf_30 : decode cX5_doubleOf 30 = .ok (.ldc2_w 259, 3) := by decide +kernel
theorem dX5_doubleOf_33 : decode cX5_doubleOf 33 = .ok (.ladd, 1) := by decide +kernel
theorem dX5_doubleOf_34 : decode cX5_doubleOf 34 = .ok (.iload_n 3, 1) := by decide +kernel
theorem dX5_doubleOf_35 : decode cX5_doubleOf 35 = .ok (.sipush 1075, 3) := by decide +kernel
theorem dX5_doubleOf_38 : decode cX5_doubleOf 38 = .ok (.isub, 1) := by decide +kernel
theorem dX5_doubleOf_39 : decode cX5_doubleOf 39 = .ok (.invokestatic 89, 3) := by decide +kernel
theorem dX5_doubleOf_42 : decode cX5_doubleOf 42 = .ok (.dreturn, 1) := by decide +kernel
theorem dX5_length_0 : decode cX5_length 0 = .ok (.aload_n 0, 1) := by decide +kernel
theorem dX5_length_1 : decode cX5_length 1 = .ok (.iconst 0, 1) := by decide +kernel
theorem dX5_length_2 : decode cX5_length 2 = .ok (.putfield 54, 3) := by decide +kernel
theorem dX5_length_5 : decode cX5_length 5 = .ok (.iload_n 1, 1) := by decide +kernel
theorem dX5_length_6 : decode cX5_length 6 = .ok (.invokestatic 136, 3) := by decide +kernel
theorem dX5_length_9 : decode cX5_length 9 = .ok (.ifCond .eq 22, 3) := by decide +kernel
theorem dX5_length_12 : decode cX5_length 12 = .ok (.aload_n 0, 1) := by decide +kernel
theorem dX5_length_13 : decode cX5_length 13 = .ok (.getfield 27, 3) := by decide +kernel
theorem dX5_length_16 : decode cX5_length 16 = .ok (.iload_n 1, 1) := by decide +kernel
theorem dX5_length_17 : decode cX5_length 17 = .ok (.iaload, 1) := by decide +kernel
theorem dX5_length_18 : decode cX5_length 18 = .ok (.iconst (-1), 1) := by decide +kernel
theorem dX5_length_19 : decode cX5_length 19 = .ok (.if_icmp .eq 12, 3) := by decide +kernel
theorem dX5_length_22 : decode cX5_length 22 = .ok (.aload_n 0, 1) := by decide +kernel
theorem dX5_length_23 : decode cX5_length 23 = .ok (.getfield 27, 3) := by decide +kernel
theorem dX5_length_26 : decode cX5_length 26 = .ok (.iload_n 1, 1) := by decide +kernel
theorem dX5_length_27 : decode cX5_length 27 = .ok (.iaload, 1) := by decide +kernel
theorem dX5_length_28 : decode cX5_length 28 = .ok (.ifCond .ne 5, 3) := by decide +kernel
theorem dX5_length_31 : decode cX5_length 31 = .ok (.dconst 0, 1) := by decide +kernel
theorem dX5_length_32 : decode cX5_length 32 = .ok (.dreturn, 1) := by decide +kernel
theorem dX5_length_33 : decode cX5_length 33 = .ok (.aload_n 0, 1) := by decide +kernel
theorem dX5_length_34 : decode cX5_length 34 = .ok (.iload_n 1, 1) := by decide +kernel
theorem dX5_length_35 : decode cX5_length 35 = .ok (.invokevirtual 229, 3) := by decide +kernel
theorem dX5_length_38 : decode cX5_length 38 = .ok (.istore_n 3, 1) := by decide +kernel
theorem dX5_length_39 : decode cX5_length 39 = .ok (.iload_n 3, 1) := by decide +kernel
theorem dX5_length_40 : decode cX5_length 40 = .ok (.ifCond .eq 16, 3) := by decide +kernel
theorem dX5_length_43 : decode cX5_length 43 = .ok (.iload_n 3, 1) := by decide +kernel
theorem dX5_length_44 : decode cX5_length 44 = .ok (.iconst 1, 1) := by decide +kernel
theorem dX5_length_45 : decode cX5_length 45 = .ok (.if_icmp .ne 9, 3) := by decide +kernel
theorem dX5_length_48 : decode cX5_length 48 = .ok (.ldc2_w 122, 3) := by decide +kernel
theorem dX5_length_51 : decode cX5_length 51 = .ok (.goto 4, 3) := by decide +kernel
theorem dX5_length_54 : decode cX5_length 54 = .ok (.dconst 0, 1) := by decide +kernel
theorem dX5_length_55 : decode cX5_length 55 = .ok (.dreturn, 1) := by decide +kernel
theorem dX5_length_56 : decode cX5_length 56 = .ok (.aload_n 0, 1) := by decide +kernel
theorem dX5_length_57 : decode cX5_length 57 = .ok (.iload_n 1, 1) := by decide +kernel
theorem dX5_length_58 : decode cX5_length 58 = .ok (.invokevirtual 248, 3) := by decide +kernel
theorem dX5_length_61 : decode cX5_length 61 = .ok (.aload_n 0, 1) := by decide +kernel
theorem dX5_length_62 : decode cX5_length 62 = .ok (.getfield 231, 3) := by decide +kernel
theorem dX5_length_65 : decode cX5_length 65 = .ok (.ifCond .eq 5, 3) := by decide +kernel
theorem dX5_length_68 : decode cX5_length 68 = .ok (.dconst 0, 1) := by decide +kernel
theorem dX5_length_69 : decode cX5_length 69 = .ok (.dreturn, 1) := by decide +kernel
theorem dX5_length_70 : decode cX5_length 70 = .ok (.ldc2_w 261, 3) := by decide +kernel
theorem dX5_length_73 : decode cX5_length 73 = .ok (.lstore 4, 2) := by decide +kernel
theorem dX5_length_75 : decode cX5_length 75 = .ok (.lconst 0, 1) := by decide +kernel
theorem dX5_length_76 : decode cX5_length 76 = .ok (.lstore 6, 2) := by decide +kernel
theorem dX5_length_78 : decode cX5_length 78 = .ok (.lload 4, 2) := by decide +kernel
theorem dX5_length_80 : decode cX5_length 80 = .ok (.lstore 8, 2) := by decide +kernel
theorem dX5_length_82 : decode cX5_length 82 = .ok (.lload 6, 2) := by decide +kernel
theorem dX5_length_84 : decode cX5_length 84 = .ok (.lload 8, 2) := by decide +kernel
theorem dX5_length_86 : decode cX5_length 86 = .ok (.lcmp, 1) := by decide +kernel
theorem dX5_length_87 : decode cX5_length 87 = .ok (.ifCond .ge 44, 3) := by decide +kernel
theorem dX5_length_90 : decode cX5_length 90 = .ok (.lload 6, 2) := by decide +kernel
theorem dX5_length_92 : decode cX5_length 92 = .ok (.lload 8, 2) := by decide +kernel
theorem dX5_length_94 : decode cX5_length 94 = .ok (.lload 6, 2) := by decide +kernel
theorem dX5_length_96 : decode cX5_length 96 = .ok (.lsub, 1) := by decide +kernel
theorem dX5_length_97 : decode cX5_length 97 = .ok (.lconst 1, 1) := by decide +kernel
theorem dX5_length_98 : decode cX5_length 98 = .ok (.ladd, 1) := by decide +kernel
theorem dX5_length_99 : decode cX5_length 99 = .ok (.ldc2_w 139, 3) := by decide +kernel
theorem dX5_length_102 : decode cX5_length 102 = .ok (.ldiv, 1) := by decide +kernel
theorem dX5_length_103 : decode cX5_length 103 = .ok (.ladd, 1) := by decide +kernel
theorem dX5_length_104 : decode cX5_length 104 = .ok (.lstore 10, 2) := by decide +kernel
theorem dX5_length_106 : decode cX5_length 106 = .ok (.aload_n 0, 1) := by decide +kernel
theorem dX5_length_107 : decode cX5_length 107 = .ok (.lload 10, 2) := by decide +kernel
theorem dX5_length_109 : decode cX5_length 109 = .ok (.invokevirtual 263, 3) := by decide +kernel
theorem dX5_length_112 : decode cX5_length 112 = .ok (.ifCond .gt 10, 3) := by decide +kernel
theorem dX5_length_115 : decode cX5_length 115 = .ok (.lload 10, 2) := by decide +kernel
theorem dX5_length_117 : decode cX5_length 117 = .ok (.lstore 6, 2) := by decide +kernel
theorem dX5_length_119 : decode cX5_length 119 = .ok (.goto 9, 3) := by decide +kernel
theorem dX5_length_122 : decode cX5_length 122 = .ok (.lload 10, 2) := by decide +kernel
theorem dX5_length_124 : decode cX5_length 124 = .ok (.lconst 1, 1) := by decide +kernel
theorem dX5_length_125 : decode cX5_length 125 = .ok (.lsub, 1) := by decide +kernel
theorem dX5_length_126 : decode cX5_length 126 = .ok (.lstore 8, 2) := by decide +kernel
theorem dX5_length_128 : decode cX5_length 128 = .ok (.goto (-46), 3) := by decide +kernel
theorem dX5_length_131 : decode cX5_length 131 = .ok (.iload_n 2, 1) := by decide +kernel
theorem dX5_length_132 : decode cX5_length 132 = .ok (.ifCond .eq 12, 3) := by decide +kernel
theorem dX5_length_135 : decode cX5_length 135 = .ok (.aload_n 0, 1) := by decide +kernel
theorem dX5_length_136 : decode cX5_length 136 = .ok (.lload 6, 2) := by decide +kernel
theorem dX5_length_138 : decode cX5_length 138 = .ok (.invokevirtual 263, 3) := by decide +kernel
theorem dX5_length_141 : decode cX5_length 141 = .ok (.ifCond .ne 10, 3) := by decide +kernel
theorem dX5_length_144 : decode cX5_length 144 = .ok (.aload_n 0, 1) := by decide +kernel
theorem dX5_length_145 : decode cX5_length 145 = .ok (.lload 6, 2) := by decide +kernel
theorem dX5_length_147 : decode cX5_length 147 = .ok (.invokevirtual 267, 3) := by decide +kernel
theorem dX5_length_150 : decode cX5_length 150 = .ok (.dreturn, 1) := by decide +kernel
theorem dX5_length_151 : decode cX5_length 151 = .ok (.lload 6, 2) := by decide +kernel
theorem dX5_length_153 : decode cX5_length 153 = .ok (.lload 4, 2) := by decide +kernel
theorem dX5_length_155 : decode cX5_length 155 = .ok (.lcmp, 1) := by decide +kernel
theorem dX5_length_156 : decode cX5_length 156 = .ok (.ifCond .ne 9, 3) := by decide +kernel
theorem dX5_length_159 : decode cX5_length 159 = .ok (.ldc2_w 122, 3) := by decide +kernel
theorem dX5_length_162 : decode cX5_length 162 = .ok (.goto 11, 3) := by decide +kernel
theorem dX5_length_165 : decode cX5_length 165 = .ok (.aload_n 0, 1) := by decide +kernel
theorem dX5_length_166 : decode cX5_length 166 = .ok (.lload 6, 2) := by decide +kernel
theorem dX5_length_168 : decode cX5_length 168 = .ok (.lconst 1, 1) := by decide +kernel
theorem dX5_length_169 : decode cX5_length 169 = .ok (.ladd, 1) := by decide +kernel
theorem dX5_length_170 : decode cX5_length 170 = .ok (.invokevirtual 267, 3) := by decide +kernel
theorem dX5_length_173 : decode cX5_length 173 = .ok (.dreturn, 1) := by decide +kernel
theorem dX5_sign_0 : decode cX5_sign 0 = .ok (.aload_n 0, 1) := by decide +kernel
theorem dX5_sign_1 : decode cX5_sign 1 = .ok (.iconst 0, 1) := by decide +kernel
theorem dX5_sign_2 : decode cX5_sign 2 = .ok (.putfield 54, 3) := by decide +kernel
theorem dX5_sign_5 : decode cX5_sign 5 = .ok (.iload_n 1, 1) := by decide +kernel
theorem dX5_sign_6 : decode cX5_sign 6 = .ok (.invokestatic 136, 3) := by decide +kernel
theorem dX5_sign_9 : decode cX5_sign 9 = .ok (.ifCond .ne 6, 3) := by decide +kernel
theorem dX5_sign_12 : decode cX5_sign 12 = .ok (.bipush (-3), 2) := by decide +kernel
theorem dX5_sign_14 : decode cX5_sign 14 = .ok (.ireturn, 1) := by decide +kernel
theorem dX5_sign_15 : decode cX5_sign 15 = .ok (.aload_n 0, 1) := by decide +kernel
theorem dX5_sign_16 : decode cX5_sign 16 = .ok (.getfield 27, 3) := by decide +kernel
theorem dX5_sign_19 : decode cX5_sign 19 = .ok (.iload_n 1, 1) := by decide +kernel
theorem dX5_sign_20 : decode cX5_sign 20 = .ok (.iaload, 1) := by decide +kernel
theorem dX5_sign_21 : decode cX5_sign 21 = .ok (.iconst (-1), 1) := by decide +kernel
theorem dX5_sign_22 : decode cX5_sign 22 = .ok (.if_icmp .ne 6, 3) := by decide +kernel
theorem dX5_sign_25 : decode cX5_sign 25 = .ok (.bipush (-11), 2) := by decide +kernel
theorem dX5_sign_27 : decode cX5_sign 27 = .ok (.ireturn, 1) := by decide +kernel
theorem dX5_sign_28 : decode cX5_sign 28 = .ok (.aload_n 0, 1) := by decide +kernel
theorem dX5_sign_29 : decode cX5_sign 29 = .ok (.iload_n 1, 1) := by decide +kernel
theorem dX5_sign_30 : decode cX5_sign 30 = .ok (.invokevirtual 248, 3) := by decide +kernel
theorem dX5_sign_33 : decode cX5_sign 33 = .ok (.aload_n 0, 1) := by decide +kernel
theorem dX5_sign_34 : decode cX5_sign 34 = .ok (.invokevirtual 240, 3) := by decide +kernel
theorem dX5_sign_37 : decode cX5_sign 37 = .ok (.iconst (-1), 1) := by decide +kernel
theorem dX5_sign_38 : decode cX5_sign 38 = .ok (.if_icmp .ne 7, 3) := by decide +kernel
theorem dX5_sign_41 : decode cX5_sign 41 = .ok (.iconst 0, 1) := by decide +kernel
theorem dX5_sign_42 : decode cX5_sign 42 = .ok (.goto 15, 3) := by decide +kernel
theorem dX5_sign_45 : decode cX5_sign 45 = .ok (.aload_n 0, 1) := by decide +kernel
theorem dX5_sign_46 : decode cX5_sign 46 = .ok (.getfield 231, 3) := by decide +kernel
theorem dX5_sign_49 : decode cX5_sign 49 = .ok (.ifCond .eq 7, 3) := by decide +kernel
theorem dX5_sign_52 : decode cX5_sign 52 = .ok (.iconst 2, 1) := by decide +kernel
theorem dX5_sign_53 : decode cX5_sign 53 = .ok (.goto 4, 3) := by decide +kernel
theorem dX5_sign_56 : decode cX5_sign 56 = .ok (.iconst 1, 1) := by decide +kernel
theorem dX5_sign_57 : decode cX5_sign 57 = .ok (.ireturn, 1) := by decide +kernel
theorem dX5_high_0 : decode cX5_high 0 = .ok (.aload_n 0, 1) := by decide +kernel
theorem dX5_high_1 : decode cX5_high 1 = .ok (.iconst 0, 1) := by decide +kernel
theorem dX5_high_2 : decode cX5_high 2 = .ok (.putfield 54, 3) := by decide +kernel
theorem dX5_high_5 : decode cX5_high 5 = .ok (.iload_n 1, 1) := by decide +kernel
theorem dX5_high_6 : decode cX5_high 6 = .ok (.invokestatic 136, 3) := by decide +kernel
theorem dX5_high_9 : decode cX5_high 9 = .ok (.ifCond .ne 7, 3) := by decide +kernel
theorem dX5_high_12 : decode cX5_high 12 = .ok (.sipush (-10002), 3) := by decide +kernel
theorem dX5_high_15 : decode cX5_high 15 = .ok (.ireturn, 1) := by decide +kernel
theorem dX5_high_16 : decode cX5_high 16 = .ok (.aload_n 0, 1) := by decide +kernel
theorem dX5_high_17 : decode cX5_high 17 = .ok (.getfield 27, 3) := by decide +kernel
theorem dX5_high_20 : decode cX5_high 20 = .ok (.iload_n 1, 1) := by decide +kernel
theorem dX5_high_21 : decode cX5_high 21 = .ok (.iaload, 1) := by decide +kernel
theorem dX5_high_22 : decode cX5_high 22 = .ok (.iconst (-1), 1) := by decide +kernel
theorem dX5_high_23 : decode cX5_high 23 = .ok (.if_icmp .ne 7, 3) := by decide +kernel
theorem dX5_high_26 : decode cX5_high 26 = .ok (.sipush (-10010), 3) := by decide +kernel
theorem dX5_high_29 : decode cX5_high 29 = .ok (.ireturn, 1) := by decide +kernel
theorem dX5_high_30 : decode cX5_high 30 = .ok (.aload_n 0, 1) := by decide +kernel
theorem dX5_high_31 : decode cX5_high 31 = .ok (.iload_n 1, 1) := by decide +kernel
theorem dX5_high_32 : decode cX5_high 32 = .ok (.invokevirtual 248, 3) := by decide +kernel
theorem dX5_high_35 : decode cX5_high 35 = .ok (.aload_n 0, 1) := by decide +kernel
theorem dX5_high_36 : decode cX5_high 36 = .ok (.invokevirtual 240, 3) := by decide +kernel
theorem dX5_high_39 : decode cX5_high 39 = .ok (.istore_n 2, 1) := by decide +kernel
theorem dX5_high_40 : decode cX5_high 40 = .ok (.iload_n 2, 1) := by decide +kernel
theorem dX5_high_41 : decode cX5_high 41 = .ok (.iconst (-1), 1) := by decide +kernel
theorem dX5_high_42 : decode cX5_high 42 = .ok (.if_icmp .ne 9, 3) := by decide +kernel
theorem dX5_high_45 : decode cX5_high 45 = .ok (.sipush (-10000), 3) := by decide +kernel
theorem dX5_high_48 : decode cX5_high 48 = .ok (.goto 8, 3) := by decide +kernel
theorem dX5_high_51 : decode cX5_high 51 = .ok (.iload_n 2, 1) := by decide +kernel
theorem dX5_high_52 : decode cX5_high 52 = .ok (.sipush 2148, 3) := by decide +kernel
theorem dX5_high_55 : decode cX5_high 55 = .ok (.isub, 1) := by decide +kernel
theorem dX5_high_56 : decode cX5_high 56 = .ok (.ireturn, 1) := by decide +kernel
theorem dX5_bit_0 : decode cX5_bit 0 = .ok (.aload_n 0, 1) := by decide +kernel
theorem dX5_bit_1 : decode cX5_bit 1 = .ok (.iconst 0, 1) := by decide +kernel
theorem dX5_bit_2 : decode cX5_bit 2 = .ok (.putfield 54, 3) := by decide +kernel
theorem dX5_bit_5 : decode cX5_bit 5 = .ok (.iload_n 1, 1) := by decide +kernel
theorem dX5_bit_6 : decode cX5_bit 6 = .ok (.invokestatic 136, 3) := by decide +kernel
theorem dX5_bit_9 : decode cX5_bit 9 = .ok (.ifCond .eq 17, 3) := by decide +kernel
theorem dX5_bit_12 : decode cX5_bit 12 = .ok (.iload_n 2, 1) := by decide +kernel
theorem dX5_bit_13 : decode cX5_bit 13 = .ok (.i2l, 1) := by decide +kernel
theorem dX5_bit_14 : decode cX5_bit 14 = .ok (.ldc2_w 271, 3) := by decide +kernel
theorem dX5_bit_17 : decode cX5_bit 17 = .ok (.ldc2_w 273, 3) := by decide +kernel
theorem dX5_bit_20 : decode cX5_bit 20 = .ok (.invokestatic 60, 3) := by decide +kernel
theorem dX5_bit_23 : decode cX5_bit 23 = .ok (.ifCond .ne 6, 3) := by decide +kernel
theorem dX5_bit_26 : decode cX5_bit 26 = .ok (.bipush (-3), 2) := by decide +kernel
theorem dX5_bit_28 : decode cX5_bit 28 = .ok (.ireturn, 1) := by decide +kernel
theorem dX5_bit_29 : decode cX5_bit 29 = .ok (.aload_n 0, 1) := by decide +kernel
theorem dX5_bit_30 : decode cX5_bit 30 = .ok (.getfield 27, 3) := by decide +kernel
theorem dX5_bit_33 : decode cX5_bit 33 = .ok (.iload_n 1, 1) := by decide +kernel
theorem dX5_bit_34 : decode cX5_bit 34 = .ok (.iaload, 1) := by decide +kernel
theorem dX5_bit_35 : decode cX5_bit 35 = .ok (.iconst (-1), 1) := by decide +kernel
theorem dX5_bit_36 : decode cX5_bit 36 = .ok (.if_icmp .ne 6, 3) := by decide +kernel
theorem dX5_bit_39 : decode cX5_bit 39 = .ok (.bipush (-11), 2) := by decide +kernel
theorem dX5_bit_41 : decode cX5_bit 41 = .ok (.ireturn, 1) := by decide +kernel
theorem dX5_bit_42 : decode cX5_bit 42 = .ok (.aload_n 0, 1) := by decide +kernel
theorem dX5_bit_43 : decode cX5_bit 43 = .ok (.iload_n 1, 1) := by decide +kernel
theorem dX5_bit_44 : decode cX5_bit 44 = .ok (.invokevirtual 248, 3) := by decide +kernel
theorem dX5_bit_47 : decode cX5_bit 47 = .ok (.aload_n 0, 1) := by decide +kernel
theorem dX5_bit_48 : decode cX5_bit 48 = .ok (.iload_n 2, 1) := by decide +kernel
theorem dX5_bit_49 : decode cX5_bit 49 = .ok (.sipush 2148, 3) := by decide +kernel
theorem dX5_bit_52 : decode cX5_bit 52 = .ok (.iadd, 1) := by decide +kernel
theorem dX5_bit_53 : decode cX5_bit 53 = .ok (.invokevirtual 237, 3) := by decide +kernel
theorem dX5_bit_56 : decode cX5_bit 56 = .ok (.ireturn, 1) := by decide +kernel
theorem dX5_order_0 : decode cX5_order 0 = .ok (.aload_n 0, 1) := by decide +kernel
theorem dX5_order_1 : decode cX5_order 1 = .ok (.iconst 0, 1) := by decide +kernel
theorem dX5_order_2 : decode cX5_order 2 = .ok (.putfield 54, 3) := by decide +kernel
theorem dX5_order_5 : decode cX5_order 5 = .ok (.iload_n 1, 1) := by decide +kernel
theorem dX5_order_6 : decode cX5_order 6 = .ok (.invokestatic 136, 3) := by decide +kernel
theorem dX5_order_9 : decode cX5_order 9 = .ok (.ifCond .eq 10, 3) := by decide +kernel
theorem dX5_order_12 : decode cX5_order 12 = .ok (.iload_n 2, 1) := by decide +kernel
theorem dX5_order_13 : decode cX5_order 13 = .ok (.invokestatic 136, 3) := by decide +kernel
theorem dX5_order_16 : decode cX5_order 16 = .ok (.ifCond .ne 6, 3) := by decide +kernel
theorem dX5_order_19 : decode cX5_order 19 = .ok (.bipush (-3), 2) := by decide +kernel
theorem dX5_order_21 : decode cX5_order 21 = .ok (.ireturn, 1) := by decide +kernel
theorem dX5_order_22 : decode cX5_order 22 = .ok (.aload_n 0, 1) := by decide +kernel
theorem dX5_order_23 : decode cX5_order 23 = .ok (.getfield 27, 3) := by decide +kernel
theorem dX5_order_26 : decode cX5_order 26 = .ok (.iload_n 1, 1) := by decide +kernel
theorem dX5_order_27 : decode cX5_order 27 = .ok (.iaload, 1) := by decide +kernel
theorem dX5_order_28 : decode cX5_order 28 = .ok (.iconst (-1), 1) := by decide +kernel
theorem dX5_order_29 : decode cX5_order 29 = .ok (.if_icmp .eq 13, 3) := by decide +kernel
theorem dX5_order_32 : decode cX5_order 32 = .ok (.aload_n 0, 1) := by decide +kernel
theorem dX5_order_33 : decode cX5_order 33 = .ok (.getfield 27, 3) := by decide +kernel
theorem dX5_order_36 : decode cX5_order 36 = .ok (.iload_n 2, 1) := by decide +kernel
theorem dX5_order_37 : decode cX5_order 37 = .ok (.iaload, 1) := by decide +kernel
theorem dX5_order_38 : decode cX5_order 38 = .ok (.iconst (-1), 1) := by decide +kernel
theorem dX5_order_39 : decode cX5_order 39 = .ok (.if_icmp .ne 6, 3) := by decide +kernel
theorem dX5_order_42 : decode cX5_order 42 = .ok (.bipush (-11), 2) := by decide +kernel
theorem dX5_order_44 : decode cX5_order 44 = .ok (.ireturn, 1) := by decide +kernel
theorem dX5_order_45 : decode cX5_order 45 = .ok (.sipush 152, 3) := by decide +kernel
theorem dX5_order_48 : decode cX5_order 48 = .ok (.iload_n 1, 1) := by decide +kernel
theorem dX5_order_49 : decode cX5_order 49 = .ok (.imul, 1) := by decide +kernel
theorem dX5_order_50 : decode cX5_order 50 = .ok (.sipush 152, 3) := by decide +kernel
theorem dX5_order_53 : decode cX5_order 53 = .ok (.iadd, 1) := by decide +kernel
theorem dX5_order_54 : decode cX5_order 54 = .ok (.iconst 1, 1) := by decide +kernel
theorem dX5_order_55 : decode cX5_order 55 = .ok (.isub, 1) := by decide +kernel
theorem dX5_order_56 : decode cX5_order 56 = .ok (.istore_n 3, 1) := by decide +kernel
theorem dX5_order_57 : decode cX5_order 57 = .ok (.sipush 152, 3) := by decide +kernel
theorem dX5_order_60 : decode cX5_order 60 = .ok (.iload_n 2, 1) := by decide +kernel
theorem dX5_order_61 : decode cX5_order 61 = .ok (.imul, 1) := by decide +kernel
theorem dX5_order_62 : decode cX5_order 62 = .ok (.sipush 152, 3) := by decide +kernel
theorem dX5_order_65 : decode cX5_order 65 = .ok (.iadd, 1) := by decide +kernel
theorem dX5_order_66 : decode cX5_order 66 = .ok (.iconst 1, 1) := by decide +kernel
theorem dX5_order_67 : decode cX5_order 67 = .ok (.isub, 1) := by decide +kernel
theorem dX5_order_68 : decode cX5_order 68 = .ok (.istore 4, 2) := by decide +kernel
theorem dX5_order_70 : decode cX5_order 70 = .ok (.aload_n 0, 1) := by decide +kernel
theorem dX5_order_71 : decode cX5_order 71 = .ok (.getfield 30, 3) := by decide +kernel
theorem dX5_order_74 : decode cX5_order 74 = .ok (.iload_n 3, 1) := by decide +kernel
theorem dX5_order_75 : decode cX5_order 75 = .ok (.iaload, 1) := by decide +kernel
theorem dX5_order_76 : decode cX5_order 76 = .ok (.aload_n 0, 1) := by decide +kernel
theorem dX5_order_77 : decode cX5_order 77 = .ok (.getfield 30, 3) := by decide +kernel
theorem dX5_order_80 : decode cX5_order 80 = .ok (.iload 4, 2) := by decide +kernel
theorem dX5_order_82 : decode cX5_order 82 = .ok (.iaload, 1) := by decide +kernel
theorem dX5_order_83 : decode cX5_order 83 = .ok (.if_icmp .eq 25, 3) := by decide +kernel
theorem dX5_order_86 : decode cX5_order 86 = .ok (.aload_n 0, 1) := by decide +kernel
theorem dX5_order_87 : decode cX5_order 87 = .ok (.getfield 30, 3) := by decide +kernel
theorem dX5_order_90 : decode cX5_order 90 = .ok (.iload_n 3, 1) := by decide +kernel
theorem dX5_order_91 : decode cX5_order 91 = .ok (.iaload, 1) := by decide +kernel
theorem dX5_order_92 : decode cX5_order 92 = .ok (.aload_n 0, 1) := by decide +kernel
theorem dX5_order_93 : decode cX5_order 93 = .ok (.getfield 30, 3) := by decide +kernel
theorem dX5_order_96 : decode cX5_order 96 = .ok (.iload 4, 2) := by decide +kernel
theorem dX5_order_98 : decode cX5_order 98 = .ok (.iaload, 1) := by decide +kernel
theorem dX5_order_99 : decode cX5_order 99 = .ok (.if_icmp .ge 7, 3) := by decide +kernel
theorem dX5_order_102 : decode cX5_order 102 = .ok (.iconst 2, 1) := by decide +kernel
theorem dX5_order_103 : decode cX5_order 103 = .ok (.goto 4, 3) := by decide +kernel
theorem dX5_order_106 : decode cX5_order 106 = .ok (.iconst 3, 1) := by decide +kernel
theorem dX5_order_107 : decode cX5_order 107 = .ok (.ireturn, 1) := by decide +kernel
theorem dX5_order_108 : decode cX5_order 108 = .ok (.iconst 1, 1) := by decide +kernel
theorem dX5_order_109 : decode cX5_order 109 = .ok (.istore 5, 2) := by decide +kernel
theorem dX5_order_111 : decode cX5_order 111 = .ok (.iload 5, 2) := by decide +kernel
theorem dX5_order_113 : decode cX5_order 113 = .ok (.sipush 152, 3) := by decide +kernel
theorem dX5_order_116 : decode cX5_order 116 = .ok (.if_icmp .ge 70, 3) := by decide +kernel
theorem dX5_order_119 : decode cX5_order 119 = .ok (.aload_n 0, 1) := by decide +kernel
theorem dX5_order_120 : decode cX5_order 120 = .ok (.getfield 30, 3) := by decide +kernel
theorem dX5_order_123 : decode cX5_order 123 = .ok (.iload_n 3, 1) := by decide +kernel
theorem dX5_order_124 : decode cX5_order 124 = .ok (.iload 5, 2) := by decide +kernel
theorem dX5_order_126 : decode cX5_order 126 = .ok (.isub, 1) := by decide +kernel
theorem dX5_order_127 : decode cX5_order 127 = .ok (.iaload, 1) := by decide +kernel
end
section
theorem dX5_order_128 : decode cX5_order 128 = .ok (.aload_n 0, 1) := by decide +kernel
theorem dX5_order_129 : decode cX5_order 129 = .ok (.getfield 30, 3) := by decide +kernel
theorem dX5_order_132 : decode cX5_order 132 = .ok (.iload 4, 2) := by decide +kernel
theorem dX5_order_134 : decode cX5_order 134 = .ok (.iload 5, 2) := by decide +kernel
theorem dX5_order_136 : decode cX5_order 136 = .ok (.isub, 1) := by decide +kernel
theorem dX5_order_137 : decode cX5_order 137 = .ok (.iaload, 1) := by decide +kernel
theorem dX5_order_138 : decode cX5_order 138 = .ok (.if_icmp .eq 42, 3) := by decide +kernel
theorem dX5_order_141 : decode cX5_order 141 = .ok (.aload_n 0, 1) := by decide +kernel
theorem dX5_order_142 : decode cX5_order 142 = .ok (.getfield 30, 3) := by decide +kernel
theorem dX5_order_145 : decode cX5_order 145 = .ok (.iload_n 3, 1) := by decide +kernel
theorem dX5_order_146 : decode cX5_order 146 = .ok (.iload 5, 2) := by decide +kernel
theorem dX5_order_148 : decode cX5_order 148 = .ok (.isub, 1) := by decide +kernel
theorem dX5_order_149 : decode cX5_order 149 = .ok (.iaload, 1) := by decide +kernel
theorem dX5_order_150 : decode cX5_order 150 = .ok (.i2l, 1) := by decide +kernel
theorem dX5_order_151 : decode cX5_order 151 = .ok (.ldc2_w 150, 3) := by decide +kernel
theorem dX5_order_154 : decode cX5_order 154 = .ok (.land, 1) := by decide +kernel
theorem dX5_order_155 : decode cX5_order 155 = .ok (.aload_n 0, 1) := by decide +kernel
theorem dX5_order_156 : decode cX5_order 156 = .ok (.getfield 30, 3) := by decide +kernel
theorem dX5_order_159 : decode cX5_order 159 = .ok (.iload 4, 2) := by decide +kernel
theorem dX5_order_161 : decode cX5_order 161 = .ok (.iload 5, 2) := by decide +kernel
theorem dX5_order_163 : decode cX5_order 163 = .ok (.isub, 1) := by decide +kernel
theorem dX5_order_164 : decode cX5_order 164 = .ok (.iaload, 1) := by decide +kernel
theorem dX5_order_165 : decode cX5_order 165 = .ok (.i2l, 1) := by decide +kernel
theorem dX5_order_166 : decode cX5_order 166 = .ok (.ldc2_w 150, 3) := by decide +kernel
theorem dX5_order_169 : decode cX5_order 169 = .ok (.land, 1) := by decide +kernel
theorem dX5_order_170 : decode cX5_order 170 = .ok (.lcmp, 1) := by decide +kernel
theorem dX5_order_171 : decode cX5_order 171 = .ok (.ifCond .ge 7, 3) := by decide +kernel
theorem dX5_order_174 : decode cX5_order 174 = .ok (.iconst 2, 1) := by decide +kernel
theorem dX5_order_175 : decode cX5_order 175 = .ok (.goto 4, 3) := by decide +kernel
theorem dX5_order_178 : decode cX5_order 178 = .ok (.iconst 3, 1) := by decide +kernel
theorem dX5_order_179 : decode cX5_order 179 = .ok (.ireturn, 1) := by decide +kernel
theorem dX5_order_180 : decode cX5_order 180 = .ok (.iinc 5 1, 3) := by decide +kernel
theorem dX5_order_183 : decode cX5_order 183 = .ok (.goto (-72), 3) := by decide +kernel
theorem dX5_order_186 : decode cX5_order 186 = .ok (.iconst 1, 1) := by decide +kernel
theorem dX5_order_187 : decode cX5_order 187 = .ok (.ireturn, 1) := by decide +kernel
theorem dX5_count_0 : decode cX5_count 0 = .ok (.aload_n 0, 1) := by decide +kernel
theorem dX5_count_1 : decode cX5_count 1 = .ok (.iconst 0, 1) := by decide +kernel
theorem dX5_count_2 : decode cX5_count 2 = .ok (.putfield 54, 3) := by decide +kernel
theorem dX5_count_5 : decode cX5_count 5 = .ok (.iconst 0, 1) := by decide +kernel
theorem dX5_count_6 : decode cX5_count 6 = .ok (.istore_n 2, 1) := by decide +kernel
theorem dX5_count_7 : decode cX5_count 7 = .ok (.iload_n 1, 1) := by decide +kernel
theorem dX5_count_8 : decode cX5_count 8 = .ok (.tableswitch 196 0 5 #[40, 72, 106, 111, 148, 153], 40) := by decide +kernel
theorem dX5_count_48 : decode cX5_count 48 = .ok (.iconst 0, 1) := by decide +kernel
theorem dX5_count_49 : decode cX5_count 49 = .ok (.istore_n 3, 1) := by decide +kernel
theorem dX5_count_50 : decode cX5_count 50 = .ok (.iload_n 3, 1) := by decide +kernel
theorem dX5_count_51 : decode cX5_count 51 = .ok (.bipush 12, 2) := by decide +kernel
theorem dX5_count_53 : decode cX5_count 53 = .ok (.if_icmp .ge 25, 3) := by decide +kernel
theorem dX5_count_56 : decode cX5_count 56 = .ok (.iload_n 2, 1) := by decide +kernel
theorem dX5_count_57 : decode cX5_count 57 = .ok (.aload_n 0, 1) := by decide +kernel
theorem dX5_count_58 : decode cX5_count 58 = .ok (.iload_n 3, 1) := by decide +kernel
theorem dX5_count_59 : decode cX5_count 59 = .ok (.invokevirtual 70, 3) := by decide +kernel
theorem dX5_count_62 : decode cX5_count 62 = .ok (.ifCond .eq 7, 3) := by decide +kernel
theorem dX5_count_65 : decode cX5_count 65 = .ok (.iconst 1, 1) := by decide +kernel
theorem dX5_count_66 : decode cX5_count 66 = .ok (.goto 4, 3) := by decide +kernel
theorem dX5_count_69 : decode cX5_count 69 = .ok (.iconst 0, 1) := by decide +kernel
theorem dX5_count_70 : decode cX5_count 70 = .ok (.iadd, 1) := by decide +kernel
theorem dX5_count_71 : decode cX5_count 71 = .ok (.istore_n 2, 1) := by decide +kernel
theorem dX5_count_72 : decode cX5_count 72 = .ok (.iinc 3 1, 3) := by decide +kernel
theorem dX5_count_75 : decode cX5_count 75 = .ok (.goto (-25), 3) := by decide +kernel
theorem dX5_count_78 : decode cX5_count 78 = .ok (.iload_n 2, 1) := by decide +kernel
theorem dX5_count_79 : decode cX5_count 79 = .ok (.ireturn, 1) := by decide +kernel
theorem dX5_count_80 : decode cX5_count 80 = .ok (.iconst 0, 1) := by decide +kernel
theorem dX5_count_81 : decode cX5_count 81 = .ok (.istore_n 3, 1) := by decide +kernel
theorem dX5_count_82 : decode cX5_count 82 = .ok (.iload_n 3, 1) := by decide +kernel
theorem dX5_count_83 : decode cX5_count 83 = .ok (.bipush 6, 2) := by decide +kernel
theorem dX5_count_85 : decode cX5_count 85 = .ok (.if_icmp .ge 27, 3) := by decide +kernel
theorem dX5_count_88 : decode cX5_count 88 = .ok (.iload_n 2, 1) := by decide +kernel
theorem dX5_count_89 : decode cX5_count 89 = .ok (.aload_n 0, 1) := by decide +kernel
theorem dX5_count_90 : decode cX5_count 90 = .ok (.getfield 27, 3) := by decide +kernel
theorem dX5_count_93 : decode cX5_count 93 = .ok (.iload_n 3, 1) := by decide +kernel
theorem dX5_count_94 : decode cX5_count 94 = .ok (.iaload, 1) := by decide +kernel
theorem dX5_count_95 : decode cX5_count 95 = .ok (.iconst (-1), 1) := by decide +kernel
theorem dX5_count_96 : decode cX5_count 96 = .ok (.if_icmp .eq 7, 3) := by decide +kernel
theorem dX5_count_99 : decode cX5_count 99 = .ok (.iconst 1, 1) := by decide +kernel
theorem dX5_count_100 : decode cX5_count 100 = .ok (.goto 4, 3) := by decide +kernel
theorem dX5_count_103 : decode cX5_count 103 = .ok (.iconst 0, 1) := by decide +kernel
theorem dX5_count_104 : decode cX5_count 104 = .ok (.iadd, 1) := by decide +kernel
theorem dX5_count_105 : decode cX5_count 105 = .ok (.istore_n 2, 1) := by decide +kernel
theorem dX5_count_106 : decode cX5_count 106 = .ok (.iinc 3 1, 3) := by decide +kernel
theorem dX5_count_109 : decode cX5_count 109 = .ok (.goto (-27), 3) := by decide +kernel
theorem dX5_count_112 : decode cX5_count 112 = .ok (.iload_n 2, 1) := by decide +kernel
theorem dX5_count_113 : decode cX5_count 113 = .ok (.ireturn, 1) := by decide +kernel
theorem dX5_count_114 : decode cX5_count 114 = .ok (.aload_n 0, 1) := by decide +kernel
theorem dX5_count_115 : decode cX5_count 115 = .ok (.getfield 133, 3) := by decide +kernel
theorem dX5_count_118 : decode cX5_count 118 = .ok (.ireturn, 1) := by decide +kernel
theorem dX5_count_119 : decode cX5_count 119 = .ok (.iconst 0, 1) := by decide +kernel
theorem dX5_count_120 : decode cX5_count 120 = .ok (.istore_n 3, 1) := by decide +kernel
theorem dX5_count_121 : decode cX5_count 121 = .ok (.iload_n 3, 1) := by decide +kernel
theorem dX5_count_122 : decode cX5_count 122 = .ok (.bipush 12, 2) := by decide +kernel
theorem dX5_count_124 : decode cX5_count 124 = .ok (.if_icmp .ge 30, 3) := by decide +kernel
theorem dX5_count_127 : decode cX5_count 127 = .ok (.iload_n 2, 1) := by decide +kernel
theorem dX5_count_128 : decode cX5_count 128 = .ok (.aload_n 0, 1) := by decide +kernel
theorem dX5_count_129 : decode cX5_count 129 = .ok (.iload_n 3, 1) := by decide +kernel
theorem dX5_count_130 : decode cX5_count 130 = .ok (.invokevirtual 70, 3) := by decide +kernel
theorem dX5_count_133 : decode cX5_count 133 = .ok (.ifCond .eq 12, 3) := by decide +kernel
theorem dX5_count_136 : decode cX5_count 136 = .ok (.aload_n 0, 1) := by decide +kernel
theorem dX5_count_137 : decode cX5_count 137 = .ok (.getfield 13, 3) := by decide +kernel
theorem dX5_count_140 : decode cX5_count 140 = .ok (.iload_n 3, 1) := by decide +kernel
theorem dX5_count_141 : decode cX5_count 141 = .ok (.iaload, 1) := by decide +kernel
theorem dX5_count_142 : decode cX5_count 142 = .ok (.goto 4, 3) := by decide +kernel
theorem dX5_count_145 : decode cX5_count 145 = .ok (.iconst 0, 1) := by decide +kernel
theorem dX5_count_146 : decode cX5_count 146 = .ok (.iadd, 1) := by decide +kernel
theorem dX5_count_147 : decode cX5_count 147 = .ok (.istore_n 2, 1) := by decide +kernel
theorem dX5_count_148 : decode cX5_count 148 = .ok (.iinc 3 1, 3) := by decide +kernel
theorem dX5_count_151 : decode cX5_count 151 = .ok (.goto (-30), 3) := by decide +kernel
theorem dX5_count_154 : decode cX5_count 154 = .ok (.iload_n 2, 1) := by decide +kernel
theorem dX5_count_155 : decode cX5_count 155 = .ok (.ireturn, 1) := by decide +kernel
theorem dX5_count_156 : decode cX5_count 156 = .ok (.aload_n 0, 1) := by decide +kernel
theorem dX5_count_157 : decode cX5_count 157 = .ok (.getfield 222, 3) := by decide +kernel
theorem dX5_count_160 : decode cX5_count 160 = .ok (.ireturn, 1) := by decide +kernel
theorem dX5_count_161 : decode cX5_count 161 = .ok (.iconst 0, 1) := by decide +kernel
theorem dX5_count_162 : decode cX5_count 162 = .ok (.istore_n 3, 1) := by decide +kernel
theorem dX5_count_163 : decode cX5_count 163 = .ok (.iload_n 3, 1) := by decide +kernel
theorem dX5_count_164 : decode cX5_count 164 = .ok (.bipush 6, 2) := by decide +kernel
theorem dX5_count_166 : decode cX5_count 166 = .ok (.if_icmp .ge 36, 3) := by decide +kernel
theorem dX5_count_169 : decode cX5_count 169 = .ok (.iload_n 2, 1) := by decide +kernel
theorem dX5_count_170 : decode cX5_count 170 = .ok (.aload_n 0, 1) := by decide +kernel
theorem dX5_count_171 : decode cX5_count 171 = .ok (.getfield 27, 3) := by decide +kernel
theorem dX5_count_174 : decode cX5_count 174 = .ok (.iload_n 3, 1) := by decide +kernel
theorem dX5_count_175 : decode cX5_count 175 = .ok (.iaload, 1) := by decide +kernel
theorem dX5_count_176 : decode cX5_count 176 = .ok (.iconst (-1), 1) := by decide +kernel
theorem dX5_count_177 : decode cX5_count 177 = .ok (.if_icmp .eq 16, 3) := by decide +kernel
theorem dX5_count_180 : decode cX5_count 180 = .ok (.aload_n 0, 1) := by decide +kernel
theorem dX5_count_181 : decode cX5_count 181 = .ok (.iload_n 3, 1) := by decide +kernel
theorem dX5_count_182 : decode cX5_count 182 = .ok (.invokevirtual 229, 3) := by decide +kernel
theorem dX5_count_185 : decode cX5_count 185 = .ok (.iconst 3, 1) := by decide +kernel
theorem dX5_count_186 : decode cX5_count 186 = .ok (.if_icmp .ne 7, 3) := by decide +kernel
theorem dX5_count_189 : decode cX5_count 189 = .ok (.iconst 1, 1) := by decide +kernel
theorem dX5_count_190 : decode cX5_count 190 = .ok (.goto 4, 3) := by decide +kernel
theorem dX5_count_193 : decode cX5_count 193 = .ok (.iconst 0, 1) := by decide +kernel
theorem dX5_count_194 : decode cX5_count 194 = .ok (.iadd, 1) := by decide +kernel
theorem dX5_count_195 : decode cX5_count 195 = .ok (.istore_n 2, 1) := by decide +kernel
theorem dX5_count_196 : decode cX5_count 196 = .ok (.iinc 3 1, 3) := by decide +kernel
theorem dX5_count_199 : decode cX5_count 199 = .ok (.goto (-36), 3) := by decide +kernel
theorem dX5_count_202 : decode cX5_count 202 = .ok (.iload_n 2, 1) := by decide +kernel
theorem dX5_count_203 : decode cX5_count 203 = .ok (.ireturn, 1) := by decide +kernel
theorem dX5_count_204 : decode cX5_count 204 = .ok (.bipush (-3), 2) := by decide +kernel
theorem dX5_count_206 : decode cX5_count 206 = .ok (.ireturn, 1) := by decide +kernel
theorem dJ6_numberOfLeadingZeros_0f7a4_0 : decode cJ6_numberOfLeadingZeros_0f7a4 0 = .ok (.iload_n 0, 1) := by decide +kernel
theorem dJ6_numberOfLeadingZeros_0f7a4_1 : decode cJ6_numberOfLeadingZeros_0f7a4 1 = .ok (.ifCond .gt 14, 3) := by decide +kernel
theorem dJ6_numberOfLeadingZeros_0f7a4_4 : decode cJ6_numberOfLeadingZeros_0f7a4 4 = .ok (.iload_n 0, 1) := by decide +kernel
theorem dJ6_numberOfLeadingZeros_0f7a4_5 : decode cJ6_numberOfLeadingZeros_0f7a4 5 = .ok (.ifCond .ne 8, 3) := by decide +kernel
theorem dJ6_numberOfLeadingZeros_0f7a4_8 : decode cJ6_numberOfLeadingZeros_0f7a4 8 = .ok (.bipush 32, 2) := by decide +kernel
theorem dJ6_numberOfLeadingZeros_0f7a4_10 : decode cJ6_numberOfLeadingZeros_0f7a4 10 = .ok (.goto 4, 3) := by decide +kernel
theorem dJ6_numberOfLeadingZeros_0f7a4_13 : decode cJ6_numberOfLeadingZeros_0f7a4 13 = .ok (.iconst 0, 1) := by decide +kernel
theorem dJ6_numberOfLeadingZeros_0f7a4_14 : decode cJ6_numberOfLeadingZeros_0f7a4 14 = .ok (.ireturn, 1) := by decide +kernel
theorem dJ6_numberOfLeadingZeros_0f7a4_15 : decode cJ6_numberOfLeadingZeros_0f7a4 15 = .ok (.bipush 31, 2) := by decide +kernel
theorem dJ6_numberOfLeadingZeros_0f7a4_17 : decode cJ6_numberOfLeadingZeros_0f7a4 17 = .ok (.istore_n 1, 1) := by decide +kernel
theorem dJ6_numberOfLeadingZeros_0f7a4_18 : decode cJ6_numberOfLeadingZeros_0f7a4 18 = .ok (.iload_n 0, 1) := by decide +kernel
theorem dJ6_numberOfLeadingZeros_0f7a4_19 : decode cJ6_numberOfLeadingZeros_0f7a4 19 = .ok (.ldc_w 264, 3) := by decide +kernel
theorem dJ6_numberOfLeadingZeros_0f7a4_22 : decode cJ6_numberOfLeadingZeros_0f7a4 22 = .ok (.if_icmp .lt 11, 3) := by decide +kernel
theorem dJ6_numberOfLeadingZeros_0f7a4_25 : decode cJ6_numberOfLeadingZeros_0f7a4 25 = .ok (.iinc 1 (-16), 3) := by decide +kernel
theorem dJ6_numberOfLeadingZeros_0f7a4_28 : decode cJ6_numberOfLeadingZeros_0f7a4 28 = .ok (.iload_n 0, 1) := by decide +kernel
theorem dJ6_numberOfLeadingZeros_0f7a4_29 : decode cJ6_numberOfLeadingZeros_0f7a4 29 = .ok (.bipush 16, 2) := by decide +kernel
theorem dJ6_numberOfLeadingZeros_0f7a4_31 : decode cJ6_numberOfLeadingZeros_0f7a4 31 = .ok (.iushr, 1) := by decide +kernel
theorem dJ6_numberOfLeadingZeros_0f7a4_32 : decode cJ6_numberOfLeadingZeros_0f7a4 32 = .ok (.istore_n 0, 1) := by decide +kernel
theorem dJ6_numberOfLeadingZeros_0f7a4_33 : decode cJ6_numberOfLeadingZeros_0f7a4 33 = .ok (.iload_n 0, 1) := by decide +kernel
theorem dJ6_numberOfLeadingZeros_0f7a4_34 : decode cJ6_numberOfLeadingZeros_0f7a4 34 = .ok (.sipush 256, 3) := by decide +kernel
theorem dJ6_numberOfLeadingZeros_0f7a4_37 : decode cJ6_numberOfLeadingZeros_0f7a4 37 = .ok (.if_icmp .lt 11, 3) := by decide +kernel
theorem dJ6_numberOfLeadingZeros_0f7a4_40 : decode cJ6_numberOfLeadingZeros_0f7a4 40 = .ok (.iinc 1 (-8), 3) := by decide +kernel
theorem dJ6_numberOfLeadingZeros_0f7a4_43 : decode cJ6_numberOfLeadingZeros_0f7a4 43 = .ok (.iload_n 0, 1) := by decide +kernel
theorem dJ6_numberOfLeadingZeros_0f7a4_44 : decode cJ6_numberOfLeadingZeros_0f7a4 44 = .ok (.bipush 8, 2) := by decide +kernel
theorem dJ6_numberOfLeadingZeros_0f7a4_46 : decode cJ6_numberOfLeadingZeros_0f7a4 46 = .ok (.iushr, 1) := by decide +kernel
theorem dJ6_numberOfLeadingZeros_0f7a4_47 : decode cJ6_numberOfLeadingZeros_0f7a4 47 = .ok (.istore_n 0, 1) := by decide +kernel
theorem dJ6_numberOfLeadingZeros_0f7a4_48 : decode cJ6_numberOfLeadingZeros_0f7a4 48 = .ok (.iload_n 0, 1) := by decide +kernel
theorem dJ6_numberOfLeadingZeros_0f7a4_49 : decode cJ6_numberOfLeadingZeros_0f7a4 49 = .ok (.bipush 16, 2) := by decide +kernel
theorem dJ6_numberOfLeadingZeros_0f7a4_51 : decode cJ6_numberOfLeadingZeros_0f7a4 51 = .ok (.if_icmp .lt 10, 3) := by decide +kernel
theorem dJ6_numberOfLeadingZeros_0f7a4_54 : decode cJ6_numberOfLeadingZeros_0f7a4 54 = .ok (.iinc 1 (-4), 3) := by decide +kernel
theorem dJ6_numberOfLeadingZeros_0f7a4_57 : decode cJ6_numberOfLeadingZeros_0f7a4 57 = .ok (.iload_n 0, 1) := by decide +kernel
theorem dJ6_numberOfLeadingZeros_0f7a4_58 : decode cJ6_numberOfLeadingZeros_0f7a4 58 = .ok (.iconst 4, 1) := by decide +kernel
theorem dJ6_numberOfLeadingZeros_0f7a4_59 : decode cJ6_numberOfLeadingZeros_0f7a4 59 = .ok (.iushr, 1) := by decide +kernel
theorem dJ6_numberOfLeadingZeros_0f7a4_60 : decode cJ6_numberOfLeadingZeros_0f7a4 60 = .ok (.istore_n 0, 1) := by decide +kernel
theorem dJ6_numberOfLeadingZeros_0f7a4_61 : decode cJ6_numberOfLeadingZeros_0f7a4 61 = .ok (.iload_n 0, 1) := by decide +kernel
theorem dJ6_numberOfLeadingZeros_0f7a4_62 : decode cJ6_numberOfLeadingZeros_0f7a4 62 = .ok (.iconst 4, 1) := by decide +kernel
theorem dJ6_numberOfLeadingZeros_0f7a4_63 : decode cJ6_numberOfLeadingZeros_0f7a4 63 = .ok (.if_icmp .lt 10, 3) := by decide +kernel
theorem dJ6_numberOfLeadingZeros_0f7a4_66 : decode cJ6_numberOfLeadingZeros_0f7a4 66 = .ok (.iinc 1 (-2), 3) := by decide +kernel
theorem dJ6_numberOfLeadingZeros_0f7a4_69 : decode cJ6_numberOfLeadingZeros_0f7a4 69 = .ok (.iload_n 0, 1) := by decide +kernel
theorem dJ6_numberOfLeadingZeros_0f7a4_70 : decode cJ6_numberOfLeadingZeros_0f7a4 70 = .ok (.iconst 2, 1) := by decide +kernel
theorem dJ6_numberOfLeadingZeros_0f7a4_71 : decode cJ6_numberOfLeadingZeros_0f7a4 71 = .ok (.iushr, 1) := by decide +kernel
theorem dJ6_numberOfLeadingZeros_0f7a4_72 : decode cJ6_numberOfLeadingZeros_0f7a4 72 = .ok (.istore_n 0, 1) := by decide +kernel
theorem dJ6_numberOfLeadingZeros_0f7a4_73 : decode cJ6_numberOfLeadingZeros_0f7a4 73 = .ok (.iload_n 1, 1) := by decide +kernel
theorem dJ6_numberOfLeadingZeros_0f7a4_74 : decode cJ6_numberOfLeadingZeros_0f7a4 74 = .ok (.iload_n 0, 1) := by decide +kernel
theorem dJ6_numberOfLeadingZeros_0f7a4_75 : decode cJ6_numberOfLeadingZeros_0f7a4 75 = .ok (.iconst 1, 1) := by decide +kernel
theorem dJ6_numberOfLeadingZeros_0f7a4_76 : decode cJ6_numberOfLeadingZeros_0f7a4 76 = .ok (.iushr, 1) := by decide +kernel
theorem dJ6_numberOfLeadingZeros_0f7a4_77 : decode cJ6_numberOfLeadingZeros_0f7a4 77 = .ok (.isub, 1) := by decide +kernel
theorem dJ6_numberOfLeadingZeros_0f7a4_78 : decode cJ6_numberOfLeadingZeros_0f7a4 78 = .ok (.ireturn, 1) := by decide +kernel
theorem dJ13_numberOfLeadingZeros_95d88_0 : decode cJ13_numberOfLeadingZeros_95d88 0 = .ok (.lload_n 0, 1) := by decide +kernel
theorem dJ13_numberOfLeadingZeros_95d88_1 : decode cJ13_numberOfLeadingZeros_95d88 1 = .ok (.bipush 32, 2) := by decide +kernel
theorem dJ13_numberOfLeadingZeros_95d88_3 : decode cJ13_numberOfLeadingZeros_95d88 3 = .ok (.lushr, 1) := by decide +kernel
theorem dJ13_numberOfLeadingZeros_95d88_4 : decode cJ13_numberOfLeadingZeros_95d88 4 = .ok (.l2i, 1) := by decide +kernel
theorem dJ13_numberOfLeadingZeros_95d88_5 : decode cJ13_numberOfLeadingZeros_95d88 5 = .ok (.istore_n 2, 1) := by decide +kernel
theorem dJ13_numberOfLeadingZeros_95d88_6 : decode cJ13_numberOfLeadingZeros_95d88 6 = .ok (.iload_n 2, 1) := by decide +kernel
theorem dJ13_numberOfLeadingZeros_95d88_7 : decode cJ13_numberOfLeadingZeros_95d88 7 = .ok (.ifCond .ne 14, 3) := by decide +kernel
theorem dJ13_numberOfLeadingZeros_95d88_10 : decode cJ13_numberOfLeadingZeros_95d88 10 = .ok (.bipush 32, 2) := by decide +kernel
theorem dJ13_numberOfLeadingZeros_95d88_12 : decode cJ13_numberOfLeadingZeros_95d88 12 = .ok (.lload_n 0, 1) := by decide +kernel
theorem dJ13_numberOfLeadingZeros_95d88_13 : decode cJ13_numberOfLeadingZeros_95d88 13 = .ok (.l2i, 1) := by decide +kernel
theorem dJ13_numberOfLeadingZeros_95d88_14 : decode cJ13_numberOfLeadingZeros_95d88 14 = .ok (.invokestatic 308, 3) := by decide +kernel
theorem dJ13_numberOfLeadingZeros_95d88_17 : decode cJ13_numberOfLeadingZeros_95d88 17 = .ok (.iadd, 1) := by decide +kernel
theorem dJ13_numberOfLeadingZeros_95d88_18 : decode cJ13_numberOfLeadingZeros_95d88 18 = .ok (.goto 7, 3) := by decide +kernel
theorem dJ13_numberOfLeadingZeros_95d88_21 : decode cJ13_numberOfLeadingZeros_95d88 21 = .ok (.iload_n 2, 1) := by decide +kernel
theorem dJ13_numberOfLeadingZeros_95d88_22 : decode cJ13_numberOfLeadingZeros_95d88 22 = .ok (.invokestatic 308, 3) := by decide +kernel
theorem dJ13_numberOfLeadingZeros_95d88_25 : decode cJ13_numberOfLeadingZeros_95d88 25 = .ok (.ireturn, 1) := by decide +kernel
theorem dJ9_multiplyHigh_f86c9_0 : decode cJ9_multiplyHigh_f86c9 0 = .ok (.lload_n 0, 1) := by decide +kernel
theorem dJ9_multiplyHigh_f86c9_1 : decode cJ9_multiplyHigh_f86c9 1 = .ok (.bipush 32, 2) := by decide +kernel
theorem dJ9_multiplyHigh_f86c9_3 : decode cJ9_multiplyHigh_f86c9 3 = .ok (.lshr, 1) := by decide +kernel
theorem dJ9_multiplyHigh_f86c9_4 : decode cJ9_multiplyHigh_f86c9 4 = .ok (.lstore 4, 2) := by decide +kernel
theorem dJ9_multiplyHigh_f86c9_6 : decode cJ9_multiplyHigh_f86c9 6 = .ok (.lload_n 0, 1) := by decide +kernel
theorem dJ9_multiplyHigh_f86c9_7 : decode cJ9_multiplyHigh_f86c9 7 = .ok (.ldc2_w 138, 3) := by decide +kernel
theorem dJ9_multiplyHigh_f86c9_10 : decode cJ9_multiplyHigh_f86c9 10 = .ok (.land, 1) := by decide +kernel
theorem dJ9_multiplyHigh_f86c9_11 : decode cJ9_multiplyHigh_f86c9 11 = .ok (.lstore 6, 2) := by decide +kernel
theorem dJ9_multiplyHigh_f86c9_13 : decode cJ9_multiplyHigh_f86c9 13 = .ok (.lload_n 2, 1) := by decide +kernel
theorem dJ9_multiplyHigh_f86c9_14 : decode cJ9_multiplyHigh_f86c9 14 = .ok (.bipush 32, 2) := by decide +kernel
theorem dJ9_multiplyHigh_f86c9_16 : decode cJ9_multiplyHigh_f86c9 16 = .ok (.lshr, 1) := by decide +kernel
theorem dJ9_multiplyHigh_f86c9_17 : decode cJ9_multiplyHigh_f86c9 17 = .ok (.lstore 8, 2) := by decide +kernel
theorem dJ9_multiplyHigh_f86c9_19 : decode cJ9_multiplyHigh_f86c9 19 = .ok (.lload_n 2, 1) := by decide +kernel
theorem dJ9_multiplyHigh_f86c9_20 : decode cJ9_multiplyHigh_f86c9 20 = .ok (.ldc2_w 138, 3) := by decide +kernel
theorem dJ9_multiplyHigh_f86c9_23 : decode cJ9_multiplyHigh_f86c9 23 = .ok (.land, 1) := by decide +kernel
theorem dJ9_multiplyHigh_f86c9_24 : decode cJ9_multiplyHigh_f86c9 24 = .ok (.lstore 10, 2) := by decide +kernel
theorem dJ9_multiplyHigh_f86c9_26 : decode cJ9_multiplyHigh_f86c9 26 = .ok (.lload 6, 2) := by decide +kernel
theorem dJ9_multiplyHigh_f86c9_28 : decode cJ9_multiplyHigh_f86c9 28 = .ok (.lload 10, 2) := by decide +kernel
theorem dJ9_multiplyHigh_f86c9_30 : decode cJ9_multiplyHigh_f86c9 30 = .ok (.lmul, 1) := by decide +kernel
theorem dJ9_multiplyHigh_f86c9_31 : decode cJ9_multiplyHigh_f86c9 31 = .ok (.lstore 12, 2) := by decide +kernel
theorem dJ9_multiplyHigh_f86c9_33 : decode cJ9_multiplyHigh_f86c9 33 = .ok (.lload 4, 2) := by decide +kernel
theorem dJ9_multiplyHigh_f86c9_35 : decode cJ9_multiplyHigh_f86c9 35 = .ok (.lload 10, 2) := by decide +kernel
theorem dJ9_multiplyHigh_f86c9_37 : decode cJ9_multiplyHigh_f86c9 37 = .ok (.lmul, 1) := by decide +kernel
theorem dJ9_multiplyHigh_f86c9_38 : decode cJ9_multiplyHigh_f86c9 38 = .ok (.lload 12, 2) := by decide +kernel
theorem dJ9_multiplyHigh_f86c9_40 : decode cJ9_multiplyHigh_f86c9 40 = .ok (.bipush 32, 2) := by decide +kernel
theorem dJ9_multiplyHigh_f86c9_42 : decode cJ9_multiplyHigh_f86c9 42 = .ok (.lushr, 1) := by decide +kernel
theorem dJ9_multiplyHigh_f86c9_43 : decode cJ9_multiplyHigh_f86c9 43 = .ok (.ladd, 1) := by decide +kernel
theorem dJ9_multiplyHigh_f86c9_44 : decode cJ9_multiplyHigh_f86c9 44 = .ok (.lstore 14, 2) := by decide +kernel
theorem dJ9_multiplyHigh_f86c9_46 : decode cJ9_multiplyHigh_f86c9 46 = .ok (.lload 14, 2) := by decide +kernel
theorem dJ9_multiplyHigh_f86c9_48 : decode cJ9_multiplyHigh_f86c9 48 = .ok (.ldc2_w 138, 3) := by decide +kernel
theorem dJ9_multiplyHigh_f86c9_51 : decode cJ9_multiplyHigh_f86c9 51 = .ok (.land, 1) := by decide +kernel
theorem dJ9_multiplyHigh_f86c9_52 : decode cJ9_multiplyHigh_f86c9 52 = .ok (.lstore 16, 2) := by decide +kernel
theorem dJ9_multiplyHigh_f86c9_54 : decode cJ9_multiplyHigh_f86c9 54 = .ok (.lload 14, 2) := by decide +kernel
theorem dJ9_multiplyHigh_f86c9_56 : decode cJ9_multiplyHigh_f86c9 56 = .ok (.bipush 32, 2) := by decide +kernel
theorem dJ9_multiplyHigh_f86c9_58 : decode cJ9_multiplyHigh_f86c9 58 = .ok (.lshr, 1) := by decide +kernel
theorem dJ9_multiplyHigh_f86c9_59 : decode cJ9_multiplyHigh_f86c9 59 = .ok (.lstore 18, 2) := by decide +kernel
theorem dJ9_multiplyHigh_f86c9_61 : decode cJ9_multiplyHigh_f86c9 61 = .ok (.lload 16, 2) := by decide +kernel
theorem dJ9_multiplyHigh_f86c9_63 : decode cJ9_multiplyHigh_f86c9 63 = .ok (.lload 6, 2) := by decide +kernel
theorem dJ9_multiplyHigh_f86c9_65 : decode cJ9_multiplyHigh_f86c9 65 = .ok (.lload 8, 2) := by decide +kernel
theorem dJ9_multiplyHigh_f86c9_67 : decode cJ9_multiplyHigh_f86c9 67 = .ok (.lmul, 1) := by decide +kernel
theorem dJ9_multiplyHigh_f86c9_68 : decode cJ9_multiplyHigh_f86c9 68 = .ok (.ladd, 1) := by decide +kernel
theorem dJ9_multiplyHigh_f86c9_69 : decode cJ9_multiplyHigh_f86c9 69 = .ok (.lstore 16, 2) := by decide +kernel
theorem dJ9_multiplyHigh_f86c9_71 : decode cJ9_multiplyHigh_f86c9 71 = .ok (.lload 4, 2) := by decide +kernel
theorem dJ9_multiplyHigh_f86c9_73 : decode cJ9_multiplyHigh_f86c9 73 = .ok (.lload 8, 2) := by decide +kernel
theorem dJ9_multiplyHigh_f86c9_75 : decode cJ9_multiplyHigh_f86c9 75 = .ok (.lmul, 1) := by decide +kernel
theorem dJ9_multiplyHigh_f86c9_76 : decode cJ9_multiplyHigh_f86c9 76 = .ok (.lload 18, 2) := by decide +kernel
theorem dJ9_multiplyHigh_f86c9_78 : decode cJ9_multiplyHigh_f86c9 78 = .ok (.ladd, 1) := by decide +kernel
theorem dJ9_multiplyHigh_f86c9_79 : decode cJ9_multiplyHigh_f86c9 79 = .ok (.lload 16, 2) := by decide +kernel
theorem dJ9_multiplyHigh_f86c9_81 : decode cJ9_multiplyHigh_f86c9 81 = .ok (.bipush 32, 2) := by decide +kernel
theorem dJ9_multiplyHigh_f86c9_83 : decode cJ9_multiplyHigh_f86c9 83 = .ok (.lshr, 1) := by decide +kernel
theorem dJ9_multiplyHigh_f86c9_84 : decode cJ9_multiplyHigh_f86c9 84 = .ok (.ladd, 1) := by decide +kernel
theorem dJ9_multiplyHigh_f86c9_85 : decode cJ9_multiplyHigh_f86c9 85 = .ok (.lreturn, 1) := by decide +kernel
theorem dJ9_abs_0f7a4_0 : decode cJ9_abs_0f7a4 0 = .ok (.iload_n 0, 1) := by decide +kernel
theorem dJ9_abs_0f7a4_1 : decode cJ9_abs_0f7a4 1 = .ok (.ifCond .ge 8, 3) := by decide +kernel
theorem dJ9_abs_0f7a4_4 : decode cJ9_abs_0f7a4 4 = .ok (.iload_n 0, 1) := by decide +kernel
theorem dJ9_abs_0f7a4_5 : decode cJ9_abs_0f7a4 5 = .ok (.ineg, 1) := by decide +kernel
theorem dJ9_abs_0f7a4_6 : decode cJ9_abs_0f7a4 6 = .ok (.goto 4, 3) := by decide +kernel
theorem dJ9_abs_0f7a4_9 : decode cJ9_abs_0f7a4 9 = .ok (.iload_n 0, 1) := by decide +kernel
theorem dJ9_abs_0f7a4_10 : decode cJ9_abs_0f7a4 10 = .ok (.ireturn, 1) := by decide +kernel
theorem dJ9_abs_067f4_0 : decode cJ9_abs_067f4 0 = .ok (.lload_n 0, 1) := by decide +kernel
theorem dJ9_abs_067f4_1 : decode cJ9_abs_067f4 1 = .ok (.lconst 0, 1) := by decide +kernel
theorem dJ9_abs_067f4_2 : decode cJ9_abs_067f4 2 = .ok (.lcmp, 1) := by decide +kernel
theorem dJ9_abs_067f4_3 : decode cJ9_abs_067f4 3 = .ok (.ifCond .ge 8, 3) := by decide +kernel
theorem dJ9_abs_067f4_6 : decode cJ9_abs_067f4 6 = .ok (.lload_n 0, 1) := by decide +kernel
theorem dJ9_abs_067f4_7 : decode cJ9_abs_067f4 7 = .ok (.lneg, 1) := by decide +kernel
theorem dJ9_abs_067f4_8 : decode cJ9_abs_067f4 8 = .ok (.goto 4, 3) := by decide +kernel
theorem dJ9_abs_067f4_11 : decode cJ9_abs_067f4 11 = .ok (.lload_n 0, 1) := by decide +kernel
theorem dJ9_abs_067f4_12 : decode cJ9_abs_067f4 12 = .ok (.lreturn, 1) := by decide +kernel
theorem dJ9_max_7cf53_0 : decode cJ9_max_7cf53 0 = .ok (.iload_n 0, 1) := by decide +kernel
theorem dJ9_max_7cf53_1 : decode cJ9_max_7cf53 1 = .ok (.iload_n 1, 1) := by decide +kernel
theorem dJ9_max_7cf53_2 : decode cJ9_max_7cf53 2 = .ok (.if_icmp .lt 7, 3) := by decide +kernel
theorem dJ9_max_7cf53_5 : decode cJ9_max_7cf53 5 = .ok (.iload_n 0, 1) := by decide +kernel
theorem dJ9_max_7cf53_6 : decode cJ9_max_7cf53 6 = .ok (.goto 4, 3) := by decide +kernel
theorem dJ9_max_7cf53_9 : decode cJ9_max_7cf53 9 = .ok (.iload_n 1, 1) := by decide +kernel
theorem dJ9_max_7cf53_10 : decode cJ9_max_7cf53 10 = .ok (.ireturn, 1) := by decide +kernel
theorem dJ9_min_7cf53_0 : decode cJ9_min_7cf53 0 = .ok (.iload_n 0, 1) := by decide +kernel
theorem dJ9_min_7cf53_1 : decode cJ9_min_7cf53 1 = .ok (.iload_n 1, 1) := by decide +kernel
theorem dJ9_min_7cf53_2 : decode cJ9_min_7cf53 2 = .ok (.if_icmp .gt 7, 3) := by decide +kernel
theorem dJ9_min_7cf53_5 : decode cJ9_min_7cf53 5 = .ok (.iload_n 0, 1) := by decide +kernel
theorem dJ9_min_7cf53_6 : decode cJ9_min_7cf53 6 = .ok (.goto 4, 3) := by decide +kernel
theorem dJ9_min_7cf53_9 : decode cJ9_min_7cf53 9 = .ok (.iload_n 1, 1) := by decide +kernel
theorem dJ9_min_7cf53_10 : decode cJ9_min_7cf53 10 = .ok (.ireturn, 1) := by decide +kernel
theorem dJ7_fill_d0a16_0 : decode cJ7_fill_d0a16 0 = .ok (.iconst 0, 1) := by decide +kernel
theorem dJ7_fill_d0a16_1 : decode cJ7_fill_d0a16 1 = .ok (.istore_n 3, 1) := by decide +kernel
theorem dJ7_fill_d0a16_2 : decode cJ7_fill_d0a16 2 = .ok (.aload_n 0, 1) := by decide +kernel
theorem dJ7_fill_d0a16_3 : decode cJ7_fill_d0a16 3 = .ok (.arraylength, 1) := by decide +kernel
theorem dJ7_fill_d0a16_4 : decode cJ7_fill_d0a16 4 = .ok (.istore 4, 2) := by decide +kernel
theorem dJ7_fill_d0a16_6 : decode cJ7_fill_d0a16 6 = .ok (.iload_n 3, 1) := by decide +kernel
theorem dJ7_fill_d0a16_7 : decode cJ7_fill_d0a16 7 = .ok (.iload 4, 2) := by decide +kernel
theorem dJ7_fill_d0a16_9 : decode cJ7_fill_d0a16 9 = .ok (.if_icmp .ge 13, 3) := by decide +kernel
theorem dJ7_fill_d0a16_12 : decode cJ7_fill_d0a16 12 = .ok (.aload_n 0, 1) := by decide +kernel
theorem dJ7_fill_d0a16_13 : decode cJ7_fill_d0a16 13 = .ok (.iload_n 3, 1) := by decide +kernel
theorem dJ7_fill_d0a16_14 : decode cJ7_fill_d0a16 14 = .ok (.lload_n 1, 1) := by decide +kernel
theorem dJ7_fill_d0a16_15 : decode cJ7_fill_d0a16 15 = .ok (.lastore, 1) := by decide +kernel
theorem dJ7_fill_d0a16_16 : decode cJ7_fill_d0a16 16 = .ok (.iinc 3 1, 3) := by decide +kernel
theorem dJ7_fill_d0a16_19 : decode cJ7_fill_d0a16 19 = .ok (.goto (-13), 3) := by decide +kernel
theorem dJ7_fill_d0a16_22 : decode cJ7_fill_d0a16 22 = .ok (.return_, 1) := by decide +kernel
theorem dJ7_fill_53178_0 : decode cJ7_fill_53178 0 = .ok (.iconst 0, 1) := by decide +kernel
theorem dJ7_fill_53178_1 : decode cJ7_fill_53178 1 = .ok (.istore_n 2, 1) := by decide +kernel
theorem dJ7_fill_53178_2 : decode cJ7_fill_53178 2 = .ok (.aload_n 0, 1) := by decide +kernel
theorem dJ7_fill_53178_3 : decode cJ7_fill_53178 3 = .ok (.arraylength, 1) := by decide +kernel
theorem dJ7_fill_53178_4 : decode cJ7_fill_53178 4 = .ok (.istore_n 3, 1) := by decide +kernel
theorem dJ7_fill_53178_5 : decode cJ7_fill_53178 5 = .ok (.iload_n 2, 1) := by decide +kernel
theorem dJ7_fill_53178_6 : decode cJ7_fill_53178 6 = .ok (.iload_n 3, 1) := by decide +kernel
theorem dJ7_fill_53178_7 : decode cJ7_fill_53178 7 = .ok (.if_icmp .ge 13, 3) := by decide +kernel
theorem dJ7_fill_53178_10 : decode cJ7_fill_53178 10 = .ok (.aload_n 0, 1) := by decide +kernel
theorem dJ7_fill_53178_11 : decode cJ7_fill_53178 11 = .ok (.iload_n 2, 1) := by decide +kernel
theorem dJ7_fill_53178_12 : decode cJ7_fill_53178 12 = .ok (.iload_n 1, 1) := by decide +kernel
theorem dJ7_fill_53178_13 : decode cJ7_fill_53178 13 = .ok (.iastore, 1) := by decide +kernel
theorem dJ7_fill_53178_14 : decode cJ7_fill_53178 14 = .ok (.iinc 2 1, 3) := by decide +kernel
theorem dJ7_fill_53178_17 : decode cJ7_fill_53178 17 = .ok (.goto (-12), 3) := by decide +kernel
theorem dJ7_fill_53178_20 : decode cJ7_fill_53178 20 = .ok (.return_, 1) := by decide +kernel
theorem dL_law_0 : decode cL_law 0 = .ok (.new 7, 3) := by decide +kernel
theorem dL_law_3 : decode cL_law 3 = .ok (.dup, 1) := by decide +kernel
theorem dL_law_4 : decode cL_law 4 = .ok (.invokespecial 9, 3) := by decide +kernel
theorem dL_law_7 : decode cL_law 7 = .ok (.astore_n 1, 1) := by decide +kernel
theorem dL_law_8 : decode cL_law 8 = .ok (.new 10, 3) := by decide +kernel
theorem dL_law_11 : decode cL_law 11 = .ok (.dup, 1) := by decide +kernel
theorem dL_law_12 : decode cL_law 12 = .ok (.invokespecial 12, 3) := by decide +kernel
theorem dL_law_15 : decode cL_law 15 = .ok (.astore_n 2, 1) := by decide +kernel
theorem dL_law_16 : decode cL_law 16 = .ok (.iconst 0, 1) := by decide +kernel
theorem dL_law_17 : decode cL_law 17 = .ok (.istore_n 3, 1) := by decide +kernel
theorem dL_law_18 : decode cL_law 18 = .ok (.iload_n 3, 1) := by decide +kernel
theorem dL_law_19 : decode cL_law 19 = .ok (.aload_n 0, 1) := by decide +kernel
theorem dL_law_20 : decode cL_law 20 = .ok (.arraylength, 1) := by decide +kernel
theorem dL_law_21 : decode cL_law 21 = .ok (.bipush 6, 2) := by decide +kernel
theorem dL_law_23 : decode cL_law 23 = .ok (.isub, 1) := by decide +kernel
theorem dL_law_24 : decode cL_law 24 = .ok (.if_icmp .gt 1315, 3) := by decide +kernel
theorem dL_law_27 : decode cL_law 27 = .ok (.aload_n 0, 1) := by decide +kernel
theorem dL_law_28 : decode cL_law 28 = .ok (.iload_n 3, 1) := by decide +kernel
theorem dL_law_29 : decode cL_law 29 = .ok (.iaload, 1) := by decide +kernel
theorem dL_law_30 : decode cL_law 30 = .ok (.bipush 31, 2) := by decide +kernel
theorem dL_law_32 : decode cL_law 32 = .ok (.iand, 1) := by decide +kernel
theorem dL_law_33 : decode cL_law 33 = .ok (.tableswitch 1300 0 25 #[119, 162, 185, 268, 311, 374, 418, 479, 532, 565, 618, 681, 714, 737, 790, 861, 884, 917, 1004, 1075, 1152, 1175, 1198, 1231, 1264, 1277], 119) := by decide +kernel
theorem dL_law_152 : decode cL_law 152 = .ok (.aload_n 1, 1) := by decide +kernel
theorem dL_law_153 : decode cL_law 153 = .ok (.aload_n 0, 1) := by decide +kernel
theorem dL_law_154 : decode cL_law 154 = .ok (.iload_n 3, 1) := by decide +kernel
theorem dL_law_155 : decode cL_law 155 = .ok (.iconst 1, 1) := by decide +kernel
theorem dL_law_156 : decode cL_law 156 = .ok (.iadd, 1) := by decide +kernel
theorem dL_law_157 : decode cL_law 157 = .ok (.iaload, 1) := by decide +kernel
theorem dL_law_158 : decode cL_law 158 = .ok (.aload_n 0, 1) := by decide +kernel
theorem dL_law_159 : decode cL_law 159 = .ok (.iload_n 3, 1) := by decide +kernel
theorem dL_law_160 : decode cL_law 160 = .ok (.iconst 2, 1) := by decide +kernel
theorem dL_law_161 : decode cL_law 161 = .ok (.iadd, 1) := by decide +kernel
theorem dL_law_162 : decode cL_law 162 = .ok (.iaload, 1) := by decide +kernel
theorem dL_law_163 : decode cL_law 163 = .ok (.aload_n 0, 1) := by decide +kernel
theorem dL_law_164 : decode cL_law 164 = .ok (.iload_n 3, 1) := by decide +kernel
theorem dL_law_165 : decode cL_law 165 = .ok (.iconst 3, 1) := by decide +kernel
theorem dL_law_166 : decode cL_law 166 = .ok (.iadd, 1) := by decide +kernel
theorem dL_law_167 : decode cL_law 167 = .ok (.iaload, 1) := by decide +kernel
theorem dL_law_168 : decode cL_law 168 = .ok (.invokevirtual 13, 3) := by decide +kernel
theorem dL_law_171 : decode cL_law 171 = .ok (.aload_n 2, 1) := by decide +kernel
theorem dL_law_172 : decode cL_law 172 = .ok (.aload_n 0, 1) := by decide +kernel
theorem dL_law_173 : decode cL_law 173 = .ok (.iload_n 3, 1) := by decide +kernel
theorem dL_law_174 : decode cL_law 174 = .ok (.iconst 1, 1) := by decide +kernel
theorem dL_law_175 : decode cL_law 175 = .ok (.iadd, 1) := by decide +kernel
theorem dL_law_176 : decode cL_law 176 = .ok (.iaload, 1) := by decide +kernel
theorem dL_law_177 : decode cL_law 177 = .ok (.aload_n 0, 1) := by decide +kernel
theorem dL_law_178 : decode cL_law 178 = .ok (.iload_n 3, 1) := by decide +kernel
theorem dL_law_179 : decode cL_law 179 = .ok (.iconst 2, 1) := by decide +kernel
theorem dL_law_180 : decode cL_law 180 = .ok (.iadd, 1) := by decide +kernel
theorem dL_law_181 : decode cL_law 181 = .ok (.iaload, 1) := by decide +kernel
theorem dL_law_182 : decode cL_law 182 = .ok (.aload_n 0, 1) := by decide +kernel
theorem dL_law_183 : decode cL_law 183 = .ok (.iload_n 3, 1) := by decide +kernel
theorem dL_law_184 : decode cL_law 184 = .ok (.iconst 3, 1) := by decide +kernel
theorem dL_law_185 : decode cL_law 185 = .ok (.iadd, 1) := by decide +kernel
theorem dL_law_186 : decode cL_law 186 = .ok (.iaload, 1) := by decide +kernel
theorem dL_law_187 : decode cL_law 187 = .ok (.invokevirtual 17, 3) := by decide +kernel
theorem dL_law_190 : decode cL_law 190 = .ok (.if_icmp .eq 1143, 3) := by decide +kernel
theorem dL_law_193 : decode cL_law 193 = .ok (.iconst 0, 1) := by decide +kernel
theorem dL_law_194 : decode cL_law 194 = .ok (.ireturn, 1) := by decide +kernel
theorem dL_law_195 : decode cL_law 195 = .ok (.aload_n 1, 1) := by decide +kernel
theorem dL_law_196 : decode cL_law 196 = .ok (.aload_n 0, 1) := by decide +kernel
theorem dL_law_197 : decode cL_law 197 = .ok (.iload_n 3, 1) := by decide +kernel
theorem dL_law_198 : decode cL_law 198 = .ok (.iconst 1, 1) := by decide +kernel
theorem dL_law_199 : decode cL_law 199 = .ok (.iadd, 1) := by decide +kernel
theorem dL_law_200 : decode cL_law 200 = .ok (.iaload, 1) := by decide +kernel
theorem dL_law_201 : decode cL_law 201 = .ok (.invokevirtual 18, 3) := by decide +kernel
theorem dL_law_204 : decode cL_law 204 = .ok (.aload_n 2, 1) := by decide +kernel
theorem dL_law_205 : decode cL_law 205 = .ok (.aload_n 0, 1) := by decide +kernel
theorem dL_law_206 : decode cL_law 206 = .ok (.iload_n 3, 1) := by decide +kernel
theorem dL_law_207 : decode cL_law 207 = .ok (.iconst 1, 1) := by decide +kernel
theorem dL_law_208 : decode cL_law 208 = .ok (.iadd, 1) := by decide +kernel
theorem dL_law_209 : decode cL_law 209 = .ok (.iaload, 1) := by decide +kernel
theorem dL_law_210 : decode cL_law 210 = .ok (.invokevirtual 22, 3) := by decide +kernel
theorem dL_law_213 : decode cL_law 213 = .ok (.if_icmp .eq 1120, 3) := by decide +kernel
theorem dL_law_216 : decode cL_law 216 = .ok (.iconst 0, 1) := by decide +kernel
theorem dL_law_217 : decode cL_law 217 = .ok (.ireturn, 1) := by decide +kernel
theorem dL_law_218 : decode cL_law 218 = .ok (.aload_n 1, 1) := by decide +kernel
theorem dL_law_219 : decode cL_law 219 = .ok (.aload_n 0, 1) := by decide +kernel
theorem dL_law_220 : decode cL_law 220 = .ok (.iload_n 3, 1) := by decide +kernel
theorem dL_law_221 : decode cL_law 221 = .ok (.iconst 1, 1) := by decide +kernel
theorem dL_law_222 : decode cL_law 222 = .ok (.iadd, 1) := by decide +kernel
theorem dL_law_223 : decode cL_law 223 = .ok (.iaload, 1) := by decide +kernel
theorem dL_law_224 : decode cL_law 224 = .ok (.aload_n 0, 1) := by decide +kernel
theorem dL_law_225 : decode cL_law 225 = .ok (.iload_n 3, 1) := by decide +kernel
theorem dL_law_226 : decode cL_law 226 = .ok (.iconst 2, 1) := by decide +kernel
theorem dL_law_227 : decode cL_law 227 = .ok (.iadd, 1) := by decide +kernel
theorem dL_law_228 : decode cL_law 228 = .ok (.iaload, 1) := by decide +kernel
theorem dL_law_229 : decode cL_law 229 = .ok (.aload_n 0, 1) := by decide +kernel
theorem dL_law_230 : decode cL_law 230 = .ok (.iload_n 3, 1) := by decide +kernel
theorem dL_law_231 : decode cL_law 231 = .ok (.iconst 3, 1) := by decide +kernel
theorem dL_law_232 : decode cL_law 232 = .ok (.iadd, 1) := by decide +kernel
theorem dL_law_233 : decode cL_law 233 = .ok (.iaload, 1) := by decide +kernel
theorem dL_law_234 : decode cL_law 234 = .ok (.i2l, 1) := by decide +kernel
theorem dL_law_235 : decode cL_law 235 = .ok (.bipush 32, 2) := by decide +kernel
theorem dL_law_237 : decode cL_law 237 = .ok (.lshl, 1) := by decide +kernel
theorem dL_law_238 : decode cL_law 238 = .ok (.aload_n 0, 1) := by decide +kernel
theorem dL_law_239 : decode cL_law 239 = .ok (.iload_n 3, 1) := by decide +kernel
theorem dL_law_240 : decode cL_law 240 = .ok (.iconst 4, 1) := by decide +kernel
theorem dL_law_241 : decode cL_law 241 = .ok (.iadd, 1) := by decide +kernel
theorem dL_law_242 : decode cL_law 242 = .ok (.iaload, 1) := by decide +kernel
theorem dL_law_243 : decode cL_law 243 = .ok (.i2l, 1) := by decide +kernel
theorem dL_law_244 : decode cL_law 244 = .ok (.ldc2_w 23, 3) := by decide +kernel
theorem dL_law_247 : decode cL_law 247 = .ok (.land, 1) := by decide +kernel
theorem dL_law_248 : decode cL_law 248 = .ok (.lor, 1) := by decide +kernel
theorem dL_law_249 : decode cL_law 249 = .ok (.aload_n 0, 1) := by decide +kernel
theorem dL_law_250 : decode cL_law 250 = .ok (.iload_n 3, 1) := by decide +kernel
theorem dL_law_251 : decode cL_law 251 = .ok (.iconst 5, 1) := by decide +kernel
theorem dL_law_252 : decode cL_law 252 = .ok (.iadd, 1) := by decide +kernel
theorem dL_law_253 : decode cL_law 253 = .ok (.iaload, 1) := by decide +kernel
theorem dL_law_254 : decode cL_law 254 = .ok (.invokevirtual 25, 3) := by decide +kernel
theorem dL_law_257 : decode cL_law 257 = .ok (.aload_n 2, 1) := by decide +kernel
theorem dL_law_258 : decode cL_law 258 = .ok (.aload_n 0, 1) := by decide +kernel
theorem dL_law_259 : decode cL_law 259 = .ok (.iload_n 3, 1) := by decide +kernel
theorem dL_law_260 : decode cL_law 260 = .ok (.iconst 1, 1) := by decide +kernel
theorem dL_law_261 : decode cL_law 261 = .ok (.iadd, 1) := by decide +kernel
theorem dL_law_262 : decode cL_law 262 = .ok (.iaload, 1) := by decide +kernel
theorem dL_law_263 : decode cL_law 263 = .ok (.aload_n 0, 1) := by decide +kernel
theorem dL_law_264 : decode cL_law 264 = .ok (.iload_n 3, 1) := by decide +kernel
theorem dL_law_265 : decode cL_law 265 = .ok (.iconst 2, 1) := by decide +kernel
theorem dL_law_266 : decode cL_law 266 = .ok (.iadd, 1) := by decide +kernel
theorem dL_law_267 : decode cL_law 267 = .ok (.iaload, 1) := by decide +kernel
theorem dL_law_268 : decode cL_law 268 = .ok (.aload_n 0, 1) := by decide +kernel
theorem dL_law_269 : decode cL_law 269 = .ok (.iload_n 3, 1) := by decide +kernel
theorem dL_law_270 : decode cL_law 270 = .ok (.iconst 3, 1) := by decide +kernel
theorem dL_law_271 : decode cL_law 271 = .ok (.iadd, 1) := by decide +kernel
theorem dL_law_272 : decode cL_law 272 = .ok (.iaload, 1) := by decide +kernel
theorem dL_law_273 : decode cL_law 273 = .ok (.i2l, 1) := by decide +kernel
theorem dL_law_274 : decode cL_law 274 = .ok (.bipush 32, 2) := by decide +kernel
theorem dL_law_276 : decode cL_law 276 = .ok (.lshl, 1) := by decide +kernel
theorem dL_law_277 : decode cL_law 277 = .ok (.aload_n 0, 1) := by decide +kernel
theorem dL_law_278 : decode cL_law 278 = .ok (.iload_n 3, 1) := by decide +kernel
theorem dL_law_279 : decode cL_law 279 = .ok (.iconst 4, 1) := by decide +kernel
theorem dL_law_280 : decode cL_law 280 = .ok (.iadd, 1) := by decide +kernel
theorem dL_law_281 : decode cL_law 281 = .ok (.iaload, 1) := by decide +kernel
theorem dL_law_282 : decode cL_law 282 = .ok (.i2l, 1) := by decide +kernel
theorem dL_law_283 : decode cL_law 283 = .ok (.ldc2_w 23, 3) := by decide +kernel
theorem dL_law_286 : decode cL_law 286 = .ok (.land, 1) := by decide +kernel
theorem dL_law_287 : decode cL_law 287 = .ok (.lor, 1) := by decide +kernel
theorem dL_law_288 : decode cL_law 288 = .ok (.aload_n 0, 1) := by decide +kernel
theorem dL_law_289 : decode cL_law 289 = .ok (.iload_n 3, 1) := by decide +kernel
theorem dL_law_290 : decode cL_law 290 = .ok (.iconst 5, 1) := by decide +kernel
theorem dL_law_291 : decode cL_law 291 = .ok (.iadd, 1) := by decide +kernel
theorem dL_law_292 : decode cL_law 292 = .ok (.iaload, 1) := by decide +kernel
theorem dL_law_293 : decode cL_law 293 = .ok (.invokevirtual 29, 3) := by decide +kernel
theorem dL_law_296 : decode cL_law 296 = .ok (.if_icmp .eq 1037, 3) := by decide +kernel
theorem dL_law_299 : decode cL_law 299 = .ok (.iconst 0, 1) := by decide +kernel
theorem dL_law_300 : decode cL_law 300 = .ok (.ireturn, 1) := by decide +kernel
theorem dL_law_301 : decode cL_law 301 = .ok (.aload_n 1, 1) := by decide +kernel
theorem dL_law_302 : decode cL_law 302 = .ok (.aload_n 0, 1) := by decide +kernel
theorem dL_law_303 : decode cL_law 303 = .ok (.iload_n 3, 1) := by decide +kernel
theorem dL_law_304 : decode cL_law 304 = .ok (.iconst 1, 1) := by decide +kernel
theorem dL_law_305 : decode cL_law 305 = .ok (.iadd, 1) := by decide +kernel
theorem dL_law_306 : decode cL_law 306 = .ok (.iaload, 1) := by decide +kernel
theorem dL_law_307 : decode cL_law 307 = .ok (.aload_n 0, 1) := by decide +kernel
theorem dL_law_308 : decode cL_law 308 = .ok (.iload_n 3, 1) := by decide +kernel
theorem dL_law_309 : decode cL_law 309 = .ok (.iconst 2, 1) := by decide +kernel
theorem dL_law_310 : decode cL_law 310 = .ok (.iadd, 1) := by decide +kernel
theorem dL_law_311 : decode cL_law 311 = .ok (.iaload, 1) := by decide +kernel
theorem dL_law_312 : decode cL_law 312 = .ok (.aload_n 0, 1) := by decide +kernel
theorem dL_law_313 : decode cL_law 313 = .ok (.iload_n 3, 1) := by decide +kernel
theorem dL_law_314 : decode cL_law 314 = .ok (.iconst 3, 1) := by decide +kernel
theorem dL_law_315 : decode cL_law 315 = .ok (.iadd, 1) := by decide +kernel
theorem dL_law_316 : decode cL_law 316 = .ok (.iaload, 1) := by decide +kernel
theorem dL_law_317 : decode cL_law 317 = .ok (.invokevirtual 30, 3) := by decide +kernel
theorem dL_law_320 : decode cL_law 320 = .ok (.aload_n 2, 1) := by decide +kernel
theorem dL_law_321 : decode cL_law 321 = .ok (.aload_n 0, 1) := by decide +kernel
theorem dL_law_322 : decode cL_law 322 = .ok (.iload_n 3, 1) := by decide +kernel
theorem dL_law_323 : decode cL_law 323 = .ok (.iconst 1, 1) := by decide +kernel
theorem dL_law_324 : decode cL_law 324 = .ok (.iadd, 1) := by decide +kernel
theorem dL_law_325 : decode cL_law 325 = .ok (.iaload, 1) := by decide +kernel
theorem dL_law_326 : decode cL_law 326 = .ok (.aload_n 0, 1) := by decide +kernel
theorem dL_law_327 : decode cL_law 327 = .ok (.iload_n 3, 1) := by decide +kernel
theorem dL_law_328 : decode cL_law 328 = .ok (.iconst 2, 1) := by decide +kernel
theorem dL_law_329 : decode cL_law 329 = .ok (.iadd, 1) := by decide +kernel
theorem dL_law_330 : decode cL_law 330 = .ok (.iaload, 1) := by decide +kernel
theorem dL_law_331 : decode cL_law 331 = .ok (.aload_n 0, 1) := by decide +kernel
theorem dL_law_332 : decode cL_law 332 = .ok (.iload_n 3, 1) := by decide +kernel
theorem dL_law_333 : decode cL_law 333 = .ok (.iconst 3, 1) := by decide +kernel
theorem dL_law_334 : decode cL_law 334 = .ok (.iadd, 1) := by decide +kernel
theorem dL_law_335 : decode cL_law 335 = .ok (.iaload, 1) := by decide +kernel
theorem dL_law_336 : decode cL_law 336 = .ok (.invokevirtual 33, 3) := by decide +kernel
theorem dL_law_339 : decode cL_law 339 = .ok (.if_icmp .eq 994, 3) := by decide +kernel
theorem dL_law_342 : decode cL_law 342 = .ok (.iconst 0, 1) := by decide +kernel
theorem dL_law_343 : decode cL_law 343 = .ok (.ireturn, 1) := by decide +kernel
theorem dL_law_344 : decode cL_law 344 = .ok (.aload_n 1, 1) := by decide +kernel
theorem dL_law_345 : decode cL_law 345 = .ok (.aload_n 0, 1) := by decide +kernel
theorem dL_law_346 : decode cL_law 346 = .ok (.iload_n 3, 1) := by decide +kernel
theorem dL_law_347 : decode cL_law 347 = .ok (.iconst 1, 1) := by decide +kernel
theorem dL_law_348 : decode cL_law 348 = .ok (.iadd, 1) := by decide +kernel
theorem dL_law_349 : decode cL_law 349 = .ok (.iaload, 1) := by decide +kernel
theorem dL_law_350 : decode cL_law 350 = .ok (.aload_n 0, 1) := by decide +kernel
theorem dL_law_351 : decode cL_law 351 = .ok (.iload_n 3, 1) := by decide +kernel
theorem dL_law_352 : decode cL_law 352 = .ok (.iconst 2, 1) := by decide +kernel
theorem dL_law_353 : decode cL_law 353 = .ok (.iadd, 1) := by decide +kernel
theorem dL_law_354 : decode cL_law 354 = .ok (.iaload, 1) := by decide +kernel
theorem dL_law_355 : decode cL_law 355 = .ok (.aload_n 0, 1) := by decide +kernel
theorem dL_law_356 : decode cL_law 356 = .ok (.iload_n 3, 1) := by decide +kernel
theorem dL_law_357 : decode cL_law 357 = .ok (.iconst 3, 1) := by decide +kernel
theorem dL_law_358 : decode cL_law 358 = .ok (.iadd, 1) := by decide +kernel
theorem dL_law_359 : decode cL_law 359 = .ok (.iaload, 1) := by decide +kernel
theorem dL_law_360 : decode cL_law 360 = .ok (.aload_n 0, 1) := by decide +kernel
theorem dL_law_361 : decode cL_law 361 = .ok (.iload_n 3, 1) := by decide +kernel
theorem dL_law_362 : decode cL_law 362 = .ok (.iconst 4, 1) := by decide +kernel
theorem dL_law_363 : decode cL_law 363 = .ok (.iadd, 1) := by decide +kernel
theorem dL_law_364 : decode cL_law 364 = .ok (.iaload, 1) := by decide +kernel
theorem dL_law_365 : decode cL_law 365 = .ok (.aload_n 0, 1) := by decide +kernel
theorem dL_law_366 : decode cL_law 366 = .ok (.iload_n 3, 1) := by decide +kernel
theorem dL_law_367 : decode cL_law 367 = .ok (.iconst 5, 1) := by decide +kernel
theorem dL_law_368 : decode cL_law 368 = .ok (.iadd, 1) := by decide +kernel
theorem dL_law_369 : decode cL_law 369 = .ok (.iaload, 1) := by decide +kernel
theorem dL_law_370 : decode cL_law 370 = .ok (.invokevirtual 34, 3) := by decide +kernel
theorem dL_law_373 : decode cL_law 373 = .ok (.aload_n 2, 1) := by decide +kernel
theorem dL_law_374 : decode cL_law 374 = .ok (.aload_n 0, 1) := by decide +kernel
theorem dL_law_375 : decode cL_law 375 = .ok (.iload_n 3, 1) := by decide +kernel
theorem dL_law_376 : decode cL_law 376 = .ok (.iconst 1, 1) := by decide +kernel
theorem dL_law_377 : decode cL_law 377 = .ok (.iadd, 1) := by decide +kernel
theorem dL_law_378 : decode cL_law 378 = .ok (.iaload, 1) := by decide +kernel
theorem dL_law_379 : decode cL_law 379 = .ok (.aload_n 0, 1) := by decide +kernel
theorem dL_law_380 : decode cL_law 380 = .ok (.iload_n 3, 1) := by decide +kernel
theorem dL_law_381 : decode cL_law 381 = .ok (.iconst 2, 1) := by decide +kernel
theorem dL_law_382 : decode cL_law 382 = .ok (.iadd, 1) := by decide +kernel
theorem dL_law_383 : decode cL_law 383 = .ok (.iaload, 1) := by decide +kernel
theorem dL_law_384 : decode cL_law 384 = .ok (.aload_n 0, 1) := by decide +kernel
theorem dL_law_385 : decode cL_law 385 = .ok (.iload_n 3, 1) := by decide +kernel
theorem dL_law_386 : decode cL_law 386 = .ok (.iconst 3, 1) := by decide +kernel
theorem dL_law_387 : decode cL_law 387 = .ok (.iadd, 1) := by decide +kernel
theorem dL_law_388 : decode cL_law 388 = .ok (.iaload, 1) := by decide +kernel
theorem dL_law_389 : decode cL_law 389 = .ok (.aload_n 0, 1) := by decide +kernel
theorem dL_law_390 : decode cL_law 390 = .ok (.iload_n 3, 1) := by decide +kernel
theorem dL_law_391 : decode cL_law 391 = .ok (.iconst 4, 1) := by decide +kernel
theorem dL_law_392 : decode cL_law 392 = .ok (.iadd, 1) := by decide +kernel
theorem dL_law_393 : decode cL_law 393 = .ok (.iaload, 1) := by decide +kernel
theorem dL_law_394 : decode cL_law 394 = .ok (.aload_n 0, 1) := by decide +kernel
theorem dL_law_395 : decode cL_law 395 = .ok (.iload_n 3, 1) := by decide +kernel
theorem dL_law_396 : decode cL_law 396 = .ok (.iconst 5, 1) := by decide +kernel
theorem dL_law_397 : decode cL_law 397 = .ok (.iadd, 1) := by decide +kernel
theorem dL_law_398 : decode cL_law 398 = .ok (.iaload, 1) := by decide +kernel
theorem dL_law_399 : decode cL_law 399 = .ok (.invokevirtual 38, 3) := by decide +kernel
theorem dL_law_402 : decode cL_law 402 = .ok (.if_icmp .eq 931, 3) := by decide +kernel
theorem dL_law_405 : decode cL_law 405 = .ok (.iconst 0, 1) := by decide +kernel
theorem dL_law_406 : decode cL_law 406 = .ok (.ireturn, 1) := by decide +kernel
theorem dL_law_407 : decode cL_law 407 = .ok (.aload_n 1, 1) := by decide +kernel
theorem dL_law_408 : decode cL_law 408 = .ok (.aload_n 0, 1) := by decide +kernel
theorem dL_law_409 : decode cL_law 409 = .ok (.iload_n 3, 1) := by decide +kernel
theorem dL_law_410 : decode cL_law 410 = .ok (.iconst 1, 1) := by decide +kernel
theorem dL_law_411 : decode cL_law 411 = .ok (.iadd, 1) := by decide +kernel
theorem dL_law_412 : decode cL_law 412 = .ok (.iaload, 1) := by decide +kernel
theorem dL_law_413 : decode cL_law 413 = .ok (.aload_n 0, 1) := by decide +kernel
theorem dL_law_414 : decode cL_law 414 = .ok (.iload_n 3, 1) := by decide +kernel
theorem dL_law_415 : decode cL_law 415 = .ok (.iconst 2, 1) := by decide +kernel
theorem dL_law_416 : decode cL_law 416 = .ok (.iadd, 1) := by decide +kernel
theorem dL_law_417 : decode cL_law 417 = .ok (.iaload, 1) := by decide +kernel
theorem dL_law_418 : decode cL_law 418 = .ok (.aload_n 0, 1) := by decide +kernel
theorem dL_law_419 : decode cL_law 419 = .ok (.iload_n 3, 1) := by decide +kernel
theorem dL_law_420 : decode cL_law 420 = .ok (.iconst 3, 1) := by decide +kernel
theorem dL_law_421 : decode cL_law 421 = .ok (.iadd, 1) := by decide +kernel
theorem dL_law_422 : decode cL_law 422 = .ok (.iaload, 1) := by decide +kernel
theorem dL_law_423 : decode cL_law 423 = .ok (.invokevirtual 39, 3) := by decide +kernel
theorem dL_law_426 : decode cL_law 426 = .ok (.aload_n 2, 1) := by decide +kernel
theorem dL_law_427 : decode cL_law 427 = .ok (.aload_n 0, 1) := by decide +kernel
theorem dL_law_428 : decode cL_law 428 = .ok (.iload_n 3, 1) := by decide +kernel
theorem dL_law_429 : decode cL_law 429 = .ok (.iconst 1, 1) := by decide +kernel
theorem dL_law_430 : decode cL_law 430 = .ok (.iadd, 1) := by decide +kernel
theorem dL_law_431 : decode cL_law 431 = .ok (.iaload, 1) := by decide +kernel
theorem dL_law_432 : decode cL_law 432 = .ok (.aload_n 0, 1) := by decide +kernel
theorem dL_law_433 : decode cL_law 433 = .ok (.iload_n 3, 1) := by decide +kernel
theorem dL_law_434 : decode cL_law 434 = .ok (.iconst 2, 1) := by decide +kernel
theorem dL_law_435 : decode cL_law 435 = .ok (.iadd, 1) := by decide +kernel
theorem dL_law_436 : decode cL_law 436 = .ok (.iaload, 1) := by decide +kernel
theorem dL_law_437 : decode cL_law 437 = .ok (.aload_n 0, 1) := by decide +kernel
theorem dL_law_438 : decode cL_law 438 = .ok (.iload_n 3, 1) := by decide +kernel
theorem dL_law_439 : decode cL_law 439 = .ok (.iconst 3, 1) := by decide +kernel
theorem dL_law_440 : decode cL_law 440 = .ok (.iadd, 1) := by decide +kernel
theorem dL_law_441 : decode cL_law 441 = .ok (.iaload, 1) := by decide +kernel
theorem dL_law_442 : decode cL_law 442 = .ok (.invokevirtual 43, 3) := by decide +kernel
theorem dL_law_445 : decode cL_law 445 = .ok (.lcmp, 1) := by decide +kernel
theorem dL_law_446 : decode cL_law 446 = .ok (.ifCond .eq 887, 3) := by decide +kernel
theorem dL_law_449 : decode cL_law 449 = .ok (.iconst 0, 1) := by decide +kernel
theorem dL_law_450 : decode cL_law 450 = .ok (.ireturn, 1) := by decide +kernel
theorem dL_law_451 : decode cL_law 451 = .ok (.aload_n 1, 1) := by decide +kernel
theorem dL_law_452 : decode cL_law 452 = .ok (.aload_n 0, 1) := by decide +kernel
theorem dL_law_453 : decode cL_law 453 = .ok (.iload_n 3, 1) := by decide +kernel
theorem dL_law_454 : decode cL_law 454 = .ok (.iconst 1, 1) := by decide +kernel
theorem dL_law_455 : decode cL_law 455 = .ok (.iadd, 1) := by decide +kernel
theorem dL_law_456 : decode cL_law 456 = .ok (.iaload, 1) := by decide +kernel
theorem dL_law_457 : decode cL_law 457 = .ok (.aload_n 0, 1) := by decide +kernel
theorem dL_law_458 : decode cL_law 458 = .ok (.iload_n 3, 1) := by decide +kernel
theorem dL_law_459 : decode cL_law 459 = .ok (.iconst 2, 1) := by decide +kernel
theorem dL_law_460 : decode cL_law 460 = .ok (.iadd, 1) := by decide +kernel
theorem dL_law_461 : decode cL_law 461 = .ok (.iaload, 1) := by decide +kernel
theorem dL_law_462 : decode cL_law 462 = .ok (.invokevirtual 44, 3) := by decide +kernel
theorem dL_law_465 : decode cL_law 465 = .ok (.dstore 4, 2) := by decide +kernel
theorem dL_law_467 : decode cL_law 467 = .ok (.aload_n 2, 1) := by decide +kernel
theorem dL_law_468 : decode cL_law 468 = .ok (.aload_n 0, 1) := by decide +kernel
theorem dL_law_469 : decode cL_law 469 = .ok (.iload_n 3, 1) := by decide +kernel
theorem dL_law_470 : decode cL_law 470 = .ok (.iconst 1, 1) := by decide +kernel
theorem dL_law_471 : decode cL_law 471 = .ok (.iadd, 1) := by decide +kernel
theorem dL_law_472 : decode cL_law 472 = .ok (.iaload, 1) := by decide +kernel
theorem dL_law_473 : decode cL_law 473 = .ok (.aload_n 0, 1) := by decide +kernel
theorem dL_law_474 : decode cL_law 474 = .ok (.iload_n 3, 1) := by decide +kernel
theorem dL_law_475 : decode cL_law 475 = .ok (.iconst 2, 1) := by decide +kernel
theorem dL_law_476 : decode cL_law 476 = .ok (.iadd, 1) := by decide +kernel
theorem dL_law_477 : decode cL_law 477 = .ok (.iaload, 1) := by decide +kernel
theorem dL_law_478 : decode cL_law 478 = .ok (.invokevirtual 48, 3) := by decide +kernel
theorem dL_law_481 : decode cL_law 481 = .ok (.dstore 6, 2) := by decide +kernel
theorem dL_law_483 : decode cL_law 483 = .ok (.dload 4, 2) := by decide +kernel
theorem dL_law_485 : decode cL_law 485 = .ok (.dload 6, 2) := by decide +kernel
theorem dL_law_487 : decode cL_law 487 = .ok (.dcmp .l, 1) := by decide +kernel
theorem dL_law_488 : decode cL_law 488 = .ok (.ifCond .eq 21, 3) := by decide +kernel
theorem dL_law_491 : decode cL_law 491 = .ok (.dload 4, 2) := by decide +kernel
theorem dL_law_493 : decode cL_law 493 = .ok (.dload 4, 2) := by decide +kernel
theorem dL_law_495 : decode cL_law 495 = .ok (.dcmp .l, 1) := by decide +kernel
theorem dL_law_496 : decode cL_law 496 = .ok (.ifCond .eq 11, 3) := by decide +kernel
theorem dL_law_499 : decode cL_law 499 = .ok (.dload 6, 2) := by decide +kernel
theorem dL_law_501 : decode cL_law 501 = .ok (.dload 6, 2) := by decide +kernel
theorem dL_law_503 : decode cL_law 503 = .ok (.dcmp .l, 1) := by decide +kernel
theorem dL_law_504 : decode cL_law 504 = .ok (.ifCond .ne 5, 3) := by decide +kernel
theorem dL_law_507 : decode cL_law 507 = .ok (.iconst 0, 1) := by decide +kernel
theorem dL_law_508 : decode cL_law 508 = .ok (.ireturn, 1) := by decide +kernel
theorem dL_law_509 : decode cL_law 509 = .ok (.goto 824, 3) := by decide +kernel
theorem dL_law_512 : decode cL_law 512 = .ok (.aload_n 1, 1) := by decide +kernel
theorem dL_law_513 : decode cL_law 513 = .ok (.aload_n 0, 1) := by decide +kernel
theorem dL_law_514 : decode cL_law 514 = .ok (.iload_n 3, 1) := by decide +kernel
theorem dL_law_515 : decode cL_law 515 = .ok (.iconst 1, 1) := by decide +kernel
theorem dL_law_516 : decode cL_law 516 = .ok (.iadd, 1) := by decide +kernel
theorem dL_law_517 : decode cL_law 517 = .ok (.iaload, 1) := by decide +kernel
theorem dL_law_518 : decode cL_law 518 = .ok (.aload_n 0, 1) := by decide +kernel
theorem dL_law_519 : decode cL_law 519 = .ok (.iload_n 3, 1) := by decide +kernel
theorem dL_law_520 : decode cL_law 520 = .ok (.iconst 2, 1) := by decide +kernel
theorem dL_law_521 : decode cL_law 521 = .ok (.iadd, 1) := by decide +kernel
theorem dL_law_522 : decode cL_law 522 = .ok (.iaload, 1) := by decide +kernel
theorem dL_law_523 : decode cL_law 523 = .ok (.aload_n 0, 1) := by decide +kernel
theorem dL_law_524 : decode cL_law 524 = .ok (.iload_n 3, 1) := by decide +kernel
theorem dL_law_525 : decode cL_law 525 = .ok (.iconst 3, 1) := by decide +kernel
theorem dL_law_526 : decode cL_law 526 = .ok (.iadd, 1) := by decide +kernel
theorem dL_law_527 : decode cL_law 527 = .ok (.iaload, 1) := by decide +kernel
theorem dL_law_528 : decode cL_law 528 = .ok (.i2d, 1) := by decide +kernel
theorem dL_law_529 : decode cL_law 529 = .ok (.ldc2_w 49, 3) := by decide +kernel
theorem dL_law_532 : decode cL_law 532 = .ok (.dmul, 1) := by decide +kernel
theorem dL_law_533 : decode cL_law 533 = .ok (.invokevirtual 51, 3) := by decide +kernel
theorem dL_law_536 : decode cL_law 536 = .ok (.aload_n 2, 1) := by decide +kernel
theorem dL_law_537 : decode cL_law 537 = .ok (.aload_n 0, 1) := by decide +kernel
theorem dL_law_538 : decode cL_law 538 = .ok (.iload_n 3, 1) := by decide +kernel
theorem dL_law_539 : decode cL_law 539 = .ok (.iconst 1, 1) := by decide +kernel
theorem dL_law_540 : decode cL_law 540 = .ok (.iadd, 1) := by decide +kernel
theorem dL_law_541 : decode cL_law 541 = .ok (.iaload, 1) := by decide +kernel
theorem dL_law_542 : decode cL_law 542 = .ok (.aload_n 0, 1) := by decide +kernel
theorem dL_law_543 : decode cL_law 543 = .ok (.iload_n 3, 1) := by decide +kernel
theorem dL_law_544 : decode cL_law 544 = .ok (.iconst 2, 1) := by decide +kernel
theorem dL_law_545 : decode cL_law 545 = .ok (.iadd, 1) := by decide +kernel
theorem dL_law_546 : decode cL_law 546 = .ok (.iaload, 1) := by decide +kernel
theorem dL_law_547 : decode cL_law 547 = .ok (.aload_n 0, 1) := by decide +kernel
theorem dL_law_548 : decode cL_law 548 = .ok (.iload_n 3, 1) := by decide +kernel
theorem dL_law_549 : decode cL_law 549 = .ok (.iconst 3, 1) := by decide +kernel
theorem dL_law_550 : decode cL_law 550 = .ok (.iadd, 1) := by decide +kernel
theorem dL_law_551 : decode cL_law 551 = .ok (.iaload, 1) := by decide +kernel
theorem dL_law_552 : decode cL_law 552 = .ok (.i2d, 1) := by decide +kernel
theorem dL_law_553 : decode cL_law 553 = .ok (.ldc2_w 49, 3) := by decide +kernel
theorem dL_law_556 : decode cL_law 556 = .ok (.dmul, 1) := by decide +kernel
theorem dL_law_557 : decode cL_law 557 = .ok (.invokevirtual 55, 3) := by decide +kernel
theorem dL_law_560 : decode cL_law 560 = .ok (.if_icmp .eq 773, 3) := by decide +kernel
theorem dL_law_563 : decode cL_law 563 = .ok (.iconst 0, 1) := by decide +kernel
theorem dL_law_564 : decode cL_law 564 = .ok (.ireturn, 1) := by decide +kernel
theorem dL_law_565 : decode cL_law 565 = .ok (.aload_n 1, 1) := by decide +kernel
theorem dL_law_566 : decode cL_law 566 = .ok (.aload_n 0, 1) := by decide +kernel
theorem dL_law_567 : decode cL_law 567 = .ok (.iload_n 3, 1) := by decide +kernel
theorem dL_law_568 : decode cL_law 568 = .ok (.iconst 1, 1) := by decide +kernel
theorem dL_law_569 : decode cL_law 569 = .ok (.iadd, 1) := by decide +kernel
theorem dL_law_570 : decode cL_law 570 = .ok (.iaload, 1) := by decide +kernel
theorem dL_law_571 : decode cL_law 571 = .ok (.aload_n 0, 1) := by decide +kernel
theorem dL_law_572 : decode cL_law 572 = .ok (.iload_n 3, 1) := by decide +kernel
theorem dL_law_573 : decode cL_law 573 = .ok (.iconst 2, 1) := by decide +kernel
theorem dL_law_574 : decode cL_law 574 = .ok (.iadd, 1) := by decide +kernel
theorem dL_law_575 : decode cL_law 575 = .ok (.iaload, 1) := by decide +kernel
theorem dL_law_576 : decode cL_law 576 = .ok (.invokevirtual 56, 3) := by decide +kernel
theorem dL_law_579 : decode cL_law 579 = .ok (.aload_n 2, 1) := by decide +kernel
theorem dL_law_580 : decode cL_law 580 = .ok (.aload_n 0, 1) := by decide +kernel
theorem dL_law_581 : decode cL_law 581 = .ok (.iload_n 3, 1) := by decide +kernel
theorem dL_law_582 : decode cL_law 582 = .ok (.iconst 1, 1) := by decide +kernel
theorem dL_law_583 : decode cL_law 583 = .ok (.iadd, 1) := by decide +kernel
theorem dL_law_584 : decode cL_law 584 = .ok (.iaload, 1) := by decide +kernel
theorem dL_law_585 : decode cL_law 585 = .ok (.aload_n 0, 1) := by decide +kernel
theorem dL_law_586 : decode cL_law 586 = .ok (.iload_n 3, 1) := by decide +kernel
theorem dL_law_587 : decode cL_law 587 = .ok (.iconst 2, 1) := by decide +kernel
theorem dL_law_588 : decode cL_law 588 = .ok (.iadd, 1) := by decide +kernel
theorem dL_law_589 : decode cL_law 589 = .ok (.iaload, 1) := by decide +kernel
theorem dL_law_590 : decode cL_law 590 = .ok (.invokevirtual 60, 3) := by decide +kernel
theorem dL_law_593 : decode cL_law 593 = .ok (.if_icmp .eq 740, 3) := by decide +kernel
theorem dL_law_596 : decode cL_law 596 = .ok (.iconst 0, 1) := by decide +kernel
theorem dL_law_597 : decode cL_law 597 = .ok (.ireturn, 1) := by decide +kernel
theorem dL_law_598 : decode cL_law 598 = .ok (.aload_n 1, 1) := by decide +kernel
theorem dL_law_599 : decode cL_law 599 = .ok (.aload_n 0, 1) := by decide +kernel
theorem dL_law_600 : decode cL_law 600 = .ok (.iload_n 3, 1) := by decide +kernel
theorem dL_law_601 : decode cL_law 601 = .ok (.iconst 1, 1) := by decide +kernel
theorem dL_law_602 : decode cL_law 602 = .ok (.iadd, 1) := by decide +kernel
theorem dL_law_603 : decode cL_law 603 = .ok (.iaload, 1) := by decide +kernel
theorem dL_law_604 : decode cL_law 604 = .ok (.aload_n 0, 1) := by decide +kernel
theorem dL_law_605 : decode cL_law 605 = .ok (.iload_n 3, 1) := by decide +kernel
theorem dL_law_606 : decode cL_law 606 = .ok (.iconst 2, 1) := by decide +kernel
theorem dL_law_607 : decode cL_law 607 = .ok (.iadd, 1) := by decide +kernel
theorem dL_law_608 : decode cL_law 608 = .ok (.iaload, 1) := by decide +kernel
theorem dL_law_609 : decode cL_law 609 = .ok (.aload_n 0, 1) := by decide +kernel
theorem dL_law_610 : decode cL_law 610 = .ok (.iload_n 3, 1) := by decide +kernel
theorem dL_law_611 : decode cL_law 611 = .ok (.iconst 3, 1) := by decide +kernel
theorem dL_law_612 : decode cL_law 612 = .ok (.iadd, 1) := by decide +kernel
theorem dL_law_613 : decode cL_law 613 = .ok (.iaload, 1) := by decide +kernel
theorem dL_law_614 : decode cL_law 614 = .ok (.aload_n 0, 1) := by decide +kernel
theorem dL_law_615 : decode cL_law 615 = .ok (.iload_n 3, 1) := by decide +kernel
theorem dL_law_616 : decode cL_law 616 = .ok (.iconst 4, 1) := by decide +kernel
theorem dL_law_617 : decode cL_law 617 = .ok (.iadd, 1) := by decide +kernel
theorem dL_law_618 : decode cL_law 618 = .ok (.iaload, 1) := by decide +kernel
theorem dL_law_619 : decode cL_law 619 = .ok (.invokevirtual 61, 3) := by decide +kernel
theorem dL_law_622 : decode cL_law 622 = .ok (.aload_n 2, 1) := by decide +kernel
theorem dL_law_623 : decode cL_law 623 = .ok (.aload_n 0, 1) := by decide +kernel
theorem dL_law_624 : decode cL_law 624 = .ok (.iload_n 3, 1) := by decide +kernel
theorem dL_law_625 : decode cL_law 625 = .ok (.iconst 1, 1) := by decide +kernel
theorem dL_law_626 : decode cL_law 626 = .ok (.iadd, 1) := by decide +kernel
theorem dL_law_627 : decode cL_law 627 = .ok (.iaload, 1) := by decide +kernel
theorem dL_law_628 : decode cL_law 628 = .ok (.aload_n 0, 1) := by decide +kernel
theorem dL_law_629 : decode cL_law 629 = .ok (.iload_n 3, 1) := by decide +kernel
theorem dL_law_630 : decode cL_law 630 = .ok (.iconst 2, 1) := by decide +kernel
theorem dL_law_631 : decode cL_law 631 = .ok (.iadd, 1) := by decide +kernel
theorem dL_law_632 : decode cL_law 632 = .ok (.iaload, 1) := by decide +kernel
theorem dL_law_633 : decode cL_law 633 = .ok (.aload_n 0, 1) := by decide +kernel
theorem dL_law_634 : decode cL_law 634 = .ok (.iload_n 3, 1) := by decide +kernel
theorem dL_law_635 : decode cL_law 635 = .ok (.iconst 3, 1) := by decide +kernel
theorem dL_law_636 : decode cL_law 636 = .ok (.iadd, 1) := by decide +kernel
theorem dL_law_637 : decode cL_law 637 = .ok (.iaload, 1) := by decide +kernel
theorem dL_law_638 : decode cL_law 638 = .ok (.aload_n 0, 1) := by decide +kernel
theorem dL_law_639 : decode cL_law 639 = .ok (.iload_n 3, 1) := by decide +kernel
theorem dL_law_640 : decode cL_law 640 = .ok (.iconst 4, 1) := by decide +kernel
theorem dL_law_641 : decode cL_law 641 = .ok (.iadd, 1) := by decide +kernel
theorem dL_law_642 : decode cL_law 642 = .ok (.iaload, 1) := by decide +kernel
theorem dL_law_643 : decode cL_law 643 = .ok (.invokevirtual 65, 3) := by decide +kernel
theorem dL_law_646 : decode cL_law 646 = .ok (.if_icmp .eq 687, 3) := by decide +kernel
theorem dL_law_649 : decode cL_law 649 = .ok (.iconst 0, 1) := by decide +kernel
theorem dL_law_650 : decode cL_law 650 = .ok (.ireturn, 1) := by decide +kernel
theorem dL_law_651 : decode cL_law 651 = .ok (.aload_n 1, 1) := by decide +kernel
theorem dL_law_652 : decode cL_law 652 = .ok (.aload_n 0, 1) := by decide +kernel
theorem dL_law_653 : decode cL_law 653 = .ok (.iload_n 3, 1) := by decide +kernel
theorem dL_law_654 : decode cL_law 654 = .ok (.iconst 1, 1) := by decide +kernel
theorem dL_law_655 : decode cL_law 655 = .ok (.iadd, 1) := by decide +kernel
theorem dL_law_656 : decode cL_law 656 = .ok (.iaload, 1) := by decide +kernel
theorem dL_law_657 : decode cL_law 657 = .ok (.aload_n 0, 1) := by decide +kernel
theorem dL_law_658 : decode cL_law 658 = .ok (.iload_n 3, 1) := by decide +kernel
theorem dL_law_659 : decode cL_law 659 = .ok (.iconst 2, 1) := by decide +kernel
theorem dL_law_660 : decode cL_law 660 = .ok (.iadd, 1) := by decide +kernel
theorem dL_law_661 : decode cL_law 661 = .ok (.iaload, 1) := by decide +kernel
theorem dL_law_662 : decode cL_law 662 = .ok (.aload_n 0, 1) := by decide +kernel
theorem dL_law_663 : decode cL_law 663 = .ok (.iload_n 3, 1) := by decide +kernel
theorem dL_law_664 : decode cL_law 664 = .ok (.iconst 3, 1) := by decide +kernel
theorem dL_law_665 : decode cL_law 665 = .ok (.iadd, 1) := by decide +kernel
theorem dL_law_666 : decode cL_law 666 = .ok (.iaload, 1) := by decide +kernel
theorem dL_law_667 : decode cL_law 667 = .ok (.aload_n 0, 1) := by decide +kernel
theorem dL_law_668 : decode cL_law 668 = .ok (.iload_n 3, 1) := by decide +kernel
theorem dL_law_669 : decode cL_law 669 = .ok (.iconst 4, 1) := by decide +kernel
theorem dL_law_670 : decode cL_law 670 = .ok (.iadd, 1) := by decide +kernel
theorem dL_law_671 : decode cL_law 671 = .ok (.iaload, 1) := by decide +kernel
theorem dL_law_672 : decode cL_law 672 = .ok (.aload_n 0, 1) := by decide +kernel
theorem dL_law_673 : decode cL_law 673 = .ok (.iload_n 3, 1) := by decide +kernel
theorem dL_law_674 : decode cL_law 674 = .ok (.iconst 5, 1) := by decide +kernel
theorem dL_law_675 : decode cL_law 675 = .ok (.iadd, 1) := by decide +kernel
theorem dL_law_676 : decode cL_law 676 = .ok (.iaload, 1) := by decide +kernel
theorem dL_law_677 : decode cL_law 677 = .ok (.invokevirtual 66, 3) := by decide +kernel
theorem dL_law_680 : decode cL_law 680 = .ok (.aload_n 2, 1) := by decide +kernel
theorem dL_law_681 : decode cL_law 681 = .ok (.aload_n 0, 1) := by decide +kernel
theorem dL_law_682 : decode cL_law 682 = .ok (.iload_n 3, 1) := by decide +kernel
theorem dL_law_683 : decode cL_law 683 = .ok (.iconst 1, 1) := by decide +kernel
theorem dL_law_684 : decode cL_law 684 = .ok (.iadd, 1) := by decide +kernel
theorem dL_law_685 : decode cL_law 685 = .ok (.iaload, 1) := by decide +kernel
theorem dL_law_686 : decode cL_law 686 = .ok (.aload_n 0, 1) := by decide +kernel
theorem dL_law_687 : decode cL_law 687 = .ok (.iload_n 3, 1) := by decide +kernel
theorem dL_law_688 : decode cL_law 688 = .ok (.iconst 2, 1) := by decide +kernel
theorem dL_law_689 : decode cL_law 689 = .ok (.iadd, 1) := by decide +kernel
theorem dL_law_690 : decode cL_law 690 = .ok (.iaload, 1) := by decide +kernel
theorem dL_law_691 : decode cL_law 691 = .ok (.aload_n 0, 1) := by decide +kernel
theorem dL_law_692 : decode cL_law 692 = .ok (.iload_n 3, 1) := by decide +kernel
theorem dL_law_693 : decode cL_law 693 = .ok (.iconst 3, 1) := by decide +kernel
theorem dL_law_694 : decode cL_law 694 = .ok (.iadd, 1) := by decide +kernel
theorem dL_law_695 : decode cL_law 695 = .ok (.iaload, 1) := by decide +kernel
theorem dL_law_696 : decode cL_law 696 = .ok (.aload_n 0, 1) := by decide +kernel
theorem dL_law_697 : decode cL_law 697 = .ok (.iload_n 3, 1) := by decide +kernel
theorem dL_law_698 : decode cL_law 698 = .ok (.iconst 4, 1) := by decide +kernel
theorem dL_law_699 : decode cL_law 699 = .ok (.iadd, 1) := by decide +kernel
theorem dL_law_700 : decode cL_law 700 = .ok (.iaload, 1) := by decide +kernel
theorem dL_law_701 : decode cL_law 701 = .ok (.aload_n 0, 1) := by decide +kernel
theorem dL_law_702 : decode cL_law 702 = .ok (.iload_n 3, 1) := by decide +kernel
theorem dL_law_703 : decode cL_law 703 = .ok (.iconst 5, 1) := by decide +kernel
theorem dL_law_704 : decode cL_law 704 = .ok (.iadd, 1) := by decide +kernel
theorem dL_law_705 : decode cL_law 705 = .ok (.iaload, 1) := by decide +kernel
theorem dL_law_706 : decode cL_law 706 = .ok (.invokevirtual 69, 3) := by decide +kernel
theorem dL_law_709 : decode cL_law 709 = .ok (.if_icmp .eq 624, 3) := by decide +kernel
theorem dL_law_712 : decode cL_law 712 = .ok (.iconst 0, 1) := by decide +kernel
theorem dL_law_713 : decode cL_law 713 = .ok (.ireturn, 1) := by decide +kernel
theorem dL_law_714 : decode cL_law 714 = .ok (.aload_n 1, 1) := by decide +kernel
theorem dL_law_715 : decode cL_law 715 = .ok (.aload_n 0, 1) := by decide +kernel
theorem dL_law_716 : decode cL_law 716 = .ok (.iload_n 3, 1) := by decide +kernel
theorem dL_law_717 : decode cL_law 717 = .ok (.iconst 1, 1) := by decide +kernel
theorem dL_law_718 : decode cL_law 718 = .ok (.iadd, 1) := by decide +kernel
theorem dL_law_719 : decode cL_law 719 = .ok (.iaload, 1) := by decide +kernel
theorem dL_law_720 : decode cL_law 720 = .ok (.aload_n 0, 1) := by decide +kernel
theorem dL_law_721 : decode cL_law 721 = .ok (.iload_n 3, 1) := by decide +kernel
theorem dL_law_722 : decode cL_law 722 = .ok (.iconst 2, 1) := by decide +kernel
theorem dL_law_723 : decode cL_law 723 = .ok (.iadd, 1) := by decide +kernel
theorem dL_law_724 : decode cL_law 724 = .ok (.iaload, 1) := by decide +kernel
theorem dL_law_725 : decode cL_law 725 = .ok (.invokevirtual 70, 3) := by decide +kernel
theorem dL_law_728 : decode cL_law 728 = .ok (.aload_n 2, 1) := by decide +kernel
theorem dL_law_729 : decode cL_law 729 = .ok (.aload_n 0, 1) := by decide +kernel
theorem dL_law_730 : decode cL_law 730 = .ok (.iload_n 3, 1) := by decide +kernel
theorem dL_law_731 : decode cL_law 731 = .ok (.iconst 1, 1) := by decide +kernel
theorem dL_law_732 : decode cL_law 732 = .ok (.iadd, 1) := by decide +kernel
theorem dL_law_733 : decode cL_law 733 = .ok (.iaload, 1) := by decide +kernel
theorem dL_law_734 : decode cL_law 734 = .ok (.aload_n 0, 1) := by decide +kernel
theorem dL_law_735 : decode cL_law 735 = .ok (.iload_n 3, 1) := by decide +kernel
theorem dL_law_736 : decode cL_law 736 = .ok (.iconst 2, 1) := by decide +kernel
theorem dL_law_737 : decode cL_law 737 = .ok (.iadd, 1) := by decide +kernel
theorem dL_law_738 : decode cL_law 738 = .ok (.iaload, 1) := by decide +kernel
theorem dL_law_739 : decode cL_law 739 = .ok (.invokevirtual 73, 3) := by decide +kernel
theorem dL_law_742 : decode cL_law 742 = .ok (.if_icmp .eq 591, 3) := by decide +kernel
theorem dL_law_745 : decode cL_law 745 = .ok (.iconst 0, 1) := by decide +kernel
theorem dL_law_746 : decode cL_law 746 = .ok (.ireturn, 1) := by decide +kernel
theorem dL_law_747 : decode cL_law 747 = .ok (.aload_n 1, 1) := by decide +kernel
theorem dL_law_748 : decode cL_law 748 = .ok (.aload_n 0, 1) := by decide +kernel
theorem dL_law_749 : decode cL_law 749 = .ok (.iload_n 3, 1) := by decide +kernel
theorem dL_law_750 : decode cL_law 750 = .ok (.iconst 1, 1) := by decide +kernel
theorem dL_law_751 : decode cL_law 751 = .ok (.iadd, 1) := by decide +kernel
theorem dL_law_752 : decode cL_law 752 = .ok (.iaload, 1) := by decide +kernel
theorem dL_law_753 : decode cL_law 753 = .ok (.invokevirtual 74, 3) := by decide +kernel
theorem dL_law_756 : decode cL_law 756 = .ok (.aload_n 2, 1) := by decide +kernel
theorem dL_law_757 : decode cL_law 757 = .ok (.aload_n 0, 1) := by decide +kernel
theorem dL_law_758 : decode cL_law 758 = .ok (.iload_n 3, 1) := by decide +kernel
theorem dL_law_759 : decode cL_law 759 = .ok (.iconst 1, 1) := by decide +kernel
theorem dL_law_760 : decode cL_law 760 = .ok (.iadd, 1) := by decide +kernel
theorem dL_law_761 : decode cL_law 761 = .ok (.iaload, 1) := by decide +kernel
theorem dL_law_762 : decode cL_law 762 = .ok (.invokevirtual 77, 3) := by decide +kernel
theorem dL_law_765 : decode cL_law 765 = .ok (.if_icmp .eq 568, 3) := by decide +kernel
theorem dL_law_768 : decode cL_law 768 = .ok (.iconst 0, 1) := by decide +kernel
theorem dL_law_769 : decode cL_law 769 = .ok (.ireturn, 1) := by decide +kernel
theorem dL_law_770 : decode cL_law 770 = .ok (.aload_n 1, 1) := by decide +kernel
theorem dL_law_771 : decode cL_law 771 = .ok (.aload_n 0, 1) := by decide +kernel
theorem dL_law_772 : decode cL_law 772 = .ok (.iload_n 3, 1) := by decide +kernel
theorem dL_law_773 : decode cL_law 773 = .ok (.iconst 1, 1) := by decide +kernel
theorem dL_law_774 : decode cL_law 774 = .ok (.iadd, 1) := by decide +kernel
theorem dL_law_775 : decode cL_law 775 = .ok (.iaload, 1) := by decide +kernel
theorem dL_law_776 : decode cL_law 776 = .ok (.aload_n 0, 1) := by decide +kernel
theorem dL_law_777 : decode cL_law 777 = .ok (.iload_n 3, 1) := by decide +kernel
theorem dL_law_778 : decode cL_law 778 = .ok (.iconst 2, 1) := by decide +kernel
theorem dL_law_779 : decode cL_law 779 = .ok (.iadd, 1) := by decide +kernel
theorem dL_law_780 : decode cL_law 780 = .ok (.iaload, 1) := by decide +kernel
theorem dL_law_781 : decode cL_law 781 = .ok (.aload_n 0, 1) := by decide +kernel
theorem dL_law_782 : decode cL_law 782 = .ok (.iload_n 3, 1) := by decide +kernel
theorem dL_law_783 : decode cL_law 783 = .ok (.iconst 3, 1) := by decide +kernel
theorem dL_law_784 : decode cL_law 784 = .ok (.iadd, 1) := by decide +kernel
theorem dL_law_785 : decode cL_law 785 = .ok (.iaload, 1) := by decide +kernel
theorem dL_law_786 : decode cL_law 786 = .ok (.aload_n 0, 1) := by decide +kernel
theorem dL_law_787 : decode cL_law 787 = .ok (.iload_n 3, 1) := by decide +kernel
theorem dL_law_788 : decode cL_law 788 = .ok (.iconst 4, 1) := by decide +kernel
theorem dL_law_789 : decode cL_law 789 = .ok (.iadd, 1) := by decide +kernel
theorem dL_law_790 : decode cL_law 790 = .ok (.iaload, 1) := by decide +kernel
theorem dL_law_791 : decode cL_law 791 = .ok (.invokevirtual 78, 3) := by decide +kernel
theorem dL_law_794 : decode cL_law 794 = .ok (.aload_n 2, 1) := by decide +kernel
theorem dL_law_795 : decode cL_law 795 = .ok (.aload_n 0, 1) := by decide +kernel
theorem dL_law_796 : decode cL_law 796 = .ok (.iload_n 3, 1) := by decide +kernel
theorem dL_law_797 : decode cL_law 797 = .ok (.iconst 1, 1) := by decide +kernel
theorem dL_law_798 : decode cL_law 798 = .ok (.iadd, 1) := by decide +kernel
theorem dL_law_799 : decode cL_law 799 = .ok (.iaload, 1) := by decide +kernel
theorem dL_law_800 : decode cL_law 800 = .ok (.aload_n 0, 1) := by decide +kernel
theorem dL_law_801 : decode cL_law 801 = .ok (.iload_n 3, 1) := by decide +kernel
theorem dL_law_802 : decode cL_law 802 = .ok (.iconst 2, 1) := by decide +kernel
theorem dL_law_803 : decode cL_law 803 = .ok (.iadd, 1) := by decide +kernel
theorem dL_law_804 : decode cL_law 804 = .ok (.iaload, 1) := by decide +kernel
theorem dL_law_805 : decode cL_law 805 = .ok (.aload_n 0, 1) := by decide +kernel
theorem dL_law_806 : decode cL_law 806 = .ok (.iload_n 3, 1) := by decide +kernel
theorem dL_law_807 : decode cL_law 807 = .ok (.iconst 3, 1) := by decide +kernel
theorem dL_law_808 : decode cL_law 808 = .ok (.iadd, 1) := by decide +kernel
theorem dL_law_809 : decode cL_law 809 = .ok (.iaload, 1) := by decide +kernel
theorem dL_law_810 : decode cL_law 810 = .ok (.aload_n 0, 1) := by decide +kernel
theorem dL_law_811 : decode cL_law 811 = .ok (.iload_n 3, 1) := by decide +kernel
theorem dL_law_812 : decode cL_law 812 = .ok (.iconst 4, 1) := by decide +kernel
theorem dL_law_813 : decode cL_law 813 = .ok (.iadd, 1) := by decide +kernel
theorem dL_law_814 : decode cL_law 814 = .ok (.iaload, 1) := by decide +kernel
theorem dL_law_815 : decode cL_law 815 = .ok (.invokevirtual 81, 3) := by decide +kernel
theorem dL_law_818 : decode cL_law 818 = .ok (.if_icmp .eq 515, 3) := by decide +kernel
theorem dL_law_821 : decode cL_law 821 = .ok (.iconst 0, 1) := by decide +kernel
theorem dL_law_822 : decode cL_law 822 = .ok (.ireturn, 1) := by decide +kernel
theorem dL_law_823 : decode cL_law 823 = .ok (.aload_n 1, 1) := by decide +kernel
theorem dL_law_824 : decode cL_law 824 = .ok (.aload_n 0, 1) := by decide +kernel
theorem dL_law_825 : decode cL_law 825 = .ok (.iload_n 3, 1) := by decide +kernel
theorem dL_law_826 : decode cL_law 826 = .ok (.iconst 1, 1) := by decide +kernel
theorem dL_law_827 : decode cL_law 827 = .ok (.iadd, 1) := by decide +kernel
theorem dL_law_828 : decode cL_law 828 = .ok (.iaload, 1) := by decide +kernel
theorem dL_law_829 : decode cL_law 829 = .ok (.aload_n 0, 1) := by decide +kernel
theorem dL_law_830 : decode cL_law 830 = .ok (.iload_n 3, 1) := by decide +kernel
theorem dL_law_831 : decode cL_law 831 = .ok (.iconst 2, 1) := by decide +kernel
theorem dL_law_832 : decode cL_law 832 = .ok (.iadd, 1) := by decide +kernel
theorem dL_law_833 : decode cL_law 833 = .ok (.iaload, 1) := by decide +kernel
theorem dL_law_834 : decode cL_law 834 = .ok (.aload_n 0, 1) := by decide +kernel
theorem dL_law_835 : decode cL_law 835 = .ok (.iload_n 3, 1) := by decide +kernel
theorem dL_law_836 : decode cL_law 836 = .ok (.iconst 3, 1) := by decide +kernel
theorem dL_law_837 : decode cL_law 837 = .ok (.iadd, 1) := by decide +kernel
theorem dL_law_838 : decode cL_law 838 = .ok (.iaload, 1) := by decide +kernel
theorem dL_law_839 : decode cL_law 839 = .ok (.invokevirtual 82, 3) := by decide +kernel
theorem dL_law_842 : decode cL_law 842 = .ok (.dstore 4, 2) := by decide +kernel
theorem dL_law_844 : decode cL_law 844 = .ok (.aload_n 2, 1) := by decide +kernel
theorem dL_law_845 : decode cL_law 845 = .ok (.aload_n 0, 1) := by decide +kernel
theorem dL_law_846 : decode cL_law 846 = .ok (.iload_n 3, 1) := by decide +kernel
theorem dL_law_847 : decode cL_law 847 = .ok (.iconst 1, 1) := by decide +kernel
theorem dL_law_848 : decode cL_law 848 = .ok (.iadd, 1) := by decide +kernel
theorem dL_law_849 : decode cL_law 849 = .ok (.iaload, 1) := by decide +kernel
theorem dL_law_850 : decode cL_law 850 = .ok (.aload_n 0, 1) := by decide +kernel
theorem dL_law_851 : decode cL_law 851 = .ok (.iload_n 3, 1) := by decide +kernel
theorem dL_law_852 : decode cL_law 852 = .ok (.iconst 2, 1) := by decide +kernel
theorem dL_law_853 : decode cL_law 853 = .ok (.iadd, 1) := by decide +kernel
theorem dL_law_854 : decode cL_law 854 = .ok (.iaload, 1) := by decide +kernel
theorem dL_law_855 : decode cL_law 855 = .ok (.aload_n 0, 1) := by decide +kernel
theorem dL_law_856 : decode cL_law 856 = .ok (.iload_n 3, 1) := by decide +kernel
theorem dL_law_857 : decode cL_law 857 = .ok (.iconst 3, 1) := by decide +kernel
theorem dL_law_858 : decode cL_law 858 = .ok (.iadd, 1) := by decide +kernel
theorem dL_law_859 : decode cL_law 859 = .ok (.iaload, 1) := by decide +kernel
theorem dL_law_860 : decode cL_law 860 = .ok (.invokevirtual 86, 3) := by decide +kernel
theorem dL_law_863 : decode cL_law 863 = .ok (.dstore 6, 2) := by decide +kernel
theorem dL_law_865 : decode cL_law 865 = .ok (.dload 4, 2) := by decide +kernel
theorem dL_law_867 : decode cL_law 867 = .ok (.dload 6, 2) := by decide +kernel
theorem dL_law_869 : decode cL_law 869 = .ok (.dcmp .l, 1) := by decide +kernel
theorem dL_law_870 : decode cL_law 870 = .ok (.ifCond .eq 21, 3) := by decide +kernel
theorem dL_law_873 : decode cL_law 873 = .ok (.dload 4, 2) := by decide +kernel
theorem dL_law_875 : decode cL_law 875 = .ok (.dload 4, 2) := by decide +kernel
theorem dL_law_877 : decode cL_law 877 = .ok (.dcmp .l, 1) := by decide +kernel
theorem dL_law_878 : decode cL_law 878 = .ok (.ifCond .eq 11, 3) := by decide +kernel
theorem dL_law_881 : decode cL_law 881 = .ok (.dload 6, 2) := by decide +kernel
theorem dL_law_883 : decode cL_law 883 = .ok (.dload 6, 2) := by decide +kernel
theorem dL_law_885 : decode cL_law 885 = .ok (.dcmp .l, 1) := by decide +kernel
theorem dL_law_886 : decode cL_law 886 = .ok (.ifCond .ne 5, 3) := by decide +kernel
theorem dL_law_889 : decode cL_law 889 = .ok (.iconst 0, 1) := by decide +kernel
theorem dL_law_890 : decode cL_law 890 = .ok (.ireturn, 1) := by decide +kernel
theorem dL_law_891 : decode cL_law 891 = .ok (.goto 442, 3) := by decide +kernel
theorem dL_law_894 : decode cL_law 894 = .ok (.aload_n 1, 1) := by decide +kernel
theorem dL_law_895 : decode cL_law 895 = .ok (.aload_n 0, 1) := by decide +kernel
theorem dL_law_896 : decode cL_law 896 = .ok (.iload_n 3, 1) := by decide +kernel
theorem dL_law_897 : decode cL_law 897 = .ok (.iconst 1, 1) := by decide +kernel
theorem dL_law_898 : decode cL_law 898 = .ok (.iadd, 1) := by decide +kernel
theorem dL_law_899 : decode cL_law 899 = .ok (.iaload, 1) := by decide +kernel
theorem dL_law_900 : decode cL_law 900 = .ok (.invokevirtual 87, 3) := by decide +kernel
theorem dL_law_903 : decode cL_law 903 = .ok (.aload_n 2, 1) := by decide +kernel
theorem dL_law_904 : decode cL_law 904 = .ok (.aload_n 0, 1) := by decide +kernel
theorem dL_law_905 : decode cL_law 905 = .ok (.iload_n 3, 1) := by decide +kernel
theorem dL_law_906 : decode cL_law 906 = .ok (.iconst 1, 1) := by decide +kernel
theorem dL_law_907 : decode cL_law 907 = .ok (.iadd, 1) := by decide +kernel
theorem dL_law_908 : decode cL_law 908 = .ok (.iaload, 1) := by decide +kernel
theorem dL_law_909 : decode cL_law 909 = .ok (.invokevirtual 90, 3) := by decide +kernel
theorem dL_law_912 : decode cL_law 912 = .ok (.if_icmp .eq 421, 3) := by decide +kernel
theorem dL_law_915 : decode cL_law 915 = .ok (.iconst 0, 1) := by decide +kernel
theorem dL_law_916 : decode cL_law 916 = .ok (.ireturn, 1) := by decide +kernel
theorem dL_law_917 : decode cL_law 917 = .ok (.aload_n 1, 1) := by decide +kernel
theorem dL_law_918 : decode cL_law 918 = .ok (.aload_n 0, 1) := by decide +kernel
theorem dL_law_919 : decode cL_law 919 = .ok (.iload_n 3, 1) := by decide +kernel
theorem dL_law_920 : decode cL_law 920 = .ok (.iconst 1, 1) := by decide +kernel
theorem dL_law_921 : decode cL_law 921 = .ok (.iadd, 1) := by decide +kernel
theorem dL_law_922 : decode cL_law 922 = .ok (.iaload, 1) := by decide +kernel
theorem dL_law_923 : decode cL_law 923 = .ok (.aload_n 0, 1) := by decide +kernel
theorem dL_law_924 : decode cL_law 924 = .ok (.iload_n 3, 1) := by decide +kernel
theorem dL_law_925 : decode cL_law 925 = .ok (.iconst 2, 1) := by decide +kernel
theorem dL_law_926 : decode cL_law 926 = .ok (.iadd, 1) := by decide +kernel
theorem dL_law_927 : decode cL_law 927 = .ok (.iaload, 1) := by decide +kernel
theorem dL_law_928 : decode cL_law 928 = .ok (.invokevirtual 91, 3) := by decide +kernel
theorem dL_law_931 : decode cL_law 931 = .ok (.aload_n 2, 1) := by decide +kernel
theorem dL_law_932 : decode cL_law 932 = .ok (.aload_n 0, 1) := by decide +kernel
theorem dL_law_933 : decode cL_law 933 = .ok (.iload_n 3, 1) := by decide +kernel
theorem dL_law_934 : decode cL_law 934 = .ok (.iconst 1, 1) := by decide +kernel
theorem dL_law_935 : decode cL_law 935 = .ok (.iadd, 1) := by decide +kernel
theorem dL_law_936 : decode cL_law 936 = .ok (.iaload, 1) := by decide +kernel
theorem dL_law_937 : decode cL_law 937 = .ok (.aload_n 0, 1) := by decide +kernel
theorem dL_law_938 : decode cL_law 938 = .ok (.iload_n 3, 1) := by decide +kernel
theorem dL_law_939 : decode cL_law 939 = .ok (.iconst 2, 1) := by decide +kernel
theorem dL_law_940 : decode cL_law 940 = .ok (.iadd, 1) := by decide +kernel
theorem dL_law_941 : decode cL_law 941 = .ok (.iaload, 1) := by decide +kernel
theorem dL_law_942 : decode cL_law 942 = .ok (.invokevirtual 94, 3) := by decide +kernel
theorem dL_law_945 : decode cL_law 945 = .ok (.if_icmp .eq 388, 3) := by decide +kernel
theorem dL_law_948 : decode cL_law 948 = .ok (.iconst 0, 1) := by decide +kernel
theorem dL_law_949 : decode cL_law 949 = .ok (.ireturn, 1) := by decide +kernel
theorem dL_law_950 : decode cL_law 950 = .ok (.aload_n 1, 1) := by decide +kernel
theorem dL_law_951 : decode cL_law 951 = .ok (.aload_n 0, 1) := by decide +kernel
theorem dL_law_952 : decode cL_law 952 = .ok (.iload_n 3, 1) := by decide +kernel
theorem dL_law_953 : decode cL_law 953 = .ok (.iconst 1, 1) := by decide +kernel
theorem dL_law_954 : decode cL_law 954 = .ok (.iadd, 1) := by decide +kernel
theorem dL_law_955 : decode cL_law 955 = .ok (.iaload, 1) := by decide +kernel
theorem dL_law_956 : decode cL_law 956 = .ok (.aload_n 0, 1) := by decide +kernel
theorem dL_law_957 : decode cL_law 957 = .ok (.iload_n 3, 1) := by decide +kernel
theorem dL_law_958 : decode cL_law 958 = .ok (.iconst 2, 1) := by decide +kernel
theorem dL_law_959 : decode cL_law 959 = .ok (.iadd, 1) := by decide +kernel
theorem dL_law_960 : decode cL_law 960 = .ok (.iaload, 1) := by decide +kernel
theorem dL_law_961 : decode cL_law 961 = .ok (.aload_n 0, 1) := by decide +kernel
theorem dL_law_962 : decode cL_law 962 = .ok (.iload_n 3, 1) := by decide +kernel
theorem dL_law_963 : decode cL_law 963 = .ok (.iconst 3, 1) := by decide +kernel
theorem dL_law_964 : decode cL_law 964 = .ok (.iadd, 1) := by decide +kernel
theorem dL_law_965 : decode cL_law 965 = .ok (.iaload, 1) := by decide +kernel
theorem dL_law_966 : decode cL_law 966 = .ok (.ifCond .eq 7, 3) := by decide +kernel
theorem dL_law_969 : decode cL_law 969 = .ok (.iconst 1, 1) := by decide +kernel
theorem dL_law_970 : decode cL_law 970 = .ok (.goto 4, 3) := by decide +kernel
theorem dL_law_973 : decode cL_law 973 = .ok (.iconst 0, 1) := by decide +kernel
theorem dL_law_974 : decode cL_law 974 = .ok (.invokevirtual 95, 3) := by decide +kernel
theorem dL_law_977 : decode cL_law 977 = .ok (.dstore 4, 2) := by decide +kernel
theorem dL_law_979 : decode cL_law 979 = .ok (.aload_n 2, 1) := by decide +kernel
theorem dL_law_980 : decode cL_law 980 = .ok (.aload_n 0, 1) := by decide +kernel
theorem dL_law_981 : decode cL_law 981 = .ok (.iload_n 3, 1) := by decide +kernel
theorem dL_law_982 : decode cL_law 982 = .ok (.iconst 1, 1) := by decide +kernel
theorem dL_law_983 : decode cL_law 983 = .ok (.iadd, 1) := by decide +kernel
theorem dL_law_984 : decode cL_law 984 = .ok (.iaload, 1) := by decide +kernel
theorem dL_law_985 : decode cL_law 985 = .ok (.aload_n 0, 1) := by decide +kernel
theorem dL_law_986 : decode cL_law 986 = .ok (.iload_n 3, 1) := by decide +kernel
theorem dL_law_987 : decode cL_law 987 = .ok (.iconst 2, 1) := by decide +kernel
theorem dL_law_988 : decode cL_law 988 = .ok (.iadd, 1) := by decide +kernel
theorem dL_law_989 : decode cL_law 989 = .ok (.iaload, 1) := by decide +kernel
theorem dL_law_990 : decode cL_law 990 = .ok (.aload_n 0, 1) := by decide +kernel
theorem dL_law_991 : decode cL_law 991 = .ok (.iload_n 3, 1) := by decide +kernel
theorem dL_law_992 : decode cL_law 992 = .ok (.iconst 3, 1) := by decide +kernel
theorem dL_law_993 : decode cL_law 993 = .ok (.iadd, 1) := by decide +kernel
theorem dL_law_994 : decode cL_law 994 = .ok (.iaload, 1) := by decide +kernel
theorem dL_law_995 : decode cL_law 995 = .ok (.ifCond .eq 7, 3) := by decide +kernel
theorem dL_law_998 : decode cL_law 998 = .ok (.iconst 1, 1) := by decide +kernel
theorem dL_law_999 : decode cL_law 999 = .ok (.goto 4, 3) := by decide +kernel
theorem dL_law_1002 : decode cL_law 1002 = .ok (.iconst 0, 1) := by decide +kernel
theorem dL_law_1003 : decode cL_law 1003 = .ok (.invokevirtual 99, 3) := by decide +kernel
theorem dL_law_1006 : decode cL_law 1006 = .ok (.dstore 6, 2) := by decide +kernel
theorem dL_law_1008 : decode cL_law 1008 = .ok (.dload 4, 2) := by decide +kernel
theorem dL_law_1010 : decode cL_law 1010 = .ok (.dload 6, 2) := by decide +kernel
theorem dL_law_1012 : decode cL_law 1012 = .ok (.dcmp .l, 1) := by decide +kernel
theorem dL_law_1013 : decode cL_law 1013 = .ok (.ifCond .eq 21, 3) := by decide +kernel
theorem dL_law_1016 : decode cL_law 1016 = .ok (.dload 4, 2) := by decide +kernel
theorem dL_law_1018 : decode cL_law 1018 = .ok (.dload 4, 2) := by decide +kernel
theorem dL_law_1020 : decode cL_law 1020 = .ok (.dcmp .l, 1) := by decide +kernel
theorem dL_law_1021 : decode cL_law 1021 = .ok (.ifCond .eq 11, 3) := by decide +kernel
theorem dL_law_1024 : decode cL_law 1024 = .ok (.dload 6, 2) := by decide +kernel
theorem dL_law_1026 : decode cL_law 1026 = .ok (.dload 6, 2) := by decide +kernel
theorem dL_law_1028 : decode cL_law 1028 = .ok (.dcmp .l, 1) := by decide +kernel
theorem dL_law_1029 : decode cL_law 1029 = .ok (.ifCond .ne 5, 3) := by decide +kernel
theorem dL_law_1032 : decode cL_law 1032 = .ok (.iconst 0, 1) := by decide +kernel
theorem dL_law_1033 : decode cL_law 1033 = .ok (.ireturn, 1) := by decide +kernel
theorem dL_law_1034 : decode cL_law 1034 = .ok (.goto 299, 3) := by decide +kernel
theorem dL_law_1037 : decode cL_law 1037 = .ok (.aload_n 1, 1) := by decide +kernel
theorem dL_law_1038 : decode cL_law 1038 = .ok (.aload_n 0, 1) := by decide +kernel
theorem dL_law_1039 : decode cL_law 1039 = .ok (.iload_n 3, 1) := by decide +kernel
theorem dL_law_1040 : decode cL_law 1040 = .ok (.iconst 1, 1) := by decide +kernel
theorem dL_law_1041 : decode cL_law 1041 = .ok (.iadd, 1) := by decide +kernel
theorem dL_law_1042 : decode cL_law 1042 = .ok (.iaload, 1) := by decide +kernel
theorem dL_law_1043 : decode cL_law 1043 = .ok (.aload_n 0, 1) := by decide +kernel
theorem dL_law_1044 : decode cL_law 1044 = .ok (.iload_n 3, 1) := by decide +kernel
theorem dL_law_1045 : decode cL_law 1045 = .ok (.iconst 2, 1) := by decide +kernel
theorem dL_law_1046 : decode cL_law 1046 = .ok (.iadd, 1) := by decide +kernel
theorem dL_law_1047 : decode cL_law 1047 = .ok (.iaload, 1) := by decide +kernel
theorem dL_law_1048 : decode cL_law 1048 = .ok (.aload_n 0, 1) := by decide +kernel
theorem dL_law_1049 : decode cL_law 1049 = .ok (.iload_n 3, 1) := by decide +kernel
theorem dL_law_1050 : decode cL_law 1050 = .ok (.iconst 3, 1) := by decide +kernel
theorem dL_law_1051 : decode cL_law 1051 = .ok (.iadd, 1) := by decide +kernel
theorem dL_law_1052 : decode cL_law 1052 = .ok (.iaload, 1) := by decide +kernel
theorem dL_law_1053 : decode cL_law 1053 = .ok (.invokevirtual 100, 3) := by decide +kernel
theorem dL_law_1056 : decode cL_law 1056 = .ok (.dstore 4, 2) := by decide +kernel
theorem dL_law_1058 : decode cL_law 1058 = .ok (.aload_n 2, 1) := by decide +kernel
theorem dL_law_1059 : decode cL_law 1059 = .ok (.aload_n 0, 1) := by decide +kernel
theorem dL_law_1060 : decode cL_law 1060 = .ok (.iload_n 3, 1) := by decide +kernel
theorem dL_law_1061 : decode cL_law 1061 = .ok (.iconst 1, 1) := by decide +kernel
theorem dL_law_1062 : decode cL_law 1062 = .ok (.iadd, 1) := by decide +kernel
theorem dL_law_1063 : decode cL_law 1063 = .ok (.iaload, 1) := by decide +kernel
theorem dL_law_1064 : decode cL_law 1064 = .ok (.aload_n 0, 1) := by decide +kernel
theorem dL_law_1065 : decode cL_law 1065 = .ok (.iload_n 3, 1) := by decide +kernel
theorem dL_law_1066 : decode cL_law 1066 = .ok (.iconst 2, 1) := by decide +kernel
theorem dL_law_1067 : decode cL_law 1067 = .ok (.iadd, 1) := by decide +kernel
theorem dL_law_1068 : decode cL_law 1068 = .ok (.iaload, 1) := by decide +kernel
theorem dL_law_1069 : decode cL_law 1069 = .ok (.aload_n 0, 1) := by decide +kernel
theorem dL_law_1070 : decode cL_law 1070 = .ok (.iload_n 3, 1) := by decide +kernel
theorem dL_law_1071 : decode cL_law 1071 = .ok (.iconst 3, 1) := by decide +kernel
theorem dL_law_1072 : decode cL_law 1072 = .ok (.iadd, 1) := by decide +kernel
theorem dL_law_1073 : decode cL_law 1073 = .ok (.iaload, 1) := by decide +kernel
theorem dL_law_1074 : decode cL_law 1074 = .ok (.invokevirtual 103, 3) := by decide +kernel
theorem dL_law_1077 : decode cL_law 1077 = .ok (.dstore 6, 2) := by decide +kernel
theorem dL_law_1079 : decode cL_law 1079 = .ok (.dload 4, 2) := by decide +kernel
theorem dL_law_1081 : decode cL_law 1081 = .ok (.dload 6, 2) := by decide +kernel
theorem dL_law_1083 : decode cL_law 1083 = .ok (.dcmp .l, 1) := by decide +kernel
theorem dL_law_1084 : decode cL_law 1084 = .ok (.ifCond .eq 21, 3) := by decide +kernel
theorem dL_law_1087 : decode cL_law 1087 = .ok (.dload 4, 2) := by decide +kernel
theorem dL_law_1089 : decode cL_law 1089 = .ok (.dload 4, 2) := by decide +kernel
theorem dL_law_1091 : decode cL_law 1091 = .ok (.dcmp .l, 1) := by decide +kernel
theorem dL_law_1092 : decode cL_law 1092 = .ok (.ifCond .eq 11, 3) := by decide +kernel
theorem dL_law_1095 : decode cL_law 1095 = .ok (.dload 6, 2) := by decide +kernel
theorem dL_law_1097 : decode cL_law 1097 = .ok (.dload 6, 2) := by decide +kernel
theorem dL_law_1099 : decode cL_law 1099 = .ok (.dcmp .l, 1) := by decide +kernel
theorem dL_law_1100 : decode cL_law 1100 = .ok (.ifCond .ne 5, 3) := by decide +kernel
theorem dL_law_1103 : decode cL_law 1103 = .ok (.iconst 0, 1) := by decide +kernel
theorem dL_law_1104 : decode cL_law 1104 = .ok (.ireturn, 1) := by decide +kernel
theorem dL_law_1105 : decode cL_law 1105 = .ok (.goto 228, 3) := by decide +kernel
theorem dL_law_1108 : decode cL_law 1108 = .ok (.aload_n 1, 1) := by decide +kernel
theorem dL_law_1109 : decode cL_law 1109 = .ok (.aload_n 0, 1) := by decide +kernel
theorem dL_law_1110 : decode cL_law 1110 = .ok (.iload_n 3, 1) := by decide +kernel
theorem dL_law_1111 : decode cL_law 1111 = .ok (.iconst 1, 1) := by decide +kernel
theorem dL_law_1112 : decode cL_law 1112 = .ok (.iadd, 1) := by decide +kernel
theorem dL_law_1113 : decode cL_law 1113 = .ok (.iaload, 1) := by decide +kernel
theorem dL_law_1114 : decode cL_law 1114 = .ok (.aload_n 0, 1) := by decide +kernel
theorem dL_law_1115 : decode cL_law 1115 = .ok (.iload_n 3, 1) := by decide +kernel
theorem dL_law_1116 : decode cL_law 1116 = .ok (.iconst 2, 1) := by decide +kernel
theorem dL_law_1117 : decode cL_law 1117 = .ok (.iadd, 1) := by decide +kernel
theorem dL_law_1118 : decode cL_law 1118 = .ok (.iaload, 1) := by decide +kernel
theorem dL_law_1119 : decode cL_law 1119 = .ok (.ifCond .eq 7, 3) := by decide +kernel
theorem dL_law_1122 : decode cL_law 1122 = .ok (.iconst 1, 1) := by decide +kernel
theorem dL_law_1123 : decode cL_law 1123 = .ok (.goto 4, 3) := by decide +kernel
theorem dL_law_1126 : decode cL_law 1126 = .ok (.iconst 0, 1) := by decide +kernel
theorem dL_law_1127 : decode cL_law 1127 = .ok (.invokevirtual 104, 3) := by decide +kernel
theorem dL_law_1130 : decode cL_law 1130 = .ok (.dstore 4, 2) := by decide +kernel
theorem dL_law_1132 : decode cL_law 1132 = .ok (.aload_n 2, 1) := by decide +kernel
theorem dL_law_1133 : decode cL_law 1133 = .ok (.aload_n 0, 1) := by decide +kernel
theorem dL_law_1134 : decode cL_law 1134 = .ok (.iload_n 3, 1) := by decide +kernel
theorem dL_law_1135 : decode cL_law 1135 = .ok (.iconst 1, 1) := by decide +kernel
theorem dL_law_1136 : decode cL_law 1136 = .ok (.iadd, 1) := by decide +kernel
theorem dL_law_1137 : decode cL_law 1137 = .ok (.iaload, 1) := by decide +kernel
theorem dL_law_1138 : decode cL_law 1138 = .ok (.aload_n 0, 1) := by decide +kernel
theorem dL_law_1139 : decode cL_law 1139 = .ok (.iload_n 3, 1) := by decide +kernel
theorem dL_law_1140 : decode cL_law 1140 = .ok (.iconst 2, 1) := by decide +kernel
theorem dL_law_1141 : decode cL_law 1141 = .ok (.iadd, 1) := by decide +kernel
theorem dL_law_1142 : decode cL_law 1142 = .ok (.iaload, 1) := by decide +kernel
theorem dL_law_1143 : decode cL_law 1143 = .ok (.ifCond .eq 7, 3) := by decide +kernel
theorem dL_law_1146 : decode cL_law 1146 = .ok (.iconst 1, 1) := by decide +kernel
theorem dL_law_1147 : decode cL_law 1147 = .ok (.goto 4, 3) := by decide +kernel
theorem dL_law_1150 : decode cL_law 1150 = .ok (.iconst 0, 1) := by decide +kernel
theorem dL_law_1151 : decode cL_law 1151 = .ok (.invokevirtual 108, 3) := by decide +kernel
theorem dL_law_1154 : decode cL_law 1154 = .ok (.dstore 6, 2) := by decide +kernel
theorem dL_law_1156 : decode cL_law 1156 = .ok (.dload 4, 2) := by decide +kernel
theorem dL_law_1158 : decode cL_law 1158 = .ok (.dload 6, 2) := by decide +kernel
theorem dL_law_1160 : decode cL_law 1160 = .ok (.dcmp .l, 1) := by decide +kernel
theorem dL_law_1161 : decode cL_law 1161 = .ok (.ifCond .eq 21, 3) := by decide +kernel
theorem dL_law_1164 : decode cL_law 1164 = .ok (.dload 4, 2) := by decide +kernel
theorem dL_law_1166 : decode cL_law 1166 = .ok (.dload 4, 2) := by decide +kernel
theorem dL_law_1168 : decode cL_law 1168 = .ok (.dcmp .l, 1) := by decide +kernel
theorem dL_law_1169 : decode cL_law 1169 = .ok (.ifCond .eq 11, 3) := by decide +kernel
theorem dL_law_1172 : decode cL_law 1172 = .ok (.dload 6, 2) := by decide +kernel
theorem dL_law_1174 : decode cL_law 1174 = .ok (.dload 6, 2) := by decide +kernel
theorem dL_law_1176 : decode cL_law 1176 = .ok (.dcmp .l, 1) := by decide +kernel
theorem dL_law_1177 : decode cL_law 1177 = .ok (.ifCond .ne 5, 3) := by decide +kernel
theorem dL_law_1180 : decode cL_law 1180 = .ok (.iconst 0, 1) := by decide +kernel
theorem dL_law_1181 : decode cL_law 1181 = .ok (.ireturn, 1) := by decide +kernel
theorem dL_law_1182 : decode cL_law 1182 = .ok (.goto 151, 3) := by decide +kernel
theorem dL_law_1185 : decode cL_law 1185 = .ok (.aload_n 1, 1) := by decide +kernel
theorem dL_law_1186 : decode cL_law 1186 = .ok (.aload_n 0, 1) := by decide +kernel
theorem dL_law_1187 : decode cL_law 1187 = .ok (.iload_n 3, 1) := by decide +kernel
theorem dL_law_1188 : decode cL_law 1188 = .ok (.iconst 1, 1) := by decide +kernel
theorem dL_law_1189 : decode cL_law 1189 = .ok (.iadd, 1) := by decide +kernel
theorem dL_law_1190 : decode cL_law 1190 = .ok (.iaload, 1) := by decide +kernel
theorem dL_law_1191 : decode cL_law 1191 = .ok (.invokevirtual 109, 3) := by decide +kernel
theorem dL_law_1194 : decode cL_law 1194 = .ok (.aload_n 2, 1) := by decide +kernel
theorem dL_law_1195 : decode cL_law 1195 = .ok (.aload_n 0, 1) := by decide +kernel
theorem dL_law_1196 : decode cL_law 1196 = .ok (.iload_n 3, 1) := by decide +kernel
theorem dL_law_1197 : decode cL_law 1197 = .ok (.iconst 1, 1) := by decide +kernel
theorem dL_law_1198 : decode cL_law 1198 = .ok (.iadd, 1) := by decide +kernel
theorem dL_law_1199 : decode cL_law 1199 = .ok (.iaload, 1) := by decide +kernel
theorem dL_law_1200 : decode cL_law 1200 = .ok (.invokevirtual 112, 3) := by decide +kernel
theorem dL_law_1203 : decode cL_law 1203 = .ok (.if_icmp .eq 130, 3) := by decide +kernel
theorem dL_law_1206 : decode cL_law 1206 = .ok (.iconst 0, 1) := by decide +kernel
theorem dL_law_1207 : decode cL_law 1207 = .ok (.ireturn, 1) := by decide +kernel
theorem dL_law_1208 : decode cL_law 1208 = .ok (.aload_n 1, 1) := by decide +kernel
theorem dL_law_1209 : decode cL_law 1209 = .ok (.aload_n 0, 1) := by decide +kernel
theorem dL_law_1210 : decode cL_law 1210 = .ok (.iload_n 3, 1) := by decide +kernel
theorem dL_law_1211 : decode cL_law 1211 = .ok (.iconst 1, 1) := by decide +kernel
theorem dL_law_1212 : decode cL_law 1212 = .ok (.iadd, 1) := by decide +kernel
theorem dL_law_1213 : decode cL_law 1213 = .ok (.iaload, 1) := by decide +kernel
theorem dL_law_1214 : decode cL_law 1214 = .ok (.invokevirtual 113, 3) := by decide +kernel
theorem dL_law_1217 : decode cL_law 1217 = .ok (.aload_n 2, 1) := by decide +kernel
theorem dL_law_1218 : decode cL_law 1218 = .ok (.aload_n 0, 1) := by decide +kernel
theorem dL_law_1219 : decode cL_law 1219 = .ok (.iload_n 3, 1) := by decide +kernel
theorem dL_law_1220 : decode cL_law 1220 = .ok (.iconst 1, 1) := by decide +kernel
theorem dL_law_1221 : decode cL_law 1221 = .ok (.iadd, 1) := by decide +kernel
theorem dL_law_1222 : decode cL_law 1222 = .ok (.iaload, 1) := by decide +kernel
theorem dL_law_1223 : decode cL_law 1223 = .ok (.invokevirtual 116, 3) := by decide +kernel
theorem dL_law_1226 : decode cL_law 1226 = .ok (.if_icmp .eq 107, 3) := by decide +kernel
theorem dL_law_1229 : decode cL_law 1229 = .ok (.iconst 0, 1) := by decide +kernel
theorem dL_law_1230 : decode cL_law 1230 = .ok (.ireturn, 1) := by decide +kernel
theorem dL_law_1231 : decode cL_law 1231 = .ok (.aload_n 1, 1) := by decide +kernel
theorem dL_law_1232 : decode cL_law 1232 = .ok (.aload_n 0, 1) := by decide +kernel
theorem dL_law_1233 : decode cL_law 1233 = .ok (.iload_n 3, 1) := by decide +kernel
theorem dL_law_1234 : decode cL_law 1234 = .ok (.iconst 1, 1) := by decide +kernel
theorem dL_law_1235 : decode cL_law 1235 = .ok (.iadd, 1) := by decide +kernel
theorem dL_law_1236 : decode cL_law 1236 = .ok (.iaload, 1) := by decide +kernel
theorem dL_law_1237 : decode cL_law 1237 = .ok (.aload_n 0, 1) := by decide +kernel
theorem dL_law_1238 : decode cL_law 1238 = .ok (.iload_n 3, 1) := by decide +kernel
theorem dL_law_1239 : decode cL_law 1239 = .ok (.iconst 2, 1) := by decide +kernel
theorem dL_law_1240 : decode cL_law 1240 = .ok (.iadd, 1) := by decide +kernel
theorem dL_law_1241 : decode cL_law 1241 = .ok (.iaload, 1) := by decide +kernel
theorem dL_law_1242 : decode cL_law 1242 = .ok (.invokevirtual 117, 3) := by decide +kernel
theorem dL_law_1245 : decode cL_law 1245 = .ok (.aload_n 2, 1) := by decide +kernel
theorem dL_law_1246 : decode cL_law 1246 = .ok (.aload_n 0, 1) := by decide +kernel
theorem dL_law_1247 : decode cL_law 1247 = .ok (.iload_n 3, 1) := by decide +kernel
theorem dL_law_1248 : decode cL_law 1248 = .ok (.iconst 1, 1) := by decide +kernel
theorem dL_law_1249 : decode cL_law 1249 = .ok (.iadd, 1) := by decide +kernel
theorem dL_law_1250 : decode cL_law 1250 = .ok (.iaload, 1) := by decide +kernel
theorem dL_law_1251 : decode cL_law 1251 = .ok (.aload_n 0, 1) := by decide +kernel
theorem dL_law_1252 : decode cL_law 1252 = .ok (.iload_n 3, 1) := by decide +kernel
theorem dL_law_1253 : decode cL_law 1253 = .ok (.iconst 2, 1) := by decide +kernel
theorem dL_law_1254 : decode cL_law 1254 = .ok (.iadd, 1) := by decide +kernel
theorem dL_law_1255 : decode cL_law 1255 = .ok (.iaload, 1) := by decide +kernel
theorem dL_law_1256 : decode cL_law 1256 = .ok (.invokevirtual 120, 3) := by decide +kernel
theorem dL_law_1259 : decode cL_law 1259 = .ok (.if_icmp .eq 74, 3) := by decide +kernel
theorem dL_law_1262 : decode cL_law 1262 = .ok (.iconst 0, 1) := by decide +kernel
theorem dL_law_1263 : decode cL_law 1263 = .ok (.ireturn, 1) := by decide +kernel
theorem dL_law_1264 : decode cL_law 1264 = .ok (.aload_n 1, 1) := by decide +kernel
theorem dL_law_1265 : decode cL_law 1265 = .ok (.aload_n 0, 1) := by decide +kernel
theorem dL_law_1266 : decode cL_law 1266 = .ok (.iload_n 3, 1) := by decide +kernel
theorem dL_law_1267 : decode cL_law 1267 = .ok (.iconst 1, 1) := by decide +kernel
theorem dL_law_1268 : decode cL_law 1268 = .ok (.iadd, 1) := by decide +kernel
theorem dL_law_1269 : decode cL_law 1269 = .ok (.iaload, 1) := by decide +kernel
theorem dL_law_1270 : decode cL_law 1270 = .ok (.aload_n 0, 1) := by decide +kernel
theorem dL_law_1271 : decode cL_law 1271 = .ok (.iload_n 3, 1) := by decide +kernel
theorem dL_law_1272 : decode cL_law 1272 = .ok (.iconst 2, 1) := by decide +kernel
theorem dL_law_1273 : decode cL_law 1273 = .ok (.iadd, 1) := by decide +kernel
theorem dL_law_1274 : decode cL_law 1274 = .ok (.iaload, 1) := by decide +kernel
theorem dL_law_1275 : decode cL_law 1275 = .ok (.invokevirtual 121, 3) := by decide +kernel
theorem dL_law_1278 : decode cL_law 1278 = .ok (.aload_n 2, 1) := by decide +kernel
theorem dL_law_1279 : decode cL_law 1279 = .ok (.aload_n 0, 1) := by decide +kernel
theorem dL_law_1280 : decode cL_law 1280 = .ok (.iload_n 3, 1) := by decide +kernel
theorem dL_law_1281 : decode cL_law 1281 = .ok (.iconst 1, 1) := by decide +kernel
theorem dL_law_1282 : decode cL_law 1282 = .ok (.iadd, 1) := by decide +kernel
theorem dL_law_1283 : decode cL_law 1283 = .ok (.iaload, 1) := by decide +kernel
theorem dL_law_1284 : decode cL_law 1284 = .ok (.aload_n 0, 1) := by decide +kernel
theorem dL_law_1285 : decode cL_law 1285 = .ok (.iload_n 3, 1) := by decide +kernel
theorem dL_law_1286 : decode cL_law 1286 = .ok (.iconst 2, 1) := by decide +kernel
theorem dL_law_1287 : decode cL_law 1287 = .ok (.iadd, 1) := by decide +kernel
theorem dL_law_1288 : decode cL_law 1288 = .ok (.iaload, 1) := by decide +kernel
theorem dL_law_1289 : decode cL_law 1289 = .ok (.invokevirtual 124, 3) := by decide +kernel
theorem dL_law_1292 : decode cL_law 1292 = .ok (.if_icmp .eq 41, 3) := by decide +kernel
theorem dL_law_1295 : decode cL_law 1295 = .ok (.iconst 0, 1) := by decide +kernel
theorem dL_law_1296 : decode cL_law 1296 = .ok (.ireturn, 1) := by decide +kernel
theorem dL_law_1297 : decode cL_law 1297 = .ok (.aload_n 1, 1) := by decide +kernel
theorem dL_law_1298 : decode cL_law 1298 = .ok (.invokevirtual 125, 3) := by decide +kernel
theorem dL_law_1301 : decode cL_law 1301 = .ok (.aload_n 2, 1) := by decide +kernel
theorem dL_law_1302 : decode cL_law 1302 = .ok (.invokevirtual 129, 3) := by decide +kernel
theorem dL_law_1305 : decode cL_law 1305 = .ok (.if_icmp .eq 28, 3) := by decide +kernel
theorem dL_law_1308 : decode cL_law 1308 = .ok (.iconst 0, 1) := by decide +kernel
theorem dL_law_1309 : decode cL_law 1309 = .ok (.ireturn, 1) := by decide +kernel
theorem dL_law_1310 : decode cL_law 1310 = .ok (.aload_n 1, 1) := by decide +kernel
theorem dL_law_1311 : decode cL_law 1311 = .ok (.aload_n 0, 1) := by decide +kernel
theorem dL_law_1312 : decode cL_law 1312 = .ok (.iload_n 3, 1) := by decide +kernel
theorem dL_law_1313 : decode cL_law 1313 = .ok (.iconst 1, 1) := by decide +kernel
theorem dL_law_1314 : decode cL_law 1314 = .ok (.iadd, 1) := by decide +kernel
theorem dL_law_1315 : decode cL_law 1315 = .ok (.iaload, 1) := by decide +kernel
theorem dL_law_1316 : decode cL_law 1316 = .ok (.invokevirtual 130, 3) := by decide +kernel
theorem dL_law_1319 : decode cL_law 1319 = .ok (.aload_n 2, 1) := by decide +kernel
theorem dL_law_1320 : decode cL_law 1320 = .ok (.aload_n 0, 1) := by decide +kernel
theorem dL_law_1321 : decode cL_law 1321 = .ok (.iload_n 3, 1) := by decide +kernel
theorem dL_law_1322 : decode cL_law 1322 = .ok (.iconst 1, 1) := by decide +kernel
theorem dL_law_1323 : decode cL_law 1323 = .ok (.iadd, 1) := by decide +kernel
theorem dL_law_1324 : decode cL_law 1324 = .ok (.iaload, 1) := by decide +kernel
theorem dL_law_1325 : decode cL_law 1325 = .ok (.invokevirtual 133, 3) := by decide +kernel
theorem dL_law_1328 : decode cL_law 1328 = .ok (.if_icmp .eq 5, 3) := by decide +kernel
theorem dL_law_1331 : decode cL_law 1331 = .ok (.iconst 0, 1) := by decide +kernel
theorem dL_law_1332 : decode cL_law 1332 = .ok (.ireturn, 1) := by decide +kernel
theorem dL_law_1333 : decode cL_law 1333 = .ok (.iinc 3 6, 3) := by decide +kernel
theorem dL_law_1336 : decode cL_law 1336 = .ok (.goto (-1318), 3) := by decide +kernel
theorem dL_law_1339 : decode cL_law 1339 = .ok (.iconst 1, 1) := by decide +kernel
theorem dL_law_1340 : decode cL_law 1340 = .ok (.ireturn, 1) := by decide +kernel
end
section
/-! THE PURE PICTURE. A world is cells 0 .. n-1; a cell's number is its pure reference. SH: how many cells, the kind of each (an object of a class, or an array of an element type and a length), and where the references lead. St: what the cells hold of ints, longs and doubles. -/
abbrev SH : Type := Nat × (Nat → Nat ⊕ (Nat × Nat)) × (Nat → Nat → Option Nat)
abbrev St : Type := (Nat → Nat → Int32) × (Nat → Nat → Int64) × (Nat → Nat → UInt64)
def gI (σ : St) (c j : Nat) : Int32 := σ.1 c j
def gJ (σ : St) (c j : Nat) : Int64 := σ.2.1 c j
def gD (σ : St) (c j : Nat) : UInt64 := σ.2.2 c j
def u2 {α : Type} (f : Nat → Nat → α) (c j : Nat) (v : α) : Nat → Nat → α := fun a b => if a = c ∧ b = j then v else f a b
def u1 {α : Type} (f : Nat → Nat → α) (c : Nat) (g : Nat → α) : Nat → Nat → α := fun a b => if a = c then g b else f a b
def uI (σ : St) (c j : Nat) (v : Int32) : St := (u2 σ.1 c j v, σ.2)
def uJ (σ : St) (c j : Nat) (v : Int64) : St := (σ.1, u2 σ.2.1 c j v, σ.2.2)
def uD (σ : St) (c j : Nat) (v : UInt64) : St := (σ.1, σ.2.1, u2 σ.2.2 c j v)
def wI (σ : St) (c : Nat) (g : Nat → Int32) : St := (u1 σ.1 c g, σ.2)
def wJ (σ : St) (c : Nat) (g : Nat → Int64) : St := (σ.1, u1 σ.2.1 c g, σ.2.2)
abbrev cls : List vw_C := [(RX0, TX0, 4), (RX1, TX1, 4), (RX2, TX2, 6), (RX3, TX3, 1), (RX4, TX4, 7), (RX5, TX5, 23)]
def nf (ci : Nat) : Nat := match ci with | 0 => 4 | 1 => 4 | 2 => 6 | 3 => 1 | 4 => 7 | _ => 23
def fk : FieldType → Nat | .long => 1 | .double => 2 | .object _ => 3 | .array _ => 3 | _ => 0
def ft (ci j : Nat) : Nat := match ci with | 0 => fk (tyX0 j) | 1 => fk (tyX1 j) | 2 => fk (tyX2 j) | 3 => fk (tyX3 j) | 4 => fk (tyX4 j) | _ => fk (tyX5 j)
def fv (ad : Nat → Nat) (sh : SH) (σ : St) (c t j : Nat) : Value := match t with | 0 => .int (gI σ c j) | 1 => .long (gJ σ c j) | 2 => .double (gD σ c j) | _ => va_rf ((sh.2.2 c j).map ad)
def ce (cA : Nat → ClassId) (ad : Nat → Nat) (sh : SH) (σ : St) (c : Nat) : va_E := match sh.2.1 c with
  | .inl ci => .inr (ci, (List.range (nf ci)).map (fun j => fv ad sh σ c (ft ci j) j))
  | .inr (0, n) => .inl (cA 0, n, .inl (gI σ c))
  | .inr (1, n) => .inl (cA 1, n, .inr (.inl (gJ σ c)))
  | .inr (2, n) => .inl (cA 2, n, .inr (.inr (.inr (.inl (gD σ c)))))
  | .inr (t + 3, n) => .inl (cA (t + 3), n, .inr (.inr (.inr (.inr (fun j => (sh.2.2 c j).map ad)))))
def wd (cA : Nat → ClassId) (ad : Nat → Nat) (sh : SH) (σ : St) : va_W := (List.range sh.1).map (fun c => (ad c, ce cA ad sh σ c))
def tysA (cA : Nat → ClassId) : List (ClassId × FieldType) := [(cA 0, .int), (cA 1, .long), (cA 2, .double), (cA 3, .object RX2), (cA 4, .object RX1)]
def vm (ad : Nat → Nat) : Value → Value | .ref k => .ref (ad k) | v => v
def lm (ad : Nat → Nat) (loc : List (Nat × Value)) : List (Nat × Value) := loc.map (fun q => (q.1, vm ad q.2))
theorem vm_cat (ad : Nat → Nat) (v : Value) : (vm ad v).category = v.category := by cases v <;> rfl
theorem vm_sum (ad : Nat → Nat) (st : List Value) : ((st.map (vm ad)).map fun v => v.category).sum = (st.map fun v => v.category).sum := by
  induction st with
  | nil => rfl
  | cons a t ih => simp only [List.map_cons, List.sum_cons, vm_cat, ih]
theorem lm_at {ad : Nat → Nat} {loc : List (Nat × Value)} {k i : Nat} {v : Value} (h : loc[k]? = some (i, v)) : (lm ad loc)[k]? = some (i, vm ad v) := by
  simp only [lm, List.getElem?_map, h, Option.map_some]
theorem lm_filter (ad : Nat → Nat) (p : Nat → Nat → Bool) (loc : List (Nat × Value)) : (lm ad loc).filter (fun q => p q.1 q.2.category) = lm ad (loc.filter (fun q => p q.1 q.2.category)) := by
  simp only [lm, List.filter_map]
  congr 2
  funext q
  simp only [Function.comp, vm_cat]
theorem lm_has {ad : Nat → Nat} {ls : Array Slot} {nL k i : Nat} {loc : List (Nat × Value)} {v : Value} (h : lv_has ls nL (lm ad loc)) (hk : loc[k]? = some (i, v)) : ls[i]? = some (.val (vm ad v)) := lv_at h k (lm_at hk)
theorem lm_sub {ad : Nat → Nat} {ls : Array Slot} {nL : Nat} {loc loc' : List (Nat × Value)} (ks : List Nat) (hk : lv_pick loc ks = loc') (h : lv_has ls nL (lm ad loc)) : lv_has ls nL (lm ad loc') := by
  refine lv_sub h ks ?_
  subst hk
  simp only [lv_pick, lm, List.map_filterMap, List.getElem?_map]
/-! lookups -/
theorem wd_at {cA : Nat → ClassId} {ad : Nat → Nat} {sh : SH} {σ : St} {c : Nat} (h : c < sh.1) : (wd cA ad sh σ)[c]? = some (ad c, ce cA ad sh σ c) := by
  simp only [wd, List.getElem?_map, List.getElem?_range h, Option.map_some]
theorem wd_len (cA : Nat → ClassId) (ad : Nat → Nat) (sh : SH) (σ : St) : (wd cA ad sh σ).length = sh.1 := by simp [wd]
theorem wd_inv {cA : Nat → ClassId} {ad : Nat → Nat} {sh : SH} {σ : St} {c : Nat} {q : Nat × va_E} (h : (wd cA ad sh σ)[c]? = some q) : c < sh.1 ∧ q = (ad c, ce cA ad sh σ c) := by
  have hl : c < sh.1 := by have := (List.getElem?_eq_some_iff.mp h).1; rwa [wd_len] at this
  rw [wd_at hl] at h
  exact ⟨hl, (Option.some.inj h).symm⟩
theorem wd_D {cA : Nat → ClassId} {ad : Nat → Nat} {sh : SH} {A : Nat → Prop} (σ σ' : St) (h : va_D A (wd cA ad sh σ)) : va_D A (wd cA ad sh σ') := by
  refine ⟨fun i j p q hi hj e => ?_, fun k q hk => ?_⟩
  · obtain ⟨li, rfl⟩ := wd_inv hi
    obtain ⟨lj, rfl⟩ := wd_inv hj
    exact h.1 i j _ _ (wd_at li) (wd_at lj) e
  · obtain ⟨lk, rfl⟩ := wd_inv hk
    exact h.2 k (ad k, ce cA ad sh σ k) (wd_at lk)
theorem ce_congr {cA : Nat → ClassId} {ad : Nat → Nat} {sh : SH} {σ σ' : St} {c : Nat} (h1 : gI σ' c = gI σ c) (h2 : gJ σ' c = gJ σ c) (h3 : gD σ' c = gD σ c) : ce cA ad sh σ' c = ce cA ad sh σ c := by
  have e : ∀ t j, fv ad sh σ' c t j = fv ad sh σ c t j := by
    intro t j
    simp only [fv, h1, h2, h3]
  simp only [ce, h1, h2, h3, e]
theorem wd_set {cA : Nat → ClassId} {ad : Nat → Nat} {sh : SH} {σ σ' : St} {b : Nat} {e : va_E} (he : ce cA ad sh σ' b = e) (ho : ∀ c, c ≠ b → ce cA ad sh σ' c = ce cA ad sh σ c) : (wd cA ad sh σ).set b (ad b, e) = wd cA ad sh σ' := by
  refine List.ext_getElem? fun i => ?_
  by_cases hi : i < sh.1
  · by_cases hb : i = b
    · subst hb
      rw [List.getElem?_set_self (by rw [wd_len]; exact hi), wd_at hi, he]
    · rw [List.getElem?_set_ne (Ne.symm hb), wd_at hi, wd_at hi, ho i hb]
  · have h1 : (wd cA ad sh σ').length ≤ i := by rw [wd_len]; omega
    have h2 : ((wd cA ad sh σ).set b (ad b, e)).length ≤ i := by rw [List.length_set, wd_len]; omega
    rw [List.getElem?_eq_none h1, List.getElem?_eq_none h2]
theorem gI_uI (σ : St) (c j : Nat) (v : Int32) (a b : Nat) : gI (uI σ c j v) a b = if a = c ∧ b = j then v else gI σ a b := rfl
theorem gJ_uJ (σ : St) (c j : Nat) (v : Int64) (a b : Nat) : gJ (uJ σ c j v) a b = if a = c ∧ b = j then v else gJ σ a b := rfl
theorem gD_uD (σ : St) (c j : Nat) (v : UInt64) (a b : Nat) : gD (uD σ c j v) a b = if a = c ∧ b = j then v else gD σ a b := rfl
theorem gI_uJ (σ : St) (c j : Nat) (v : Int64) : gI (uJ σ c j v) = gI σ := rfl
theorem gI_uD (σ : St) (c j : Nat) (v : UInt64) : gI (uD σ c j v) = gI σ := rfl
theorem gJ_uI (σ : St) (c j : Nat) (v : Int32) : gJ (uI σ c j v) = gJ σ := rfl
theorem gJ_uD (σ : St) (c j : Nat) (v : UInt64) : gJ (uD σ c j v) = gJ σ := rfl
theorem gD_uI (σ : St) (c j : Nat) (v : Int32) : gD (uI σ c j v) = gD σ := rfl
theorem gD_uJ (σ : St) (c j : Nat) (v : Int64) : gD (uJ σ c j v) = gD σ := rfl
theorem gI_wI (σ : St) (c : Nat) (g : Nat → Int32) (a b : Nat) : gI (wI σ c g) a b = if a = c then g b else gI σ a b := rfl
theorem gJ_wJ (σ : St) (c : Nat) (g : Nat → Int64) (a b : Nat) : gJ (wJ σ c g) a b = if a = c then g b else gJ σ a b := rfl
theorem gI_wJ (σ : St) (c : Nat) (g : Nat → Int64) : gI (wJ σ c g) = gI σ := rfl
theorem gD_wJ (σ : St) (c : Nat) (g : Nat → Int64) : gD (wJ σ c g) = gD σ := rfl
theorem gJ_wI (σ : St) (c : Nat) (g : Nat → Int32) : gJ (wI σ c g) = gJ σ := rfl
theorem gD_wI (σ : St) (c : Nat) (g : Nat → Int32) : gD (wI σ c g) = gD σ := rfl
theorem ce_oI {cA : Nat → ClassId} {ad : Nat → Nat} {sh : SH} {σ : St} {b j : Nat} {v : Int32} : ∀ c, c ≠ b → ce cA ad sh (uI σ b j v) c = ce cA ad sh σ c := fun c h => ce_congr (funext fun k => by rw [gI_uI, if_neg (fun q => h q.1)]) rfl rfl
theorem ce_oJ {cA : Nat → ClassId} {ad : Nat → Nat} {sh : SH} {σ : St} {b j : Nat} {v : Int64} : ∀ c, c ≠ b → ce cA ad sh (uJ σ b j v) c = ce cA ad sh σ c := fun c h => ce_congr rfl (funext fun k => by rw [gJ_uJ, if_neg (fun q => h q.1)]) rfl
theorem ce_oD {cA : Nat → ClassId} {ad : Nat → Nat} {sh : SH} {σ : St} {b j : Nat} {v : UInt64} : ∀ c, c ≠ b → ce cA ad sh (uD σ b j v) c = ce cA ad sh σ c := fun c h => ce_congr rfl rfl (funext fun k => by rw [gD_uD, if_neg (fun q => h q.1)])
theorem ce_wI {cA : Nat → ClassId} {ad : Nat → Nat} {sh : SH} {σ : St} {b : Nat} {g : Nat → Int32} : ∀ c, c ≠ b → ce cA ad sh (wI σ b g) c = ce cA ad sh σ c := fun c h => ce_congr (funext fun k => by rw [gI_wI, if_neg h]) rfl rfl
theorem ce_wJ {cA : Nat → ClassId} {ad : Nat → Nat} {sh : SH} {σ : St} {b : Nat} {g : Nat → Int64} : ∀ c, c ≠ b → ce cA ad sh (wJ σ b g) c = ce cA ad sh σ c := fun c h => ce_congr rfl (funext fun k => by rw [gJ_wJ, if_neg h]) rfl
theorem ce_o {cA : Nat → ClassId} {ad : Nat → Nat} {sh : SH} {σ : St} {c ci : Nat} (h : sh.2.1 c = .inl ci) : ce cA ad sh σ c = .inr (ci, (List.range (nf ci)).map (fun j => fv ad sh σ c (ft ci j) j)) := by simp only [ce, h]
theorem ce_i {cA : Nat → ClassId} {ad : Nat → Nat} {sh : SH} {σ : St} {c n : Nat} (h : sh.2.1 c = .inr (0, n)) : ce cA ad sh σ c = .inl (cA 0, n, .inl (gI σ c)) := by simp only [ce, h]
theorem ce_l {cA : Nat → ClassId} {ad : Nat → Nat} {sh : SH} {σ : St} {c n : Nat} (h : sh.2.1 c = .inr (1, n)) : ce cA ad sh σ c = .inl (cA 1, n, .inr (.inl (gJ σ c))) := by simp only [ce, h]
theorem ce_d {cA : Nat → ClassId} {ad : Nat → Nat} {sh : SH} {σ : St} {c n : Nat} (h : sh.2.1 c = .inr (2, n)) : ce cA ad sh σ c = .inl (cA 2, n, .inr (.inr (.inr (.inl (gD σ c))))) := by simp only [ce, h]
theorem ce_q {cA : Nat → ClassId} {ad : Nat → Nat} {sh : SH} {σ : St} {c n t : Nat} (h : sh.2.1 c = .inr (t + 3, n)) : ce cA ad sh σ c = .inl (cA (t + 3), n, .inr (.inr (.inr (.inr (fun j => (sh.2.2 c j).map ad))))) := by simp only [ce, h]
theorem fl_at {ad : Nat → Nat} {sh : SH} {σ : St} {c ci j : Nat} (h : j < nf ci) : ((List.range (nf ci)).map (fun j => fv ad sh σ c (ft ci j) j))[j]? = some (fv ad sh σ c (ft ci j) j) := by
  simp only [List.getElem?_map, List.getElem?_range h, Option.map_some]
theorem fl_set {ad : Nat → Nat} {sh sh' : SH} {σ σ' : St} {c ci j : Nat} (h : j < nf ci) (ho : ∀ k, k ≠ j → fv ad sh' σ' c (ft ci k) k = fv ad sh σ c (ft ci k) k) : ((List.range (nf ci)).map (fun j => fv ad sh σ c (ft ci j) j)).set j (fv ad sh' σ' c (ft ci j) j) = (List.range (nf ci)).map (fun j => fv ad sh' σ' c (ft ci j) j) := by
  refine List.ext_getElem? fun i => ?_
  by_cases hi : i < nf ci
  · by_cases hb : i = j
    · subst hb
      rw [List.getElem?_set_self (by simp; exact hi), fl_at hi]
    · rw [List.getElem?_set_ne (Ne.symm hb), fl_at hi, fl_at hi, ho i hb]
  · rw [List.getElem?_eq_none (by simp; omega), List.getElem?_eq_none (by simp; omega)]
/-! the words: all good ones of the tables -/
def GW : List Cond := lw_tbl.filter goodWord
theorem gw (i : Nat) {w : Cond} (h : lw_tbl[i]? = some w) (g : goodWord w = true) : w ∈ GW := List.mem_filter.mpr ⟨List.mem_of_getElem? h, g⟩
theorem gw_in {w : Cond} (h : w ∈ GW) : w ∈ GW ∧ ((w.onTables && w.keeps) = true ∨ ∃ ty, w = .arrayClass ty) := ⟨h, good_of_word (List.mem_filter.mp h).2⟩
def wsy (y : MethodName) (b : ByteArray) (n : Nat) (ret : Option FieldType) : List Cond := .code y b n ret :: GW
theorem gw_wsy {y : MethodName} {b : ByteArray} {n : Nat} {ret : Option FieldType} (h : Cond.code y b n ret ∈ GW) : GoodIn GW (wsy y b n ret) := by
  intro w hw
  rcases List.mem_cons.mp hw with rfl | hw
  · exact gw_in h
  · exact gw_in hw
theorem gw_wsV {own C : String} {idx : Nat} {y : MethodName} {b : ByteArray} {n : Nat} {ret : Option FieldType} (h1 : Cond.methodLink own idx y ∈ GW) (h2 : Cond.instanceMethod y ∈ GW) (h3 : Cond.selects C y y ∈ GW) (h4 : Cond.initialized C ∈ GW) (h5 : Cond.code y b n ret ∈ GW) : GoodIn GW (wsV own idx C y (wsy y b n ret)) := by
  intro w hw
  rcases List.mem_append.mp hw with hw | hw
  · simp only [List.mem_cons, List.not_mem_nil, or_false] at hw
    rcases hw with rfl | rfl | rfl | rfl
    · exact gw_in h1
    · exact gw_in h2
    · exact gw_in h3
    · exact gw_in h4
  · exact gw_wsy h5 w hw
theorem gw_wsS {own : String} {idx : Nat} {y : MethodName} {b : ByteArray} {n : Nat} {ret : Option FieldType} (h1 : Cond.methodLink own idx y ∈ GW) (h2 : Cond.static y ∈ GW) (h4 : Cond.initialized y.cls ∈ GW) (h5 : Cond.code y b n ret ∈ GW) : GoodIn GW (va_wsS own idx y (wsy y b n ret)) := by
  intro w hw
  rcases List.mem_append.mp hw with hw | hw
  · simp only [List.mem_cons, List.not_mem_nil, or_false] at hw
    rcases hw with rfl | rfl | rfl
    · exact gw_in h1
    · exact gw_in h2
    · exact gw_in h4
  · exact gw_wsy h5 w hw
def isNest : Cond → Bool
  | .methodLinkNest .. => true
  | _ => false
def NW : List Cond := lw_tbl.filter isNest
theorem nw (i : Nat) {w : Cond} (h : lw_tbl[i]? = some w) (g : isNest w = true) : w ∈ NW := List.mem_filter.mpr ⟨List.mem_of_getElem? h, g⟩
theorem nw_warm {s U : State} (hW : s.WarmedH U.vm) (h : ∀ w ∈ NW, va_Nw w s) : ∀ w ∈ NW, va_Nw w U := by
  intro w hw
  have h1 := h w hw
  have h2 := (List.mem_filter.mp hw).2
  cases w <;> first | exact va_Nw.warmM hW h1 | exact (Bool.false_ne_true h2).elim
theorem nw_tabs : ∀ w ∈ NW, w.onTables = true := by
  intro w hw
  have h2 := (List.mem_filter.mp hw).2
  cases w <;> first | rfl | exact (Bool.false_ne_true h2).elim
theorem nw_call {U : State} {g : JFrame} {mk : MethodId} {a : Array Value} (h : ∀ w ∈ NW, va_Nw w U) : ∀ w ∈ NW, va_Nw w (U.calling g mk a) := fun w hw => va_Nw.same (u := U) (U := U.calling g mk a) (nw_tabs w hw) rfl (h w hw)
/-! what a method's body stands on, and the judgement -/
def Cx (p : Program) (R : Room) (s : State) (m : MethodId) (args : Array Value) (meth : Method) (c : Code) (cc : ByteArray) (nL : Nat) (own : String) (D : va_G) (cA : Nat → ClassId) (A : Nat → Prop) : Prop :=
  p.tables.exec = Jvm.exec ∧ c.code = cc ∧ c.maxLocals = nL ∧ s.vm.findClass own = some m.cls ∧ (∀ w ∈ GW, w.before args s = true) ∧ meth.locks = false ∧ va_K D cls (tysA cA) s ∧ (∀ w ∈ NW, va_Nw w s) ∧ (∀ q, s.heap.size ≤ q → A q) ∧ 1 ≤ R.frames + 1
def G (p : Program) (l : Launch) (e : Env) (R : Room) (s : State) (m : MethodId) (args : Array Value) (below : List Frame) (meth : Method) (c : Code) (nL : Nat) (D : va_G) (cA : Nat → ClassId) (A : Nat → Prop) (Q : State → Prop) (kc ks : Nat) (AD : (Nat → Nat) → Prop) (sh : SH) (σ : St) (loc : List (Nat × Value)) (pc : Nat) (st : List Value) : Prop :=
  ∀ (ad : Nat → Nat) (H : Heap) (locs : List Loc) (ls : Array Slot), AD ad → va_P D cls (wd cA ad sh σ) H → va_D A (wd cA ad sh σ) → va_S A s.heap H locs → lv_has ls nL (lm ad loc) → W p l e R s m args below meth c H locs kc ks Q (F0 m pc ls (st.map (vm ad)))
section GROWS
variable {p : Program} {l : Launch} {e : Env} {R : Room} {s : State} {m : MethodId} {args : Array Value} {below : List Frame} {meth : Method} {c : Code} {cc : ByteArray} {nL : Nat} {own : String} {D : va_G} {cA : Nat → ClassId} {A : Nat → Prop} {Q : State → Prop} {kc ks : Nat} {AD : (Nat → Nat) → Prop} {sh : SH} {σ : St} {loc : List (Nat × Value)} {pc : Nat} {st : List Value}
theorem g_iconst (X : Cx p R s m args meth c cc nL own D cA A) {n : Int} (v : Int32) (hd : decode cc pc = .ok (.iconst n, 1)) (hv : Int32.ofInt n = v) (k : G p l e R s m args below meth c nL D cA A Q kc ks AD sh σ loc (pc + 1) (.int v :: st)) : G p l e R s m args below meth c nL D cA A Q kc ks AD sh σ loc pc (st) :=
  fun ad H locs ls hAD hP hD hS hl => lv_iconst (rest := st.map (vm ad)) X.1 X.2.1 hd hv (k ad H locs ls hAD hP hD hS hl)
theorem g_bipush (X : Cx p R s m args meth c cc nL own D cA A) {n : Int} (v : Int32) (hd : decode cc pc = .ok (.bipush n, 2)) (hv : (Int8.ofInt n).toInt32 = v) (k : G p l e R s m args below meth c nL D cA A Q kc ks AD sh σ loc (pc + 2) (.int v :: st)) : G p l e R s m args below meth c nL D cA A Q kc ks AD sh σ loc pc (st) :=
  fun ad H locs ls hAD hP hD hS hl => lv_bipush (rest := st.map (vm ad)) X.1 X.2.1 hd hv (k ad H locs ls hAD hP hD hS hl)
theorem g_sipush (X : Cx p R s m args meth c cc nL own D cA A) {n : Int} (v : Int32) (hd : decode cc pc = .ok (.sipush n, 3)) (hv : (Int16.ofInt n).toInt32 = v) (k : G p l e R s m args below meth c nL D cA A Q kc ks AD sh σ loc (pc + 3) (.int v :: st)) : G p l e R s m args below meth c nL D cA A Q kc ks AD sh σ loc pc (st) :=
  fun ad H locs ls hAD hP hD hS hl => lv_sipush (rest := st.map (vm ad)) X.1 X.2.1 hd hv (k ad H locs ls hAD hP hD hS hl)
theorem g_lconst (X : Cx p R s m args meth c cc nL own D cA A) {n : Fin 2} (v : Int64) (hd : decode cc pc = .ok (.lconst n, 1)) (hv : Int64.ofNat (n : Nat) = v) (k : G p l e R s m args below meth c nL D cA A Q kc ks AD sh σ loc (pc + 1) (.long v :: st)) : G p l e R s m args below meth c nL D cA A Q kc ks AD sh σ loc pc (st) :=
  fun ad H locs ls hAD hP hD hS hl => lv_lconst (rest := st.map (vm ad)) X.1 X.2.1 hd hv (k ad H locs ls hAD hP hD hS hl)
theorem g_dconst0 (X : Cx p R s m args meth c cc nL own D cA A) (hd : decode cc pc = .ok (.dconst 0, 1)) (k : G p l e R s m args below meth c nL D cA A Q kc ks AD sh σ loc (pc + 1) (.double FP.dconst0 :: st)) : G p l e R s m args below meth c nL D cA A Q kc ks AD sh σ loc pc (st) :=
  fun ad H locs ls hAD hP hD hS hl => lv_dconst0 (rest := st.map (vm ad)) X.1 X.2.1 hd (k ad H locs ls hAD hP hD hS hl)
theorem g_dconst1 (X : Cx p R s m args meth c cc nL own D cA A) (hd : decode cc pc = .ok (.dconst 1, 1)) (k : G p l e R s m args below meth c nL D cA A Q kc ks AD sh σ loc (pc + 1) (.double FP.dconst1 :: st)) : G p l e R s m args below meth c nL D cA A Q kc ks AD sh σ loc pc (st) :=
  fun ad H locs ls hAD hP hD hS hl => lv_dconst1 (rest := st.map (vm ad)) X.1 X.2.1 hd (k ad H locs ls hAD hP hD hS hl)
theorem g_ldc (X : Cx p R s m args meth c cc nL own D cA A) {index : Nat} {v : Int32} (hc : Cond.constant own index v ∈ GW) (hd : decode cc pc = .ok (.ldc index, 2)) (k : G p l e R s m args below meth c nL D cA A Q kc ks AD sh σ loc (pc + 2) (.int v :: st)) : G p l e R s m args below meth c nL D cA A Q kc ks AD sh σ loc pc (st) :=
  fun ad H locs ls hAD hP hD hS hl => lv_ldc (rest := st.map (vm ad)) X.1 X.2.1 X.2.2.2.1 (X.2.2.2.2.1 _ hc) hd (k ad H locs ls hAD hP hD hS hl)
theorem g_ldcw (X : Cx p R s m args meth c cc nL own D cA A) {index : Nat} {v : Int32} (hc : Cond.constant own index v ∈ GW) (hd : decode cc pc = .ok (.ldc_w index, 3)) (k : G p l e R s m args below meth c nL D cA A Q kc ks AD sh σ loc (pc + 3) (.int v :: st)) : G p l e R s m args below meth c nL D cA A Q kc ks AD sh σ loc pc (st) :=
  fun ad H locs ls hAD hP hD hS hl => lv_ldcw (rest := st.map (vm ad)) X.1 X.2.1 X.2.2.2.1 (X.2.2.2.2.1 _ hc) hd (k ad H locs ls hAD hP hD hS hl)
theorem g_ldc2 (X : Cx p R s m args meth c cc nL own D cA A) {index : Nat} {v : Int64} (hc : Cond.constantLong own index v ∈ GW) (hd : decode cc pc = .ok (.ldc2_w index, 3)) (k : G p l e R s m args below meth c nL D cA A Q kc ks AD sh σ loc (pc + 3) (.long v :: st)) : G p l e R s m args below meth c nL D cA A Q kc ks AD sh σ loc pc (st) :=
  fun ad H locs ls hAD hP hD hS hl => lv_ldc2 (rest := st.map (vm ad)) X.1 X.2.1 X.2.2.2.1 (X.2.2.2.2.1 _ hc) hd (k ad H locs ls hAD hP hD hS hl)
theorem g_ldc2d (X : Cx p R s m args meth c cc nL own D cA A) {index : Nat} {v : UInt64} (hc : Cond.constantDouble own index v ∈ GW) (hd : decode cc pc = .ok (.ldc2_w index, 3)) (k : G p l e R s m args below meth c nL D cA A Q kc ks AD sh σ loc (pc + 3) (.double v :: st)) : G p l e R s m args below meth c nL D cA A Q kc ks AD sh σ loc pc (st) :=
  fun ad H locs ls hAD hP hD hS hl => lv_ldc2d (rest := st.map (vm ad)) X.1 X.2.1 X.2.2.2.1 (X.2.2.2.2.1 _ hc) hd (k ad H locs ls hAD hP hD hS hl)
theorem g_iadd (X : Cx p R s m args meth c cc nL own D cA A) {x y : Int32} (hd : decode cc pc = .ok (.iadd, 1)) (k : G p l e R s m args below meth c nL D cA A Q kc ks AD sh σ loc (pc + 1) (.int (x + y) :: st)) : G p l e R s m args below meth c nL D cA A Q kc ks AD sh σ loc pc (.int y :: .int x :: st) :=
  fun ad H locs ls hAD hP hD hS hl => lv_iadd (rest := st.map (vm ad)) X.1 X.2.1 hd (k ad H locs ls hAD hP hD hS hl)
theorem g_isub (X : Cx p R s m args meth c cc nL own D cA A) {x y : Int32} (hd : decode cc pc = .ok (.isub, 1)) (k : G p l e R s m args below meth c nL D cA A Q kc ks AD sh σ loc (pc + 1) (.int (x - y) :: st)) : G p l e R s m args below meth c nL D cA A Q kc ks AD sh σ loc pc (.int y :: .int x :: st) :=
  fun ad H locs ls hAD hP hD hS hl => lv_isub (rest := st.map (vm ad)) X.1 X.2.1 hd (k ad H locs ls hAD hP hD hS hl)
theorem g_imul (X : Cx p R s m args meth c cc nL own D cA A) {x y : Int32} (hd : decode cc pc = .ok (.imul, 1)) (k : G p l e R s m args below meth c nL D cA A Q kc ks AD sh σ loc (pc + 1) (.int (x * y) :: st)) : G p l e R s m args below meth c nL D cA A Q kc ks AD sh σ loc pc (.int y :: .int x :: st) :=
  fun ad H locs ls hAD hP hD hS hl => lv_imul (rest := st.map (vm ad)) X.1 X.2.1 hd (k ad H locs ls hAD hP hD hS hl)
theorem g_iand (X : Cx p R s m args meth c cc nL own D cA A) {x y : Int32} (hd : decode cc pc = .ok (.iand, 1)) (k : G p l e R s m args below meth c nL D cA A Q kc ks AD sh σ loc (pc + 1) (.int (x &&& y) :: st)) : G p l e R s m args below meth c nL D cA A Q kc ks AD sh σ loc pc (.int y :: .int x :: st) :=
  fun ad H locs ls hAD hP hD hS hl => lv_iand (rest := st.map (vm ad)) X.1 X.2.1 hd (k ad H locs ls hAD hP hD hS hl)
theorem g_ior (X : Cx p R s m args meth c cc nL own D cA A) {x y : Int32} (hd : decode cc pc = .ok (.ior, 1)) (k : G p l e R s m args below meth c nL D cA A Q kc ks AD sh σ loc (pc + 1) (.int (x ||| y) :: st)) : G p l e R s m args below meth c nL D cA A Q kc ks AD sh σ loc pc (.int y :: .int x :: st) :=
  fun ad H locs ls hAD hP hD hS hl => lv_ior (rest := st.map (vm ad)) X.1 X.2.1 hd (k ad H locs ls hAD hP hD hS hl)
theorem g_ixor (X : Cx p R s m args meth c cc nL own D cA A) {x y : Int32} (hd : decode cc pc = .ok (.ixor, 1)) (k : G p l e R s m args below meth c nL D cA A Q kc ks AD sh σ loc (pc + 1) (.int (x ^^^ y) :: st)) : G p l e R s m args below meth c nL D cA A Q kc ks AD sh σ loc pc (.int y :: .int x :: st) :=
  fun ad H locs ls hAD hP hD hS hl => lv_ixor (rest := st.map (vm ad)) X.1 X.2.1 hd (k ad H locs ls hAD hP hD hS hl)
theorem g_ishl (X : Cx p R s m args meth c cc nL own D cA A) {x y : Int32} (hd : decode cc pc = .ok (.ishl, 1)) (k : G p l e R s m args below meth c nL D cA A Q kc ks AD sh σ loc (pc + 1) (.int (x <<< (y &&& 31)) :: st)) : G p l e R s m args below meth c nL D cA A Q kc ks AD sh σ loc pc (.int y :: .int x :: st) :=
  fun ad H locs ls hAD hP hD hS hl => lv_ishl (rest := st.map (vm ad)) X.1 X.2.1 hd (k ad H locs ls hAD hP hD hS hl)
theorem g_ishr (X : Cx p R s m args meth c cc nL own D cA A) {x y : Int32} (hd : decode cc pc = .ok (.ishr, 1)) (k : G p l e R s m args below meth c nL D cA A Q kc ks AD sh σ loc (pc + 1) (.int (x >>> (y &&& 31)) :: st)) : G p l e R s m args below meth c nL D cA A Q kc ks AD sh σ loc pc (.int y :: .int x :: st) :=
  fun ad H locs ls hAD hP hD hS hl => lv_ishr (rest := st.map (vm ad)) X.1 X.2.1 hd (k ad H locs ls hAD hP hD hS hl)
theorem g_idiv (X : Cx p R s m args meth c cc nL own D cA A) {x y : Int32} (hd : decode cc pc = .ok (.idiv, 1)) (hne : ¬ y = 0) (k : G p l e R s m args below meth c nL D cA A Q kc ks AD sh σ loc (pc + 1) (.int (x / y) :: st)) : G p l e R s m args below meth c nL D cA A Q kc ks AD sh σ loc pc (.int y :: .int x :: st) :=
  fun ad H locs ls hAD hP hD hS hl => lv_idiv (rest := st.map (vm ad)) X.1 X.2.1 hd hne (k ad H locs ls hAD hP hD hS hl)
theorem g_irem (X : Cx p R s m args meth c cc nL own D cA A) {x y : Int32} (hd : decode cc pc = .ok (.irem, 1)) (hne : ¬ y = 0) (k : G p l e R s m args below meth c nL D cA A Q kc ks AD sh σ loc (pc + 1) (.int (x - x / y * y) :: st)) : G p l e R s m args below meth c nL D cA A Q kc ks AD sh σ loc pc (.int y :: .int x :: st) :=
  fun ad H locs ls hAD hP hD hS hl => lv_irem (rest := st.map (vm ad)) X.1 X.2.1 hd hne (k ad H locs ls hAD hP hD hS hl)
theorem g_ladd (X : Cx p R s m args meth c cc nL own D cA A) {x y : Int64} (hd : decode cc pc = .ok (.ladd, 1)) (k : G p l e R s m args below meth c nL D cA A Q kc ks AD sh σ loc (pc + 1) (.long (x + y) :: st)) : G p l e R s m args below meth c nL D cA A Q kc ks AD sh σ loc pc (.long y :: .long x :: st) :=
  fun ad H locs ls hAD hP hD hS hl => lv_ladd (rest := st.map (vm ad)) X.1 X.2.1 hd (k ad H locs ls hAD hP hD hS hl)
theorem g_lsub (X : Cx p R s m args meth c cc nL own D cA A) {x y : Int64} (hd : decode cc pc = .ok (.lsub, 1)) (k : G p l e R s m args below meth c nL D cA A Q kc ks AD sh σ loc (pc + 1) (.long (x - y) :: st)) : G p l e R s m args below meth c nL D cA A Q kc ks AD sh σ loc pc (.long y :: .long x :: st) :=
  fun ad H locs ls hAD hP hD hS hl => lv_lsub (rest := st.map (vm ad)) X.1 X.2.1 hd (k ad H locs ls hAD hP hD hS hl)
theorem g_lmul (X : Cx p R s m args meth c cc nL own D cA A) {x y : Int64} (hd : decode cc pc = .ok (.lmul, 1)) (k : G p l e R s m args below meth c nL D cA A Q kc ks AD sh σ loc (pc + 1) (.long (x * y) :: st)) : G p l e R s m args below meth c nL D cA A Q kc ks AD sh σ loc pc (.long y :: .long x :: st) :=
  fun ad H locs ls hAD hP hD hS hl => lv_lmul (rest := st.map (vm ad)) X.1 X.2.1 hd (k ad H locs ls hAD hP hD hS hl)
theorem g_land (X : Cx p R s m args meth c cc nL own D cA A) {x y : Int64} (hd : decode cc pc = .ok (.land, 1)) (k : G p l e R s m args below meth c nL D cA A Q kc ks AD sh σ loc (pc + 1) (.long (x &&& y) :: st)) : G p l e R s m args below meth c nL D cA A Q kc ks AD sh σ loc pc (.long y :: .long x :: st) :=
  fun ad H locs ls hAD hP hD hS hl => lv_land (rest := st.map (vm ad)) X.1 X.2.1 hd (k ad H locs ls hAD hP hD hS hl)
theorem g_lor (X : Cx p R s m args meth c cc nL own D cA A) {x y : Int64} (hd : decode cc pc = .ok (.lor, 1)) (k : G p l e R s m args below meth c nL D cA A Q kc ks AD sh σ loc (pc + 1) (.long (x ||| y) :: st)) : G p l e R s m args below meth c nL D cA A Q kc ks AD sh σ loc pc (.long y :: .long x :: st) :=
  fun ad H locs ls hAD hP hD hS hl => lv_lor (rest := st.map (vm ad)) X.1 X.2.1 hd (k ad H locs ls hAD hP hD hS hl)
theorem g_lxor (X : Cx p R s m args meth c cc nL own D cA A) {x y : Int64} (hd : decode cc pc = .ok (.lxor, 1)) (k : G p l e R s m args below meth c nL D cA A Q kc ks AD sh σ loc (pc + 1) (.long (x ^^^ y) :: st)) : G p l e R s m args below meth c nL D cA A Q kc ks AD sh σ loc pc (.long y :: .long x :: st) :=
  fun ad H locs ls hAD hP hD hS hl => lv_lxor (rest := st.map (vm ad)) X.1 X.2.1 hd (k ad H locs ls hAD hP hD hS hl)
theorem g_ldiv (X : Cx p R s m args meth c cc nL own D cA A) {x y : Int64} (hd : decode cc pc = .ok (.ldiv, 1)) (hne : ¬ y = 0) (k : G p l e R s m args below meth c nL D cA A Q kc ks AD sh σ loc (pc + 1) (.long (x / y) :: st)) : G p l e R s m args below meth c nL D cA A Q kc ks AD sh σ loc pc (.long y :: .long x :: st) :=
  fun ad H locs ls hAD hP hD hS hl => lv_ldiv (rest := st.map (vm ad)) X.1 X.2.1 hd hne (k ad H locs ls hAD hP hD hS hl)
theorem g_lrem (X : Cx p R s m args meth c cc nL own D cA A) {x y : Int64} (hd : decode cc pc = .ok (.lrem, 1)) (hne : ¬ y = 0) (k : G p l e R s m args below meth c nL D cA A Q kc ks AD sh σ loc (pc + 1) (.long (x - x / y * y) :: st)) : G p l e R s m args below meth c nL D cA A Q kc ks AD sh σ loc pc (.long y :: .long x :: st) :=
  fun ad H locs ls hAD hP hD hS hl => lv_lrem (rest := st.map (vm ad)) X.1 X.2.1 hd hne (k ad H locs ls hAD hP hD hS hl)
theorem g_ineg (X : Cx p R s m args meth c cc nL own D cA A) {x : Int32} (hd : decode cc pc = .ok (.ineg, 1)) (k : G p l e R s m args below meth c nL D cA A Q kc ks AD sh σ loc (pc + 1) (.int (-x) :: st)) : G p l e R s m args below meth c nL D cA A Q kc ks AD sh σ loc pc (.int x :: st) :=
  fun ad H locs ls hAD hP hD hS hl => lv_ineg (rest := st.map (vm ad)) X.1 X.2.1 hd (k ad H locs ls hAD hP hD hS hl)
theorem g_lneg (X : Cx p R s m args meth c cc nL own D cA A) {x : Int64} (hd : decode cc pc = .ok (.lneg, 1)) (k : G p l e R s m args below meth c nL D cA A Q kc ks AD sh σ loc (pc + 1) (.long (-x) :: st)) : G p l e R s m args below meth c nL D cA A Q kc ks AD sh σ loc pc (.long x :: st) :=
  fun ad H locs ls hAD hP hD hS hl => lv_lneg (rest := st.map (vm ad)) X.1 X.2.1 hd (k ad H locs ls hAD hP hD hS hl)
theorem g_i2l (X : Cx p R s m args meth c cc nL own D cA A) {x : Int32} (hd : decode cc pc = .ok (.i2l, 1)) (k : G p l e R s m args below meth c nL D cA A Q kc ks AD sh σ loc (pc + 1) (.long x.toInt64 :: st)) : G p l e R s m args below meth c nL D cA A Q kc ks AD sh σ loc pc (.int x :: st) :=
  fun ad H locs ls hAD hP hD hS hl => lv_i2l (rest := st.map (vm ad)) X.1 X.2.1 hd rfl (k ad H locs ls hAD hP hD hS hl)
theorem g_l2i (X : Cx p R s m args meth c cc nL own D cA A) {x : Int64} (hd : decode cc pc = .ok (.l2i, 1)) (k : G p l e R s m args below meth c nL D cA A Q kc ks AD sh σ loc (pc + 1) (.int x.toInt32 :: st)) : G p l e R s m args below meth c nL D cA A Q kc ks AD sh σ loc pc (.long x :: st) :=
  fun ad H locs ls hAD hP hD hS hl => lv_l2i (rest := st.map (vm ad)) X.1 X.2.1 hd rfl (k ad H locs ls hAD hP hD hS hl)
theorem g_i2b (X : Cx p R s m args meth c cc nL own D cA A) {x : Int32} (hd : decode cc pc = .ok (.i2b, 1)) (k : G p l e R s m args below meth c nL D cA A Q kc ks AD sh σ loc (pc + 1) (.int x.toInt8.toInt32 :: st)) : G p l e R s m args below meth c nL D cA A Q kc ks AD sh σ loc pc (.int x :: st) :=
  fun ad H locs ls hAD hP hD hS hl => lv_i2b (rest := st.map (vm ad)) X.1 X.2.1 hd rfl (k ad H locs ls hAD hP hD hS hl)
theorem g_i2s (X : Cx p R s m args meth c cc nL own D cA A) {x : Int32} (hd : decode cc pc = .ok (.i2s, 1)) (k : G p l e R s m args below meth c nL D cA A Q kc ks AD sh σ loc (pc + 1) (.int x.toInt16.toInt32 :: st)) : G p l e R s m args below meth c nL D cA A Q kc ks AD sh σ loc pc (.int x :: st) :=
  fun ad H locs ls hAD hP hD hS hl => lv_i2s (rest := st.map (vm ad)) X.1 X.2.1 hd rfl (k ad H locs ls hAD hP hD hS hl)
def iushrF (x y : Int32) : Int32 := (x.toUInt32 >>> (y.toUInt32 &&& Int32.toUInt32 31)).toInt32
def lushrF (x : Int64) (y : Int32) : Int64 := (x.toUInt64 >>> (y.toInt64.toUInt64 &&& Int64.toUInt64 63)).toInt64
def lshlF (x : Int64) (y : Int32) : Int64 := x <<< (y.toInt64 &&& 63)
def lshrF (x : Int64) (y : Int32) : Int64 := x >>> (y.toInt64 &&& 63)
def iremF (x y : Int32) : Int32 := x - x / y * y
def lremF (x y : Int64) : Int64 := x - x / y * y
theorem g_iushr (X : Cx p R s m args meth c cc nL own D cA A) {x y : Int32} (hd : decode cc pc = .ok (.iushr, 1)) (k : G p l e R s m args below meth c nL D cA A Q kc ks AD sh σ loc (pc + 1) (.int (iushrF x y) :: st)) : G p l e R s m args below meth c nL D cA A Q kc ks AD sh σ loc pc (.int y :: .int x :: st) :=
  fun ad H locs ls hAD hP hD hS hl => lv_iushr (rest := st.map (vm ad)) X.1 X.2.1 hd rfl (k ad H locs ls hAD hP hD hS hl)
theorem g_lushr (X : Cx p R s m args meth c cc nL own D cA A) {x : Int64} {y : Int32} (hd : decode cc pc = .ok (.lushr, 1)) (k : G p l e R s m args below meth c nL D cA A Q kc ks AD sh σ loc (pc + 1) (.long (lushrF x y) :: st)) : G p l e R s m args below meth c nL D cA A Q kc ks AD sh σ loc pc (.int y :: .long x :: st) :=
  fun ad H locs ls hAD hP hD hS hl => lv_lushr (rest := st.map (vm ad)) X.1 X.2.1 hd rfl (k ad H locs ls hAD hP hD hS hl)
theorem g_lshl (X : Cx p R s m args meth c cc nL own D cA A) {x : Int64} {y : Int32} (hd : decode cc pc = .ok (.lshl, 1)) (k : G p l e R s m args below meth c nL D cA A Q kc ks AD sh σ loc (pc + 1) (.long (lshlF x y) :: st)) : G p l e R s m args below meth c nL D cA A Q kc ks AD sh σ loc pc (.int y :: .long x :: st) :=
  fun ad H locs ls hAD hP hD hS hl => lv_lshl (rest := st.map (vm ad)) X.1 X.2.1 hd rfl (k ad H locs ls hAD hP hD hS hl)
theorem g_lshr (X : Cx p R s m args meth c cc nL own D cA A) {x : Int64} {y : Int32} (hd : decode cc pc = .ok (.lshr, 1)) (k : G p l e R s m args below meth c nL D cA A Q kc ks AD sh σ loc (pc + 1) (.long (lshrF x y) :: st)) : G p l e R s m args below meth c nL D cA A Q kc ks AD sh σ loc pc (.int y :: .long x :: st) :=
  fun ad H locs ls hAD hP hD hS hl => lv_lshr (rest := st.map (vm ad)) X.1 X.2.1 hd rfl (k ad H locs ls hAD hP hD hS hl)
theorem g_lcmp (X : Cx p R s m args meth c cc nL own D cA A) {x y : Int64} (hd : decode cc pc = .ok (.lcmp, 1)) (k : G p l e R s m args below meth c nL D cA A Q kc ks AD sh σ loc (pc + 1) (.int (lg_cmp x y) :: st)) : G p l e R s m args below meth c nL D cA A Q kc ks AD sh σ loc pc (.long y :: .long x :: st) :=
  fun ad H locs ls hAD hP hD hS hl => W.lcmp (rest := st.map (vm ad)) X.1 X.2.1 hd (k ad H locs ls hAD hP hD hS hl)
theorem g_dadd (X : Cx p R s m args meth c cc nL own D cA A) {x y : UInt64} (hd : decode cc pc = .ok (.dadd, 1)) (hne : vf_n64 (FP.dadd x y)) (k : G p l e R s m args below meth c nL D cA A Q kc ks AD sh σ loc (pc + 1) (.double (FP.dadd x y) :: st)) : G p l e R s m args below meth c nL D cA A Q kc ks AD sh σ loc pc (.double y :: .double x :: st) :=
  fun ad H locs ls hAD hP hD hS hl => lv_dadd (rest := st.map (vm ad)) X.1 X.2.1 hd hne (k ad H locs ls hAD hP hD hS hl)
theorem g_dmul (X : Cx p R s m args meth c cc nL own D cA A) {x y : UInt64} (hd : decode cc pc = .ok (.dmul, 1)) (hne : vf_n64 (FP.dmul x y)) (k : G p l e R s m args below meth c nL D cA A Q kc ks AD sh σ loc (pc + 1) (.double (FP.dmul x y) :: st)) : G p l e R s m args below meth c nL D cA A Q kc ks AD sh σ loc pc (.double y :: .double x :: st) :=
  fun ad H locs ls hAD hP hD hS hl => lv_dmul (rest := st.map (vm ad)) X.1 X.2.1 hd hne (k ad H locs ls hAD hP hD hS hl)
theorem g_ddiv (X : Cx p R s m args meth c cc nL own D cA A) {x y : UInt64} (hd : decode cc pc = .ok (.ddiv, 1)) (hne : vf_n64 (FP.ddiv x y)) (k : G p l e R s m args below meth c nL D cA A Q kc ks AD sh σ loc (pc + 1) (.double (FP.ddiv x y) :: st)) : G p l e R s m args below meth c nL D cA A Q kc ks AD sh σ loc pc (.double y :: .double x :: st) :=
  fun ad H locs ls hAD hP hD hS hl => lv_ddiv (rest := st.map (vm ad)) X.1 X.2.1 hd hne (k ad H locs ls hAD hP hD hS hl)
theorem g_dneg (X : Cx p R s m args meth c cc nL own D cA A) {x : UInt64} (hd : decode cc pc = .ok (.dneg, 1)) (k : G p l e R s m args below meth c nL D cA A Q kc ks AD sh σ loc (pc + 1) (.double (FP.dneg x) :: st)) : G p l e R s m args below meth c nL D cA A Q kc ks AD sh σ loc pc (.double x :: st) :=
  fun ad H locs ls hAD hP hD hS hl => lv_dneg (rest := st.map (vm ad)) X.1 X.2.1 hd (k ad H locs ls hAD hP hD hS hl)
def dcmpF (x y : UInt64) (op : CmpOp) : Int32 := Op.cmpValue (FP.dcmp x y) op
theorem g_dcmp (X : Cx p R s m args meth c cc nL own D cA A) {x y : UInt64} {op : CmpOp} (hd : decode cc pc = .ok (.dcmp op, 1)) (k : G p l e R s m args below meth c nL D cA A Q kc ks AD sh σ loc (pc + 1) (.int (dcmpF x y op) :: st)) : G p l e R s m args below meth c nL D cA A Q kc ks AD sh σ loc pc (.double y :: .double x :: st) :=
  fun ad H locs ls hAD hP hD hS hl => lv_dcmp (rest := st.map (vm ad)) X.1 X.2.1 hd (k ad H locs ls hAD hP hD hS hl)
theorem g_i2d (X : Cx p R s m args meth c cc nL own D cA A) {x : Int32} (hd : decode cc pc = .ok (.i2d, 1)) (k : G p l e R s m args below meth c nL D cA A Q kc ks AD sh σ loc (pc + 1) (.double (FP.i2d x) :: st)) : G p l e R s m args below meth c nL D cA A Q kc ks AD sh σ loc pc (.int x :: st) :=
  fun ad H locs ls hAD hP hD hS hl => lv_i2d (rest := st.map (vm ad)) X.1 X.2.1 hd (k ad H locs ls hAD hP hD hS hl)
theorem g_l2d (X : Cx p R s m args meth c cc nL own D cA A) {x : Int64} (hd : decode cc pc = .ok (.l2d, 1)) (k : G p l e R s m args below meth c nL D cA A Q kc ks AD sh σ loc (pc + 1) (.double (FP.l2d x) :: st)) : G p l e R s m args below meth c nL D cA A Q kc ks AD sh σ loc pc (.long x :: st) :=
  fun ad H locs ls hAD hP hD hS hl => lv_l2d (rest := st.map (vm ad)) X.1 X.2.1 hd (k ad H locs ls hAD hP hD hS hl)
theorem g_d2l (X : Cx p R s m args meth c cc nL own D cA A) {x : UInt64} (hd : decode cc pc = .ok (.d2l, 1)) (k : G p l e R s m args below meth c nL D cA A Q kc ks AD sh σ loc (pc + 1) (.long (FP.d2l x) :: st)) : G p l e R s m args below meth c nL D cA A Q kc ks AD sh σ loc pc (.double x :: st) :=
  fun ad H locs ls hAD hP hD hS hl => lv_d2l (rest := st.map (vm ad)) X.1 X.2.1 hd (k ad H locs ls hAD hP hD hS hl)
theorem g_f2d (X : Cx p R s m args meth c cc nL own D cA A) {x : UInt32} (hd : decode cc pc = .ok (.f2d, 1)) (hne : vf_n64 (FP.f2d x)) (k : G p l e R s m args below meth c nL D cA A Q kc ks AD sh σ loc (pc + 1) (.double (FP.f2d x) :: st)) : G p l e R s m args below meth c nL D cA A Q kc ks AD sh σ loc pc (.float x :: st) :=
  fun ad H locs ls hAD hP hD hS hl => lv_f2d (rest := st.map (vm ad)) X.1 X.2.1 hd hne (k ad H locs ls hAD hP hD hS hl)
theorem g_d2f (X : Cx p R s m args meth c cc nL own D cA A) {x : UInt64} (hd : decode cc pc = .ok (.d2f, 1)) (hne : vf_n32 (FP.d2f x)) (k : G p l e R s m args below meth c nL D cA A Q kc ks AD sh σ loc (pc + 1) (.float (FP.d2f x) :: st)) : G p l e R s m args below meth c nL D cA A Q kc ks AD sh σ loc pc (.double x :: st) :=
  fun ad H locs ls hAD hP hD hS hl => lv_d2f (rest := st.map (vm ad)) X.1 X.2.1 hd hne (k ad H locs ls hAD hP hD hS hl)
theorem g_dup (X : Cx p R s m args meth c cc nL own D cA A) {v : Value} (hd : decode cc pc = .ok (.dup, 1)) (hv : v.category = 1) (k : G p l e R s m args below meth c nL D cA A Q kc ks AD sh σ loc (pc + 1) (v :: v :: st)) : G p l e R s m args below meth c nL D cA A Q kc ks AD sh σ loc pc (v :: st) :=
  fun ad H locs ls hAD hP hD hS hl => lv_dup (va := vm ad v) (rest := st.map (vm ad)) X.1 X.2.1 hd ((vm_cat ad v).trans hv) (k ad H locs ls hAD hP hD hS hl)
theorem g_dup2 (X : Cx p R s m args meth c cc nL own D cA A) {v u : Value} (hd : decode cc pc = .ok (.dup2, 1)) (hv : v.category = 1) (hu : u.category = 1) (k : G p l e R s m args below meth c nL D cA A Q kc ks AD sh σ loc (pc + 1) (v :: u :: v :: u :: st)) : G p l e R s m args below meth c nL D cA A Q kc ks AD sh σ loc pc (v :: u :: st) :=
  fun ad H locs ls hAD hP hD hS hl => lv_dup2_11 (va := vm ad v) (vb := vm ad u) (rest := st.map (vm ad)) X.1 X.2.1 hd ((vm_cat ad v).trans hv) ((vm_cat ad u).trans hu) (k ad H locs ls hAD hP hD hS hl)
theorem g_dup2_2 (X : Cx p R s m args meth c cc nL own D cA A) {v : Value} (hd : decode cc pc = .ok (.dup2, 1)) (hv : v.category = 2) (k : G p l e R s m args below meth c nL D cA A Q kc ks AD sh σ loc (pc + 1) (v :: v :: st)) : G p l e R s m args below meth c nL D cA A Q kc ks AD sh σ loc pc (v :: st) :=
  fun ad H locs ls hAD hP hD hS hl => lv_dup2_2 (va := vm ad v) (rest := st.map (vm ad)) X.1 X.2.1 hd ((vm_cat ad v).trans hv) (k ad H locs ls hAD hP hD hS hl)
theorem g_iload_n (X : Cx p R s m args meth c cc nL own D cA A) {n : Fin 4} {i : Nat} {x : Int32} (j : Nat) (hd : decode cc pc = .ok (.iload_n n, 1)) (hi : (n : Nat) = i) (hj : loc[j]? = some (i, .int x)) (k : G p l e R s m args below meth c nL D cA A Q kc ks AD sh σ loc (pc + 1) (.int x :: st)) : G p l e R s m args below meth c nL D cA A Q kc ks AD sh σ loc pc st :=
  fun ad H locs ls hAD hP hD hS hl => lv_iload_n (rest := st.map (vm ad)) X.1 X.2.1 hd hi (lm_has hl hj) (k ad H locs ls hAD hP hD hS hl)
theorem g_iload (X : Cx p R s m args meth c cc nL own D cA A) {i : Nat} {x : Int32} (j : Nat) (hd : decode cc pc = .ok (.iload i, 2)) (hj : loc[j]? = some (i, .int x)) (k : G p l e R s m args below meth c nL D cA A Q kc ks AD sh σ loc (pc + 2) (.int x :: st)) : G p l e R s m args below meth c nL D cA A Q kc ks AD sh σ loc pc st :=
  fun ad H locs ls hAD hP hD hS hl => lv_iload (rest := st.map (vm ad)) X.1 X.2.1 hd (lm_has hl hj) (k ad H locs ls hAD hP hD hS hl)
theorem g_lload_n (X : Cx p R s m args meth c cc nL own D cA A) {n : Fin 4} {i : Nat} {x : Int64} (j : Nat) (hd : decode cc pc = .ok (.lload_n n, 1)) (hi : (n : Nat) = i) (hj : loc[j]? = some (i, .long x)) (k : G p l e R s m args below meth c nL D cA A Q kc ks AD sh σ loc (pc + 1) (.long x :: st)) : G p l e R s m args below meth c nL D cA A Q kc ks AD sh σ loc pc st :=
  fun ad H locs ls hAD hP hD hS hl => lv_lload_n (rest := st.map (vm ad)) X.1 X.2.1 hd hi (lm_has hl hj) (k ad H locs ls hAD hP hD hS hl)
theorem g_lload (X : Cx p R s m args meth c cc nL own D cA A) {i : Nat} {x : Int64} (j : Nat) (hd : decode cc pc = .ok (.lload i, 2)) (hj : loc[j]? = some (i, .long x)) (k : G p l e R s m args below meth c nL D cA A Q kc ks AD sh σ loc (pc + 2) (.long x :: st)) : G p l e R s m args below meth c nL D cA A Q kc ks AD sh σ loc pc st :=
  fun ad H locs ls hAD hP hD hS hl => lv_lload (rest := st.map (vm ad)) X.1 X.2.1 hd (lm_has hl hj) (k ad H locs ls hAD hP hD hS hl)
theorem g_dload_n (X : Cx p R s m args meth c cc nL own D cA A) {n : Fin 4} {i : Nat} {x : UInt64} (j : Nat) (hd : decode cc pc = .ok (.dload_n n, 1)) (hi : (n : Nat) = i) (hj : loc[j]? = some (i, .double x)) (k : G p l e R s m args below meth c nL D cA A Q kc ks AD sh σ loc (pc + 1) (.double x :: st)) : G p l e R s m args below meth c nL D cA A Q kc ks AD sh σ loc pc st :=
  fun ad H locs ls hAD hP hD hS hl => lv_dload_n (rest := st.map (vm ad)) X.1 X.2.1 hd hi (lm_has hl hj) (k ad H locs ls hAD hP hD hS hl)
theorem g_dload (X : Cx p R s m args meth c cc nL own D cA A) {i : Nat} {x : UInt64} (j : Nat) (hd : decode cc pc = .ok (.dload i, 2)) (hj : loc[j]? = some (i, .double x)) (k : G p l e R s m args below meth c nL D cA A Q kc ks AD sh σ loc (pc + 2) (.double x :: st)) : G p l e R s m args below meth c nL D cA A Q kc ks AD sh σ loc pc st :=
  fun ad H locs ls hAD hP hD hS hl => lv_dload (rest := st.map (vm ad)) X.1 X.2.1 hd (lm_has hl hj) (k ad H locs ls hAD hP hD hS hl)
theorem g_aload_n (X : Cx p R s m args meth c cc nL own D cA A) {n : Fin 4} {i : Nat} {x : Nat} (j : Nat) (hd : decode cc pc = .ok (.aload_n n, 1)) (hi : (n : Nat) = i) (hj : loc[j]? = some (i, .ref x)) (k : G p l e R s m args below meth c nL D cA A Q kc ks AD sh σ loc (pc + 1) (.ref x :: st)) : G p l e R s m args below meth c nL D cA A Q kc ks AD sh σ loc pc st :=
  fun ad H locs ls hAD hP hD hS hl => lv_aload_n (rest := st.map (vm ad)) X.1 X.2.1 hd hi (lm_has hl hj) (k ad H locs ls hAD hP hD hS hl)
theorem g_aload (X : Cx p R s m args meth c cc nL own D cA A) {i : Nat} {x : Nat} (j : Nat) (hd : decode cc pc = .ok (.aload i, 2)) (hj : loc[j]? = some (i, .ref x)) (k : G p l e R s m args below meth c nL D cA A Q kc ks AD sh σ loc (pc + 2) (.ref x :: st)) : G p l e R s m args below meth c nL D cA A Q kc ks AD sh σ loc pc st :=
  fun ad H locs ls hAD hP hD hS hl => lv_aload (rest := st.map (vm ad)) X.1 X.2.1 hd (lm_has hl hj) (k ad H locs ls hAD hP hD hS hl)
theorem g_istore_n (X : Cx p R s m args meth c cc nL own D cA A) {n : Fin 4} {i : Nat} {x : Int32} (loc' : List (Nat × Value)) (hd : decode cc pc = .ok (.istore_n n, 1)) (hi : (n : Nat) = i) (hb : i < nL) (hn' : (i, .int x) :: loc.filter (fun q => !(q.1 == i) && !(q.1 + 1 == i && q.2.category == 2)) = loc') (k : G p l e R s m args below meth c nL D cA A Q kc ks AD sh σ loc' (pc + 1) st) : G p l e R s m args below meth c nL D cA A Q kc ks AD sh σ loc pc (.int x :: st) :=
  fun ad H locs ls hAD hP hD hS hl => lv_istore_n (rest := st.map (vm ad)) (lv' := lm ad loc') X.1 X.2.1 hd hi hl hb (by rw [← hn']; show (i, Value.int x) :: (lm ad loc).filter (fun q => !(q.1 == i) && !(q.1 + 1 == i && q.2.category == 2)) = lm ad ((i, .int x) :: loc.filter (fun q => !(q.1 == i) && !(q.1 + 1 == i && q.2.category == 2))); rw [lm_filter ad (fun a b => !(a == i) && !(a + 1 == i && b == 2)) loc]; rfl) (fun ls' hl' => k ad H locs ls' hAD hP hD hS hl')
theorem g_istore (X : Cx p R s m args meth c cc nL own D cA A) {i : Nat} {x : Int32} (loc' : List (Nat × Value)) (hd : decode cc pc = .ok (.istore i, 2)) (hb : i < nL) (hn' : (i, .int x) :: loc.filter (fun q => !(q.1 == i) && !(q.1 + 1 == i && q.2.category == 2)) = loc') (k : G p l e R s m args below meth c nL D cA A Q kc ks AD sh σ loc' (pc + 2) st) : G p l e R s m args below meth c nL D cA A Q kc ks AD sh σ loc pc (.int x :: st) :=
  fun ad H locs ls hAD hP hD hS hl => lv_istore (rest := st.map (vm ad)) (lv' := lm ad loc') X.1 X.2.1 hd hl hb (by rw [← hn']; show (i, Value.int x) :: (lm ad loc).filter (fun q => !(q.1 == i) && !(q.1 + 1 == i && q.2.category == 2)) = lm ad ((i, .int x) :: loc.filter (fun q => !(q.1 == i) && !(q.1 + 1 == i && q.2.category == 2))); rw [lm_filter ad (fun a b => !(a == i) && !(a + 1 == i && b == 2)) loc]; rfl) (fun ls' hl' => k ad H locs ls' hAD hP hD hS hl')
theorem g_lstore_n (X : Cx p R s m args meth c cc nL own D cA A) {n : Fin 4} {i : Nat} {x : Int64} (loc' : List (Nat × Value)) (hd : decode cc pc = .ok (.lstore_n n, 1)) (hi : (n : Nat) = i) (hb : i + 1 < nL) (hn' : (i, .long x) :: loc.filter (fun q => !(q.1 == i) && (!(q.1 == i + 1) && !(q.1 + 1 == i && q.2.category == 2))) = loc') (k : G p l e R s m args below meth c nL D cA A Q kc ks AD sh σ loc' (pc + 1) st) : G p l e R s m args below meth c nL D cA A Q kc ks AD sh σ loc pc (.long x :: st) :=
  fun ad H locs ls hAD hP hD hS hl => lv_lstore_n (rest := st.map (vm ad)) (lv' := lm ad loc') X.1 X.2.1 hd hi hl hb (by rw [← hn']; show (i, Value.long x) :: (lm ad loc).filter (fun q => !(q.1 == i) && (!(q.1 == i + 1) && !(q.1 + 1 == i && q.2.category == 2))) = lm ad ((i, .long x) :: loc.filter (fun q => !(q.1 == i) && (!(q.1 == i + 1) && !(q.1 + 1 == i && q.2.category == 2)))); rw [lm_filter ad (fun a b => !(a == i) && (!(a == i + 1) && !(a + 1 == i && b == 2))) loc]; rfl) (fun ls' hl' => k ad H locs ls' hAD hP hD hS hl')
theorem g_lstore (X : Cx p R s m args meth c cc nL own D cA A) {i : Nat} {x : Int64} (loc' : List (Nat × Value)) (hd : decode cc pc = .ok (.lstore i, 2)) (hb : i + 1 < nL) (hn' : (i, .long x) :: loc.filter (fun q => !(q.1 == i) && (!(q.1 == i + 1) && !(q.1 + 1 == i && q.2.category == 2))) = loc') (k : G p l e R s m args below meth c nL D cA A Q kc ks AD sh σ loc' (pc + 2) st) : G p l e R s m args below meth c nL D cA A Q kc ks AD sh σ loc pc (.long x :: st) :=
  fun ad H locs ls hAD hP hD hS hl => lv_lstore (rest := st.map (vm ad)) (lv' := lm ad loc') X.1 X.2.1 hd hl hb (by rw [← hn']; show (i, Value.long x) :: (lm ad loc).filter (fun q => !(q.1 == i) && (!(q.1 == i + 1) && !(q.1 + 1 == i && q.2.category == 2))) = lm ad ((i, .long x) :: loc.filter (fun q => !(q.1 == i) && (!(q.1 == i + 1) && !(q.1 + 1 == i && q.2.category == 2)))); rw [lm_filter ad (fun a b => !(a == i) && (!(a == i + 1) && !(a + 1 == i && b == 2))) loc]; rfl) (fun ls' hl' => k ad H locs ls' hAD hP hD hS hl')
theorem g_dstore_n (X : Cx p R s m args meth c cc nL own D cA A) {n : Fin 4} {i : Nat} {x : UInt64} (loc' : List (Nat × Value)) (hd : decode cc pc = .ok (.dstore_n n, 1)) (hi : (n : Nat) = i) (hb : i + 1 < nL) (hn' : (i, .double x) :: loc.filter (fun q => !(q.1 == i) && (!(q.1 == i + 1) && !(q.1 + 1 == i && q.2.category == 2))) = loc') (k : G p l e R s m args below meth c nL D cA A Q kc ks AD sh σ loc' (pc + 1) st) : G p l e R s m args below meth c nL D cA A Q kc ks AD sh σ loc pc (.double x :: st) :=
  fun ad H locs ls hAD hP hD hS hl => lv_dstore_n (rest := st.map (vm ad)) (lv' := lm ad loc') X.1 X.2.1 hd hi hl hb (by rw [← hn']; show (i, Value.double x) :: (lm ad loc).filter (fun q => !(q.1 == i) && (!(q.1 == i + 1) && !(q.1 + 1 == i && q.2.category == 2))) = lm ad ((i, .double x) :: loc.filter (fun q => !(q.1 == i) && (!(q.1 == i + 1) && !(q.1 + 1 == i && q.2.category == 2)))); rw [lm_filter ad (fun a b => !(a == i) && (!(a == i + 1) && !(a + 1 == i && b == 2))) loc]; rfl) (fun ls' hl' => k ad H locs ls' hAD hP hD hS hl')
theorem g_dstore (X : Cx p R s m args meth c cc nL own D cA A) {i : Nat} {x : UInt64} (loc' : List (Nat × Value)) (hd : decode cc pc = .ok (.dstore i, 2)) (hb : i + 1 < nL) (hn' : (i, .double x) :: loc.filter (fun q => !(q.1 == i) && (!(q.1 == i + 1) && !(q.1 + 1 == i && q.2.category == 2))) = loc') (k : G p l e R s m args below meth c nL D cA A Q kc ks AD sh σ loc' (pc + 2) st) : G p l e R s m args below meth c nL D cA A Q kc ks AD sh σ loc pc (.double x :: st) :=
  fun ad H locs ls hAD hP hD hS hl => lv_dstore (rest := st.map (vm ad)) (lv' := lm ad loc') X.1 X.2.1 hd hl hb (by rw [← hn']; show (i, Value.double x) :: (lm ad loc).filter (fun q => !(q.1 == i) && (!(q.1 == i + 1) && !(q.1 + 1 == i && q.2.category == 2))) = lm ad ((i, .double x) :: loc.filter (fun q => !(q.1 == i) && (!(q.1 == i + 1) && !(q.1 + 1 == i && q.2.category == 2)))); rw [lm_filter ad (fun a b => !(a == i) && (!(a == i + 1) && !(a + 1 == i && b == 2))) loc]; rfl) (fun ls' hl' => k ad H locs ls' hAD hP hD hS hl')
theorem g_astore_n (X : Cx p R s m args meth c cc nL own D cA A) {n : Fin 4} {i : Nat} {x : Nat} (loc' : List (Nat × Value)) (hd : decode cc pc = .ok (.astore_n n, 1)) (hi : (n : Nat) = i) (hb : i < nL) (hn' : (i, .ref x) :: loc.filter (fun q => !(q.1 == i) && !(q.1 + 1 == i && q.2.category == 2)) = loc') (k : G p l e R s m args below meth c nL D cA A Q kc ks AD sh σ loc' (pc + 1) st) : G p l e R s m args below meth c nL D cA A Q kc ks AD sh σ loc pc (.ref x :: st) :=
  fun ad H locs ls hAD hP hD hS hl => lv_astore_n (rest := st.map (vm ad)) (lv' := lm ad loc') X.1 X.2.1 hd hi hl hb (by rw [← hn']; show (i, Value.ref (ad x)) :: (lm ad loc).filter (fun q => !(q.1 == i) && !(q.1 + 1 == i && q.2.category == 2)) = lm ad ((i, .ref x) :: loc.filter (fun q => !(q.1 == i) && !(q.1 + 1 == i && q.2.category == 2))); rw [lm_filter ad (fun a b => !(a == i) && !(a + 1 == i && b == 2)) loc]; rfl) (fun ls' hl' => k ad H locs ls' hAD hP hD hS hl')
theorem g_astore (X : Cx p R s m args meth c cc nL own D cA A) {i : Nat} {x : Nat} (loc' : List (Nat × Value)) (hd : decode cc pc = .ok (.astore i, 2)) (hb : i < nL) (hn' : (i, .ref x) :: loc.filter (fun q => !(q.1 == i) && !(q.1 + 1 == i && q.2.category == 2)) = loc') (k : G p l e R s m args below meth c nL D cA A Q kc ks AD sh σ loc' (pc + 2) st) : G p l e R s m args below meth c nL D cA A Q kc ks AD sh σ loc pc (.ref x :: st) :=
  fun ad H locs ls hAD hP hD hS hl => lv_astore (rest := st.map (vm ad)) (lv' := lm ad loc') X.1 X.2.1 hd hl hb (by rw [← hn']; show (i, Value.ref (ad x)) :: (lm ad loc).filter (fun q => !(q.1 == i) && !(q.1 + 1 == i && q.2.category == 2)) = lm ad ((i, .ref x) :: loc.filter (fun q => !(q.1 == i) && !(q.1 + 1 == i && q.2.category == 2))); rw [lm_filter ad (fun a b => !(a == i) && !(a + 1 == i && b == 2)) loc]; rfl) (fun ls' hl' => k ad H locs ls' hAD hP hD hS hl')
theorem g_iinc (X : Cx p R s m args meth c cc nL own D cA A) {i : Nat} {n : Int} {x : Int32} (j : Nat) (v : Int32) (loc' : List (Nat × Value)) (hd : decode cc pc = .ok (.iinc i n, 3)) (hj : loc[j]? = some (i, .int x)) (hv : Int32.ofInt n = v) (hb : i < nL) (hn' : (i, .int (x + v)) :: loc.filter (fun q => !(q.1 == i) && !(q.1 + 1 == i && q.2.category == 2)) = loc') (k : G p l e R s m args below meth c nL D cA A Q kc ks AD sh σ loc' (pc + 3) st) : G p l e R s m args below meth c nL D cA A Q kc ks AD sh σ loc pc st :=
  fun ad H locs ls hAD hP hD hS hl => lv_iinc (rest := st.map (vm ad)) (lv' := lm ad loc') X.1 X.2.1 hd hl (lm_at hj) (by rw [hv]) hb (by rw [← hn']; show (i, Value.int (x + v)) :: (lm ad loc).filter (fun q => !(q.1 == i) && !(q.1 + 1 == i && q.2.category == 2)) = lm ad ((i, .int (x + v)) :: loc.filter (fun q => !(q.1 == i) && !(q.1 + 1 == i && q.2.category == 2))); rw [lm_filter ad (fun a b => !(a == i) && !(a + 1 == i && b == 2)) loc]; rfl) (fun ls' hl' => k ad H locs ls' hAD hP hD hS hl')
theorem g_if_eq (X : Cx p R s m args meth c cc nL own D cA A) {x : Int32} {off : Int} (tgt : Nat) (hd : decode cc pc = .ok (.ifCond .eq off, 3)) (ht : (pc : Int) + off = (tgt : Int)) (kt : x = 0 → G p l e R s m args below meth c nL D cA A Q kc ks AD sh σ loc tgt st) (kf : ¬ x = 0 → G p l e R s m args below meth c nL D cA A Q kc ks AD sh σ loc (pc + 3) st) : G p l e R s m args below meth c nL D cA A Q kc ks AD sh σ loc pc (.int x :: st) :=
  fun ad H locs ls hAD hP hD hS hl => lv_if_eq (rest := st.map (vm ad)) X.1 X.2.1 hd ht (fun q => kt q ad H locs ls hAD hP hD hS hl) (fun q => kf q ad H locs ls hAD hP hD hS hl)
theorem g_icmp_eq (X : Cx p R s m args meth c cc nL own D cA A) {x y : Int32} {off : Int} (tgt : Nat) (hd : decode cc pc = .ok (.if_icmp .eq off, 3)) (ht : (pc : Int) + off = (tgt : Int)) (kt : x = y → G p l e R s m args below meth c nL D cA A Q kc ks AD sh σ loc tgt st) (kf : ¬ x = y → G p l e R s m args below meth c nL D cA A Q kc ks AD sh σ loc (pc + 3) st) : G p l e R s m args below meth c nL D cA A Q kc ks AD sh σ loc pc (.int y :: .int x :: st) :=
  fun ad H locs ls hAD hP hD hS hl => lv_icmp_eq (rest := st.map (vm ad)) X.1 X.2.1 hd ht (fun q => kt q ad H locs ls hAD hP hD hS hl) (fun q => kf q ad H locs ls hAD hP hD hS hl)
theorem g_if_ne (X : Cx p R s m args meth c cc nL own D cA A) {x : Int32} {off : Int} (tgt : Nat) (hd : decode cc pc = .ok (.ifCond .ne off, 3)) (ht : (pc : Int) + off = (tgt : Int)) (kt : ¬ x = 0 → G p l e R s m args below meth c nL D cA A Q kc ks AD sh σ loc tgt st) (kf : x = 0 → G p l e R s m args below meth c nL D cA A Q kc ks AD sh σ loc (pc + 3) st) : G p l e R s m args below meth c nL D cA A Q kc ks AD sh σ loc pc (.int x :: st) :=
  fun ad H locs ls hAD hP hD hS hl => lv_if_ne (rest := st.map (vm ad)) X.1 X.2.1 hd ht (fun q => kt q ad H locs ls hAD hP hD hS hl) (fun q => kf q ad H locs ls hAD hP hD hS hl)
theorem g_icmp_ne (X : Cx p R s m args meth c cc nL own D cA A) {x y : Int32} {off : Int} (tgt : Nat) (hd : decode cc pc = .ok (.if_icmp .ne off, 3)) (ht : (pc : Int) + off = (tgt : Int)) (kt : ¬ x = y → G p l e R s m args below meth c nL D cA A Q kc ks AD sh σ loc tgt st) (kf : x = y → G p l e R s m args below meth c nL D cA A Q kc ks AD sh σ loc (pc + 3) st) : G p l e R s m args below meth c nL D cA A Q kc ks AD sh σ loc pc (.int y :: .int x :: st) :=
  fun ad H locs ls hAD hP hD hS hl => lv_icmp_ne (rest := st.map (vm ad)) X.1 X.2.1 hd ht (fun q => kt q ad H locs ls hAD hP hD hS hl) (fun q => kf q ad H locs ls hAD hP hD hS hl)
theorem g_if_lt (X : Cx p R s m args meth c cc nL own D cA A) {x : Int32} {off : Int} (tgt : Nat) (hd : decode cc pc = .ok (.ifCond .lt off, 3)) (ht : (pc : Int) + off = (tgt : Int)) (kt : x < 0 → G p l e R s m args below meth c nL D cA A Q kc ks AD sh σ loc tgt st) (kf : ¬ x < 0 → G p l e R s m args below meth c nL D cA A Q kc ks AD sh σ loc (pc + 3) st) : G p l e R s m args below meth c nL D cA A Q kc ks AD sh σ loc pc (.int x :: st) :=
  fun ad H locs ls hAD hP hD hS hl => lv_if_lt (rest := st.map (vm ad)) X.1 X.2.1 hd ht (fun q => kt q ad H locs ls hAD hP hD hS hl) (fun q => kf q ad H locs ls hAD hP hD hS hl)
theorem g_icmp_lt (X : Cx p R s m args meth c cc nL own D cA A) {x y : Int32} {off : Int} (tgt : Nat) (hd : decode cc pc = .ok (.if_icmp .lt off, 3)) (ht : (pc : Int) + off = (tgt : Int)) (kt : x < y → G p l e R s m args below meth c nL D cA A Q kc ks AD sh σ loc tgt st) (kf : ¬ x < y → G p l e R s m args below meth c nL D cA A Q kc ks AD sh σ loc (pc + 3) st) : G p l e R s m args below meth c nL D cA A Q kc ks AD sh σ loc pc (.int y :: .int x :: st) :=
  fun ad H locs ls hAD hP hD hS hl => lv_icmp_lt (rest := st.map (vm ad)) X.1 X.2.1 hd ht (fun q => kt q ad H locs ls hAD hP hD hS hl) (fun q => kf q ad H locs ls hAD hP hD hS hl)
theorem g_if_ge (X : Cx p R s m args meth c cc nL own D cA A) {x : Int32} {off : Int} (tgt : Nat) (hd : decode cc pc = .ok (.ifCond .ge off, 3)) (ht : (pc : Int) + off = (tgt : Int)) (kt : 0 ≤ x → G p l e R s m args below meth c nL D cA A Q kc ks AD sh σ loc tgt st) (kf : ¬ 0 ≤ x → G p l e R s m args below meth c nL D cA A Q kc ks AD sh σ loc (pc + 3) st) : G p l e R s m args below meth c nL D cA A Q kc ks AD sh σ loc pc (.int x :: st) :=
  fun ad H locs ls hAD hP hD hS hl => lv_if_ge (rest := st.map (vm ad)) X.1 X.2.1 hd ht (fun q => kt q ad H locs ls hAD hP hD hS hl) (fun q => kf q ad H locs ls hAD hP hD hS hl)
theorem g_icmp_ge (X : Cx p R s m args meth c cc nL own D cA A) {x y : Int32} {off : Int} (tgt : Nat) (hd : decode cc pc = .ok (.if_icmp .ge off, 3)) (ht : (pc : Int) + off = (tgt : Int)) (kt : y ≤ x → G p l e R s m args below meth c nL D cA A Q kc ks AD sh σ loc tgt st) (kf : ¬ y ≤ x → G p l e R s m args below meth c nL D cA A Q kc ks AD sh σ loc (pc + 3) st) : G p l e R s m args below meth c nL D cA A Q kc ks AD sh σ loc pc (.int y :: .int x :: st) :=
  fun ad H locs ls hAD hP hD hS hl => lv_icmp_ge (rest := st.map (vm ad)) X.1 X.2.1 hd ht (fun q => kt q ad H locs ls hAD hP hD hS hl) (fun q => kf q ad H locs ls hAD hP hD hS hl)
theorem g_if_gt (X : Cx p R s m args meth c cc nL own D cA A) {x : Int32} {off : Int} (tgt : Nat) (hd : decode cc pc = .ok (.ifCond .gt off, 3)) (ht : (pc : Int) + off = (tgt : Int)) (kt : 0 < x → G p l e R s m args below meth c nL D cA A Q kc ks AD sh σ loc tgt st) (kf : ¬ 0 < x → G p l e R s m args below meth c nL D cA A Q kc ks AD sh σ loc (pc + 3) st) : G p l e R s m args below meth c nL D cA A Q kc ks AD sh σ loc pc (.int x :: st) :=
  fun ad H locs ls hAD hP hD hS hl => lv_if_gt (rest := st.map (vm ad)) X.1 X.2.1 hd ht (fun q => kt q ad H locs ls hAD hP hD hS hl) (fun q => kf q ad H locs ls hAD hP hD hS hl)
theorem g_icmp_gt (X : Cx p R s m args meth c cc nL own D cA A) {x y : Int32} {off : Int} (tgt : Nat) (hd : decode cc pc = .ok (.if_icmp .gt off, 3)) (ht : (pc : Int) + off = (tgt : Int)) (kt : y < x → G p l e R s m args below meth c nL D cA A Q kc ks AD sh σ loc tgt st) (kf : ¬ y < x → G p l e R s m args below meth c nL D cA A Q kc ks AD sh σ loc (pc + 3) st) : G p l e R s m args below meth c nL D cA A Q kc ks AD sh σ loc pc (.int y :: .int x :: st) :=
  fun ad H locs ls hAD hP hD hS hl => lv_icmp_gt (rest := st.map (vm ad)) X.1 X.2.1 hd ht (fun q => kt q ad H locs ls hAD hP hD hS hl) (fun q => kf q ad H locs ls hAD hP hD hS hl)
theorem g_if_le (X : Cx p R s m args meth c cc nL own D cA A) {x : Int32} {off : Int} (tgt : Nat) (hd : decode cc pc = .ok (.ifCond .le off, 3)) (ht : (pc : Int) + off = (tgt : Int)) (kt : x ≤ 0 → G p l e R s m args below meth c nL D cA A Q kc ks AD sh σ loc tgt st) (kf : ¬ x ≤ 0 → G p l e R s m args below meth c nL D cA A Q kc ks AD sh σ loc (pc + 3) st) : G p l e R s m args below meth c nL D cA A Q kc ks AD sh σ loc pc (.int x :: st) :=
  fun ad H locs ls hAD hP hD hS hl => lv_if_le (rest := st.map (vm ad)) X.1 X.2.1 hd ht (fun q => kt q ad H locs ls hAD hP hD hS hl) (fun q => kf q ad H locs ls hAD hP hD hS hl)
theorem g_icmp_le (X : Cx p R s m args meth c cc nL own D cA A) {x y : Int32} {off : Int} (tgt : Nat) (hd : decode cc pc = .ok (.if_icmp .le off, 3)) (ht : (pc : Int) + off = (tgt : Int)) (kt : x ≤ y → G p l e R s m args below meth c nL D cA A Q kc ks AD sh σ loc tgt st) (kf : ¬ x ≤ y → G p l e R s m args below meth c nL D cA A Q kc ks AD sh σ loc (pc + 3) st) : G p l e R s m args below meth c nL D cA A Q kc ks AD sh σ loc pc (.int y :: .int x :: st) :=
  fun ad H locs ls hAD hP hD hS hl => lv_icmp_le (rest := st.map (vm ad)) X.1 X.2.1 hd ht (fun q => kt q ad H locs ls hAD hP hD hS hl) (fun q => kf q ad H locs ls hAD hP hD hS hl)
theorem g_goto (X : Cx p R s m args meth c cc nL own D cA A) {off : Int} (tgt : Nat) (hd : decode cc pc = .ok (.goto off, 3)) (ht : (pc : Int) + off = (tgt : Int)) (k : G p l e R s m args below meth c nL D cA A Q kc ks AD sh σ loc tgt st) : G p l e R s m args below meth c nL D cA A Q kc ks AD sh σ loc pc st :=
  fun ad H locs ls hAD hP hD hS hl => lv_goto (rest := st.map (vm ad)) X.1 X.2.1 hd ht (k ad H locs ls hAD hP hD hS hl)
theorem g_tabOut (X : Cx p R s m args meth c cc nL own D cA A) {dflt lo hi : Int} {offs : Array Int} {len : Nat} {x : Int32} (tgt : Nat) (hd : decode cc pc = .ok (.tableswitch dflt lo hi offs, len)) (h : x.toInt < lo ∨ hi < x.toInt) (ht : (pc : Int) + dflt = (tgt : Int)) (k : G p l e R s m args below meth c nL D cA A Q kc ks AD sh σ loc tgt st) : G p l e R s m args below meth c nL D cA A Q kc ks AD sh σ loc pc (.int x :: st) :=
  fun ad H locs ls hAD hP hD hS hl => lv_tableOut (rest := st.map (vm ad)) X.1 X.2.1 hd h ht (k ad H locs ls hAD hP hD hS hl)
theorem g_tabIn (X : Cx p R s m args meth c cc nL own D cA A) {dflt lo hi : Int} {offs : Array Int} {len : Nat} {x : Int32} (tgt : Nat) (off : Int) (hd : decode cc pc = .ok (.tableswitch dflt lo hi offs, len)) (h1 : ¬ x.toInt < lo) (h2 : ¬ hi < x.toInt) (ho : offs[(x.toInt - lo).toNat]? = some off) (ht : (pc : Int) + off = (tgt : Int)) (k : G p l e R s m args below meth c nL D cA A Q kc ks AD sh σ loc tgt st) : G p l e R s m args below meth c nL D cA A Q kc ks AD sh σ loc pc (.int x :: st) :=
  fun ad H locs ls hAD hP hD hS hl => lv_tableIn (rest := st.map (vm ad)) X.1 X.2.1 hd h1 h2 ho ht (k ad H locs ls hAD hP hD hS hl)
theorem g_weak (ks' : List Nat) {loc' : List (Nat × Value)} (h : lv_pick loc ks' = loc') (k : G p l e R s m args below meth c nL D cA A Q kc ks AD sh σ loc' pc st) : G p l e R s m args below meth c nL D cA A Q kc ks AD sh σ loc pc st :=
  fun ad H locs ls hAD hP hD hS hl => k ad H locs ls hAD hP hD hS (lm_sub ks' h hl)
theorem g_getI (X : Cx p R s m args meth c cc nL own D cA A) {C : String} {T : u_T} {N b ci index : Nat} (j : Nat) (hd : decode cc pc = .ok (.getfield index, 3)) (hb : b < sh.1) (hk : sh.2.1 b = .inl ci) (hc : cls[ci]? = some (C, T, N)) (hN : nf ci = N) (hin : ∀ w ∈ u_ws C T N, w ∈ GW) (hj : j < N) (hf : ft ci j = 0) (hlink : Cond.fieldLink own index (T j).1 (T j).2.1 (T j).2.2.1 ∈ GW) (k : G p l e R s m args below meth c nL D cA A Q kc ks AD sh σ loc (pc + 3) (.int (gI σ b j) :: st)) : G p l e R s m args below meth c nL D cA A Q kc ks AD sh σ loc pc (.ref b :: st) := by
  intro ad H locs ls hAD hP hD hS hl
  subst hN
  refine va_get (rest := st.map (vm ad)) (v := .int (gI σ b j)) (tys := tysA cA) X.1 X.2.1 X.2.2.2.2.1 hin X.2.2.2.1 X.2.2.2.2.2.2.1 hP b ((wd_at hb).trans (by rw [ce_o hk])) hc j hj (X.2.2.2.2.1 _ hlink) (fun _ h => h) ((fl_at hj).trans (by rw [hf]; rfl)) hd (k ad H locs ls hAD hP hD hS hl)
theorem g_putI (X : Cx p R s m args meth c cc nL own D cA A) {C : String} {T : u_T} {N b ci index : Nat} {ty0 : Nat → FieldType} {x : Int32} (j : Nat) (hd : decode cc pc = .ok (.putfield index, 3)) (hb : b < sh.1) (hk : sh.2.1 b = .inl ci) (hc : cls[ci]? = some (C, T, N)) (hN : nf ci = N) (hin : ∀ w ∈ u_ws C T N, w ∈ GW) (hty : ∀ k, k < N → parseFieldDescriptor (T k).2.2.1 = some (ty0 k)) (hnm : ∀ a, a < N → ∀ b, b < N → a ≠ b → (T a).2.1 ≠ (T b).2.1) (hj : j < N) (hf : ft ci j = 0) (hfin : (T j).2.2.2 = false) (hlink : Cond.fieldLink own index (T j).1 (T j).2.1 (T j).2.2.1 ∈ GW) (hn : narrow (ty0 j) (.int x) = .int x) (hfit : fits (ty0 j) (.int x) = true) (k : G p l e R s m args below meth c nL D cA A Q kc ks AD sh (uI σ b j x) loc (pc + 3) st) : G p l e R s m args below meth c nL D cA A Q kc ks AD sh σ loc pc (.int x :: .ref b :: st) := by
  intro ad H locs ls hAD hP hD hS hl
  subst hN
  have e1 : (wd cA ad sh σ).set b (ad b, .inr (ci, ((List.range (nf ci)).map (fun j => fv ad sh σ b (ft ci j) j)).set j (.int x))) = wd cA ad sh (uI σ b j x) := by
    refine wd_set ?_ ce_oI
    rw [ce_o hk]
    have h1 := fl_set (ad := ad) (sh := sh) (sh' := sh) (σ := σ) (σ' := uI σ b j x) (c := b) (ci := ci) (j := j) hj (fun q hq => by unfold fv; simp only [gI_uI, gJ_uJ, gD_uD, gI_uJ, gI_uD, gJ_uI, gJ_uD, gD_uI, gD_uJ, hq, and_false, if_false])
    rw [show fv ad sh (uI σ b j x) b (ft ci j) j = .int x by rw [hf]; simp only [fv, gI_uI, and_self, if_true]] at h1
    rw [h1]
  refine va_put (rest := st.map (vm ad)) (v := .int x) (tys := tysA cA) X.1 X.2.1 X.2.2.2.2.1 hin ty0 hty hnm X.2.2.2.1 X.2.2.2.2.2.2.1 hP hD hS b ((wd_at hb).trans (by rw [ce_o hk])) hc j hj (X.2.2.2.2.1 _ hlink) (fun _ h => h) hfin (hty j hj) hn hfit (by simp; exact hj) hd (fun H1 locs1 hP1 hD1 hS1 => ?_)
  rw [e1] at hP1 hD1
  exact k ad H1 locs1 ls hAD hP1 hD1 hS1 hl
theorem g_getJ (X : Cx p R s m args meth c cc nL own D cA A) {C : String} {T : u_T} {N b ci index : Nat} (j : Nat) (hd : decode cc pc = .ok (.getfield index, 3)) (hb : b < sh.1) (hk : sh.2.1 b = .inl ci) (hc : cls[ci]? = some (C, T, N)) (hN : nf ci = N) (hin : ∀ w ∈ u_ws C T N, w ∈ GW) (hj : j < N) (hf : ft ci j = 1) (hlink : Cond.fieldLink own index (T j).1 (T j).2.1 (T j).2.2.1 ∈ GW) (k : G p l e R s m args below meth c nL D cA A Q kc ks AD sh σ loc (pc + 3) (.long (gJ σ b j) :: st)) : G p l e R s m args below meth c nL D cA A Q kc ks AD sh σ loc pc (.ref b :: st) := by
  intro ad H locs ls hAD hP hD hS hl
  subst hN
  refine va_get (rest := st.map (vm ad)) (v := .long (gJ σ b j)) (tys := tysA cA) X.1 X.2.1 X.2.2.2.2.1 hin X.2.2.2.1 X.2.2.2.2.2.2.1 hP b ((wd_at hb).trans (by rw [ce_o hk])) hc j hj (X.2.2.2.2.1 _ hlink) (fun _ h => h) ((fl_at hj).trans (by rw [hf]; rfl)) hd (k ad H locs ls hAD hP hD hS hl)
theorem g_putJ (X : Cx p R s m args meth c cc nL own D cA A) {C : String} {T : u_T} {N b ci index : Nat} {ty0 : Nat → FieldType} {x : Int64} (j : Nat) (hd : decode cc pc = .ok (.putfield index, 3)) (hb : b < sh.1) (hk : sh.2.1 b = .inl ci) (hc : cls[ci]? = some (C, T, N)) (hN : nf ci = N) (hin : ∀ w ∈ u_ws C T N, w ∈ GW) (hty : ∀ k, k < N → parseFieldDescriptor (T k).2.2.1 = some (ty0 k)) (hnm : ∀ a, a < N → ∀ b, b < N → a ≠ b → (T a).2.1 ≠ (T b).2.1) (hj : j < N) (hf : ft ci j = 1) (hfin : (T j).2.2.2 = false) (hlink : Cond.fieldLink own index (T j).1 (T j).2.1 (T j).2.2.1 ∈ GW) (hn : narrow (ty0 j) (.long x) = .long x) (hfit : fits (ty0 j) (.long x) = true) (k : G p l e R s m args below meth c nL D cA A Q kc ks AD sh (uJ σ b j x) loc (pc + 3) st) : G p l e R s m args below meth c nL D cA A Q kc ks AD sh σ loc pc (.long x :: .ref b :: st) := by
  intro ad H locs ls hAD hP hD hS hl
  subst hN
  have e1 : (wd cA ad sh σ).set b (ad b, .inr (ci, ((List.range (nf ci)).map (fun j => fv ad sh σ b (ft ci j) j)).set j (.long x))) = wd cA ad sh (uJ σ b j x) := by
    refine wd_set ?_ ce_oJ
    rw [ce_o hk]
    have h1 := fl_set (ad := ad) (sh := sh) (sh' := sh) (σ := σ) (σ' := uJ σ b j x) (c := b) (ci := ci) (j := j) hj (fun q hq => by unfold fv; simp only [gI_uI, gJ_uJ, gD_uD, gI_uJ, gI_uD, gJ_uI, gJ_uD, gD_uI, gD_uJ, hq, and_false, if_false])
    rw [show fv ad sh (uJ σ b j x) b (ft ci j) j = .long x by rw [hf]; simp only [fv, gJ_uJ, and_self, if_true]] at h1
    rw [h1]
  refine va_put (rest := st.map (vm ad)) (v := .long x) (tys := tysA cA) X.1 X.2.1 X.2.2.2.2.1 hin ty0 hty hnm X.2.2.2.1 X.2.2.2.2.2.2.1 hP hD hS b ((wd_at hb).trans (by rw [ce_o hk])) hc j hj (X.2.2.2.2.1 _ hlink) (fun _ h => h) hfin (hty j hj) hn hfit (by simp; exact hj) hd (fun H1 locs1 hP1 hD1 hS1 => ?_)
  rw [e1] at hP1 hD1
  exact k ad H1 locs1 ls hAD hP1 hD1 hS1 hl
theorem g_getD (X : Cx p R s m args meth c cc nL own D cA A) {C : String} {T : u_T} {N b ci index : Nat} (j : Nat) (hd : decode cc pc = .ok (.getfield index, 3)) (hb : b < sh.1) (hk : sh.2.1 b = .inl ci) (hc : cls[ci]? = some (C, T, N)) (hN : nf ci = N) (hin : ∀ w ∈ u_ws C T N, w ∈ GW) (hj : j < N) (hf : ft ci j = 2) (hlink : Cond.fieldLink own index (T j).1 (T j).2.1 (T j).2.2.1 ∈ GW) (k : G p l e R s m args below meth c nL D cA A Q kc ks AD sh σ loc (pc + 3) (.double (gD σ b j) :: st)) : G p l e R s m args below meth c nL D cA A Q kc ks AD sh σ loc pc (.ref b :: st) := by
  intro ad H locs ls hAD hP hD hS hl
  subst hN
  refine va_get (rest := st.map (vm ad)) (v := .double (gD σ b j)) (tys := tysA cA) X.1 X.2.1 X.2.2.2.2.1 hin X.2.2.2.1 X.2.2.2.2.2.2.1 hP b ((wd_at hb).trans (by rw [ce_o hk])) hc j hj (X.2.2.2.2.1 _ hlink) (fun _ h => h) ((fl_at hj).trans (by rw [hf]; rfl)) hd (k ad H locs ls hAD hP hD hS hl)
theorem g_putD (X : Cx p R s m args meth c cc nL own D cA A) {C : String} {T : u_T} {N b ci index : Nat} {ty0 : Nat → FieldType} {x : UInt64} (j : Nat) (hd : decode cc pc = .ok (.putfield index, 3)) (hb : b < sh.1) (hk : sh.2.1 b = .inl ci) (hc : cls[ci]? = some (C, T, N)) (hN : nf ci = N) (hin : ∀ w ∈ u_ws C T N, w ∈ GW) (hty : ∀ k, k < N → parseFieldDescriptor (T k).2.2.1 = some (ty0 k)) (hnm : ∀ a, a < N → ∀ b, b < N → a ≠ b → (T a).2.1 ≠ (T b).2.1) (hj : j < N) (hf : ft ci j = 2) (hfin : (T j).2.2.2 = false) (hlink : Cond.fieldLink own index (T j).1 (T j).2.1 (T j).2.2.1 ∈ GW) (hn : narrow (ty0 j) (.double x) = .double x) (hfit : fits (ty0 j) (.double x) = true) (k : G p l e R s m args below meth c nL D cA A Q kc ks AD sh (uD σ b j x) loc (pc + 3) st) : G p l e R s m args below meth c nL D cA A Q kc ks AD sh σ loc pc (.double x :: .ref b :: st) := by
  intro ad H locs ls hAD hP hD hS hl
  subst hN
  have e1 : (wd cA ad sh σ).set b (ad b, .inr (ci, ((List.range (nf ci)).map (fun j => fv ad sh σ b (ft ci j) j)).set j (.double x))) = wd cA ad sh (uD σ b j x) := by
    refine wd_set ?_ ce_oD
    rw [ce_o hk]
    have h1 := fl_set (ad := ad) (sh := sh) (sh' := sh) (σ := σ) (σ' := uD σ b j x) (c := b) (ci := ci) (j := j) hj (fun q hq => by unfold fv; simp only [gI_uI, gJ_uJ, gD_uD, gI_uJ, gI_uD, gJ_uI, gJ_uD, gD_uI, gD_uJ, hq, and_false, if_false])
    rw [show fv ad sh (uD σ b j x) b (ft ci j) j = .double x by rw [hf]; simp only [fv, gD_uD, and_self, if_true]] at h1
    rw [h1]
  refine va_put (rest := st.map (vm ad)) (v := .double x) (tys := tysA cA) X.1 X.2.1 X.2.2.2.2.1 hin ty0 hty hnm X.2.2.2.1 X.2.2.2.2.2.2.1 hP hD hS b ((wd_at hb).trans (by rw [ce_o hk])) hc j hj (X.2.2.2.2.1 _ hlink) (fun _ h => h) hfin (hty j hj) hn hfit (by simp; exact hj) hd (fun H1 locs1 hP1 hD1 hS1 => ?_)
  rw [e1] at hP1 hD1
  exact k ad H1 locs1 ls hAD hP1 hD1 hS1 hl
theorem g_getR (X : Cx p R s m args meth c cc nL own D cA A) {C : String} {T : u_T} {N b ci index r : Nat} (j : Nat) (hd : decode cc pc = .ok (.getfield index, 3)) (hb : b < sh.1) (hk : sh.2.1 b = .inl ci) (hc : cls[ci]? = some (C, T, N)) (hN : nf ci = N) (hin : ∀ w ∈ u_ws C T N, w ∈ GW) (hj : j < N) (hf : ft ci j = 3) (hr : sh.2.2 b j = some r) (hlink : Cond.fieldLink own index (T j).1 (T j).2.1 (T j).2.2.1 ∈ GW) (k : G p l e R s m args below meth c nL D cA A Q kc ks AD sh σ loc (pc + 3) (.ref r :: st)) : G p l e R s m args below meth c nL D cA A Q kc ks AD sh σ loc pc (.ref b :: st) := by
  intro ad H locs ls hAD hP hD hS hl
  subst hN
  refine va_get (rest := st.map (vm ad)) (v := .ref (ad r)) (tys := tysA cA) X.1 X.2.1 X.2.2.2.2.1 hin X.2.2.2.1 X.2.2.2.2.2.2.1 hP b ((wd_at hb).trans (by rw [ce_o hk])) hc j hj (X.2.2.2.2.1 _ hlink) (fun _ h => h) ((fl_at hj).trans (by rw [hf]; simp only [fv, hr]; rfl)) hd (k ad H locs ls hAD hP hD hS hl)
theorem g_iald (X : Cx p R s m args meth c cc nL own D cA A) {b n : Nat} {i : Int32} (hd : decode cc pc = .ok (.iaload, 1)) (hb : b < sh.1) (hk : sh.2.1 b = .inr (0, n)) (hi : vp_in i n) (k : G p l e R s m args below meth c nL D cA A Q kc ks AD sh σ loc (pc + 1) (.int (gI σ b i.toNatClampNeg) :: st)) : G p l e R s m args below meth c nL D cA A Q kc ks AD sh σ loc pc (.int i :: .ref b :: st) :=
  fun ad H locs ls hAD hP hD hS hl => va_iald (rest := st.map (vm ad)) (tys := tysA cA) X.1 X.2.1 X.2.2.2.2.2.2.1 hP b 0 ((wd_at hb).trans (by rw [ce_i hk])) rfl hi hd (k ad H locs ls hAD hP hD hS hl)
theorem g_iast (X : Cx p R s m args meth c cc nL own D cA A) {b n : Nat} {i : Int32} {x : Int32} (hd : decode cc pc = .ok (.iastore, 1)) (hb : b < sh.1) (hk : sh.2.1 b = .inr (0, n)) (hi : vp_in i n) (k : G p l e R s m args below meth c nL D cA A Q kc ks AD sh (uI σ b i.toNatClampNeg x) loc (pc + 1) st) : G p l e R s m args below meth c nL D cA A Q kc ks AD sh σ loc pc (.int x :: .int i :: .ref b :: st) := by
  intro ad H locs ls hAD hP hD hS hl
  have e1 : (wd cA ad sh σ).set b (ad b, .inl (cA 0, n, .inl (upd (gI σ b) i.toNatClampNeg x))) = wd cA ad sh (uI σ b i.toNatClampNeg x) := by
    refine wd_set ?_ ce_oI
    rw [ce_i hk]
    have h1 : gI (uI σ b i.toNatClampNeg x) b = upd (gI σ b) i.toNatClampNeg x := by
      funext q
      simp only [gI_uI, upd, true_and]
    rw [h1]
  refine va_iast (rest := st.map (vm ad)) (tys := tysA cA) X.1 X.2.1 X.2.2.2.2.2.2.1 hP hD hS b 0 ((wd_at hb).trans (by rw [ce_i hk])) rfl hi hd (fun H1 locs1 hP1 hD1 hS1 => ?_)
  rw [e1] at hP1 hD1
  exact k ad H1 locs1 ls hAD hP1 hD1 hS1 hl
theorem g_ilen (X : Cx p R s m args meth c cc nL own D cA A) {b n : Nat} (v : Int32) (hd : decode cc pc = .ok (.arraylength, 1)) (hb : b < sh.1) (hk : sh.2.1 b = .inr (0, n)) (hv : Int32.ofNat n = v) (k : G p l e R s m args below meth c nL D cA A Q kc ks AD sh σ loc (pc + 1) (.int v :: st)) : G p l e R s m args below meth c nL D cA A Q kc ks AD sh σ loc pc (.ref b :: st) :=
  fun ad H locs ls hAD hP hD hS hl => va_alen (rest := st.map (vm ad)) (tys := tysA cA) X.1 X.2.1 X.2.2.2.2.2.2.1 hP b 0 ((wd_at hb).trans (by rw [ce_i hk])) rfl hv hd (k ad H locs ls hAD hP hD hS hl)
theorem g_lald (X : Cx p R s m args meth c cc nL own D cA A) {b n : Nat} {i : Int32} (hd : decode cc pc = .ok (.laload, 1)) (hb : b < sh.1) (hk : sh.2.1 b = .inr (1, n)) (hi : vp_in i n) (k : G p l e R s m args below meth c nL D cA A Q kc ks AD sh σ loc (pc + 1) (.long (gJ σ b i.toNatClampNeg) :: st)) : G p l e R s m args below meth c nL D cA A Q kc ks AD sh σ loc pc (.int i :: .ref b :: st) :=
  fun ad H locs ls hAD hP hD hS hl => va_lald (rest := st.map (vm ad)) (tys := tysA cA) X.1 X.2.1 X.2.2.2.2.2.2.1 hP b 1 ((wd_at hb).trans (by rw [ce_l hk])) rfl hi hd (k ad H locs ls hAD hP hD hS hl)
theorem g_last (X : Cx p R s m args meth c cc nL own D cA A) {b n : Nat} {i : Int32} {x : Int64} (hd : decode cc pc = .ok (.lastore, 1)) (hb : b < sh.1) (hk : sh.2.1 b = .inr (1, n)) (hi : vp_in i n) (k : G p l e R s m args below meth c nL D cA A Q kc ks AD sh (uJ σ b i.toNatClampNeg x) loc (pc + 1) st) : G p l e R s m args below meth c nL D cA A Q kc ks AD sh σ loc pc (.long x :: .int i :: .ref b :: st) := by
  intro ad H locs ls hAD hP hD hS hl
  have e1 : (wd cA ad sh σ).set b (ad b, .inl (cA 1, n, .inr (.inl (vp_updL (gJ σ b) i.toNatClampNeg x)))) = wd cA ad sh (uJ σ b i.toNatClampNeg x) := by
    refine wd_set ?_ ce_oJ
    rw [ce_l hk]
    have h1 : gJ (uJ σ b i.toNatClampNeg x) b = vp_updL (gJ σ b) i.toNatClampNeg x := by
      funext q
      simp only [gJ_uJ, vp_updL, true_and]
    rw [h1]
  refine va_last (rest := st.map (vm ad)) (tys := tysA cA) X.1 X.2.1 X.2.2.2.2.2.2.1 hP hD hS b 1 ((wd_at hb).trans (by rw [ce_l hk])) rfl hi hd (fun H1 locs1 hP1 hD1 hS1 => ?_)
  rw [e1] at hP1 hD1
  exact k ad H1 locs1 ls hAD hP1 hD1 hS1 hl
theorem g_llen (X : Cx p R s m args meth c cc nL own D cA A) {b n : Nat} (v : Int32) (hd : decode cc pc = .ok (.arraylength, 1)) (hb : b < sh.1) (hk : sh.2.1 b = .inr (1, n)) (hv : Int32.ofNat n = v) (k : G p l e R s m args below meth c nL D cA A Q kc ks AD sh σ loc (pc + 1) (.int v :: st)) : G p l e R s m args below meth c nL D cA A Q kc ks AD sh σ loc pc (.ref b :: st) :=
  fun ad H locs ls hAD hP hD hS hl => va_alen (rest := st.map (vm ad)) (tys := tysA cA) X.1 X.2.1 X.2.2.2.2.2.2.1 hP b 1 ((wd_at hb).trans (by rw [ce_l hk])) rfl hv hd (k ad H locs ls hAD hP hD hS hl)
theorem g_dald (X : Cx p R s m args meth c cc nL own D cA A) {b n : Nat} {i : Int32} (hd : decode cc pc = .ok (.daload, 1)) (hb : b < sh.1) (hk : sh.2.1 b = .inr (2, n)) (hi : vp_in i n) (k : G p l e R s m args below meth c nL D cA A Q kc ks AD sh σ loc (pc + 1) (.double (gD σ b i.toNatClampNeg) :: st)) : G p l e R s m args below meth c nL D cA A Q kc ks AD sh σ loc pc (.int i :: .ref b :: st) :=
  fun ad H locs ls hAD hP hD hS hl => va_dald (rest := st.map (vm ad)) (tys := tysA cA) X.1 X.2.1 X.2.2.2.2.2.2.1 hP b 2 ((wd_at hb).trans (by rw [ce_d hk])) rfl hi hd (k ad H locs ls hAD hP hD hS hl)
theorem g_dast (X : Cx p R s m args meth c cc nL own D cA A) {b n : Nat} {i : Int32} {x : UInt64} (hd : decode cc pc = .ok (.dastore, 1)) (hb : b < sh.1) (hk : sh.2.1 b = .inr (2, n)) (hi : vp_in i n) (k : G p l e R s m args below meth c nL D cA A Q kc ks AD sh (uD σ b i.toNatClampNeg x) loc (pc + 1) st) : G p l e R s m args below meth c nL D cA A Q kc ks AD sh σ loc pc (.double x :: .int i :: .ref b :: st) := by
  intro ad H locs ls hAD hP hD hS hl
  have e1 : (wd cA ad sh σ).set b (ad b, .inl (cA 2, n, .inr (.inr (.inr (.inl (vf_upd (gD σ b) i.toNatClampNeg x)))))) = wd cA ad sh (uD σ b i.toNatClampNeg x) := by
    refine wd_set ?_ ce_oD
    rw [ce_d hk]
    have h1 : gD (uD σ b i.toNatClampNeg x) b = vf_upd (gD σ b) i.toNatClampNeg x := by
      funext q
      simp only [gD_uD, vf_upd, true_and]
    rw [h1]
  refine va_dast (rest := st.map (vm ad)) (tys := tysA cA) X.1 X.2.1 X.2.2.2.2.2.2.1 hP hD hS b 2 ((wd_at hb).trans (by rw [ce_d hk])) rfl hi hd (fun H1 locs1 hP1 hD1 hS1 => ?_)
  rw [e1] at hP1 hD1
  exact k ad H1 locs1 ls hAD hP1 hD1 hS1 hl
theorem g_dlen (X : Cx p R s m args meth c cc nL own D cA A) {b n : Nat} (v : Int32) (hd : decode cc pc = .ok (.arraylength, 1)) (hb : b < sh.1) (hk : sh.2.1 b = .inr (2, n)) (hv : Int32.ofNat n = v) (k : G p l e R s m args below meth c nL D cA A Q kc ks AD sh σ loc (pc + 1) (.int v :: st)) : G p l e R s m args below meth c nL D cA A Q kc ks AD sh σ loc pc (.ref b :: st) :=
  fun ad H locs ls hAD hP hD hS hl => va_alen (rest := st.map (vm ad)) (tys := tysA cA) X.1 X.2.1 X.2.2.2.2.2.2.1 hP b 2 ((wd_at hb).trans (by rw [ce_d hk])) rfl hv hd (k ad H locs ls hAD hP hD hS hl)
theorem g_aald (X : Cx p R s m args meth c cc nL own D cA A) {C : String} {b n r t : Nat} {i : Int32} (hd : decode cc pc = .ok (.aaload, 1)) (hb : b < sh.1) (hk : sh.2.1 b = .inr (t + 3, n)) (ht : (tysA cA)[t + 3]? = some (cA (t + 3), .object C)) (hi : vp_in i n) (hr : sh.2.2 b i.toNatClampNeg = some r) (k : G p l e R s m args below meth c nL D cA A Q kc ks AD sh σ loc (pc + 1) (.ref r :: st)) : G p l e R s m args below meth c nL D cA A Q kc ks AD sh σ loc pc (.int i :: .ref b :: st) := by
  intro ad H locs ls hAD hP hD hS hl
  refine va_aldq (rest := st.map (vm ad)) (tys := tysA cA) X.1 X.2.1 X.2.2.2.2.2.2.1 hP b (t + 3) ((wd_at hb).trans (by rw [ce_q hk])) ht hi hd ?_
  simp only [hr]
  exact k ad H locs ls hAD hP hD hS hl
theorem g_alenq (X : Cx p R s m args meth c cc nL own D cA A) {C : String} {b n t : Nat} (v : Int32) (hd : decode cc pc = .ok (.arraylength, 1)) (hb : b < sh.1) (hk : sh.2.1 b = .inr (t + 3, n)) (ht : (tysA cA)[t + 3]? = some (cA (t + 3), .object C)) (hv : Int32.ofNat n = v) (k : G p l e R s m args below meth c nL D cA A Q kc ks AD sh σ loc (pc + 1) (.int v :: st)) : G p l e R s m args below meth c nL D cA A Q kc ks AD sh σ loc pc (.ref b :: st) :=
  fun ad H locs ls hAD hP hD hS hl => va_alen (rest := st.map (vm ad)) (tys := tysA cA) X.1 X.2.1 X.2.2.2.2.2.2.1 hP b (t + 3) ((wd_at hb).trans (by rw [ce_q hk])) ht hv hd (k ad H locs ls hAD hP hD hS hl)
theorem g_copyi (X : Cx p R s m args meth c cc nL own D cA A) {b0 b1 n0 n1 index : Nat} {sp dp n : Int32} (hd : decode cc pc = .ok (.invokestatic index, 3)) (hlink : Cond.methodLink own index arraycopyName ∈ GW) (hnat : Cond.native arraycopyName ∈ GW) (hstat : Cond.static arraycopyName ∈ GW) (hini : Cond.initialized "java/lang/System" ∈ GW) (hb0 : b0 < sh.1) (hk0 : sh.2.1 b0 = .inr (0, n0)) (hb1 : b1 < sh.1) (hk1 : sh.2.1 b1 = .inr (0, n1)) (h1 : ¬ sp < 0) (h2 : ¬ dp < 0) (h3 : ¬ n < 0) (h4 : sp.toNatClampNeg + n.toNatClampNeg ≤ n0) (h5 : dp.toNatClampNeg + n.toNatClampNeg ≤ n1) (hfr : 1 ≤ R.frames) (hlo : (st.map fun v => v.category).sum + (nativeFrameWords "java/lang/System" "arraycopy" 5 + 11) ≤ R.locals) (k : G p l e R s m args below meth c nL D cA A Q kc ks AD sh (wI σ b1 (va_cpy (gI σ b0) (gI σ b1) sp.toNatClampNeg dp.toNatClampNeg n.toNatClampNeg)) loc (pc + 3) st) : G p l e R s m args below meth c nL D cA A Q kc ks AD sh σ loc pc (.int n :: .int dp :: .ref b1 :: .int sp :: .ref b0 :: st) := by
  intro ad H locs ls hAD hP hD hS hl
  have e1 : (wd cA ad sh σ).set b1 (ad b1, .inl (cA 0, n1, .inl (va_cpy (gI σ b0) (gI σ b1) sp.toNatClampNeg dp.toNatClampNeg n.toNatClampNeg))) = wd cA ad sh (wI σ b1 (va_cpy (gI σ b0) (gI σ b1) sp.toNatClampNeg dp.toNatClampNeg n.toNatClampNeg)) := by
    refine wd_set ?_ ce_wI
    rw [ce_i hk1]
    have h1 : gI (wI σ b1 (va_cpy (gI σ b0) (gI σ b1) sp.toNatClampNeg dp.toNatClampNeg n.toNatClampNeg)) b1 = va_cpy (gI σ b0) (gI σ b1) sp.toNatClampNeg dp.toNatClampNeg n.toNatClampNeg := by
      funext q
      simp only [gI_wI, if_true]
    rw [h1]
  refine va_copyi (rest := st.map (vm ad)) (tys := tysA cA) (f := gI σ b0) X.1 X.2.1 (X.2.2.1.trans hl.1.symm) X.2.2.2.1 (X.2.2.2.2.1 _ hlink) (X.2.2.2.2.1 _ hnat) (X.2.2.2.2.1 _ hstat) (X.2.2.2.2.1 _ hini) X.2.2.2.2.2.2.1 hP hD hS b0 b1 0 0 ((wd_at hb0).trans (by rw [ce_i hk0])) ((wd_at hb1).trans (by rw [ce_i hk1])) rfl rfl rfl h1 h2 h3 h4 h5 (fun _ _ => rfl) hfr (by rw [vm_sum]; exact hlo) hd (fun H1 locs1 hP1 hD1 hS1 => ?_)
  rw [e1] at hP1 hD1
  exact k ad H1 locs1 ls hAD hP1 hD1 hS1 hl
theorem g_copyl (X : Cx p R s m args meth c cc nL own D cA A) {b0 b1 n0 n1 index : Nat} {sp dp n : Int32} (hd : decode cc pc = .ok (.invokestatic index, 3)) (hlink : Cond.methodLink own index arraycopyName ∈ GW) (hnat : Cond.native arraycopyName ∈ GW) (hstat : Cond.static arraycopyName ∈ GW) (hini : Cond.initialized "java/lang/System" ∈ GW) (hb0 : b0 < sh.1) (hk0 : sh.2.1 b0 = .inr (1, n0)) (hb1 : b1 < sh.1) (hk1 : sh.2.1 b1 = .inr (1, n1)) (h1 : ¬ sp < 0) (h2 : ¬ dp < 0) (h3 : ¬ n < 0) (h4 : sp.toNatClampNeg + n.toNatClampNeg ≤ n0) (h5 : dp.toNatClampNeg + n.toNatClampNeg ≤ n1) (hfr : 1 ≤ R.frames) (hlo : (st.map fun v => v.category).sum + (nativeFrameWords "java/lang/System" "arraycopy" 5 + 11) ≤ R.locals) (k : G p l e R s m args below meth c nL D cA A Q kc ks AD sh (wJ σ b1 (va_cpy (gJ σ b0) (gJ σ b1) sp.toNatClampNeg dp.toNatClampNeg n.toNatClampNeg)) loc (pc + 3) st) : G p l e R s m args below meth c nL D cA A Q kc ks AD sh σ loc pc (.int n :: .int dp :: .ref b1 :: .int sp :: .ref b0 :: st) := by
  intro ad H locs ls hAD hP hD hS hl
  have e1 : (wd cA ad sh σ).set b1 (ad b1, .inl (cA 1, n1, .inr (.inl (va_cpy (gJ σ b0) (gJ σ b1) sp.toNatClampNeg dp.toNatClampNeg n.toNatClampNeg)))) = wd cA ad sh (wJ σ b1 (va_cpy (gJ σ b0) (gJ σ b1) sp.toNatClampNeg dp.toNatClampNeg n.toNatClampNeg)) := by
    refine wd_set ?_ ce_wJ
    rw [ce_l hk1]
    have h1 : gJ (wJ σ b1 (va_cpy (gJ σ b0) (gJ σ b1) sp.toNatClampNeg dp.toNatClampNeg n.toNatClampNeg)) b1 = va_cpy (gJ σ b0) (gJ σ b1) sp.toNatClampNeg dp.toNatClampNeg n.toNatClampNeg := by
      funext q
      simp only [gJ_wJ, if_true]
    rw [h1]
  refine va_copyl (rest := st.map (vm ad)) (tys := tysA cA) (f := gJ σ b0) X.1 X.2.1 (X.2.2.1.trans hl.1.symm) X.2.2.2.1 (X.2.2.2.2.1 _ hlink) (X.2.2.2.2.1 _ hnat) (X.2.2.2.2.1 _ hstat) (X.2.2.2.2.1 _ hini) X.2.2.2.2.2.2.1 hP hD hS b0 b1 1 1 ((wd_at hb0).trans (by rw [ce_l hk0])) ((wd_at hb1).trans (by rw [ce_l hk1])) rfl rfl rfl h1 h2 h3 h4 h5 (fun _ _ => rfl) hfr (by rw [vm_sum]; exact hlo) hd (fun H1 locs1 hP1 hD1 hS1 => ?_)
  rw [e1] at hP1 hD1
  exact k ad H1 locs1 ls hAD hP1 hD1 hS1 hl
theorem g_mmax (X : Cx p R s m args meth c cc nL own D cA A) {index : Nat} {x y : Int32} (hd : decode cc pc = .ok (.invokestatic index, 3)) (hlink : Cond.methodLink own index Lib.Math.max.name ∈ GW) (hstat : Cond.static Lib.Math.max.name ∈ GW) (hini : Cond.initialized "java/lang/Math" ∈ GW) (hcode : Cond.code Lib.Math.max.name Lib.Math.max.code 2 (some .int) ∈ GW) (hfr : 1 ≤ R.frames) (hlo : (st.map fun v => v.category).sum + 13 ≤ R.locals) (hkc : kc ≤ R.cells) (hks : ks ≤ R.slots) (k : G p l e R s m args below meth c nL D cA A Q kc ks AD sh σ loc (pc + 3) (.int (if x < y then y else x) :: st)) : G p l e R s m args below meth c nL D cA A Q kc ks AD sh σ loc pc (.int y :: .int x :: st) :=
  fun ad H locs ls hAD hP hD hS hl => va_mmax (rest := st.map (vm ad)) X.1 X.2.1 (X.2.2.1.trans hl.1.symm) X.2.2.2.1 (X.2.2.2.2.1 _ hlink) (X.2.2.2.2.1 _ hstat) (X.2.2.2.2.1 _ hini) (X.2.2.2.2.1 _ hcode) hfr (by rw [vm_sum]; exact hlo) hkc hks hd (k ad H locs ls hAD hP hD hS hl)
theorem g_mmin (X : Cx p R s m args meth c cc nL own D cA A) {index : Nat} {x y : Int32} (hd : decode cc pc = .ok (.invokestatic index, 3)) (hlink : Cond.methodLink own index Lib.Math.min.name ∈ GW) (hstat : Cond.static Lib.Math.min.name ∈ GW) (hini : Cond.initialized "java/lang/Math" ∈ GW) (hcode : Cond.code Lib.Math.min.name Lib.Math.min.code 2 (some .int) ∈ GW) (hfr : 1 ≤ R.frames) (hlo : (st.map fun v => v.category).sum + 13 ≤ R.locals) (hkc : kc ≤ R.cells) (hks : ks ≤ R.slots) (k : G p l e R s m args below meth c nL D cA A Q kc ks AD sh σ loc (pc + 3) (.int (if y < x then y else x) :: st)) : G p l e R s m args below meth c nL D cA A Q kc ks AD sh σ loc pc (.int y :: .int x :: st) :=
  fun ad H locs ls hAD hP hD hS hl => va_mmin (rest := st.map (vm ad)) X.1 X.2.1 (X.2.2.1.trans hl.1.symm) X.2.2.2.1 (X.2.2.2.2.1 _ hlink) (X.2.2.2.2.1 _ hstat) (X.2.2.2.2.1 _ hini) (X.2.2.2.2.1 _ hcode) hfr (by rw [vm_sum]; exact hlo) hkc hks hd (k ad H locs ls hAD hP hD hS hl)
theorem g_mabs (X : Cx p R s m args meth c cc nL own D cA A) {index : Nat} {x : Int32} (hd : decode cc pc = .ok (.invokestatic index, 3)) (hlink : Cond.methodLink own index Lib.Math.abs.name ∈ GW) (hstat : Cond.static Lib.Math.abs.name ∈ GW) (hini : Cond.initialized "java/lang/Math" ∈ GW) (hcode : Cond.code Lib.Math.abs.name Lib.Math.abs.code 1 (some .int) ∈ GW) (hfr : 1 ≤ R.frames) (hlo : (st.map fun v => v.category).sum + 13 ≤ R.locals) (hkc : kc ≤ R.cells) (hks : ks ≤ R.slots) (k : G p l e R s m args below meth c nL D cA A Q kc ks AD sh σ loc (pc + 3) (.int (if 0 ≤ x then x else 0 - x) :: st)) : G p l e R s m args below meth c nL D cA A Q kc ks AD sh σ loc pc (.int x :: st) :=
  fun ad H locs ls hAD hP hD hS hl => va_mabs (rest := st.map (vm ad)) X.1 X.2.1 (X.2.2.1.trans hl.1.symm) X.2.2.2.1 (X.2.2.2.2.1 _ hlink) (X.2.2.2.2.1 _ hstat) (X.2.2.2.2.1 _ hini) (X.2.2.2.2.1 _ hcode) hfr (by rw [vm_sum]; exact hlo) hkc hks hd (k ad H locs ls hAD hP hD hS hl)
theorem g_mabsl (X : Cx p R s m args meth c cc nL own D cA A) {index : Nat} {x : Int64} (hd : decode cc pc = .ok (.invokestatic index, 3)) (hlink : Cond.methodLink own index Lib.MathLoose.abs_long.x ∈ GW) (hstat : Cond.static Lib.MathLoose.abs_long.x ∈ GW) (hini : Cond.initialized "java/lang/Math" ∈ GW) (hcode : Cond.code Lib.MathLoose.abs_long.x Lib.MathLoose.abs_long.code 2 (some .long) ∈ GW) (hfr : 1 ≤ R.frames) (hlo : (st.map fun v => v.category).sum + 13 ≤ R.locals) (hkc : kc ≤ R.cells) (hks : ks ≤ R.slots) (k : G p l e R s m args below meth c nL D cA A Q kc ks AD sh σ loc (pc + 3) (.long (if 0 < x then x else -x) :: st)) : G p l e R s m args below meth c nL D cA A Q kc ks AD sh σ loc pc (.long x :: st) :=
  fun ad H locs ls hAD hP hD hS hl => va_mabs_long (rest := st.map (vm ad)) X.1 X.2.1 (X.2.2.1.trans hl.1.symm) X.2.2.2.1 (X.2.2.2.2.1 _ hlink) (X.2.2.2.2.1 _ hstat) (X.2.2.2.2.1 _ hini) (X.2.2.2.2.1 _ hcode) hfr (by rw [vm_sum]; exact hlo) hkc hks hd (k ad H locs ls hAD hP hD hS hl)
end GROWS
end
section
/-! contracts over the pure picture, and calls -/
def AW (ad : Nat → Nat) (n sz : Nat) : Nat → Prop := fun q => (∃ c, c < n ∧ q = ad c) ∨ sz ≤ q
def PcW (D : va_G) (cA : Nat → ClassId) (ad : Nat → Nat) (sh : SH) (sz : Nat) (av : List Value) (σ : St) : Array Value → State → Prop := va_Pc (av.map (vm ad)) (fun U => U.heap.size = sz ∧ va_P D cls (wd cA ad sh σ) U.heap ∧ va_K D cls (tysA cA) U ∧ (∀ w ∈ NW, va_Nw w U) ∧ va_D (fun _ => True) (wd cA ad sh σ))
def EndW (D : va_G) (cA : Nat → ClassId) (ad : Nat → Nat) (sh : SH) (σ' : St) (t : State) : Prop := va_P D cls (wd cA ad sh σ') t.heap
theorem PcW.blind {D : va_G} {cA : Nat → ClassId} {ad : Nat → Nat} {sh : SH} {sz : Nat} {av : List Value} {σ : St} : FrameBlind (PcW D cA ad sh sz av σ) := by
  intro a U g mk h
  obtain ⟨h1, h2, h3, h4, h5, h6⟩ := h
  exact ⟨h1, h2, h3, va_K.moved (u := U) (U := U.calling g mk a) (Vm.Alike.refl U.vm) h4, nw_call h5, h6⟩
theorem lm_args (ad : Nat → Nat) (av : List Value) : ∀ i, lv_args i (av.map (vm ad)) = lm ad (lv_args i av) := by
  induction av with
  | nil => intro i; rfl
  | cons v t ih =>
    intro i
    show (i, vm ad v) :: lv_args (if (vm ad v).category = 2 then i + 2 else i + 1) (t.map (vm ad)) = (i, vm ad v) :: lm ad (lv_args (if v.category = 2 then i + 2 else i + 1) t)
    rw [vm_cat, ih]
theorem sl_len (ad : Nat → Nat) (av : List Value) : (lg_sl (av.map (vm ad))).length = (lg_sl av).length := by
  induction av with
  | nil => rfl
  | cons v t ih =>
    have h1 : (lg_sl ((v :: t).map (vm ad))).length = (if (vm ad v).category = 2 then [Slot.val (vm ad v), Slot.second] else [Slot.val (vm ad v)]).length + (lg_sl (t.map (vm ad))).length := by simp [lg_sl]
    have h2 : (lg_sl (v :: t)).length = (if v.category = 2 then [Slot.val v, Slot.second] else [Slot.val v]).length + (lg_sl t).length := by simp [lg_sl]
    rw [h1, h2, ih, vm_cat]
    split <;> rfl
def CtI (l : Launch) (y : MethodName) (b : ByteArray) (n : Nat) (ret : Option FieldType) (rm : Room) (D : va_G) (cA : Nat → ClassId) (sh : SH) (av : List Value) (σ : St) (Qp : Int32 → St → Prop) : Prop := ∀ ad sz, Met l y (wsy y b n ret) rm (PcW D cA ad sh sz av σ) (va_Qi Qp (EndW D cA ad sh) (AW ad sh.1 sz)) 0 0 (AW ad sh.1 sz)
theorem CtI.of {l : Launch} {y : MethodName} {cc : ByteArray} {n : Nat} {ret : Option FieldType} {rm : Room} {D : va_G} {cA : Nat → ClassId} {sh : SH} {av : List Value} {σ : St} {Qp : Int32 → St → Prop} {own : String} (hown : y.cls = own) (hpl : plainName y.cls = true) (loc : List (Nat × Value)) (hloc : lv_args 0 av = loc) (hlen : (lg_sl av).length ≤ n)
    (body : ∀ (p : Program) (e : Env) (s : State) (m : MethodId) (args : Array Value) (below : List Frame) (meth : Method) (c : Code) (ad0 : Nat → Nat) (A : Nat → Prop), Cx p rm s m args meth c cc n own D cA A → meth.sig.returnType = ret → G p l e rm s m args below meth c n D cA A (MQ below (va_Qi Qp (EndW D cA ad0 sh) A) args s 0 0 A) 0 0 (fun ad => ad = ad0) sh σ loc 0 []) : CtI l y cc n ret rm D cA sh av σ Qp := by
  subst hown
  intro ad sz
  refine Met.ofW (cc := cc) (maxL := n) (ret := ret) hpl rfl ?_
  intro p e s m args below meth c s₁ B hml hv
  obtain ⟨rfl, hsz, hP, hK, hN, hD0⟩ := hv
  subst hsz
  have hts := atoms_spec (ws := wsy y cc n ret) B.pre
  have X : Cx p rm s m ((av.map (vm ad)).toArray) meth c cc n y.cls D cA (AW ad sh.1 s.heap.size) := ⟨B.exec, B.bytes, hml, findClass_of_methodNamed B.named, fun w hw => hts w (List.mem_cons_of_mem _ hw), B.notSynchronized, hK, hN, fun q h => Or.inr h, Nat.le_add_left _ _⟩
  have hk := body p e s m _ below meth c ad (AW ad sh.1 s.heap.size) X B.returns
  rw [lg_entry_eq]
  have hD : va_D (AW ad sh.1 s.heap.size) (wd cA ad sh σ) := ⟨hD0.1, fun k q hq => by obtain ⟨lk, rfl⟩ := wd_inv hq; exact Or.inl ⟨k, lk, rfl⟩⟩
  refine hk ad s.heap [] _ rfl hP hD va_S.rf ?_
  have h1 := lv_entry (av.map (vm ad)) (n := n) (by rw [sl_len]; exact hlen)
  rw [lm_args, hloc] at h1
  exact h1
def CtL (l : Launch) (y : MethodName) (b : ByteArray) (n : Nat) (ret : Option FieldType) (rm : Room) (D : va_G) (cA : Nat → ClassId) (sh : SH) (av : List Value) (σ : St) (Qp : Int64 → St → Prop) : Prop := ∀ ad sz, Met l y (wsy y b n ret) rm (PcW D cA ad sh sz av σ) (va_Ql Qp (EndW D cA ad sh) (AW ad sh.1 sz)) 0 0 (AW ad sh.1 sz)
theorem CtL.of {l : Launch} {y : MethodName} {cc : ByteArray} {n : Nat} {ret : Option FieldType} {rm : Room} {D : va_G} {cA : Nat → ClassId} {sh : SH} {av : List Value} {σ : St} {Qp : Int64 → St → Prop} {own : String} (hown : y.cls = own) (hpl : plainName y.cls = true) (loc : List (Nat × Value)) (hloc : lv_args 0 av = loc) (hlen : (lg_sl av).length ≤ n)
    (body : ∀ (p : Program) (e : Env) (s : State) (m : MethodId) (args : Array Value) (below : List Frame) (meth : Method) (c : Code) (ad0 : Nat → Nat) (A : Nat → Prop), Cx p rm s m args meth c cc n own D cA A → meth.sig.returnType = ret → G p l e rm s m args below meth c n D cA A (MQ below (va_Ql Qp (EndW D cA ad0 sh) A) args s 0 0 A) 0 0 (fun ad => ad = ad0) sh σ loc 0 []) : CtL l y cc n ret rm D cA sh av σ Qp := by
  subst hown
  intro ad sz
  refine Met.ofW (cc := cc) (maxL := n) (ret := ret) hpl rfl ?_
  intro p e s m args below meth c s₁ B hml hv
  obtain ⟨rfl, hsz, hP, hK, hN, hD0⟩ := hv
  subst hsz
  have hts := atoms_spec (ws := wsy y cc n ret) B.pre
  have X : Cx p rm s m ((av.map (vm ad)).toArray) meth c cc n y.cls D cA (AW ad sh.1 s.heap.size) := ⟨B.exec, B.bytes, hml, findClass_of_methodNamed B.named, fun w hw => hts w (List.mem_cons_of_mem _ hw), B.notSynchronized, hK, hN, fun q h => Or.inr h, Nat.le_add_left _ _⟩
  have hk := body p e s m _ below meth c ad (AW ad sh.1 s.heap.size) X B.returns
  rw [lg_entry_eq]
  have hD : va_D (AW ad sh.1 s.heap.size) (wd cA ad sh σ) := ⟨hD0.1, fun k q hq => by obtain ⟨lk, rfl⟩ := wd_inv hq; exact Or.inl ⟨k, lk, rfl⟩⟩
  refine hk ad s.heap [] _ rfl hP hD va_S.rf ?_
  have h1 := lv_entry (av.map (vm ad)) (n := n) (by rw [sl_len]; exact hlen)
  rw [lm_args, hloc] at h1
  exact h1
def CtD (l : Launch) (y : MethodName) (b : ByteArray) (n : Nat) (ret : Option FieldType) (rm : Room) (D : va_G) (cA : Nat → ClassId) (sh : SH) (av : List Value) (σ : St) (Qp : UInt64 → St → Prop) : Prop := ∀ ad sz, Met l y (wsy y b n ret) rm (PcW D cA ad sh sz av σ) (va_Qd Qp (EndW D cA ad sh) (AW ad sh.1 sz)) 0 0 (AW ad sh.1 sz)
theorem CtD.of {l : Launch} {y : MethodName} {cc : ByteArray} {n : Nat} {ret : Option FieldType} {rm : Room} {D : va_G} {cA : Nat → ClassId} {sh : SH} {av : List Value} {σ : St} {Qp : UInt64 → St → Prop} {own : String} (hown : y.cls = own) (hpl : plainName y.cls = true) (loc : List (Nat × Value)) (hloc : lv_args 0 av = loc) (hlen : (lg_sl av).length ≤ n)
    (body : ∀ (p : Program) (e : Env) (s : State) (m : MethodId) (args : Array Value) (below : List Frame) (meth : Method) (c : Code) (ad0 : Nat → Nat) (A : Nat → Prop), Cx p rm s m args meth c cc n own D cA A → meth.sig.returnType = ret → G p l e rm s m args below meth c n D cA A (MQ below (va_Qd Qp (EndW D cA ad0 sh) A) args s 0 0 A) 0 0 (fun ad => ad = ad0) sh σ loc 0 []) : CtD l y cc n ret rm D cA sh av σ Qp := by
  subst hown
  intro ad sz
  refine Met.ofW (cc := cc) (maxL := n) (ret := ret) hpl rfl ?_
  intro p e s m args below meth c s₁ B hml hv
  obtain ⟨rfl, hsz, hP, hK, hN, hD0⟩ := hv
  subst hsz
  have hts := atoms_spec (ws := wsy y cc n ret) B.pre
  have X : Cx p rm s m ((av.map (vm ad)).toArray) meth c cc n y.cls D cA (AW ad sh.1 s.heap.size) := ⟨B.exec, B.bytes, hml, findClass_of_methodNamed B.named, fun w hw => hts w (List.mem_cons_of_mem _ hw), B.notSynchronized, hK, hN, fun q h => Or.inr h, Nat.le_add_left _ _⟩
  have hk := body p e s m _ below meth c ad (AW ad sh.1 s.heap.size) X B.returns
  rw [lg_entry_eq]
  have hD : va_D (AW ad sh.1 s.heap.size) (wd cA ad sh σ) := ⟨hD0.1, fun k q hq => by obtain ⟨lk, rfl⟩ := wd_inv hq; exact Or.inl ⟨k, lk, rfl⟩⟩
  refine hk ad s.heap [] _ rfl hP hD va_S.rf ?_
  have h1 := lv_entry (av.map (vm ad)) (n := n) (by rw [sl_len]; exact hlen)
  rw [lm_args, hloc] at h1
  exact h1
def CtV (l : Launch) (y : MethodName) (b : ByteArray) (n : Nat) (ret : Option FieldType) (rm : Room) (D : va_G) (cA : Nat → ClassId) (sh : SH) (av : List Value) (σ : St) (Qp : St → Prop) : Prop := ∀ ad sz, Met l y (wsy y b n ret) rm (PcW D cA ad sh sz av σ) (va_Qv Qp (EndW D cA ad sh) (AW ad sh.1 sz)) 0 0 (AW ad sh.1 sz)
theorem CtV.of {l : Launch} {y : MethodName} {cc : ByteArray} {n : Nat} {ret : Option FieldType} {rm : Room} {D : va_G} {cA : Nat → ClassId} {sh : SH} {av : List Value} {σ : St} {Qp : St → Prop} {own : String} (hown : y.cls = own) (hpl : plainName y.cls = true) (loc : List (Nat × Value)) (hloc : lv_args 0 av = loc) (hlen : (lg_sl av).length ≤ n)
    (body : ∀ (p : Program) (e : Env) (s : State) (m : MethodId) (args : Array Value) (below : List Frame) (meth : Method) (c : Code) (ad0 : Nat → Nat) (A : Nat → Prop), Cx p rm s m args meth c cc n own D cA A → meth.sig.returnType = ret → G p l e rm s m args below meth c n D cA A (MQ below (va_Qv Qp (EndW D cA ad0 sh) A) args s 0 0 A) 0 0 (fun ad => ad = ad0) sh σ loc 0 []) : CtV l y cc n ret rm D cA sh av σ Qp := by
  subst hown
  intro ad sz
  refine Met.ofW (cc := cc) (maxL := n) (ret := ret) hpl rfl ?_
  intro p e s m args below meth c s₁ B hml hv
  obtain ⟨rfl, hsz, hP, hK, hN, hD0⟩ := hv
  subst hsz
  have hts := atoms_spec (ws := wsy y cc n ret) B.pre
  have X : Cx p rm s m ((av.map (vm ad)).toArray) meth c cc n y.cls D cA (AW ad sh.1 s.heap.size) := ⟨B.exec, B.bytes, hml, findClass_of_methodNamed B.named, fun w hw => hts w (List.mem_cons_of_mem _ hw), B.notSynchronized, hK, hN, fun q h => Or.inr h, Nat.le_add_left _ _⟩
  have hk := body p e s m _ below meth c ad (AW ad sh.1 s.heap.size) X B.returns
  rw [lg_entry_eq]
  have hD : va_D (AW ad sh.1 s.heap.size) (wd cA ad sh σ) := ⟨hD0.1, fun k q hq => by obtain ⟨lk, rfl⟩ := wd_inv hq; exact Or.inl ⟨k, lk, rfl⟩⟩
  refine hk ad s.heap [] _ rfl hP hD va_S.rf ?_
  have h1 := lv_entry (av.map (vm ad)) (n := n) (by rw [sl_len]; exact hlen)
  rw [lm_args, hloc] at h1
  exact h1
section GCALL
variable {p : Program} {l : Launch} {e : Env} {R : Room} {s : State} {m : MethodId} {args : Array Value} {below : List Frame} {meth : Method} {c : Code} {cc : ByteArray} {nL : Nat} {own : String} {D : va_G} {cA : Nat → ClassId} {A : Nat → Prop} {Q : State → Prop} {kc ks : Nat} {AD : (Nat → Nat) → Prop} {sh : SH} {σ : St} {loc : List (Nat × Value)} {pc : Nat} {st : List Value}
theorem aw_in {ad : Nat → Nat} {H0 H : Heap} {locs : List Loc} (hA : ∀ q, H0.size ≤ q → A q) (hD : va_D A (wd cA ad sh σ)) (hS : va_S A H0 H locs) : ∀ q, AW ad sh.1 H.size q → A q := by
  intro q h
  rcases h with ⟨k, hk, rfl⟩ | h
  · exact hD.2 k (ad k, ce cA ad sh σ k) (wd_at hk)
  · exact hA q (Nat.le_trans hS.1 h)
theorem pre_in (X : Cx p R s m args meth c cc nL own D cA A) {ad : Nat → Nat} {H : Heap} {av : List Value} (hP : va_P D cls (wd cA ad sh σ) H) (hD : va_D A (wd cA ad sh σ)) : ∀ U : State, U.heap = H → s.WarmedH U.vm → PcW D cA ad sh H.size av σ (av.map (vm ad)).toArray U := fun U hU hW =>
  ⟨rfl, by rw [hU], by rw [hU]; exact hP, va_K.moved hW.alike X.2.2.2.2.2.2.1, nw_warm hW X.2.2.2.2.2.2.2.1, hD.weaken (fun _ _ _ _ => trivial)⟩
theorem g_callVI (X : Cx p R s m args meth c cc nL own D cA A) {y : MethodName} {bts : ByteArray} {maxL : Nat} {ret : Option FieldType} {rm : Room} {C : String} {T : u_T} {N b0 ci index n : Nat} {Qp : Int32 → St → Prop} (As rest : List Value) (hd : decode cc pc = .ok (.invokevirtual index, 3)) (hM : CtI l y bts maxL ret rm D cA sh (.ref b0 :: As) σ Qp) (h1 : Cond.methodLink own index y ∈ GW) (h2 : Cond.instanceMethod y ∈ GW) (h3 : Cond.selects C y y ∈ GW) (h4 : Cond.initialized C ∈ GW) (h5 : Cond.code y bts maxL ret ∈ GW) (hb : b0 < sh.1) (hk : sh.2.1 b0 = .inl ci) (hc : cls[ci]? = some (C, T, N)) (hy : y.cls = C ∧ y.cls ≠ "java/lang/invoke/MethodHandle" ∧ y.cls ≠ "java/lang/invoke/VarHandle" ∧ (parseMethodDescriptor y.desc).map (fun d => d.parameters.length) = some n) (hn : As.length = n) (hst : st = As.reverse ++ .ref b0 :: rest) (hroom : (rest.map fun v => v.category).sum ≤ 8) (hrc : rm.cells = 0) (hrs : rm.slots = 0) (hR : rm.frames + 1 ≤ R.frames ∧ 8 + (maxL + 11) + rm.locals ≤ R.locals) (hkc : kc ≤ R.cells) (hks : ks ≤ R.slots)
    (kk : ∀ (r : Int32) (σ1 : St), Qp r σ1 → G p l e R s m args below meth c nL D cA A Q kc ks AD sh σ1 loc (pc + 3) (.int r :: rest)) : G p l e R s m args below meth c nL D cA A Q kc ks AD sh σ loc pc st := by
  intro ad H locs ls hAD hP hD hS hl
  subst hst
  refine va_calli (va_runV (As := As.map (vm ad)) (b := ad b0) (rest := rest.map (vm ad)) ⟨X.1, X.2.1, X.2.2.1, X.2.2.2.1, X.2.2.2.2.1⟩ (hM ad H.size) (cwV n X.2.2.2.2.1 (gw_wsV h1 h2 h3 h4 h5) rfl hrc hrs hy hR) ⟨PcW.blind, va_recv X.2.2.2.2.2.2.1 hP hc ((wd_at hb).trans (by rw [ce_o hk])), pre_in X hP hD⟩ rfl (by rw [List.length_map]; exact hn) hl.1 (by show ((As.reverse ++ Value.ref b0 :: rest).map (vm ad)) = _; simp [List.map_append, List.map_reverse, vm]) (lv_room (by rw [vm_sum]; exact hroom)) hd ⟨hkc, hks⟩) hS (fun q _ h => aw_in X.2.2.2.2.2.2.2.2.1 hD hS q h) (aw_in X.2.2.2.2.2.2.2.2.1 hD hS) (fun r u t H1 locs1 ht hvm hp hb hz hk2 hS1 => kk r u hp ad H1 locs1 ls hAD (by rw [← ht]; exact hb) (wd_D _ _ hD) hS1 hl)
theorem g_callSI (X : Cx p R s m args meth c cc nL own D cA A) {y : MethodName} {bts : ByteArray} {maxL : Nat} {ret : Option FieldType} {rm : Room} {index n : Nat} {Qp : Int32 → St → Prop} (As rest : List Value) (hd : decode cc pc = .ok (.invokestatic index, 3)) (hM : CtI l y bts maxL ret rm D cA sh As σ Qp) (h1 : Cond.methodLink own index y ∈ GW) (h2 : Cond.static y ∈ GW) (h4 : Cond.initialized y.cls ∈ GW) (h5 : Cond.code y bts maxL ret ∈ GW) (hy : y.cls ≠ "java/lang/invoke/MethodHandle" ∧ y.cls ≠ "java/lang/invoke/VarHandle" ∧ (parseMethodDescriptor y.desc).map (fun d => d.parameters.length) = some n) (hn : As.length = n) (hst : st = As.reverse ++ rest) (hroom : (rest.map fun v => v.category).sum ≤ 8) (hrc : rm.cells = 0) (hrs : rm.slots = 0) (hR : rm.frames + 1 ≤ R.frames ∧ 8 + (maxL + 11) + rm.locals ≤ R.locals) (hkc : kc ≤ R.cells) (hks : ks ≤ R.slots)
    (kk : ∀ (r : Int32) (σ1 : St), Qp r σ1 → G p l e R s m args below meth c nL D cA A Q kc ks AD sh σ1 loc (pc + 3) (.int r :: rest)) : G p l e R s m args below meth c nL D cA A Q kc ks AD sh σ loc pc st := by
  intro ad H locs ls hAD hP hD hS hl
  subst hst
  refine va_calli (va_runS (As := As.map (vm ad)) (rest := rest.map (vm ad)) ⟨X.1, X.2.1, X.2.2.1, X.2.2.2.1, X.2.2.2.2.1⟩ (hM ad H.size) (va_cwS n X.2.2.2.2.1 (gw_wsS h1 h2 h4 h5) rfl hrc hrs hy hR) ⟨PcW.blind, pre_in X hP hD⟩ rfl (by rw [List.length_map]; exact hn) hl.1 (by show ((As.reverse ++ rest).map (vm ad)) = _; simp [List.map_append, List.map_reverse]) (lv_room (by rw [vm_sum]; exact hroom)) hd ⟨hkc, hks⟩) hS (fun q _ h => aw_in X.2.2.2.2.2.2.2.2.1 hD hS q h) (aw_in X.2.2.2.2.2.2.2.2.1 hD hS) (fun r u t H1 locs1 ht hvm hp hb hz hk2 hS1 => kk r u hp ad H1 locs1 ls hAD (by rw [← ht]; exact hb) (wd_D _ _ hD) hS1 hl)
theorem g_callNI (X : Cx p R s m args meth c cc nL own D cA A) {y : MethodName} {bts : ByteArray} {maxL : Nat} {ret : Option FieldType} {rm : Room} {host : String} {index n : Nat} {Qp : Int32 → St → Prop} (As rest : List Value) (hd : decode cc pc = .ok (.invokestatic index, 3)) (hM : CtI l y bts maxL ret rm D cA sh As σ Qp) (h1 : Cond.methodLinkNest own index y host ∈ NW) (h2 : Cond.static y ∈ GW) (h4 : Cond.initialized y.cls ∈ GW) (h5 : Cond.code y bts maxL ret ∈ GW) (hy : y.cls ≠ "java/lang/invoke/MethodHandle" ∧ y.cls ≠ "java/lang/invoke/VarHandle" ∧ (parseMethodDescriptor y.desc).map (fun d => d.parameters.length) = some n) (hn : As.length = n) (hst : st = As.reverse ++ rest) (hroom : (rest.map fun v => v.category).sum ≤ 8) (hrc : rm.cells = 0) (hrs : rm.slots = 0) (hR : rm.frames + 1 ≤ R.frames ∧ 8 + (maxL + 11) + rm.locals ≤ R.locals) (hkc : kc ≤ R.cells) (hks : ks ≤ R.slots)
    (kk : ∀ (r : Int32) (σ1 : St), Qp r σ1 → G p l e R s m args below meth c nL D cA A Q kc ks AD sh σ1 loc (pc + 3) (.int r :: rest)) : G p l e R s m args below meth c nL D cA A Q kc ks AD sh σ loc pc st := by
  intro ad H locs ls hAD hP hD hS hl
  subst hst
  refine va_calli (va_runSN (As := As.map (vm ad)) (rest := rest.map (vm ad)) ⟨X.1, X.2.1, X.2.2.1, X.2.2.2.1, X.2.2.2.2.1⟩ (hM ad H.size) ⟨va_cnB n X.2.2.2.2.1 (gw_wsy h5) rfl hrc hrs (X.2.2.2.2.2.2.2.1 _ h1) (X.2.2.2.2.1 _ h4) hy hR, X.2.2.2.2.1 _ h2, trivial⟩ ⟨PcW.blind, pre_in X hP hD⟩ rfl (by rw [List.length_map]; exact hn) hl.1 (by show ((As.reverse ++ rest).map (vm ad)) = _; simp [List.map_append, List.map_reverse]) (lv_room (by rw [vm_sum]; exact hroom)) hd ⟨hkc, hks⟩) hS (fun q _ h => aw_in X.2.2.2.2.2.2.2.2.1 hD hS q h) (aw_in X.2.2.2.2.2.2.2.2.1 hD hS) (fun r u t H1 locs1 ht hvm hp hb hz hk2 hS1 => kk r u hp ad H1 locs1 ls hAD (by rw [← ht]; exact hb) (wd_D _ _ hD) hS1 hl)
theorem g_callVL (X : Cx p R s m args meth c cc nL own D cA A) {y : MethodName} {bts : ByteArray} {maxL : Nat} {ret : Option FieldType} {rm : Room} {C : String} {T : u_T} {N b0 ci index n : Nat} {Qp : Int64 → St → Prop} (As rest : List Value) (hd : decode cc pc = .ok (.invokevirtual index, 3)) (hM : CtL l y bts maxL ret rm D cA sh (.ref b0 :: As) σ Qp) (h1 : Cond.methodLink own index y ∈ GW) (h2 : Cond.instanceMethod y ∈ GW) (h3 : Cond.selects C y y ∈ GW) (h4 : Cond.initialized C ∈ GW) (h5 : Cond.code y bts maxL ret ∈ GW) (hb : b0 < sh.1) (hk : sh.2.1 b0 = .inl ci) (hc : cls[ci]? = some (C, T, N)) (hy : y.cls = C ∧ y.cls ≠ "java/lang/invoke/MethodHandle" ∧ y.cls ≠ "java/lang/invoke/VarHandle" ∧ (parseMethodDescriptor y.desc).map (fun d => d.parameters.length) = some n) (hn : As.length = n) (hst : st = As.reverse ++ .ref b0 :: rest) (hroom : (rest.map fun v => v.category).sum ≤ 8) (hrc : rm.cells = 0) (hrs : rm.slots = 0) (hR : rm.frames + 1 ≤ R.frames ∧ 8 + (maxL + 11) + rm.locals ≤ R.locals) (hkc : kc ≤ R.cells) (hks : ks ≤ R.slots)
    (kk : ∀ (r : Int64) (σ1 : St), Qp r σ1 → G p l e R s m args below meth c nL D cA A Q kc ks AD sh σ1 loc (pc + 3) (.long r :: rest)) : G p l e R s m args below meth c nL D cA A Q kc ks AD sh σ loc pc st := by
  intro ad H locs ls hAD hP hD hS hl
  subst hst
  refine va_calll (va_runV (As := As.map (vm ad)) (b := ad b0) (rest := rest.map (vm ad)) ⟨X.1, X.2.1, X.2.2.1, X.2.2.2.1, X.2.2.2.2.1⟩ (hM ad H.size) (cwV n X.2.2.2.2.1 (gw_wsV h1 h2 h3 h4 h5) rfl hrc hrs hy hR) ⟨PcW.blind, va_recv X.2.2.2.2.2.2.1 hP hc ((wd_at hb).trans (by rw [ce_o hk])), pre_in X hP hD⟩ rfl (by rw [List.length_map]; exact hn) hl.1 (by show ((As.reverse ++ Value.ref b0 :: rest).map (vm ad)) = _; simp [List.map_append, List.map_reverse, vm]) (lv_room (by rw [vm_sum]; exact hroom)) hd ⟨hkc, hks⟩) hS (fun q _ h => aw_in X.2.2.2.2.2.2.2.2.1 hD hS q h) (aw_in X.2.2.2.2.2.2.2.2.1 hD hS) (fun r u t H1 locs1 ht hvm hp hb hz hk2 hS1 => kk r u hp ad H1 locs1 ls hAD (by rw [← ht]; exact hb) (wd_D _ _ hD) hS1 hl)
theorem g_callSL (X : Cx p R s m args meth c cc nL own D cA A) {y : MethodName} {bts : ByteArray} {maxL : Nat} {ret : Option FieldType} {rm : Room} {index n : Nat} {Qp : Int64 → St → Prop} (As rest : List Value) (hd : decode cc pc = .ok (.invokestatic index, 3)) (hM : CtL l y bts maxL ret rm D cA sh As σ Qp) (h1 : Cond.methodLink own index y ∈ GW) (h2 : Cond.static y ∈ GW) (h4 : Cond.initialized y.cls ∈ GW) (h5 : Cond.code y bts maxL ret ∈ GW) (hy : y.cls ≠ "java/lang/invoke/MethodHandle" ∧ y.cls ≠ "java/lang/invoke/VarHandle" ∧ (parseMethodDescriptor y.desc).map (fun d => d.parameters.length) = some n) (hn : As.length = n) (hst : st = As.reverse ++ rest) (hroom : (rest.map fun v => v.category).sum ≤ 8) (hrc : rm.cells = 0) (hrs : rm.slots = 0) (hR : rm.frames + 1 ≤ R.frames ∧ 8 + (maxL + 11) + rm.locals ≤ R.locals) (hkc : kc ≤ R.cells) (hks : ks ≤ R.slots)
    (kk : ∀ (r : Int64) (σ1 : St), Qp r σ1 → G p l e R s m args below meth c nL D cA A Q kc ks AD sh σ1 loc (pc + 3) (.long r :: rest)) : G p l e R s m args below meth c nL D cA A Q kc ks AD sh σ loc pc st := by
  intro ad H locs ls hAD hP hD hS hl
  subst hst
  refine va_calll (va_runS (As := As.map (vm ad)) (rest := rest.map (vm ad)) ⟨X.1, X.2.1, X.2.2.1, X.2.2.2.1, X.2.2.2.2.1⟩ (hM ad H.size) (va_cwS n X.2.2.2.2.1 (gw_wsS h1 h2 h4 h5) rfl hrc hrs hy hR) ⟨PcW.blind, pre_in X hP hD⟩ rfl (by rw [List.length_map]; exact hn) hl.1 (by show ((As.reverse ++ rest).map (vm ad)) = _; simp [List.map_append, List.map_reverse]) (lv_room (by rw [vm_sum]; exact hroom)) hd ⟨hkc, hks⟩) hS (fun q _ h => aw_in X.2.2.2.2.2.2.2.2.1 hD hS q h) (aw_in X.2.2.2.2.2.2.2.2.1 hD hS) (fun r u t H1 locs1 ht hvm hp hb hz hk2 hS1 => kk r u hp ad H1 locs1 ls hAD (by rw [← ht]; exact hb) (wd_D _ _ hD) hS1 hl)
theorem g_callNL (X : Cx p R s m args meth c cc nL own D cA A) {y : MethodName} {bts : ByteArray} {maxL : Nat} {ret : Option FieldType} {rm : Room} {host : String} {index n : Nat} {Qp : Int64 → St → Prop} (As rest : List Value) (hd : decode cc pc = .ok (.invokestatic index, 3)) (hM : CtL l y bts maxL ret rm D cA sh As σ Qp) (h1 : Cond.methodLinkNest own index y host ∈ NW) (h2 : Cond.static y ∈ GW) (h4 : Cond.initialized y.cls ∈ GW) (h5 : Cond.code y bts maxL ret ∈ GW) (hy : y.cls ≠ "java/lang/invoke/MethodHandle" ∧ y.cls ≠ "java/lang/invoke/VarHandle" ∧ (parseMethodDescriptor y.desc).map (fun d => d.parameters.length) = some n) (hn : As.length = n) (hst : st = As.reverse ++ rest) (hroom : (rest.map fun v => v.category).sum ≤ 8) (hrc : rm.cells = 0) (hrs : rm.slots = 0) (hR : rm.frames + 1 ≤ R.frames ∧ 8 + (maxL + 11) + rm.locals ≤ R.locals) (hkc : kc ≤ R.cells) (hks : ks ≤ R.slots)
    (kk : ∀ (r : Int64) (σ1 : St), Qp r σ1 → G p l e R s m args below meth c nL D cA A Q kc ks AD sh σ1 loc (pc + 3) (.long r :: rest)) : G p l e R s m args below meth c nL D cA A Q kc ks AD sh σ loc pc st := by
  intro ad H locs ls hAD hP hD hS hl
  subst hst
  refine va_calll (va_runSN (As := As.map (vm ad)) (rest := rest.map (vm ad)) ⟨X.1, X.2.1, X.2.2.1, X.2.2.2.1, X.2.2.2.2.1⟩ (hM ad H.size) ⟨va_cnB n X.2.2.2.2.1 (gw_wsy h5) rfl hrc hrs (X.2.2.2.2.2.2.2.1 _ h1) (X.2.2.2.2.1 _ h4) hy hR, X.2.2.2.2.1 _ h2, trivial⟩ ⟨PcW.blind, pre_in X hP hD⟩ rfl (by rw [List.length_map]; exact hn) hl.1 (by show ((As.reverse ++ rest).map (vm ad)) = _; simp [List.map_append, List.map_reverse]) (lv_room (by rw [vm_sum]; exact hroom)) hd ⟨hkc, hks⟩) hS (fun q _ h => aw_in X.2.2.2.2.2.2.2.2.1 hD hS q h) (aw_in X.2.2.2.2.2.2.2.2.1 hD hS) (fun r u t H1 locs1 ht hvm hp hb hz hk2 hS1 => kk r u hp ad H1 locs1 ls hAD (by rw [← ht]; exact hb) (wd_D _ _ hD) hS1 hl)
theorem g_callVD (X : Cx p R s m args meth c cc nL own D cA A) {y : MethodName} {bts : ByteArray} {maxL : Nat} {ret : Option FieldType} {rm : Room} {C : String} {T : u_T} {N b0 ci index n : Nat} {Qp : UInt64 → St → Prop} (As rest : List Value) (hd : decode cc pc = .ok (.invokevirtual index, 3)) (hM : CtD l y bts maxL ret rm D cA sh (.ref b0 :: As) σ Qp) (h1 : Cond.methodLink own index y ∈ GW) (h2 : Cond.instanceMethod y ∈ GW) (h3 : Cond.selects C y y ∈ GW) (h4 : Cond.initialized C ∈ GW) (h5 : Cond.code y bts maxL ret ∈ GW) (hb : b0 < sh.1) (hk : sh.2.1 b0 = .inl ci) (hc : cls[ci]? = some (C, T, N)) (hy : y.cls = C ∧ y.cls ≠ "java/lang/invoke/MethodHandle" ∧ y.cls ≠ "java/lang/invoke/VarHandle" ∧ (parseMethodDescriptor y.desc).map (fun d => d.parameters.length) = some n) (hn : As.length = n) (hst : st = As.reverse ++ .ref b0 :: rest) (hroom : (rest.map fun v => v.category).sum ≤ 8) (hrc : rm.cells = 0) (hrs : rm.slots = 0) (hR : rm.frames + 1 ≤ R.frames ∧ 8 + (maxL + 11) + rm.locals ≤ R.locals) (hkc : kc ≤ R.cells) (hks : ks ≤ R.slots)
    (kk : ∀ (r : UInt64) (σ1 : St), Qp r σ1 → G p l e R s m args below meth c nL D cA A Q kc ks AD sh σ1 loc (pc + 3) (.double r :: rest)) : G p l e R s m args below meth c nL D cA A Q kc ks AD sh σ loc pc st := by
  intro ad H locs ls hAD hP hD hS hl
  subst hst
  refine va_calld (va_runV (As := As.map (vm ad)) (b := ad b0) (rest := rest.map (vm ad)) ⟨X.1, X.2.1, X.2.2.1, X.2.2.2.1, X.2.2.2.2.1⟩ (hM ad H.size) (cwV n X.2.2.2.2.1 (gw_wsV h1 h2 h3 h4 h5) rfl hrc hrs hy hR) ⟨PcW.blind, va_recv X.2.2.2.2.2.2.1 hP hc ((wd_at hb).trans (by rw [ce_o hk])), pre_in X hP hD⟩ rfl (by rw [List.length_map]; exact hn) hl.1 (by show ((As.reverse ++ Value.ref b0 :: rest).map (vm ad)) = _; simp [List.map_append, List.map_reverse, vm]) (lv_room (by rw [vm_sum]; exact hroom)) hd ⟨hkc, hks⟩) hS (fun q _ h => aw_in X.2.2.2.2.2.2.2.2.1 hD hS q h) (aw_in X.2.2.2.2.2.2.2.2.1 hD hS) (fun r u t H1 locs1 ht hvm hp hb hz hk2 hS1 => kk r u hp ad H1 locs1 ls hAD (by rw [← ht]; exact hb) (wd_D _ _ hD) hS1 hl)
theorem g_callSD (X : Cx p R s m args meth c cc nL own D cA A) {y : MethodName} {bts : ByteArray} {maxL : Nat} {ret : Option FieldType} {rm : Room} {index n : Nat} {Qp : UInt64 → St → Prop} (As rest : List Value) (hd : decode cc pc = .ok (.invokestatic index, 3)) (hM : CtD l y bts maxL ret rm D cA sh As σ Qp) (h1 : Cond.methodLink own index y ∈ GW) (h2 : Cond.static y ∈ GW) (h4 : Cond.initialized y.cls ∈ GW) (h5 : Cond.code y bts maxL ret ∈ GW) (hy : y.cls ≠ "java/lang/invoke/MethodHandle" ∧ y.cls ≠ "java/lang/invoke/VarHandle" ∧ (parseMethodDescriptor y.desc).map (fun d => d.parameters.length) = some n) (hn : As.length = n) (hst : st = As.reverse ++ rest) (hroom : (rest.map fun v => v.category).sum ≤ 8) (hrc : rm.cells = 0) (hrs : rm.slots = 0) (hR : rm.frames + 1 ≤ R.frames ∧ 8 + (maxL + 11) + rm.locals ≤ R.locals) (hkc : kc ≤ R.cells) (hks : ks ≤ R.slots)
    (kk : ∀ (r : UInt64) (σ1 : St), Qp r σ1 → G p l e R s m args below meth c nL D cA A Q kc ks AD sh σ1 loc (pc + 3) (.double r :: rest)) : G p l e R s m args below meth c nL D cA A Q kc ks AD sh σ loc pc st := by
  intro ad H locs ls hAD hP hD hS hl
  subst hst
  refine va_calld (va_runS (As := As.map (vm ad)) (rest := rest.map (vm ad)) ⟨X.1, X.2.1, X.2.2.1, X.2.2.2.1, X.2.2.2.2.1⟩ (hM ad H.size) (va_cwS n X.2.2.2.2.1 (gw_wsS h1 h2 h4 h5) rfl hrc hrs hy hR) ⟨PcW.blind, pre_in X hP hD⟩ rfl (by rw [List.length_map]; exact hn) hl.1 (by show ((As.reverse ++ rest).map (vm ad)) = _; simp [List.map_append, List.map_reverse]) (lv_room (by rw [vm_sum]; exact hroom)) hd ⟨hkc, hks⟩) hS (fun q _ h => aw_in X.2.2.2.2.2.2.2.2.1 hD hS q h) (aw_in X.2.2.2.2.2.2.2.2.1 hD hS) (fun r u t H1 locs1 ht hvm hp hb hz hk2 hS1 => kk r u hp ad H1 locs1 ls hAD (by rw [← ht]; exact hb) (wd_D _ _ hD) hS1 hl)
theorem g_callND (X : Cx p R s m args meth c cc nL own D cA A) {y : MethodName} {bts : ByteArray} {maxL : Nat} {ret : Option FieldType} {rm : Room} {host : String} {index n : Nat} {Qp : UInt64 → St → Prop} (As rest : List Value) (hd : decode cc pc = .ok (.invokestatic index, 3)) (hM : CtD l y bts maxL ret rm D cA sh As σ Qp) (h1 : Cond.methodLinkNest own index y host ∈ NW) (h2 : Cond.static y ∈ GW) (h4 : Cond.initialized y.cls ∈ GW) (h5 : Cond.code y bts maxL ret ∈ GW) (hy : y.cls ≠ "java/lang/invoke/MethodHandle" ∧ y.cls ≠ "java/lang/invoke/VarHandle" ∧ (parseMethodDescriptor y.desc).map (fun d => d.parameters.length) = some n) (hn : As.length = n) (hst : st = As.reverse ++ rest) (hroom : (rest.map fun v => v.category).sum ≤ 8) (hrc : rm.cells = 0) (hrs : rm.slots = 0) (hR : rm.frames + 1 ≤ R.frames ∧ 8 + (maxL + 11) + rm.locals ≤ R.locals) (hkc : kc ≤ R.cells) (hks : ks ≤ R.slots)
    (kk : ∀ (r : UInt64) (σ1 : St), Qp r σ1 → G p l e R s m args below meth c nL D cA A Q kc ks AD sh σ1 loc (pc + 3) (.double r :: rest)) : G p l e R s m args below meth c nL D cA A Q kc ks AD sh σ loc pc st := by
  intro ad H locs ls hAD hP hD hS hl
  subst hst
  refine va_calld (va_runSN (As := As.map (vm ad)) (rest := rest.map (vm ad)) ⟨X.1, X.2.1, X.2.2.1, X.2.2.2.1, X.2.2.2.2.1⟩ (hM ad H.size) ⟨va_cnB n X.2.2.2.2.1 (gw_wsy h5) rfl hrc hrs (X.2.2.2.2.2.2.2.1 _ h1) (X.2.2.2.2.1 _ h4) hy hR, X.2.2.2.2.1 _ h2, trivial⟩ ⟨PcW.blind, pre_in X hP hD⟩ rfl (by rw [List.length_map]; exact hn) hl.1 (by show ((As.reverse ++ rest).map (vm ad)) = _; simp [List.map_append, List.map_reverse]) (lv_room (by rw [vm_sum]; exact hroom)) hd ⟨hkc, hks⟩) hS (fun q _ h => aw_in X.2.2.2.2.2.2.2.2.1 hD hS q h) (aw_in X.2.2.2.2.2.2.2.2.1 hD hS) (fun r u t H1 locs1 ht hvm hp hb hz hk2 hS1 => kk r u hp ad H1 locs1 ls hAD (by rw [← ht]; exact hb) (wd_D _ _ hD) hS1 hl)
theorem g_callVV (X : Cx p R s m args meth c cc nL own D cA A) {y : MethodName} {bts : ByteArray} {maxL : Nat} {ret : Option FieldType} {rm : Room} {C : String} {T : u_T} {N b0 ci index n : Nat} {Qp : St → Prop} (As rest : List Value) (hd : decode cc pc = .ok (.invokevirtual index, 3)) (hM : CtV l y bts maxL ret rm D cA sh (.ref b0 :: As) σ Qp) (h1 : Cond.methodLink own index y ∈ GW) (h2 : Cond.instanceMethod y ∈ GW) (h3 : Cond.selects C y y ∈ GW) (h4 : Cond.initialized C ∈ GW) (h5 : Cond.code y bts maxL ret ∈ GW) (hb : b0 < sh.1) (hk : sh.2.1 b0 = .inl ci) (hc : cls[ci]? = some (C, T, N)) (hy : y.cls = C ∧ y.cls ≠ "java/lang/invoke/MethodHandle" ∧ y.cls ≠ "java/lang/invoke/VarHandle" ∧ (parseMethodDescriptor y.desc).map (fun d => d.parameters.length) = some n) (hn : As.length = n) (hst : st = As.reverse ++ .ref b0 :: rest) (hroom : (rest.map fun v => v.category).sum ≤ 8) (hrc : rm.cells = 0) (hrs : rm.slots = 0) (hR : rm.frames + 1 ≤ R.frames ∧ 8 + (maxL + 11) + rm.locals ≤ R.locals) (hkc : kc ≤ R.cells) (hks : ks ≤ R.slots)
    (kk : ∀ (σ1 : St), Qp σ1 → G p l e R s m args below meth c nL D cA A Q kc ks AD sh σ1 loc (pc + 3) rest) : G p l e R s m args below meth c nL D cA A Q kc ks AD sh σ loc pc st := by
  intro ad H locs ls hAD hP hD hS hl
  subst hst
  refine va_callv (va_runV (As := As.map (vm ad)) (b := ad b0) (rest := rest.map (vm ad)) ⟨X.1, X.2.1, X.2.2.1, X.2.2.2.1, X.2.2.2.2.1⟩ (hM ad H.size) (cwV n X.2.2.2.2.1 (gw_wsV h1 h2 h3 h4 h5) rfl hrc hrs hy hR) ⟨PcW.blind, va_recv X.2.2.2.2.2.2.1 hP hc ((wd_at hb).trans (by rw [ce_o hk])), pre_in X hP hD⟩ rfl (by rw [List.length_map]; exact hn) hl.1 (by show ((As.reverse ++ Value.ref b0 :: rest).map (vm ad)) = _; simp [List.map_append, List.map_reverse, vm]) (lv_room (by rw [vm_sum]; exact hroom)) hd ⟨hkc, hks⟩) hS (fun q _ h => aw_in X.2.2.2.2.2.2.2.2.1 hD hS q h) (aw_in X.2.2.2.2.2.2.2.2.1 hD hS) (fun u t H1 locs1 ht hvm hp hb hz hk2 hS1 => kk u hp ad H1 locs1 ls hAD (by rw [← ht]; exact hb) (wd_D _ _ hD) hS1 hl)
theorem g_callSV (X : Cx p R s m args meth c cc nL own D cA A) {y : MethodName} {bts : ByteArray} {maxL : Nat} {ret : Option FieldType} {rm : Room} {index n : Nat} {Qp : St → Prop} (As rest : List Value) (hd : decode cc pc = .ok (.invokestatic index, 3)) (hM : CtV l y bts maxL ret rm D cA sh As σ Qp) (h1 : Cond.methodLink own index y ∈ GW) (h2 : Cond.static y ∈ GW) (h4 : Cond.initialized y.cls ∈ GW) (h5 : Cond.code y bts maxL ret ∈ GW) (hy : y.cls ≠ "java/lang/invoke/MethodHandle" ∧ y.cls ≠ "java/lang/invoke/VarHandle" ∧ (parseMethodDescriptor y.desc).map (fun d => d.parameters.length) = some n) (hn : As.length = n) (hst : st = As.reverse ++ rest) (hroom : (rest.map fun v => v.category).sum ≤ 8) (hrc : rm.cells = 0) (hrs : rm.slots = 0) (hR : rm.frames + 1 ≤ R.frames ∧ 8 + (maxL + 11) + rm.locals ≤ R.locals) (hkc : kc ≤ R.cells) (hks : ks ≤ R.slots)
    (kk : ∀ (σ1 : St), Qp σ1 → G p l e R s m args below meth c nL D cA A Q kc ks AD sh σ1 loc (pc + 3) rest) : G p l e R s m args below meth c nL D cA A Q kc ks AD sh σ loc pc st := by
  intro ad H locs ls hAD hP hD hS hl
  subst hst
  refine va_callv (va_runS (As := As.map (vm ad)) (rest := rest.map (vm ad)) ⟨X.1, X.2.1, X.2.2.1, X.2.2.2.1, X.2.2.2.2.1⟩ (hM ad H.size) (va_cwS n X.2.2.2.2.1 (gw_wsS h1 h2 h4 h5) rfl hrc hrs hy hR) ⟨PcW.blind, pre_in X hP hD⟩ rfl (by rw [List.length_map]; exact hn) hl.1 (by show ((As.reverse ++ rest).map (vm ad)) = _; simp [List.map_append, List.map_reverse]) (lv_room (by rw [vm_sum]; exact hroom)) hd ⟨hkc, hks⟩) hS (fun q _ h => aw_in X.2.2.2.2.2.2.2.2.1 hD hS q h) (aw_in X.2.2.2.2.2.2.2.2.1 hD hS) (fun u t H1 locs1 ht hvm hp hb hz hk2 hS1 => kk u hp ad H1 locs1 ls hAD (by rw [← ht]; exact hb) (wd_D _ _ hD) hS1 hl)
theorem g_callNV (X : Cx p R s m args meth c cc nL own D cA A) {y : MethodName} {bts : ByteArray} {maxL : Nat} {ret : Option FieldType} {rm : Room} {host : String} {index n : Nat} {Qp : St → Prop} (As rest : List Value) (hd : decode cc pc = .ok (.invokestatic index, 3)) (hM : CtV l y bts maxL ret rm D cA sh As σ Qp) (h1 : Cond.methodLinkNest own index y host ∈ NW) (h2 : Cond.static y ∈ GW) (h4 : Cond.initialized y.cls ∈ GW) (h5 : Cond.code y bts maxL ret ∈ GW) (hy : y.cls ≠ "java/lang/invoke/MethodHandle" ∧ y.cls ≠ "java/lang/invoke/VarHandle" ∧ (parseMethodDescriptor y.desc).map (fun d => d.parameters.length) = some n) (hn : As.length = n) (hst : st = As.reverse ++ rest) (hroom : (rest.map fun v => v.category).sum ≤ 8) (hrc : rm.cells = 0) (hrs : rm.slots = 0) (hR : rm.frames + 1 ≤ R.frames ∧ 8 + (maxL + 11) + rm.locals ≤ R.locals) (hkc : kc ≤ R.cells) (hks : ks ≤ R.slots)
    (kk : ∀ (σ1 : St), Qp σ1 → G p l e R s m args below meth c nL D cA A Q kc ks AD sh σ1 loc (pc + 3) rest) : G p l e R s m args below meth c nL D cA A Q kc ks AD sh σ loc pc st := by
  intro ad H locs ls hAD hP hD hS hl
  subst hst
  refine va_callv (va_runSN (As := As.map (vm ad)) (rest := rest.map (vm ad)) ⟨X.1, X.2.1, X.2.2.1, X.2.2.2.1, X.2.2.2.2.1⟩ (hM ad H.size) ⟨va_cnB n X.2.2.2.2.1 (gw_wsy h5) rfl hrc hrs (X.2.2.2.2.2.2.2.1 _ h1) (X.2.2.2.2.1 _ h4) hy hR, X.2.2.2.2.1 _ h2, trivial⟩ ⟨PcW.blind, pre_in X hP hD⟩ rfl (by rw [List.length_map]; exact hn) hl.1 (by show ((As.reverse ++ rest).map (vm ad)) = _; simp [List.map_append, List.map_reverse]) (lv_room (by rw [vm_sum]; exact hroom)) hd ⟨hkc, hks⟩) hS (fun q _ h => aw_in X.2.2.2.2.2.2.2.2.1 hD hS q h) (aw_in X.2.2.2.2.2.2.2.2.1 hD hS) (fun u t H1 locs1 ht hvm hp hb hz hk2 hS1 => kk u hp ad H1 locs1 ls hAD (by rw [← ht]; exact hb) (wd_D _ _ hD) hS1 hl)
end GCALL
section GRET
variable {p : Program} {l : Launch} {e : Env} {R : Room} {s : State} {m : MethodId} {args : Array Value} {below : List Frame} {meth : Method} {c : Code} {cc : ByteArray} {nL : Nat} {own : String} {D : va_G} {cA : Nat → ClassId} {A : Nat → Prop} {sh : SH} {σ : St} {loc : List (Nat × Value)} {pc : Nat}
theorem g_iret (X : Cx p R s m args meth c cc nL own D cA A) {Qp : Int32 → St → Prop} {ad0 : Nat → Nat} {v : Int32} {ty : FieldType} (hr : meth.sig.returnType = some ty) (hd : decode cc pc = .ok (.ireturn, 1)) (hn : narrow ty (.int v) = .int v) (h : Qp v σ) : G p l e R s m args below meth c nL D cA A (MQ below (va_Qi Qp (EndW D cA ad0 sh) A) args s 0 0 A) 0 0 (fun ad => ad = ad0) sh σ loc pc [.int v] := by
  intro ad H locs ls hAD hP hD hS hl
  subst hAD
  exact W.zret X.1 X.2.1 hr hn (fun t ht hW => ⟨⟨v, σ, rfl, h, by rw [EndW, ht]; exact hP⟩, hS.F ht⟩) hS.2.2 hd X.2.2.2.2.2.1
theorem g_lret (X : Cx p R s m args meth c cc nL own D cA A) {Qp : Int64 → St → Prop} {ad0 : Nat → Nat} {v : Int64} (hr : meth.sig.returnType = some .long) (hd : decode cc pc = .ok (.lreturn, 1)) (h : Qp v σ) : G p l e R s m args below meth c nL D cA A (MQ below (va_Ql Qp (EndW D cA ad0 sh) A) args s 0 0 A) 0 0 (fun ad => ad = ad0) sh σ loc pc [.long v] := by
  intro ad H locs ls hAD hP hD hS hl
  subst hAD
  exact W.lret X.1 X.2.1 hr (fun t ht hW => ⟨⟨v, σ, rfl, h, by rw [EndW, ht]; exact hP⟩, hS.F ht⟩) hS.2.2 hd X.2.2.2.2.2.1
theorem g_dret (X : Cx p R s m args meth c cc nL own D cA A) {Qp : UInt64 → St → Prop} {ad0 : Nat → Nat} {v : UInt64} (hr : meth.sig.returnType = some .double) (hd : decode cc pc = .ok (.dreturn, 1)) (h : Qp v σ) : G p l e R s m args below meth c nL D cA A (MQ below (va_Qd Qp (EndW D cA ad0 sh) A) args s 0 0 A) 0 0 (fun ad => ad = ad0) sh σ loc pc [.double v] := by
  intro ad H locs ls hAD hP hD hS hl
  subst hAD
  exact W.dret X.1 X.2.1 hr (fun t ht hW => ⟨⟨v, σ, rfl, h, by rw [EndW, ht]; exact hP⟩, hS.F ht⟩) hS.2.2 hd X.2.2.2.2.2.1
theorem g_vret (X : Cx p R s m args meth c cc nL own D cA A) {Qp : St → Prop} {ad0 : Nat → Nat} (hr : meth.sig.returnType = none) (hd : decode cc pc = .ok (.return_, 1)) (h : Qp σ) : G p l e R s m args below meth c nL D cA A (MQ below (va_Qv Qp (EndW D cA ad0 sh) A) args s 0 0 A) 0 0 (fun ad => ad = ad0) sh σ loc pc [] := by
  intro ad H locs ls hAD hP hD hS hl
  subst hAD
  exact W.vret X.1 X.2.1 hr (fun t ht hW => ⟨⟨σ, rfl, h, by rw [EndW, ht]; exact hP⟩, hS.F ht⟩) hS.2.2 hd X.2.2.2.2.2.1
end GRET
end
