section
def lw_okq (q : MethodName × Nat) : Prop := (q.1.cls ≠ "java/lang/invoke/MethodHandle" ∧ q.1.cls ≠ "java/lang/invoke/VarHandle") ∧ Cond.instantiable q.1.cls q.2 ∈ tables_1 ∧ Cond.privateMethod q.1 ∈ tables_1 ∧ Cond.instanceMethod q.1 ∈ tables_1
theorem lw_p0 : lw_okq (⟨"BassRealiser", "hasChord", "(I)Z"⟩, 5) := ⟨⟨by decide +kernel, by decide +kernel⟩, List.mem_of_getElem? (i := 11) (by decide +kernel), List.mem_of_getElem? (i := 305) (by decide +kernel), List.mem_of_getElem? (i := 306) (by decide +kernel)⟩
theorem lw_p1 : lw_okq (⟨"BassRealiser$Column", "listBelow", "(LBassRealiser$Chord;LBassRealiser$Rules;II)V"⟩, 6) := ⟨⟨by decide +kernel, by decide +kernel⟩, List.mem_of_getElem? (i := 112) (by decide +kernel), List.mem_of_getElem? (i := 387) (by decide +kernel), List.mem_of_getElem? (i := 388) (by decide +kernel)⟩
theorem lw_p2 : lw_okq (⟨"BassRealiser$Rules", "outside", "(II)Z"⟩, 5) := ⟨⟨by decide +kernel, by decide +kernel⟩, List.mem_of_getElem? (i := 27) (by decide +kernel), List.mem_of_getElem? (i := 401) (by decide +kernel), List.mem_of_getElem? (i := 402) (by decide +kernel)⟩
theorem lw_p3 : lw_okq (⟨"BassRealiser$Rules", "leadingOnes", "(IIII)I"⟩, 5) := ⟨⟨by decide +kernel, by decide +kernel⟩, List.mem_of_getElem? (i := 27) (by decide +kernel), List.mem_of_getElem? (i := 407) (by decide +kernel), List.mem_of_getElem? (i := 408) (by decide +kernel)⟩
theorem lw_p4 : lw_okq (⟨"BassRealiser$Search", "reach", "(ILBassRealiser$Column;)V"⟩, 9) := ⟨⟨by decide +kernel, by decide +kernel⟩, List.mem_of_getElem? (i := 19) (by decide +kernel), List.mem_of_getElem? (i := 429) (by decide +kernel), List.mem_of_getElem? (i := 430) (by decide +kernel)⟩
theorem lw_p5 : lw_okq (⟨"BassRealiser$Search", "reachable", "(II)Z"⟩, 9) := ⟨⟨by decide +kernel, by decide +kernel⟩, List.mem_of_getElem? (i := 19) (by decide +kernel), List.mem_of_getElem? (i := 437) (by decide +kernel), List.mem_of_getElem? (i := 438) (by decide +kernel)⟩
theorem lw_p6 : lw_okq (⟨"BassRealiser$Move", "leaps", "(I)Z"⟩, 6) := ⟨⟨by decide +kernel, by decide +kernel⟩, List.mem_of_getElem? (i := 146) (by decide +kernel), List.mem_of_getElem? (i := 454) (by decide +kernel), List.mem_of_getElem? (i := 455) (by decide +kernel)⟩
theorem lw_p7 : lw_okq (⟨"BassRealiser$Move", "hasParallels", "()Z"⟩, 6) := ⟨⟨by decide +kernel, by decide +kernel⟩, List.mem_of_getElem? (i := 146) (by decide +kernel), List.mem_of_getElem? (i := 459) (by decide +kernel), List.mem_of_getElem? (i := 460) (by decide +kernel)⟩
theorem lw_p8 : lw_okq (⟨"BassRealiser$Move", "parallel", "(II)Z"⟩, 6) := ⟨⟨by decide +kernel, by decide +kernel⟩, List.mem_of_getElem? (i := 146) (by decide +kernel), List.mem_of_getElem? (i := 463) (by decide +kernel), List.mem_of_getElem? (i := 464) (by decide +kernel)⟩
theorem lw_p9 : lw_okq (⟨"BassRealiser$Move", "unprepared", "()Z"⟩, 6) := ⟨⟨by decide +kernel, by decide +kernel⟩, List.mem_of_getElem? (i := 146) (by decide +kernel), List.mem_of_getElem? (i := 467) (by decide +kernel), List.mem_of_getElem? (i := 468) (by decide +kernel)⟩
theorem lw_p10 : lw_okq (⟨"BassRealiser$Move", "unresolved", "()Z"⟩, 6) := ⟨⟨by decide +kernel, by decide +kernel⟩, List.mem_of_getElem? (i := 146) (by decide +kernel), List.mem_of_getElem? (i := 472) (by decide +kernel), List.mem_of_getElem? (i := 473) (by decide +kernel)⟩
theorem lw_p11 : lw_okq (⟨"BassRealiser$Search", "weigh", "(IZ)V"⟩, 9) := ⟨⟨by decide +kernel, by decide +kernel⟩, List.mem_of_getElem? (i := 19) (by decide +kernel), List.mem_of_getElem? (i := 481) (by decide +kernel), List.mem_of_getElem? (i := 482) (by decide +kernel)⟩
theorem lw_p12 : lw_okq (⟨"BassRealiser$Search", "weighOne", "(II)V"⟩, 9) := ⟨⟨by decide +kernel, by decide +kernel⟩, List.mem_of_getElem? (i := 19) (by decide +kernel), List.mem_of_getElem? (i := 485) (by decide +kernel), List.mem_of_getElem? (i := 486) (by decide +kernel)⟩
theorem lw_p13 : lw_okq (⟨"BassRealiser$Search", "pickFirst", "()V"⟩, 9) := ⟨⟨by decide +kernel, by decide +kernel⟩, List.mem_of_getElem? (i := 19) (by decide +kernel), List.mem_of_getElem? (i := 498) (by decide +kernel), List.mem_of_getElem? (i := 499) (by decide +kernel)⟩
theorem lw_p14 : lw_okq (⟨"BassRealiser$Search", "pickNext", "(I)V"⟩, 9) := ⟨⟨by decide +kernel, by decide +kernel⟩, List.mem_of_getElem? (i := 19) (by decide +kernel), List.mem_of_getElem? (i := 506) (by decide +kernel), List.mem_of_getElem? (i := 507) (by decide +kernel)⟩
theorem lw_p15 : lw_okq (⟨"BassRealiser", "faultAt", "(I)I"⟩, 5) := ⟨⟨by decide +kernel, by decide +kernel⟩, List.mem_of_getElem? (i := 11) (by decide +kernel), List.mem_of_getElem? (i := 527) (by decide +kernel), List.mem_of_getElem? (i := 528) (by decide +kernel)⟩
def lw_privs_1 : List (MethodName × Nat) := [(⟨"BassRealiser", "hasChord", "(I)Z"⟩, 5), (⟨"BassRealiser$Column", "listBelow", "(LBassRealiser$Chord;LBassRealiser$Rules;II)V"⟩, 6), (⟨"BassRealiser$Rules", "outside", "(II)Z"⟩, 5), (⟨"BassRealiser$Rules", "leadingOnes", "(IIII)I"⟩, 5), (⟨"BassRealiser$Search", "reach", "(ILBassRealiser$Column;)V"⟩, 9), (⟨"BassRealiser$Search", "reachable", "(II)Z"⟩, 9), (⟨"BassRealiser$Move", "leaps", "(I)Z"⟩, 6), (⟨"BassRealiser$Move", "hasParallels", "()Z"⟩, 6), (⟨"BassRealiser$Move", "parallel", "(II)Z"⟩, 6), (⟨"BassRealiser$Move", "unprepared", "()Z"⟩, 6), (⟨"BassRealiser$Move", "unresolved", "()Z"⟩, 6), (⟨"BassRealiser$Search", "weigh", "(IZ)V"⟩, 9), (⟨"BassRealiser$Search", "weighOne", "(II)V"⟩, 9), (⟨"BassRealiser$Search", "pickFirst", "()V"⟩, 9), (⟨"BassRealiser$Search", "pickNext", "(I)V"⟩, 9), (⟨"BassRealiser", "faultAt", "(I)I"⟩, 5)]
theorem lw_r1 : ∀ q ∈ lw_privs_1, lw_okq q := List.forall_mem_cons.mpr ⟨lw_p0, List.forall_mem_cons.mpr ⟨lw_p1, List.forall_mem_cons.mpr ⟨lw_p2, List.forall_mem_cons.mpr ⟨lw_p3, List.forall_mem_cons.mpr ⟨lw_p4, List.forall_mem_cons.mpr ⟨lw_p5, List.forall_mem_cons.mpr ⟨lw_p6, List.forall_mem_cons.mpr ⟨lw_p7, List.forall_mem_cons.mpr ⟨lw_p8, List.forall_mem_cons.mpr ⟨lw_p9, List.forall_mem_cons.mpr ⟨lw_p10, List.forall_mem_cons.mpr ⟨lw_p11, List.forall_mem_cons.mpr ⟨lw_p12, List.forall_mem_cons.mpr ⟨lw_p13, List.forall_mem_cons.mpr ⟨lw_p14, List.forall_mem_cons.mpr ⟨lw_p15, fun _ h => absurd h List.not_mem_nil⟩⟩⟩⟩⟩⟩⟩⟩⟩⟩⟩⟩⟩⟩⟩⟩
theorem lw_p16 : lw_okq (⟨"BassRealiser", "moveTo", "(I)LBassRealiser$Move;"⟩, 5) := ⟨⟨by decide +kernel, by decide +kernel⟩, List.mem_of_getElem? (i := 11) (by decide +kernel), List.mem_of_getElem? (i := 533) (by decide +kernel), List.mem_of_getElem? (i := 534) (by decide +kernel)⟩
theorem lw_p17 : lw_okq (⟨"BassRealiser", "figuresTold", "()I"⟩, 5) := ⟨⟨by decide +kernel, by decide +kernel⟩, List.mem_of_getElem? (i := 11) (by decide +kernel), List.mem_of_getElem? (i := 550) (by decide +kernel), List.mem_of_getElem? (i := 551) (by decide +kernel)⟩
theorem lw_p18 : lw_okq (⟨"BassRealiser", "chordsSung", "()I"⟩, 5) := ⟨⟨by decide +kernel, by decide +kernel⟩, List.mem_of_getElem? (i := 11) (by decide +kernel), List.mem_of_getElem? (i := 554) (by decide +kernel), List.mem_of_getElem? (i := 555) (by decide +kernel)⟩
theorem lw_p19 : lw_okq (⟨"BassRealiser", "pitchesGiven", "()I"⟩, 5) := ⟨⟨by decide +kernel, by decide +kernel⟩, List.mem_of_getElem? (i := 11) (by decide +kernel), List.mem_of_getElem? (i := 558) (by decide +kernel), List.mem_of_getElem? (i := 559) (by decide +kernel)⟩
theorem lw_p20 : lw_okq (⟨"BassRealiserModel", "noChord", "(I)Z"⟩, 26) := ⟨⟨by decide +kernel, by decide +kernel⟩, List.mem_of_getElem? (i := 562) (by decide +kernel), List.mem_of_getElem? (i := 672) (by decide +kernel), List.mem_of_getElem? (i := 673) (by decide +kernel)⟩
theorem lw_p21 : lw_okq (⟨"BassRealiserModel", "many", "(I)I"⟩, 26) := ⟨⟨by decide +kernel, by decide +kernel⟩, List.mem_of_getElem? (i := 562) (by decide +kernel), List.mem_of_getElem? (i := 679) (by decide +kernel), List.mem_of_getElem? (i := 680) (by decide +kernel)⟩
theorem lw_p22 : lw_okq (⟨"BassRealiserModel", "isWorked", "(II)Z"⟩, 26) := ⟨⟨by decide +kernel, by decide +kernel⟩, List.mem_of_getElem? (i := 562) (by decide +kernel), List.mem_of_getElem? (i := 683) (by decide +kernel), List.mem_of_getElem? (i := 684) (by decide +kernel)⟩
theorem lw_p23 : lw_okq (⟨"BassRealiserModel", "isTold", "(II)Z"⟩, 26) := ⟨⟨by decide +kernel, by decide +kernel⟩, List.mem_of_getElem? (i := 562) (by decide +kernel), List.mem_of_getElem? (i := 687) (by decide +kernel), List.mem_of_getElem? (i := 688) (by decide +kernel)⟩
theorem lw_p24 : lw_okq (⟨"BassRealiserModel", "bassOf", "(I)I"⟩, 26) := ⟨⟨by decide +kernel, by decide +kernel⟩, List.mem_of_getElem? (i := 562) (by decide +kernel), List.mem_of_getElem? (i := 717) (by decide +kernel), List.mem_of_getElem? (i := 718) (by decide +kernel)⟩
theorem lw_p25 : lw_okq (⟨"BassRealiserModel", "workedAs", "(III)I"⟩, 26) := ⟨⟨by decide +kernel, by decide +kernel⟩, List.mem_of_getElem? (i := 562) (by decide +kernel), List.mem_of_getElem? (i := 728) (by decide +kernel), List.mem_of_getElem? (i := 729) (by decide +kernel)⟩
theorem lw_p26 : lw_okq (⟨"BassRealiserModel", "letterOf", "(II)I"⟩, 26) := ⟨⟨by decide +kernel, by decide +kernel⟩, List.mem_of_getElem? (i := 562) (by decide +kernel), List.mem_of_getElem? (i := 732) (by decide +kernel), List.mem_of_getElem? (i := 733) (by decide +kernel)⟩
theorem lw_p27 : lw_okq (⟨"BassRealiserModel", "alterOf", "(II)I"⟩, 26) := ⟨⟨by decide +kernel, by decide +kernel⟩, List.mem_of_getElem? (i := 562) (by decide +kernel), List.mem_of_getElem? (i := 736) (by decide +kernel), List.mem_of_getElem? (i := 737) (by decide +kernel)⟩
theorem lw_p28 : lw_okq (⟨"BassRealiserModel", "keyOf", "(I)I"⟩, 26) := ⟨⟨by decide +kernel, by decide +kernel⟩, List.mem_of_getElem? (i := 562) (by decide +kernel), List.mem_of_getElem? (i := 740) (by decide +kernel), List.mem_of_getElem? (i := 741) (by decide +kernel)⟩
theorem lw_p29 : lw_okq (⟨"BassRealiserModel", "classOf", "(II)I"⟩, 26) := ⟨⟨by decide +kernel, by decide +kernel⟩, List.mem_of_getElem? (i := 562) (by decide +kernel), List.mem_of_getElem? (i := 744) (by decide +kernel), List.mem_of_getElem? (i := 745) (by decide +kernel)⟩
theorem lw_p30 : lw_okq (⟨"BassRealiserModel", "isSuspended", "(II)Z"⟩, 26) := ⟨⟨by decide +kernel, by decide +kernel⟩, List.mem_of_getElem? (i := 562) (by decide +kernel), List.mem_of_getElem? (i := 751) (by decide +kernel), List.mem_of_getElem? (i := 752) (by decide +kernel)⟩
theorem lw_p31 : lw_okq (⟨"BassRealiserModel", "lay", "()V"⟩, 26) := ⟨⟨by decide +kernel, by decide +kernel⟩, List.mem_of_getElem? (i := 562) (by decide +kernel), List.mem_of_getElem? (i := 759) (by decide +kernel), List.mem_of_getElem? (i := 760) (by decide +kernel)⟩
def lw_privs_2 : List (MethodName × Nat) := [(⟨"BassRealiser", "moveTo", "(I)LBassRealiser$Move;"⟩, 5), (⟨"BassRealiser", "figuresTold", "()I"⟩, 5), (⟨"BassRealiser", "chordsSung", "()I"⟩, 5), (⟨"BassRealiser", "pitchesGiven", "()I"⟩, 5), (⟨"BassRealiserModel", "noChord", "(I)Z"⟩, 26), (⟨"BassRealiserModel", "many", "(I)I"⟩, 26), (⟨"BassRealiserModel", "isWorked", "(II)Z"⟩, 26), (⟨"BassRealiserModel", "isTold", "(II)Z"⟩, 26), (⟨"BassRealiserModel", "bassOf", "(I)I"⟩, 26), (⟨"BassRealiserModel", "workedAs", "(III)I"⟩, 26), (⟨"BassRealiserModel", "letterOf", "(II)I"⟩, 26), (⟨"BassRealiserModel", "alterOf", "(II)I"⟩, 26), (⟨"BassRealiserModel", "keyOf", "(I)I"⟩, 26), (⟨"BassRealiserModel", "classOf", "(II)I"⟩, 26), (⟨"BassRealiserModel", "isSuspended", "(II)Z"⟩, 26), (⟨"BassRealiserModel", "lay", "()V"⟩, 26)]
theorem lw_r2 : ∀ q ∈ lw_privs_2, lw_okq q := List.forall_mem_cons.mpr ⟨lw_p16, List.forall_mem_cons.mpr ⟨lw_p17, List.forall_mem_cons.mpr ⟨lw_p18, List.forall_mem_cons.mpr ⟨lw_p19, List.forall_mem_cons.mpr ⟨lw_p20, List.forall_mem_cons.mpr ⟨lw_p21, List.forall_mem_cons.mpr ⟨lw_p22, List.forall_mem_cons.mpr ⟨lw_p23, List.forall_mem_cons.mpr ⟨lw_p24, List.forall_mem_cons.mpr ⟨lw_p25, List.forall_mem_cons.mpr ⟨lw_p26, List.forall_mem_cons.mpr ⟨lw_p27, List.forall_mem_cons.mpr ⟨lw_p28, List.forall_mem_cons.mpr ⟨lw_p29, List.forall_mem_cons.mpr ⟨lw_p30, List.forall_mem_cons.mpr ⟨lw_p31, fun _ h => absurd h List.not_mem_nil⟩⟩⟩⟩⟩⟩⟩⟩⟩⟩⟩⟩⟩⟩⟩⟩
theorem lw_p32 : lw_okq (⟨"BassRealiserModel", "tryAll", "(I)V"⟩, 26) := ⟨⟨by decide +kernel, by decide +kernel⟩, List.mem_of_getElem? (i := 562) (by decide +kernel), List.mem_of_getElem? (i := 763) (by decide +kernel), List.mem_of_getElem? (i := 764) (by decide +kernel)⟩
theorem lw_p33 : lw_okq (⟨"BassRealiserModel", "look", "(I)V"⟩, 26) := ⟨⟨by decide +kernel, by decide +kernel⟩, List.mem_of_getElem? (i := 562) (by decide +kernel), List.mem_of_getElem? (i := 767) (by decide +kernel), List.mem_of_getElem? (i := 768) (by decide +kernel)⟩
theorem lw_p34 : lw_okq (⟨"BassRealiserModel", "aloneRule", "(I)I"⟩, 26) := ⟨⟨by decide +kernel, by decide +kernel⟩, List.mem_of_getElem? (i := 562) (by decide +kernel), List.mem_of_getElem? (i := 771) (by decide +kernel), List.mem_of_getElem? (i := 772) (by decide +kernel)⟩
theorem lw_p35 : lw_okq (⟨"BassRealiserModel", "classes", "()I"⟩, 26) := ⟨⟨by decide +kernel, by decide +kernel⟩, List.mem_of_getElem? (i := 562) (by decide +kernel), List.mem_of_getElem? (i := 778) (by decide +kernel), List.mem_of_getElem? (i := 779) (by decide +kernel)⟩
theorem lw_p36 : lw_okq (⟨"BassRealiserModel", "take", "(II[I)V"⟩, 26) := ⟨⟨by decide +kernel, by decide +kernel⟩, List.mem_of_getElem? (i := 562) (by decide +kernel), List.mem_of_getElem? (i := 782) (by decide +kernel), List.mem_of_getElem? (i := 783) (by decide +kernel)⟩
theorem lw_p37 : lw_okq (⟨"BassRealiserModel", "pairRule", "(I)I"⟩, 26) := ⟨⟨by decide +kernel, by decide +kernel⟩, List.mem_of_getElem? (i := 562) (by decide +kernel), List.mem_of_getElem? (i := 786) (by decide +kernel), List.mem_of_getElem? (i := 787) (by decide +kernel)⟩
theorem lw_p38 : lw_okq (⟨"BassRealiserModel", "isParallel", "(II)Z"⟩, 26) := ⟨⟨by decide +kernel, by decide +kernel⟩, List.mem_of_getElem? (i := 562) (by decide +kernel), List.mem_of_getElem? (i := 793) (by decide +kernel), List.mem_of_getElem? (i := 794) (by decide +kernel)⟩
theorem lw_p39 : lw_okq (⟨"BassRealiserModel", "layBack", "()V"⟩, 26) := ⟨⟨by decide +kernel, by decide +kernel⟩, List.mem_of_getElem? (i := 562) (by decide +kernel), List.mem_of_getElem? (i := 798) (by decide +kernel), List.mem_of_getElem? (i := 799) (by decide +kernel)⟩
theorem lw_p40 : lw_okq (⟨"BassRealiserModel", "cost", "(I)I"⟩, 26) := ⟨⟨by decide +kernel, by decide +kernel⟩, List.mem_of_getElem? (i := 562) (by decide +kernel), List.mem_of_getElem? (i := 803) (by decide +kernel), List.mem_of_getElem? (i := 804) (by decide +kernel)⟩
theorem lw_p41 : lw_okq (⟨"BassRealiserModel", "best", "(I[I)I"⟩, 26) := ⟨⟨by decide +kernel, by decide +kernel⟩, List.mem_of_getElem? (i := 562) (by decide +kernel), List.mem_of_getElem? (i := 815) (by decide +kernel), List.mem_of_getElem? (i := 816) (by decide +kernel)⟩
theorem lw_p42 : lw_okq (⟨"BassRealiserModel", "faultOf", "(I)I"⟩, 26) := ⟨⟨by decide +kernel, by decide +kernel⟩, List.mem_of_getElem? (i := 562) (by decide +kernel), List.mem_of_getElem? (i := 836) (by decide +kernel), List.mem_of_getElem? (i := 837) (by decide +kernel)⟩
theorem lw_p43 : lw_okq (⟨"BassRealiserModel", "takeSung", "(I[I)V"⟩, 26) := ⟨⟨by decide +kernel, by decide +kernel⟩, List.mem_of_getElem? (i := 562) (by decide +kernel), List.mem_of_getElem? (i := 840) (by decide +kernel), List.mem_of_getElem? (i := 841) (by decide +kernel)⟩
def lw_privs_3 : List (MethodName × Nat) := [(⟨"BassRealiserModel", "tryAll", "(I)V"⟩, 26), (⟨"BassRealiserModel", "look", "(I)V"⟩, 26), (⟨"BassRealiserModel", "aloneRule", "(I)I"⟩, 26), (⟨"BassRealiserModel", "classes", "()I"⟩, 26), (⟨"BassRealiserModel", "take", "(II[I)V"⟩, 26), (⟨"BassRealiserModel", "pairRule", "(I)I"⟩, 26), (⟨"BassRealiserModel", "isParallel", "(II)Z"⟩, 26), (⟨"BassRealiserModel", "layBack", "()V"⟩, 26), (⟨"BassRealiserModel", "cost", "(I)I"⟩, 26), (⟨"BassRealiserModel", "best", "(I[I)I"⟩, 26), (⟨"BassRealiserModel", "faultOf", "(I)I"⟩, 26), (⟨"BassRealiserModel", "takeSung", "(I[I)V"⟩, 26)]
theorem lw_r3 : ∀ q ∈ lw_privs_3, lw_okq q := List.forall_mem_cons.mpr ⟨lw_p32, List.forall_mem_cons.mpr ⟨lw_p33, List.forall_mem_cons.mpr ⟨lw_p34, List.forall_mem_cons.mpr ⟨lw_p35, List.forall_mem_cons.mpr ⟨lw_p36, List.forall_mem_cons.mpr ⟨lw_p37, List.forall_mem_cons.mpr ⟨lw_p38, List.forall_mem_cons.mpr ⟨lw_p39, List.forall_mem_cons.mpr ⟨lw_p40, List.forall_mem_cons.mpr ⟨lw_p41, List.forall_mem_cons.mpr ⟨lw_p42, List.forall_mem_cons.mpr ⟨lw_p43, fun _ h => absurd h List.not_mem_nil⟩⟩⟩⟩⟩⟩⟩⟩⟩⟩⟩⟩
def lw_privs : List (MethodName × Nat) := lw_privs_1 ++ (lw_privs_2 ++ (lw_privs_3))
def lw_tbl : List Cond := k2_sels lw_privs ++ tables_1
theorem lw_privs_ok : ∀ q ∈ lw_privs, lw_okq q := by
  show ∀ q ∈ lw_privs_1 ++ (lw_privs_2 ++ (lw_privs_3)), lw_okq q
  exact List.forall_mem_append.mpr ⟨lw_r1, List.forall_mem_append.mpr ⟨lw_r2, lw_r3⟩⟩
def R_law : String := "BassRealiserLaw"
def lw_P (b : Addr) (xs : List Int32) (args : Array Value) (s : State) : Prop := args = #[.ref b] ∧ s.IntsAt b xs ∧ xs.length ≤ 2560 ∧ (Jvm.Cond.and given_1 narrow_1).before args s = true
def lw_Q (_ : Array Value) (s : State) (o : Outcome) (t : State) : Prop := o = .returned (some (.int 1)) ∧ Framed s o t [] 600000 7302250
def lw_Z (below : List Frame) (a : Array Value) (s : State) : State → Prop := fun t => ∃ o, t.status = .running ∧ Ended t below o ∧ lw_Q a s o t
theorem lw_ret {p : Program} {l : Launch} {e : Env} {s : State} {m : MethodId} {below : List Frame} {meth : Method} {c : Code} {b : Nat} (hx : p.tables.exec = Jvm.exec) (hb : c.code = code) (hr : meth.sig.returnType = ret) (hlocks : meth.locks = false) {pc : Nat} {H : Heap} {ls : Array Slot} (hdg : decode code pc = .ok (.ireturn, 1)) : W p l e room_1 s m #[Value.ref b] below meth c H [] 600000 7302250 (lw_Z below #[Value.ref b] s) (F0 m pc ls [.int 1]) := by
  intro T hT X
  obtain ⟨fs, hret, hrun, hended, hW, hframe⟩ := X.leave (v := some (.int 1)) (hlocks := hlocks) (fun h => by rw [hr] at h; cases h)
  have hmeth' : T.vm.method? m = some meth := X.method'
  refine ⟨T.setFrames fs, ?_, .returned (some (.int 1)), hrun, hended, rfl, ⟨_, rfl⟩, hW, hframe⟩
  jvm_step X.here [X.here.top, hx, hb, hdg, hmeth', hr, ret, narrow_b1]
  (try refine ⟨rfl, ?_⟩); (try refine ⟨rfl, ?_⟩)
  first | (intro acts; rw [hret _ acts rfl rfl rfl]) | rw [hret _ _ rfl rfl rfl]
  exact Steps.refl _
def lw_At (p : Program) (s : State) (m : MethodId) (meth : Method) (c : Code) (b L : Nat) (xs : Nat → Int32) : Prop :=
  p.tables.exec = Jvm.exec ∧ c.code = code ∧ meth.sig.returnType = ret ∧ c.maxLocals = 4 ∧ s.vm.findClass R_law = some m.cls ∧ (∀ w ∈ lw_tbl, w.before #[Value.ref b] s = true) ∧ va_X b L xs s s.heap ∧ b < s.heap.size ∧ meth.locks = false ∧ (Jvm.Cond.and given_1 narrow_1).before #[Value.ref b] s = true

def lw_okw (w : Cond) : Bool := (w.onTables && w.keeps) || (match w with | .arrayClass _ => true | _ => false)
def lw_good : List Cond := lw_tbl.filter lw_okw
theorem lw_good_ok : ∀ w ∈ lw_good, (w.onTables && w.keeps) = true ∨ ∃ ty, w = .arrayClass ty := by
  intro w hw
  have h := (List.mem_filter.mp hw).2
  unfold lw_okw at h
  rcases Bool.or_eq_true_iff.mp h with h | h
  · exact Or.inl h
  · right
    split at h
    · exact ⟨_, rfl⟩
    · cases h
theorem lw_in {w : Cond} (h : w ∈ tables_1) (hk : lw_okw w = true) : w ∈ lw_good := List.mem_filter.mpr ⟨List.mem_append_right _ h, hk⟩
theorem lw_inS {w : Cond} (h : w ∈ k2_sels lw_privs) (hk : lw_okw w = true) : w ∈ lw_good := List.mem_filter.mpr ⟨List.mem_append_left _ h, hk⟩
theorem lw_in_1 {w : Cond} (i : Nat) (h : tables_1_1[i]? = some w) (hk : lw_okw w = true) : w ∈ lw_good := lw_in (show w ∈ tables_1_1 ++ (tables_1_2 ++ (tables_1_3 ++ (tables_1_4))) from List.mem_append_left _ (List.mem_of_getElem? h)) hk
theorem lw_in_2 {w : Cond} (i : Nat) (h : tables_1_2[i]? = some w) (hk : lw_okw w = true) : w ∈ lw_good := lw_in (show w ∈ tables_1_1 ++ (tables_1_2 ++ (tables_1_3 ++ (tables_1_4))) from List.mem_append_right _ (List.mem_append_left _ (List.mem_of_getElem? h))) hk
theorem lw_in_3 {w : Cond} (i : Nat) (h : tables_1_3[i]? = some w) (hk : lw_okw w = true) : w ∈ lw_good := lw_in (show w ∈ tables_1_1 ++ (tables_1_2 ++ (tables_1_3 ++ (tables_1_4))) from List.mem_append_right _ (List.mem_append_right _ (List.mem_append_left _ (List.mem_of_getElem? h)))) hk
theorem lw_in_4 {w : Cond} (i : Nat) (h : tables_1_4[i]? = some w) (hk : lw_okw w = true) : w ∈ lw_good := lw_in (show w ∈ tables_1_1 ++ (tables_1_2 ++ (tables_1_3 ++ (tables_1_4))) from List.mem_append_right _ (List.mem_append_right _ (List.mem_append_right _ (List.mem_of_getElem? h)))) hk
end
section
def T_0 : u_T := fun k => match k with
  | 0 => ("BassRealiser$Chord", "letter", "I", false)
  | 1 => ("BassRealiser$Chord", "bass", "I", false)
  | 2 => ("BassRealiser$Chord", "told", "I", false)
  | 3 => ("BassRealiser$Chord", "work", "I", false)
  | 4 => ("BassRealiser$Chord", "signs", "[I", true)
  | 5 => ("BassRealiser$Chord", "fixed", "[I", true)
  | 6 => ("BassRealiser$Chord", "handmade", "I", false)
  | 7 => ("BassRealiser$Chord", "toneClasses", "I", false)
  | 8 => ("BassRealiser$Chord", "classes", "I", false)
  | 9 => ("BassRealiser$Chord", "suspended", "I", false)
  | _ => ("BassRealiser$Chord", "falling", "I", false)
def tf_0 : Nat → FieldType := fun k => match k with
  | 0 => .int
  | 1 => .int
  | 2 => .int
  | 3 => .int
  | 4 => .array .int
  | 5 => .array .int
  | 6 => .int
  | 7 => .int
  | 8 => .int
  | 9 => .int
  | _ => .int
theorem tf_0_ok : ∀ k, k < 11 → parseFieldDescriptor (T_0 k).2.2.1 = some (tf_0 k) := by decide +kernel
theorem nm_0 : ∀ a, a < 11 → ∀ b, b < 11 → a ≠ b → (T_0 a).2.1 ≠ (T_0 b).2.1 := by decide +kernel
def T_1 : u_T := fun k => match k with
  | 0 => ("BassRealiser$Column", "voicings", "[I", true)
  | 1 => ("BassRealiser$Column", "reached", "[Z", true)
  | 2 => ("BassRealiser$Column", "ways", "[I", true)
  | 3 => ("BassRealiser$Column", "rest", "[I", true)
  | 4 => ("BassRealiser$Column", "size", "I", false)
  | _ => ("BassRealiser$Column", "fresh", "Z", false)
def tf_1 : Nat → FieldType := fun k => match k with
  | 0 => .array .int
  | 1 => .array .boolean
  | 2 => .array .int
  | 3 => .array .int
  | 4 => .int
  | _ => .boolean
theorem tf_1_ok : ∀ k, k < 6 → parseFieldDescriptor (T_1 k).2.2.1 = some (tf_1 k) := by decide +kernel
theorem nm_1 : ∀ a, a < 6 → ∀ b, b < 6 → a ≠ b → (T_1 a).2.1 ≠ (T_1 b).2.1 := by decide +kernel
def T_2 : u_T := fun k => match k with
  | 0 => ("BassRealiser$Move", "from", "[I", true)
  | 1 => ("BassRealiser$Move", "to", "[I", true)
  | 2 => ("BassRealiser$Move", "steps", "[I", true)
  | 3 => ("BassRealiser$Move", "wasSuspended", "I", false)
  | 4 => ("BassRealiser$Move", "wasFalling", "I", false)
  | _ => ("BassRealiser$Move", "isSuspended", "I", false)
def tf_2 : Nat → FieldType := fun k => match k with
  | 0 => .array .int
  | 1 => .array .int
  | 2 => .array .int
  | 3 => .int
  | 4 => .int
  | _ => .int
theorem tf_2_ok : ∀ k, k < 6 → parseFieldDescriptor (T_2 k).2.2.1 = some (tf_2 k) := by decide +kernel
theorem nm_2 : ∀ a, a < 6 → ∀ b, b < 6 → a ≠ b → (T_2 a).2.1 ≠ (T_2 b).2.1 := by decide +kernel
def T_3 : u_T := fun k => match k with
  | 0 => ("BassRealiser$Rules", "low", "[I", true)
  | 1 => ("BassRealiser$Rules", "high", "[I", true)
  | 2 => ("BassRealiser$Rules", "homes", "[I", true)
  | 3 => ("BassRealiser$Rules", "leap", "I", false)
  | _ => ("BassRealiser$Rules", "fifths", "I", false)
def tf_3 : Nat → FieldType := fun k => match k with
  | 0 => .array .int
  | 1 => .array .int
  | 2 => .array .int
  | 3 => .int
  | _ => .int
theorem tf_3_ok : ∀ k, k < 5 → parseFieldDescriptor (T_3 k).2.2.1 = some (tf_3 k) := by decide +kernel
theorem nm_3 : ∀ a, a < 5 → ∀ b, b < 5 → a ≠ b → (T_3 a).2.1 ≠ (T_3 b).2.1 := by decide +kernel
def T_4 : u_T := fun k => match k with
  | 0 => ("BassRealiser$Search", "chords", "[LBassRealiser$Chord;", true)
  | 1 => ("BassRealiser$Search", "rules", "LBassRealiser$Rules;", true)
  | 2 => ("BassRealiser$Search", "columns", "[LBassRealiser$Column;", true)
  | 3 => ("BassRealiser$Search", "move", "LBassRealiser$Move;", true)
  | 4 => ("BassRealiser$Search", "best", "[I", true)
  | 5 => ("BassRealiser$Search", "failed", "I", false)
  | 6 => ("BassRealiser$Search", "cost", "I", false)
  | 7 => ("BassRealiser$Search", "ways", "I", false)
  | _ => ("BassRealiser$Search", "settled", "Z", false)
def tf_4 : Nat → FieldType := fun k => match k with
  | 0 => .array (.object "BassRealiser$Chord")
  | 1 => .object "BassRealiser$Rules"
  | 2 => .array (.object "BassRealiser$Column")
  | 3 => .object "BassRealiser$Move"
  | 4 => .array .int
  | 5 => .int
  | 6 => .int
  | 7 => .int
  | _ => .boolean
theorem tf_4_ok : ∀ k, k < 9 → parseFieldDescriptor (T_4 k).2.2.1 = some (tf_4 k) := by decide +kernel
theorem nm_4 : ∀ a, a < 9 → ∀ b, b < 9 → a ≠ b → (T_4 a).2.1 ≠ (T_4 b).2.1 := by decide +kernel
def T_5 : u_T := fun k => match k with
  | 0 => ("BassRealiser", "search", "LBassRealiser$Search;", true)
  | 1 => ("BassRealiser", "chords", "[LBassRealiser$Chord;", true)
  | 2 => ("BassRealiser", "rules", "LBassRealiser$Rules;", true)
  | 3 => ("BassRealiser", "move", "LBassRealiser$Move;", true)
  | _ => ("BassRealiser", "size", "I", false)
def tf_5 : Nat → FieldType := fun k => match k with
  | 0 => .object "BassRealiser$Search"
  | 1 => .array (.object "BassRealiser$Chord")
  | 2 => .object "BassRealiser$Rules"
  | 3 => .object "BassRealiser$Move"
  | _ => .int
theorem tf_5_ok : ∀ k, k < 5 → parseFieldDescriptor (T_5 k).2.2.1 = some (tf_5 k) := by decide +kernel
theorem nm_5 : ∀ a, a < 5 → ∀ b, b < 5 → a ≠ b → (T_5 a).2.1 ≠ (T_5 b).2.1 := by decide +kernel
def T_6 : u_T := fun k => match k with
  | 0 => ("BassRealiserModel", "thrown", "I", false)
  | 1 => ("BassRealiserModel", "fifths", "I", false)
  | 2 => ("BassRealiserModel", "chords", "I", false)
  | 3 => ("BassRealiserModel", "letter", "[I", true)
  | 4 => ("BassRealiserModel", "octave", "[I", true)
  | 5 => ("BassRealiserModel", "alter", "[I", true)
  | 6 => ("BassRealiserModel", "told", "[I", true)
  | 7 => ("BassRealiserModel", "low", "[I", true)
  | 8 => ("BassRealiserModel", "high", "[I", true)
  | 9 => ("BassRealiserModel", "home", "[I", true)
  | 10 => ("BassRealiserModel", "leap", "I", false)
  | 11 => ("BassRealiserModel", "given", "[I", true)
  | 12 => ("BassRealiserModel", "hand", "[I", true)
  | 13 => ("BassRealiserModel", "isSung", "[Z", true)
  | 14 => ("BassRealiserModel", "now", "[I", true)
  | 15 => ("BassRealiserModel", "before", "[I", true)
  | 16 => ("BassRealiserModel", "tones", "[I", true)
  | 17 => ("BassRealiserModel", "suspended", "[I", true)
  | 18 => ("BassRealiserModel", "falling", "[I", true)
  | 19 => ("BassRealiserModel", "isLaid", "Z", false)
  | 20 => ("BassRealiserModel", "pitch", "[I", true)
  | 21 => ("BassRealiserModel", "size", "[I", true)
  | 22 => ("BassRealiserModel", "rest", "[I", true)
  | 23 => ("BassRealiserModel", "rows", "[J", true)
  | 24 => ("BassRealiserModel", "failed", "I", false)
  | _ => ("BassRealiserModel", "chosen", "[I", true)
def tf_6 : Nat → FieldType := fun k => match k with
  | 0 => .int
  | 1 => .int
  | 2 => .int
  | 3 => .array .int
  | 4 => .array .int
  | 5 => .array .int
  | 6 => .array .int
  | 7 => .array .int
  | 8 => .array .int
  | 9 => .array .int
  | 10 => .int
  | 11 => .array .int
  | 12 => .array .int
  | 13 => .array .boolean
  | 14 => .array .int
  | 15 => .array .int
  | 16 => .array .int
  | 17 => .array .int
  | 18 => .array .int
  | 19 => .boolean
  | 20 => .array .int
  | 21 => .array .int
  | 22 => .array .int
  | 23 => .array .long
  | 24 => .int
  | _ => .array .int
theorem tf_6_ok : ∀ k, k < 26 → parseFieldDescriptor (T_6 k).2.2.1 = some (tf_6 k) := by decide +kernel
theorem nm_6 : ∀ a, a < 26 → ∀ b, b < 26 → a ≠ b → (T_6 a).2.1 ≠ (T_6 b).2.1 := by decide +kernel
abbrev vwCl : List vw_C := [("BassRealiser$Chord", T_0, 11), ("BassRealiser$Column", T_1, 6), ("BassRealiser$Move", T_2, 6), ("BassRealiser$Rules", T_3, 5), ("BassRealiser$Search", T_4, 9), ("BassRealiser", T_5, 5), ("BassRealiserModel", T_6, 26)]
end
section
abbrev MV : Type := Int32 ⊕ Option Nat
abbrev MA : Type := Nat × ((Nat → Int32) ⊕ (Nat → Int64) ⊕ (Nat → Option Nat))
abbrev MC : Type := (Nat × List MV) ⊕ (Nat × MA)
abbrev MH : Type := Nat × (Nat → MC)
abbrev mG : Type := va_G × (Nat → ClassId) × (Nat → Nat) × Nat
abbrev m_b (G : mG) : Nat := G.2.2.2
abbrev m_s (G : mG) (t : Nat) : Nat := G.2.2.1 t
def m_r (b : Nat) (r : Option Nat) : Option Nat := r.map (fun k => b + k)
def trV (b : Nat) (x : MV) : Value := match x with
  | .inl i => .int i
  | .inr r => va_rf (m_r b r)
def trA (b : Nat) (a : MA) : vp_A := match a with
  | (n, .inl f) => (n, .inl f)
  | (n, .inr (.inl f)) => (n, .inr (.inl f))
  | (n, .inr (.inr f)) => (n, .inr (.inr (.inr (.inr (fun j => m_r b (f j))))))
def trC (b : Nat) (cA : Nat → ClassId) (x : MC) : va_E := match x with
  | .inl o => .inr (o.1, o.2.map (trV b))
  | .inr a => .inl (cA a.1, trA b a.2)
def wl (G : mG) (h : MH) : va_W := (List.range h.1).map (fun k => (m_b G + k, trC (m_b G) G.2.1 (h.2 k)))
def mA (G : mG) : Nat → Prop := fun q => m_b G ≤ q
def gF (h : MH) (k ci j : Nat) : Option MV := if k < h.1 then (match h.2 k with | .inl o => if o.1 = ci then o.2[j]? else none | .inr _ => none) else none
def gC (h : MH) (k : Nat) : Option Nat := if k < h.1 then (match h.2 k with | .inl o => some o.1 | .inr _ => none) else none
def gX (h : MH) (k t : Nat) : Option MA := if k < h.1 then (match h.2 k with | .inl _ => none | .inr a => if a.1 = t then some a.2 else none) else none
def gA (h : MH) (k t : Nat) : Option (Nat × (Nat → Int32)) := match gX h k t with | some (n, .inl f) => some (n, f) | _ => none
def gL (h : MH) (k t : Nat) : Option (Nat × (Nat → Int64)) := match gX h k t with | some (n, .inr (.inl f)) => some (n, f) | _ => none
def gR (h : MH) (k t : Nat) : Option (Nat × (Nat → Option Nat)) := match gX h k t with | some (n, .inr (.inr f)) => some (n, f) | _ => none
def mset (h : MH) (k : Nat) (x : MC) : MH := (h.1, va_up h.2 k x)
def mnew (h : MH) (x : MC) : MH := (h.1 + 1, va_up h.2 h.1 x)
def fset (h : MH) (k j : Nat) (x : MV) : MH := match h.2 k with
  | .inl o => mset h k (.inl (o.1, o.2.set j x))
  | .inr _ => h
theorem gF_spec {h : MH} {k ci j : Nat} {x : MV} (e : gF h k ci j = some x) : k < h.1 ∧ ∃ fs : List MV, h.2 k = .inl (ci, fs) ∧ fs[j]? = some x := by
  unfold gF at e
  split at e
  · rename_i hk
    refine ⟨hk, ?_⟩
    split at e
    · rename_i o ho
      split at e
      · rename_i hc
        exact ⟨o.2, by rw [ho, ← hc], e⟩
      · cases e
    · cases e
  · cases e
theorem gC_spec {h : MH} {k ci : Nat} (e : gC h k = some ci) : k < h.1 ∧ ∃ fs : List MV, h.2 k = .inl (ci, fs) := by
  unfold gC at e
  split at e
  · rename_i hk
    refine ⟨hk, ?_⟩
    split at e
    · rename_i o ho
      cases e
      exact ⟨o.2, ho⟩
    · cases e
  · cases e
theorem gX_spec {h : MH} {k t : Nat} {a : MA} (e : gX h k t = some a) : k < h.1 ∧ h.2 k = .inr (t, a) := by
  unfold gX at e
  split at e
  · rename_i hk
    refine ⟨hk, ?_⟩
    split at e
    · cases e
    · rename_i a' ho
      split at e
      · rename_i hc
        cases e
        rw [ho, ← hc]
      · cases e
  · cases e
theorem gA_spec {h : MH} {k t n : Nat} {f : Nat → Int32} (e : gA h k t = some (n, f)) : k < h.1 ∧ h.2 k = .inr (t, n, .inl f) := by
  unfold gA at e
  split at e
  · rename_i n' f' he
    cases e
    exact gX_spec he
  · cases e
theorem gL_spec {h : MH} {k t n : Nat} {f : Nat → Int64} (e : gL h k t = some (n, f)) : k < h.1 ∧ h.2 k = .inr (t, n, .inr (.inl f)) := by
  unfold gL at e
  split at e
  · rename_i n' f' he
    cases e
    exact gX_spec he
  · cases e
theorem gR_spec {h : MH} {k t n : Nat} {f : Nat → Option Nat} (e : gR h k t = some (n, f)) : k < h.1 ∧ h.2 k = .inr (t, n, .inr (.inr f)) := by
  unfold gR at e
  split at e
  · rename_i n' f' he
    cases e
    exact gX_spec he
  · cases e
theorem gF_of {h : MH} {k ci j : Nat} {fs : List MV} {x : MV} (hk : k < h.1) (e : h.2 k = .inl (ci, fs)) (hj : fs[j]? = some x) : gF h k ci j = some x := by
  simp [gF, hk, e, hj]
theorem gC_of {h : MH} {k ci : Nat} {fs : List MV} (hk : k < h.1) (e : h.2 k = .inl (ci, fs)) : gC h k = some ci := by
  simp [gC, hk, e]
theorem gA_of {h : MH} {k t n : Nat} {f : Nat → Int32} (hk : k < h.1) (e : h.2 k = .inr (t, n, .inl f)) : gA h k t = some (n, f) := by
  simp [gA, gX, hk, e]
theorem gL_of {h : MH} {k t n : Nat} {f : Nat → Int64} (hk : k < h.1) (e : h.2 k = .inr (t, n, .inr (.inl f))) : gL h k t = some (n, f) := by
  simp [gL, gX, hk, e]
theorem gR_of {h : MH} {k t n : Nat} {f : Nat → Option Nat} (hk : k < h.1) (e : h.2 k = .inr (t, n, .inr (.inr f))) : gR h k t = some (n, f) := by
  simp [gR, gX, hk, e]
theorem wl_len (G : mG) (h : MH) : (wl G h).length = h.1 := by simp [wl]
theorem wl_get (G : mG) {h : MH} {k : Nat} (hk : k < h.1) : (wl G h)[k]? = some (m_b G + k, trC (m_b G) G.2.1 (h.2 k)) := by
  simp [wl, hk]
theorem wl_of {G : mG} {h : MH} {k : Nat} {q : Nat × va_E} (e : (wl G h)[k]? = some q) : k < h.1 ∧ q = (m_b G + k, trC (m_b G) G.2.1 (h.2 k)) := by
  have hk : k < h.1 := by
    have := (List.getElem?_eq_some_iff.mp e).1
    rwa [wl_len] at this
  rw [wl_get G hk] at e
  exact ⟨hk, (Option.some.inj e).symm⟩
theorem wl_set (G : mG) {h : MH} {k : Nat} (hk : k < h.1) (x : MC) : (wl G h).set k (m_b G + k, trC (m_b G) G.2.1 x) = wl G (mset h k x) := by
  apply List.ext_getElem?
  intro j
  rw [List.getElem?_set]
  by_cases hj : j < h.1
  · rw [wl_get G (h := mset h k x) (show j < (mset h k x).1 from hj)]
    by_cases e : k = j
    · subst e
      simp [wl_len, hk, mset, va_up]
    · rw [if_neg e, wl_get G hj]
      simp [mset, va_up, Ne.symm e]
  · have h1 : (wl G h)[j]? = none := by rw [List.getElem?_eq_none_iff, wl_len]; omega
    have h2 : (wl G (mset h k x))[j]? = none := by rw [List.getElem?_eq_none_iff, wl_len]; exact Nat.le_of_not_lt hj
    rw [h2, if_neg (by omega), h1]
theorem wl_push (G : mG) (h : MH) (x : MC) : wl G h ++ [(m_b G + h.1, trC (m_b G) G.2.1 x)] = wl G (mnew h x) := by
  unfold wl mnew
  rw [List.range_succ, List.map_append]
  congr 1
  · apply List.map_congr_left
    intro j hj
    have := List.mem_range.mp hj
    simp [va_up, Nat.ne_of_lt this]
  · simp [va_up]
theorem wl_D (G : mG) (h : MH) : va_D (mA G) (wl G h) := by
  refine ⟨fun i j x y hi hj hxy => ?_, fun k q hk => ?_⟩
  · obtain ⟨-, rfl⟩ := wl_of hi
    obtain ⟨-, rfl⟩ := wl_of hj
    simp at hxy
    exact hxy
  · obtain ⟨-, rfl⟩ := wl_of hk
    exact Nat.le_add_right _ _
def m_tys (G : mG) : List (ClassId × FieldType) := [(G.2.1 0, .int), (G.2.1 1, .boolean), (G.2.1 2, .long), (G.2.1 3, .object "BassRealiser$Chord"), (G.2.1 4, .object "BassRealiser$Column")]
def m_nS : Nat := 3
def m_sC (_ : Nat) : String := "BassRealiser"
def m_sF (t : Nat) : String := match t with
  | 0 => "STEPS"
  | 1 => "SHARPS"
  | _ => "FLATS"
def m_sL (t : Nat) : List Int32 := match t with
  | 0 => [0, 2, 4, 5, 7, 9, 11]
  | 1 => [3, 0, 4, 1, 5, 2, 6]
  | _ => [6, 2, 5, 1, 4, 0, 3]
def m_sN (t : Nat) : Nat := (m_sL t).length
def m_sV (t j : Nat) : Int32 := (m_sL t).getD j 0
def m_nest : List Cond := [(Jvm.Cond.methodLinkNest "BassRealiser$Chord" (76 : Nat) ({ cls := "BassRealiser", name := "keyAlter", desc := "(II)I" } : Jvm.MethodName) "BassRealiser"),
  (Jvm.Cond.fieldLinkNest "BassRealiser$Chord" (25 : Nat) "BassRealiser" "STEPS" "[I" "BassRealiser"),
  (Jvm.Cond.methodLinkNest "BassRealiser$Chord" (64 : Nat) ({ cls := "BassRealiser", name := "classBit", desc := "(I)I" } : Jvm.MethodName) "BassRealiser"),
  (Jvm.Cond.methodLinkNest "BassRealiser$Rules" (28 : Nat) ({ cls := "BassRealiser", name := "pitchOf", desc := "(II)I" } : Jvm.MethodName) "BassRealiser"),
  (Jvm.Cond.methodLinkNest "BassRealiser$Rules" (42 : Nat) ({ cls := "BassRealiser", name := "classBit", desc := "(I)I" } : Jvm.MethodName) "BassRealiser"),
  (Jvm.Cond.methodLinkNest "BassRealiser$Column" (63 : Nat) ({ cls := "BassRealiser", name := "pack", desc := "(III)I" } : Jvm.MethodName) "BassRealiser"),
  (Jvm.Cond.methodLinkNest "BassRealiser$Move" (21 : Nat) ({ cls := "BassRealiser", name := "pitchOf", desc := "(II)I" } : Jvm.MethodName) "BassRealiser"),
  (Jvm.Cond.methodLinkNest "BassRealiser$Move" (70 : Nat) ({ cls := "BassRealiser", name := "classBit", desc := "(I)I" } : Jvm.MethodName) "BassRealiser"),
  (Jvm.Cond.methodLinkNest "BassRealiser$Move" (73 : Nat) ({ cls := "BassRealiser", name := "within", desc := "(III)Z" } : Jvm.MethodName) "BassRealiser")]
theorem m_nest_on : ∀ w ∈ m_nest, w.onTables = true := by decide +kernel
theorem m_nest_warm {s U : State} (hW : s.WarmedH U.vm) : ∀ w ∈ m_nest, va_Nw w s → va_Nw w U := List.forall_mem_cons.mpr ⟨va_Nw.warmM hW, List.forall_mem_cons.mpr ⟨va_Nw.warmF hW, List.forall_mem_cons.mpr ⟨va_Nw.warmM hW, List.forall_mem_cons.mpr ⟨va_Nw.warmM hW, List.forall_mem_cons.mpr ⟨va_Nw.warmM hW, List.forall_mem_cons.mpr ⟨va_Nw.warmM hW, List.forall_mem_cons.mpr ⟨va_Nw.warmM hW, List.forall_mem_cons.mpr ⟨va_Nw.warmM hW, List.forall_mem_cons.mpr ⟨va_Nw.warmM hW, fun _ h => absurd h List.not_mem_nil⟩⟩⟩⟩⟩⟩⟩⟩⟩
theorem nw_0 : (Jvm.Cond.methodLinkNest "BassRealiser$Chord" (76 : Nat) ({ cls := "BassRealiser", name := "keyAlter", desc := "(II)I" } : Jvm.MethodName) "BassRealiser") ∈ m_nest := List.mem_of_getElem? (i := 0) rfl
theorem nw_1 : (Jvm.Cond.fieldLinkNest "BassRealiser$Chord" (25 : Nat) "BassRealiser" "STEPS" "[I" "BassRealiser") ∈ m_nest := List.mem_of_getElem? (i := 1) rfl
theorem nw_2 : (Jvm.Cond.methodLinkNest "BassRealiser$Chord" (64 : Nat) ({ cls := "BassRealiser", name := "classBit", desc := "(I)I" } : Jvm.MethodName) "BassRealiser") ∈ m_nest := List.mem_of_getElem? (i := 2) rfl
theorem nw_3 : (Jvm.Cond.methodLinkNest "BassRealiser$Rules" (28 : Nat) ({ cls := "BassRealiser", name := "pitchOf", desc := "(II)I" } : Jvm.MethodName) "BassRealiser") ∈ m_nest := List.mem_of_getElem? (i := 3) rfl
theorem nw_4 : (Jvm.Cond.methodLinkNest "BassRealiser$Rules" (42 : Nat) ({ cls := "BassRealiser", name := "classBit", desc := "(I)I" } : Jvm.MethodName) "BassRealiser") ∈ m_nest := List.mem_of_getElem? (i := 4) rfl
theorem nw_5 : (Jvm.Cond.methodLinkNest "BassRealiser$Column" (63 : Nat) ({ cls := "BassRealiser", name := "pack", desc := "(III)I" } : Jvm.MethodName) "BassRealiser") ∈ m_nest := List.mem_of_getElem? (i := 5) rfl
theorem nw_6 : (Jvm.Cond.methodLinkNest "BassRealiser$Move" (21 : Nat) ({ cls := "BassRealiser", name := "pitchOf", desc := "(II)I" } : Jvm.MethodName) "BassRealiser") ∈ m_nest := List.mem_of_getElem? (i := 6) rfl
theorem nw_7 : (Jvm.Cond.methodLinkNest "BassRealiser$Move" (70 : Nat) ({ cls := "BassRealiser", name := "classBit", desc := "(I)I" } : Jvm.MethodName) "BassRealiser") ∈ m_nest := List.mem_of_getElem? (i := 7) rfl
theorem nw_8 : (Jvm.Cond.methodLinkNest "BassRealiser$Move" (73 : Nat) ({ cls := "BassRealiser", name := "within", desc := "(III)Z" } : Jvm.MethodName) "BassRealiser") ∈ m_nest := List.mem_of_getElem? (i := 8) rfl
def m_aos : List String := ["BassRealiser$Chord", "BassRealiser$Column"]
def m_St (G : mG) (U : State) (H : Heap) : Prop := (∀ t, t < m_nS → va_Z (m_sC t) (m_sF t) "[I" (.ref (m_s G t)) (mA G) U H ∧ va_T .int (m_s G t) (m_sN t) (fun j => .int (m_sV t j)) (mA G) U H) ∧ (∀ w ∈ m_nest, va_Nw w U) ∧ ∀ C ∈ m_aos, va_AO C U
theorem m_St.warm {G : mG} {s U : State} {H : Heap} (hW : s.WarmedH U.vm) (h : m_St G s H) : m_St G U H := ⟨fun t ht => ⟨(h.1 t ht).1.moved hW.alike, (h.1 t ht).2.moved hW.alike⟩, fun w hw => m_nest_warm hW w hw (h.2.1 w hw), fun C hC => (h.2.2 C hC).moved hW.alike⟩
theorem m_St.same {G : mG} {u U : State} (hvm : u.vm = U.vm) (hh : u.heap = U.heap) (h : m_St G u u.heap) : m_St G U U.heap := by
  have ha : u.vm.Alike U.vm := by rw [hvm]; exact Vm.Alike.refl _
  rw [← hh]
  exact ⟨fun t ht => ⟨(h.1 t ht).1.moved ha, (h.1 t ht).2.moved ha⟩, fun w hw => va_Nw.same (m_nest_on w hw) hvm (h.2.1 w hw), fun C hC => (h.2.2 C hC).moved ha⟩
theorem m_St.kept {G : mG} {U : State} {H H1 : Heap} (h : m_St G U H) (hq : ∀ a : Nat, a < H.size → ¬ mA G a → H1[a]? = H[a]?) : m_St G U H1 := ⟨fun t ht => ⟨(h.1 t ht).1.kept hq, (h.1 t ht).2.kept hq⟩, h.2⟩
def Wd (G : mG) (h : MH) (U : State) : Prop := va_P G.1 vwCl (wl G h) U.heap ∧ U.heap.size = m_b G + h.1 ∧ va_K G.1 vwCl (m_tys G) U ∧ m_St G U U.heap
def Wo (G : mG) (s : State) (h : MH) (H : Heap) (locs : List Loc) : Prop := va_P G.1 vwCl (wl G h) H ∧ H.size = m_b G + h.1 ∧ va_S (mA G) s.heap H locs
def Cx (G : mG) (p : Program) (s : State) (m : MethodId) (args : Array Value) (c : Code) (cc : ByteArray) (nL : Nat) (own : String) : Prop := CallFix p m c cc nL s args lw_good own ∧ va_K G.1 vwCl (m_tys G) s ∧ m_St G s s.heap ∧ m_b G ≤ s.heap.size
def WG (p : Program) (l : Launch) (e : Env) (R : Room) (s : State) (m : MethodId) (args : Array Value) (below : List Frame) (meth : Method) (c : Code) (cells slots : Nat) (Q : State → Prop) (G : mG) (nL : Nat) (lv : List (Nat × Value)) (pc : Nat) (st : List Value) (h : MH) : Prop :=
  ∀ (H : Heap) (locs : List Loc) (ls : Array Slot), Wo G s h H locs → lv_has ls nL lv → W p l e R s m args below meth c H locs cells slots Q (F0 m pc ls st)
section MR
variable {p : Program} {l : Launch} {e : Env} {R : Room} {s : State} {m : MethodId} {args : Array Value} {below : List Frame} {meth : Method} {c : Code} {cells slots : Nat} {Q : State → Prop} {G : mG} {cc : ByteArray} {nL : Nat} {own : String} {lv lv' : List (Nat × Value)} {pc : Nat} {st : List Value} {h : MH}
theorem Cx.ex (C0 : Cx G p s m args c cc nL own) : p.tables.exec = Jvm.exec := C0.1.1
theorem Cx.by (C0 : Cx G p s m args c cc nL own) : c.code = cc := C0.1.2.1
theorem Cx.ml (C0 : Cx G p s m args c cc nL own) : c.maxLocals = nL := C0.1.2.2.1
theorem Cx.ow (C0 : Cx G p s m args c cc nL own) : s.vm.findClass own = some m.cls := C0.1.2.2.2.1
theorem Cx.ts (C0 : Cx G p s m args c cc nL own) : ∀ w ∈ lw_good, w.before args s = true := C0.1.2.2.2.2
theorem Cx.K (C0 : Cx G p s m args c cc nL own) : va_K G.1 vwCl (m_tys G) s := C0.2.1
theorem Cx.St (C0 : Cx G p s m args c cc nL own) : m_St G s s.heap := C0.2.2.1
theorem Cx.A (C0 : Cx G p s m args c cc nL own) : ∀ q, s.heap.size ≤ q → mA G q := fun _ hq => Nat.le_trans C0.2.2.2 hq
theorem x_sub (ks : List Nat) (hl : lv_pick lv ks = lv') (k : WG p l e R s m args below meth c cells slots Q G nL lv' pc st h) : WG p l e R s m args below meth c cells slots Q G nL lv pc st h := fun H locs ls hw hv => k H locs ls hw (lv_sub hv ks hl)
theorem x_cs {cells' slots' : Nat} (h1 : cells ≤ cells') (h2 : slots ≤ slots') (k : WG p l e R s m args below meth c cells' slots' Q G nL lv pc st h) : WG p l e R s m args below meth c cells slots Q G nL lv pc st h := fun H locs ls hw hv => W.widen h1 h2 (k H locs ls hw hv)
theorem x_iconst (C0 : Cx G p s m args c cc nL own) {n : Int} {v : Int32} (hdg : decode cc pc = .ok (.iconst n, 1)) (hn : Int32.ofInt n = v) (k : WG p l e R s m args below meth c cells slots Q G nL lv (pc + 1) (.int v :: st) h) : WG p l e R s m args below meth c cells slots Q G nL lv pc (st) h := fun H locs ls hw hv => lv_iconst C0.ex C0.by hdg hn (k H locs ls hw hv)
theorem x_bipush (C0 : Cx G p s m args c cc nL own) {n : Int} {v : Int32} (hdg : decode cc pc = .ok (.bipush n, 2)) (hn : (Int8.ofInt n).toInt32 = v) (k : WG p l e R s m args below meth c cells slots Q G nL lv (pc + 2) (.int v :: st) h) : WG p l e R s m args below meth c cells slots Q G nL lv pc (st) h := fun H locs ls hw hv => lv_bipush C0.ex C0.by hdg hn (k H locs ls hw hv)
theorem x_sipush (C0 : Cx G p s m args c cc nL own) {n : Int} {v : Int32} (hdg : decode cc pc = .ok (.sipush n, 3)) (hn : (Int16.ofInt n).toInt32 = v) (k : WG p l e R s m args below meth c cells slots Q G nL lv (pc + 3) (.int v :: st) h) : WG p l e R s m args below meth c cells slots Q G nL lv pc (st) h := fun H locs ls hw hv => lv_sipush C0.ex C0.by hdg hn (k H locs ls hw hv)
theorem x_iadd (C0 : Cx G p s m args c cc nL own) {x y : Int32} (hdg : decode cc pc = .ok (.iadd, 1)) (k : WG p l e R s m args below meth c cells slots Q G nL lv (pc + 1) (.int (x + y) :: st) h) : WG p l e R s m args below meth c cells slots Q G nL lv pc (.int y :: .int x :: st) h := fun H locs ls hw hv => lv_iadd C0.ex C0.by hdg (k H locs ls hw hv)
theorem x_isub (C0 : Cx G p s m args c cc nL own) {x y : Int32} (hdg : decode cc pc = .ok (.isub, 1)) (k : WG p l e R s m args below meth c cells slots Q G nL lv (pc + 1) (.int (x - y) :: st) h) : WG p l e R s m args below meth c cells slots Q G nL lv pc (.int y :: .int x :: st) h := fun H locs ls hw hv => lv_isub C0.ex C0.by hdg (k H locs ls hw hv)
theorem x_imul (C0 : Cx G p s m args c cc nL own) {x y : Int32} (hdg : decode cc pc = .ok (.imul, 1)) (k : WG p l e R s m args below meth c cells slots Q G nL lv (pc + 1) (.int (x * y) :: st) h) : WG p l e R s m args below meth c cells slots Q G nL lv pc (.int y :: .int x :: st) h := fun H locs ls hw hv => lv_imul C0.ex C0.by hdg (k H locs ls hw hv)
theorem x_iand (C0 : Cx G p s m args c cc nL own) {x y : Int32} (hdg : decode cc pc = .ok (.iand, 1)) (k : WG p l e R s m args below meth c cells slots Q G nL lv (pc + 1) (.int (x &&& y) :: st) h) : WG p l e R s m args below meth c cells slots Q G nL lv pc (.int y :: .int x :: st) h := fun H locs ls hw hv => lv_iand C0.ex C0.by hdg (k H locs ls hw hv)
theorem x_ior (C0 : Cx G p s m args c cc nL own) {x y : Int32} (hdg : decode cc pc = .ok (.ior, 1)) (k : WG p l e R s m args below meth c cells slots Q G nL lv (pc + 1) (.int (x ||| y) :: st) h) : WG p l e R s m args below meth c cells slots Q G nL lv pc (.int y :: .int x :: st) h := fun H locs ls hw hv => lv_ior C0.ex C0.by hdg (k H locs ls hw hv)
theorem x_ixor (C0 : Cx G p s m args c cc nL own) {x y : Int32} (hdg : decode cc pc = .ok (.ixor, 1)) (k : WG p l e R s m args below meth c cells slots Q G nL lv (pc + 1) (.int (x ^^^ y) :: st) h) : WG p l e R s m args below meth c cells slots Q G nL lv pc (.int y :: .int x :: st) h := fun H locs ls hw hv => lv_ixor C0.ex C0.by hdg (k H locs ls hw hv)
theorem x_ishl (C0 : Cx G p s m args c cc nL own) {x y : Int32} (hdg : decode cc pc = .ok (.ishl, 1)) (k : WG p l e R s m args below meth c cells slots Q G nL lv (pc + 1) (.int (x <<< (y &&& 31)) :: st) h) : WG p l e R s m args below meth c cells slots Q G nL lv pc (.int y :: .int x :: st) h := fun H locs ls hw hv => lv_ishl C0.ex C0.by hdg (k H locs ls hw hv)
theorem x_ishr (C0 : Cx G p s m args c cc nL own) {x y : Int32} (hdg : decode cc pc = .ok (.ishr, 1)) (k : WG p l e R s m args below meth c cells slots Q G nL lv (pc + 1) (.int (x >>> (y &&& 31)) :: st) h) : WG p l e R s m args below meth c cells slots Q G nL lv pc (.int y :: .int x :: st) h := fun H locs ls hw hv => lv_ishr C0.ex C0.by hdg (k H locs ls hw hv)
theorem x_ineg (C0 : Cx G p s m args c cc nL own) {x : Int32} (hdg : decode cc pc = .ok (.ineg, 1)) (k : WG p l e R s m args below meth c cells slots Q G nL lv (pc + 1) (.int (-x) :: st) h) : WG p l e R s m args below meth c cells slots Q G nL lv pc (.int x :: st) h := fun H locs ls hw hv => lv_ineg C0.ex C0.by hdg (k H locs ls hw hv)
theorem x_idiv (C0 : Cx G p s m args c cc nL own) {x y : Int32} (hdg : decode cc pc = .ok (.idiv, 1)) (hne : ¬ y = 0) (k : WG p l e R s m args below meth c cells slots Q G nL lv (pc + 1) (.int (x / y) :: st) h) : WG p l e R s m args below meth c cells slots Q G nL lv pc (.int y :: .int x :: st) h := fun H locs ls hw hv => lv_idiv C0.ex C0.by hdg hne (k H locs ls hw hv)
theorem x_irem (C0 : Cx G p s m args c cc nL own) {x y : Int32} (hdg : decode cc pc = .ok (.irem, 1)) (hne : ¬ y = 0) (k : WG p l e R s m args below meth c cells slots Q G nL lv (pc + 1) (.int (x - x / y * y) :: st) h) : WG p l e R s m args below meth c cells slots Q G nL lv pc (.int y :: .int x :: st) h := fun H locs ls hw hv => lv_irem C0.ex C0.by hdg hne (k H locs ls hw hv)
theorem x_iushr (C0 : Cx G p s m args c cc nL own) {x y : Int32} (hdg : decode cc pc = .ok (.iushr, 1)) (k : WG p l e R s m args below meth c cells slots Q G nL lv (pc + 1) (.int (x.toUInt32 >>> (y.toUInt32 &&& Int32.toUInt32 31)).toInt32 :: st) h) : WG p l e R s m args below meth c cells slots Q G nL lv pc (.int y :: .int x :: st) h := fun H locs ls hw hv => lv_iushr C0.ex C0.by hdg rfl (k H locs ls hw hv)
theorem x_dup (C0 : Cx G p s m args c cc nL own) {va : Value} (hdg : decode cc pc = .ok (.dup, 1)) (h1 : va.category = 1) (k : WG p l e R s m args below meth c cells slots Q G nL lv (pc + 1) (va :: va :: st) h) : WG p l e R s m args below meth c cells slots Q G nL lv pc (va :: st) h := fun H locs ls hw hv => lv_dup C0.ex C0.by hdg h1 (k H locs ls hw hv)
theorem x_pop (C0 : Cx G p s m args c cc nL own) {va : Value} (hdg : decode cc pc = .ok (.pop, 1)) (h1 : va.category = 1) (k : WG p l e R s m args below meth c cells slots Q G nL lv (pc + 1) (st) h) : WG p l e R s m args below meth c cells slots Q G nL lv pc (va :: st) h := fun H locs ls hw hv => lv_pop C0.ex C0.by hdg h1 (k H locs ls hw hv)
theorem x_dup_x1 (C0 : Cx G p s m args c cc nL own) {va vb : Value} (hdg : decode cc pc = .ok (.dup_x1, 1)) (h1 : va.category = 1) (h2 : vb.category = 1) (k : WG p l e R s m args below meth c cells slots Q G nL lv (pc + 1) (va :: vb :: va :: st) h) : WG p l e R s m args below meth c cells slots Q G nL lv pc (va :: vb :: st) h := fun H locs ls hw hv => lv_dup_x1 C0.ex C0.by hdg h1 h2 (k H locs ls hw hv)
theorem x_dup_x2 (C0 : Cx G p s m args c cc nL own) {va vb vd : Value} (hdg : decode cc pc = .ok (.dup_x2, 1)) (h1 : va.category = 1) (h2 : vb.category = 1) (h3 : vd.category = 1) (k : WG p l e R s m args below meth c cells slots Q G nL lv (pc + 1) (va :: vb :: vd :: va :: st) h) : WG p l e R s m args below meth c cells slots Q G nL lv pc (va :: vb :: vd :: st) h := fun H locs ls hw hv => lv_dup_x2 C0.ex C0.by hdg h1 h2 h3 (k H locs ls hw hv)
theorem x_dup2 (C0 : Cx G p s m args c cc nL own) {va vb : Value} (hdg : decode cc pc = .ok (.dup2, 1)) (h1 : va.category = 1) (h2 : vb.category = 1) (k : WG p l e R s m args below meth c cells slots Q G nL lv (pc + 1) (va :: vb :: va :: vb :: st) h) : WG p l e R s m args below meth c cells slots Q G nL lv pc (va :: vb :: st) h := fun H locs ls hw hv => lv_dup2_11 C0.ex C0.by hdg h1 h2 (k H locs ls hw hv)
theorem x_lconst (C0 : Cx G p s m args c cc nL own) {n : Fin 2} {v : Int64} (hdg : decode cc pc = .ok (.lconst n, 1)) (hn : Int64.ofNat (n : Nat) = v) (k : WG p l e R s m args below meth c cells slots Q G nL lv (pc + 1) (.long v :: st) h) : WG p l e R s m args below meth c cells slots Q G nL lv pc (st) h := fun H locs ls hw hv => lv_lconst C0.ex C0.by hdg hn (k H locs ls hw hv)
theorem x_ladd (C0 : Cx G p s m args c cc nL own) {x y : Int64} (hdg : decode cc pc = .ok (.ladd, 1)) (k : WG p l e R s m args below meth c cells slots Q G nL lv (pc + 1) (.long (x + y) :: st) h) : WG p l e R s m args below meth c cells slots Q G nL lv pc (.long y :: .long x :: st) h := fun H locs ls hw hv => lv_ladd C0.ex C0.by hdg (k H locs ls hw hv)
theorem x_lcmp (C0 : Cx G p s m args c cc nL own) {x y : Int64} (hdg : decode cc pc = .ok (.lcmp, 1)) (k : WG p l e R s m args below meth c cells slots Q G nL lv (pc + 1) (.int (lg_cmp x y) :: st) h) : WG p l e R s m args below meth c cells slots Q G nL lv pc (.long y :: .long x :: st) h := fun H locs ls hw hv => W.lcmp C0.ex C0.by hdg (k H locs ls hw hv)
theorem x_i2l (C0 : Cx G p s m args c cc nL own) {x : Int32} (hdg : decode cc pc = .ok (.i2l, 1)) (k : WG p l e R s m args below meth c cells slots Q G nL lv (pc + 1) (.long x.toInt64 :: st) h) : WG p l e R s m args below meth c cells slots Q G nL lv pc (.int x :: st) h := fun H locs ls hw hv => lv_i2l C0.ex C0.by hdg rfl (k H locs ls hw hv)
theorem x_l2i (C0 : Cx G p s m args c cc nL own) {x : Int64} (hdg : decode cc pc = .ok (.l2i, 1)) (k : WG p l e R s m args below meth c cells slots Q G nL lv (pc + 1) (.int x.toInt32 :: st) h) : WG p l e R s m args below meth c cells slots Q G nL lv pc (.long x :: st) h := fun H locs ls hw hv => lv_l2i C0.ex C0.by hdg rfl (k H locs ls hw hv)
theorem x_goto (C0 : Cx G p s m args c cc nL own) {off : Int} {tgt : Nat} (hdg : decode cc pc = .ok (.goto off, 3)) (ht : (pc : Int) + off = (tgt : Int)) (k : WG p l e R s m args below meth c cells slots Q G nL lv tgt st h) : WG p l e R s m args below meth c cells slots Q G nL lv pc st h := fun H locs ls hw hv => lv_goto C0.ex C0.by hdg ht (k H locs ls hw hv)
theorem x_if_eq (C0 : Cx G p s m args c cc nL own) {x : Int32} {off : Int} {tgt : Nat} (hdg : decode cc pc = .ok (.ifCond .eq off, 3)) (ht : (pc : Int) + off = (tgt : Int)) (kt : x = 0 → WG p l e R s m args below meth c cells slots Q G nL lv tgt st h) (kf : ¬ x = 0 → WG p l e R s m args below meth c cells slots Q G nL lv (pc + 3) st h) : WG p l e R s m args below meth c cells slots Q G nL lv pc (.int x :: st) h := fun H locs ls hw hv => lv_if_eq C0.ex C0.by hdg ht (fun q => kt q H locs ls hw hv) (fun q => kf q H locs ls hw hv)
theorem x_icmp_eq (C0 : Cx G p s m args c cc nL own) {x y : Int32} {off : Int} {tgt : Nat} (hdg : decode cc pc = .ok (.if_icmp .eq off, 3)) (ht : (pc : Int) + off = (tgt : Int)) (kt : x = y → WG p l e R s m args below meth c cells slots Q G nL lv tgt st h) (kf : ¬ x = y → WG p l e R s m args below meth c cells slots Q G nL lv (pc + 3) st h) : WG p l e R s m args below meth c cells slots Q G nL lv pc (.int y :: .int x :: st) h := fun H locs ls hw hv => lv_icmp_eq C0.ex C0.by hdg ht (fun q => kt q H locs ls hw hv) (fun q => kf q H locs ls hw hv)
theorem x_if_ne (C0 : Cx G p s m args c cc nL own) {x : Int32} {off : Int} {tgt : Nat} (hdg : decode cc pc = .ok (.ifCond .ne off, 3)) (ht : (pc : Int) + off = (tgt : Int)) (kt : ¬ x = 0 → WG p l e R s m args below meth c cells slots Q G nL lv tgt st h) (kf : x = 0 → WG p l e R s m args below meth c cells slots Q G nL lv (pc + 3) st h) : WG p l e R s m args below meth c cells slots Q G nL lv pc (.int x :: st) h := fun H locs ls hw hv => lv_if_ne C0.ex C0.by hdg ht (fun q => kt q H locs ls hw hv) (fun q => kf q H locs ls hw hv)
theorem x_icmp_ne (C0 : Cx G p s m args c cc nL own) {x y : Int32} {off : Int} {tgt : Nat} (hdg : decode cc pc = .ok (.if_icmp .ne off, 3)) (ht : (pc : Int) + off = (tgt : Int)) (kt : ¬ x = y → WG p l e R s m args below meth c cells slots Q G nL lv tgt st h) (kf : x = y → WG p l e R s m args below meth c cells slots Q G nL lv (pc + 3) st h) : WG p l e R s m args below meth c cells slots Q G nL lv pc (.int y :: .int x :: st) h := fun H locs ls hw hv => lv_icmp_ne C0.ex C0.by hdg ht (fun q => kt q H locs ls hw hv) (fun q => kf q H locs ls hw hv)
theorem x_if_lt (C0 : Cx G p s m args c cc nL own) {x : Int32} {off : Int} {tgt : Nat} (hdg : decode cc pc = .ok (.ifCond .lt off, 3)) (ht : (pc : Int) + off = (tgt : Int)) (kt : x < 0 → WG p l e R s m args below meth c cells slots Q G nL lv tgt st h) (kf : ¬ x < 0 → WG p l e R s m args below meth c cells slots Q G nL lv (pc + 3) st h) : WG p l e R s m args below meth c cells slots Q G nL lv pc (.int x :: st) h := fun H locs ls hw hv => lv_if_lt C0.ex C0.by hdg ht (fun q => kt q H locs ls hw hv) (fun q => kf q H locs ls hw hv)
theorem x_icmp_lt (C0 : Cx G p s m args c cc nL own) {x y : Int32} {off : Int} {tgt : Nat} (hdg : decode cc pc = .ok (.if_icmp .lt off, 3)) (ht : (pc : Int) + off = (tgt : Int)) (kt : x < y → WG p l e R s m args below meth c cells slots Q G nL lv tgt st h) (kf : ¬ x < y → WG p l e R s m args below meth c cells slots Q G nL lv (pc + 3) st h) : WG p l e R s m args below meth c cells slots Q G nL lv pc (.int y :: .int x :: st) h := fun H locs ls hw hv => lv_icmp_lt C0.ex C0.by hdg ht (fun q => kt q H locs ls hw hv) (fun q => kf q H locs ls hw hv)
theorem x_if_ge (C0 : Cx G p s m args c cc nL own) {x : Int32} {off : Int} {tgt : Nat} (hdg : decode cc pc = .ok (.ifCond .ge off, 3)) (ht : (pc : Int) + off = (tgt : Int)) (kt : 0 ≤ x → WG p l e R s m args below meth c cells slots Q G nL lv tgt st h) (kf : ¬ 0 ≤ x → WG p l e R s m args below meth c cells slots Q G nL lv (pc + 3) st h) : WG p l e R s m args below meth c cells slots Q G nL lv pc (.int x :: st) h := fun H locs ls hw hv => lv_if_ge C0.ex C0.by hdg ht (fun q => kt q H locs ls hw hv) (fun q => kf q H locs ls hw hv)
theorem x_icmp_ge (C0 : Cx G p s m args c cc nL own) {x y : Int32} {off : Int} {tgt : Nat} (hdg : decode cc pc = .ok (.if_icmp .ge off, 3)) (ht : (pc : Int) + off = (tgt : Int)) (kt : y ≤ x → WG p l e R s m args below meth c cells slots Q G nL lv tgt st h) (kf : ¬ y ≤ x → WG p l e R s m args below meth c cells slots Q G nL lv (pc + 3) st h) : WG p l e R s m args below meth c cells slots Q G nL lv pc (.int y :: .int x :: st) h := fun H locs ls hw hv => lv_icmp_ge C0.ex C0.by hdg ht (fun q => kt q H locs ls hw hv) (fun q => kf q H locs ls hw hv)
theorem x_if_gt (C0 : Cx G p s m args c cc nL own) {x : Int32} {off : Int} {tgt : Nat} (hdg : decode cc pc = .ok (.ifCond .gt off, 3)) (ht : (pc : Int) + off = (tgt : Int)) (kt : 0 < x → WG p l e R s m args below meth c cells slots Q G nL lv tgt st h) (kf : ¬ 0 < x → WG p l e R s m args below meth c cells slots Q G nL lv (pc + 3) st h) : WG p l e R s m args below meth c cells slots Q G nL lv pc (.int x :: st) h := fun H locs ls hw hv => lv_if_gt C0.ex C0.by hdg ht (fun q => kt q H locs ls hw hv) (fun q => kf q H locs ls hw hv)
theorem x_icmp_gt (C0 : Cx G p s m args c cc nL own) {x y : Int32} {off : Int} {tgt : Nat} (hdg : decode cc pc = .ok (.if_icmp .gt off, 3)) (ht : (pc : Int) + off = (tgt : Int)) (kt : y < x → WG p l e R s m args below meth c cells slots Q G nL lv tgt st h) (kf : ¬ y < x → WG p l e R s m args below meth c cells slots Q G nL lv (pc + 3) st h) : WG p l e R s m args below meth c cells slots Q G nL lv pc (.int y :: .int x :: st) h := fun H locs ls hw hv => lv_icmp_gt C0.ex C0.by hdg ht (fun q => kt q H locs ls hw hv) (fun q => kf q H locs ls hw hv)
theorem x_if_le (C0 : Cx G p s m args c cc nL own) {x : Int32} {off : Int} {tgt : Nat} (hdg : decode cc pc = .ok (.ifCond .le off, 3)) (ht : (pc : Int) + off = (tgt : Int)) (kt : x ≤ 0 → WG p l e R s m args below meth c cells slots Q G nL lv tgt st h) (kf : ¬ x ≤ 0 → WG p l e R s m args below meth c cells slots Q G nL lv (pc + 3) st h) : WG p l e R s m args below meth c cells slots Q G nL lv pc (.int x :: st) h := fun H locs ls hw hv => lv_if_le C0.ex C0.by hdg ht (fun q => kt q H locs ls hw hv) (fun q => kf q H locs ls hw hv)
theorem x_icmp_le (C0 : Cx G p s m args c cc nL own) {x y : Int32} {off : Int} {tgt : Nat} (hdg : decode cc pc = .ok (.if_icmp .le off, 3)) (ht : (pc : Int) + off = (tgt : Int)) (kt : x ≤ y → WG p l e R s m args below meth c cells slots Q G nL lv tgt st h) (kf : ¬ x ≤ y → WG p l e R s m args below meth c cells slots Q G nL lv (pc + 3) st h) : WG p l e R s m args below meth c cells slots Q G nL lv pc (.int y :: .int x :: st) h := fun H locs ls hw hv => lv_icmp_le C0.ex C0.by hdg ht (fun q => kt q H locs ls hw hv) (fun q => kf q H locs ls hw hv)
theorem x_iload_n (C0 : Cx G p s m args c cc nL own) {f : Fin 4} {i : Nat} {x : Int32} (q : Nat) (hdg : decode cc pc = .ok (.iload_n f, 1)) (hi : (f : Nat) = i) (hq : lv[q]? = some (i, .int x)) (k : WG p l e R s m args below meth c cells slots Q G nL lv (pc + 1) (.int x :: st) h) : WG p l e R s m args below meth c cells slots Q G nL lv pc st h := fun H locs ls hw hv => lv_iload_n C0.ex C0.by hdg hi (lv_at hv q hq) (k H locs ls hw hv)
theorem x_iload (C0 : Cx G p s m args c cc nL own) {i : Nat} {x : Int32} (q : Nat) (hdg : decode cc pc = .ok (.iload i, 2)) (hq : lv[q]? = some (i, .int x)) (k : WG p l e R s m args below meth c cells slots Q G nL lv (pc + 2) (.int x :: st) h) : WG p l e R s m args below meth c cells slots Q G nL lv pc st h := fun H locs ls hw hv => lv_iload C0.ex C0.by hdg (lv_at hv q hq) (k H locs ls hw hv)
theorem x_istore_n (C0 : Cx G p s m args c cc nL own) {f : Fin 4} {i : Nat} {x : Int32} (hdg : decode cc pc = .ok (.istore_n f, 1)) (hi : (f : Nat) = i) (hn : i < nL) (hl : (i, (Value.int x : Value)) :: lv.filter (fun q => !(q.1 == i) && !(q.1 + 1 == i && q.2.category == 2)) = lv') (k : WG p l e R s m args below meth c cells slots Q G nL lv' (pc + 1) st h) : WG p l e R s m args below meth c cells slots Q G nL lv pc (.int x :: st) h := fun H locs ls hw hv => lv_istore_n C0.ex C0.by hdg hi hv hn hl (fun ls' hv' => k H locs ls' hw hv')
theorem x_istore (C0 : Cx G p s m args c cc nL own) {i : Nat} {x : Int32} (hdg : decode cc pc = .ok (.istore i, 2)) (hn : i < nL) (hl : (i, (Value.int x : Value)) :: lv.filter (fun q => !(q.1 == i) && !(q.1 + 1 == i && q.2.category == 2)) = lv') (k : WG p l e R s m args below meth c cells slots Q G nL lv' (pc + 2) st h) : WG p l e R s m args below meth c cells slots Q G nL lv pc (.int x :: st) h := fun H locs ls hw hv => lv_istore C0.ex C0.by hdg hv hn hl (fun ls' hv' => k H locs ls' hw hv')
theorem x_aload_n (C0 : Cx G p s m args c cc nL own) {f : Fin 4} {i : Nat} {x : Nat} (q : Nat) (hdg : decode cc pc = .ok (.aload_n f, 1)) (hi : (f : Nat) = i) (hq : lv[q]? = some (i, .ref x)) (k : WG p l e R s m args below meth c cells slots Q G nL lv (pc + 1) (.ref x :: st) h) : WG p l e R s m args below meth c cells slots Q G nL lv pc st h := fun H locs ls hw hv => lv_aload_n C0.ex C0.by hdg hi (lv_at hv q hq) (k H locs ls hw hv)
theorem x_aload (C0 : Cx G p s m args c cc nL own) {i : Nat} {x : Nat} (q : Nat) (hdg : decode cc pc = .ok (.aload i, 2)) (hq : lv[q]? = some (i, .ref x)) (k : WG p l e R s m args below meth c cells slots Q G nL lv (pc + 2) (.ref x :: st) h) : WG p l e R s m args below meth c cells slots Q G nL lv pc st h := fun H locs ls hw hv => lv_aload C0.ex C0.by hdg (lv_at hv q hq) (k H locs ls hw hv)
theorem x_astore_n (C0 : Cx G p s m args c cc nL own) {f : Fin 4} {i : Nat} {x : Nat} (hdg : decode cc pc = .ok (.astore_n f, 1)) (hi : (f : Nat) = i) (hn : i < nL) (hl : (i, (Value.ref x : Value)) :: lv.filter (fun q => !(q.1 == i) && !(q.1 + 1 == i && q.2.category == 2)) = lv') (k : WG p l e R s m args below meth c cells slots Q G nL lv' (pc + 1) st h) : WG p l e R s m args below meth c cells slots Q G nL lv pc (.ref x :: st) h := fun H locs ls hw hv => lv_astore_n C0.ex C0.by hdg hi hv hn hl (fun ls' hv' => k H locs ls' hw hv')
theorem x_astore (C0 : Cx G p s m args c cc nL own) {i : Nat} {x : Nat} (hdg : decode cc pc = .ok (.astore i, 2)) (hn : i < nL) (hl : (i, (Value.ref x : Value)) :: lv.filter (fun q => !(q.1 == i) && !(q.1 + 1 == i && q.2.category == 2)) = lv') (k : WG p l e R s m args below meth c cells slots Q G nL lv' (pc + 2) st h) : WG p l e R s m args below meth c cells slots Q G nL lv pc (.ref x :: st) h := fun H locs ls hw hv => lv_astore C0.ex C0.by hdg hv hn hl (fun ls' hv' => k H locs ls' hw hv')
theorem x_lload_n (C0 : Cx G p s m args c cc nL own) {f : Fin 4} {i : Nat} {x : Int64} (q : Nat) (hdg : decode cc pc = .ok (.lload_n f, 1)) (hi : (f : Nat) = i) (hq : lv[q]? = some (i, .long x)) (k : WG p l e R s m args below meth c cells slots Q G nL lv (pc + 1) (.long x :: st) h) : WG p l e R s m args below meth c cells slots Q G nL lv pc st h := fun H locs ls hw hv => lv_lload_n C0.ex C0.by hdg hi (lv_at hv q hq) (k H locs ls hw hv)
theorem x_lload (C0 : Cx G p s m args c cc nL own) {i : Nat} {x : Int64} (q : Nat) (hdg : decode cc pc = .ok (.lload i, 2)) (hq : lv[q]? = some (i, .long x)) (k : WG p l e R s m args below meth c cells slots Q G nL lv (pc + 2) (.long x :: st) h) : WG p l e R s m args below meth c cells slots Q G nL lv pc st h := fun H locs ls hw hv => lv_lload C0.ex C0.by hdg (lv_at hv q hq) (k H locs ls hw hv)
theorem x_lstore_n (C0 : Cx G p s m args c cc nL own) {f : Fin 4} {i : Nat} {x : Int64} (hdg : decode cc pc = .ok (.lstore_n f, 1)) (hi : (f : Nat) = i) (hn : i + 1 < nL) (hl : (i, (Value.long x : Value)) :: lv.filter (fun q => !(q.1 == i) && (!(q.1 == i + 1) && !(q.1 + 1 == i && q.2.category == 2))) = lv') (k : WG p l e R s m args below meth c cells slots Q G nL lv' (pc + 1) st h) : WG p l e R s m args below meth c cells slots Q G nL lv pc (.long x :: st) h := fun H locs ls hw hv => lv_lstore_n C0.ex C0.by hdg hi hv hn hl (fun ls' hv' => k H locs ls' hw hv')
theorem x_lstore (C0 : Cx G p s m args c cc nL own) {i : Nat} {x : Int64} (hdg : decode cc pc = .ok (.lstore i, 2)) (hn : i + 1 < nL) (hl : (i, (Value.long x : Value)) :: lv.filter (fun q => !(q.1 == i) && (!(q.1 == i + 1) && !(q.1 + 1 == i && q.2.category == 2))) = lv') (k : WG p l e R s m args below meth c cells slots Q G nL lv' (pc + 2) st h) : WG p l e R s m args below meth c cells slots Q G nL lv pc (.long x :: st) h := fun H locs ls hw hv => lv_lstore C0.ex C0.by hdg hv hn hl (fun ls' hv' => k H locs ls' hw hv')
theorem x_iinc (C0 : Cx G p s m args c cc nL own) {i : Nat} {n : Int} {x v : Int32} (q : Nat) (hdg : decode cc pc = .ok (.iinc i n, 3)) (hq : lv[q]? = some (i, .int x)) (he : x + Int32.ofInt n = v) (hn : i < nL) (hl : (i, Value.int v) :: lv.filter (fun q => !(q.1 == i) && !(q.1 + 1 == i && q.2.category == 2)) = lv') (k : WG p l e R s m args below meth c cells slots Q G nL lv' (pc + 3) st h) : WG p l e R s m args below meth c cells slots Q G nL lv pc st h := fun H locs ls hw hv => lv_iinc C0.ex C0.by hdg hv hq he hn hl (fun ls' hv' => k H locs ls' hw hv')
theorem x_topI {x : Int32} (k : ∀ y : Int32, y = x → WG p l e R s m args below meth c cells slots Q G nL lv pc (.int y :: st) h) : WG p l e R s m args below meth c cells slots Q G nL lv pc (.int x :: st) h := k x rfl
theorem x_topJ {x : Int64} (k : ∀ y : Int64, y = x → WG p l e R s m args below meth c cells slots Q G nL lv pc (.long y :: st) h) : WG p l e R s m args below meth c cells slots Q G nL lv pc (.long x :: st) h := k x rfl
theorem x_nh {h1 : MH} (k : ∀ h2 : MH, h2 = h1 → WG p l e R s m args below meth c cells slots Q G nL lv pc st h2) : WG p l e R s m args below meth c cells slots Q G nL lv pc st h1 := k h1 rfl
theorem x_nk {k0 : Nat} (k : ∀ k1 : Nat, k1 = k0 → WG p l e R s m args below meth c cells slots Q G nL lv pc (.ref (m_b G + k1) :: st) h) : WG p l e R s m args below meth c cells slots Q G nL lv pc (.ref (m_b G + k0) :: st) h := k k0 rfl
theorem x_tableIn (C0 : Cx G p s m args c cc nL own) {dflt lo hi : Int} {offs : Array Int} {len : Nat} {x : Int32} {off : Int} {tgt : Nat} (hdg : decode cc pc = .ok (.tableswitch dflt lo hi offs, len)) (h1 : ¬ x.toInt < lo) (h2 : ¬ hi < x.toInt) (ho : offs[(x.toInt - lo).toNat]? = some off) (ht : (pc : Int) + off = (tgt : Int)) (k : WG p l e R s m args below meth c cells slots Q G nL lv tgt st h) : WG p l e R s m args below meth c cells slots Q G nL lv pc (.int x :: st) h := fun H locs ls hw hv => lv_tableIn C0.ex C0.by hdg h1 h2 ho ht (k H locs ls hw hv)
theorem x_tableOut (C0 : Cx G p s m args c cc nL own) {dflt lo hi : Int} {offs : Array Int} {len : Nat} {x : Int32} {tgt : Nat} (hdg : decode cc pc = .ok (.tableswitch dflt lo hi offs, len)) (h1 : x.toInt < lo ∨ hi < x.toInt) (ht : (pc : Int) + dflt = (tgt : Int)) (k : WG p l e R s m args below meth c cells slots Q G nL lv tgt st h) : WG p l e R s m args below meth c cells slots Q G nL lv pc (.int x :: st) h := fun H locs ls hw hv => lv_tableOut C0.ex C0.by hdg h1 ht (k H locs ls hw hv)
theorem x_lookup (C0 : Cx G p s m args c cc nL own) {dflt : Int} {ps : Array (Int × Int)} {len : Nat} {x : Int32} {off : Int} {tgt : Nat} (hdg : decode cc pc = .ok (.lookupswitch dflt ps, len)) (hp : (ps.toList.zip (ps.toList.drop 1)).all (fun (a, next) => a.1 < next.1) = true) (ho : Op.lookupswitch.offset ps.toList dflt x.toInt = off) (ht : (pc : Int) + off = (tgt : Int)) (k : WG p l e R s m args below meth c cells slots Q G nL lv tgt st h) : WG p l e R s m args below meth c cells slots Q G nL lv pc (.int x :: st) h := fun H locs ls hw hv => lv_lookup C0.ex C0.by hdg hp ho ht (k H locs ls hw hv)
end MR
theorem Wd.blind {G : mG} {h : MH} {As : List Value} : FrameBlind (va_Pc As (Wd G h)) := fun a U g mk q => ⟨q.1, q.2.1, q.2.2.1, va_K.moved (u := U) (U := U.calling g mk a) (Vm.Alike.refl U.vm) q.2.2.2.1, m_St.same (u := U) (U := U.calling g mk a) rfl rfl q.2.2.2.2⟩
def FK (own : String) (index ci j : Nat) : Prop := ∃ (C : String) (T : u_T) (N : Nat), vwCl[ci]? = some (C, T, N) ∧ (∀ w ∈ u_ws C T N, w ∈ lw_good) ∧ j < N ∧ Cond.fieldLink own index (T j).1 (T j).2.1 (T j).2.2.1 ∈ lw_good
def PK (own : String) (index ci j : Nat) (ty : FieldType) (fin : Bool) : Prop := ∃ (C : String) (T : u_T) (N : Nat), vwCl[ci]? = some (C, T, N) ∧ (∀ w ∈ u_ws C T N, w ∈ lw_good) ∧ j < N ∧ Cond.fieldLink own index (T j).1 (T j).2.1 (T j).2.2.1 ∈ lw_good ∧
  (∃ ty0 : Nat → FieldType, ∀ k, k < N → parseFieldDescriptor (T k).2.2.1 = some (ty0 k)) ∧ (∀ a, a < N → ∀ b, b < N → a ≠ b → (T a).2.1 ≠ (T b).2.1) ∧ (T j).2.2.2 = fin ∧ parseFieldDescriptor (T j).2.2.1 = some ty ∧ (fin = true → (T j).1 = own)
section MS
variable {p : Program} {l : Launch} {e : Env} {R : Room} {s : State} {m : MethodId} {args : Array Value} {below : List Frame} {meth : Method} {c : Code} {cells slots : Nat} {Q : State → Prop} {G : mG} {cc : ByteArray} {nL : Nat} {own : String} {lv : List (Nat × Value)} {pc : Nat} {st : List Value} {h : MH}
theorem Wo.toWd (C0 : Cx G p s m args c cc nL own) {H : Heap} {locs : List Loc} (hw : Wo G s h H locs) (U : State) (hU : U.heap = H) (hW : s.WarmedH U.vm) : Wd G h U := ⟨by rw [hU]; exact hw.1, by rw [hU]; exact hw.2.1, va_K.moved hW.alike C0.K, by rw [hU]; exact m_St.kept (m_St.warm hW C0.St) hw.2.2.2.1⟩
theorem Wo.put {H H1 : Heap} {locs : List Loc} {k j : Nat} {x : MC} (hw : Wo G s h H locs) (hk : k < h.1) (hat : va_at G.1 vwCl (m_b G + k, trC (m_b G) G.2.1 x) H1) (z : H1.size = H.size) (oq : ∀ q : Nat, q ≠ m_b G + k → H1[q]? = H[q]?) : Wo G s (mset h k x) H1 (locs ++ [⟨m_b G + k, j⟩]) := ⟨by rw [← wl_set G hk x]; exact hw.1.set (wl_D G h) (wl_get G hk) hat oq, by rw [z]; exact hw.2.1, hw.2.2.put z oq (Nat.le_add_right _ _)⟩
theorem Wo.new {H H1 : Heap} {locs : List Loc} {x : MC} (C0 : Cx G p s m args c cc nL own) (hw : Wo G s h H locs) (hat : va_at G.1 vwCl (m_b G + h.1, trC (m_b G) G.2.1 x) H1) (z : H1.size = H.size + 1) (oq : ∀ q : Nat, q < H.size → H1[q]? = H[q]?) : Wo G s (mnew h x) H1 locs := by
  refine ⟨?_, by rw [z, hw.2.1]; exact Nat.add_assoc _ _ _, Nat.le_trans hw.2.2.1 (by omega), fun q h1 h2 => (oq q (Nat.lt_of_lt_of_le h1 hw.2.2.1)).trans (hw.2.2.2.1 q h1 h2), hw.2.2.2.2⟩
  rw [← wl_push]
  refine (hw.1.kept (fun k q hq => oq q.1 ((hw.1 k q hq).lt))).app (fun k q hq => ?_)
  have hz : k < 1 := (List.getElem?_eq_some_iff.mp hq).1
  rw [show k = 0 by omega] at hq
  cases hq
  exact hat
theorem x_get (C0 : Cx G p s m args c cc nL own) {index ci j k : Nat} {x : MV} (hk : FK own index ci j) (hg : gF h k ci j = some x) (hdg : decode cc pc = .ok (.getfield index, 3)) (kk : WG p l e R s m args below meth c cells slots Q G nL lv (pc + 3) (trV (m_b G) x :: st) h) : WG p l e R s m args below meth c cells slots Q G nL lv pc (.ref (m_b G + k) :: st) h := by
  intro H locs ls hw hv
  obtain ⟨C, T, N, hc, hin, hj, hl⟩ := hk
  obtain ⟨hk, fs, he, hf⟩ := gF_spec hg
  refine va_get (D := G.1) (ci := ci) (C := C) (T := T) (N := N) C0.ex C0.by C0.ts hin C0.ow C0.K hw.1 k (fs := fs.map (trV (m_b G))) ?_ hc j hj (C0.ts _ hl) (fun _ h9 => h9) ?_ hdg (kk H locs ls hw hv)
  · rw [wl_get G hk, he]; rfl
  · rw [List.getElem?_map, hf]; rfl
theorem x_getI (C0 : Cx G p s m args c cc nL own) {index ci j k : Nat} {x : Int32} (hk : FK own index ci j) (hg : gF h k ci j = some (.inl x)) (hdg : decode cc pc = .ok (.getfield index, 3)) (kk : WG p l e R s m args below meth c cells slots Q G nL lv (pc + 3) (.int x :: st) h) : WG p l e R s m args below meth c cells slots Q G nL lv pc (.ref (m_b G + k) :: st) h := x_get C0 hk hg hdg kk
theorem x_getR (C0 : Cx G p s m args c cc nL own) {index ci j k x : Nat} (hk : FK own index ci j) (hg : gF h k ci j = some (.inr (some x))) (hdg : decode cc pc = .ok (.getfield index, 3)) (kk : WG p l e R s m args below meth c cells slots Q G nL lv (pc + 3) (.ref (m_b G + x) :: st) h) : WG p l e R s m args below meth c cells slots Q G nL lv pc (.ref (m_b G + k) :: st) h := x_get C0 hk hg hdg kk
theorem fset_eq {h : MH} {k ci j : Nat} {fs : List MV} (x : MV) (he : h.2 k = .inl (ci, fs)) : fset h k j x = mset h k (.inl (ci, fs.set j x)) := by
  unfold fset; rw [he]
theorem x_put (C0 : Cx G p s m args c cc nL own) {index ci j k : Nat} {ty : FieldType} {x x0 : MV} (hk : PK own index ci j ty false) (hg : gF h k ci j = some x0) (hn : narrow ty (trV (m_b G) x) = trV (m_b G) x) (hfit : fits ty (trV (m_b G) x) = true) (hdg : decode cc pc = .ok (.putfield index, 3)) (kk : WG p l e R s m args below meth c cells slots Q G nL lv (pc + 3) st (fset h k j x)) : WG p l e R s m args below meth c cells slots Q G nL lv pc (trV (m_b G) x :: .ref (m_b G + k) :: st) h := by
  intro H locs ls hw hv
  obtain ⟨C, T, N, hc, hin, hj, hl, ⟨ty0, hty⟩, hnm, hfin, hd, -⟩ := hk
  obtain ⟨hk, fs, he, hf⟩ := gF_spec hg
  have hlen : j < fs.length := (List.getElem?_eq_some_iff.mp hf).1
  have e0 : (wl G h)[k]? = some (m_b G + k, .inr (ci, fs.map (trV (m_b G)))) := by rw [wl_get G hk, he]; rfl
  rw [fset_eq x he] at kk
  have hap := va_apart (own := own) C0.ts hin ty0 hty hnm C0.K hc
  obtain ⟨r, h1, cell, q1, q2, q3, q4⟩ := hw.1 k _ e0
  have hr : r = (C, T, N) := Option.some.inj (h1.symm.trans hc)
  subst hr
  obtain ⟨hS, hfc, kC, hkC, hkind⟩ := C0.K.1 ci _ hc
  obtain ⟨cf, kf, fi, f, hi, hsl⟩ := hS j hj
  have hlay := C0.ts _ (hin _ (u_in_lay hj))
  unfold u_lay at hlay
  rw [if_neg (by rw [hfin]; decide)] at hlay
  have hst := (u_facts hfc hkC (u_lays C0.ts hin hj) hi).1
  have h6 := u_store hfc hkC hkind hlay hi hd hn hfit
  refine W.putK C0.ex C0.by (f := f) ⟨C0.ow, C0.ts _ hl, ⟨_, _, _, hi⟩, hst⟩ (by rw [q2]; exact h6) q1 q3 (by rw [hsl]; exact k2_hasslot (q4 j hj)) rfl rfl hdg fun H' e1 e2 e3 => ?_
  rw [hsl] at e1 ⊢
  refine kk H' _ ls (hw.put hk ?_ e2 e3) hv
  refine ⟨_, hc, ?_⟩
  show t_OB _ _ _ _ _ (vp_V ((fs.set j x).map (trV (m_b G))))
  rw [List.map_set]
  exact t_OB.to (V := updV (vp_V (fs.map (trV (m_b G)))) j (trV (m_b G) x)) ⟨_, e1, q2, q3, t_set q4 hap hj _⟩ (fun i _ => vp_updV_set (by rw [List.length_map]; exact hlen) _ i)
theorem x_putF (C0 : Cx G p s m args c cc nL own) {index ci j k : Nat} {ty : FieldType} {x x0 : MV} (hk : PK own index ci j ty true) (hin2 : meth.name = "<init>") (hg : gF h k ci j = some x0) (hn : narrow ty (trV (m_b G) x) = trV (m_b G) x) (hfit : fits ty (trV (m_b G) x) = true) (hdg : decode cc pc = .ok (.putfield index, 3)) (kk : WG p l e R s m args below meth c cells slots Q G nL lv (pc + 3) st (fset h k j x)) : WG p l e R s m args below meth c cells slots Q G nL lv pc (trV (m_b G) x :: .ref (m_b G + k) :: st) h := by
  intro H locs ls hw hv
  obtain ⟨C, T, N, hc, hin, hj, hl, ⟨ty0, hty⟩, hnm, hfin, hd, hdecl⟩ := hk
  obtain ⟨hk, fs, he, hf⟩ := gF_spec hg
  have hlen : j < fs.length := (List.getElem?_eq_some_iff.mp hf).1
  have e0 : (wl G h)[k]? = some (m_b G + k, .inr (ci, fs.map (trV (m_b G)))) := by rw [wl_get G hk, he]; rfl
  rw [fset_eq x he] at kk
  have hap := va_apart (own := own) C0.ts hin ty0 hty hnm C0.K hc
  obtain ⟨r, h1, cell, q1, q2, q3, q4⟩ := hw.1 k _ e0
  have hr : r = (C, T, N) := Option.some.inj (h1.symm.trans hc)
  subst hr
  obtain ⟨hS, hfc, kC, hkC, hkind⟩ := C0.K.1 ci _ hc
  obtain ⟨cf, kf, fi, f, hi, hsl⟩ := hS j hj
  have hlay := C0.ts _ (hin _ (u_in_lay hj))
  unfold u_lay at hlay
  rw [if_pos hfin] at hlay
  have hst := (u_facts hfc hkC (u_lays C0.ts hin hj) hi).1
  have hcf : m.cls = cf := by
    obtain ⟨_, _, c', _, _, _, -, -, hf', -, -, -, hown2, -⟩ := Cond.laysFinal_spec hlay
    have e1 : c' = cf := by have := hi.symm.trans hf'; simp at this; exact this.1.symm
    rw [hdecl rfl] at hown2
    rw [← e1]; exact Option.some.inj (C0.ow.symm.trans hown2)
  have h6 := u_fits hfc hkC hkind (Or.inr hlay) hi hd hn hfit
  refine W.putFinK C0.ex C0.by C0.ow (C0.ts _ hl) hi hst hcf hin2 (by rw [q2]; exact h6) q1 q3 (by rw [hsl]; exact k2_hasslot (q4 j hj)) rfl rfl hdg fun H' e1 e2 e3 => ?_
  rw [hsl] at e1 ⊢
  refine kk H' _ ls (hw.put hk ?_ e2 e3) hv
  refine ⟨_, hc, ?_⟩
  show t_OB _ _ _ _ _ (vp_V ((fs.set j x).map (trV (m_b G))))
  rw [List.map_set]
  exact t_OB.to (V := updV (vp_V (fs.map (trV (m_b G)))) j (trV (m_b G) x)) ⟨_, e1, q2, q3, t_set q4 hap hj _⟩ (fun i _ => vp_updV_set (by rw [List.length_map]; exact hlen) _ i)
theorem x_ald0 {k t n : Nat} {f : Nat → Int32} (hg : gA h k t = some (n, f)) : k < h.1 ∧ (wl G h)[k]? = some (m_b G + k, .inl (G.2.1 t, n, .inl f)) := by
  obtain ⟨hk, he⟩ := gA_spec hg
  exact ⟨hk, by rw [wl_get G hk, he]; rfl⟩
theorem x_iald (C0 : Cx G p s m args c cc nL own) {k n : Nat} {f : Nat → Int32} {i : Int32} (hg : gA h k 0 = some (n, f)) (hin : vp_in i n) (hdg : decode cc pc = .ok (.iaload, 1)) (kk : WG p l e R s m args below meth c cells slots Q G nL lv (pc + 1) (.int (f i.toNatClampNeg) :: st) h) : WG p l e R s m args below meth c cells slots Q G nL lv pc (.int i :: .ref (m_b G + k) :: st) h := fun H locs ls hw hv => va_iald (D := G.1) C0.ex C0.by C0.K hw.1 k 0 (x_ald0 hg).2 rfl hin hdg (kk H locs ls hw hv)
theorem x_zald (C0 : Cx G p s m args c cc nL own) {k n : Nat} {f : Nat → Int32} {i : Int32} (hg : gA h k 1 = some (n, f)) (hin : vp_in i n) (hdg : decode cc pc = .ok (.baload, 1)) (kk : WG p l e R s m args below meth c cells slots Q G nL lv (pc + 1) (.int (f i.toNatClampNeg) :: st) h) : WG p l e R s m args below meth c cells slots Q G nL lv pc (.int i :: .ref (m_b G + k) :: st) h := fun H locs ls hw hv => va_zald (D := G.1) C0.ex C0.by C0.K hw.1 k 1 (x_ald0 hg).2 rfl hin hdg (kk H locs ls hw hv)
theorem x_alen (C0 : Cx G p s m args c cc nL own) {k t n : Nat} {ty : FieldType} {f : Nat → Int32} (hg : gA h k t = some (n, f)) (ht : (m_tys G)[t]? = some (G.2.1 t, ty)) (hdg : decode cc pc = .ok (.arraylength, 1)) (kk : WG p l e R s m args below meth c cells slots Q G nL lv (pc + 1) (.int (nI n) :: st) h) : WG p l e R s m args below meth c cells slots Q G nL lv pc (.ref (m_b G + k) :: st) h := fun H locs ls hw hv => va_alen (D := G.1) C0.ex C0.by C0.K hw.1 k t (x_ald0 hg).2 ht rfl hdg (kk H locs ls hw hv)
theorem x_iast (C0 : Cx G p s m args c cc nL own) {k n : Nat} {f : Nat → Int32} {i x : Int32} (hg : gA h k 0 = some (n, f)) (hin : vp_in i n) (hdg : decode cc pc = .ok (.iastore, 1)) (kk : WG p l e R s m args below meth c cells slots Q G nL lv (pc + 1) st (mset h k (.inr (0, n, .inl (upd f i.toNatClampNeg x))))) : WG p l e R s m args below meth c cells slots Q G nL lv pc (.int x :: .int i :: .ref (m_b G + k) :: st) h := by
  intro H locs ls hw hv
  obtain ⟨hk, ha⟩ := x_ald0 (G := G) hg
  refine W.iast C0.ex C0.by (hw.1 k _ ha) ((C0.K.2 0 _ rfl).1 n (fun j => .int (f j))) (fun q => by cases q) (by show ¬ (i < 0 ∨ (arrV _ _ _).slots.size ≤ _); rw [arrV_size]; exact hin) rfl rfl hdg fun H1 e z oq => ?_
  refine kk H1 _ ls (hw.put hk ?_ z oq) hv
  show H1[m_b G + k]? = some (vp_cell (G.2.1 0) (n, .inl (upd f i.toNatClampNeg x)))
  rw [e, vp_cell_i, vp_cell_i, arrV_store]
  congr 2
  funext q
  by_cases hq : q = i.toNatClampNeg
  · subst hq
    simp [updV, upd]
  · simp [updV, upd, hq]
theorem x_zast (C0 : Cx G p s m args c cc nL own) {k n : Nat} {f : Nat → Int32} {i x : Int32} (hg : gA h k 1 = some (n, f)) (hin : vp_in i n) (hdg : decode cc pc = .ok (.bastore, 1)) (kk : WG p l e R s m args below meth c cells slots Q G nL lv (pc + 1) st (mset h k (.inr (1, n, .inl (upd f i.toNatClampNeg (vp_nar .boolean x)))))) : WG p l e R s m args below meth c cells slots Q G nL lv pc (.int x :: .int i :: .ref (m_b G + k) :: st) h := by
  intro H locs ls hw hv
  obtain ⟨hk, ha⟩ := x_ald0 (G := G) hg
  refine W.zast C0.ex C0.by (hw.1 k _ ha) ((C0.K.2 1 _ rfl).1 n (fun j => .int (f j))) (fun q => by cases q) (by show ¬ (i < 0 ∨ (arrV _ _ _).slots.size ≤ _); rw [arrV_size]; exact hin) rfl rfl hdg fun H1 e z oq => ?_
  refine kk H1 _ ls (hw.put hk ?_ z oq) hv
  show H1[m_b G + k]? = some (vp_cell (G.2.1 1) (n, .inl (upd f i.toNatClampNeg (vp_nar .boolean x))))
  rw [e, vp_cell_i, vp_cell_i, arrV_store]
  congr 2
  funext q
  by_cases hq : q = i.toNatClampNeg
  · subst hq
    simp [updV, upd, vp_nar]
    try rfl
  · simp [updV, upd, hq]
theorem x_ald2 {k t n : Nat} {f : Nat → Int64} (hg : gL h k t = some (n, f)) : k < h.1 ∧ (wl G h)[k]? = some (m_b G + k, .inl (G.2.1 t, n, .inr (.inl f))) := by
  obtain ⟨hk, he⟩ := gL_spec hg
  exact ⟨hk, by rw [wl_get G hk, he]; rfl⟩
theorem x_lald (C0 : Cx G p s m args c cc nL own) {k n : Nat} {f : Nat → Int64} {i : Int32} (hg : gL h k 2 = some (n, f)) (hin : vp_in i n) (hdg : decode cc pc = .ok (.laload, 1)) (kk : WG p l e R s m args below meth c cells slots Q G nL lv (pc + 1) (.long (f i.toNatClampNeg) :: st) h) : WG p l e R s m args below meth c cells slots Q G nL lv pc (.int i :: .ref (m_b G + k) :: st) h := fun H locs ls hw hv => va_lald (D := G.1) C0.ex C0.by C0.K hw.1 k 2 (x_ald2 hg).2 rfl hin hdg (kk H locs ls hw hv)
theorem x_last (C0 : Cx G p s m args c cc nL own) {k n : Nat} {f : Nat → Int64} {i : Int32} {x : Int64} (hg : gL h k 2 = some (n, f)) (hin : vp_in i n) (hdg : decode cc pc = .ok (.lastore, 1)) (kk : WG p l e R s m args below meth c cells slots Q G nL lv (pc + 1) st (mset h k (.inr (2, n, .inr (.inl (vp_updL f i.toNatClampNeg x)))))) : WG p l e R s m args below meth c cells slots Q G nL lv pc (.long x :: .int i :: .ref (m_b G + k) :: st) h := by
  intro H locs ls hw hv
  obtain ⟨hk, ha⟩ := x_ald2 (G := G) hg
  refine W.last C0.ex C0.by (hw.1 k _ ha) ((C0.K.2 2 _ rfl).1 n (fun j => .long (f j))) (fun q => by cases q) (by show ¬ (i < 0 ∨ (arrV _ _ _).slots.size ≤ _); rw [arrV_size]; exact hin) rfl rfl hdg fun H1 e z oq => ?_
  refine kk H1 _ ls (hw.put hk ?_ z oq) hv
  show H1[m_b G + k]? = some (vp_cell (G.2.1 2) (n, .inr (.inl (vp_updL f i.toNatClampNeg x))))
  rw [e, vp_cell_l, vp_cell_l, arrV_store]
  congr 2
  funext q
  by_cases hq : q = i.toNatClampNeg
  · subst hq
    simp [updV, vp_updL]
  · simp [updV, vp_updL, hq]
theorem x_ald1 {k t n : Nat} {f : Nat → Option Nat} (hg : gR h k t = some (n, f)) : k < h.1 ∧ (wl G h)[k]? = some (m_b G + k, .inl (G.2.1 t, n, .inr (.inr (.inr (.inr (fun j => m_r (m_b G) (f j))))))) := by
  obtain ⟨hk, he⟩ := gR_spec hg
  exact ⟨hk, by rw [wl_get G hk, he]; rfl⟩
theorem x_aald (C0 : Cx G p s m args c cc nL own) {k t n q : Nat} {C : String} {f : Nat → Option Nat} {i : Int32} (hg : gR h k t = some (n, f)) (ht : (m_tys G)[t]? = some (G.2.1 t, .object C)) (hin : vp_in i n) (hq : f i.toNatClampNeg = some q) (hdg : decode cc pc = .ok (.aaload, 1)) (kk : WG p l e R s m args below meth c cells slots Q G nL lv (pc + 1) (.ref (m_b G + q) :: st) h) : WG p l e R s m args below meth c cells slots Q G nL lv pc (.int i :: .ref (m_b G + k) :: st) h := by
  intro H locs ls hw hv
  refine va_aldq (D := G.1) C0.ex C0.by C0.K hw.1 k t (x_ald1 hg).2 ht hin hdg ?_
  rw [hq]
  exact kk H locs ls hw hv
theorem x_aast (C0 : Cx G p s m args c cc nL own) {k t n q ci : Nat} {C : String} {T : u_T} {N : Nat} {f : Nat → Option Nat} {i : Int32} (hg : gR h k t = some (n, f)) (hc : vwCl[ci]? = some (C, T, N)) (ht : (m_tys G)[t]? = some (G.2.1 t, .object C)) (hin : vp_in i n) (hq : gC h q = some ci) (hdg : decode cc pc = .ok (.aastore, 1)) (kk : WG p l e R s m args below meth c cells slots Q G nL lv (pc + 1) st (mset h k (.inr (t, n, .inr (.inr (va_up f i.toNatClampNeg (some q))))))) : WG p l e R s m args below meth c cells slots Q G nL lv pc (.ref (m_b G + q) :: .int i :: .ref (m_b G + k) :: st) h := by
  intro H locs ls hw hv
  obtain ⟨hk, ha⟩ := x_ald1 (G := G) hg
  obtain ⟨hk2, fs, he⟩ := gC_spec hq
  have e0 : (wl G h)[q]? = some (m_b G + q, .inr (ci, fs.map (trV (m_b G)))) := by rw [wl_get G hk2, he]; rfl
  have hlt : i.toNatClampNeg < n := Nat.not_le.mp fun q => hin (Or.inr q)
  have h0 : ¬ i < 0 := fun q => hin (Or.inl q)
  obtain ⟨r', hr', cellV, g1, g2, g3, -⟩ := hw.1 q _ e0
  have hcls := (C0.K.1 ci _ hc).2
  obtain ⟨kA, comp, k1, k2, k3, -⟩ := (C0.K.2 t _ ht).2
  have hcomp : comp = G.1.1 ci := Option.some.inj (k3.symm.trans hcls.1)
  subst hcomp
  obtain ⟨kC, hkC, -⟩ := hcls.2
  refine W.aast C0.ex C0.by (hw.1 k _ ha) (fun q h => by cases h) (fun h => by cases h) k1 k2 rfl hkC ⟨h0, by show _ < (arrV _ _ _).slots.size; rw [arrV_size]; exact hlt⟩ g1 (fun q h => by rw [g3] at h; cases h) (by rw [g2]; exact hkC) (by rw [g2]; exact va_assign hcls) rfl rfl hdg fun H1 e z oq => ?_
  refine kk H1 _ ls (hw.put hk ?_ z oq) hv
  show H1[m_b G + k]? = some (vp_cell (G.2.1 t) (n, .inr (.inr (.inr (.inr (fun j => m_r (m_b G) (va_up f i.toNatClampNeg (some q) j)))))))
  rw [e, vp_cell_q, vp_cell_q, arrV_store]
  congr 2
  funext z
  by_cases hz : z = i.toNatClampNeg
  · subst hz
    simp [updV, va_up, va_rf, m_r]
  · simp [updV, va_up, hz]
end MS
def MK (y : MethodName) (bytes : ByteArray) (maxL : Nat) (ret : Option FieldType) (n : Nat) : Prop := Cond.code y bytes maxL ret ∈ lw_good ∧ Cond.initialized y.cls ∈ lw_good ∧ y.cls ≠ "java/lang/invoke/MethodHandle" ∧ y.cls ≠ "java/lang/invoke/VarHandle" ∧ (parseMethodDescriptor y.desc).map (fun d => d.parameters.length) = some n
def VK (y : MethodName) : Prop := Cond.instanceMethod y ∈ lw_good ∧ Cond.selects y.cls y y ∈ lw_good
theorem lw_cons {w : Cond} (hw : w ∈ lw_good) : GoodIn lw_good (w :: lw_good) := by
  intro x hx
  rcases List.mem_cons.mp hx with rfl | hx
  · exact ⟨hw, lw_good_ok _ hw⟩
  · exact ⟨hx, lw_good_ok _ hx⟩
section MT
variable {p : Program} {l : Launch} {e : Env} {R : Room} {s : State} {m : MethodId} {args : Array Value} {below : List Frame} {meth : Method} {c : Code} {cells slots : Nat} {Q : State → Prop} {G : mG} {cc : ByteArray} {nL : Nat} {own : String} {lv : List (Nat × Value)} {pc : Nat} {st st0 : List Value} {h : MH}
variable {y : MethodName} {bytes : ByteArray} {maxL index n mc ms ci k : Nat} {ret : Option FieldType} {rm : Room} {As : List Value}
theorem ck_B (C0 : Cx G p s m args c cc nL own) (hl : Cond.methodLink own index y ∈ lw_good) (mk : MK y bytes maxL ret n) (hrc : rm.cells = mc) (hrs : rm.slots = ms) (hR : rm.frames + 1 ≤ R.frames ∧ 8 + (maxL + 11) + rm.locals ≤ R.locals) : CallB R s args own index y bytes maxL ret (Cond.code y bytes maxL ret :: lw_good) rm mc ms n := callB_of n C0.ts (lw_cons mk.1) rfl hrc hrs (C0.ts _ mk.2.1) (C0.ts _ hl) mk.2.2 hR
theorem ck_N (C0 : Cx G p s m args c cc nL own) {host : String} (hl : va_Nw (.methodLinkNest own index y host) s) (mk : MK y bytes maxL ret n) (hrc : rm.cells = mc) (hrs : rm.slots = ms) (hR : rm.frames + 1 ≤ R.frames ∧ 8 + (maxL + 11) + rm.locals ≤ R.locals) : va_CN R s args own index y host bytes maxL ret (Cond.code y bytes maxL ret :: lw_good) rm mc ms n := va_cnB n C0.ts (lw_cons mk.1) rfl hrc hrs hl (C0.ts _ mk.2.1) mk.2.2 hR
theorem x_rcv {H : Heap} {locs : List Loc} (C0 : Cx G p s m args c cc nL own) (hw : Wo G s h H locs) {C : String} {T : u_T} {N : Nat} (hcl : vwCl[ci]? = some (C, T, N)) (hc : gC h k = some ci) : ∃ cell : Cell, H[m_b G + k]? = some cell ∧ cell.vm.isStatics = false ∧ s.vm.findClass C = some cell.cls := by
  obtain ⟨hk, fs, he⟩ := gC_spec hc
  exact va_recv (q := (C, T, N)) C0.K hw.1 hcl (show (wl G h)[k]? = some (m_b G + k, .inr (ci, fs.map (trV (m_b G)))) by rw [wl_get G hk, he]; rfl)
theorem x_fini {Post : Int32 → MH → Prop} {a : Array Value} (hrun : ∀ (H : Heap) (locs : List Loc) (ls : Array Slot), Wo G s h H locs → lv_has ls nL lv → va_Run p l e R s m args below meth c H locs cells slots mc ms (F0 m pc ls st0) st (va_Qi Post (Wd G) (mA G) a) (mA G)) (kk : ∀ (r : Int32) (h2 : MH), Post r h2 → WG p l e R s m args below meth c (cells + mc) (slots + ms) Q G nL lv (pc + 3) (.int r :: st) h2) : WG p l e R s m args below meth c cells slots Q G nL lv pc st0 h := by
  intro H locs ls hw hv
  refine va_calli (hrun H locs ls hw hv) hw.2.2 (fun q _ h => h) (fun q h => h) (fun r u t H1 locs1 ht hvm hp hB hz hk hS => ?_)
  subst ht
  exact kk r u hp _ _ ls ⟨hB.1, hB.2.1, hS⟩ hv
theorem x_finv {Post : MH → Prop} {a : Array Value} (hrun : ∀ (H : Heap) (locs : List Loc) (ls : Array Slot), Wo G s h H locs → lv_has ls nL lv → va_Run p l e R s m args below meth c H locs cells slots mc ms (F0 m pc ls st0) st (va_Qv Post (Wd G) (mA G) a) (mA G)) (kk : ∀ h2 : MH, Post h2 → WG p l e R s m args below meth c (cells + mc) (slots + ms) Q G nL lv (pc + 3) (st) h2) : WG p l e R s m args below meth c cells slots Q G nL lv pc st0 h := by
  intro H locs ls hw hv
  refine va_callv (hrun H locs ls hw hv) hw.2.2 (fun q _ h => h) (fun q h => h) (fun u t H1 locs1 ht hvm hp hB hz hk hS => ?_)
  subst ht
  exact kk u hp _ _ ls ⟨hB.1, hB.2.1, hS⟩ hv
theorem x_finr {Post : Nat → MH → Prop} {a : Array Value} (hrun : ∀ (H : Heap) (locs : List Loc) (ls : Array Slot), Wo G s h H locs → lv_has ls nL lv → va_Run p l e R s m args below meth c H locs cells slots mc ms (F0 m pc ls st0) st (va_Qr (fun u : Nat × MH => Post u.1 u.2) (fun u a t => a = m_b G + u.1 ∧ Wd G u.2 t) (mA G) a) (mA G)) (kk : ∀ (r : Nat) (h2 : MH), Post r h2 → WG p l e R s m args below meth c (cells + mc) (slots + ms) Q G nL lv (pc + 3) (.ref (m_b G + r) :: st) h2) : WG p l e R s m args below meth c cells slots Q G nL lv pc st0 h := by
  intro H locs ls hw hv
  refine va_callr (hrun H locs ls hw hv) hw.2.2 (fun q _ h => h) (fun q h => h) (fun u ra t H1 locs1 ht hvm hp hB hz hk hS => ?_)
  subst ht
  obtain ⟨rfl, hB⟩ := hB
  exact kk u.1 u.2 hp _ _ ls ⟨hB.1, hB.2.1, hS⟩ hv
theorem x_callVi (C0 : Cx G p s m args c cc nL own) {Post : Int32 → MH → Prop} {T : u_T} {N : Nat} (hM : Met l y (Cond.code y bytes maxL ret :: lw_good) rm (va_Pc (.ref (m_b G + k) :: As) (Wd G h)) (va_Qi Post (Wd G) (mA G)) mc ms (mA G)) (hl : Cond.methodLink own index y ∈ lw_good) (mk : MK y bytes maxL ret n) (vk : VK y) (hcl : vwCl[ci]? = some (y.cls, T, N)) (hc : gC h k = some ci) (hn : As.length = n) (hW : (st.map fun v => v.category).sum ≤ 8) (hrc : rm.cells = mc) (hrs : rm.slots = ms) (hR : rm.frames + 1 ≤ R.frames ∧ 8 + (maxL + 11) + rm.locals ≤ R.locals) (hf : cells + mc ≤ R.cells ∧ slots + ms ≤ R.slots) (hst : st0 = As.reverse ++ .ref (m_b G + k) :: st) (hdg : decode cc pc = .ok (.invokevirtual index, 3)) (kk : ∀ (r : Int32) (h2 : MH), Post r h2 → WG p l e R s m args below meth c (cells + mc) (slots + ms) Q G nL lv (pc + 3) (.int r :: st) h2) : WG p l e R s m args below meth c cells slots Q G nL lv pc st0 h :=
  x_fini (fun H locs ls hw hv => va_runV (As := As) (rest := st) C0.1 hM ⟨ck_B C0 hl mk hrc hrs hR, C0.ts _ vk.1, C0.ts _ vk.2⟩ ⟨Wd.blind, x_rcv C0 hw hcl hc, fun U hU hW => ⟨rfl, hw.toWd C0 U hU hW⟩⟩ rfl hn hv.1 hst (lv_room hW) hdg hf) kk
theorem x_callVNi (C0 : Cx G p s m args c cc nL own) {Post : Int32 → MH → Prop} {host : String} {T : u_T} {N : Nat} (hM : Met l y (Cond.code y bytes maxL ret :: lw_good) rm (va_Pc (.ref (m_b G + k) :: As) (Wd G h)) (va_Qi Post (Wd G) (mA G)) mc ms (mA G)) (hl : va_Nw (.methodLinkNest own index y host) s) (mk : MK y bytes maxL ret n) (vk : VK y) (hcl : vwCl[ci]? = some (y.cls, T, N)) (hc : gC h k = some ci) (hn : As.length = n) (hW : (st.map fun v => v.category).sum ≤ 8) (hrc : rm.cells = mc) (hrs : rm.slots = ms) (hR : rm.frames + 1 ≤ R.frames ∧ 8 + (maxL + 11) + rm.locals ≤ R.locals) (hf : cells + mc ≤ R.cells ∧ slots + ms ≤ R.slots) (hst : st0 = As.reverse ++ .ref (m_b G + k) :: st) (hdg : decode cc pc = .ok (.invokevirtual index, 3)) (kk : ∀ (r : Int32) (h2 : MH), Post r h2 → WG p l e R s m args below meth c (cells + mc) (slots + ms) Q G nL lv (pc + 3) (.int r :: st) h2) : WG p l e R s m args below meth c cells slots Q G nL lv pc st0 h :=
  x_fini (fun H locs ls hw hv => va_runVN (As := As) (rest := st) C0.1 hM ⟨ck_N C0 hl mk hrc hrs hR, C0.ts _ vk.1, C0.ts _ vk.2⟩ ⟨Wd.blind, x_rcv C0 hw hcl hc, fun U hU hW => ⟨rfl, hw.toWd C0 U hU hW⟩⟩ rfl hn hv.1 hst (lv_room hW) hdg hf) kk
theorem x_callSi (C0 : Cx G p s m args c cc nL own) {Post : Int32 → MH → Prop} (hM : Met l y (Cond.code y bytes maxL ret :: lw_good) rm (va_Pc (As) (Wd G h)) (va_Qi Post (Wd G) (mA G)) mc ms (mA G)) (hl : Cond.methodLink own index y ∈ lw_good) (mk : MK y bytes maxL ret n) (sk : Cond.static y ∈ lw_good) (hn : As.length = n) (hW : (st.map fun v => v.category).sum ≤ 8) (hrc : rm.cells = mc) (hrs : rm.slots = ms) (hR : rm.frames + 1 ≤ R.frames ∧ 8 + (maxL + 11) + rm.locals ≤ R.locals) (hf : cells + mc ≤ R.cells ∧ slots + ms ≤ R.slots) (hst : st0 = As.reverse ++ st) (hdg : decode cc pc = .ok (.invokestatic index, 3)) (kk : ∀ (r : Int32) (h2 : MH), Post r h2 → WG p l e R s m args below meth c (cells + mc) (slots + ms) Q G nL lv (pc + 3) (.int r :: st) h2) : WG p l e R s m args below meth c cells slots Q G nL lv pc st0 h :=
  x_fini (fun H locs ls hw hv => va_runS (As := As) (rest := st) C0.1 hM ⟨ck_B C0 hl mk hrc hrs hR, C0.ts _ sk⟩ ⟨Wd.blind, fun U hU hW => ⟨rfl, hw.toWd C0 U hU hW⟩⟩ rfl hn hv.1 hst (lv_room hW) hdg hf) kk
theorem x_callSNi (C0 : Cx G p s m args c cc nL own) {Post : Int32 → MH → Prop} {host : String} (hM : Met l y (Cond.code y bytes maxL ret :: lw_good) rm (va_Pc (As) (Wd G h)) (va_Qi Post (Wd G) (mA G)) mc ms (mA G)) (hl : va_Nw (.methodLinkNest own index y host) s) (mk : MK y bytes maxL ret n) (sk : Cond.static y ∈ lw_good) (hn : As.length = n) (hW : (st.map fun v => v.category).sum ≤ 8) (hrc : rm.cells = mc) (hrs : rm.slots = ms) (hR : rm.frames + 1 ≤ R.frames ∧ 8 + (maxL + 11) + rm.locals ≤ R.locals) (hf : cells + mc ≤ R.cells ∧ slots + ms ≤ R.slots) (hst : st0 = As.reverse ++ st) (hdg : decode cc pc = .ok (.invokestatic index, 3)) (kk : ∀ (r : Int32) (h2 : MH), Post r h2 → WG p l e R s m args below meth c (cells + mc) (slots + ms) Q G nL lv (pc + 3) (.int r :: st) h2) : WG p l e R s m args below meth c cells slots Q G nL lv pc st0 h :=
  x_fini (fun H locs ls hw hv => va_runSN (As := As) (rest := st) C0.1 hM ⟨ck_N C0 hl mk hrc hrs hR, C0.ts _ sk, trivial⟩ ⟨Wd.blind, fun U hU hW => ⟨rfl, hw.toWd C0 U hU hW⟩⟩ rfl hn hv.1 hst (lv_room hW) hdg hf) kk
theorem x_callVv (C0 : Cx G p s m args c cc nL own) {Post : MH → Prop} {T : u_T} {N : Nat} (hM : Met l y (Cond.code y bytes maxL ret :: lw_good) rm (va_Pc (.ref (m_b G + k) :: As) (Wd G h)) (va_Qv Post (Wd G) (mA G)) mc ms (mA G)) (hl : Cond.methodLink own index y ∈ lw_good) (mk : MK y bytes maxL ret n) (vk : VK y) (hcl : vwCl[ci]? = some (y.cls, T, N)) (hc : gC h k = some ci) (hn : As.length = n) (hW : (st.map fun v => v.category).sum ≤ 8) (hrc : rm.cells = mc) (hrs : rm.slots = ms) (hR : rm.frames + 1 ≤ R.frames ∧ 8 + (maxL + 11) + rm.locals ≤ R.locals) (hf : cells + mc ≤ R.cells ∧ slots + ms ≤ R.slots) (hst : st0 = As.reverse ++ .ref (m_b G + k) :: st) (hdg : decode cc pc = .ok (.invokevirtual index, 3)) (kk : ∀ h2 : MH, Post h2 → WG p l e R s m args below meth c (cells + mc) (slots + ms) Q G nL lv (pc + 3) (st) h2) : WG p l e R s m args below meth c cells slots Q G nL lv pc st0 h :=
  x_finv (fun H locs ls hw hv => va_runV (As := As) (rest := st) C0.1 hM ⟨ck_B C0 hl mk hrc hrs hR, C0.ts _ vk.1, C0.ts _ vk.2⟩ ⟨Wd.blind, x_rcv C0 hw hcl hc, fun U hU hW => ⟨rfl, hw.toWd C0 U hU hW⟩⟩ rfl hn hv.1 hst (lv_room hW) hdg hf) kk
theorem x_callVNv (C0 : Cx G p s m args c cc nL own) {Post : MH → Prop} {host : String} {T : u_T} {N : Nat} (hM : Met l y (Cond.code y bytes maxL ret :: lw_good) rm (va_Pc (.ref (m_b G + k) :: As) (Wd G h)) (va_Qv Post (Wd G) (mA G)) mc ms (mA G)) (hl : va_Nw (.methodLinkNest own index y host) s) (mk : MK y bytes maxL ret n) (vk : VK y) (hcl : vwCl[ci]? = some (y.cls, T, N)) (hc : gC h k = some ci) (hn : As.length = n) (hW : (st.map fun v => v.category).sum ≤ 8) (hrc : rm.cells = mc) (hrs : rm.slots = ms) (hR : rm.frames + 1 ≤ R.frames ∧ 8 + (maxL + 11) + rm.locals ≤ R.locals) (hf : cells + mc ≤ R.cells ∧ slots + ms ≤ R.slots) (hst : st0 = As.reverse ++ .ref (m_b G + k) :: st) (hdg : decode cc pc = .ok (.invokevirtual index, 3)) (kk : ∀ h2 : MH, Post h2 → WG p l e R s m args below meth c (cells + mc) (slots + ms) Q G nL lv (pc + 3) (st) h2) : WG p l e R s m args below meth c cells slots Q G nL lv pc st0 h :=
  x_finv (fun H locs ls hw hv => va_runVN (As := As) (rest := st) C0.1 hM ⟨ck_N C0 hl mk hrc hrs hR, C0.ts _ vk.1, C0.ts _ vk.2⟩ ⟨Wd.blind, x_rcv C0 hw hcl hc, fun U hU hW => ⟨rfl, hw.toWd C0 U hU hW⟩⟩ rfl hn hv.1 hst (lv_room hW) hdg hf) kk
theorem x_callSv (C0 : Cx G p s m args c cc nL own) {Post : MH → Prop} (hM : Met l y (Cond.code y bytes maxL ret :: lw_good) rm (va_Pc (As) (Wd G h)) (va_Qv Post (Wd G) (mA G)) mc ms (mA G)) (hl : Cond.methodLink own index y ∈ lw_good) (mk : MK y bytes maxL ret n) (sk : Cond.static y ∈ lw_good) (hn : As.length = n) (hW : (st.map fun v => v.category).sum ≤ 8) (hrc : rm.cells = mc) (hrs : rm.slots = ms) (hR : rm.frames + 1 ≤ R.frames ∧ 8 + (maxL + 11) + rm.locals ≤ R.locals) (hf : cells + mc ≤ R.cells ∧ slots + ms ≤ R.slots) (hst : st0 = As.reverse ++ st) (hdg : decode cc pc = .ok (.invokestatic index, 3)) (kk : ∀ h2 : MH, Post h2 → WG p l e R s m args below meth c (cells + mc) (slots + ms) Q G nL lv (pc + 3) (st) h2) : WG p l e R s m args below meth c cells slots Q G nL lv pc st0 h :=
  x_finv (fun H locs ls hw hv => va_runS (As := As) (rest := st) C0.1 hM ⟨ck_B C0 hl mk hrc hrs hR, C0.ts _ sk⟩ ⟨Wd.blind, fun U hU hW => ⟨rfl, hw.toWd C0 U hU hW⟩⟩ rfl hn hv.1 hst (lv_room hW) hdg hf) kk
theorem x_callSNv (C0 : Cx G p s m args c cc nL own) {Post : MH → Prop} {host : String} (hM : Met l y (Cond.code y bytes maxL ret :: lw_good) rm (va_Pc (As) (Wd G h)) (va_Qv Post (Wd G) (mA G)) mc ms (mA G)) (hl : va_Nw (.methodLinkNest own index y host) s) (mk : MK y bytes maxL ret n) (sk : Cond.static y ∈ lw_good) (hn : As.length = n) (hW : (st.map fun v => v.category).sum ≤ 8) (hrc : rm.cells = mc) (hrs : rm.slots = ms) (hR : rm.frames + 1 ≤ R.frames ∧ 8 + (maxL + 11) + rm.locals ≤ R.locals) (hf : cells + mc ≤ R.cells ∧ slots + ms ≤ R.slots) (hst : st0 = As.reverse ++ st) (hdg : decode cc pc = .ok (.invokestatic index, 3)) (kk : ∀ h2 : MH, Post h2 → WG p l e R s m args below meth c (cells + mc) (slots + ms) Q G nL lv (pc + 3) (st) h2) : WG p l e R s m args below meth c cells slots Q G nL lv pc st0 h :=
  x_finv (fun H locs ls hw hv => va_runSN (As := As) (rest := st) C0.1 hM ⟨ck_N C0 hl mk hrc hrs hR, C0.ts _ sk, trivial⟩ ⟨Wd.blind, fun U hU hW => ⟨rfl, hw.toWd C0 U hU hW⟩⟩ rfl hn hv.1 hst (lv_room hW) hdg hf) kk
theorem x_callI (C0 : Cx G p s m args c cc nL own) {Post : MH → Prop} (hM : Met l y (Cond.code y bytes maxL none :: lw_good) rm (va_Pc (.ref (m_b G + k) :: As) (Wd G h)) (va_Qv Post (Wd G) (mA G)) mc ms (mA G)) (hl : Cond.methodLink own index y ∈ lw_good) (mk : MK y bytes maxL none n) (ik : y.name = "<init>" ∧ Cond.instanceMethod y ∈ lw_good) (hn : As.length = n) (hW : (st.map fun v => v.category).sum ≤ 8) (hrc : rm.cells = mc) (hrs : rm.slots = ms) (hR : rm.frames + 1 ≤ R.frames ∧ 8 + (maxL + 11) + rm.locals ≤ R.locals) (hf : cells + mc ≤ R.cells ∧ slots + ms ≤ R.slots) (hst : st0 = As.reverse ++ .ref (m_b G + k) :: st) (hdg : decode cc pc = .ok (.invokespecial index, 3)) (kk : ∀ h2 : MH, Post h2 → WG p l e R s m args below meth c (cells + mc) (slots + ms) Q G nL lv (pc + 3) (st) h2) : WG p l e R s m args below meth c cells slots Q G nL lv pc st0 h :=
  x_finv (fun H locs ls hw hv => va_runI (As := As) (rest := st) C0.1 hM ⟨ck_B C0 hl mk hrc hrs hR, ik.1, C0.ts _ ik.2⟩ ⟨Wd.blind, fun U hU hW => ⟨rfl, hw.toWd C0 U hU hW⟩⟩ rfl hn hv.1 hst (lv_room hW) hdg hf) kk
theorem x_callIN (C0 : Cx G p s m args c cc nL own) {Post : MH → Prop} {host : String} (hM : Met l y (Cond.code y bytes maxL none :: lw_good) rm (va_Pc (.ref (m_b G + k) :: As) (Wd G h)) (va_Qv Post (Wd G) (mA G)) mc ms (mA G)) (hl : va_Nw (.methodLinkNest own index y host) s) (mk : MK y bytes maxL none n) (ik : y.name = "<init>" ∧ Cond.instanceMethod y ∈ lw_good) (hn : As.length = n) (hW : (st.map fun v => v.category).sum ≤ 8) (hrc : rm.cells = mc) (hrs : rm.slots = ms) (hR : rm.frames + 1 ≤ R.frames ∧ 8 + (maxL + 11) + rm.locals ≤ R.locals) (hf : cells + mc ≤ R.cells ∧ slots + ms ≤ R.slots) (hst : st0 = As.reverse ++ .ref (m_b G + k) :: st) (hdg : decode cc pc = .ok (.invokespecial index, 3)) (kk : ∀ h2 : MH, Post h2 → WG p l e R s m args below meth c (cells + mc) (slots + ms) Q G nL lv (pc + 3) (st) h2) : WG p l e R s m args below meth c cells slots Q G nL lv pc st0 h :=
  x_finv (fun H locs ls hw hv => va_runIN (As := As) (rest := st) C0.1 hM ⟨ck_N C0 hl mk hrc hrs hR, ik.1, C0.ts _ ik.2⟩ ⟨Wd.blind, fun U hU hW => ⟨rfl, hw.toWd C0 U hU hW⟩⟩ rfl hn hv.1 hst (lv_room hW) hdg hf) kk
theorem x_callVr (C0 : Cx G p s m args c cc nL own) {Post : Nat → MH → Prop} {T : u_T} {N : Nat} (hM : Met l y (Cond.code y bytes maxL ret :: lw_good) rm (va_Pc (.ref (m_b G + k) :: As) (Wd G h)) (va_Qr (fun u : Nat × MH => Post u.1 u.2) (fun u a t => a = m_b G + u.1 ∧ Wd G u.2 t) (mA G)) mc ms (mA G)) (hl : Cond.methodLink own index y ∈ lw_good) (mk : MK y bytes maxL ret n) (vk : VK y) (hcl : vwCl[ci]? = some (y.cls, T, N)) (hc : gC h k = some ci) (hn : As.length = n) (hW : (st.map fun v => v.category).sum ≤ 8) (hrc : rm.cells = mc) (hrs : rm.slots = ms) (hR : rm.frames + 1 ≤ R.frames ∧ 8 + (maxL + 11) + rm.locals ≤ R.locals) (hf : cells + mc ≤ R.cells ∧ slots + ms ≤ R.slots) (hst : st0 = As.reverse ++ .ref (m_b G + k) :: st) (hdg : decode cc pc = .ok (.invokevirtual index, 3)) (kk : ∀ (r : Nat) (h2 : MH), Post r h2 → WG p l e R s m args below meth c (cells + mc) (slots + ms) Q G nL lv (pc + 3) (.ref (m_b G + r) :: st) h2) : WG p l e R s m args below meth c cells slots Q G nL lv pc st0 h :=
  x_finr (fun H locs ls hw hv => va_runV (As := As) (rest := st) C0.1 hM ⟨ck_B C0 hl mk hrc hrs hR, C0.ts _ vk.1, C0.ts _ vk.2⟩ ⟨Wd.blind, x_rcv C0 hw hcl hc, fun U hU hW => ⟨rfl, hw.toWd C0 U hU hW⟩⟩ rfl hn hv.1 hst (lv_room hW) hdg hf) kk
theorem x_callVNr (C0 : Cx G p s m args c cc nL own) {Post : Nat → MH → Prop} {host : String} {T : u_T} {N : Nat} (hM : Met l y (Cond.code y bytes maxL ret :: lw_good) rm (va_Pc (.ref (m_b G + k) :: As) (Wd G h)) (va_Qr (fun u : Nat × MH => Post u.1 u.2) (fun u a t => a = m_b G + u.1 ∧ Wd G u.2 t) (mA G)) mc ms (mA G)) (hl : va_Nw (.methodLinkNest own index y host) s) (mk : MK y bytes maxL ret n) (vk : VK y) (hcl : vwCl[ci]? = some (y.cls, T, N)) (hc : gC h k = some ci) (hn : As.length = n) (hW : (st.map fun v => v.category).sum ≤ 8) (hrc : rm.cells = mc) (hrs : rm.slots = ms) (hR : rm.frames + 1 ≤ R.frames ∧ 8 + (maxL + 11) + rm.locals ≤ R.locals) (hf : cells + mc ≤ R.cells ∧ slots + ms ≤ R.slots) (hst : st0 = As.reverse ++ .ref (m_b G + k) :: st) (hdg : decode cc pc = .ok (.invokevirtual index, 3)) (kk : ∀ (r : Nat) (h2 : MH), Post r h2 → WG p l e R s m args below meth c (cells + mc) (slots + ms) Q G nL lv (pc + 3) (.ref (m_b G + r) :: st) h2) : WG p l e R s m args below meth c cells slots Q G nL lv pc st0 h :=
  x_finr (fun H locs ls hw hv => va_runVN (As := As) (rest := st) C0.1 hM ⟨ck_N C0 hl mk hrc hrs hR, C0.ts _ vk.1, C0.ts _ vk.2⟩ ⟨Wd.blind, x_rcv C0 hw hcl hc, fun U hU hW => ⟨rfl, hw.toWd C0 U hU hW⟩⟩ rfl hn hv.1 hst (lv_room hW) hdg hf) kk
theorem x_callSr (C0 : Cx G p s m args c cc nL own) {Post : Nat → MH → Prop} (hM : Met l y (Cond.code y bytes maxL ret :: lw_good) rm (va_Pc (As) (Wd G h)) (va_Qr (fun u : Nat × MH => Post u.1 u.2) (fun u a t => a = m_b G + u.1 ∧ Wd G u.2 t) (mA G)) mc ms (mA G)) (hl : Cond.methodLink own index y ∈ lw_good) (mk : MK y bytes maxL ret n) (sk : Cond.static y ∈ lw_good) (hn : As.length = n) (hW : (st.map fun v => v.category).sum ≤ 8) (hrc : rm.cells = mc) (hrs : rm.slots = ms) (hR : rm.frames + 1 ≤ R.frames ∧ 8 + (maxL + 11) + rm.locals ≤ R.locals) (hf : cells + mc ≤ R.cells ∧ slots + ms ≤ R.slots) (hst : st0 = As.reverse ++ st) (hdg : decode cc pc = .ok (.invokestatic index, 3)) (kk : ∀ (r : Nat) (h2 : MH), Post r h2 → WG p l e R s m args below meth c (cells + mc) (slots + ms) Q G nL lv (pc + 3) (.ref (m_b G + r) :: st) h2) : WG p l e R s m args below meth c cells slots Q G nL lv pc st0 h :=
  x_finr (fun H locs ls hw hv => va_runS (As := As) (rest := st) C0.1 hM ⟨ck_B C0 hl mk hrc hrs hR, C0.ts _ sk⟩ ⟨Wd.blind, fun U hU hW => ⟨rfl, hw.toWd C0 U hU hW⟩⟩ rfl hn hv.1 hst (lv_room hW) hdg hf) kk
theorem x_callSNr (C0 : Cx G p s m args c cc nL own) {Post : Nat → MH → Prop} {host : String} (hM : Met l y (Cond.code y bytes maxL ret :: lw_good) rm (va_Pc (As) (Wd G h)) (va_Qr (fun u : Nat × MH => Post u.1 u.2) (fun u a t => a = m_b G + u.1 ∧ Wd G u.2 t) (mA G)) mc ms (mA G)) (hl : va_Nw (.methodLinkNest own index y host) s) (mk : MK y bytes maxL ret n) (sk : Cond.static y ∈ lw_good) (hn : As.length = n) (hW : (st.map fun v => v.category).sum ≤ 8) (hrc : rm.cells = mc) (hrs : rm.slots = ms) (hR : rm.frames + 1 ≤ R.frames ∧ 8 + (maxL + 11) + rm.locals ≤ R.locals) (hf : cells + mc ≤ R.cells ∧ slots + ms ≤ R.slots) (hst : st0 = As.reverse ++ st) (hdg : decode cc pc = .ok (.invokestatic index, 3)) (kk : ∀ (r : Nat) (h2 : MH), Post r h2 → WG p l e R s m args below meth c (cells + mc) (slots + ms) Q G nL lv (pc + 3) (.ref (m_b G + r) :: st) h2) : WG p l e R s m args below meth c cells slots Q G nL lv pc st0 h :=
  x_finr (fun H locs ls hw hv => va_runSN (As := As) (rest := st) C0.1 hM ⟨ck_N C0 hl mk hrc hrs hR, C0.ts _ sk, trivial⟩ ⟨Wd.blind, fun U hU hW => ⟨rfl, hw.toWd C0 U hU hW⟩⟩ rfl hn hv.1 hst (lv_room hW) hdg hf) kk
theorem x_iret (C0 : Cx G p s m args c cc nL own) {Post : Int32 → MH → Prop} {v : Int32} (hr : meth.sig.returnType = some .int) (hlk : meth.locks = false) (hp : Post v h) (hdg : decode cc pc = .ok (.ireturn, 1)) : WG p l e R s m args below meth c cells slots (MQ below (va_Qi Post (Wd G) (mA G)) args s cells slots (mA G)) G nL lv pc [.int v] h := fun H locs ls hw hv => W.iret (v := v) C0.ex C0.by hr (fun t ht hW => ⟨⟨v, h, rfl, hp, hw.toWd C0 t ht hW⟩, hw.2.2.F ht⟩) hw.2.2.2.2 hdg hlk
theorem x_zret (C0 : Cx G p s m args c cc nL own) {Post : Int32 → MH → Prop} {v : Int32} {ty : FieldType} (hr : meth.sig.returnType = some ty) (hn : narrow ty (.int v) = .int v) (hlk : meth.locks = false) (hp : Post v h) (hdg : decode cc pc = .ok (.ireturn, 1)) : WG p l e R s m args below meth c cells slots (MQ below (va_Qi Post (Wd G) (mA G)) args s cells slots (mA G)) G nL lv pc [.int v] h := fun H locs ls hw hv => W.zret (v := v) C0.ex C0.by hr hn (fun t ht hW => ⟨⟨v, h, rfl, hp, hw.toWd C0 t ht hW⟩, hw.2.2.F ht⟩) hw.2.2.2.2 hdg hlk
theorem x_vret (C0 : Cx G p s m args c cc nL own) {Post : MH → Prop} (hr : meth.sig.returnType = none) (hlk : meth.locks = false) (hp : Post h) (hdg : decode cc pc = .ok (.return_, 1)) : WG p l e R s m args below meth c cells slots (MQ below (va_Qv Post (Wd G) (mA G)) args s cells slots (mA G)) G nL lv pc [] h := fun H locs ls hw hv => W.vret C0.ex C0.by hr (fun t ht hW => ⟨⟨h, rfl, hp, hw.toWd C0 t ht hW⟩, hw.2.2.F ht⟩) hw.2.2.2.2 hdg hlk
theorem x_aret (C0 : Cx G p s m args c cc nL own) {Post : Nat → MH → Prop} {v : Nat} {rt : FieldType} (hr : meth.sig.returnType = some rt) (hrt : (∃ n, rt = .object n) ∨ ∃ t, rt = .array t) (hlk : meth.locks = false) (hp : Post v h) (hdg : decode cc pc = .ok (.areturn, 1)) : WG p l e R s m args below meth c cells slots (MQ below (va_Qr (fun u : Nat × MH => Post u.1 u.2) (fun u a t => a = m_b G + u.1 ∧ Wd G u.2 t) (mA G)) args s cells slots (mA G)) G nL lv pc [.ref (m_b G + v)] h := fun H locs ls hw hv => W.aret (v := .ref (m_b G + v)) C0.ex C0.by hr hrt (Or.inr ⟨_, rfl⟩) (fun t ht hW => ⟨⟨(v, h), m_b G + v, rfl, hp, rfl, hw.toWd C0 t ht hW⟩, hw.2.2.F ht⟩) hw.2.2.2.2 hdg hlk
theorem x_sald (C0 : Cx G p s m args c cc nL own) {t : Nat} {i : Int32} (ht : t < m_nS) (hin : vp_in i (m_sN t)) (hdg : decode cc pc = .ok (.iaload, 1)) (kk : WG p l e R s m args below meth c cells slots Q G nL lv (pc + 1) (.int (m_sV t i.toNatClampNeg) :: st) h) : WG p l e R s m args below meth c cells slots Q G nL lv pc (.int i :: .ref (m_s G t) :: st) h := fun H locs ls hw hv => va_ti C0.ex C0.by (C0.St.1 t ht).2 hw.2.2 hin rfl hdg (kk H locs ls hw hv)
theorem x_slen (C0 : Cx G p s m args c cc nL own) {t : Nat} (ht : t < m_nS) (hdg : decode cc pc = .ok (.arraylength, 1)) (kk : WG p l e R s m args below meth c cells slots Q G nL lv (pc + 1) (.int (nI (m_sN t)) :: st) h) : WG p l e R s m args below meth c cells slots Q G nL lv pc (.ref (m_s G t) :: st) h := fun H locs ls hw hv => va_tlen C0.ex C0.by (C0.St.1 t ht).2 hw.2.2 rfl hdg (kk H locs ls hw hv)
theorem x_gets (C0 : Cx G p s m args c cc nL own) (t : Nat) (ht : t < m_nS) (hl : Cond.fieldLink own index (m_sC t) (m_sF t) "[I" ∈ lw_good) (hdg : decode cc pc = .ok (.getstatic index, 3)) (kk : WG p l e R s m args below meth c cells slots Q G nL lv (pc + 3) (.ref (m_s G t) :: st) h) : WG p l e R s m args below meth c cells slots Q G nL lv pc st h := fun H locs ls hw hv => va_gets C0.ex C0.by (C0.St.1 t ht).1 hw.2.2 C0.ow (C0.ts _ hl) (fun _ h => h) hdg (kk H locs ls hw hv)
theorem x_getsN (C0 : Cx G p s m args c cc nL own) {host : String} (t : Nat) (ht : t < m_nS) (hl : va_Nw (.fieldLinkNest own index (m_sC t) (m_sF t) "[I" host) s) (hdg : decode cc pc = .ok (.getstatic index, 3)) (kk : WG p l e R s m args below meth c cells slots Q G nL lv (pc + 3) (.ref (m_s G t) :: st) h) : WG p l e R s m args below meth c cells slots Q G nL lv pc st h := fun H locs ls hw hv => va_getsN C0.ex C0.by (C0.St.1 t ht).1 hw.2.2 C0.ow (va_Nw.use rfl hl) (fun _ h => h) hdg (kk H locs ls hw hv)
theorem x_ldc (C0 : Cx G p s m args c cc nL own) {v : Int32} (hk : Cond.constant own index v ∈ lw_good) (hdg : decode cc pc = .ok (.ldc index, 2)) (kk : WG p l e R s m args below meth c cells slots Q G nL lv (pc + 2) (.int v :: st) h) : WG p l e R s m args below meth c cells slots Q G nL lv pc st h := fun H locs ls hw hv => lv_ldc C0.ex C0.by C0.ow (C0.ts _ hk) hdg (kk H locs ls hw hv)
theorem x_ldcw (C0 : Cx G p s m args c cc nL own) {v : Int32} (hk : Cond.constant own index v ∈ lw_good) (hdg : decode cc pc = .ok (.ldc_w index, 3)) (kk : WG p l e R s m args below meth c cells slots Q G nL lv (pc + 3) (.int v :: st) h) : WG p l e R s m args below meth c cells slots Q G nL lv pc st h := fun H locs ls hw hv => lv_ldcw C0.ex C0.by C0.ow (C0.ts _ hk) hdg (kk H locs ls hw hv)
theorem x_ldc2 (C0 : Cx G p s m args c cc nL own) {v : Int64} (hk : Cond.constantLong own index v ∈ lw_good) (hdg : decode cc pc = .ok (.ldc2_w index, 3)) (kk : WG p l e R s m args below meth c cells slots Q G nL lv (pc + 3) (.long v :: st) h) : WG p l e R s m args below meth c cells slots Q G nL lv pc st h := fun H locs ls hw hv => lv_ldc2 C0.ex C0.by C0.ow (C0.ts _ hk) hdg (kk H locs ls hw hv)
theorem nar_z {x : Int32} (hx : x = 0 ∨ x = 1) : narrow .boolean (.int x) = .int x := by rcases hx with rfl | rfl <;> rfl
theorem sw_out {x : Int32} {lo hi : Int} (hk : ∀ k : Int, lo ≤ k → k ≤ hi → ¬ x = Int32.ofInt k) : x.toInt < lo ∨ hi < x.toInt := by
  by_cases h1 : x.toInt < lo
  · exact Or.inl h1
  · by_cases h2 : hi < x.toInt
    · exact Or.inr h2
    · exact absurd (Int32.ofInt_toInt x).symm (hk x.toInt (by omega) (by omega))
theorem x_objInit (C0 : Cx G p s m args c cc nL own) {a : Nat} (hl : Cond.methodLink own index Lib.objectInit ∈ lw_good) (h2 : Cond.instanceMethod Lib.objectInit ∈ lw_good) (h3 : Cond.code Lib.objectInit ⟨#[0xb1]⟩ 1 none ∈ lw_good) (hdg : decode cc pc = .ok (.invokespecial index, 3)) (hR : 1 ≤ R.frames ∧ 20 ≤ R.locals) (hW : (st.map fun v => v.category).sum ≤ 8) (kk : WG p l e R s m args below meth c cells slots Q G nL lv (pc + 3) st h) : WG p l e R s m args below meth c cells slots Q G nL lv pc (.ref a :: st) h := fun H locs ls hw hv => W.objInit C0.ex C0.by C0.ow (C0.ts _ hl) (C0.ts _ h2) (C0.ts _ h3) rfl (by rw [C0.ml]; exact hv.1) rfl hdg hR.1 (by show 2 * 0 + _ + 12 ≤ _; omega) (kk H locs ls hw hv)
theorem x_mmax (C0 : Cx G p s m args c cc nL own) {x z : Int32} (hl : Cond.methodLink own index Lib.Math.max.name ∈ lw_good) (h2 : Cond.static Lib.Math.max.name ∈ lw_good) (h3 : Cond.initialized "java/lang/Math" ∈ lw_good) (h4 : Cond.code Lib.Math.max.name Lib.Math.max.code 2 (some .int) ∈ lw_good) (hdg : decode cc pc = .ok (.invokestatic index, 3)) (hR : 1 ≤ R.frames ∧ 21 ≤ R.locals) (hc : cells ≤ R.cells ∧ slots ≤ R.slots) (hW : (st.map fun v => v.category).sum ≤ 8) (kk : WG p l e R s m args below meth c cells slots Q G nL lv (pc + 3) (.int (if x < z then z else x) :: st) h) : WG p l e R s m args below meth c cells slots Q G nL lv pc (.int z :: .int x :: st) h := fun H locs ls hw hv => va_mmax C0.ex C0.by (by rw [C0.ml]; exact hv.1.symm) C0.ow (C0.ts _ hl) (C0.ts _ h2) (C0.ts _ h3) (C0.ts _ h4) hR.1 (by omega) hc.1 hc.2 hdg (kk H locs ls hw hv)
theorem x_mmin (C0 : Cx G p s m args c cc nL own) {x z : Int32} (hl : Cond.methodLink own index Lib.Math.min.name ∈ lw_good) (h2 : Cond.static Lib.Math.min.name ∈ lw_good) (h3 : Cond.initialized "java/lang/Math" ∈ lw_good) (h4 : Cond.code Lib.Math.min.name Lib.Math.min.code 2 (some .int) ∈ lw_good) (hdg : decode cc pc = .ok (.invokestatic index, 3)) (hR : 1 ≤ R.frames ∧ 21 ≤ R.locals) (hc : cells ≤ R.cells ∧ slots ≤ R.slots) (hW : (st.map fun v => v.category).sum ≤ 8) (kk : WG p l e R s m args below meth c cells slots Q G nL lv (pc + 3) (.int (if z < x then z else x) :: st) h) : WG p l e R s m args below meth c cells slots Q G nL lv pc (.int z :: .int x :: st) h := fun H locs ls hw hv => va_mmin C0.ex C0.by (by rw [C0.ml]; exact hv.1.symm) C0.ow (C0.ts _ hl) (C0.ts _ h2) (C0.ts _ h3) (C0.ts _ h4) hR.1 (by omega) hc.1 hc.2 hdg (kk H locs ls hw hv)
theorem x_mabs (C0 : Cx G p s m args c cc nL own) {x : Int32} (hl : Cond.methodLink own index Lib.Math.abs.name ∈ lw_good) (h2 : Cond.static Lib.Math.abs.name ∈ lw_good) (h3 : Cond.initialized "java/lang/Math" ∈ lw_good) (h4 : Cond.code Lib.Math.abs.name Lib.Math.abs.code 1 (some .int) ∈ lw_good) (hdg : decode cc pc = .ok (.invokestatic index, 3)) (hR : 1 ≤ R.frames ∧ 21 ≤ R.locals) (hc : cells ≤ R.cells ∧ slots ≤ R.slots) (hW : (st.map fun v => v.category).sum ≤ 8) (kk : WG p l e R s m args below meth c cells slots Q G nL lv (pc + 3) (.int (if 0 ≤ x then x else 0 - x) :: st) h) : WG p l e R s m args below meth c cells slots Q G nL lv pc (.int x :: st) h := fun H locs ls hw hv => va_mabs C0.ex C0.by (by rw [C0.ml]; exact hv.1.symm) C0.ow (C0.ts _ hl) (C0.ts _ h2) (C0.ts _ h3) (C0.ts _ h4) hR.1 (by omega) hc.1 hc.2 hdg (kk H locs ls hw hv)
theorem x_new (C0 : Cx G p s m args c cc nL own) {ci : Nat} {C : String} {T : u_T} {N : Nat} (fs : List MV) (hcl : vwCl[ci]? = some (C, T, N)) (hin : ∀ w ∈ u_ws C T N, w ∈ lw_good) (ty : Nat → FieldType) (hty : ∀ k, k < N → parseFieldDescriptor (T k).2.2.1 = some (ty k)) (hl : Cond.classLink own index C ∈ lw_good) (h2 : Cond.instantiable C N ∈ lw_good) (h3 : Cond.initialized C ∈ lw_good) (hfs : ∀ j, j < N → defaultValue (ty j) = vp_V (fs.map (trV (m_b G))) j) (hf : cells + 1 ≤ R.cells ∧ slots + N ≤ R.slots) (hdg : decode cc pc = .ok (.new index, 3)) (kk : WG p l e R s m args below meth c (cells + 1) (slots + N) Q G nL lv (pc + 3) (.ref (m_b G + h.1) :: st) (mnew h (.inl (ci, fs)))) : WG p l e R s m args below meth c cells slots Q G nL lv pc st h := by
  intro H locs ls hw hv
  have hKn := C0.K.1 ci _ hcl
  refine W.newcK C0.ex C0.by C0.ow (C0.ts _ hl) (C0.ts _ h2) (C0.ts _ h3) rfl hdg hf.1 hf.2 hKn.2.1 (h := m_b G + h.1) hw.2.1 fun H1 kC hkC e1 z1 o1 => ?_
  exact kk H1 locs ls (hw.new C0 ⟨_, hcl, (u_born ty C0.ts hin hKn hkC e1 hty).to hfs⟩ (by rw [z1, hw.2.1]) (fun q hq => o1 q (by rw [← hw.2.1]; exact hq))) hv
theorem x_newai (C0 : Cx G p s m args c cc nL own) {n : Int32} (N : Nat) (h1 : Cond.arrayClass .int ∈ lw_good) (hn : ¬ n < 0) (hN : n.toNatClampNeg = N) (hb : N * componentBytes .int ≤ 536870912) (hf : cells + 1 ≤ R.cells ∧ slots + N ≤ R.slots) (hdg : decode cc pc = .ok (.newarray .int, 2)) (kk : WG p l e R s m args below meth c (cells + 1) (slots + N) Q G nL lv (pc + 2) (.ref (m_b G + h.1) :: st) (mnew h (.inr (0, N, .inl (fun _ => 0))))) : WG p l e R s m args below meth c cells slots Q G nL lv pc (.int n :: st) h := by
  intro H locs ls hw hv
  refine va_newaK C0.ex C0.by (atype := .int) (C0.ts _ h1) rfl hdg rfl hn hN hb hf.1 hf.2 (h := m_b G + h.1) hw.2.1 fun H1 cA e1 z1 o1 hAr hNm => ?_
  have hcA : cA = G.2.1 0 := Option.some.inj (hNm.symm.trans ((C0.K.2 0 _ rfl).2))
  subst hcA
  refine kk H1 locs ls (hw.new C0 ?_ (by rw [z1, hw.2.1]) (fun q hq => o1 q (by rw [← hw.2.1]; exact hq))) hv
  show H1[m_b G + h.1]? = some (vp_cell (G.2.1 0) (N, .inl (fun _ => 0)))
  rw [vp_cell_i]
  exact e1
theorem x_newaz (C0 : Cx G p s m args c cc nL own) {n : Int32} (N : Nat) (h1 : Cond.arrayClass .boolean ∈ lw_good) (hn : ¬ n < 0) (hN : n.toNatClampNeg = N) (hb : N * componentBytes .boolean ≤ 536870912) (hf : cells + 1 ≤ R.cells ∧ slots + N ≤ R.slots) (hdg : decode cc pc = .ok (.newarray .boolean, 2)) (kk : WG p l e R s m args below meth c (cells + 1) (slots + N) Q G nL lv (pc + 2) (.ref (m_b G + h.1) :: st) (mnew h (.inr (1, N, .inl (fun _ => 0))))) : WG p l e R s m args below meth c cells slots Q G nL lv pc (.int n :: st) h := by
  intro H locs ls hw hv
  refine va_newaK C0.ex C0.by (atype := .boolean) (C0.ts _ h1) rfl hdg rfl hn hN hb hf.1 hf.2 (h := m_b G + h.1) hw.2.1 fun H1 cA e1 z1 o1 hAr hNm => ?_
  have hcA : cA = G.2.1 1 := Option.some.inj (hNm.symm.trans ((C0.K.2 1 _ rfl).2))
  subst hcA
  refine kk H1 locs ls (hw.new C0 ?_ (by rw [z1, hw.2.1]) (fun q hq => o1 q (by rw [← hw.2.1]; exact hq))) hv
  show H1[m_b G + h.1]? = some (vp_cell (G.2.1 1) (N, .inl (fun _ => 0)))
  rw [vp_cell_i]
  exact e1
theorem x_newal (C0 : Cx G p s m args c cc nL own) {n : Int32} (N : Nat) (h1 : Cond.arrayClass .long ∈ lw_good) (hn : ¬ n < 0) (hN : n.toNatClampNeg = N) (hb : N * componentBytes .long ≤ 536870912) (hf : cells + 1 ≤ R.cells ∧ slots + N ≤ R.slots) (hdg : decode cc pc = .ok (.newarray .long, 2)) (kk : WG p l e R s m args below meth c (cells + 1) (slots + N) Q G nL lv (pc + 2) (.ref (m_b G + h.1) :: st) (mnew h (.inr (2, N, .inr (.inl (fun _ => 0)))))) : WG p l e R s m args below meth c cells slots Q G nL lv pc (.int n :: st) h := by
  intro H locs ls hw hv
  refine va_newaK C0.ex C0.by (atype := .long) (C0.ts _ h1) rfl hdg rfl hn hN hb hf.1 hf.2 (h := m_b G + h.1) hw.2.1 fun H1 cA e1 z1 o1 hAr hNm => ?_
  have hcA : cA = G.2.1 2 := Option.some.inj (hNm.symm.trans ((C0.K.2 2 _ rfl).2))
  subst hcA
  refine kk H1 locs ls (hw.new C0 ?_ (by rw [z1, hw.2.1]) (fun q hq => o1 q (by rw [← hw.2.1]; exact hq))) hv
  show H1[m_b G + h.1]? = some (vp_cell (G.2.1 2) (N, .inr (.inl (fun _ => 0))))
  rw [vp_cell_l]
  exact e1
theorem x_newq (C0 : Cx G p s m args c cc nL own) {n : Int32} {C : String} {t : Nat} (N : Nat) (ht : (m_tys G)[t]? = some (G.2.1 t, .object C)) (hl : Cond.classLink own index C ∈ lw_good) (h1 : va_AO C s) (hn : ¬ n < 0) (hN : n.toNatClampNeg = N) (hb : N * 4 ≤ 536870912) (hf : cells + 1 ≤ R.cells ∧ slots + N ≤ R.slots) (hdg : decode cc pc = .ok (.anewarray index, 3)) (kk : WG p l e R s m args below meth c (cells + 1) (slots + N) Q G nL lv (pc + 3) (.ref (m_b G + h.1) :: st) (mnew h (.inr (t, N, .inr (.inr (fun _ => none)))))) : WG p l e R s m args below meth c cells slots Q G nL lv pc (.int n :: st) h := by
  intro H locs ls hw hv
  subst hN
  refine W.anew C0.ex C0.by C0.ow (C0.ts _ hl) (va_AO.use h1) rfl hdg rfl hn hb hf.1 hf.2 fun cA kA comp f1 f2 f3 f4 => ?_
  have hcA : cA = G.2.1 t := by
    obtain ⟨kA', comp', -, -, -, g4⟩ := (C0.K.2 t _ ht).2
    exact Option.some.inj (f1.symm.trans g4)
  subst hcA
  rw [hw.2.1]
  refine kk _ locs ls (hw.new C0 ?_ (by rw [Array.size_push]) (fun q hq => by rw [Array.getElem?_push, if_neg (Nat.ne_of_lt hq)])) hv
  show _ = some (vp_cell (G.2.1 t) (n.toNatClampNeg, .inr (.inr (.inr (.inr (fun _ => none))))))
  rw [vp_cell_q, ← hw.2.1, Array.getElem?_push_size, ← arrV_new]
  rfl
theorem x_callVi0 (C0 : Cx G p s m args c cc nL own) {Post : Int32 → MH → Prop} {T : u_T} {N : Nat} (hM : Met l y (Cond.code y bytes maxL ret :: lw_good) rm (va_Pc (.ref (m_b G + k) :: As) (Wd G h)) (va_Qi Post (Wd G) (mA G)) 0 0 (mA G)) (hl : Cond.methodLink own index y ∈ lw_good) (mk : MK y bytes maxL ret n) (vk : VK y) (hcl : vwCl[ci]? = some (y.cls, T, N)) (hc : gC h k = some ci) (hn : As.length = n) (hW : (st.map fun v => v.category).sum ≤ 8) (hrc : rm.cells = 0) (hrs : rm.slots = 0) (hR : rm.frames + 1 ≤ R.frames ∧ 8 + (maxL + 11) + rm.locals ≤ R.locals) (hf : cells ≤ R.cells ∧ slots ≤ R.slots) (hst : st0 = As.reverse ++ .ref (m_b G + k) :: st) (hdg : decode cc pc = .ok (.invokevirtual index, 3)) (kk : ∀ (r : Int32) (h2 : MH), Post r h2 → WG p l e R s m args below meth c cells slots Q G nL lv (pc + 3) (.int r :: st) h2) : WG p l e R s m args below meth c cells slots Q G nL lv pc st0 h :=
  x_callVi (mc := 0) (ms := 0) C0 hM hl mk vk hcl hc hn hW hrc hrs hR hf hst hdg kk
theorem x_callVNi0 (C0 : Cx G p s m args c cc nL own) {Post : Int32 → MH → Prop} {host : String} {T : u_T} {N : Nat} (hM : Met l y (Cond.code y bytes maxL ret :: lw_good) rm (va_Pc (.ref (m_b G + k) :: As) (Wd G h)) (va_Qi Post (Wd G) (mA G)) 0 0 (mA G)) (hl : va_Nw (.methodLinkNest own index y host) s) (mk : MK y bytes maxL ret n) (vk : VK y) (hcl : vwCl[ci]? = some (y.cls, T, N)) (hc : gC h k = some ci) (hn : As.length = n) (hW : (st.map fun v => v.category).sum ≤ 8) (hrc : rm.cells = 0) (hrs : rm.slots = 0) (hR : rm.frames + 1 ≤ R.frames ∧ 8 + (maxL + 11) + rm.locals ≤ R.locals) (hf : cells ≤ R.cells ∧ slots ≤ R.slots) (hst : st0 = As.reverse ++ .ref (m_b G + k) :: st) (hdg : decode cc pc = .ok (.invokevirtual index, 3)) (kk : ∀ (r : Int32) (h2 : MH), Post r h2 → WG p l e R s m args below meth c cells slots Q G nL lv (pc + 3) (.int r :: st) h2) : WG p l e R s m args below meth c cells slots Q G nL lv pc st0 h :=
  x_callVNi (mc := 0) (ms := 0) C0 hM hl mk vk hcl hc hn hW hrc hrs hR hf hst hdg kk
theorem x_callSi0 (C0 : Cx G p s m args c cc nL own) {Post : Int32 → MH → Prop} (hM : Met l y (Cond.code y bytes maxL ret :: lw_good) rm (va_Pc (As) (Wd G h)) (va_Qi Post (Wd G) (mA G)) 0 0 (mA G)) (hl : Cond.methodLink own index y ∈ lw_good) (mk : MK y bytes maxL ret n) (sk : Cond.static y ∈ lw_good) (hn : As.length = n) (hW : (st.map fun v => v.category).sum ≤ 8) (hrc : rm.cells = 0) (hrs : rm.slots = 0) (hR : rm.frames + 1 ≤ R.frames ∧ 8 + (maxL + 11) + rm.locals ≤ R.locals) (hf : cells ≤ R.cells ∧ slots ≤ R.slots) (hst : st0 = As.reverse ++ st) (hdg : decode cc pc = .ok (.invokestatic index, 3)) (kk : ∀ (r : Int32) (h2 : MH), Post r h2 → WG p l e R s m args below meth c cells slots Q G nL lv (pc + 3) (.int r :: st) h2) : WG p l e R s m args below meth c cells slots Q G nL lv pc st0 h :=
  x_callSi (mc := 0) (ms := 0) C0 hM hl mk sk hn hW hrc hrs hR hf hst hdg kk
theorem x_callSNi0 (C0 : Cx G p s m args c cc nL own) {Post : Int32 → MH → Prop} {host : String} (hM : Met l y (Cond.code y bytes maxL ret :: lw_good) rm (va_Pc (As) (Wd G h)) (va_Qi Post (Wd G) (mA G)) 0 0 (mA G)) (hl : va_Nw (.methodLinkNest own index y host) s) (mk : MK y bytes maxL ret n) (sk : Cond.static y ∈ lw_good) (hn : As.length = n) (hW : (st.map fun v => v.category).sum ≤ 8) (hrc : rm.cells = 0) (hrs : rm.slots = 0) (hR : rm.frames + 1 ≤ R.frames ∧ 8 + (maxL + 11) + rm.locals ≤ R.locals) (hf : cells ≤ R.cells ∧ slots ≤ R.slots) (hst : st0 = As.reverse ++ st) (hdg : decode cc pc = .ok (.invokestatic index, 3)) (kk : ∀ (r : Int32) (h2 : MH), Post r h2 → WG p l e R s m args below meth c cells slots Q G nL lv (pc + 3) (.int r :: st) h2) : WG p l e R s m args below meth c cells slots Q G nL lv pc st0 h :=
  x_callSNi (mc := 0) (ms := 0) C0 hM hl mk sk hn hW hrc hrs hR hf hst hdg kk
theorem x_callVv0 (C0 : Cx G p s m args c cc nL own) {Post : MH → Prop} {T : u_T} {N : Nat} (hM : Met l y (Cond.code y bytes maxL ret :: lw_good) rm (va_Pc (.ref (m_b G + k) :: As) (Wd G h)) (va_Qv Post (Wd G) (mA G)) 0 0 (mA G)) (hl : Cond.methodLink own index y ∈ lw_good) (mk : MK y bytes maxL ret n) (vk : VK y) (hcl : vwCl[ci]? = some (y.cls, T, N)) (hc : gC h k = some ci) (hn : As.length = n) (hW : (st.map fun v => v.category).sum ≤ 8) (hrc : rm.cells = 0) (hrs : rm.slots = 0) (hR : rm.frames + 1 ≤ R.frames ∧ 8 + (maxL + 11) + rm.locals ≤ R.locals) (hf : cells ≤ R.cells ∧ slots ≤ R.slots) (hst : st0 = As.reverse ++ .ref (m_b G + k) :: st) (hdg : decode cc pc = .ok (.invokevirtual index, 3)) (kk : ∀ h2 : MH, Post h2 → WG p l e R s m args below meth c cells slots Q G nL lv (pc + 3) (st) h2) : WG p l e R s m args below meth c cells slots Q G nL lv pc st0 h :=
  x_callVv (mc := 0) (ms := 0) C0 hM hl mk vk hcl hc hn hW hrc hrs hR hf hst hdg kk
theorem x_callVNv0 (C0 : Cx G p s m args c cc nL own) {Post : MH → Prop} {host : String} {T : u_T} {N : Nat} (hM : Met l y (Cond.code y bytes maxL ret :: lw_good) rm (va_Pc (.ref (m_b G + k) :: As) (Wd G h)) (va_Qv Post (Wd G) (mA G)) 0 0 (mA G)) (hl : va_Nw (.methodLinkNest own index y host) s) (mk : MK y bytes maxL ret n) (vk : VK y) (hcl : vwCl[ci]? = some (y.cls, T, N)) (hc : gC h k = some ci) (hn : As.length = n) (hW : (st.map fun v => v.category).sum ≤ 8) (hrc : rm.cells = 0) (hrs : rm.slots = 0) (hR : rm.frames + 1 ≤ R.frames ∧ 8 + (maxL + 11) + rm.locals ≤ R.locals) (hf : cells ≤ R.cells ∧ slots ≤ R.slots) (hst : st0 = As.reverse ++ .ref (m_b G + k) :: st) (hdg : decode cc pc = .ok (.invokevirtual index, 3)) (kk : ∀ h2 : MH, Post h2 → WG p l e R s m args below meth c cells slots Q G nL lv (pc + 3) (st) h2) : WG p l e R s m args below meth c cells slots Q G nL lv pc st0 h :=
  x_callVNv (mc := 0) (ms := 0) C0 hM hl mk vk hcl hc hn hW hrc hrs hR hf hst hdg kk
theorem x_callSv0 (C0 : Cx G p s m args c cc nL own) {Post : MH → Prop} (hM : Met l y (Cond.code y bytes maxL ret :: lw_good) rm (va_Pc (As) (Wd G h)) (va_Qv Post (Wd G) (mA G)) 0 0 (mA G)) (hl : Cond.methodLink own index y ∈ lw_good) (mk : MK y bytes maxL ret n) (sk : Cond.static y ∈ lw_good) (hn : As.length = n) (hW : (st.map fun v => v.category).sum ≤ 8) (hrc : rm.cells = 0) (hrs : rm.slots = 0) (hR : rm.frames + 1 ≤ R.frames ∧ 8 + (maxL + 11) + rm.locals ≤ R.locals) (hf : cells ≤ R.cells ∧ slots ≤ R.slots) (hst : st0 = As.reverse ++ st) (hdg : decode cc pc = .ok (.invokestatic index, 3)) (kk : ∀ h2 : MH, Post h2 → WG p l e R s m args below meth c cells slots Q G nL lv (pc + 3) (st) h2) : WG p l e R s m args below meth c cells slots Q G nL lv pc st0 h :=
  x_callSv (mc := 0) (ms := 0) C0 hM hl mk sk hn hW hrc hrs hR hf hst hdg kk
theorem x_callSNv0 (C0 : Cx G p s m args c cc nL own) {Post : MH → Prop} {host : String} (hM : Met l y (Cond.code y bytes maxL ret :: lw_good) rm (va_Pc (As) (Wd G h)) (va_Qv Post (Wd G) (mA G)) 0 0 (mA G)) (hl : va_Nw (.methodLinkNest own index y host) s) (mk : MK y bytes maxL ret n) (sk : Cond.static y ∈ lw_good) (hn : As.length = n) (hW : (st.map fun v => v.category).sum ≤ 8) (hrc : rm.cells = 0) (hrs : rm.slots = 0) (hR : rm.frames + 1 ≤ R.frames ∧ 8 + (maxL + 11) + rm.locals ≤ R.locals) (hf : cells ≤ R.cells ∧ slots ≤ R.slots) (hst : st0 = As.reverse ++ st) (hdg : decode cc pc = .ok (.invokestatic index, 3)) (kk : ∀ h2 : MH, Post h2 → WG p l e R s m args below meth c cells slots Q G nL lv (pc + 3) (st) h2) : WG p l e R s m args below meth c cells slots Q G nL lv pc st0 h :=
  x_callSNv (mc := 0) (ms := 0) C0 hM hl mk sk hn hW hrc hrs hR hf hst hdg kk
theorem x_callI0 (C0 : Cx G p s m args c cc nL own) {Post : MH → Prop} (hM : Met l y (Cond.code y bytes maxL none :: lw_good) rm (va_Pc (.ref (m_b G + k) :: As) (Wd G h)) (va_Qv Post (Wd G) (mA G)) 0 0 (mA G)) (hl : Cond.methodLink own index y ∈ lw_good) (mk : MK y bytes maxL none n) (ik : y.name = "<init>" ∧ Cond.instanceMethod y ∈ lw_good) (hn : As.length = n) (hW : (st.map fun v => v.category).sum ≤ 8) (hrc : rm.cells = 0) (hrs : rm.slots = 0) (hR : rm.frames + 1 ≤ R.frames ∧ 8 + (maxL + 11) + rm.locals ≤ R.locals) (hf : cells ≤ R.cells ∧ slots ≤ R.slots) (hst : st0 = As.reverse ++ .ref (m_b G + k) :: st) (hdg : decode cc pc = .ok (.invokespecial index, 3)) (kk : ∀ h2 : MH, Post h2 → WG p l e R s m args below meth c cells slots Q G nL lv (pc + 3) (st) h2) : WG p l e R s m args below meth c cells slots Q G nL lv pc st0 h :=
  x_callI (mc := 0) (ms := 0) C0 hM hl mk ik hn hW hrc hrs hR hf hst hdg kk
theorem x_callIN0 (C0 : Cx G p s m args c cc nL own) {Post : MH → Prop} {host : String} (hM : Met l y (Cond.code y bytes maxL none :: lw_good) rm (va_Pc (.ref (m_b G + k) :: As) (Wd G h)) (va_Qv Post (Wd G) (mA G)) 0 0 (mA G)) (hl : va_Nw (.methodLinkNest own index y host) s) (mk : MK y bytes maxL none n) (ik : y.name = "<init>" ∧ Cond.instanceMethod y ∈ lw_good) (hn : As.length = n) (hW : (st.map fun v => v.category).sum ≤ 8) (hrc : rm.cells = 0) (hrs : rm.slots = 0) (hR : rm.frames + 1 ≤ R.frames ∧ 8 + (maxL + 11) + rm.locals ≤ R.locals) (hf : cells ≤ R.cells ∧ slots ≤ R.slots) (hst : st0 = As.reverse ++ .ref (m_b G + k) :: st) (hdg : decode cc pc = .ok (.invokespecial index, 3)) (kk : ∀ h2 : MH, Post h2 → WG p l e R s m args below meth c cells slots Q G nL lv (pc + 3) (st) h2) : WG p l e R s m args below meth c cells slots Q G nL lv pc st0 h :=
  x_callIN (mc := 0) (ms := 0) C0 hM hl mk ik hn hW hrc hrs hR hf hst hdg kk
theorem x_callVr0 (C0 : Cx G p s m args c cc nL own) {Post : Nat → MH → Prop} {T : u_T} {N : Nat} (hM : Met l y (Cond.code y bytes maxL ret :: lw_good) rm (va_Pc (.ref (m_b G + k) :: As) (Wd G h)) (va_Qr (fun u : Nat × MH => Post u.1 u.2) (fun u a t => a = m_b G + u.1 ∧ Wd G u.2 t) (mA G)) 0 0 (mA G)) (hl : Cond.methodLink own index y ∈ lw_good) (mk : MK y bytes maxL ret n) (vk : VK y) (hcl : vwCl[ci]? = some (y.cls, T, N)) (hc : gC h k = some ci) (hn : As.length = n) (hW : (st.map fun v => v.category).sum ≤ 8) (hrc : rm.cells = 0) (hrs : rm.slots = 0) (hR : rm.frames + 1 ≤ R.frames ∧ 8 + (maxL + 11) + rm.locals ≤ R.locals) (hf : cells ≤ R.cells ∧ slots ≤ R.slots) (hst : st0 = As.reverse ++ .ref (m_b G + k) :: st) (hdg : decode cc pc = .ok (.invokevirtual index, 3)) (kk : ∀ (r : Nat) (h2 : MH), Post r h2 → WG p l e R s m args below meth c cells slots Q G nL lv (pc + 3) (.ref (m_b G + r) :: st) h2) : WG p l e R s m args below meth c cells slots Q G nL lv pc st0 h :=
  x_callVr (mc := 0) (ms := 0) C0 hM hl mk vk hcl hc hn hW hrc hrs hR hf hst hdg kk
theorem x_callVNr0 (C0 : Cx G p s m args c cc nL own) {Post : Nat → MH → Prop} {host : String} {T : u_T} {N : Nat} (hM : Met l y (Cond.code y bytes maxL ret :: lw_good) rm (va_Pc (.ref (m_b G + k) :: As) (Wd G h)) (va_Qr (fun u : Nat × MH => Post u.1 u.2) (fun u a t => a = m_b G + u.1 ∧ Wd G u.2 t) (mA G)) 0 0 (mA G)) (hl : va_Nw (.methodLinkNest own index y host) s) (mk : MK y bytes maxL ret n) (vk : VK y) (hcl : vwCl[ci]? = some (y.cls, T, N)) (hc : gC h k = some ci) (hn : As.length = n) (hW : (st.map fun v => v.category).sum ≤ 8) (hrc : rm.cells = 0) (hrs : rm.slots = 0) (hR : rm.frames + 1 ≤ R.frames ∧ 8 + (maxL + 11) + rm.locals ≤ R.locals) (hf : cells ≤ R.cells ∧ slots ≤ R.slots) (hst : st0 = As.reverse ++ .ref (m_b G + k) :: st) (hdg : decode cc pc = .ok (.invokevirtual index, 3)) (kk : ∀ (r : Nat) (h2 : MH), Post r h2 → WG p l e R s m args below meth c cells slots Q G nL lv (pc + 3) (.ref (m_b G + r) :: st) h2) : WG p l e R s m args below meth c cells slots Q G nL lv pc st0 h :=
  x_callVNr (mc := 0) (ms := 0) C0 hM hl mk vk hcl hc hn hW hrc hrs hR hf hst hdg kk
theorem x_callSr0 (C0 : Cx G p s m args c cc nL own) {Post : Nat → MH → Prop} (hM : Met l y (Cond.code y bytes maxL ret :: lw_good) rm (va_Pc (As) (Wd G h)) (va_Qr (fun u : Nat × MH => Post u.1 u.2) (fun u a t => a = m_b G + u.1 ∧ Wd G u.2 t) (mA G)) 0 0 (mA G)) (hl : Cond.methodLink own index y ∈ lw_good) (mk : MK y bytes maxL ret n) (sk : Cond.static y ∈ lw_good) (hn : As.length = n) (hW : (st.map fun v => v.category).sum ≤ 8) (hrc : rm.cells = 0) (hrs : rm.slots = 0) (hR : rm.frames + 1 ≤ R.frames ∧ 8 + (maxL + 11) + rm.locals ≤ R.locals) (hf : cells ≤ R.cells ∧ slots ≤ R.slots) (hst : st0 = As.reverse ++ st) (hdg : decode cc pc = .ok (.invokestatic index, 3)) (kk : ∀ (r : Nat) (h2 : MH), Post r h2 → WG p l e R s m args below meth c cells slots Q G nL lv (pc + 3) (.ref (m_b G + r) :: st) h2) : WG p l e R s m args below meth c cells slots Q G nL lv pc st0 h :=
  x_callSr (mc := 0) (ms := 0) C0 hM hl mk sk hn hW hrc hrs hR hf hst hdg kk
theorem x_callSNr0 (C0 : Cx G p s m args c cc nL own) {Post : Nat → MH → Prop} {host : String} (hM : Met l y (Cond.code y bytes maxL ret :: lw_good) rm (va_Pc (As) (Wd G h)) (va_Qr (fun u : Nat × MH => Post u.1 u.2) (fun u a t => a = m_b G + u.1 ∧ Wd G u.2 t) (mA G)) 0 0 (mA G)) (hl : va_Nw (.methodLinkNest own index y host) s) (mk : MK y bytes maxL ret n) (sk : Cond.static y ∈ lw_good) (hn : As.length = n) (hW : (st.map fun v => v.category).sum ≤ 8) (hrc : rm.cells = 0) (hrs : rm.slots = 0) (hR : rm.frames + 1 ≤ R.frames ∧ 8 + (maxL + 11) + rm.locals ≤ R.locals) (hf : cells ≤ R.cells ∧ slots ≤ R.slots) (hst : st0 = As.reverse ++ st) (hdg : decode cc pc = .ok (.invokestatic index, 3)) (kk : ∀ (r : Nat) (h2 : MH), Post r h2 → WG p l e R s m args below meth c cells slots Q G nL lv (pc + 3) (.ref (m_b G + r) :: st) h2) : WG p l e R s m args below meth c cells slots Q G nL lv pc st0 h :=
  x_callSNr (mc := 0) (ms := 0) C0 hM hl mk sk hn hW hrc hrs hR hf hst hdg kk
end MT
section ML
variable {p : Program} {l : Launch} {e : Env} {R : Room} {s : State} {m : MethodId} {args : Array Value} {below : List Frame} {meth : Method} {c : Code} {cells slots : Nat} {Q : State → Prop} {G : mG} {cc : ByteArray} {nL : Nat} {own : String} {lv : List (Nat × Value)} {pc : Nat} {st : List Value} {h : MH}
theorem m_nwA (C0 : Cx G p s m args c cc nL own) {w : Cond} (hw : w ∈ m_nest) : va_Nw w s := C0.St.2.1 w hw
theorem m_ao0 (C0 : Cx G p s m args c cc nL own) : va_AO "BassRealiser$Chord" s := C0.St.2.2 _ (List.mem_of_getElem? (i := 0) rfl)
theorem m_ao1 (C0 : Cx G p s m args c cc nL own) : va_AO "BassRealiser$Column" s := C0.St.2.2 _ (List.mem_of_getElem? (i := 1) rfl)
theorem x_scr (C0 : Cx G p s m args c cc nL own) {xb xL : Nat} {xs : Nat → Int32} {i : Int32} (hX : va_X xb xL xs s s.heap) (hbl : xb < s.heap.size) (hb0 : m_b G = s.heap.size) (hin : vp_in i xL) (hdg : decode cc pc = .ok (.iaload, 1)) (kk : WG p l e R s m args below meth c cells slots Q G nL lv (pc + 1) (.int (xs i.toNatClampNeg) :: st) h) : WG p l e R s m args below meth c cells slots Q G nL lv pc (.int i :: .ref xb :: st) h := fun H locs ls hw hv => va_sld C0.ex C0.by hX hbl (show ¬ mA G xb from fun q => Nat.not_le.mpr hbl (hb0 ▸ q)) hw.2.2 hin hdg (kk H locs ls hw hv)
theorem x_scl (C0 : Cx G p s m args c cc nL own) {xb xL : Nat} {xs : Nat → Int32} (hX : va_X xb xL xs s s.heap) (hbl : xb < s.heap.size) (hb0 : m_b G = s.heap.size) (hdg : decode cc pc = .ok (.arraylength, 1)) (kk : WG p l e R s m args below meth c cells slots Q G nL lv (pc + 1) (.int (nI xL) :: st) h) : WG p l e R s m args below meth c cells slots Q G nL lv pc (.ref xb :: st) h := fun H locs ls hw hv => va_slen C0.ex C0.by hX hbl (show ¬ mA G xb from fun q => Nat.not_le.mpr hbl (hb0 ▸ q)) hw.2.2 hdg (kk H locs ls hw hv)
theorem x_lret {xb : Nat} (C0 : Cx G p s m #[Value.ref xb] c code nL own) (hr : meth.sig.returnType = ret) (hlk : meth.locks = false) (hb0 : m_b G = s.heap.size) (hdg : decode code pc = .ok (.ireturn, 1)) : WG p l e room_1 s m #[Value.ref xb] below meth c 600000 7302250 (lw_Z below #[Value.ref xb] s) G nL lv pc [.int 1] h := fun H locs ls hw hv => va_forget (fun q hq => by rw [← hb0]; exact hw.2.2.2.2 q hq) (lw_ret C0.ex C0.by hr hlk hdg)
end ML
end
section
theorem kw_1_1 : (Jvm.Cond.initialized "BassRealiser") ∈ lw_good := lw_in_1 1 (by decide +kernel) (by decide +kernel)
theorem kw_1_2 : (Jvm.Cond.initialized "BassRealiser$Search") ∈ lw_good := lw_in_1 2 (by decide +kernel) (by decide +kernel)
theorem kw_1_3 : (Jvm.Cond.initialized "BassRealiser$Rules") ∈ lw_good := lw_in_1 3 (by decide +kernel) (by decide +kernel)
theorem kw_1_4 : (Jvm.Cond.initialized "BassRealiser$Chord") ∈ lw_good := lw_in_1 4 (by decide +kernel) (by decide +kernel)
theorem kw_1_5 : (Jvm.Cond.initialized "BassRealiser$Column") ∈ lw_good := lw_in_1 5 (by decide +kernel) (by decide +kernel)
theorem kw_1_6 : (Jvm.Cond.initialized "BassRealiser$Move") ∈ lw_good := lw_in_1 6 (by decide +kernel) (by decide +kernel)
theorem kw_1_7 : (Jvm.Cond.initialized "BassRealiserModel") ∈ lw_good := lw_in_1 7 (by decide +kernel) (by decide +kernel)
theorem kw_1_8 : (Jvm.Cond.initialized "java/lang/Math") ∈ lw_good := lw_in_1 8 (by decide +kernel) (by decide +kernel)
theorem kw_1_9 : (Jvm.Cond.initialized "java/lang/Integer") ∈ lw_good := lw_in_1 9 (by decide +kernel) (by decide +kernel)
theorem kw_1_10 : (Jvm.Cond.classLink "BassRealiserLaw" (7 : Nat) "BassRealiser") ∈ lw_good := lw_in_1 10 (by decide +kernel) (by decide +kernel)
theorem kw_1_11 : (Jvm.Cond.instantiable "BassRealiser" (5 : Nat)) ∈ lw_good := lw_in_1 11 (by decide +kernel) (by decide +kernel)
theorem kw_1_12 : (Jvm.Cond.methodLink "BassRealiserLaw" (9 : Nat) ({ cls := "BassRealiser", name := "<init>", desc := "()V" } : Jvm.MethodName)) ∈ lw_good := lw_in_1 12 (by decide +kernel) (by decide +kernel)
theorem kw_1_13 : (Jvm.Cond.instanceMethod ({ cls := "BassRealiser", name := "<init>", desc := "()V" } : Jvm.MethodName)) ∈ lw_good := lw_in_1 13 (by decide +kernel) (by decide +kernel)
theorem kw_1_14 : (Jvm.Cond.code ({ cls := "BassRealiser", name := "<init>", desc := "()V" } : Jvm.MethodName) prog_1_method_1_code (1 : Nat) (Option.none : Option Jvm.ClassFile.FieldType)) ∈ lw_good := lw_in_1 14 (by decide +kernel) (by decide +kernel)
theorem kw_1_15 : (Jvm.Cond.methodLink "BassRealiser" (1 : Nat) ({ cls := "java/lang/Object", name := "<init>", desc := "()V" } : Jvm.MethodName)) ∈ lw_good := lw_in_1 15 (by decide +kernel) (by decide +kernel)
theorem kw_1_16 : (Jvm.Cond.instanceMethod ({ cls := "java/lang/Object", name := "<init>", desc := "()V" } : Jvm.MethodName)) ∈ lw_good := lw_in_1 16 (by decide +kernel) (by decide +kernel)
theorem kw_1_17 : (Jvm.Cond.code ({ cls := "java/lang/Object", name := "<init>", desc := "()V" } : Jvm.MethodName) object_method_1_code (1 : Nat) (Option.none : Option Jvm.ClassFile.FieldType)) ∈ lw_good := lw_in_1 17 (by decide +kernel) (by decide +kernel)
theorem kw_1_18 : (Jvm.Cond.classLink "BassRealiser" (7 : Nat) "BassRealiser$Search") ∈ lw_good := lw_in_1 18 (by decide +kernel) (by decide +kernel)
theorem kw_1_19 : (Jvm.Cond.instantiable "BassRealiser$Search" (9 : Nat)) ∈ lw_good := lw_in_1 19 (by decide +kernel) (by decide +kernel)
theorem kw_1_20 : (Jvm.Cond.methodLink "BassRealiser" (9 : Nat) ({ cls := "BassRealiser$Search", name := "<init>", desc := "()V" } : Jvm.MethodName)) ∈ lw_good := lw_in_1 20 (by decide +kernel) (by decide +kernel)
theorem kw_1_21 : (Jvm.Cond.instanceMethod ({ cls := "BassRealiser$Search", name := "<init>", desc := "()V" } : Jvm.MethodName)) ∈ lw_good := lw_in_1 21 (by decide +kernel) (by decide +kernel)
theorem kw_1_22 : (Jvm.Cond.code ({ cls := "BassRealiser$Search", name := "<init>", desc := "()V" } : Jvm.MethodName) prog_6_method_1_code (2 : Nat) (Option.none : Option Jvm.ClassFile.FieldType)) ∈ lw_good := lw_in_1 22 (by decide +kernel) (by decide +kernel)
theorem kw_1_23 : (Jvm.Cond.methodLink "BassRealiser$Search" (3 : Nat) ({ cls := "java/lang/Object", name := "<init>", desc := "()V" } : Jvm.MethodName)) ∈ lw_good := lw_in_1 23 (by decide +kernel) (by decide +kernel)
theorem kw_1_24 : (Jvm.Cond.classLink "BassRealiser$Search" (9 : Nat) "BassRealiser$Chord") ∈ lw_good := lw_in_1 24 (by decide +kernel) (by decide +kernel)
theorem kw_1_26 : (Jvm.Cond.classLink "BassRealiser$Search" (17 : Nat) "BassRealiser$Rules") ∈ lw_good := lw_in_1 26 (by decide +kernel) (by decide +kernel)
theorem kw_1_27 : (Jvm.Cond.instantiable "BassRealiser$Rules" (5 : Nat)) ∈ lw_good := lw_in_1 27 (by decide +kernel) (by decide +kernel)
theorem kw_1_28 : (Jvm.Cond.methodLink "BassRealiser$Search" (19 : Nat) ({ cls := "BassRealiser$Rules", name := "<init>", desc := "()V" } : Jvm.MethodName)) ∈ lw_good := lw_in_1 28 (by decide +kernel) (by decide +kernel)
theorem kw_1_29 : (Jvm.Cond.instanceMethod ({ cls := "BassRealiser$Rules", name := "<init>", desc := "()V" } : Jvm.MethodName)) ∈ lw_good := lw_in_1 29 (by decide +kernel) (by decide +kernel)
theorem kw_1_30 : (Jvm.Cond.code ({ cls := "BassRealiser$Rules", name := "<init>", desc := "()V" } : Jvm.MethodName) prog_5_method_1_code (1 : Nat) (Option.none : Option Jvm.ClassFile.FieldType)) ∈ lw_good := lw_in_1 30 (by decide +kernel) (by decide +kernel)
theorem kw_1_31 : (Jvm.Cond.methodLink "BassRealiser$Rules" (3 : Nat) ({ cls := "java/lang/Object", name := "<init>", desc := "()V" } : Jvm.MethodName)) ∈ lw_good := lw_in_1 31 (by decide +kernel) (by decide +kernel)
theorem kw_1_32 : (Jvm.Cond.fieldLink "BassRealiser$Rules" (9 : Nat) "BassRealiser$Rules" "low" "[I") ∈ lw_good := lw_in_1 32 (by decide +kernel) (by decide +kernel)
theorem kw_1_33 : (Jvm.Cond.fieldLink "BassRealiser$Column" (29 : Nat) "BassRealiser$Rules" "low" "[I") ∈ lw_good := lw_in_1 33 (by decide +kernel) (by decide +kernel)
theorem kw_1_34 : (Jvm.Cond.fieldLink "BassRealiser" (94 : Nat) "BassRealiser$Rules" "low" "[I") ∈ lw_good := lw_in_1 34 (by decide +kernel) (by decide +kernel)
theorem kw_1_35 : (Jvm.Cond.fieldLink "BassRealiser$Rules" (15 : Nat) "BassRealiser$Rules" "high" "[I") ∈ lw_good := lw_in_1 35 (by decide +kernel) (by decide +kernel)
theorem kw_1_36 : (Jvm.Cond.fieldLink "BassRealiser$Column" (34 : Nat) "BassRealiser$Rules" "high" "[I") ∈ lw_good := lw_in_1 36 (by decide +kernel) (by decide +kernel)
theorem kw_1_37 : (Jvm.Cond.fieldLink "BassRealiser" (98 : Nat) "BassRealiser$Rules" "high" "[I") ∈ lw_good := lw_in_1 37 (by decide +kernel) (by decide +kernel)
theorem kw_1_38 : (Jvm.Cond.fieldLink "BassRealiser$Rules" (18 : Nat) "BassRealiser$Rules" "homes" "[I") ∈ lw_good := lw_in_1 38 (by decide +kernel) (by decide +kernel)
theorem kw_1_39 : (Jvm.Cond.fieldLink "BassRealiser" (101 : Nat) "BassRealiser$Rules" "homes" "[I") ∈ lw_good := lw_in_1 39 (by decide +kernel) (by decide +kernel)
theorem kw_1_40 : (Jvm.Cond.fieldLink "BassRealiser$Rules" (21 : Nat) "BassRealiser$Rules" "leap" "I") ∈ lw_good := lw_in_1 40 (by decide +kernel) (by decide +kernel)
theorem kw_1_41 : (Jvm.Cond.fieldLink "BassRealiser$Search" (112 : Nat) "BassRealiser$Rules" "leap" "I") ∈ lw_good := lw_in_1 41 (by decide +kernel) (by decide +kernel)
theorem kw_1_42 : (Jvm.Cond.fieldLink "BassRealiser" (107 : Nat) "BassRealiser$Rules" "leap" "I") ∈ lw_good := lw_in_1 42 (by decide +kernel) (by decide +kernel)
theorem kw_1_43 : (Jvm.Cond.fieldLink "BassRealiser$Rules" (25 : Nat) "BassRealiser$Rules" "fifths" "I") ∈ lw_good := lw_in_1 43 (by decide +kernel) (by decide +kernel)
theorem kw_1_44 : (Jvm.Cond.fieldLink "BassRealiser" (41 : Nat) "BassRealiser$Rules" "fifths" "I") ∈ lw_good := lw_in_1 44 (by decide +kernel) (by decide +kernel)
theorem kw_1_45 : (Jvm.Cond.laysFinal "BassRealiser$Rules" "BassRealiser$Rules" "low" "[I") ∈ lw_good := lw_in_1 45 (by decide +kernel) (by decide +kernel)
theorem kw_1_47 : (Jvm.Cond.laysFinal "BassRealiser$Rules" "BassRealiser$Rules" "high" "[I") ∈ lw_good := lw_in_1 47 (by decide +kernel) (by decide +kernel)
theorem kw_1_49 : (Jvm.Cond.laysFinal "BassRealiser$Rules" "BassRealiser$Rules" "homes" "[I") ∈ lw_good := lw_in_1 49 (by decide +kernel) (by decide +kernel)
theorem kw_1_51 : (Jvm.Cond.lays "BassRealiser$Rules" "BassRealiser$Rules" "leap" "I") ∈ lw_good := lw_in_1 51 (by decide +kernel) (by decide +kernel)
theorem kw_1_53 : (Jvm.Cond.lays "BassRealiser$Rules" "BassRealiser$Rules" "fifths" "I") ∈ lw_good := lw_in_1 53 (by decide +kernel) (by decide +kernel)
theorem kw_1_56 : (Jvm.Cond.arrayClass Jvm.ClassFile.FieldType.int) ∈ lw_good := lw_in_1 56 (by decide +kernel) (by decide +kernel)
theorem kw_1_57 : (Jvm.Cond.classLink "BassRealiser$Search" (24 : Nat) "BassRealiser$Column") ∈ lw_good := lw_in_1 57 (by decide +kernel) (by decide +kernel)
theorem kw_1_59 : (Jvm.Cond.instantiable "BassRealiser$Chord" (11 : Nat)) ∈ lw_good := lw_in_1 59 (by decide +kernel) (by decide +kernel)
theorem kw_1_60 : (Jvm.Cond.methodLink "BassRealiser$Search" (30 : Nat) ({ cls := "BassRealiser$Chord", name := "<init>", desc := "()V" } : Jvm.MethodName)) ∈ lw_good := lw_in_1 60 (by decide +kernel) (by decide +kernel)
theorem kw_1_61 : (Jvm.Cond.instanceMethod ({ cls := "BassRealiser$Chord", name := "<init>", desc := "()V" } : Jvm.MethodName)) ∈ lw_good := lw_in_1 61 (by decide +kernel) (by decide +kernel)
theorem kw_1_62 : (Jvm.Cond.code ({ cls := "BassRealiser$Chord", name := "<init>", desc := "()V" } : Jvm.MethodName) prog_2_method_1_code (1 : Nat) (Option.none : Option Jvm.ClassFile.FieldType)) ∈ lw_good := lw_in_1 62 (by decide +kernel) (by decide +kernel)
theorem kw_1_63 : (Jvm.Cond.methodLink "BassRealiser$Chord" (3 : Nat) ({ cls := "java/lang/Object", name := "<init>", desc := "()V" } : Jvm.MethodName)) ∈ lw_good := lw_in_1 63 (by decide +kernel) (by decide +kernel)
theorem kw_1_64 : (Jvm.Cond.fieldLink "BassRealiser$Chord" (22 : Nat) "BassRealiser$Chord" "letter" "I") ∈ lw_good := lw_in_1 64 (by decide +kernel) (by decide +kernel)
theorem kw_1_65 : (Jvm.Cond.fieldLink "BassRealiser$Chord" (28 : Nat) "BassRealiser$Chord" "bass" "I") ∈ lw_good := lw_in_1 65 (by decide +kernel) (by decide +kernel)
theorem kw_1_66 : (Jvm.Cond.fieldLink "BassRealiser$Move" (25 : Nat) "BassRealiser$Chord" "bass" "I") ∈ lw_good := lw_in_1 66 (by decide +kernel) (by decide +kernel)
theorem kw_1_67 : (Jvm.Cond.fieldLink "BassRealiser$Column" (60 : Nat) "BassRealiser$Chord" "bass" "I") ∈ lw_good := lw_in_1 67 (by decide +kernel) (by decide +kernel)
theorem kw_1_68 : (Jvm.Cond.fieldLink "BassRealiser$Rules" (53 : Nat) "BassRealiser$Chord" "bass" "I") ∈ lw_good := lw_in_1 68 (by decide +kernel) (by decide +kernel)
theorem kw_1_69 : (Jvm.Cond.fieldLink "BassRealiser" (113 : Nat) "BassRealiser$Chord" "bass" "I") ∈ lw_good := lw_in_1 69 (by decide +kernel) (by decide +kernel)
theorem kw_1_70 : (Jvm.Cond.fieldLink "BassRealiser$Chord" (34 : Nat) "BassRealiser$Chord" "told" "I") ∈ lw_good := lw_in_1 70 (by decide +kernel) (by decide +kernel)
theorem kw_1_71 : (Jvm.Cond.fieldLink "BassRealiser" (66 : Nat) "BassRealiser$Chord" "told" "I") ∈ lw_good := lw_in_1 71 (by decide +kernel) (by decide +kernel)
theorem kw_1_72 : (Jvm.Cond.fieldLink "BassRealiser$Chord" (41 : Nat) "BassRealiser$Chord" "work" "I") ∈ lw_good := lw_in_1 72 (by decide +kernel) (by decide +kernel)
theorem kw_1_73 : (Jvm.Cond.fieldLink "BassRealiser" (82 : Nat) "BassRealiser$Chord" "work" "I") ∈ lw_good := lw_in_1 73 (by decide +kernel) (by decide +kernel)
theorem kw_1_74 : (Jvm.Cond.fieldLink "BassRealiser$Chord" (9 : Nat) "BassRealiser$Chord" "signs" "[I") ∈ lw_good := lw_in_1 74 (by decide +kernel) (by decide +kernel)
theorem kw_1_75 : (Jvm.Cond.fieldLink "BassRealiser$Chord" (15 : Nat) "BassRealiser$Chord" "fixed" "[I") ∈ lw_good := lw_in_1 75 (by decide +kernel) (by decide +kernel)
theorem kw_1_76 : (Jvm.Cond.fieldLink "BassRealiser$Rules" (67 : Nat) "BassRealiser$Chord" "fixed" "[I") ∈ lw_good := lw_in_1 76 (by decide +kernel) (by decide +kernel)
theorem kw_1_77 : (Jvm.Cond.fieldLink "BassRealiser" (110 : Nat) "BassRealiser$Chord" "fixed" "[I") ∈ lw_good := lw_in_1 77 (by decide +kernel) (by decide +kernel)
theorem kw_1_78 : (Jvm.Cond.fieldLink "BassRealiser$Chord" (18 : Nat) "BassRealiser$Chord" "handmade" "I") ∈ lw_good := lw_in_1 78 (by decide +kernel) (by decide +kernel)
theorem kw_1_79 : (Jvm.Cond.fieldLink "BassRealiser" (155 : Nat) "BassRealiser$Chord" "handmade" "I") ∈ lw_good := lw_in_1 79 (by decide +kernel) (by decide +kernel)
theorem kw_1_80 : (Jvm.Cond.fieldLink "BassRealiser$Rules" (50 : Nat) "BassRealiser$Chord" "toneClasses" "I") ∈ lw_good := lw_in_1 80 (by decide +kernel) (by decide +kernel)
theorem kw_1_81 : (Jvm.Cond.fieldLink "BassRealiser$Chord" (44 : Nat) "BassRealiser$Chord" "toneClasses" "I") ∈ lw_good := lw_in_1 81 (by decide +kernel) (by decide +kernel)
theorem kw_1_82 : (Jvm.Cond.fieldLink "BassRealiser$Rules" (45 : Nat) "BassRealiser$Chord" "classes" "I") ∈ lw_good := lw_in_1 82 (by decide +kernel) (by decide +kernel)
theorem kw_1_83 : (Jvm.Cond.fieldLink "BassRealiser$Chord" (67 : Nat) "BassRealiser$Chord" "classes" "I") ∈ lw_good := lw_in_1 83 (by decide +kernel) (by decide +kernel)
theorem kw_1_84 : (Jvm.Cond.fieldLink "BassRealiser$Move" (31 : Nat) "BassRealiser$Chord" "suspended" "I") ∈ lw_good := lw_in_1 84 (by decide +kernel) (by decide +kernel)
theorem kw_1_85 : (Jvm.Cond.fieldLink "BassRealiser$Chord" (47 : Nat) "BassRealiser$Chord" "suspended" "I") ∈ lw_good := lw_in_1 85 (by decide +kernel) (by decide +kernel)
theorem kw_1_86 : (Jvm.Cond.fieldLink "BassRealiser$Rules" (70 : Nat) "BassRealiser$Chord" "suspended" "I") ∈ lw_good := lw_in_1 86 (by decide +kernel) (by decide +kernel)
theorem kw_1_87 : (Jvm.Cond.fieldLink "BassRealiser$Move" (37 : Nat) "BassRealiser$Chord" "falling" "I") ∈ lw_good := lw_in_1 87 (by decide +kernel) (by decide +kernel)
theorem kw_1_88 : (Jvm.Cond.fieldLink "BassRealiser$Chord" (50 : Nat) "BassRealiser$Chord" "falling" "I") ∈ lw_good := lw_in_1 88 (by decide +kernel) (by decide +kernel)
theorem kw_1_89 : (Jvm.Cond.lays "BassRealiser$Chord" "BassRealiser$Chord" "letter" "I") ∈ lw_good := lw_in_1 89 (by decide +kernel) (by decide +kernel)
theorem kw_1_91 : (Jvm.Cond.lays "BassRealiser$Chord" "BassRealiser$Chord" "bass" "I") ∈ lw_good := lw_in_1 91 (by decide +kernel) (by decide +kernel)
theorem kw_1_93 : (Jvm.Cond.lays "BassRealiser$Chord" "BassRealiser$Chord" "told" "I") ∈ lw_good := lw_in_1 93 (by decide +kernel) (by decide +kernel)
theorem kw_1_95 : (Jvm.Cond.lays "BassRealiser$Chord" "BassRealiser$Chord" "work" "I") ∈ lw_good := lw_in_1 95 (by decide +kernel) (by decide +kernel)
theorem kw_1_97 : (Jvm.Cond.laysFinal "BassRealiser$Chord" "BassRealiser$Chord" "signs" "[I") ∈ lw_good := lw_in_1 97 (by decide +kernel) (by decide +kernel)
theorem kw_1_99 : (Jvm.Cond.laysFinal "BassRealiser$Chord" "BassRealiser$Chord" "fixed" "[I") ∈ lw_good := lw_in_1 99 (by decide +kernel) (by decide +kernel)
theorem kw_1_101 : (Jvm.Cond.lays "BassRealiser$Chord" "BassRealiser$Chord" "handmade" "I") ∈ lw_good := lw_in_1 101 (by decide +kernel) (by decide +kernel)
theorem kw_1_103 : (Jvm.Cond.lays "BassRealiser$Chord" "BassRealiser$Chord" "toneClasses" "I") ∈ lw_good := lw_in_1 103 (by decide +kernel) (by decide +kernel)
theorem kw_1_105 : (Jvm.Cond.lays "BassRealiser$Chord" "BassRealiser$Chord" "classes" "I") ∈ lw_good := lw_in_1 105 (by decide +kernel) (by decide +kernel)
theorem kw_1_107 : (Jvm.Cond.lays "BassRealiser$Chord" "BassRealiser$Chord" "suspended" "I") ∈ lw_good := lw_in_1 107 (by decide +kernel) (by decide +kernel)
theorem kw_1_109 : (Jvm.Cond.lays "BassRealiser$Chord" "BassRealiser$Chord" "falling" "I") ∈ lw_good := lw_in_1 109 (by decide +kernel) (by decide +kernel)
theorem kw_1_112 : (Jvm.Cond.instantiable "BassRealiser$Column" (6 : Nat)) ∈ lw_good := lw_in_1 112 (by decide +kernel) (by decide +kernel)
theorem kw_1_113 : (Jvm.Cond.methodLink "BassRealiser$Search" (31 : Nat) ({ cls := "BassRealiser$Column", name := "<init>", desc := "()V" } : Jvm.MethodName)) ∈ lw_good := lw_in_1 113 (by decide +kernel) (by decide +kernel)
theorem kw_1_114 : (Jvm.Cond.instanceMethod ({ cls := "BassRealiser$Column", name := "<init>", desc := "()V" } : Jvm.MethodName)) ∈ lw_good := lw_in_1 114 (by decide +kernel) (by decide +kernel)
theorem kw_1_115 : (Jvm.Cond.code ({ cls := "BassRealiser$Column", name := "<init>", desc := "()V" } : Jvm.MethodName) prog_3_method_1_code (1 : Nat) (Option.none : Option Jvm.ClassFile.FieldType)) ∈ lw_good := lw_in_1 115 (by decide +kernel) (by decide +kernel)
theorem kw_1_116 : (Jvm.Cond.methodLink "BassRealiser$Column" (3 : Nat) ({ cls := "java/lang/Object", name := "<init>", desc := "()V" } : Jvm.MethodName)) ∈ lw_good := lw_in_1 116 (by decide +kernel) (by decide +kernel)
theorem kw_1_117 : (Jvm.Cond.fieldLink "BassRealiser$Column" (11 : Nat) "BassRealiser$Column" "voicings" "[I") ∈ lw_good := lw_in_1 117 (by decide +kernel) (by decide +kernel)
theorem kw_1_118 : (Jvm.Cond.fieldLink "BassRealiser$Search" (90 : Nat) "BassRealiser$Column" "voicings" "[I") ∈ lw_good := lw_in_1 118 (by decide +kernel) (by decide +kernel)
theorem kw_1_119 : (Jvm.Cond.fieldLink "BassRealiser" (130 : Nat) "BassRealiser$Column" "voicings" "[I") ∈ lw_good := lw_in_1 119 (by decide +kernel) (by decide +kernel)
theorem kw_1_120 : (Jvm.Cond.fieldLink "BassRealiser$Column" (15 : Nat) "BassRealiser$Column" "reached" "[Z") ∈ lw_good := lw_in_1 120 (by decide +kernel) (by decide +kernel)
theorem kw_1_121 : (Jvm.Cond.fieldLink "BassRealiser$Search" (93 : Nat) "BassRealiser$Column" "reached" "[Z") ∈ lw_good := lw_in_1 121 (by decide +kernel) (by decide +kernel)
theorem kw_1_122 : (Jvm.Cond.fieldLink "BassRealiser$Column" (19 : Nat) "BassRealiser$Column" "ways" "[I") ∈ lw_good := lw_in_1 122 (by decide +kernel) (by decide +kernel)
theorem kw_1_123 : (Jvm.Cond.fieldLink "BassRealiser$Search" (122 : Nat) "BassRealiser$Column" "ways" "[I") ∈ lw_good := lw_in_1 123 (by decide +kernel) (by decide +kernel)
theorem kw_1_124 : (Jvm.Cond.fieldLink "BassRealiser$Column" (22 : Nat) "BassRealiser$Column" "rest" "[I") ∈ lw_good := lw_in_1 124 (by decide +kernel) (by decide +kernel)
theorem kw_1_125 : (Jvm.Cond.fieldLink "BassRealiser$Search" (119 : Nat) "BassRealiser$Column" "rest" "[I") ∈ lw_good := lw_in_1 125 (by decide +kernel) (by decide +kernel)
theorem kw_1_126 : (Jvm.Cond.fieldLink "BassRealiser$Column" (25 : Nat) "BassRealiser$Column" "size" "I") ∈ lw_good := lw_in_1 126 (by decide +kernel) (by decide +kernel)
theorem kw_1_127 : (Jvm.Cond.fieldLink "BassRealiser$Search" (87 : Nat) "BassRealiser$Column" "size" "I") ∈ lw_good := lw_in_1 127 (by decide +kernel) (by decide +kernel)
theorem kw_1_128 : (Jvm.Cond.fieldLink "BassRealiser" (127 : Nat) "BassRealiser$Column" "size" "I") ∈ lw_good := lw_in_1 128 (by decide +kernel) (by decide +kernel)
theorem kw_1_129 : (Jvm.Cond.fieldLink "BassRealiser$Search" (47 : Nat) "BassRealiser$Column" "fresh" "Z") ∈ lw_good := lw_in_1 129 (by decide +kernel) (by decide +kernel)
theorem kw_1_130 : (Jvm.Cond.fieldLink "BassRealiser$Column" (56 : Nat) "BassRealiser$Column" "fresh" "Z") ∈ lw_good := lw_in_1 130 (by decide +kernel) (by decide +kernel)
theorem kw_1_131 : (Jvm.Cond.laysFinal "BassRealiser$Column" "BassRealiser$Column" "voicings" "[I") ∈ lw_good := lw_in_1 131 (by decide +kernel) (by decide +kernel)
theorem kw_1_133 : (Jvm.Cond.laysFinal "BassRealiser$Column" "BassRealiser$Column" "reached" "[Z") ∈ lw_good := lw_in_1 133 (by decide +kernel) (by decide +kernel)
theorem kw_1_135 : (Jvm.Cond.laysFinal "BassRealiser$Column" "BassRealiser$Column" "ways" "[I") ∈ lw_good := lw_in_1 135 (by decide +kernel) (by decide +kernel)
theorem kw_1_137 : (Jvm.Cond.laysFinal "BassRealiser$Column" "BassRealiser$Column" "rest" "[I") ∈ lw_good := lw_in_1 137 (by decide +kernel) (by decide +kernel)
theorem kw_1_139 : (Jvm.Cond.lays "BassRealiser$Column" "BassRealiser$Column" "size" "I") ∈ lw_good := lw_in_1 139 (by decide +kernel) (by decide +kernel)
theorem kw_1_141 : (Jvm.Cond.lays "BassRealiser$Column" "BassRealiser$Column" "fresh" "Z") ∈ lw_good := lw_in_1 141 (by decide +kernel) (by decide +kernel)
theorem kw_1_144 : (Jvm.Cond.arrayClass Jvm.ClassFile.FieldType.boolean) ∈ lw_good := lw_in_1 144 (by decide +kernel) (by decide +kernel)
theorem kw_1_145 : (Jvm.Cond.classLink "BassRealiser$Search" (32 : Nat) "BassRealiser$Move") ∈ lw_good := lw_in_1 145 (by decide +kernel) (by decide +kernel)
theorem kw_1_146 : (Jvm.Cond.instantiable "BassRealiser$Move" (6 : Nat)) ∈ lw_good := lw_in_1 146 (by decide +kernel) (by decide +kernel)
theorem kw_1_147 : (Jvm.Cond.methodLink "BassRealiser$Search" (34 : Nat) ({ cls := "BassRealiser$Move", name := "<init>", desc := "()V" } : Jvm.MethodName)) ∈ lw_good := lw_in_1 147 (by decide +kernel) (by decide +kernel)
theorem kw_1_148 : (Jvm.Cond.instanceMethod ({ cls := "BassRealiser$Move", name := "<init>", desc := "()V" } : Jvm.MethodName)) ∈ lw_good := lw_in_1 148 (by decide +kernel) (by decide +kernel)
theorem kw_1_149 : (Jvm.Cond.code ({ cls := "BassRealiser$Move", name := "<init>", desc := "()V" } : Jvm.MethodName) prog_4_method_1_code (1 : Nat) (Option.none : Option Jvm.ClassFile.FieldType)) ∈ lw_good := lw_in_1 149 (by decide +kernel) (by decide +kernel)
theorem kw_1_150 : (Jvm.Cond.methodLink "BassRealiser$Move" (3 : Nat) ({ cls := "java/lang/Object", name := "<init>", desc := "()V" } : Jvm.MethodName)) ∈ lw_good := lw_in_1 150 (by decide +kernel) (by decide +kernel)
theorem kw_1_151 : (Jvm.Cond.fieldLink "BassRealiser$Move" (11 : Nat) "BassRealiser$Move" "from" "[I") ∈ lw_good := lw_in_1 151 (by decide +kernel) (by decide +kernel)
theorem kw_1_152 : (Jvm.Cond.fieldLink "BassRealiser$Move" (15 : Nat) "BassRealiser$Move" "to" "[I") ∈ lw_good := lw_in_1 152 (by decide +kernel) (by decide +kernel)
theorem kw_1_153 : (Jvm.Cond.fieldLink "BassRealiser$Move" (18 : Nat) "BassRealiser$Move" "steps" "[I") ∈ lw_good := lw_in_1 153 (by decide +kernel) (by decide +kernel)
theorem kw_1_154 : (Jvm.Cond.fieldLink "BassRealiser$Move" (34 : Nat) "BassRealiser$Move" "wasSuspended" "I") ∈ lw_good := lw_in_1 154 (by decide +kernel) (by decide +kernel)
theorem kw_1_155 : (Jvm.Cond.fieldLink "BassRealiser$Move" (40 : Nat) "BassRealiser$Move" "wasFalling" "I") ∈ lw_good := lw_in_1 155 (by decide +kernel) (by decide +kernel)
theorem kw_1_156 : (Jvm.Cond.fieldLink "BassRealiser$Move" (43 : Nat) "BassRealiser$Move" "isSuspended" "I") ∈ lw_good := lw_in_1 156 (by decide +kernel) (by decide +kernel)
theorem kw_1_157 : (Jvm.Cond.laysFinal "BassRealiser$Move" "BassRealiser$Move" "from" "[I") ∈ lw_good := lw_in_1 157 (by decide +kernel) (by decide +kernel)
theorem kw_1_159 : (Jvm.Cond.laysFinal "BassRealiser$Move" "BassRealiser$Move" "to" "[I") ∈ lw_good := lw_in_1 159 (by decide +kernel) (by decide +kernel)
theorem kw_1_161 : (Jvm.Cond.laysFinal "BassRealiser$Move" "BassRealiser$Move" "steps" "[I") ∈ lw_good := lw_in_1 161 (by decide +kernel) (by decide +kernel)
theorem kw_1_163 : (Jvm.Cond.lays "BassRealiser$Move" "BassRealiser$Move" "wasSuspended" "I") ∈ lw_good := lw_in_1 163 (by decide +kernel) (by decide +kernel)
theorem kw_1_165 : (Jvm.Cond.lays "BassRealiser$Move" "BassRealiser$Move" "wasFalling" "I") ∈ lw_good := lw_in_1 165 (by decide +kernel) (by decide +kernel)
theorem kw_1_167 : (Jvm.Cond.lays "BassRealiser$Move" "BassRealiser$Move" "isSuspended" "I") ∈ lw_good := lw_in_1 167 (by decide +kernel) (by decide +kernel)
theorem kw_1_170 : (Jvm.Cond.fieldLink "BassRealiser$Search" (11 : Nat) "BassRealiser$Search" "chords" "[LBassRealiser$Chord;") ∈ lw_good := lw_in_1 170 (by decide +kernel) (by decide +kernel)
theorem kw_1_171 : (Jvm.Cond.fieldLink "BassRealiser" (16 : Nat) "BassRealiser$Search" "chords" "[LBassRealiser$Chord;") ∈ lw_good := lw_in_1 171 (by decide +kernel) (by decide +kernel)
theorem kw_1_172 : (Jvm.Cond.fieldLink "BassRealiser$Search" (20 : Nat) "BassRealiser$Search" "rules" "LBassRealiser$Rules;") ∈ lw_good := lw_in_1 172 (by decide +kernel) (by decide +kernel)
theorem kw_1_173 : (Jvm.Cond.fieldLink "BassRealiser" (21 : Nat) "BassRealiser$Search" "rules" "LBassRealiser$Rules;") ∈ lw_good := lw_in_1 173 (by decide +kernel) (by decide +kernel)
theorem kw_1_174 : (Jvm.Cond.fieldLink "BassRealiser$Search" (26 : Nat) "BassRealiser$Search" "columns" "[LBassRealiser$Column;") ∈ lw_good := lw_in_1 174 (by decide +kernel) (by decide +kernel)
theorem kw_1_175 : (Jvm.Cond.fieldLink "BassRealiser$Search" (35 : Nat) "BassRealiser$Search" "move" "LBassRealiser$Move;") ∈ lw_good := lw_in_1 175 (by decide +kernel) (by decide +kernel)
theorem kw_1_176 : (Jvm.Cond.fieldLink "BassRealiser$Search" (39 : Nat) "BassRealiser$Search" "best" "[I") ∈ lw_good := lw_in_1 176 (by decide +kernel) (by decide +kernel)
theorem kw_1_177 : (Jvm.Cond.fieldLink "BassRealiser" (146 : Nat) "BassRealiser$Search" "best" "[I") ∈ lw_good := lw_in_1 177 (by decide +kernel) (by decide +kernel)
theorem kw_1_178 : (Jvm.Cond.fieldLink "BassRealiser$Search" (43 : Nat) "BassRealiser$Search" "failed" "I") ∈ lw_good := lw_in_1 178 (by decide +kernel) (by decide +kernel)
theorem kw_1_179 : (Jvm.Cond.fieldLink "BassRealiser" (140 : Nat) "BassRealiser$Search" "failed" "I") ∈ lw_good := lw_in_1 179 (by decide +kernel) (by decide +kernel)
theorem kw_1_180 : (Jvm.Cond.fieldLink "BassRealiser$Search" (61 : Nat) "BassRealiser$Search" "cost" "I") ∈ lw_good := lw_in_1 180 (by decide +kernel) (by decide +kernel)
theorem kw_1_181 : (Jvm.Cond.fieldLink "BassRealiser" (143 : Nat) "BassRealiser$Search" "cost" "I") ∈ lw_good := lw_in_1 181 (by decide +kernel) (by decide +kernel)
theorem kw_1_182 : (Jvm.Cond.fieldLink "BassRealiser$Search" (58 : Nat) "BassRealiser$Search" "ways" "I") ∈ lw_good := lw_in_1 182 (by decide +kernel) (by decide +kernel)
theorem kw_1_183 : (Jvm.Cond.fieldLink "BassRealiser" (149 : Nat) "BassRealiser$Search" "ways" "I") ∈ lw_good := lw_in_1 183 (by decide +kernel) (by decide +kernel)
theorem kw_1_184 : (Jvm.Cond.fieldLink "BassRealiser$Search" (51 : Nat) "BassRealiser$Search" "settled" "Z") ∈ lw_good := lw_in_1 184 (by decide +kernel) (by decide +kernel)
theorem kw_1_185 : (Jvm.Cond.laysFinal "BassRealiser$Search" "BassRealiser$Search" "chords" "[LBassRealiser$Chord;") ∈ lw_good := lw_in_1 185 (by decide +kernel) (by decide +kernel)
theorem kw_1_187 : (Jvm.Cond.laysFinal "BassRealiser$Search" "BassRealiser$Search" "rules" "LBassRealiser$Rules;") ∈ lw_good := lw_in_1 187 (by decide +kernel) (by decide +kernel)
theorem kw_1_189 : (Jvm.Cond.laysFinal "BassRealiser$Search" "BassRealiser$Search" "columns" "[LBassRealiser$Column;") ∈ lw_good := lw_in_1 189 (by decide +kernel) (by decide +kernel)
theorem kw_1_191 : (Jvm.Cond.laysFinal "BassRealiser$Search" "BassRealiser$Search" "move" "LBassRealiser$Move;") ∈ lw_good := lw_in_1 191 (by decide +kernel) (by decide +kernel)
theorem kw_1_193 : (Jvm.Cond.laysFinal "BassRealiser$Search" "BassRealiser$Search" "best" "[I") ∈ lw_good := lw_in_1 193 (by decide +kernel) (by decide +kernel)
theorem kw_1_195 : (Jvm.Cond.lays "BassRealiser$Search" "BassRealiser$Search" "failed" "I") ∈ lw_good := lw_in_1 195 (by decide +kernel) (by decide +kernel)
theorem kw_1_197 : (Jvm.Cond.lays "BassRealiser$Search" "BassRealiser$Search" "cost" "I") ∈ lw_good := lw_in_1 197 (by decide +kernel) (by decide +kernel)
theorem kw_1_199 : (Jvm.Cond.lays "BassRealiser$Search" "BassRealiser$Search" "ways" "I") ∈ lw_good := lw_in_1 199 (by decide +kernel) (by decide +kernel)
theorem kw_1_201 : (Jvm.Cond.lays "BassRealiser$Search" "BassRealiser$Search" "settled" "Z") ∈ lw_good := lw_in_1 201 (by decide +kernel) (by decide +kernel)
theorem kw_1_204 : (Jvm.Cond.classLink "BassRealiser" (26 : Nat) "BassRealiser$Move") ∈ lw_good := lw_in_1 204 (by decide +kernel) (by decide +kernel)
theorem kw_1_205 : (Jvm.Cond.methodLink "BassRealiser" (28 : Nat) ({ cls := "BassRealiser$Move", name := "<init>", desc := "()V" } : Jvm.MethodName)) ∈ lw_good := lw_in_1 205 (by decide +kernel) (by decide +kernel)
theorem kw_1_206 : (Jvm.Cond.fieldLink "BassRealiser" (10 : Nat) "BassRealiser" "search" "LBassRealiser$Search;") ∈ lw_good := lw_in_1 206 (by decide +kernel) (by decide +kernel)
theorem kw_1_207 : (Jvm.Cond.fieldLink "BassRealiser" (20 : Nat) "BassRealiser" "chords" "[LBassRealiser$Chord;") ∈ lw_good := lw_in_1 207 (by decide +kernel) (by decide +kernel)
theorem kw_1_208 : (Jvm.Cond.fieldLink "BassRealiser" (25 : Nat) "BassRealiser" "rules" "LBassRealiser$Rules;") ∈ lw_good := lw_in_1 208 (by decide +kernel) (by decide +kernel)
theorem kw_1_209 : (Jvm.Cond.fieldLink "BassRealiser" (29 : Nat) "BassRealiser" "move" "LBassRealiser$Move;") ∈ lw_good := lw_in_1 209 (by decide +kernel) (by decide +kernel)
theorem kw_1_210 : (Jvm.Cond.fieldLink "BassRealiser" (33 : Nat) "BassRealiser" "size" "I") ∈ lw_good := lw_in_1 210 (by decide +kernel) (by decide +kernel)
theorem kw_1_211 : (Jvm.Cond.laysFinal "BassRealiser" "BassRealiser" "search" "LBassRealiser$Search;") ∈ lw_good := lw_in_1 211 (by decide +kernel) (by decide +kernel)
theorem kw_1_213 : (Jvm.Cond.laysFinal "BassRealiser" "BassRealiser" "chords" "[LBassRealiser$Chord;") ∈ lw_good := lw_in_1 213 (by decide +kernel) (by decide +kernel)
theorem kw_1_215 : (Jvm.Cond.laysFinal "BassRealiser" "BassRealiser" "rules" "LBassRealiser$Rules;") ∈ lw_good := lw_in_1 215 (by decide +kernel) (by decide +kernel)
theorem kw_1_217 : (Jvm.Cond.laysFinal "BassRealiser" "BassRealiser" "move" "LBassRealiser$Move;") ∈ lw_good := lw_in_1 217 (by decide +kernel) (by decide +kernel)
theorem kw_1_219 : (Jvm.Cond.lays "BassRealiser" "BassRealiser" "size" "I") ∈ lw_good := lw_in_1 219 (by decide +kernel) (by decide +kernel)
theorem kw_1_222 : (Jvm.Cond.methodLink "BassRealiserLaw" (13 : Nat) ({ cls := "BassRealiser", name := "key", desc := "(I)I" } : Jvm.MethodName)) ∈ lw_good := lw_in_1 222 (by decide +kernel) (by decide +kernel)
theorem kw_1_223 : (Jvm.Cond.instanceMethod ({ cls := "BassRealiser", name := "key", desc := "(I)I" } : Jvm.MethodName)) ∈ lw_good := lw_in_1 223 (by decide +kernel) (by decide +kernel)
theorem kw_1_224 : (Jvm.Cond.selects "BassRealiser" ({ cls := "BassRealiser", name := "key", desc := "(I)I" } : Jvm.MethodName) ({ cls := "BassRealiser", name := "key", desc := "(I)I" } : Jvm.MethodName)) ∈ lw_good := lw_in_1 224 (by decide +kernel) (by decide +kernel)
theorem kw_1_225 : (Jvm.Cond.code ({ cls := "BassRealiser", name := "key", desc := "(I)I" } : Jvm.MethodName) prog_1_method_2_code (4 : Nat) (Option.some Jvm.ClassFile.FieldType.int)) ∈ lw_good := lw_in_1 225 (by decide +kernel) (by decide +kernel)
theorem kw_1_226 : (Jvm.Cond.methodLink "BassRealiser" (37 : Nat) ({ cls := "BassRealiser", name := "within", desc := "(III)Z" } : Jvm.MethodName)) ∈ lw_good := lw_in_1 226 (by decide +kernel) (by decide +kernel)
theorem kw_1_227 : (Jvm.Cond.static ({ cls := "BassRealiser", name := "within", desc := "(III)Z" } : Jvm.MethodName)) ∈ lw_good := lw_in_1 227 (by decide +kernel) (by decide +kernel)
theorem kw_1_228 : (Jvm.Cond.code ({ cls := "BassRealiser", name := "within", desc := "(III)Z" } : Jvm.MethodName) prog_1_method_30_code (3 : Nat) (Option.some Jvm.ClassFile.FieldType.boolean)) ∈ lw_good := lw_in_1 228 (by decide +kernel) (by decide +kernel)
theorem kw_1_229 : (Jvm.Cond.methodLink "BassRealiser" (46 : Nat) ({ cls := "BassRealiser$Chord", name := "tune", desc := "(I)V" } : Jvm.MethodName)) ∈ lw_good := lw_in_1 229 (by decide +kernel) (by decide +kernel)
theorem kw_1_230 : (Jvm.Cond.instanceMethod ({ cls := "BassRealiser$Chord", name := "tune", desc := "(I)V" } : Jvm.MethodName)) ∈ lw_good := lw_in_1 230 (by decide +kernel) (by decide +kernel)
theorem kw_1_231 : (Jvm.Cond.selects "BassRealiser$Chord" ({ cls := "BassRealiser$Chord", name := "tune", desc := "(I)V" } : Jvm.MethodName) ({ cls := "BassRealiser$Chord", name := "tune", desc := "(I)V" } : Jvm.MethodName)) ∈ lw_good := lw_in_1 231 (by decide +kernel) (by decide +kernel)
theorem kw_1_232 : (Jvm.Cond.code ({ cls := "BassRealiser$Chord", name := "tune", desc := "(I)V" } : Jvm.MethodName) prog_2_method_5_code (4 : Nat) (Option.none : Option Jvm.ClassFile.FieldType)) ∈ lw_good := lw_in_1 232 (by decide +kernel) (by decide +kernel)
theorem kw_1_233 : (Jvm.Cond.methodLink "BassRealiser$Chord" (37 : Nat) ({ cls := "BassRealiser$Chord", name := "complete", desc := "(I)I" } : Jvm.MethodName)) ∈ lw_good := lw_in_1 233 (by decide +kernel) (by decide +kernel)
theorem kw_1_234 : (Jvm.Cond.static ({ cls := "BassRealiser$Chord", name := "complete", desc := "(I)I" } : Jvm.MethodName)) ∈ lw_good := lw_in_1 234 (by decide +kernel) (by decide +kernel)
theorem kw_1_235 : (Jvm.Cond.code ({ cls := "BassRealiser$Chord", name := "complete", desc := "(I)I" } : Jvm.MethodName) prog_2_method_6_code (5 : Nat) (Option.some Jvm.ClassFile.FieldType.int)) ∈ lw_good := lw_in_1 235 (by decide +kernel) (by decide +kernel)
theorem kw_1_236 : (Jvm.Cond.methodLink "BassRealiser$Chord" (53 : Nat) ({ cls := "BassRealiser$Chord", name := "has", desc := "(II)Z" } : Jvm.MethodName)) ∈ lw_good := lw_in_1 236 (by decide +kernel) (by decide +kernel)
theorem kw_1_237 : (Jvm.Cond.static ({ cls := "BassRealiser$Chord", name := "has", desc := "(II)Z" } : Jvm.MethodName)) ∈ lw_good := lw_in_1 237 (by decide +kernel) (by decide +kernel)
theorem kw_1_238 : (Jvm.Cond.code ({ cls := "BassRealiser$Chord", name := "has", desc := "(II)Z" } : Jvm.MethodName) prog_2_method_7_code (2 : Nat) (Option.some Jvm.ClassFile.FieldType.boolean)) ∈ lw_good := lw_in_1 238 (by decide +kernel) (by decide +kernel)
theorem kw_1_239 : (Jvm.Cond.methodLink "BassRealiser$Chord" (57 : Nat) ({ cls := "BassRealiser$Chord", name := "toneClass", desc := "(II)I" } : Jvm.MethodName)) ∈ lw_good := lw_in_1 239 (by decide +kernel) (by decide +kernel)
theorem kw_2_0 : (Jvm.Cond.instanceMethod ({ cls := "BassRealiser$Chord", name := "toneClass", desc := "(II)I" } : Jvm.MethodName)) ∈ lw_good := lw_in_2 0 (by decide +kernel) (by decide +kernel)
theorem kw_2_1 : (Jvm.Cond.selects "BassRealiser$Chord" ({ cls := "BassRealiser$Chord", name := "toneClass", desc := "(II)I" } : Jvm.MethodName) ({ cls := "BassRealiser$Chord", name := "toneClass", desc := "(II)I" } : Jvm.MethodName)) ∈ lw_good := lw_in_2 1 (by decide +kernel) (by decide +kernel)
theorem kw_2_2 : (Jvm.Cond.code ({ cls := "BassRealiser$Chord", name := "toneClass", desc := "(II)I" } : Jvm.MethodName) prog_2_method_12_code (3 : Nat) (Option.some Jvm.ClassFile.FieldType.int)) ∈ lw_good := lw_in_2 2 (by decide +kernel) (by decide +kernel)
theorem kw_2_5 : (Jvm.Cond.methodLink "BassRealiser$Chord" (70 : Nat) ({ cls := "BassRealiser$Chord", name := "toneLetter", desc := "(I)I" } : Jvm.MethodName)) ∈ lw_good := lw_in_2 5 (by decide +kernel) (by decide +kernel)
theorem kw_2_6 : (Jvm.Cond.instanceMethod ({ cls := "BassRealiser$Chord", name := "toneLetter", desc := "(I)I" } : Jvm.MethodName)) ∈ lw_good := lw_in_2 6 (by decide +kernel) (by decide +kernel)
theorem kw_2_7 : (Jvm.Cond.selects "BassRealiser$Chord" ({ cls := "BassRealiser$Chord", name := "toneLetter", desc := "(I)I" } : Jvm.MethodName) ({ cls := "BassRealiser$Chord", name := "toneLetter", desc := "(I)I" } : Jvm.MethodName)) ∈ lw_good := lw_in_2 7 (by decide +kernel) (by decide +kernel)
theorem kw_2_8 : (Jvm.Cond.code ({ cls := "BassRealiser$Chord", name := "toneLetter", desc := "(I)I" } : Jvm.MethodName) prog_2_method_10_code (2 : Nat) (Option.some Jvm.ClassFile.FieldType.int)) ∈ lw_good := lw_in_2 8 (by decide +kernel) (by decide +kernel)
theorem kw_2_9 : (Jvm.Cond.methodLink "BassRealiser$Chord" (73 : Nat) ({ cls := "BassRealiser$Chord", name := "toneAlter", desc := "(II)I" } : Jvm.MethodName)) ∈ lw_good := lw_in_2 9 (by decide +kernel) (by decide +kernel)
theorem kw_2_10 : (Jvm.Cond.instanceMethod ({ cls := "BassRealiser$Chord", name := "toneAlter", desc := "(II)I" } : Jvm.MethodName)) ∈ lw_good := lw_in_2 10 (by decide +kernel) (by decide +kernel)
theorem kw_2_11 : (Jvm.Cond.selects "BassRealiser$Chord" ({ cls := "BassRealiser$Chord", name := "toneAlter", desc := "(II)I" } : Jvm.MethodName) ({ cls := "BassRealiser$Chord", name := "toneAlter", desc := "(II)I" } : Jvm.MethodName)) ∈ lw_good := lw_in_2 11 (by decide +kernel) (by decide +kernel)
theorem kw_2_12 : (Jvm.Cond.code ({ cls := "BassRealiser$Chord", name := "toneAlter", desc := "(II)I" } : Jvm.MethodName) prog_2_method_11_code (3 : Nat) (Option.some Jvm.ClassFile.FieldType.int)) ∈ lw_good := lw_in_2 12 (by decide +kernel) (by decide +kernel)
theorem kw_2_14 : (Jvm.Cond.static ({ cls := "BassRealiser", name := "keyAlter", desc := "(II)I" } : Jvm.MethodName)) ∈ lw_good := lw_in_2 14 (by decide +kernel) (by decide +kernel)
theorem kw_2_15 : (Jvm.Cond.code ({ cls := "BassRealiser", name := "keyAlter", desc := "(II)I" } : Jvm.MethodName) prog_1_method_34_code (5 : Nat) (Option.some Jvm.ClassFile.FieldType.int)) ∈ lw_good := lw_in_2 15 (by decide +kernel) (by decide +kernel)
theorem kw_2_16 : (Jvm.Cond.fieldLink "BassRealiser" (198 : Nat) "BassRealiser" "SHARPS" "[I") ∈ lw_good := lw_in_2 16 (by decide +kernel) (by decide +kernel)
theorem kw_2_18 : (Jvm.Cond.fieldLink "BassRealiser" (201 : Nat) "BassRealiser" "FLATS" "[I") ∈ lw_good := lw_in_2 18 (by decide +kernel) (by decide +kernel)
theorem kw_2_20 : (Jvm.Cond.methodLink "BassRealiser" (204 : Nat) ({ cls := "java/lang/Math", name := "abs", desc := "(I)I" } : Jvm.MethodName)) ∈ lw_good := lw_in_2 20 (by decide +kernel) (by decide +kernel)
theorem kw_2_21 : (Jvm.Cond.static ({ cls := "java/lang/Math", name := "abs", desc := "(I)I" } : Jvm.MethodName)) ∈ lw_good := lw_in_2 21 (by decide +kernel) (by decide +kernel)
theorem kw_2_22 : (Jvm.Cond.code ({ cls := "java/lang/Math", name := "abs", desc := "(I)I" } : Jvm.MethodName) prog_10_method_59_code (1 : Nat) (Option.some Jvm.ClassFile.FieldType.int)) ∈ lw_good := lw_in_2 22 (by decide +kernel) (by decide +kernel)
theorem kw_2_23 : (Jvm.Cond.methodLink "BassRealiser" (209 : Nat) ({ cls := "java/lang/Math", name := "min", desc := "(II)I" } : Jvm.MethodName)) ∈ lw_good := lw_in_2 23 (by decide +kernel) (by decide +kernel)
theorem kw_2_24 : (Jvm.Cond.static ({ cls := "java/lang/Math", name := "min", desc := "(II)I" } : Jvm.MethodName)) ∈ lw_good := lw_in_2 24 (by decide +kernel) (by decide +kernel)
theorem kw_2_25 : (Jvm.Cond.code ({ cls := "java/lang/Math", name := "min", desc := "(II)I" } : Jvm.MethodName) prog_10_method_69_code (2 : Nat) (Option.some Jvm.ClassFile.FieldType.int)) ∈ lw_good := lw_in_2 25 (by decide +kernel) (by decide +kernel)
theorem kw_2_26 : (Jvm.Cond.methodLink "BassRealiser$Chord" (79 : Nat) ({ cls := "java/lang/Math", name := "floorMod", desc := "(II)I" } : Jvm.MethodName)) ∈ lw_good := lw_in_2 26 (by decide +kernel) (by decide +kernel)
theorem kw_2_27 : (Jvm.Cond.static ({ cls := "java/lang/Math", name := "floorMod", desc := "(II)I" } : Jvm.MethodName)) ∈ lw_good := lw_in_2 27 (by decide +kernel) (by decide +kernel)
theorem kw_2_28 : (Jvm.Cond.code ({ cls := "java/lang/Math", name := "floorMod", desc := "(II)I" } : Jvm.MethodName) prog_10_method_50_code (3 : Nat) (Option.some Jvm.ClassFile.FieldType.int)) ∈ lw_good := lw_in_2 28 (by decide +kernel) (by decide +kernel)
theorem kw_2_29 : (Jvm.Cond.methodLink "BassRealiser$Chord" (61 : Nat) ({ cls := "BassRealiser$Chord", name := "kind", desc := "(I)I" } : Jvm.MethodName)) ∈ lw_good := lw_in_2 29 (by decide +kernel) (by decide +kernel)
theorem kw_2_30 : (Jvm.Cond.instanceMethod ({ cls := "BassRealiser$Chord", name := "kind", desc := "(I)I" } : Jvm.MethodName)) ∈ lw_good := lw_in_2 30 (by decide +kernel) (by decide +kernel)
theorem kw_2_31 : (Jvm.Cond.selects "BassRealiser$Chord" ({ cls := "BassRealiser$Chord", name := "kind", desc := "(I)I" } : Jvm.MethodName) ({ cls := "BassRealiser$Chord", name := "kind", desc := "(I)I" } : Jvm.MethodName)) ∈ lw_good := lw_in_2 31 (by decide +kernel) (by decide +kernel)
theorem kw_2_32 : (Jvm.Cond.code ({ cls := "BassRealiser$Chord", name := "kind", desc := "(I)I" } : Jvm.MethodName) prog_2_method_13_code (3 : Nat) (Option.some Jvm.ClassFile.FieldType.int)) ∈ lw_good := lw_in_2 32 (by decide +kernel) (by decide +kernel)
theorem kw_2_34 : (Jvm.Cond.static ({ cls := "BassRealiser", name := "classBit", desc := "(I)I" } : Jvm.MethodName)) ∈ lw_good := lw_in_2 34 (by decide +kernel) (by decide +kernel)
theorem kw_2_35 : (Jvm.Cond.code ({ cls := "BassRealiser", name := "classBit", desc := "(I)I" } : Jvm.MethodName) prog_1_method_33_code (1 : Nat) (Option.some Jvm.ClassFile.FieldType.int)) ∈ lw_good := lw_in_2 35 (by decide +kernel) (by decide +kernel)
theorem kw_2_36 : (Jvm.Cond.methodLink "BassRealiser" (52 : Nat) ({ cls := "BassRealiser$Search", name := "forgetAll", desc := "()V" } : Jvm.MethodName)) ∈ lw_good := lw_in_2 36 (by decide +kernel) (by decide +kernel)
theorem kw_2_37 : (Jvm.Cond.instanceMethod ({ cls := "BassRealiser$Search", name := "forgetAll", desc := "()V" } : Jvm.MethodName)) ∈ lw_good := lw_in_2 37 (by decide +kernel) (by decide +kernel)
theorem kw_2_38 : (Jvm.Cond.selects "BassRealiser$Search" ({ cls := "BassRealiser$Search", name := "forgetAll", desc := "()V" } : Jvm.MethodName) ({ cls := "BassRealiser$Search", name := "forgetAll", desc := "()V" } : Jvm.MethodName)) ∈ lw_good := lw_in_2 38 (by decide +kernel) (by decide +kernel)
theorem kw_2_39 : (Jvm.Cond.code ({ cls := "BassRealiser$Search", name := "forgetAll", desc := "()V" } : Jvm.MethodName) prog_6_method_2_code (2 : Nat) (Option.none : Option Jvm.ClassFile.FieldType)) ∈ lw_good := lw_in_2 39 (by decide +kernel) (by decide +kernel)
theorem kw_2_40 : (Jvm.Cond.methodLink "BassRealiserLaw" (18 : Nat) ({ cls := "BassRealiser", name := "chord", desc := "(III)I" } : Jvm.MethodName)) ∈ lw_good := lw_in_2 40 (by decide +kernel) (by decide +kernel)
theorem kw_2_41 : (Jvm.Cond.instanceMethod ({ cls := "BassRealiser", name := "chord", desc := "(III)I" } : Jvm.MethodName)) ∈ lw_good := lw_in_2 41 (by decide +kernel) (by decide +kernel)
theorem kw_2_42 : (Jvm.Cond.selects "BassRealiser" ({ cls := "BassRealiser", name := "chord", desc := "(III)I" } : Jvm.MethodName) ({ cls := "BassRealiser", name := "chord", desc := "(III)I" } : Jvm.MethodName)) ∈ lw_good := lw_in_2 42 (by decide +kernel) (by decide +kernel)
theorem kw_2_43 : (Jvm.Cond.code ({ cls := "BassRealiser", name := "chord", desc := "(III)I" } : Jvm.MethodName) prog_1_method_3_code (4 : Nat) (Option.some Jvm.ClassFile.FieldType.int)) ∈ lw_good := lw_in_2 43 (by decide +kernel) (by decide +kernel)
theorem kw_2_44 : (Jvm.Cond.methodLink "BassRealiser" (55 : Nat) ({ cls := "BassRealiser$Chord", name := "begin", desc := "(III)V" } : Jvm.MethodName)) ∈ lw_good := lw_in_2 44 (by decide +kernel) (by decide +kernel)
theorem kw_2_45 : (Jvm.Cond.instanceMethod ({ cls := "BassRealiser$Chord", name := "begin", desc := "(III)V" } : Jvm.MethodName)) ∈ lw_good := lw_in_2 45 (by decide +kernel) (by decide +kernel)
theorem kw_2_46 : (Jvm.Cond.selects "BassRealiser$Chord" ({ cls := "BassRealiser$Chord", name := "begin", desc := "(III)V" } : Jvm.MethodName) ({ cls := "BassRealiser$Chord", name := "begin", desc := "(III)V" } : Jvm.MethodName)) ∈ lw_good := lw_in_2 46 (by decide +kernel) (by decide +kernel)
theorem kw_2_47 : (Jvm.Cond.code ({ cls := "BassRealiser$Chord", name := "begin", desc := "(III)V" } : Jvm.MethodName) prog_2_method_2_code (5 : Nat) (Option.none : Option Jvm.ClassFile.FieldType)) ∈ lw_good := lw_in_2 47 (by decide +kernel) (by decide +kernel)
theorem kw_2_48 : (Jvm.Cond.methodLink "BassRealiser$Chord" (31 : Nat) ({ cls := "BassRealiser$Chord", name := "untell", desc := "()V" } : Jvm.MethodName)) ∈ lw_good := lw_in_2 48 (by decide +kernel) (by decide +kernel)
theorem kw_2_49 : (Jvm.Cond.instanceMethod ({ cls := "BassRealiser$Chord", name := "untell", desc := "()V" } : Jvm.MethodName)) ∈ lw_good := lw_in_2 49 (by decide +kernel) (by decide +kernel)
theorem kw_2_50 : (Jvm.Cond.selects "BassRealiser$Chord" ({ cls := "BassRealiser$Chord", name := "untell", desc := "()V" } : Jvm.MethodName) ({ cls := "BassRealiser$Chord", name := "untell", desc := "()V" } : Jvm.MethodName)) ∈ lw_good := lw_in_2 50 (by decide +kernel) (by decide +kernel)
theorem kw_2_51 : (Jvm.Cond.code ({ cls := "BassRealiser$Chord", name := "untell", desc := "()V" } : Jvm.MethodName) prog_2_method_4_code (2 : Nat) (Option.none : Option Jvm.ClassFile.FieldType)) ∈ lw_good := lw_in_2 51 (by decide +kernel) (by decide +kernel)
theorem kw_2_52 : (Jvm.Cond.methodLink "BassRealiser" (59 : Nat) ({ cls := "BassRealiser$Search", name := "forgetChord", desc := "(I)V" } : Jvm.MethodName)) ∈ lw_good := lw_in_2 52 (by decide +kernel) (by decide +kernel)
theorem kw_2_53 : (Jvm.Cond.instanceMethod ({ cls := "BassRealiser$Search", name := "forgetChord", desc := "(I)V" } : Jvm.MethodName)) ∈ lw_good := lw_in_2 53 (by decide +kernel) (by decide +kernel)
theorem kw_2_54 : (Jvm.Cond.selects "BassRealiser$Search" ({ cls := "BassRealiser$Search", name := "forgetChord", desc := "(I)V" } : Jvm.MethodName) ({ cls := "BassRealiser$Search", name := "forgetChord", desc := "(I)V" } : Jvm.MethodName)) ∈ lw_good := lw_in_2 54 (by decide +kernel) (by decide +kernel)
theorem kw_2_55 : (Jvm.Cond.code ({ cls := "BassRealiser$Search", name := "forgetChord", desc := "(I)V" } : Jvm.MethodName) prog_6_method_3_code (2 : Nat) (Option.none : Option Jvm.ClassFile.FieldType)) ∈ lw_good := lw_in_2 55 (by decide +kernel) (by decide +kernel)
theorem kw_2_56 : (Jvm.Cond.methodLink "BassRealiserLaw" (23 : Nat) ({ cls := "BassRealiser", name := "less", desc := "()I" } : Jvm.MethodName)) ∈ lw_good := lw_in_2 56 (by decide +kernel) (by decide +kernel)
theorem kw_2_57 : (Jvm.Cond.instanceMethod ({ cls := "BassRealiser", name := "less", desc := "()I" } : Jvm.MethodName)) ∈ lw_good := lw_in_2 57 (by decide +kernel) (by decide +kernel)
theorem kw_2_58 : (Jvm.Cond.selects "BassRealiser" ({ cls := "BassRealiser", name := "less", desc := "()I" } : Jvm.MethodName) ({ cls := "BassRealiser", name := "less", desc := "()I" } : Jvm.MethodName)) ∈ lw_good := lw_in_2 58 (by decide +kernel) (by decide +kernel)
theorem kw_2_59 : (Jvm.Cond.code ({ cls := "BassRealiser", name := "less", desc := "()I" } : Jvm.MethodName) prog_1_method_4_code (1 : Nat) (Option.some Jvm.ClassFile.FieldType.int)) ∈ lw_good := lw_in_2 59 (by decide +kernel) (by decide +kernel)
theorem kw_2_60 : (Jvm.Cond.methodLink "BassRealiserLaw" (28 : Nat) ({ cls := "BassRealiser", name := "figure", desc := "(III)I" } : Jvm.MethodName)) ∈ lw_good := lw_in_2 60 (by decide +kernel) (by decide +kernel)
theorem kw_2_61 : (Jvm.Cond.instanceMethod ({ cls := "BassRealiser", name := "figure", desc := "(III)I" } : Jvm.MethodName)) ∈ lw_good := lw_in_2 61 (by decide +kernel) (by decide +kernel)
theorem kw_2_62 : (Jvm.Cond.selects "BassRealiser" ({ cls := "BassRealiser", name := "figure", desc := "(III)I" } : Jvm.MethodName) ({ cls := "BassRealiser", name := "figure", desc := "(III)I" } : Jvm.MethodName)) ∈ lw_good := lw_in_2 62 (by decide +kernel) (by decide +kernel)
theorem kw_2_63 : (Jvm.Cond.code ({ cls := "BassRealiser", name := "figure", desc := "(III)I" } : Jvm.MethodName) prog_1_method_5_code (5 : Nat) (Option.some Jvm.ClassFile.FieldType.int)) ∈ lw_good := lw_in_2 63 (by decide +kernel) (by decide +kernel)
theorem kw_2_64 : (Jvm.Cond.methodLink "BassRealiser" (62 : Nat) ({ cls := "BassRealiser", name := "hasChord", desc := "(I)Z" } : Jvm.MethodName)) ∈ lw_good := lw_in_2 64 (by decide +kernel) (by decide +kernel)
theorem kw_2_66 : (Jvm.Cond.instanceMethod ({ cls := "BassRealiser", name := "hasChord", desc := "(I)Z" } : Jvm.MethodName)) ∈ lw_good := lw_in_2 66 (by decide +kernel) (by decide +kernel)
theorem kw_2_67 : (Jvm.Cond.code ({ cls := "BassRealiser", name := "hasChord", desc := "(I)Z" } : Jvm.MethodName) prog_1_method_27_code (2 : Nat) (Option.some Jvm.ClassFile.FieldType.boolean)) ∈ lw_good := lw_in_2 67 (by decide +kernel) (by decide +kernel)
theorem kw_2_68 : (Jvm.Cond.methodLink "BassRealiser" (69 : Nat) ({ cls := "BassRealiser$Chord", name := "complete", desc := "(I)I" } : Jvm.MethodName)) ∈ lw_good := lw_in_2 68 (by decide +kernel) (by decide +kernel)
theorem kw_2_69 : (Jvm.Cond.methodLink "BassRealiser" (73 : Nat) ({ cls := "java/lang/Integer", name := "bitCount", desc := "(I)I" } : Jvm.MethodName)) ∈ lw_good := lw_in_2 69 (by decide +kernel) (by decide +kernel)
theorem kw_2_70 : (Jvm.Cond.static ({ cls := "java/lang/Integer", name := "bitCount", desc := "(I)I" } : Jvm.MethodName)) ∈ lw_good := lw_in_2 70 (by decide +kernel) (by decide +kernel)
theorem kw_2_71 : (Jvm.Cond.code ({ cls := "java/lang/Integer", name := "bitCount", desc := "(I)I" } : Jvm.MethodName) prog_9_method_49_code (1 : Nat) (Option.some Jvm.ClassFile.FieldType.int)) ∈ lw_good := lw_in_2 71 (by decide +kernel) (by decide +kernel)
theorem kw_2_72 : (Jvm.Cond.constant "java/lang/Integer" (265 : Nat) (1431655765 : Int32)) ∈ lw_good := lw_in_2 72 (by decide +kernel) (by decide +kernel)
theorem kw_2_73 : (Jvm.Cond.constant "java/lang/Integer" (266 : Nat) (858993459 : Int32)) ∈ lw_good := lw_in_2 73 (by decide +kernel) (by decide +kernel)
theorem kw_2_74 : (Jvm.Cond.constant "java/lang/Integer" (267 : Nat) (252645135 : Int32)) ∈ lw_good := lw_in_2 74 (by decide +kernel) (by decide +kernel)
theorem kw_2_75 : (Jvm.Cond.methodLink "BassRealiser" (78 : Nat) ({ cls := "BassRealiser$Chord", name := "tell", desc := "(II)V" } : Jvm.MethodName)) ∈ lw_good := lw_in_2 75 (by decide +kernel) (by decide +kernel)
theorem kw_2_76 : (Jvm.Cond.instanceMethod ({ cls := "BassRealiser$Chord", name := "tell", desc := "(II)V" } : Jvm.MethodName)) ∈ lw_good := lw_in_2 76 (by decide +kernel) (by decide +kernel)
theorem kw_2_77 : (Jvm.Cond.selects "BassRealiser$Chord" ({ cls := "BassRealiser$Chord", name := "tell", desc := "(II)V" } : Jvm.MethodName) ({ cls := "BassRealiser$Chord", name := "tell", desc := "(II)V" } : Jvm.MethodName)) ∈ lw_good := lw_in_2 77 (by decide +kernel) (by decide +kernel)
theorem kw_2_78 : (Jvm.Cond.code ({ cls := "BassRealiser$Chord", name := "tell", desc := "(II)V" } : Jvm.MethodName) prog_2_method_3_code (3 : Nat) (Option.none : Option Jvm.ClassFile.FieldType)) ∈ lw_good := lw_in_2 78 (by decide +kernel) (by decide +kernel)
theorem kw_2_79 : (Jvm.Cond.methodLink "BassRealiserLaw" (32 : Nat) ({ cls := "BassRealiser", name := "plain", desc := "(I)I" } : Jvm.MethodName)) ∈ lw_good := lw_in_2 79 (by decide +kernel) (by decide +kernel)
theorem kw_2_80 : (Jvm.Cond.instanceMethod ({ cls := "BassRealiser", name := "plain", desc := "(I)I" } : Jvm.MethodName)) ∈ lw_good := lw_in_2 80 (by decide +kernel) (by decide +kernel)
theorem kw_2_81 : (Jvm.Cond.selects "BassRealiser" ({ cls := "BassRealiser", name := "plain", desc := "(I)I" } : Jvm.MethodName) ({ cls := "BassRealiser", name := "plain", desc := "(I)I" } : Jvm.MethodName)) ∈ lw_good := lw_in_2 81 (by decide +kernel) (by decide +kernel)
theorem kw_2_82 : (Jvm.Cond.code ({ cls := "BassRealiser", name := "plain", desc := "(I)I" } : Jvm.MethodName) prog_1_method_6_code (3 : Nat) (Option.some Jvm.ClassFile.FieldType.int)) ∈ lw_good := lw_in_2 82 (by decide +kernel) (by decide +kernel)
theorem kw_2_83 : (Jvm.Cond.methodLink "BassRealiser" (85 : Nat) ({ cls := "BassRealiser$Chord", name := "untell", desc := "()V" } : Jvm.MethodName)) ∈ lw_good := lw_in_2 83 (by decide +kernel) (by decide +kernel)
theorem kw_2_84 : (Jvm.Cond.methodLink "BassRealiserLaw" (36 : Nat) ({ cls := "BassRealiser", name := "range", desc := "(III)I" } : Jvm.MethodName)) ∈ lw_good := lw_in_2 84 (by decide +kernel) (by decide +kernel)
theorem kw_2_85 : (Jvm.Cond.instanceMethod ({ cls := "BassRealiser", name := "range", desc := "(III)I" } : Jvm.MethodName)) ∈ lw_good := lw_in_2 85 (by decide +kernel) (by decide +kernel)
theorem kw_2_86 : (Jvm.Cond.selects "BassRealiser" ({ cls := "BassRealiser", name := "range", desc := "(III)I" } : Jvm.MethodName) ({ cls := "BassRealiser", name := "range", desc := "(III)I" } : Jvm.MethodName)) ∈ lw_good := lw_in_2 86 (by decide +kernel) (by decide +kernel)
theorem kw_2_87 : (Jvm.Cond.code ({ cls := "BassRealiser", name := "range", desc := "(III)I" } : Jvm.MethodName) prog_1_method_7_code (4 : Nat) (Option.some Jvm.ClassFile.FieldType.int)) ∈ lw_good := lw_in_2 87 (by decide +kernel) (by decide +kernel)
theorem kw_2_88 : (Jvm.Cond.methodLink "BassRealiser" (88 : Nat) ({ cls := "BassRealiser", name := "isVoice", desc := "(I)Z" } : Jvm.MethodName)) ∈ lw_good := lw_in_2 88 (by decide +kernel) (by decide +kernel)
theorem kw_2_89 : (Jvm.Cond.static ({ cls := "BassRealiser", name := "isVoice", desc := "(I)Z" } : Jvm.MethodName)) ∈ lw_good := lw_in_2 89 (by decide +kernel) (by decide +kernel)
theorem kw_2_90 : (Jvm.Cond.code ({ cls := "BassRealiser", name := "isVoice", desc := "(I)Z" } : Jvm.MethodName) prog_1_method_28_code (1 : Nat) (Option.some Jvm.ClassFile.FieldType.boolean)) ∈ lw_good := lw_in_2 90 (by decide +kernel) (by decide +kernel)
theorem kw_2_91 : (Jvm.Cond.methodLink "BassRealiser" (91 : Nat) ({ cls := "BassRealiser", name := "isPitch", desc := "(I)Z" } : Jvm.MethodName)) ∈ lw_good := lw_in_2 91 (by decide +kernel) (by decide +kernel)
theorem kw_2_92 : (Jvm.Cond.static ({ cls := "BassRealiser", name := "isPitch", desc := "(I)Z" } : Jvm.MethodName)) ∈ lw_good := lw_in_2 92 (by decide +kernel) (by decide +kernel)
theorem kw_2_93 : (Jvm.Cond.code ({ cls := "BassRealiser", name := "isPitch", desc := "(I)Z" } : Jvm.MethodName) prog_1_method_29_code (1 : Nat) (Option.some Jvm.ClassFile.FieldType.boolean)) ∈ lw_good := lw_in_2 93 (by decide +kernel) (by decide +kernel)
theorem kw_2_94 : (Jvm.Cond.methodLink "BassRealiserLaw" (40 : Nat) ({ cls := "BassRealiser", name := "home", desc := "(II)I" } : Jvm.MethodName)) ∈ lw_good := lw_in_2 94 (by decide +kernel) (by decide +kernel)
theorem kw_2_95 : (Jvm.Cond.instanceMethod ({ cls := "BassRealiser", name := "home", desc := "(II)I" } : Jvm.MethodName)) ∈ lw_good := lw_in_2 95 (by decide +kernel) (by decide +kernel)
theorem kw_2_96 : (Jvm.Cond.selects "BassRealiser" ({ cls := "BassRealiser", name := "home", desc := "(II)I" } : Jvm.MethodName) ({ cls := "BassRealiser", name := "home", desc := "(II)I" } : Jvm.MethodName)) ∈ lw_good := lw_in_2 96 (by decide +kernel) (by decide +kernel)
theorem kw_2_97 : (Jvm.Cond.code ({ cls := "BassRealiser", name := "home", desc := "(II)I" } : Jvm.MethodName) prog_1_method_8_code (4 : Nat) (Option.some Jvm.ClassFile.FieldType.int)) ∈ lw_good := lw_in_2 97 (by decide +kernel) (by decide +kernel)
theorem kw_2_98 : (Jvm.Cond.methodLink "BassRealiser" (104 : Nat) ({ cls := "BassRealiser$Search", name := "forgetRealising", desc := "()V" } : Jvm.MethodName)) ∈ lw_good := lw_in_2 98 (by decide +kernel) (by decide +kernel)
theorem kw_2_99 : (Jvm.Cond.instanceMethod ({ cls := "BassRealiser$Search", name := "forgetRealising", desc := "()V" } : Jvm.MethodName)) ∈ lw_good := lw_in_2 99 (by decide +kernel) (by decide +kernel)
theorem kw_2_100 : (Jvm.Cond.selects "BassRealiser$Search" ({ cls := "BassRealiser$Search", name := "forgetRealising", desc := "()V" } : Jvm.MethodName) ({ cls := "BassRealiser$Search", name := "forgetRealising", desc := "()V" } : Jvm.MethodName)) ∈ lw_good := lw_in_2 100 (by decide +kernel) (by decide +kernel)
theorem kw_2_101 : (Jvm.Cond.code ({ cls := "BassRealiser$Search", name := "forgetRealising", desc := "()V" } : Jvm.MethodName) prog_6_method_4_code (1 : Nat) (Option.none : Option Jvm.ClassFile.FieldType)) ∈ lw_good := lw_in_2 101 (by decide +kernel) (by decide +kernel)
theorem kw_2_102 : (Jvm.Cond.methodLink "BassRealiserLaw" (45 : Nat) ({ cls := "BassRealiser", name := "leap", desc := "(I)I" } : Jvm.MethodName)) ∈ lw_good := lw_in_2 102 (by decide +kernel) (by decide +kernel)
theorem kw_2_103 : (Jvm.Cond.instanceMethod ({ cls := "BassRealiser", name := "leap", desc := "(I)I" } : Jvm.MethodName)) ∈ lw_good := lw_in_2 103 (by decide +kernel) (by decide +kernel)
theorem kw_2_104 : (Jvm.Cond.selects "BassRealiser" ({ cls := "BassRealiser", name := "leap", desc := "(I)I" } : Jvm.MethodName) ({ cls := "BassRealiser", name := "leap", desc := "(I)I" } : Jvm.MethodName)) ∈ lw_good := lw_in_2 104 (by decide +kernel) (by decide +kernel)
theorem kw_2_105 : (Jvm.Cond.code ({ cls := "BassRealiser", name := "leap", desc := "(I)I" } : Jvm.MethodName) prog_1_method_9_code (3 : Nat) (Option.some Jvm.ClassFile.FieldType.int)) ∈ lw_good := lw_in_2 105 (by decide +kernel) (by decide +kernel)
theorem kw_2_106 : (Jvm.Cond.methodLink "BassRealiserLaw" (49 : Nat) ({ cls := "BassRealiser", name := "given", desc := "(III)I" } : Jvm.MethodName)) ∈ lw_good := lw_in_2 106 (by decide +kernel) (by decide +kernel)
theorem kw_2_107 : (Jvm.Cond.instanceMethod ({ cls := "BassRealiser", name := "given", desc := "(III)I" } : Jvm.MethodName)) ∈ lw_good := lw_in_2 107 (by decide +kernel) (by decide +kernel)
theorem kw_2_108 : (Jvm.Cond.selects "BassRealiser" ({ cls := "BassRealiser", name := "given", desc := "(III)I" } : Jvm.MethodName) ({ cls := "BassRealiser", name := "given", desc := "(III)I" } : Jvm.MethodName)) ∈ lw_good := lw_in_2 108 (by decide +kernel) (by decide +kernel)
theorem kw_2_109 : (Jvm.Cond.code ({ cls := "BassRealiser", name := "given", desc := "(III)I" } : Jvm.MethodName) prog_1_method_10_code (5 : Nat) (Option.some Jvm.ClassFile.FieldType.int)) ∈ lw_good := lw_in_2 109 (by decide +kernel) (by decide +kernel)
theorem kw_2_110 : (Jvm.Cond.methodLink "BassRealiserLaw" (53 : Nat) ({ cls := "BassRealiser", name := "bass", desc := "(I)I" } : Jvm.MethodName)) ∈ lw_good := lw_in_2 110 (by decide +kernel) (by decide +kernel)
theorem kw_2_111 : (Jvm.Cond.instanceMethod ({ cls := "BassRealiser", name := "bass", desc := "(I)I" } : Jvm.MethodName)) ∈ lw_good := lw_in_2 111 (by decide +kernel) (by decide +kernel)
theorem kw_2_112 : (Jvm.Cond.selects "BassRealiser" ({ cls := "BassRealiser", name := "bass", desc := "(I)I" } : Jvm.MethodName) ({ cls := "BassRealiser", name := "bass", desc := "(I)I" } : Jvm.MethodName)) ∈ lw_good := lw_in_2 112 (by decide +kernel) (by decide +kernel)
theorem kw_2_113 : (Jvm.Cond.code ({ cls := "BassRealiser", name := "bass", desc := "(I)I" } : Jvm.MethodName) prog_1_method_11_code (2 : Nat) (Option.some Jvm.ClassFile.FieldType.int)) ∈ lw_good := lw_in_2 113 (by decide +kernel) (by decide +kernel)
theorem kw_2_114 : (Jvm.Cond.methodLink "BassRealiserLaw" (57 : Nat) ({ cls := "BassRealiser", name := "worked", desc := "(III)I" } : Jvm.MethodName)) ∈ lw_good := lw_in_2 114 (by decide +kernel) (by decide +kernel)
theorem kw_2_115 : (Jvm.Cond.instanceMethod ({ cls := "BassRealiser", name := "worked", desc := "(III)I" } : Jvm.MethodName)) ∈ lw_good := lw_in_2 115 (by decide +kernel) (by decide +kernel)
theorem kw_2_116 : (Jvm.Cond.selects "BassRealiser" ({ cls := "BassRealiser", name := "worked", desc := "(III)I" } : Jvm.MethodName) ({ cls := "BassRealiser", name := "worked", desc := "(III)I" } : Jvm.MethodName)) ∈ lw_good := lw_in_2 116 (by decide +kernel) (by decide +kernel)
theorem kw_2_117 : (Jvm.Cond.code ({ cls := "BassRealiser", name := "worked", desc := "(III)I" } : Jvm.MethodName) prog_1_method_12_code (6 : Nat) (Option.some Jvm.ClassFile.FieldType.int)) ∈ lw_good := lw_in_2 117 (by decide +kernel) (by decide +kernel)
theorem kw_2_118 : (Jvm.Cond.methodLink "BassRealiser" (116 : Nat) ({ cls := "BassRealiser$Chord", name := "nthWorked", desc := "(I)I" } : Jvm.MethodName)) ∈ lw_good := lw_in_2 118 (by decide +kernel) (by decide +kernel)
theorem kw_2_119 : (Jvm.Cond.instanceMethod ({ cls := "BassRealiser$Chord", name := "nthWorked", desc := "(I)I" } : Jvm.MethodName)) ∈ lw_good := lw_in_2 119 (by decide +kernel) (by decide +kernel)
theorem kw_2_120 : (Jvm.Cond.selects "BassRealiser$Chord" ({ cls := "BassRealiser$Chord", name := "nthWorked", desc := "(I)I" } : Jvm.MethodName) ({ cls := "BassRealiser$Chord", name := "nthWorked", desc := "(I)I" } : Jvm.MethodName)) ∈ lw_good := lw_in_2 120 (by decide +kernel) (by decide +kernel)
theorem kw_2_121 : (Jvm.Cond.code ({ cls := "BassRealiser$Chord", name := "nthWorked", desc := "(I)I" } : Jvm.MethodName) prog_2_method_8_code (4 : Nat) (Option.some Jvm.ClassFile.FieldType.int)) ∈ lw_good := lw_in_2 121 (by decide +kernel) (by decide +kernel)
theorem kw_2_122 : (Jvm.Cond.methodLink "BassRealiser" (119 : Nat) ({ cls := "BassRealiser$Chord", name := "about", desc := "(III)I" } : Jvm.MethodName)) ∈ lw_good := lw_in_2 122 (by decide +kernel) (by decide +kernel)
theorem kw_2_123 : (Jvm.Cond.instanceMethod ({ cls := "BassRealiser$Chord", name := "about", desc := "(III)I" } : Jvm.MethodName)) ∈ lw_good := lw_in_2 123 (by decide +kernel) (by decide +kernel)
theorem kw_2_124 : (Jvm.Cond.selects "BassRealiser$Chord" ({ cls := "BassRealiser$Chord", name := "about", desc := "(III)I" } : Jvm.MethodName) ({ cls := "BassRealiser$Chord", name := "about", desc := "(III)I" } : Jvm.MethodName)) ∈ lw_good := lw_in_2 124 (by decide +kernel) (by decide +kernel)
theorem kw_2_125 : (Jvm.Cond.code ({ cls := "BassRealiser$Chord", name := "about", desc := "(III)I" } : Jvm.MethodName) prog_2_method_9_code (4 : Nat) (Option.some Jvm.ClassFile.FieldType.int)) ∈ lw_good := lw_in_2 125 (by decide +kernel) (by decide +kernel)
theorem kw_2_126 : (Jvm.Cond.methodLink "BassRealiserLaw" (61 : Nat) ({ cls := "BassRealiser", name := "voicings", desc := "(I)I" } : Jvm.MethodName)) ∈ lw_good := lw_in_2 126 (by decide +kernel) (by decide +kernel)
theorem kw_2_127 : (Jvm.Cond.instanceMethod ({ cls := "BassRealiser", name := "voicings", desc := "(I)I" } : Jvm.MethodName)) ∈ lw_good := lw_in_2 127 (by decide +kernel) (by decide +kernel)
theorem kw_2_128 : (Jvm.Cond.selects "BassRealiser" ({ cls := "BassRealiser", name := "voicings", desc := "(I)I" } : Jvm.MethodName) ({ cls := "BassRealiser", name := "voicings", desc := "(I)I" } : Jvm.MethodName)) ∈ lw_good := lw_in_2 128 (by decide +kernel) (by decide +kernel)
theorem kw_2_129 : (Jvm.Cond.code ({ cls := "BassRealiser", name := "voicings", desc := "(I)I" } : Jvm.MethodName) prog_1_method_13_code (2 : Nat) (Option.some Jvm.ClassFile.FieldType.int)) ∈ lw_good := lw_in_2 129 (by decide +kernel) (by decide +kernel)
theorem kw_2_130 : (Jvm.Cond.methodLink "BassRealiser" (123 : Nat) ({ cls := "BassRealiser$Search", name := "listed", desc := "(I)LBassRealiser$Column;" } : Jvm.MethodName)) ∈ lw_good := lw_in_2 130 (by decide +kernel) (by decide +kernel)
theorem kw_2_131 : (Jvm.Cond.instanceMethod ({ cls := "BassRealiser$Search", name := "listed", desc := "(I)LBassRealiser$Column;" } : Jvm.MethodName)) ∈ lw_good := lw_in_2 131 (by decide +kernel) (by decide +kernel)
theorem kw_2_132 : (Jvm.Cond.selects "BassRealiser$Search" ({ cls := "BassRealiser$Search", name := "listed", desc := "(I)LBassRealiser$Column;" } : Jvm.MethodName) ({ cls := "BassRealiser$Search", name := "listed", desc := "(I)LBassRealiser$Column;" } : Jvm.MethodName)) ∈ lw_good := lw_in_2 132 (by decide +kernel) (by decide +kernel)
theorem kw_2_133 : (Jvm.Cond.code ({ cls := "BassRealiser$Search", name := "listed", desc := "(I)LBassRealiser$Column;" } : Jvm.MethodName) prog_6_method_5_code (2 : Nat) (Option.some (Jvm.ClassFile.FieldType.object "BassRealiser$Column"))) ∈ lw_good := lw_in_2 133 (by decide +kernel) (by decide +kernel)
theorem kw_2_134 : (Jvm.Cond.methodLink "BassRealiser$Search" (54 : Nat) ({ cls := "BassRealiser$Column", name := "list", desc := "(LBassRealiser$Chord;LBassRealiser$Rules;)V" } : Jvm.MethodName)) ∈ lw_good := lw_in_2 134 (by decide +kernel) (by decide +kernel)
theorem kw_2_135 : (Jvm.Cond.instanceMethod ({ cls := "BassRealiser$Column", name := "list", desc := "(LBassRealiser$Chord;LBassRealiser$Rules;)V" } : Jvm.MethodName)) ∈ lw_good := lw_in_2 135 (by decide +kernel) (by decide +kernel)
theorem kw_2_136 : (Jvm.Cond.selects "BassRealiser$Column" ({ cls := "BassRealiser$Column", name := "list", desc := "(LBassRealiser$Chord;LBassRealiser$Rules;)V" } : Jvm.MethodName) ({ cls := "BassRealiser$Column", name := "list", desc := "(LBassRealiser$Chord;LBassRealiser$Rules;)V" } : Jvm.MethodName)) ∈ lw_good := lw_in_2 136 (by decide +kernel) (by decide +kernel)
theorem kw_2_137 : (Jvm.Cond.code ({ cls := "BassRealiser$Column", name := "list", desc := "(LBassRealiser$Chord;LBassRealiser$Rules;)V" } : Jvm.MethodName) prog_3_method_2_code (6 : Nat) (Option.none : Option Jvm.ClassFile.FieldType)) ∈ lw_good := lw_in_2 137 (by decide +kernel) (by decide +kernel)
theorem kw_2_138 : (Jvm.Cond.methodLink "BassRealiser$Column" (37 : Nat) ({ cls := "BassRealiser$Chord", name := "takes", desc := "(I)Z" } : Jvm.MethodName)) ∈ lw_good := lw_in_2 138 (by decide +kernel) (by decide +kernel)
theorem kw_2_139 : (Jvm.Cond.instanceMethod ({ cls := "BassRealiser$Chord", name := "takes", desc := "(I)Z" } : Jvm.MethodName)) ∈ lw_good := lw_in_2 139 (by decide +kernel) (by decide +kernel)
theorem kw_2_140 : (Jvm.Cond.selects "BassRealiser$Chord" ({ cls := "BassRealiser$Chord", name := "takes", desc := "(I)Z" } : Jvm.MethodName) ({ cls := "BassRealiser$Chord", name := "takes", desc := "(I)Z" } : Jvm.MethodName)) ∈ lw_good := lw_in_2 140 (by decide +kernel) (by decide +kernel)
theorem kw_2_141 : (Jvm.Cond.code ({ cls := "BassRealiser$Chord", name := "takes", desc := "(I)Z" } : Jvm.MethodName) prog_2_method_14_code (2 : Nat) (Option.some Jvm.ClassFile.FieldType.boolean)) ∈ lw_good := lw_in_2 141 (by decide +kernel) (by decide +kernel)
theorem kw_2_142 : (Jvm.Cond.methodLink "BassRealiser$Column" (43 : Nat) ({ cls := "java/lang/Math", name := "min", desc := "(II)I" } : Jvm.MethodName)) ∈ lw_good := lw_in_2 142 (by decide +kernel) (by decide +kernel)
theorem kw_2_143 : (Jvm.Cond.methodLink "BassRealiser$Column" (49 : Nat) ({ cls := "java/lang/Math", name := "max", desc := "(II)I" } : Jvm.MethodName)) ∈ lw_good := lw_in_2 143 (by decide +kernel) (by decide +kernel)
theorem kw_2_144 : (Jvm.Cond.static ({ cls := "java/lang/Math", name := "max", desc := "(II)I" } : Jvm.MethodName)) ∈ lw_good := lw_in_2 144 (by decide +kernel) (by decide +kernel)
theorem kw_2_145 : (Jvm.Cond.code ({ cls := "java/lang/Math", name := "max", desc := "(II)I" } : Jvm.MethodName) prog_10_method_65_code (2 : Nat) (Option.some Jvm.ClassFile.FieldType.int)) ∈ lw_good := lw_in_2 145 (by decide +kernel) (by decide +kernel)
theorem kw_2_146 : (Jvm.Cond.methodLink "BassRealiser$Column" (52 : Nat) ({ cls := "BassRealiser$Column", name := "listBelow", desc := "(LBassRealiser$Chord;LBassRealiser$Rules;II)V" } : Jvm.MethodName)) ∈ lw_good := lw_in_2 146 (by decide +kernel) (by decide +kernel)
theorem kw_2_148 : (Jvm.Cond.instanceMethod ({ cls := "BassRealiser$Column", name := "listBelow", desc := "(LBassRealiser$Chord;LBassRealiser$Rules;II)V" } : Jvm.MethodName)) ∈ lw_good := lw_in_2 148 (by decide +kernel) (by decide +kernel)
theorem kw_2_149 : (Jvm.Cond.code ({ cls := "BassRealiser$Column", name := "listBelow", desc := "(LBassRealiser$Chord;LBassRealiser$Rules;II)V" } : Jvm.MethodName) prog_3_method_3_code (10 : Nat) (Option.none : Option Jvm.ClassFile.FieldType)) ∈ lw_good := lw_in_2 149 (by decide +kernel) (by decide +kernel)
theorem kw_2_151 : (Jvm.Cond.static ({ cls := "BassRealiser", name := "pack", desc := "(III)I" } : Jvm.MethodName)) ∈ lw_good := lw_in_2 151 (by decide +kernel) (by decide +kernel)
theorem kw_2_152 : (Jvm.Cond.code ({ cls := "BassRealiser", name := "pack", desc := "(III)I" } : Jvm.MethodName) prog_1_method_31_code (3 : Nat) (Option.some Jvm.ClassFile.FieldType.int)) ∈ lw_good := lw_in_2 152 (by decide +kernel) (by decide +kernel)
theorem kw_2_153 : (Jvm.Cond.methodLink "BassRealiser$Column" (67 : Nat) ({ cls := "BassRealiser$Rules", name := "ofVoicing", desc := "(LBassRealiser$Chord;I)I" } : Jvm.MethodName)) ∈ lw_good := lw_in_2 153 (by decide +kernel) (by decide +kernel)
theorem kw_2_154 : (Jvm.Cond.instanceMethod ({ cls := "BassRealiser$Rules", name := "ofVoicing", desc := "(LBassRealiser$Chord;I)I" } : Jvm.MethodName)) ∈ lw_good := lw_in_2 154 (by decide +kernel) (by decide +kernel)
theorem kw_2_155 : (Jvm.Cond.selects "BassRealiser$Rules" ({ cls := "BassRealiser$Rules", name := "ofVoicing", desc := "(LBassRealiser$Chord;I)I" } : Jvm.MethodName) ({ cls := "BassRealiser$Rules", name := "ofVoicing", desc := "(LBassRealiser$Chord;I)I" } : Jvm.MethodName)) ∈ lw_good := lw_in_2 155 (by decide +kernel) (by decide +kernel)
theorem kw_2_156 : (Jvm.Cond.code ({ cls := "BassRealiser$Rules", name := "ofVoicing", desc := "(LBassRealiser$Chord;I)I" } : Jvm.MethodName) prog_5_method_3_code (7 : Nat) (Option.some Jvm.ClassFile.FieldType.int)) ∈ lw_good := lw_in_2 156 (by decide +kernel) (by decide +kernel)
theorem kw_2_158 : (Jvm.Cond.static ({ cls := "BassRealiser", name := "pitchOf", desc := "(II)I" } : Jvm.MethodName)) ∈ lw_good := lw_in_2 158 (by decide +kernel) (by decide +kernel)
theorem kw_2_159 : (Jvm.Cond.code ({ cls := "BassRealiser", name := "pitchOf", desc := "(II)I" } : Jvm.MethodName) prog_1_method_32_code (2 : Nat) (Option.some Jvm.ClassFile.FieldType.int)) ∈ lw_good := lw_in_2 159 (by decide +kernel) (by decide +kernel)
theorem kw_2_160 : (Jvm.Cond.methodLink "BassRealiser$Rules" (38 : Nat) ({ cls := "BassRealiser$Rules", name := "outside", desc := "(II)Z" } : Jvm.MethodName)) ∈ lw_good := lw_in_2 160 (by decide +kernel) (by decide +kernel)
theorem kw_2_162 : (Jvm.Cond.instanceMethod ({ cls := "BassRealiser$Rules", name := "outside", desc := "(II)Z" } : Jvm.MethodName)) ∈ lw_good := lw_in_2 162 (by decide +kernel) (by decide +kernel)
theorem kw_2_163 : (Jvm.Cond.code ({ cls := "BassRealiser$Rules", name := "outside", desc := "(II)Z" } : Jvm.MethodName) prog_5_method_4_code (3 : Nat) (Option.some Jvm.ClassFile.FieldType.boolean)) ∈ lw_good := lw_in_2 163 (by decide +kernel) (by decide +kernel)
theorem kw_2_165 : (Jvm.Cond.methodLink "BassRealiser$Rules" (32 : Nat) ({ cls := "java/lang/Math", name := "abs", desc := "(I)I" } : Jvm.MethodName)) ∈ lw_good := lw_in_2 165 (by decide +kernel) (by decide +kernel)
theorem kw_2_166 : (Jvm.Cond.methodLink "BassRealiser$Rules" (56 : Nat) ({ cls := "BassRealiser$Rules", name := "leadingOnes", desc := "(IIII)I" } : Jvm.MethodName)) ∈ lw_good := lw_in_2 166 (by decide +kernel) (by decide +kernel)
theorem kw_2_168 : (Jvm.Cond.instanceMethod ({ cls := "BassRealiser$Rules", name := "leadingOnes", desc := "(IIII)I" } : Jvm.MethodName)) ∈ lw_good := lw_in_2 168 (by decide +kernel) (by decide +kernel)
theorem kw_2_169 : (Jvm.Cond.code ({ cls := "BassRealiser$Rules", name := "leadingOnes", desc := "(IIII)I" } : Jvm.MethodName) prog_5_method_5_code (7 : Nat) (Option.some Jvm.ClassFile.FieldType.int)) ∈ lw_good := lw_in_2 169 (by decide +kernel) (by decide +kernel)
theorem kw_2_170 : (Jvm.Cond.methodLink "BassRealiser$Rules" (64 : Nat) ({ cls := "java/lang/Math", name := "floorMod", desc := "(II)I" } : Jvm.MethodName)) ∈ lw_good := lw_in_2 170 (by decide +kernel) (by decide +kernel)
theorem kw_2_171 : (Jvm.Cond.methodLink "BassRealiser$Rules" (60 : Nat) ({ cls := "BassRealiser$Rules", name := "strays", desc := "(LBassRealiser$Chord;I)Z" } : Jvm.MethodName)) ∈ lw_good := lw_in_2 171 (by decide +kernel) (by decide +kernel)
theorem kw_2_172 : (Jvm.Cond.static ({ cls := "BassRealiser$Rules", name := "strays", desc := "(LBassRealiser$Chord;I)Z" } : Jvm.MethodName)) ∈ lw_good := lw_in_2 172 (by decide +kernel) (by decide +kernel)
theorem kw_2_173 : (Jvm.Cond.code ({ cls := "BassRealiser$Rules", name := "strays", desc := "(LBassRealiser$Chord;I)Z" } : Jvm.MethodName) prog_5_method_6_code (4 : Nat) (Option.some Jvm.ClassFile.FieldType.boolean)) ∈ lw_good := lw_in_2 173 (by decide +kernel) (by decide +kernel)
theorem kw_2_174 : (Jvm.Cond.methodLink "BassRealiserLaw" (65 : Nat) ({ cls := "BassRealiser", name := "voicing", desc := "(III)I" } : Jvm.MethodName)) ∈ lw_good := lw_in_2 174 (by decide +kernel) (by decide +kernel)
theorem kw_2_175 : (Jvm.Cond.instanceMethod ({ cls := "BassRealiser", name := "voicing", desc := "(III)I" } : Jvm.MethodName)) ∈ lw_good := lw_in_2 175 (by decide +kernel) (by decide +kernel)
theorem kw_2_176 : (Jvm.Cond.selects "BassRealiser" ({ cls := "BassRealiser", name := "voicing", desc := "(III)I" } : Jvm.MethodName) ({ cls := "BassRealiser", name := "voicing", desc := "(III)I" } : Jvm.MethodName)) ∈ lw_good := lw_in_2 176 (by decide +kernel) (by decide +kernel)
theorem kw_2_177 : (Jvm.Cond.code ({ cls := "BassRealiser", name := "voicing", desc := "(III)I" } : Jvm.MethodName) prog_1_method_14_code (5 : Nat) (Option.some Jvm.ClassFile.FieldType.int)) ∈ lw_good := lw_in_2 177 (by decide +kernel) (by decide +kernel)
theorem kw_2_178 : (Jvm.Cond.methodLink "BassRealiser" (133 : Nat) ({ cls := "BassRealiser", name := "pitchOf", desc := "(II)I" } : Jvm.MethodName)) ∈ lw_good := lw_in_2 178 (by decide +kernel) (by decide +kernel)
theorem kw_2_179 : (Jvm.Cond.methodLink "BassRealiserLaw" (69 : Nat) ({ cls := "BassRealiser", name := "solve", desc := "()I" } : Jvm.MethodName)) ∈ lw_good := lw_in_2 179 (by decide +kernel) (by decide +kernel)
theorem kw_2_180 : (Jvm.Cond.instanceMethod ({ cls := "BassRealiser", name := "solve", desc := "()I" } : Jvm.MethodName)) ∈ lw_good := lw_in_2 180 (by decide +kernel) (by decide +kernel)
theorem kw_2_181 : (Jvm.Cond.selects "BassRealiser" ({ cls := "BassRealiser", name := "solve", desc := "()I" } : Jvm.MethodName) ({ cls := "BassRealiser", name := "solve", desc := "()I" } : Jvm.MethodName)) ∈ lw_good := lw_in_2 181 (by decide +kernel) (by decide +kernel)
theorem kw_2_182 : (Jvm.Cond.code ({ cls := "BassRealiser", name := "solve", desc := "()I" } : Jvm.MethodName) prog_1_method_15_code (1 : Nat) (Option.some Jvm.ClassFile.FieldType.int)) ∈ lw_good := lw_in_2 182 (by decide +kernel) (by decide +kernel)
theorem kw_2_183 : (Jvm.Cond.methodLink "BassRealiser" (137 : Nat) ({ cls := "BassRealiser$Search", name := "settle", desc := "(I)V" } : Jvm.MethodName)) ∈ lw_good := lw_in_2 183 (by decide +kernel) (by decide +kernel)
theorem kw_2_184 : (Jvm.Cond.instanceMethod ({ cls := "BassRealiser$Search", name := "settle", desc := "(I)V" } : Jvm.MethodName)) ∈ lw_good := lw_in_2 184 (by decide +kernel) (by decide +kernel)
theorem kw_2_185 : (Jvm.Cond.selects "BassRealiser$Search" ({ cls := "BassRealiser$Search", name := "settle", desc := "(I)V" } : Jvm.MethodName) ({ cls := "BassRealiser$Search", name := "settle", desc := "(I)V" } : Jvm.MethodName)) ∈ lw_good := lw_in_2 185 (by decide +kernel) (by decide +kernel)
theorem kw_2_186 : (Jvm.Cond.code ({ cls := "BassRealiser$Search", name := "settle", desc := "(I)V" } : Jvm.MethodName) prog_6_method_6_code (3 : Nat) (Option.none : Option Jvm.ClassFile.FieldType)) ∈ lw_good := lw_in_2 186 (by decide +kernel) (by decide +kernel)
theorem kw_2_187 : (Jvm.Cond.methodLink "BassRealiser$Search" (64 : Nat) ({ cls := "BassRealiser$Search", name := "listed", desc := "(I)LBassRealiser$Column;" } : Jvm.MethodName)) ∈ lw_good := lw_in_2 187 (by decide +kernel) (by decide +kernel)
theorem kw_2_188 : (Jvm.Cond.methodLink "BassRealiser$Search" (68 : Nat) ({ cls := "BassRealiser$Search", name := "reach", desc := "(ILBassRealiser$Column;)V" } : Jvm.MethodName)) ∈ lw_good := lw_in_2 188 (by decide +kernel) (by decide +kernel)
theorem kw_2_190 : (Jvm.Cond.instanceMethod ({ cls := "BassRealiser$Search", name := "reach", desc := "(ILBassRealiser$Column;)V" } : Jvm.MethodName)) ∈ lw_good := lw_in_2 190 (by decide +kernel) (by decide +kernel)
theorem kw_2_191 : (Jvm.Cond.code ({ cls := "BassRealiser$Search", name := "reach", desc := "(ILBassRealiser$Column;)V" } : Jvm.MethodName) prog_6_method_7_code (5 : Nat) (Option.none : Option Jvm.ClassFile.FieldType)) ∈ lw_good := lw_in_2 191 (by decide +kernel) (by decide +kernel)
theorem kw_2_192 : (Jvm.Cond.methodLink "BassRealiser$Search" (97 : Nat) ({ cls := "BassRealiser$Rules", name := "ofStart", desc := "(LBassRealiser$Chord;I)I" } : Jvm.MethodName)) ∈ lw_good := lw_in_2 192 (by decide +kernel) (by decide +kernel)
theorem kw_2_193 : (Jvm.Cond.instanceMethod ({ cls := "BassRealiser$Rules", name := "ofStart", desc := "(LBassRealiser$Chord;I)I" } : Jvm.MethodName)) ∈ lw_good := lw_in_2 193 (by decide +kernel) (by decide +kernel)
theorem kw_2_194 : (Jvm.Cond.selects "BassRealiser$Rules" ({ cls := "BassRealiser$Rules", name := "ofStart", desc := "(LBassRealiser$Chord;I)I" } : Jvm.MethodName) ({ cls := "BassRealiser$Rules", name := "ofStart", desc := "(LBassRealiser$Chord;I)I" } : Jvm.MethodName)) ∈ lw_good := lw_in_2 194 (by decide +kernel) (by decide +kernel)
theorem kw_2_195 : (Jvm.Cond.code ({ cls := "BassRealiser$Rules", name := "ofStart", desc := "(LBassRealiser$Chord;I)I" } : Jvm.MethodName) prog_5_method_7_code (4 : Nat) (Option.some Jvm.ClassFile.FieldType.int)) ∈ lw_good := lw_in_2 195 (by decide +kernel) (by decide +kernel)
theorem kw_2_196 : (Jvm.Cond.methodLink "BassRealiser$Search" (101 : Nat) ({ cls := "BassRealiser$Search", name := "reachable", desc := "(II)Z" } : Jvm.MethodName)) ∈ lw_good := lw_in_2 196 (by decide +kernel) (by decide +kernel)
theorem kw_2_198 : (Jvm.Cond.instanceMethod ({ cls := "BassRealiser$Search", name := "reachable", desc := "(II)Z" } : Jvm.MethodName)) ∈ lw_good := lw_in_2 198 (by decide +kernel) (by decide +kernel)
theorem kw_2_199 : (Jvm.Cond.code ({ cls := "BassRealiser$Search", name := "reachable", desc := "(II)Z" } : Jvm.MethodName) prog_6_method_8_code (5 : Nat) (Option.some Jvm.ClassFile.FieldType.boolean)) ∈ lw_good := lw_in_2 199 (by decide +kernel) (by decide +kernel)
theorem kw_2_200 : (Jvm.Cond.methodLink "BassRealiser$Search" (105 : Nat) ({ cls := "BassRealiser$Move", name := "leave", desc := "(LBassRealiser$Chord;I)V" } : Jvm.MethodName)) ∈ lw_good := lw_in_2 200 (by decide +kernel) (by decide +kernel)
theorem kw_2_201 : (Jvm.Cond.instanceMethod ({ cls := "BassRealiser$Move", name := "leave", desc := "(LBassRealiser$Chord;I)V" } : Jvm.MethodName)) ∈ lw_good := lw_in_2 201 (by decide +kernel) (by decide +kernel)
theorem kw_2_202 : (Jvm.Cond.selects "BassRealiser$Move" ({ cls := "BassRealiser$Move", name := "leave", desc := "(LBassRealiser$Chord;I)V" } : Jvm.MethodName) ({ cls := "BassRealiser$Move", name := "leave", desc := "(LBassRealiser$Chord;I)V" } : Jvm.MethodName)) ∈ lw_good := lw_in_2 202 (by decide +kernel) (by decide +kernel)
theorem kw_2_203 : (Jvm.Cond.code ({ cls := "BassRealiser$Move", name := "leave", desc := "(LBassRealiser$Chord;I)V" } : Jvm.MethodName) prog_4_method_2_code (4 : Nat) (Option.none : Option Jvm.ClassFile.FieldType)) ∈ lw_good := lw_in_2 203 (by decide +kernel) (by decide +kernel)
theorem kw_2_205 : (Jvm.Cond.methodLink "BassRealiser$Search" (109 : Nat) ({ cls := "BassRealiser$Move", name := "arrive", desc := "(LBassRealiser$Chord;I)V" } : Jvm.MethodName)) ∈ lw_good := lw_in_2 205 (by decide +kernel) (by decide +kernel)
theorem kw_2_206 : (Jvm.Cond.instanceMethod ({ cls := "BassRealiser$Move", name := "arrive", desc := "(LBassRealiser$Chord;I)V" } : Jvm.MethodName)) ∈ lw_good := lw_in_2 206 (by decide +kernel) (by decide +kernel)
theorem kw_2_207 : (Jvm.Cond.selects "BassRealiser$Move" ({ cls := "BassRealiser$Move", name := "arrive", desc := "(LBassRealiser$Chord;I)V" } : Jvm.MethodName) ({ cls := "BassRealiser$Move", name := "arrive", desc := "(LBassRealiser$Chord;I)V" } : Jvm.MethodName)) ∈ lw_good := lw_in_2 207 (by decide +kernel) (by decide +kernel)
theorem kw_2_208 : (Jvm.Cond.code ({ cls := "BassRealiser$Move", name := "arrive", desc := "(LBassRealiser$Chord;I)V" } : Jvm.MethodName) prog_4_method_3_code (4 : Nat) (Option.none : Option Jvm.ClassFile.FieldType)) ∈ lw_good := lw_in_2 208 (by decide +kernel) (by decide +kernel)
theorem kw_2_209 : (Jvm.Cond.methodLink "BassRealiser$Search" (115 : Nat) ({ cls := "BassRealiser$Move", name := "rule", desc := "(I)I" } : Jvm.MethodName)) ∈ lw_good := lw_in_2 209 (by decide +kernel) (by decide +kernel)
theorem kw_2_210 : (Jvm.Cond.instanceMethod ({ cls := "BassRealiser$Move", name := "rule", desc := "(I)I" } : Jvm.MethodName)) ∈ lw_good := lw_in_2 210 (by decide +kernel) (by decide +kernel)
theorem kw_2_211 : (Jvm.Cond.selects "BassRealiser$Move" ({ cls := "BassRealiser$Move", name := "rule", desc := "(I)I" } : Jvm.MethodName) ({ cls := "BassRealiser$Move", name := "rule", desc := "(I)I" } : Jvm.MethodName)) ∈ lw_good := lw_in_2 211 (by decide +kernel) (by decide +kernel)
theorem kw_2_212 : (Jvm.Cond.code ({ cls := "BassRealiser$Move", name := "rule", desc := "(I)I" } : Jvm.MethodName) prog_4_method_5_code (2 : Nat) (Option.some Jvm.ClassFile.FieldType.int)) ∈ lw_good := lw_in_2 212 (by decide +kernel) (by decide +kernel)
theorem kw_2_213 : (Jvm.Cond.methodLink "BassRealiser$Move" (52 : Nat) ({ cls := "BassRealiser$Move", name := "leaps", desc := "(I)Z" } : Jvm.MethodName)) ∈ lw_good := lw_in_2 213 (by decide +kernel) (by decide +kernel)
theorem kw_2_215 : (Jvm.Cond.instanceMethod ({ cls := "BassRealiser$Move", name := "leaps", desc := "(I)Z" } : Jvm.MethodName)) ∈ lw_good := lw_in_2 215 (by decide +kernel) (by decide +kernel)
theorem kw_2_216 : (Jvm.Cond.code ({ cls := "BassRealiser$Move", name := "leaps", desc := "(I)Z" } : Jvm.MethodName) prog_4_method_6_code (3 : Nat) (Option.some Jvm.ClassFile.FieldType.boolean)) ∈ lw_good := lw_in_2 216 (by decide +kernel) (by decide +kernel)
theorem kw_2_217 : (Jvm.Cond.methodLink "BassRealiser$Move" (46 : Nat) ({ cls := "java/lang/Math", name := "abs", desc := "(I)I" } : Jvm.MethodName)) ∈ lw_good := lw_in_2 217 (by decide +kernel) (by decide +kernel)
theorem kw_2_218 : (Jvm.Cond.methodLink "BassRealiser$Move" (56 : Nat) ({ cls := "BassRealiser$Move", name := "hasParallels", desc := "()Z" } : Jvm.MethodName)) ∈ lw_good := lw_in_2 218 (by decide +kernel) (by decide +kernel)
theorem kw_2_220 : (Jvm.Cond.instanceMethod ({ cls := "BassRealiser$Move", name := "hasParallels", desc := "()Z" } : Jvm.MethodName)) ∈ lw_good := lw_in_2 220 (by decide +kernel) (by decide +kernel)
theorem kw_2_221 : (Jvm.Cond.code ({ cls := "BassRealiser$Move", name := "hasParallels", desc := "()Z" } : Jvm.MethodName) prog_4_method_7_code (3 : Nat) (Option.some Jvm.ClassFile.FieldType.boolean)) ∈ lw_good := lw_in_2 221 (by decide +kernel) (by decide +kernel)
theorem kw_2_222 : (Jvm.Cond.methodLink "BassRealiser$Move" (66 : Nat) ({ cls := "BassRealiser$Move", name := "parallel", desc := "(II)Z" } : Jvm.MethodName)) ∈ lw_good := lw_in_2 222 (by decide +kernel) (by decide +kernel)
theorem kw_2_224 : (Jvm.Cond.instanceMethod ({ cls := "BassRealiser$Move", name := "parallel", desc := "(II)Z" } : Jvm.MethodName)) ∈ lw_good := lw_in_2 224 (by decide +kernel) (by decide +kernel)
theorem kw_2_225 : (Jvm.Cond.code ({ cls := "BassRealiser$Move", name := "parallel", desc := "(II)Z" } : Jvm.MethodName) prog_4_method_8_code (4 : Nat) (Option.some Jvm.ClassFile.FieldType.boolean)) ∈ lw_good := lw_in_2 225 (by decide +kernel) (by decide +kernel)
theorem kw_2_226 : (Jvm.Cond.methodLink "BassRealiser$Move" (60 : Nat) ({ cls := "BassRealiser$Move", name := "unprepared", desc := "()Z" } : Jvm.MethodName)) ∈ lw_good := lw_in_2 226 (by decide +kernel) (by decide +kernel)
theorem kw_2_228 : (Jvm.Cond.instanceMethod ({ cls := "BassRealiser$Move", name := "unprepared", desc := "()Z" } : Jvm.MethodName)) ∈ lw_good := lw_in_2 228 (by decide +kernel) (by decide +kernel)
theorem kw_2_229 : (Jvm.Cond.code ({ cls := "BassRealiser$Move", name := "unprepared", desc := "()Z" } : Jvm.MethodName) prog_4_method_9_code (2 : Nat) (Option.some Jvm.ClassFile.FieldType.boolean)) ∈ lw_good := lw_in_2 229 (by decide +kernel) (by decide +kernel)
theorem kw_2_231 : (Jvm.Cond.methodLink "BassRealiser$Move" (63 : Nat) ({ cls := "BassRealiser$Move", name := "unresolved", desc := "()Z" } : Jvm.MethodName)) ∈ lw_good := lw_in_2 231 (by decide +kernel) (by decide +kernel)
theorem kw_2_233 : (Jvm.Cond.instanceMethod ({ cls := "BassRealiser$Move", name := "unresolved", desc := "()Z" } : Jvm.MethodName)) ∈ lw_good := lw_in_2 233 (by decide +kernel) (by decide +kernel)
theorem kw_2_234 : (Jvm.Cond.code ({ cls := "BassRealiser$Move", name := "unresolved", desc := "()Z" } : Jvm.MethodName) prog_4_method_10_code (3 : Nat) (Option.some Jvm.ClassFile.FieldType.boolean)) ∈ lw_good := lw_in_2 234 (by decide +kernel) (by decide +kernel)
theorem kw_2_236 : (Jvm.Cond.methodLink "BassRealiser$Search" (72 : Nat) ({ cls := "BassRealiser$Column", name := "reachedAtAll", desc := "()Z" } : Jvm.MethodName)) ∈ lw_good := lw_in_2 236 (by decide +kernel) (by decide +kernel)
theorem kw_2_237 : (Jvm.Cond.instanceMethod ({ cls := "BassRealiser$Column", name := "reachedAtAll", desc := "()Z" } : Jvm.MethodName)) ∈ lw_good := lw_in_2 237 (by decide +kernel) (by decide +kernel)
theorem kw_2_238 : (Jvm.Cond.selects "BassRealiser$Column" ({ cls := "BassRealiser$Column", name := "reachedAtAll", desc := "()Z" } : Jvm.MethodName) ({ cls := "BassRealiser$Column", name := "reachedAtAll", desc := "()Z" } : Jvm.MethodName)) ∈ lw_good := lw_in_2 238 (by decide +kernel) (by decide +kernel)
theorem kw_2_239 : (Jvm.Cond.code ({ cls := "BassRealiser$Column", name := "reachedAtAll", desc := "()Z" } : Jvm.MethodName) prog_3_method_4_code (2 : Nat) (Option.some Jvm.ClassFile.FieldType.boolean)) ∈ lw_good := lw_in_2 239 (by decide +kernel) (by decide +kernel)
theorem kw_3_0 : (Jvm.Cond.methodLink "BassRealiser$Search" (76 : Nat) ({ cls := "BassRealiser$Search", name := "weigh", desc := "(IZ)V" } : Jvm.MethodName)) ∈ lw_good := lw_in_3 0 (by decide +kernel) (by decide +kernel)
theorem kw_3_2 : (Jvm.Cond.instanceMethod ({ cls := "BassRealiser$Search", name := "weigh", desc := "(IZ)V" } : Jvm.MethodName)) ∈ lw_good := lw_in_3 2 (by decide +kernel) (by decide +kernel)
theorem kw_3_3 : (Jvm.Cond.code ({ cls := "BassRealiser$Search", name := "weigh", desc := "(IZ)V" } : Jvm.MethodName) prog_6_method_9_code (5 : Nat) (Option.none : Option Jvm.ClassFile.FieldType)) ∈ lw_good := lw_in_3 3 (by decide +kernel) (by decide +kernel)
theorem kw_3_4 : (Jvm.Cond.methodLink "BassRealiser$Search" (124 : Nat) ({ cls := "BassRealiser$Search", name := "weighOne", desc := "(II)V" } : Jvm.MethodName)) ∈ lw_good := lw_in_3 4 (by decide +kernel) (by decide +kernel)
theorem kw_3_6 : (Jvm.Cond.instanceMethod ({ cls := "BassRealiser$Search", name := "weighOne", desc := "(II)V" } : Jvm.MethodName)) ∈ lw_good := lw_in_3 6 (by decide +kernel) (by decide +kernel)
theorem kw_3_7 : (Jvm.Cond.code ({ cls := "BassRealiser$Search", name := "weighOne", desc := "(II)V" } : Jvm.MethodName) prog_6_method_10_code (8 : Nat) (Option.none : Option Jvm.ClassFile.FieldType)) ∈ lw_good := lw_in_3 7 (by decide +kernel) (by decide +kernel)
theorem kw_3_8 : (Jvm.Cond.methodLink "BassRealiser$Search" (128 : Nat) ({ cls := "BassRealiser$Move", name := "length", desc := "()I" } : Jvm.MethodName)) ∈ lw_good := lw_in_3 8 (by decide +kernel) (by decide +kernel)
theorem kw_3_9 : (Jvm.Cond.instanceMethod ({ cls := "BassRealiser$Move", name := "length", desc := "()I" } : Jvm.MethodName)) ∈ lw_good := lw_in_3 9 (by decide +kernel) (by decide +kernel)
theorem kw_3_10 : (Jvm.Cond.selects "BassRealiser$Move" ({ cls := "BassRealiser$Move", name := "length", desc := "()I" } : Jvm.MethodName) ({ cls := "BassRealiser$Move", name := "length", desc := "()I" } : Jvm.MethodName)) ∈ lw_good := lw_in_3 10 (by decide +kernel) (by decide +kernel)
theorem kw_3_11 : (Jvm.Cond.code ({ cls := "BassRealiser$Move", name := "length", desc := "()I" } : Jvm.MethodName) prog_4_method_4_code (1 : Nat) (Option.some Jvm.ClassFile.FieldType.int)) ∈ lw_good := lw_in_3 11 (by decide +kernel) (by decide +kernel)
theorem kw_3_12 : (Jvm.Cond.methodLink "BassRealiser$Search" (132 : Nat) ({ cls := "java/lang/Math", name := "min", desc := "(II)I" } : Jvm.MethodName)) ∈ lw_good := lw_in_3 12 (by decide +kernel) (by decide +kernel)
theorem kw_3_13 : (Jvm.Cond.methodLink "BassRealiser$Search" (138 : Nat) ({ cls := "BassRealiser$Search", name := "joined", desc := "(II)I" } : Jvm.MethodName)) ∈ lw_good := lw_in_3 13 (by decide +kernel) (by decide +kernel)
theorem kw_3_14 : (Jvm.Cond.static ({ cls := "BassRealiser$Search", name := "joined", desc := "(II)I" } : Jvm.MethodName)) ∈ lw_good := lw_in_3 14 (by decide +kernel) (by decide +kernel)
theorem kw_3_15 : (Jvm.Cond.code ({ cls := "BassRealiser$Search", name := "joined", desc := "(II)I" } : Jvm.MethodName) prog_6_method_11_code (2 : Nat) (Option.some Jvm.ClassFile.FieldType.int)) ∈ lw_good := lw_in_3 15 (by decide +kernel) (by decide +kernel)
theorem kw_3_16 : (Jvm.Cond.constant "BassRealiser$Search" (141 : Nat) (1000000000 : Int32)) ∈ lw_good := lw_in_3 16 (by decide +kernel) (by decide +kernel)
theorem kw_3_17 : (Jvm.Cond.methodLink "BassRealiser$Search" (80 : Nat) ({ cls := "BassRealiser$Search", name := "pickFirst", desc := "()V" } : Jvm.MethodName)) ∈ lw_good := lw_in_3 17 (by decide +kernel) (by decide +kernel)
theorem kw_3_19 : (Jvm.Cond.instanceMethod ({ cls := "BassRealiser$Search", name := "pickFirst", desc := "()V" } : Jvm.MethodName)) ∈ lw_good := lw_in_3 19 (by decide +kernel) (by decide +kernel)
theorem kw_3_20 : (Jvm.Cond.code ({ cls := "BassRealiser$Search", name := "pickFirst", desc := "()V" } : Jvm.MethodName) prog_6_method_12_code (4 : Nat) (Option.none : Option Jvm.ClassFile.FieldType)) ∈ lw_good := lw_in_3 20 (by decide +kernel) (by decide +kernel)
theorem kw_3_21 : (Jvm.Cond.methodLink "BassRealiser$Search" (142 : Nat) ({ cls := "BassRealiser$Rules", name := "farFromHome", desc := "(I)I" } : Jvm.MethodName)) ∈ lw_good := lw_in_3 21 (by decide +kernel) (by decide +kernel)
theorem kw_3_22 : (Jvm.Cond.instanceMethod ({ cls := "BassRealiser$Rules", name := "farFromHome", desc := "(I)I" } : Jvm.MethodName)) ∈ lw_good := lw_in_3 22 (by decide +kernel) (by decide +kernel)
theorem kw_3_23 : (Jvm.Cond.selects "BassRealiser$Rules" ({ cls := "BassRealiser$Rules", name := "farFromHome", desc := "(I)I" } : Jvm.MethodName) ({ cls := "BassRealiser$Rules", name := "farFromHome", desc := "(I)I" } : Jvm.MethodName)) ∈ lw_good := lw_in_3 23 (by decide +kernel) (by decide +kernel)
theorem kw_3_24 : (Jvm.Cond.code ({ cls := "BassRealiser$Rules", name := "farFromHome", desc := "(I)I" } : Jvm.MethodName) prog_5_method_2_code (4 : Nat) (Option.some Jvm.ClassFile.FieldType.int)) ∈ lw_good := lw_in_3 24 (by decide +kernel) (by decide +kernel)
theorem kw_3_25 : (Jvm.Cond.methodLink "BassRealiser$Search" (83 : Nat) ({ cls := "BassRealiser$Search", name := "pickNext", desc := "(I)V" } : Jvm.MethodName)) ∈ lw_good := lw_in_3 25 (by decide +kernel) (by decide +kernel)
theorem kw_3_27 : (Jvm.Cond.instanceMethod ({ cls := "BassRealiser$Search", name := "pickNext", desc := "(I)V" } : Jvm.MethodName)) ∈ lw_good := lw_in_3 27 (by decide +kernel) (by decide +kernel)
theorem kw_3_28 : (Jvm.Cond.code ({ cls := "BassRealiser$Search", name := "pickNext", desc := "(I)V" } : Jvm.MethodName) prog_6_method_13_code (6 : Nat) (Option.none : Option Jvm.ClassFile.FieldType)) ∈ lw_good := lw_in_3 28 (by decide +kernel) (by decide +kernel)
theorem kw_3_29 : (Jvm.Cond.methodLink "BassRealiserLaw" (73 : Nat) ({ cls := "BassRealiser", name := "note", desc := "(II)I" } : Jvm.MethodName)) ∈ lw_good := lw_in_3 29 (by decide +kernel) (by decide +kernel)
theorem kw_3_30 : (Jvm.Cond.instanceMethod ({ cls := "BassRealiser", name := "note", desc := "(II)I" } : Jvm.MethodName)) ∈ lw_good := lw_in_3 30 (by decide +kernel) (by decide +kernel)
theorem kw_3_31 : (Jvm.Cond.selects "BassRealiser" ({ cls := "BassRealiser", name := "note", desc := "(II)I" } : Jvm.MethodName) ({ cls := "BassRealiser", name := "note", desc := "(II)I" } : Jvm.MethodName)) ∈ lw_good := lw_in_3 31 (by decide +kernel) (by decide +kernel)
theorem kw_3_32 : (Jvm.Cond.code ({ cls := "BassRealiser", name := "note", desc := "(II)I" } : Jvm.MethodName) prog_1_method_16_code (3 : Nat) (Option.some Jvm.ClassFile.FieldType.int)) ∈ lw_good := lw_in_3 32 (by decide +kernel) (by decide +kernel)
theorem kw_3_33 : (Jvm.Cond.methodLink "BassRealiserLaw" (77 : Nat) ({ cls := "BassRealiser", name := "many", desc := "()I" } : Jvm.MethodName)) ∈ lw_good := lw_in_3 33 (by decide +kernel) (by decide +kernel)
theorem kw_3_34 : (Jvm.Cond.instanceMethod ({ cls := "BassRealiser", name := "many", desc := "()I" } : Jvm.MethodName)) ∈ lw_good := lw_in_3 34 (by decide +kernel) (by decide +kernel)
theorem kw_3_35 : (Jvm.Cond.selects "BassRealiser" ({ cls := "BassRealiser", name := "many", desc := "()I" } : Jvm.MethodName) ({ cls := "BassRealiser", name := "many", desc := "()I" } : Jvm.MethodName)) ∈ lw_good := lw_in_3 35 (by decide +kernel) (by decide +kernel)
theorem kw_3_36 : (Jvm.Cond.code ({ cls := "BassRealiser", name := "many", desc := "()I" } : Jvm.MethodName) prog_1_method_17_code (1 : Nat) (Option.some Jvm.ClassFile.FieldType.int)) ∈ lw_good := lw_in_3 36 (by decide +kernel) (by decide +kernel)
theorem kw_3_37 : (Jvm.Cond.methodLink "BassRealiserLaw" (81 : Nat) ({ cls := "BassRealiser", name := "sing", desc := "(IIII)I" } : Jvm.MethodName)) ∈ lw_good := lw_in_3 37 (by decide +kernel) (by decide +kernel)
theorem kw_3_38 : (Jvm.Cond.instanceMethod ({ cls := "BassRealiser", name := "sing", desc := "(IIII)I" } : Jvm.MethodName)) ∈ lw_good := lw_in_3 38 (by decide +kernel) (by decide +kernel)
theorem kw_3_39 : (Jvm.Cond.selects "BassRealiser" ({ cls := "BassRealiser", name := "sing", desc := "(IIII)I" } : Jvm.MethodName) ({ cls := "BassRealiser", name := "sing", desc := "(IIII)I" } : Jvm.MethodName)) ∈ lw_good := lw_in_3 39 (by decide +kernel) (by decide +kernel)
theorem kw_3_40 : (Jvm.Cond.code ({ cls := "BassRealiser", name := "sing", desc := "(IIII)I" } : Jvm.MethodName) prog_1_method_18_code (5 : Nat) (Option.some Jvm.ClassFile.FieldType.int)) ∈ lw_good := lw_in_3 40 (by decide +kernel) (by decide +kernel)
theorem kw_3_41 : (Jvm.Cond.methodLink "BassRealiser" (152 : Nat) ({ cls := "BassRealiser", name := "pack", desc := "(III)I" } : Jvm.MethodName)) ∈ lw_good := lw_in_3 41 (by decide +kernel) (by decide +kernel)
theorem kw_3_42 : (Jvm.Cond.methodLink "BassRealiserLaw" (86 : Nat) ({ cls := "BassRealiser", name := "fault", desc := "(I)I" } : Jvm.MethodName)) ∈ lw_good := lw_in_3 42 (by decide +kernel) (by decide +kernel)
theorem kw_3_43 : (Jvm.Cond.instanceMethod ({ cls := "BassRealiser", name := "fault", desc := "(I)I" } : Jvm.MethodName)) ∈ lw_good := lw_in_3 43 (by decide +kernel) (by decide +kernel)
theorem kw_3_44 : (Jvm.Cond.selects "BassRealiser" ({ cls := "BassRealiser", name := "fault", desc := "(I)I" } : Jvm.MethodName) ({ cls := "BassRealiser", name := "fault", desc := "(I)I" } : Jvm.MethodName)) ∈ lw_good := lw_in_3 44 (by decide +kernel) (by decide +kernel)
theorem kw_3_45 : (Jvm.Cond.code ({ cls := "BassRealiser", name := "fault", desc := "(I)I" } : Jvm.MethodName) prog_1_method_19_code (2 : Nat) (Option.some Jvm.ClassFile.FieldType.int)) ∈ lw_good := lw_in_3 45 (by decide +kernel) (by decide +kernel)
theorem kw_3_46 : (Jvm.Cond.methodLink "BassRealiser" (158 : Nat) ({ cls := "BassRealiser", name := "faultAt", desc := "(I)I" } : Jvm.MethodName)) ∈ lw_good := lw_in_3 46 (by decide +kernel) (by decide +kernel)
theorem kw_3_48 : (Jvm.Cond.instanceMethod ({ cls := "BassRealiser", name := "faultAt", desc := "(I)I" } : Jvm.MethodName)) ∈ lw_good := lw_in_3 48 (by decide +kernel) (by decide +kernel)
theorem kw_3_49 : (Jvm.Cond.code ({ cls := "BassRealiser", name := "faultAt", desc := "(I)I" } : Jvm.MethodName) prog_1_method_22_code (4 : Nat) (Option.some Jvm.ClassFile.FieldType.int)) ∈ lw_good := lw_in_3 49 (by decide +kernel) (by decide +kernel)
theorem kw_3_50 : (Jvm.Cond.methodLink "BassRealiser" (181 : Nat) ({ cls := "BassRealiser$Rules", name := "ofVoicing", desc := "(LBassRealiser$Chord;I)I" } : Jvm.MethodName)) ∈ lw_good := lw_in_3 50 (by decide +kernel) (by decide +kernel)
theorem kw_3_51 : (Jvm.Cond.methodLink "BassRealiser" (185 : Nat) ({ cls := "BassRealiser$Rules", name := "ofStart", desc := "(LBassRealiser$Chord;I)I" } : Jvm.MethodName)) ∈ lw_good := lw_in_3 51 (by decide +kernel) (by decide +kernel)
theorem kw_3_52 : (Jvm.Cond.methodLink "BassRealiser" (164 : Nat) ({ cls := "BassRealiser", name := "moveTo", desc := "(I)LBassRealiser$Move;" } : Jvm.MethodName)) ∈ lw_good := lw_in_3 52 (by decide +kernel) (by decide +kernel)
theorem kw_3_54 : (Jvm.Cond.instanceMethod ({ cls := "BassRealiser", name := "moveTo", desc := "(I)LBassRealiser$Move;" } : Jvm.MethodName)) ∈ lw_good := lw_in_3 54 (by decide +kernel) (by decide +kernel)
theorem kw_3_55 : (Jvm.Cond.code ({ cls := "BassRealiser", name := "moveTo", desc := "(I)LBassRealiser$Move;" } : Jvm.MethodName) prog_1_method_23_code (2 : Nat) (Option.some (Jvm.ClassFile.FieldType.object "BassRealiser$Move"))) ∈ lw_good := lw_in_3 55 (by decide +kernel) (by decide +kernel)
theorem kw_3_56 : (Jvm.Cond.methodLink "BassRealiser" (191 : Nat) ({ cls := "BassRealiser$Move", name := "leave", desc := "(LBassRealiser$Chord;I)V" } : Jvm.MethodName)) ∈ lw_good := lw_in_3 56 (by decide +kernel) (by decide +kernel)
theorem kw_3_57 : (Jvm.Cond.methodLink "BassRealiser" (195 : Nat) ({ cls := "BassRealiser$Move", name := "arrive", desc := "(LBassRealiser$Chord;I)V" } : Jvm.MethodName)) ∈ lw_good := lw_in_3 57 (by decide +kernel) (by decide +kernel)
theorem kw_3_58 : (Jvm.Cond.methodLink "BassRealiser" (188 : Nat) ({ cls := "BassRealiser$Move", name := "rule", desc := "(I)I" } : Jvm.MethodName)) ∈ lw_good := lw_in_3 58 (by decide +kernel) (by decide +kernel)
theorem kw_3_59 : (Jvm.Cond.methodLink "BassRealiserLaw" (90 : Nat) ({ cls := "BassRealiser", name := "sung", desc := "()I" } : Jvm.MethodName)) ∈ lw_good := lw_in_3 59 (by decide +kernel) (by decide +kernel)
theorem kw_3_60 : (Jvm.Cond.instanceMethod ({ cls := "BassRealiser", name := "sung", desc := "()I" } : Jvm.MethodName)) ∈ lw_good := lw_in_3 60 (by decide +kernel) (by decide +kernel)
theorem kw_3_61 : (Jvm.Cond.selects "BassRealiser" ({ cls := "BassRealiser", name := "sung", desc := "()I" } : Jvm.MethodName) ({ cls := "BassRealiser", name := "sung", desc := "()I" } : Jvm.MethodName)) ∈ lw_good := lw_in_3 61 (by decide +kernel) (by decide +kernel)
theorem kw_3_62 : (Jvm.Cond.code ({ cls := "BassRealiser", name := "sung", desc := "()I" } : Jvm.MethodName) prog_1_method_20_code (4 : Nat) (Option.some Jvm.ClassFile.FieldType.int)) ∈ lw_good := lw_in_3 62 (by decide +kernel) (by decide +kernel)
theorem kw_3_63 : (Jvm.Cond.methodLink "BassRealiser" (161 : Nat) ({ cls := "BassRealiser$Rules", name := "farFromHome", desc := "(I)I" } : Jvm.MethodName)) ∈ lw_good := lw_in_3 63 (by decide +kernel) (by decide +kernel)
theorem kw_3_64 : (Jvm.Cond.methodLink "BassRealiser" (168 : Nat) ({ cls := "BassRealiser$Move", name := "length", desc := "()I" } : Jvm.MethodName)) ∈ lw_good := lw_in_3 64 (by decide +kernel) (by decide +kernel)
theorem kw_3_65 : (Jvm.Cond.methodLink "BassRealiserLaw" (94 : Nat) ({ cls := "BassRealiser", name := "count", desc := "(I)I" } : Jvm.MethodName)) ∈ lw_good := lw_in_3 65 (by decide +kernel) (by decide +kernel)
theorem kw_3_66 : (Jvm.Cond.instanceMethod ({ cls := "BassRealiser", name := "count", desc := "(I)I" } : Jvm.MethodName)) ∈ lw_good := lw_in_3 66 (by decide +kernel) (by decide +kernel)
theorem kw_3_67 : (Jvm.Cond.selects "BassRealiser" ({ cls := "BassRealiser", name := "count", desc := "(I)I" } : Jvm.MethodName) ({ cls := "BassRealiser", name := "count", desc := "(I)I" } : Jvm.MethodName)) ∈ lw_good := lw_in_3 67 (by decide +kernel) (by decide +kernel)
theorem kw_3_68 : (Jvm.Cond.code ({ cls := "BassRealiser", name := "count", desc := "(I)I" } : Jvm.MethodName) prog_1_method_21_code (2 : Nat) (Option.some Jvm.ClassFile.FieldType.int)) ∈ lw_good := lw_in_3 68 (by decide +kernel) (by decide +kernel)
theorem kw_3_69 : (Jvm.Cond.methodLink "BassRealiser" (172 : Nat) ({ cls := "BassRealiser", name := "figuresTold", desc := "()I" } : Jvm.MethodName)) ∈ lw_good := lw_in_3 69 (by decide +kernel) (by decide +kernel)
theorem kw_3_71 : (Jvm.Cond.instanceMethod ({ cls := "BassRealiser", name := "figuresTold", desc := "()I" } : Jvm.MethodName)) ∈ lw_good := lw_in_3 71 (by decide +kernel) (by decide +kernel)
theorem kw_3_72 : (Jvm.Cond.code ({ cls := "BassRealiser", name := "figuresTold", desc := "()I" } : Jvm.MethodName) prog_1_method_24_code (3 : Nat) (Option.some Jvm.ClassFile.FieldType.int)) ∈ lw_good := lw_in_3 72 (by decide +kernel) (by decide +kernel)
theorem kw_3_73 : (Jvm.Cond.methodLink "BassRealiser" (175 : Nat) ({ cls := "BassRealiser", name := "chordsSung", desc := "()I" } : Jvm.MethodName)) ∈ lw_good := lw_in_3 73 (by decide +kernel) (by decide +kernel)
theorem kw_3_75 : (Jvm.Cond.instanceMethod ({ cls := "BassRealiser", name := "chordsSung", desc := "()I" } : Jvm.MethodName)) ∈ lw_good := lw_in_3 75 (by decide +kernel) (by decide +kernel)
theorem kw_3_76 : (Jvm.Cond.code ({ cls := "BassRealiser", name := "chordsSung", desc := "()I" } : Jvm.MethodName) prog_1_method_25_code (3 : Nat) (Option.some Jvm.ClassFile.FieldType.int)) ∈ lw_good := lw_in_3 76 (by decide +kernel) (by decide +kernel)
theorem kw_3_77 : (Jvm.Cond.methodLink "BassRealiser" (178 : Nat) ({ cls := "BassRealiser", name := "pitchesGiven", desc := "()I" } : Jvm.MethodName)) ∈ lw_good := lw_in_3 77 (by decide +kernel) (by decide +kernel)
theorem kw_3_79 : (Jvm.Cond.instanceMethod ({ cls := "BassRealiser", name := "pitchesGiven", desc := "()I" } : Jvm.MethodName)) ∈ lw_good := lw_in_3 79 (by decide +kernel) (by decide +kernel)
theorem kw_3_80 : (Jvm.Cond.code ({ cls := "BassRealiser", name := "pitchesGiven", desc := "()I" } : Jvm.MethodName) prog_1_method_26_code (4 : Nat) (Option.some Jvm.ClassFile.FieldType.int)) ∈ lw_good := lw_in_3 80 (by decide +kernel) (by decide +kernel)
theorem kw_3_81 : (Jvm.Cond.classLink "BassRealiserLaw" (10 : Nat) "BassRealiserModel") ∈ lw_good := lw_in_3 81 (by decide +kernel) (by decide +kernel)
theorem kw_3_82 : (Jvm.Cond.instantiable "BassRealiserModel" (26 : Nat)) ∈ lw_good := lw_in_3 82 (by decide +kernel) (by decide +kernel)
theorem kw_3_83 : (Jvm.Cond.methodLink "BassRealiserLaw" (12 : Nat) ({ cls := "BassRealiserModel", name := "<init>", desc := "()V" } : Jvm.MethodName)) ∈ lw_good := lw_in_3 83 (by decide +kernel) (by decide +kernel)
theorem kw_3_84 : (Jvm.Cond.instanceMethod ({ cls := "BassRealiserModel", name := "<init>", desc := "()V" } : Jvm.MethodName)) ∈ lw_good := lw_in_3 84 (by decide +kernel) (by decide +kernel)
theorem kw_3_85 : (Jvm.Cond.code ({ cls := "BassRealiserModel", name := "<init>", desc := "()V" } : Jvm.MethodName) prog_8_method_3_code (2 : Nat) (Option.none : Option Jvm.ClassFile.FieldType)) ∈ lw_good := lw_in_3 85 (by decide +kernel) (by decide +kernel)
theorem kw_3_86 : (Jvm.Cond.methodLink "BassRealiserModel" (7 : Nat) ({ cls := "java/lang/Object", name := "<init>", desc := "()V" } : Jvm.MethodName)) ∈ lw_good := lw_in_3 86 (by decide +kernel) (by decide +kernel)
theorem kw_3_87 : (Jvm.Cond.fieldLink "BassRealiserModel" (1 : Nat) "BassRealiserModel" "thrown" "I") ∈ lw_good := lw_in_3 87 (by decide +kernel) (by decide +kernel)
theorem kw_3_88 : (Jvm.Cond.fieldLink "BassRealiserModel" (90 : Nat) "BassRealiserModel" "fifths" "I") ∈ lw_good := lw_in_3 88 (by decide +kernel) (by decide +kernel)
theorem kw_3_89 : (Jvm.Cond.fieldLink "BassRealiserModel" (79 : Nat) "BassRealiserModel" "chords" "I") ∈ lw_good := lw_in_3 89 (by decide +kernel) (by decide +kernel)
theorem kw_3_90 : (Jvm.Cond.fieldLink "BassRealiserModel" (13 : Nat) "BassRealiserModel" "letter" "[I") ∈ lw_good := lw_in_3 90 (by decide +kernel) (by decide +kernel)
theorem kw_3_91 : (Jvm.Cond.fieldLink "BassRealiserModel" (17 : Nat) "BassRealiserModel" "octave" "[I") ∈ lw_good := lw_in_3 91 (by decide +kernel) (by decide +kernel)
theorem kw_3_92 : (Jvm.Cond.fieldLink "BassRealiserModel" (20 : Nat) "BassRealiserModel" "alter" "[I") ∈ lw_good := lw_in_3 92 (by decide +kernel) (by decide +kernel)
theorem kw_3_93 : (Jvm.Cond.fieldLink "BassRealiserModel" (23 : Nat) "BassRealiserModel" "told" "[I") ∈ lw_good := lw_in_3 93 (by decide +kernel) (by decide +kernel)
theorem kw_3_94 : (Jvm.Cond.fieldLink "BassRealiserModel" (26 : Nat) "BassRealiserModel" "low" "[I") ∈ lw_good := lw_in_3 94 (by decide +kernel) (by decide +kernel)
theorem kw_3_95 : (Jvm.Cond.fieldLink "BassRealiserModel" (29 : Nat) "BassRealiserModel" "high" "[I") ∈ lw_good := lw_in_3 95 (by decide +kernel) (by decide +kernel)
theorem kw_3_96 : (Jvm.Cond.fieldLink "BassRealiserModel" (32 : Nat) "BassRealiserModel" "home" "[I") ∈ lw_good := lw_in_3 96 (by decide +kernel) (by decide +kernel)
theorem kw_3_97 : (Jvm.Cond.fieldLink "BassRealiserModel" (35 : Nat) "BassRealiserModel" "leap" "I") ∈ lw_good := lw_in_3 97 (by decide +kernel) (by decide +kernel)
theorem kw_3_98 : (Jvm.Cond.fieldLink "BassRealiserModel" (38 : Nat) "BassRealiserModel" "given" "[I") ∈ lw_good := lw_in_3 98 (by decide +kernel) (by decide +kernel)
theorem kw_3_99 : (Jvm.Cond.fieldLink "BassRealiserModel" (41 : Nat) "BassRealiserModel" "hand" "[I") ∈ lw_good := lw_in_3 99 (by decide +kernel) (by decide +kernel)
theorem kw_3_100 : (Jvm.Cond.fieldLink "BassRealiserModel" (44 : Nat) "BassRealiserModel" "isSung" "[Z") ∈ lw_good := lw_in_3 100 (by decide +kernel) (by decide +kernel)
theorem kw_3_101 : (Jvm.Cond.fieldLink "BassRealiserModel" (48 : Nat) "BassRealiserModel" "now" "[I") ∈ lw_good := lw_in_3 101 (by decide +kernel) (by decide +kernel)
theorem kw_3_102 : (Jvm.Cond.fieldLink "BassRealiserModel" (51 : Nat) "BassRealiserModel" "before" "[I") ∈ lw_good := lw_in_3 102 (by decide +kernel) (by decide +kernel)
theorem kw_3_103 : (Jvm.Cond.fieldLink "BassRealiserModel" (54 : Nat) "BassRealiserModel" "tones" "[I") ∈ lw_good := lw_in_3 103 (by decide +kernel) (by decide +kernel)
theorem kw_3_104 : (Jvm.Cond.fieldLink "BassRealiserModel" (57 : Nat) "BassRealiserModel" "suspended" "[I") ∈ lw_good := lw_in_3 104 (by decide +kernel) (by decide +kernel)
theorem kw_3_105 : (Jvm.Cond.fieldLink "BassRealiserModel" (60 : Nat) "BassRealiserModel" "falling" "[I") ∈ lw_good := lw_in_3 105 (by decide +kernel) (by decide +kernel)
theorem kw_3_106 : (Jvm.Cond.fieldLink "BassRealiserModel" (93 : Nat) "BassRealiserModel" "isLaid" "Z") ∈ lw_good := lw_in_3 106 (by decide +kernel) (by decide +kernel)
theorem kw_3_107 : (Jvm.Cond.fieldLink "BassRealiserModel" (63 : Nat) "BassRealiserModel" "pitch" "[I") ∈ lw_good := lw_in_3 107 (by decide +kernel) (by decide +kernel)
theorem kw_3_108 : (Jvm.Cond.fieldLink "BassRealiserModel" (66 : Nat) "BassRealiserModel" "size" "[I") ∈ lw_good := lw_in_3 108 (by decide +kernel) (by decide +kernel)
theorem kw_3_109 : (Jvm.Cond.fieldLink "BassRealiserModel" (69 : Nat) "BassRealiserModel" "rest" "[I") ∈ lw_good := lw_in_3 109 (by decide +kernel) (by decide +kernel)
theorem kw_3_110 : (Jvm.Cond.fieldLink "BassRealiserModel" (72 : Nat) "BassRealiserModel" "rows" "[J") ∈ lw_good := lw_in_3 110 (by decide +kernel) (by decide +kernel)
theorem kw_3_111 : (Jvm.Cond.fieldLink "BassRealiserModel" (177 : Nat) "BassRealiserModel" "failed" "I") ∈ lw_good := lw_in_3 111 (by decide +kernel) (by decide +kernel)
theorem kw_3_112 : (Jvm.Cond.fieldLink "BassRealiserModel" (76 : Nat) "BassRealiserModel" "chosen" "[I") ∈ lw_good := lw_in_3 112 (by decide +kernel) (by decide +kernel)
theorem kw_3_113 : (Jvm.Cond.lays "BassRealiserModel" "BassRealiserModel" "thrown" "I") ∈ lw_good := lw_in_3 113 (by decide +kernel) (by decide +kernel)
theorem kw_3_115 : (Jvm.Cond.lays "BassRealiserModel" "BassRealiserModel" "fifths" "I") ∈ lw_good := lw_in_3 115 (by decide +kernel) (by decide +kernel)
theorem kw_3_117 : (Jvm.Cond.lays "BassRealiserModel" "BassRealiserModel" "chords" "I") ∈ lw_good := lw_in_3 117 (by decide +kernel) (by decide +kernel)
theorem kw_3_119 : (Jvm.Cond.laysFinal "BassRealiserModel" "BassRealiserModel" "letter" "[I") ∈ lw_good := lw_in_3 119 (by decide +kernel) (by decide +kernel)
theorem kw_3_121 : (Jvm.Cond.laysFinal "BassRealiserModel" "BassRealiserModel" "octave" "[I") ∈ lw_good := lw_in_3 121 (by decide +kernel) (by decide +kernel)
theorem kw_3_123 : (Jvm.Cond.laysFinal "BassRealiserModel" "BassRealiserModel" "alter" "[I") ∈ lw_good := lw_in_3 123 (by decide +kernel) (by decide +kernel)
theorem kw_3_125 : (Jvm.Cond.laysFinal "BassRealiserModel" "BassRealiserModel" "told" "[I") ∈ lw_good := lw_in_3 125 (by decide +kernel) (by decide +kernel)
theorem kw_3_127 : (Jvm.Cond.laysFinal "BassRealiserModel" "BassRealiserModel" "low" "[I") ∈ lw_good := lw_in_3 127 (by decide +kernel) (by decide +kernel)
theorem kw_3_129 : (Jvm.Cond.laysFinal "BassRealiserModel" "BassRealiserModel" "high" "[I") ∈ lw_good := lw_in_3 129 (by decide +kernel) (by decide +kernel)
theorem kw_3_131 : (Jvm.Cond.laysFinal "BassRealiserModel" "BassRealiserModel" "home" "[I") ∈ lw_good := lw_in_3 131 (by decide +kernel) (by decide +kernel)
theorem kw_3_133 : (Jvm.Cond.lays "BassRealiserModel" "BassRealiserModel" "leap" "I") ∈ lw_good := lw_in_3 133 (by decide +kernel) (by decide +kernel)
theorem kw_3_135 : (Jvm.Cond.laysFinal "BassRealiserModel" "BassRealiserModel" "given" "[I") ∈ lw_good := lw_in_3 135 (by decide +kernel) (by decide +kernel)
theorem kw_3_137 : (Jvm.Cond.laysFinal "BassRealiserModel" "BassRealiserModel" "hand" "[I") ∈ lw_good := lw_in_3 137 (by decide +kernel) (by decide +kernel)
theorem kw_3_139 : (Jvm.Cond.laysFinal "BassRealiserModel" "BassRealiserModel" "isSung" "[Z") ∈ lw_good := lw_in_3 139 (by decide +kernel) (by decide +kernel)
theorem kw_3_141 : (Jvm.Cond.laysFinal "BassRealiserModel" "BassRealiserModel" "now" "[I") ∈ lw_good := lw_in_3 141 (by decide +kernel) (by decide +kernel)
theorem kw_3_143 : (Jvm.Cond.laysFinal "BassRealiserModel" "BassRealiserModel" "before" "[I") ∈ lw_good := lw_in_3 143 (by decide +kernel) (by decide +kernel)
theorem kw_3_145 : (Jvm.Cond.laysFinal "BassRealiserModel" "BassRealiserModel" "tones" "[I") ∈ lw_good := lw_in_3 145 (by decide +kernel) (by decide +kernel)
theorem kw_3_147 : (Jvm.Cond.laysFinal "BassRealiserModel" "BassRealiserModel" "suspended" "[I") ∈ lw_good := lw_in_3 147 (by decide +kernel) (by decide +kernel)
theorem kw_3_149 : (Jvm.Cond.laysFinal "BassRealiserModel" "BassRealiserModel" "falling" "[I") ∈ lw_good := lw_in_3 149 (by decide +kernel) (by decide +kernel)
theorem kw_3_151 : (Jvm.Cond.lays "BassRealiserModel" "BassRealiserModel" "isLaid" "Z") ∈ lw_good := lw_in_3 151 (by decide +kernel) (by decide +kernel)
theorem kw_3_153 : (Jvm.Cond.laysFinal "BassRealiserModel" "BassRealiserModel" "pitch" "[I") ∈ lw_good := lw_in_3 153 (by decide +kernel) (by decide +kernel)
theorem kw_3_155 : (Jvm.Cond.laysFinal "BassRealiserModel" "BassRealiserModel" "size" "[I") ∈ lw_good := lw_in_3 155 (by decide +kernel) (by decide +kernel)
theorem kw_3_157 : (Jvm.Cond.laysFinal "BassRealiserModel" "BassRealiserModel" "rest" "[I") ∈ lw_good := lw_in_3 157 (by decide +kernel) (by decide +kernel)
theorem kw_3_159 : (Jvm.Cond.laysFinal "BassRealiserModel" "BassRealiserModel" "rows" "[J") ∈ lw_good := lw_in_3 159 (by decide +kernel) (by decide +kernel)
theorem kw_3_161 : (Jvm.Cond.lays "BassRealiserModel" "BassRealiserModel" "failed" "I") ∈ lw_good := lw_in_3 161 (by decide +kernel) (by decide +kernel)
theorem kw_3_163 : (Jvm.Cond.laysFinal "BassRealiserModel" "BassRealiserModel" "chosen" "[I") ∈ lw_good := lw_in_3 163 (by decide +kernel) (by decide +kernel)
theorem kw_3_166 : (Jvm.Cond.arrayClass Jvm.ClassFile.FieldType.long) ∈ lw_good := lw_in_3 166 (by decide +kernel) (by decide +kernel)
theorem kw_3_167 : (Jvm.Cond.methodLink "BassRealiserLaw" (17 : Nat) ({ cls := "BassRealiserModel", name := "key", desc := "(I)I" } : Jvm.MethodName)) ∈ lw_good := lw_in_3 167 (by decide +kernel) (by decide +kernel)
theorem kw_3_168 : (Jvm.Cond.instanceMethod ({ cls := "BassRealiserModel", name := "key", desc := "(I)I" } : Jvm.MethodName)) ∈ lw_good := lw_in_3 168 (by decide +kernel) (by decide +kernel)
theorem kw_3_169 : (Jvm.Cond.selects "BassRealiserModel" ({ cls := "BassRealiserModel", name := "key", desc := "(I)I" } : Jvm.MethodName) ({ cls := "BassRealiserModel", name := "key", desc := "(I)I" } : Jvm.MethodName)) ∈ lw_good := lw_in_3 169 (by decide +kernel) (by decide +kernel)
theorem kw_3_170 : (Jvm.Cond.code ({ cls := "BassRealiserModel", name := "key", desc := "(I)I" } : Jvm.MethodName) prog_8_method_5_code (3 : Nat) (Option.some Jvm.ClassFile.FieldType.int)) ∈ lw_good := lw_in_3 170 (by decide +kernel) (by decide +kernel)
theorem kw_3_171 : (Jvm.Cond.constantLong "BassRealiserModel" (86 : Nat) (-7 : Int64)) ∈ lw_good := lw_in_3 171 (by decide +kernel) (by decide +kernel)
theorem kw_3_172 : (Jvm.Cond.constantLong "BassRealiserModel" (88 : Nat) (7 : Int64)) ∈ lw_good := lw_in_3 172 (by decide +kernel) (by decide +kernel)
theorem kw_3_173 : (Jvm.Cond.methodLink "BassRealiserModel" (82 : Nat) ({ cls := "BassRealiserModel", name := "in", desc := "(JJJ)Z" } : Jvm.MethodName)) ∈ lw_good := lw_in_3 173 (by decide +kernel) (by decide +kernel)
theorem kw_3_174 : (Jvm.Cond.static ({ cls := "BassRealiserModel", name := "in", desc := "(JJJ)Z" } : Jvm.MethodName)) ∈ lw_good := lw_in_3 174 (by decide +kernel) (by decide +kernel)
theorem kw_3_175 : (Jvm.Cond.code ({ cls := "BassRealiserModel", name := "in", desc := "(JJJ)Z" } : Jvm.MethodName) prog_8_method_2_code (6 : Nat) (Option.some Jvm.ClassFile.FieldType.boolean)) ∈ lw_good := lw_in_3 175 (by decide +kernel) (by decide +kernel)
theorem kw_3_176 : (Jvm.Cond.methodLink "BassRealiserLaw" (22 : Nat) ({ cls := "BassRealiserModel", name := "chord", desc := "(III)I" } : Jvm.MethodName)) ∈ lw_good := lw_in_3 176 (by decide +kernel) (by decide +kernel)
theorem kw_3_177 : (Jvm.Cond.instanceMethod ({ cls := "BassRealiserModel", name := "chord", desc := "(III)I" } : Jvm.MethodName)) ∈ lw_good := lw_in_3 177 (by decide +kernel) (by decide +kernel)
theorem kw_3_178 : (Jvm.Cond.selects "BassRealiserModel" ({ cls := "BassRealiserModel", name := "chord", desc := "(III)I" } : Jvm.MethodName) ({ cls := "BassRealiserModel", name := "chord", desc := "(III)I" } : Jvm.MethodName)) ∈ lw_good := lw_in_3 178 (by decide +kernel) (by decide +kernel)
theorem kw_3_179 : (Jvm.Cond.code ({ cls := "BassRealiserModel", name := "chord", desc := "(III)I" } : Jvm.MethodName) prog_8_method_6_code (5 : Nat) (Option.some Jvm.ClassFile.FieldType.int)) ∈ lw_good := lw_in_3 179 (by decide +kernel) (by decide +kernel)
theorem kw_3_180 : (Jvm.Cond.constantLong "BassRealiserModel" (97 : Nat) (6 : Int64)) ∈ lw_good := lw_in_3 180 (by decide +kernel) (by decide +kernel)
theorem kw_3_181 : (Jvm.Cond.constantLong "BassRealiserModel" (99 : Nat) (5 : Int64)) ∈ lw_good := lw_in_3 181 (by decide +kernel) (by decide +kernel)
theorem kw_3_182 : (Jvm.Cond.constantLong "BassRealiserModel" (101 : Nat) (-1 : Int64)) ∈ lw_good := lw_in_3 182 (by decide +kernel) (by decide +kernel)
theorem kw_3_183 : (Jvm.Cond.methodLink "BassRealiserLaw" (27 : Nat) ({ cls := "BassRealiserModel", name := "less", desc := "()I" } : Jvm.MethodName)) ∈ lw_good := lw_in_3 183 (by decide +kernel) (by decide +kernel)
theorem kw_3_184 : (Jvm.Cond.instanceMethod ({ cls := "BassRealiserModel", name := "less", desc := "()I" } : Jvm.MethodName)) ∈ lw_good := lw_in_3 184 (by decide +kernel) (by decide +kernel)
theorem kw_3_185 : (Jvm.Cond.selects "BassRealiserModel" ({ cls := "BassRealiserModel", name := "less", desc := "()I" } : Jvm.MethodName) ({ cls := "BassRealiserModel", name := "less", desc := "()I" } : Jvm.MethodName)) ∈ lw_good := lw_in_3 185 (by decide +kernel) (by decide +kernel)
theorem kw_3_186 : (Jvm.Cond.code ({ cls := "BassRealiserModel", name := "less", desc := "()I" } : Jvm.MethodName) prog_8_method_7_code (1 : Nat) (Option.some Jvm.ClassFile.FieldType.int)) ∈ lw_good := lw_in_3 186 (by decide +kernel) (by decide +kernel)
theorem kw_3_187 : (Jvm.Cond.methodLink "BassRealiserLaw" (31 : Nat) ({ cls := "BassRealiserModel", name := "figure", desc := "(III)I" } : Jvm.MethodName)) ∈ lw_good := lw_in_3 187 (by decide +kernel) (by decide +kernel)
theorem kw_3_188 : (Jvm.Cond.instanceMethod ({ cls := "BassRealiserModel", name := "figure", desc := "(III)I" } : Jvm.MethodName)) ∈ lw_good := lw_in_3 188 (by decide +kernel) (by decide +kernel)
theorem kw_3_189 : (Jvm.Cond.selects "BassRealiserModel" ({ cls := "BassRealiserModel", name := "figure", desc := "(III)I" } : Jvm.MethodName) ({ cls := "BassRealiserModel", name := "figure", desc := "(III)I" } : Jvm.MethodName)) ∈ lw_good := lw_in_3 189 (by decide +kernel) (by decide +kernel)
theorem kw_3_190 : (Jvm.Cond.code ({ cls := "BassRealiserModel", name := "figure", desc := "(III)I" } : Jvm.MethodName) prog_8_method_8_code (6 : Nat) (Option.some Jvm.ClassFile.FieldType.int)) ∈ lw_good := lw_in_3 190 (by decide +kernel) (by decide +kernel)
theorem kw_3_191 : (Jvm.Cond.methodLink "BassRealiserModel" (103 : Nat) ({ cls := "BassRealiserModel", name := "noChord", desc := "(I)Z" } : Jvm.MethodName)) ∈ lw_good := lw_in_3 191 (by decide +kernel) (by decide +kernel)
theorem kw_3_193 : (Jvm.Cond.instanceMethod ({ cls := "BassRealiserModel", name := "noChord", desc := "(I)Z" } : Jvm.MethodName)) ∈ lw_good := lw_in_3 193 (by decide +kernel) (by decide +kernel)
theorem kw_3_194 : (Jvm.Cond.code ({ cls := "BassRealiserModel", name := "noChord", desc := "(I)Z" } : Jvm.MethodName) prog_8_method_4_code (2 : Nat) (Option.some Jvm.ClassFile.FieldType.boolean)) ∈ lw_good := lw_in_3 194 (by decide +kernel) (by decide +kernel)
theorem kw_3_195 : (Jvm.Cond.constantLong "BassRealiserModel" (107 : Nat) (2 : Int64)) ∈ lw_good := lw_in_3 195 (by decide +kernel) (by decide +kernel)
theorem kw_3_196 : (Jvm.Cond.constantLong "BassRealiserModel" (109 : Nat) (9 : Int64)) ∈ lw_good := lw_in_3 196 (by decide +kernel) (by decide +kernel)
theorem kw_3_197 : (Jvm.Cond.constantLong "BassRealiserModel" (111 : Nat) (3 : Int64)) ∈ lw_good := lw_in_3 197 (by decide +kernel) (by decide +kernel)
theorem kw_3_198 : (Jvm.Cond.methodLink "BassRealiserModel" (113 : Nat) ({ cls := "BassRealiserModel", name := "many", desc := "(I)I" } : Jvm.MethodName)) ∈ lw_good := lw_in_3 198 (by decide +kernel) (by decide +kernel)
theorem kw_3_200 : (Jvm.Cond.instanceMethod ({ cls := "BassRealiserModel", name := "many", desc := "(I)I" } : Jvm.MethodName)) ∈ lw_good := lw_in_3 200 (by decide +kernel) (by decide +kernel)
theorem kw_3_201 : (Jvm.Cond.code ({ cls := "BassRealiserModel", name := "many", desc := "(I)I" } : Jvm.MethodName) prog_8_method_20_code (4 : Nat) (Option.some Jvm.ClassFile.FieldType.int)) ∈ lw_good := lw_in_3 201 (by decide +kernel) (by decide +kernel)
theorem kw_3_202 : (Jvm.Cond.methodLink "BassRealiserModel" (131 : Nat) ({ cls := "BassRealiserModel", name := "isWorked", desc := "(II)Z" } : Jvm.MethodName)) ∈ lw_good := lw_in_3 202 (by decide +kernel) (by decide +kernel)
theorem kw_3_204 : (Jvm.Cond.instanceMethod ({ cls := "BassRealiserModel", name := "isWorked", desc := "(II)Z" } : Jvm.MethodName)) ∈ lw_good := lw_in_3 204 (by decide +kernel) (by decide +kernel)
theorem kw_3_205 : (Jvm.Cond.code ({ cls := "BassRealiserModel", name := "isWorked", desc := "(II)Z" } : Jvm.MethodName) prog_8_method_19_code (5 : Nat) (Option.some Jvm.ClassFile.FieldType.boolean)) ∈ lw_good := lw_in_3 205 (by decide +kernel) (by decide +kernel)
theorem kw_3_206 : (Jvm.Cond.methodLink "BassRealiserModel" (127 : Nat) ({ cls := "BassRealiserModel", name := "isTold", desc := "(II)Z" } : Jvm.MethodName)) ∈ lw_good := lw_in_3 206 (by decide +kernel) (by decide +kernel)
theorem kw_3_208 : (Jvm.Cond.instanceMethod ({ cls := "BassRealiserModel", name := "isTold", desc := "(II)Z" } : Jvm.MethodName)) ∈ lw_good := lw_in_3 208 (by decide +kernel) (by decide +kernel)
theorem kw_3_209 : (Jvm.Cond.code ({ cls := "BassRealiserModel", name := "isTold", desc := "(II)Z" } : Jvm.MethodName) prog_8_method_18_code (3 : Nat) (Option.some Jvm.ClassFile.FieldType.boolean)) ∈ lw_good := lw_in_3 209 (by decide +kernel) (by decide +kernel)
theorem kw_3_210 : (Jvm.Cond.methodLink "BassRealiserLaw" (35 : Nat) ({ cls := "BassRealiserModel", name := "plain", desc := "(I)I" } : Jvm.MethodName)) ∈ lw_good := lw_in_3 210 (by decide +kernel) (by decide +kernel)
theorem kw_3_211 : (Jvm.Cond.instanceMethod ({ cls := "BassRealiserModel", name := "plain", desc := "(I)I" } : Jvm.MethodName)) ∈ lw_good := lw_in_3 211 (by decide +kernel) (by decide +kernel)
theorem kw_3_212 : (Jvm.Cond.selects "BassRealiserModel" ({ cls := "BassRealiserModel", name := "plain", desc := "(I)I" } : Jvm.MethodName) ({ cls := "BassRealiserModel", name := "plain", desc := "(I)I" } : Jvm.MethodName)) ∈ lw_good := lw_in_3 212 (by decide +kernel) (by decide +kernel)
theorem kw_3_213 : (Jvm.Cond.code ({ cls := "BassRealiserModel", name := "plain", desc := "(I)I" } : Jvm.MethodName) prog_8_method_9_code (4 : Nat) (Option.some Jvm.ClassFile.FieldType.int)) ∈ lw_good := lw_in_3 213 (by decide +kernel) (by decide +kernel)
theorem kw_3_214 : (Jvm.Cond.methodLink "BassRealiserLaw" (39 : Nat) ({ cls := "BassRealiserModel", name := "range", desc := "(III)I" } : Jvm.MethodName)) ∈ lw_good := lw_in_3 214 (by decide +kernel) (by decide +kernel)
theorem kw_3_215 : (Jvm.Cond.instanceMethod ({ cls := "BassRealiserModel", name := "range", desc := "(III)I" } : Jvm.MethodName)) ∈ lw_good := lw_in_3 215 (by decide +kernel) (by decide +kernel)
theorem kw_3_216 : (Jvm.Cond.selects "BassRealiserModel" ({ cls := "BassRealiserModel", name := "range", desc := "(III)I" } : Jvm.MethodName) ({ cls := "BassRealiserModel", name := "range", desc := "(III)I" } : Jvm.MethodName)) ∈ lw_good := lw_in_3 216 (by decide +kernel) (by decide +kernel)
theorem kw_3_217 : (Jvm.Cond.code ({ cls := "BassRealiserModel", name := "range", desc := "(III)I" } : Jvm.MethodName) prog_8_method_10_code (4 : Nat) (Option.some Jvm.ClassFile.FieldType.int)) ∈ lw_good := lw_in_3 217 (by decide +kernel) (by decide +kernel)
theorem kw_3_218 : (Jvm.Cond.constantLong "BassRealiserModel" (117 : Nat) (127 : Int64)) ∈ lw_good := lw_in_3 218 (by decide +kernel) (by decide +kernel)
theorem kw_3_219 : (Jvm.Cond.methodLink "BassRealiserLaw" (44 : Nat) ({ cls := "BassRealiserModel", name := "home", desc := "(II)I" } : Jvm.MethodName)) ∈ lw_good := lw_in_3 219 (by decide +kernel) (by decide +kernel)
theorem kw_3_220 : (Jvm.Cond.instanceMethod ({ cls := "BassRealiserModel", name := "home", desc := "(II)I" } : Jvm.MethodName)) ∈ lw_good := lw_in_3 220 (by decide +kernel) (by decide +kernel)
theorem kw_3_221 : (Jvm.Cond.selects "BassRealiserModel" ({ cls := "BassRealiserModel", name := "home", desc := "(II)I" } : Jvm.MethodName) ({ cls := "BassRealiserModel", name := "home", desc := "(II)I" } : Jvm.MethodName)) ∈ lw_good := lw_in_3 221 (by decide +kernel) (by decide +kernel)
theorem kw_3_222 : (Jvm.Cond.code ({ cls := "BassRealiserModel", name := "home", desc := "(II)I" } : Jvm.MethodName) prog_8_method_11_code (4 : Nat) (Option.some Jvm.ClassFile.FieldType.int)) ∈ lw_good := lw_in_3 222 (by decide +kernel) (by decide +kernel)
theorem kw_3_223 : (Jvm.Cond.methodLink "BassRealiserLaw" (48 : Nat) ({ cls := "BassRealiserModel", name := "leap", desc := "(I)I" } : Jvm.MethodName)) ∈ lw_good := lw_in_3 223 (by decide +kernel) (by decide +kernel)
theorem kw_3_224 : (Jvm.Cond.instanceMethod ({ cls := "BassRealiserModel", name := "leap", desc := "(I)I" } : Jvm.MethodName)) ∈ lw_good := lw_in_3 224 (by decide +kernel) (by decide +kernel)
theorem kw_3_225 : (Jvm.Cond.selects "BassRealiserModel" ({ cls := "BassRealiserModel", name := "leap", desc := "(I)I" } : Jvm.MethodName) ({ cls := "BassRealiserModel", name := "leap", desc := "(I)I" } : Jvm.MethodName)) ∈ lw_good := lw_in_3 225 (by decide +kernel) (by decide +kernel)
theorem kw_3_226 : (Jvm.Cond.code ({ cls := "BassRealiserModel", name := "leap", desc := "(I)I" } : Jvm.MethodName) prog_8_method_12_code (3 : Nat) (Option.some Jvm.ClassFile.FieldType.int)) ∈ lw_good := lw_in_3 226 (by decide +kernel) (by decide +kernel)
theorem kw_3_227 : (Jvm.Cond.constantLong "BassRealiserModel" (119 : Nat) (24 : Int64)) ∈ lw_good := lw_in_3 227 (by decide +kernel) (by decide +kernel)
theorem kw_3_228 : (Jvm.Cond.methodLink "BassRealiserLaw" (52 : Nat) ({ cls := "BassRealiserModel", name := "given", desc := "(III)I" } : Jvm.MethodName)) ∈ lw_good := lw_in_3 228 (by decide +kernel) (by decide +kernel)
theorem kw_3_229 : (Jvm.Cond.instanceMethod ({ cls := "BassRealiserModel", name := "given", desc := "(III)I" } : Jvm.MethodName)) ∈ lw_good := lw_in_3 229 (by decide +kernel) (by decide +kernel)
theorem kw_3_230 : (Jvm.Cond.selects "BassRealiserModel" ({ cls := "BassRealiserModel", name := "given", desc := "(III)I" } : Jvm.MethodName) ({ cls := "BassRealiserModel", name := "given", desc := "(III)I" } : Jvm.MethodName)) ∈ lw_good := lw_in_3 230 (by decide +kernel) (by decide +kernel)
theorem kw_3_231 : (Jvm.Cond.code ({ cls := "BassRealiserModel", name := "given", desc := "(III)I" } : Jvm.MethodName) prog_8_method_13_code (5 : Nat) (Option.some Jvm.ClassFile.FieldType.int)) ∈ lw_good := lw_in_3 231 (by decide +kernel) (by decide +kernel)
theorem kw_3_232 : (Jvm.Cond.methodLink "BassRealiserLaw" (56 : Nat) ({ cls := "BassRealiserModel", name := "bass", desc := "(I)I" } : Jvm.MethodName)) ∈ lw_good := lw_in_3 232 (by decide +kernel) (by decide +kernel)
theorem kw_3_233 : (Jvm.Cond.instanceMethod ({ cls := "BassRealiserModel", name := "bass", desc := "(I)I" } : Jvm.MethodName)) ∈ lw_good := lw_in_3 233 (by decide +kernel) (by decide +kernel)
theorem kw_3_234 : (Jvm.Cond.selects "BassRealiserModel" ({ cls := "BassRealiserModel", name := "bass", desc := "(I)I" } : Jvm.MethodName) ({ cls := "BassRealiserModel", name := "bass", desc := "(I)I" } : Jvm.MethodName)) ∈ lw_good := lw_in_3 234 (by decide +kernel) (by decide +kernel)
theorem kw_3_235 : (Jvm.Cond.code ({ cls := "BassRealiserModel", name := "bass", desc := "(I)I" } : Jvm.MethodName) prog_8_method_17_code (2 : Nat) (Option.some Jvm.ClassFile.FieldType.int)) ∈ lw_good := lw_in_3 235 (by decide +kernel) (by decide +kernel)
theorem kw_3_236 : (Jvm.Cond.methodLink "BassRealiserModel" (124 : Nat) ({ cls := "BassRealiserModel", name := "bassOf", desc := "(I)I" } : Jvm.MethodName)) ∈ lw_good := lw_in_3 236 (by decide +kernel) (by decide +kernel)
theorem kw_3_238 : (Jvm.Cond.instanceMethod ({ cls := "BassRealiserModel", name := "bassOf", desc := "(I)I" } : Jvm.MethodName)) ∈ lw_good := lw_in_3 238 (by decide +kernel) (by decide +kernel)
theorem kw_3_239 : (Jvm.Cond.code ({ cls := "BassRealiserModel", name := "bassOf", desc := "(I)I" } : Jvm.MethodName) prog_8_method_16_code (2 : Nat) (Option.some Jvm.ClassFile.FieldType.int)) ∈ lw_good := lw_in_3 239 (by decide +kernel) (by decide +kernel)
theorem kw_4_0 : (Jvm.Cond.methodLink "BassRealiserModel" (121 : Nat) ({ cls := "BassRealiserModel", name := "semitones", desc := "(I)I" } : Jvm.MethodName)) ∈ lw_good := lw_in_4 0 (by decide +kernel) (by decide +kernel)
theorem kw_4_1 : (Jvm.Cond.static ({ cls := "BassRealiserModel", name := "semitones", desc := "(I)I" } : Jvm.MethodName)) ∈ lw_good := lw_in_4 1 (by decide +kernel) (by decide +kernel)
theorem kw_4_2 : (Jvm.Cond.code ({ cls := "BassRealiserModel", name := "semitones", desc := "(I)I" } : Jvm.MethodName) prog_8_method_15_code (1 : Nat) (Option.some Jvm.ClassFile.FieldType.int)) ∈ lw_good := lw_in_4 2 (by decide +kernel) (by decide +kernel)
theorem kw_4_3 : (Jvm.Cond.methodLink "BassRealiserLaw" (60 : Nat) ({ cls := "BassRealiserModel", name := "worked", desc := "(III)I" } : Jvm.MethodName)) ∈ lw_good := lw_in_4 3 (by decide +kernel) (by decide +kernel)
theorem kw_4_4 : (Jvm.Cond.instanceMethod ({ cls := "BassRealiserModel", name := "worked", desc := "(III)I" } : Jvm.MethodName)) ∈ lw_good := lw_in_4 4 (by decide +kernel) (by decide +kernel)
theorem kw_4_5 : (Jvm.Cond.selects "BassRealiserModel" ({ cls := "BassRealiserModel", name := "worked", desc := "(III)I" } : Jvm.MethodName) ({ cls := "BassRealiserModel", name := "worked", desc := "(III)I" } : Jvm.MethodName)) ∈ lw_good := lw_in_4 5 (by decide +kernel) (by decide +kernel)
theorem kw_4_6 : (Jvm.Cond.code ({ cls := "BassRealiserModel", name := "worked", desc := "(III)I" } : Jvm.MethodName) prog_8_method_26_code (6 : Nat) (Option.some Jvm.ClassFile.FieldType.int)) ∈ lw_good := lw_in_4 6 (by decide +kernel) (by decide +kernel)
theorem kw_4_7 : (Jvm.Cond.methodLink "BassRealiserModel" (147 : Nat) ({ cls := "BassRealiserModel", name := "workedAs", desc := "(III)I" } : Jvm.MethodName)) ∈ lw_good := lw_in_4 7 (by decide +kernel) (by decide +kernel)
theorem kw_4_9 : (Jvm.Cond.instanceMethod ({ cls := "BassRealiserModel", name := "workedAs", desc := "(III)I" } : Jvm.MethodName)) ∈ lw_good := lw_in_4 9 (by decide +kernel) (by decide +kernel)
theorem kw_4_10 : (Jvm.Cond.code ({ cls := "BassRealiserModel", name := "workedAs", desc := "(III)I" } : Jvm.MethodName) prog_8_method_27_code (4 : Nat) (Option.some Jvm.ClassFile.FieldType.int)) ∈ lw_good := lw_in_4 10 (by decide +kernel) (by decide +kernel)
theorem kw_4_11 : (Jvm.Cond.methodLink "BassRealiserModel" (134 : Nat) ({ cls := "BassRealiserModel", name := "letterOf", desc := "(II)I" } : Jvm.MethodName)) ∈ lw_good := lw_in_4 11 (by decide +kernel) (by decide +kernel)
theorem kw_4_13 : (Jvm.Cond.instanceMethod ({ cls := "BassRealiserModel", name := "letterOf", desc := "(II)I" } : Jvm.MethodName)) ∈ lw_good := lw_in_4 13 (by decide +kernel) (by decide +kernel)
theorem kw_4_14 : (Jvm.Cond.code ({ cls := "BassRealiserModel", name := "letterOf", desc := "(II)I" } : Jvm.MethodName) prog_8_method_21_code (3 : Nat) (Option.some Jvm.ClassFile.FieldType.int)) ∈ lw_good := lw_in_4 14 (by decide +kernel) (by decide +kernel)
theorem kw_4_15 : (Jvm.Cond.methodLink "BassRealiserModel" (141 : Nat) ({ cls := "BassRealiserModel", name := "alterOf", desc := "(II)I" } : Jvm.MethodName)) ∈ lw_good := lw_in_4 15 (by decide +kernel) (by decide +kernel)
theorem kw_4_17 : (Jvm.Cond.instanceMethod ({ cls := "BassRealiserModel", name := "alterOf", desc := "(II)I" } : Jvm.MethodName)) ∈ lw_good := lw_in_4 17 (by decide +kernel) (by decide +kernel)
theorem kw_4_18 : (Jvm.Cond.code ({ cls := "BassRealiserModel", name := "alterOf", desc := "(II)I" } : Jvm.MethodName) prog_8_method_23_code (4 : Nat) (Option.some Jvm.ClassFile.FieldType.int)) ∈ lw_good := lw_in_4 18 (by decide +kernel) (by decide +kernel)
theorem kw_4_19 : (Jvm.Cond.methodLink "BassRealiserModel" (138 : Nat) ({ cls := "BassRealiserModel", name := "keyOf", desc := "(I)I" } : Jvm.MethodName)) ∈ lw_good := lw_in_4 19 (by decide +kernel) (by decide +kernel)
theorem kw_4_21 : (Jvm.Cond.instanceMethod ({ cls := "BassRealiserModel", name := "keyOf", desc := "(I)I" } : Jvm.MethodName)) ∈ lw_good := lw_in_4 21 (by decide +kernel) (by decide +kernel)
theorem kw_4_22 : (Jvm.Cond.code ({ cls := "BassRealiserModel", name := "keyOf", desc := "(I)I" } : Jvm.MethodName) prog_8_method_22_code (3 : Nat) (Option.some Jvm.ClassFile.FieldType.int)) ∈ lw_good := lw_in_4 22 (by decide +kernel) (by decide +kernel)
theorem kw_4_23 : (Jvm.Cond.methodLink "BassRealiserModel" (151 : Nat) ({ cls := "BassRealiserModel", name := "classOf", desc := "(II)I" } : Jvm.MethodName)) ∈ lw_good := lw_in_4 23 (by decide +kernel) (by decide +kernel)
theorem kw_4_25 : (Jvm.Cond.instanceMethod ({ cls := "BassRealiserModel", name := "classOf", desc := "(II)I" } : Jvm.MethodName)) ∈ lw_good := lw_in_4 25 (by decide +kernel) (by decide +kernel)
theorem kw_4_26 : (Jvm.Cond.code ({ cls := "BassRealiserModel", name := "classOf", desc := "(II)I" } : Jvm.MethodName) prog_8_method_24_code (3 : Nat) (Option.some Jvm.ClassFile.FieldType.int)) ∈ lw_good := lw_in_4 26 (by decide +kernel) (by decide +kernel)
theorem kw_4_27 : (Jvm.Cond.methodLink "BassRealiserModel" (144 : Nat) ({ cls := "BassRealiserModel", name := "mod", desc := "(II)I" } : Jvm.MethodName)) ∈ lw_good := lw_in_4 27 (by decide +kernel) (by decide +kernel)
theorem kw_4_28 : (Jvm.Cond.static ({ cls := "BassRealiserModel", name := "mod", desc := "(II)I" } : Jvm.MethodName)) ∈ lw_good := lw_in_4 28 (by decide +kernel) (by decide +kernel)
theorem kw_4_29 : (Jvm.Cond.code ({ cls := "BassRealiserModel", name := "mod", desc := "(II)I" } : Jvm.MethodName) prog_8_method_14_code (2 : Nat) (Option.some Jvm.ClassFile.FieldType.int)) ∈ lw_good := lw_in_4 29 (by decide +kernel) (by decide +kernel)
theorem kw_4_30 : (Jvm.Cond.methodLink "BassRealiserModel" (154 : Nat) ({ cls := "BassRealiserModel", name := "isSuspended", desc := "(II)Z" } : Jvm.MethodName)) ∈ lw_good := lw_in_4 30 (by decide +kernel) (by decide +kernel)
theorem kw_4_32 : (Jvm.Cond.instanceMethod ({ cls := "BassRealiserModel", name := "isSuspended", desc := "(II)Z" } : Jvm.MethodName)) ∈ lw_good := lw_in_4 32 (by decide +kernel) (by decide +kernel)
theorem kw_4_33 : (Jvm.Cond.code ({ cls := "BassRealiserModel", name := "isSuspended", desc := "(II)Z" } : Jvm.MethodName) prog_8_method_25_code (3 : Nat) (Option.some Jvm.ClassFile.FieldType.boolean)) ∈ lw_good := lw_in_4 33 (by decide +kernel) (by decide +kernel)
theorem kw_4_34 : (Jvm.Cond.methodLink "BassRealiserLaw" (64 : Nat) ({ cls := "BassRealiserModel", name := "voicings", desc := "(I)I" } : Jvm.MethodName)) ∈ lw_good := lw_in_4 34 (by decide +kernel) (by decide +kernel)
theorem kw_4_35 : (Jvm.Cond.instanceMethod ({ cls := "BassRealiserModel", name := "voicings", desc := "(I)I" } : Jvm.MethodName)) ∈ lw_good := lw_in_4 35 (by decide +kernel) (by decide +kernel)
theorem kw_4_36 : (Jvm.Cond.selects "BassRealiserModel" ({ cls := "BassRealiserModel", name := "voicings", desc := "(I)I" } : Jvm.MethodName) ({ cls := "BassRealiserModel", name := "voicings", desc := "(I)I" } : Jvm.MethodName)) ∈ lw_good := lw_in_4 36 (by decide +kernel) (by decide +kernel)
theorem kw_4_37 : (Jvm.Cond.code ({ cls := "BassRealiserModel", name := "voicings", desc := "(I)I" } : Jvm.MethodName) prog_8_method_40_code (2 : Nat) (Option.some Jvm.ClassFile.FieldType.int)) ∈ lw_good := lw_in_4 37 (by decide +kernel) (by decide +kernel)
theorem kw_4_38 : (Jvm.Cond.methodLink "BassRealiserModel" (199 : Nat) ({ cls := "BassRealiserModel", name := "lay", desc := "()V" } : Jvm.MethodName)) ∈ lw_good := lw_in_4 38 (by decide +kernel) (by decide +kernel)
theorem kw_4_40 : (Jvm.Cond.instanceMethod ({ cls := "BassRealiserModel", name := "lay", desc := "()V" } : Jvm.MethodName)) ∈ lw_good := lw_in_4 40 (by decide +kernel) (by decide +kernel)
theorem kw_4_41 : (Jvm.Cond.code ({ cls := "BassRealiserModel", name := "lay", desc := "()V" } : Jvm.MethodName) prog_8_method_38_code (7 : Nat) (Option.none : Option Jvm.ClassFile.FieldType)) ∈ lw_good := lw_in_4 41 (by decide +kernel) (by decide +kernel)
theorem kw_4_42 : (Jvm.Cond.methodLink "BassRealiserModel" (180 : Nat) ({ cls := "BassRealiserModel", name := "tryAll", desc := "(I)V" } : Jvm.MethodName)) ∈ lw_good := lw_in_4 42 (by decide +kernel) (by decide +kernel)
theorem kw_4_44 : (Jvm.Cond.instanceMethod ({ cls := "BassRealiserModel", name := "tryAll", desc := "(I)V" } : Jvm.MethodName)) ∈ lw_good := lw_in_4 44 (by decide +kernel) (by decide +kernel)
theorem kw_4_45 : (Jvm.Cond.code ({ cls := "BassRealiserModel", name := "tryAll", desc := "(I)V" } : Jvm.MethodName) prog_8_method_35_code (5 : Nat) (Option.none : Option Jvm.ClassFile.FieldType)) ∈ lw_good := lw_in_4 45 (by decide +kernel) (by decide +kernel)
theorem kw_4_46 : (Jvm.Cond.methodLink "BassRealiserModel" (170 : Nat) ({ cls := "BassRealiserModel", name := "look", desc := "(I)V" } : Jvm.MethodName)) ∈ lw_good := lw_in_4 46 (by decide +kernel) (by decide +kernel)
theorem kw_4_48 : (Jvm.Cond.instanceMethod ({ cls := "BassRealiserModel", name := "look", desc := "(I)V" } : Jvm.MethodName)) ∈ lw_good := lw_in_4 48 (by decide +kernel) (by decide +kernel)
theorem kw_4_49 : (Jvm.Cond.code ({ cls := "BassRealiserModel", name := "look", desc := "(I)V" } : Jvm.MethodName) prog_8_method_28_code (4 : Nat) (Option.none : Option Jvm.ClassFile.FieldType)) ∈ lw_good := lw_in_4 49 (by decide +kernel) (by decide +kernel)
theorem kw_4_50 : (Jvm.Cond.methodLink "BassRealiserModel" (174 : Nat) ({ cls := "BassRealiserModel", name := "aloneRule", desc := "(I)I" } : Jvm.MethodName)) ∈ lw_good := lw_in_4 50 (by decide +kernel) (by decide +kernel)
theorem kw_4_52 : (Jvm.Cond.instanceMethod ({ cls := "BassRealiserModel", name := "aloneRule", desc := "(I)I" } : Jvm.MethodName)) ∈ lw_good := lw_in_4 52 (by decide +kernel) (by decide +kernel)
theorem kw_4_53 : (Jvm.Cond.code ({ cls := "BassRealiserModel", name := "aloneRule", desc := "(I)I" } : Jvm.MethodName) prog_8_method_31_code (5 : Nat) (Option.some Jvm.ClassFile.FieldType.int)) ∈ lw_good := lw_in_4 53 (by decide +kernel) (by decide +kernel)
theorem kw_4_54 : (Jvm.Cond.methodLink "BassRealiserModel" (157 : Nat) ({ cls := "BassRealiserModel", name := "has", desc := "(II)Z" } : Jvm.MethodName)) ∈ lw_good := lw_in_4 54 (by decide +kernel) (by decide +kernel)
theorem kw_4_55 : (Jvm.Cond.static ({ cls := "BassRealiserModel", name := "has", desc := "(II)Z" } : Jvm.MethodName)) ∈ lw_good := lw_in_4 55 (by decide +kernel) (by decide +kernel)
theorem kw_4_56 : (Jvm.Cond.code ({ cls := "BassRealiserModel", name := "has", desc := "(II)Z" } : Jvm.MethodName) prog_8_method_29_code (2 : Nat) (Option.some Jvm.ClassFile.FieldType.boolean)) ∈ lw_good := lw_in_4 56 (by decide +kernel) (by decide +kernel)
theorem kw_4_57 : (Jvm.Cond.methodLink "BassRealiserModel" (160 : Nat) ({ cls := "BassRealiserModel", name := "classes", desc := "()I" } : Jvm.MethodName)) ∈ lw_good := lw_in_4 57 (by decide +kernel) (by decide +kernel)
theorem kw_4_59 : (Jvm.Cond.instanceMethod ({ cls := "BassRealiserModel", name := "classes", desc := "()I" } : Jvm.MethodName)) ∈ lw_good := lw_in_4 59 (by decide +kernel) (by decide +kernel)
theorem kw_4_60 : (Jvm.Cond.code ({ cls := "BassRealiserModel", name := "classes", desc := "()I" } : Jvm.MethodName) prog_8_method_30_code (3 : Nat) (Option.some Jvm.ClassFile.FieldType.int)) ∈ lw_good := lw_in_4 60 (by decide +kernel) (by decide +kernel)
theorem kw_4_61 : (Jvm.Cond.methodLink "BassRealiserModel" (183 : Nat) ({ cls := "BassRealiserModel", name := "take", desc := "(II[I)V" } : Jvm.MethodName)) ∈ lw_good := lw_in_4 61 (by decide +kernel) (by decide +kernel)
theorem kw_4_63 : (Jvm.Cond.instanceMethod ({ cls := "BassRealiserModel", name := "take", desc := "(II[I)V" } : Jvm.MethodName)) ∈ lw_good := lw_in_4 63 (by decide +kernel) (by decide +kernel)
theorem kw_4_64 : (Jvm.Cond.code ({ cls := "BassRealiserModel", name := "take", desc := "(II[I)V" } : Jvm.MethodName) prog_8_method_34_code (5 : Nat) (Option.none : Option Jvm.ClassFile.FieldType)) ∈ lw_good := lw_in_4 64 (by decide +kernel) (by decide +kernel)
theorem kw_4_65 : (Jvm.Cond.methodLink "BassRealiserModel" (187 : Nat) ({ cls := "BassRealiserModel", name := "pairRule", desc := "(I)I" } : Jvm.MethodName)) ∈ lw_good := lw_in_4 65 (by decide +kernel) (by decide +kernel)
theorem kw_4_67 : (Jvm.Cond.instanceMethod ({ cls := "BassRealiserModel", name := "pairRule", desc := "(I)I" } : Jvm.MethodName)) ∈ lw_good := lw_in_4 67 (by decide +kernel) (by decide +kernel)
theorem kw_4_68 : (Jvm.Cond.code ({ cls := "BassRealiserModel", name := "pairRule", desc := "(I)I" } : Jvm.MethodName) prog_8_method_33_code (9 : Nat) (Option.some Jvm.ClassFile.FieldType.int)) ∈ lw_good := lw_in_4 68 (by decide +kernel) (by decide +kernel)
theorem kw_4_69 : (Jvm.Cond.methodLink "BassRealiserModel" (164 : Nat) ({ cls := "BassRealiserModel", name := "far", desc := "(II)I" } : Jvm.MethodName)) ∈ lw_good := lw_in_4 69 (by decide +kernel) (by decide +kernel)
theorem kw_4_70 : (Jvm.Cond.static ({ cls := "BassRealiserModel", name := "far", desc := "(II)I" } : Jvm.MethodName)) ∈ lw_good := lw_in_4 70 (by decide +kernel) (by decide +kernel)
theorem kw_4_71 : (Jvm.Cond.code ({ cls := "BassRealiserModel", name := "far", desc := "(II)I" } : Jvm.MethodName) prog_8_method_36_code (2 : Nat) (Option.some Jvm.ClassFile.FieldType.int)) ∈ lw_good := lw_in_4 71 (by decide +kernel) (by decide +kernel)
theorem kw_4_72 : (Jvm.Cond.methodLink "BassRealiserModel" (167 : Nat) ({ cls := "BassRealiserModel", name := "isParallel", desc := "(II)Z" } : Jvm.MethodName)) ∈ lw_good := lw_in_4 72 (by decide +kernel) (by decide +kernel)
theorem kw_4_74 : (Jvm.Cond.instanceMethod ({ cls := "BassRealiserModel", name := "isParallel", desc := "(II)Z" } : Jvm.MethodName)) ∈ lw_good := lw_in_4 74 (by decide +kernel) (by decide +kernel)
theorem kw_4_75 : (Jvm.Cond.code ({ cls := "BassRealiserModel", name := "isParallel", desc := "(II)Z" } : Jvm.MethodName) prog_8_method_32_code (5 : Nat) (Option.some Jvm.ClassFile.FieldType.boolean)) ∈ lw_good := lw_in_4 75 (by decide +kernel) (by decide +kernel)
theorem kw_4_76 : (Jvm.Cond.constantLong "BassRealiserModel" (190 : Nat) (1000000000 : Int64)) ∈ lw_good := lw_in_4 76 (by decide +kernel) (by decide +kernel)
theorem kw_4_77 : (Jvm.Cond.methodLink "BassRealiserModel" (192 : Nat) ({ cls := "BassRealiserModel", name := "layBack", desc := "()V" } : Jvm.MethodName)) ∈ lw_good := lw_in_4 77 (by decide +kernel) (by decide +kernel)
theorem kw_4_79 : (Jvm.Cond.instanceMethod ({ cls := "BassRealiserModel", name := "layBack", desc := "()V" } : Jvm.MethodName)) ∈ lw_good := lw_in_4 79 (by decide +kernel) (by decide +kernel)
theorem kw_4_80 : (Jvm.Cond.code ({ cls := "BassRealiserModel", name := "layBack", desc := "()V" } : Jvm.MethodName) prog_8_method_39_code (5 : Nat) (Option.none : Option Jvm.ClassFile.FieldType)) ∈ lw_good := lw_in_4 80 (by decide +kernel) (by decide +kernel)
theorem kw_4_81 : (Jvm.Cond.constant "BassRealiserModel" (195 : Nat) (100000000 : Int32)) ∈ lw_good := lw_in_4 81 (by decide +kernel) (by decide +kernel)
theorem kw_4_82 : (Jvm.Cond.methodLink "BassRealiserModel" (196 : Nat) ({ cls := "BassRealiserModel", name := "cost", desc := "(I)I" } : Jvm.MethodName)) ∈ lw_good := lw_in_4 82 (by decide +kernel) (by decide +kernel)
theorem kw_4_84 : (Jvm.Cond.instanceMethod ({ cls := "BassRealiserModel", name := "cost", desc := "(I)I" } : Jvm.MethodName)) ∈ lw_good := lw_in_4 84 (by decide +kernel) (by decide +kernel)
theorem kw_4_85 : (Jvm.Cond.code ({ cls := "BassRealiserModel", name := "cost", desc := "(I)I" } : Jvm.MethodName) prog_8_method_37_code (4 : Nat) (Option.some Jvm.ClassFile.FieldType.int)) ∈ lw_good := lw_in_4 85 (by decide +kernel) (by decide +kernel)
theorem kw_4_86 : (Jvm.Cond.methodLink "BassRealiserLaw" (68 : Nat) ({ cls := "BassRealiserModel", name := "voicing", desc := "(III)I" } : Jvm.MethodName)) ∈ lw_good := lw_in_4 86 (by decide +kernel) (by decide +kernel)
theorem kw_4_87 : (Jvm.Cond.instanceMethod ({ cls := "BassRealiserModel", name := "voicing", desc := "(III)I" } : Jvm.MethodName)) ∈ lw_good := lw_in_4 87 (by decide +kernel) (by decide +kernel)
theorem kw_4_88 : (Jvm.Cond.selects "BassRealiserModel" ({ cls := "BassRealiserModel", name := "voicing", desc := "(III)I" } : Jvm.MethodName) ({ cls := "BassRealiserModel", name := "voicing", desc := "(III)I" } : Jvm.MethodName)) ∈ lw_good := lw_in_4 88 (by decide +kernel) (by decide +kernel)
theorem kw_4_89 : (Jvm.Cond.code ({ cls := "BassRealiserModel", name := "voicing", desc := "(III)I" } : Jvm.MethodName) prog_8_method_41_code (4 : Nat) (Option.some Jvm.ClassFile.FieldType.int)) ∈ lw_good := lw_in_4 89 (by decide +kernel) (by decide +kernel)
theorem kw_4_90 : (Jvm.Cond.methodLink "BassRealiserLaw" (72 : Nat) ({ cls := "BassRealiserModel", name := "solve", desc := "()I" } : Jvm.MethodName)) ∈ lw_good := lw_in_4 90 (by decide +kernel) (by decide +kernel)
theorem kw_4_91 : (Jvm.Cond.instanceMethod ({ cls := "BassRealiserModel", name := "solve", desc := "()I" } : Jvm.MethodName)) ∈ lw_good := lw_in_4 91 (by decide +kernel) (by decide +kernel)
theorem kw_4_92 : (Jvm.Cond.selects "BassRealiserModel" ({ cls := "BassRealiserModel", name := "solve", desc := "()I" } : Jvm.MethodName) ({ cls := "BassRealiserModel", name := "solve", desc := "()I" } : Jvm.MethodName)) ∈ lw_good := lw_in_4 92 (by decide +kernel) (by decide +kernel)
theorem kw_4_93 : (Jvm.Cond.code ({ cls := "BassRealiserModel", name := "solve", desc := "()I" } : Jvm.MethodName) prog_8_method_43_code (1 : Nat) (Option.some Jvm.ClassFile.FieldType.int)) ∈ lw_good := lw_in_4 93 (by decide +kernel) (by decide +kernel)
theorem kw_4_94 : (Jvm.Cond.methodLink "BassRealiserModel" (202 : Nat) ({ cls := "BassRealiserModel", name := "best", desc := "(I[I)I" } : Jvm.MethodName)) ∈ lw_good := lw_in_4 94 (by decide +kernel) (by decide +kernel)
theorem kw_4_96 : (Jvm.Cond.instanceMethod ({ cls := "BassRealiserModel", name := "best", desc := "(I[I)I" } : Jvm.MethodName)) ∈ lw_good := lw_in_4 96 (by decide +kernel) (by decide +kernel)
theorem kw_4_97 : (Jvm.Cond.code ({ cls := "BassRealiserModel", name := "best", desc := "(I[I)I" } : Jvm.MethodName) prog_8_method_42_code (7 : Nat) (Option.some Jvm.ClassFile.FieldType.int)) ∈ lw_good := lw_in_4 97 (by decide +kernel) (by decide +kernel)
theorem kw_4_98 : (Jvm.Cond.methodLink "BassRealiserLaw" (76 : Nat) ({ cls := "BassRealiserModel", name := "note", desc := "(II)I" } : Jvm.MethodName)) ∈ lw_good := lw_in_4 98 (by decide +kernel) (by decide +kernel)
theorem kw_4_99 : (Jvm.Cond.instanceMethod ({ cls := "BassRealiserModel", name := "note", desc := "(II)I" } : Jvm.MethodName)) ∈ lw_good := lw_in_4 99 (by decide +kernel) (by decide +kernel)
theorem kw_4_100 : (Jvm.Cond.selects "BassRealiserModel" ({ cls := "BassRealiserModel", name := "note", desc := "(II)I" } : Jvm.MethodName) ({ cls := "BassRealiserModel", name := "note", desc := "(II)I" } : Jvm.MethodName)) ∈ lw_good := lw_in_4 100 (by decide +kernel) (by decide +kernel)
theorem kw_4_101 : (Jvm.Cond.code ({ cls := "BassRealiserModel", name := "note", desc := "(II)I" } : Jvm.MethodName) prog_8_method_44_code (6 : Nat) (Option.some Jvm.ClassFile.FieldType.int)) ∈ lw_good := lw_in_4 101 (by decide +kernel) (by decide +kernel)
theorem kw_4_102 : (Jvm.Cond.methodLink "BassRealiserLaw" (80 : Nat) ({ cls := "BassRealiserModel", name := "many", desc := "()I" } : Jvm.MethodName)) ∈ lw_good := lw_in_4 102 (by decide +kernel) (by decide +kernel)
theorem kw_4_103 : (Jvm.Cond.instanceMethod ({ cls := "BassRealiserModel", name := "many", desc := "()I" } : Jvm.MethodName)) ∈ lw_good := lw_in_4 103 (by decide +kernel) (by decide +kernel)
theorem kw_4_104 : (Jvm.Cond.selects "BassRealiserModel" ({ cls := "BassRealiserModel", name := "many", desc := "()I" } : Jvm.MethodName) ({ cls := "BassRealiserModel", name := "many", desc := "()I" } : Jvm.MethodName)) ∈ lw_good := lw_in_4 104 (by decide +kernel) (by decide +kernel)
theorem kw_4_105 : (Jvm.Cond.code ({ cls := "BassRealiserModel", name := "many", desc := "()I" } : Jvm.MethodName) prog_8_method_45_code (4 : Nat) (Option.some Jvm.ClassFile.FieldType.int)) ∈ lw_good := lw_in_4 105 (by decide +kernel) (by decide +kernel)
theorem kw_4_106 : (Jvm.Cond.constant "BassRealiserModel" (206 : Nat) (1000000000 : Int32)) ∈ lw_good := lw_in_4 106 (by decide +kernel) (by decide +kernel)
theorem kw_4_107 : (Jvm.Cond.methodLink "BassRealiserLaw" (85 : Nat) ({ cls := "BassRealiserModel", name := "sing", desc := "(IIII)I" } : Jvm.MethodName)) ∈ lw_good := lw_in_4 107 (by decide +kernel) (by decide +kernel)
theorem kw_4_108 : (Jvm.Cond.instanceMethod ({ cls := "BassRealiserModel", name := "sing", desc := "(IIII)I" } : Jvm.MethodName)) ∈ lw_good := lw_in_4 108 (by decide +kernel) (by decide +kernel)
theorem kw_4_109 : (Jvm.Cond.selects "BassRealiserModel" ({ cls := "BassRealiserModel", name := "sing", desc := "(IIII)I" } : Jvm.MethodName) ({ cls := "BassRealiserModel", name := "sing", desc := "(IIII)I" } : Jvm.MethodName)) ∈ lw_good := lw_in_4 109 (by decide +kernel) (by decide +kernel)
theorem kw_4_110 : (Jvm.Cond.code ({ cls := "BassRealiserModel", name := "sing", desc := "(IIII)I" } : Jvm.MethodName) prog_8_method_46_code (5 : Nat) (Option.some Jvm.ClassFile.FieldType.int)) ∈ lw_good := lw_in_4 110 (by decide +kernel) (by decide +kernel)
theorem kw_4_111 : (Jvm.Cond.methodLink "BassRealiserLaw" (89 : Nat) ({ cls := "BassRealiserModel", name := "fault", desc := "(I)I" } : Jvm.MethodName)) ∈ lw_good := lw_in_4 111 (by decide +kernel) (by decide +kernel)
theorem kw_4_112 : (Jvm.Cond.instanceMethod ({ cls := "BassRealiserModel", name := "fault", desc := "(I)I" } : Jvm.MethodName)) ∈ lw_good := lw_in_4 112 (by decide +kernel) (by decide +kernel)
theorem kw_4_113 : (Jvm.Cond.selects "BassRealiserModel" ({ cls := "BassRealiserModel", name := "fault", desc := "(I)I" } : Jvm.MethodName) ({ cls := "BassRealiserModel", name := "fault", desc := "(I)I" } : Jvm.MethodName)) ∈ lw_good := lw_in_4 113 (by decide +kernel) (by decide +kernel)
theorem kw_4_114 : (Jvm.Cond.code ({ cls := "BassRealiserModel", name := "fault", desc := "(I)I" } : Jvm.MethodName) prog_8_method_49_code (2 : Nat) (Option.some Jvm.ClassFile.FieldType.int)) ∈ lw_good := lw_in_4 114 (by decide +kernel) (by decide +kernel)
theorem kw_4_115 : (Jvm.Cond.methodLink "BassRealiserModel" (211 : Nat) ({ cls := "BassRealiserModel", name := "faultOf", desc := "(I)I" } : Jvm.MethodName)) ∈ lw_good := lw_in_4 115 (by decide +kernel) (by decide +kernel)
theorem kw_4_117 : (Jvm.Cond.instanceMethod ({ cls := "BassRealiserModel", name := "faultOf", desc := "(I)I" } : Jvm.MethodName)) ∈ lw_good := lw_in_4 117 (by decide +kernel) (by decide +kernel)
theorem kw_4_118 : (Jvm.Cond.code ({ cls := "BassRealiserModel", name := "faultOf", desc := "(I)I" } : Jvm.MethodName) prog_8_method_48_code (3 : Nat) (Option.some Jvm.ClassFile.FieldType.int)) ∈ lw_good := lw_in_4 118 (by decide +kernel) (by decide +kernel)
theorem kw_4_119 : (Jvm.Cond.methodLink "BassRealiserModel" (207 : Nat) ({ cls := "BassRealiserModel", name := "takeSung", desc := "(I[I)V" } : Jvm.MethodName)) ∈ lw_good := lw_in_4 119 (by decide +kernel) (by decide +kernel)
theorem kw_4_121 : (Jvm.Cond.instanceMethod ({ cls := "BassRealiserModel", name := "takeSung", desc := "(I[I)V" } : Jvm.MethodName)) ∈ lw_good := lw_in_4 121 (by decide +kernel) (by decide +kernel)
theorem kw_4_122 : (Jvm.Cond.code ({ cls := "BassRealiserModel", name := "takeSung", desc := "(I[I)V" } : Jvm.MethodName) prog_8_method_47_code (4 : Nat) (Option.none : Option Jvm.ClassFile.FieldType)) ∈ lw_good := lw_in_4 122 (by decide +kernel) (by decide +kernel)
theorem kw_4_123 : (Jvm.Cond.methodLink "BassRealiserLaw" (93 : Nat) ({ cls := "BassRealiserModel", name := "sung", desc := "()I" } : Jvm.MethodName)) ∈ lw_good := lw_in_4 123 (by decide +kernel) (by decide +kernel)
theorem kw_4_124 : (Jvm.Cond.instanceMethod ({ cls := "BassRealiserModel", name := "sung", desc := "()I" } : Jvm.MethodName)) ∈ lw_good := lw_in_4 124 (by decide +kernel) (by decide +kernel)
theorem kw_4_125 : (Jvm.Cond.selects "BassRealiserModel" ({ cls := "BassRealiserModel", name := "sung", desc := "()I" } : Jvm.MethodName) ({ cls := "BassRealiserModel", name := "sung", desc := "()I" } : Jvm.MethodName)) ∈ lw_good := lw_in_4 125 (by decide +kernel) (by decide +kernel)
theorem kw_4_126 : (Jvm.Cond.code ({ cls := "BassRealiserModel", name := "sung", desc := "()I" } : Jvm.MethodName) prog_8_method_50_code (3 : Nat) (Option.some Jvm.ClassFile.FieldType.int)) ∈ lw_good := lw_in_4 126 (by decide +kernel) (by decide +kernel)
theorem kw_4_127 : (Jvm.Cond.methodLink "BassRealiserLaw" (97 : Nat) ({ cls := "BassRealiserModel", name := "count", desc := "(I)I" } : Jvm.MethodName)) ∈ lw_good := lw_in_4 127 (by decide +kernel) (by decide +kernel)
theorem kw_4_128 : (Jvm.Cond.instanceMethod ({ cls := "BassRealiserModel", name := "count", desc := "(I)I" } : Jvm.MethodName)) ∈ lw_good := lw_in_4 128 (by decide +kernel) (by decide +kernel)
theorem kw_4_129 : (Jvm.Cond.selects "BassRealiserModel" ({ cls := "BassRealiserModel", name := "count", desc := "(I)I" } : Jvm.MethodName) ({ cls := "BassRealiserModel", name := "count", desc := "(I)I" } : Jvm.MethodName)) ∈ lw_good := lw_in_4 129 (by decide +kernel) (by decide +kernel)
theorem kw_4_130 : (Jvm.Cond.code ({ cls := "BassRealiserModel", name := "count", desc := "(I)I" } : Jvm.MethodName) prog_8_method_51_code (5 : Nat) (Option.some Jvm.ClassFile.FieldType.int)) ∈ lw_good := lw_in_4 130 (by decide +kernel) (by decide +kernel)
theorem kw_4_131 : (Jvm.Cond.constantLong "BassRealiserModel" (214 : Nat) (14 : Int64)) ∈ lw_good := lw_in_4 131 (by decide +kernel) (by decide +kernel)
theorem ks_0 : Cond.selects "BassRealiser" ⟨"BassRealiser", "hasChord", "(I)Z"⟩ ⟨"BassRealiser", "hasChord", "(I)Z"⟩ ∈ lw_good := lw_inS (List.mem_of_getElem? (i := 0) (by decide +kernel)) (by decide +kernel)
theorem ks_1 : Cond.selects "BassRealiser$Column" ⟨"BassRealiser$Column", "listBelow", "(LBassRealiser$Chord;LBassRealiser$Rules;II)V"⟩ ⟨"BassRealiser$Column", "listBelow", "(LBassRealiser$Chord;LBassRealiser$Rules;II)V"⟩ ∈ lw_good := lw_inS (List.mem_of_getElem? (i := 1) (by decide +kernel)) (by decide +kernel)
theorem ks_2 : Cond.selects "BassRealiser$Rules" ⟨"BassRealiser$Rules", "outside", "(II)Z"⟩ ⟨"BassRealiser$Rules", "outside", "(II)Z"⟩ ∈ lw_good := lw_inS (List.mem_of_getElem? (i := 2) (by decide +kernel)) (by decide +kernel)
theorem ks_3 : Cond.selects "BassRealiser$Rules" ⟨"BassRealiser$Rules", "leadingOnes", "(IIII)I"⟩ ⟨"BassRealiser$Rules", "leadingOnes", "(IIII)I"⟩ ∈ lw_good := lw_inS (List.mem_of_getElem? (i := 3) (by decide +kernel)) (by decide +kernel)
theorem ks_4 : Cond.selects "BassRealiser$Search" ⟨"BassRealiser$Search", "reach", "(ILBassRealiser$Column;)V"⟩ ⟨"BassRealiser$Search", "reach", "(ILBassRealiser$Column;)V"⟩ ∈ lw_good := lw_inS (List.mem_of_getElem? (i := 4) (by decide +kernel)) (by decide +kernel)
theorem ks_5 : Cond.selects "BassRealiser$Search" ⟨"BassRealiser$Search", "reachable", "(II)Z"⟩ ⟨"BassRealiser$Search", "reachable", "(II)Z"⟩ ∈ lw_good := lw_inS (List.mem_of_getElem? (i := 5) (by decide +kernel)) (by decide +kernel)
theorem ks_6 : Cond.selects "BassRealiser$Move" ⟨"BassRealiser$Move", "leaps", "(I)Z"⟩ ⟨"BassRealiser$Move", "leaps", "(I)Z"⟩ ∈ lw_good := lw_inS (List.mem_of_getElem? (i := 6) (by decide +kernel)) (by decide +kernel)
theorem ks_7 : Cond.selects "BassRealiser$Move" ⟨"BassRealiser$Move", "hasParallels", "()Z"⟩ ⟨"BassRealiser$Move", "hasParallels", "()Z"⟩ ∈ lw_good := lw_inS (List.mem_of_getElem? (i := 7) (by decide +kernel)) (by decide +kernel)
theorem ks_8 : Cond.selects "BassRealiser$Move" ⟨"BassRealiser$Move", "parallel", "(II)Z"⟩ ⟨"BassRealiser$Move", "parallel", "(II)Z"⟩ ∈ lw_good := lw_inS (List.mem_of_getElem? (i := 8) (by decide +kernel)) (by decide +kernel)
theorem ks_9 : Cond.selects "BassRealiser$Move" ⟨"BassRealiser$Move", "unprepared", "()Z"⟩ ⟨"BassRealiser$Move", "unprepared", "()Z"⟩ ∈ lw_good := lw_inS (List.mem_of_getElem? (i := 9) (by decide +kernel)) (by decide +kernel)
theorem ks_10 : Cond.selects "BassRealiser$Move" ⟨"BassRealiser$Move", "unresolved", "()Z"⟩ ⟨"BassRealiser$Move", "unresolved", "()Z"⟩ ∈ lw_good := lw_inS (List.mem_of_getElem? (i := 10) (by decide +kernel)) (by decide +kernel)
theorem ks_11 : Cond.selects "BassRealiser$Search" ⟨"BassRealiser$Search", "weigh", "(IZ)V"⟩ ⟨"BassRealiser$Search", "weigh", "(IZ)V"⟩ ∈ lw_good := lw_inS (List.mem_of_getElem? (i := 11) (by decide +kernel)) (by decide +kernel)
theorem ks_12 : Cond.selects "BassRealiser$Search" ⟨"BassRealiser$Search", "weighOne", "(II)V"⟩ ⟨"BassRealiser$Search", "weighOne", "(II)V"⟩ ∈ lw_good := lw_inS (List.mem_of_getElem? (i := 12) (by decide +kernel)) (by decide +kernel)
theorem ks_13 : Cond.selects "BassRealiser$Search" ⟨"BassRealiser$Search", "pickFirst", "()V"⟩ ⟨"BassRealiser$Search", "pickFirst", "()V"⟩ ∈ lw_good := lw_inS (List.mem_of_getElem? (i := 13) (by decide +kernel)) (by decide +kernel)
theorem ks_14 : Cond.selects "BassRealiser$Search" ⟨"BassRealiser$Search", "pickNext", "(I)V"⟩ ⟨"BassRealiser$Search", "pickNext", "(I)V"⟩ ∈ lw_good := lw_inS (List.mem_of_getElem? (i := 14) (by decide +kernel)) (by decide +kernel)
theorem ks_15 : Cond.selects "BassRealiser" ⟨"BassRealiser", "faultAt", "(I)I"⟩ ⟨"BassRealiser", "faultAt", "(I)I"⟩ ∈ lw_good := lw_inS (List.mem_of_getElem? (i := 15) (by decide +kernel)) (by decide +kernel)
theorem ks_16 : Cond.selects "BassRealiser" ⟨"BassRealiser", "moveTo", "(I)LBassRealiser$Move;"⟩ ⟨"BassRealiser", "moveTo", "(I)LBassRealiser$Move;"⟩ ∈ lw_good := lw_inS (List.mem_of_getElem? (i := 16) (by decide +kernel)) (by decide +kernel)
theorem ks_17 : Cond.selects "BassRealiser" ⟨"BassRealiser", "figuresTold", "()I"⟩ ⟨"BassRealiser", "figuresTold", "()I"⟩ ∈ lw_good := lw_inS (List.mem_of_getElem? (i := 17) (by decide +kernel)) (by decide +kernel)
theorem ks_18 : Cond.selects "BassRealiser" ⟨"BassRealiser", "chordsSung", "()I"⟩ ⟨"BassRealiser", "chordsSung", "()I"⟩ ∈ lw_good := lw_inS (List.mem_of_getElem? (i := 18) (by decide +kernel)) (by decide +kernel)
theorem ks_19 : Cond.selects "BassRealiser" ⟨"BassRealiser", "pitchesGiven", "()I"⟩ ⟨"BassRealiser", "pitchesGiven", "()I"⟩ ∈ lw_good := lw_inS (List.mem_of_getElem? (i := 19) (by decide +kernel)) (by decide +kernel)
theorem ks_20 : Cond.selects "BassRealiserModel" ⟨"BassRealiserModel", "noChord", "(I)Z"⟩ ⟨"BassRealiserModel", "noChord", "(I)Z"⟩ ∈ lw_good := lw_inS (List.mem_of_getElem? (i := 20) (by decide +kernel)) (by decide +kernel)
theorem ks_21 : Cond.selects "BassRealiserModel" ⟨"BassRealiserModel", "many", "(I)I"⟩ ⟨"BassRealiserModel", "many", "(I)I"⟩ ∈ lw_good := lw_inS (List.mem_of_getElem? (i := 21) (by decide +kernel)) (by decide +kernel)
theorem ks_22 : Cond.selects "BassRealiserModel" ⟨"BassRealiserModel", "isWorked", "(II)Z"⟩ ⟨"BassRealiserModel", "isWorked", "(II)Z"⟩ ∈ lw_good := lw_inS (List.mem_of_getElem? (i := 22) (by decide +kernel)) (by decide +kernel)
theorem ks_23 : Cond.selects "BassRealiserModel" ⟨"BassRealiserModel", "isTold", "(II)Z"⟩ ⟨"BassRealiserModel", "isTold", "(II)Z"⟩ ∈ lw_good := lw_inS (List.mem_of_getElem? (i := 23) (by decide +kernel)) (by decide +kernel)
theorem ks_24 : Cond.selects "BassRealiserModel" ⟨"BassRealiserModel", "bassOf", "(I)I"⟩ ⟨"BassRealiserModel", "bassOf", "(I)I"⟩ ∈ lw_good := lw_inS (List.mem_of_getElem? (i := 24) (by decide +kernel)) (by decide +kernel)
theorem ks_25 : Cond.selects "BassRealiserModel" ⟨"BassRealiserModel", "workedAs", "(III)I"⟩ ⟨"BassRealiserModel", "workedAs", "(III)I"⟩ ∈ lw_good := lw_inS (List.mem_of_getElem? (i := 25) (by decide +kernel)) (by decide +kernel)
theorem ks_26 : Cond.selects "BassRealiserModel" ⟨"BassRealiserModel", "letterOf", "(II)I"⟩ ⟨"BassRealiserModel", "letterOf", "(II)I"⟩ ∈ lw_good := lw_inS (List.mem_of_getElem? (i := 26) (by decide +kernel)) (by decide +kernel)
theorem ks_27 : Cond.selects "BassRealiserModel" ⟨"BassRealiserModel", "alterOf", "(II)I"⟩ ⟨"BassRealiserModel", "alterOf", "(II)I"⟩ ∈ lw_good := lw_inS (List.mem_of_getElem? (i := 27) (by decide +kernel)) (by decide +kernel)
theorem ks_28 : Cond.selects "BassRealiserModel" ⟨"BassRealiserModel", "keyOf", "(I)I"⟩ ⟨"BassRealiserModel", "keyOf", "(I)I"⟩ ∈ lw_good := lw_inS (List.mem_of_getElem? (i := 28) (by decide +kernel)) (by decide +kernel)
theorem ks_29 : Cond.selects "BassRealiserModel" ⟨"BassRealiserModel", "classOf", "(II)I"⟩ ⟨"BassRealiserModel", "classOf", "(II)I"⟩ ∈ lw_good := lw_inS (List.mem_of_getElem? (i := 29) (by decide +kernel)) (by decide +kernel)
theorem ks_30 : Cond.selects "BassRealiserModel" ⟨"BassRealiserModel", "isSuspended", "(II)Z"⟩ ⟨"BassRealiserModel", "isSuspended", "(II)Z"⟩ ∈ lw_good := lw_inS (List.mem_of_getElem? (i := 30) (by decide +kernel)) (by decide +kernel)
theorem ks_31 : Cond.selects "BassRealiserModel" ⟨"BassRealiserModel", "lay", "()V"⟩ ⟨"BassRealiserModel", "lay", "()V"⟩ ∈ lw_good := lw_inS (List.mem_of_getElem? (i := 31) (by decide +kernel)) (by decide +kernel)
theorem ks_32 : Cond.selects "BassRealiserModel" ⟨"BassRealiserModel", "tryAll", "(I)V"⟩ ⟨"BassRealiserModel", "tryAll", "(I)V"⟩ ∈ lw_good := lw_inS (List.mem_of_getElem? (i := 32) (by decide +kernel)) (by decide +kernel)
theorem ks_33 : Cond.selects "BassRealiserModel" ⟨"BassRealiserModel", "look", "(I)V"⟩ ⟨"BassRealiserModel", "look", "(I)V"⟩ ∈ lw_good := lw_inS (List.mem_of_getElem? (i := 33) (by decide +kernel)) (by decide +kernel)
theorem ks_34 : Cond.selects "BassRealiserModel" ⟨"BassRealiserModel", "aloneRule", "(I)I"⟩ ⟨"BassRealiserModel", "aloneRule", "(I)I"⟩ ∈ lw_good := lw_inS (List.mem_of_getElem? (i := 34) (by decide +kernel)) (by decide +kernel)
theorem ks_35 : Cond.selects "BassRealiserModel" ⟨"BassRealiserModel", "classes", "()I"⟩ ⟨"BassRealiserModel", "classes", "()I"⟩ ∈ lw_good := lw_inS (List.mem_of_getElem? (i := 35) (by decide +kernel)) (by decide +kernel)
theorem ks_36 : Cond.selects "BassRealiserModel" ⟨"BassRealiserModel", "take", "(II[I)V"⟩ ⟨"BassRealiserModel", "take", "(II[I)V"⟩ ∈ lw_good := lw_inS (List.mem_of_getElem? (i := 36) (by decide +kernel)) (by decide +kernel)
theorem ks_37 : Cond.selects "BassRealiserModel" ⟨"BassRealiserModel", "pairRule", "(I)I"⟩ ⟨"BassRealiserModel", "pairRule", "(I)I"⟩ ∈ lw_good := lw_inS (List.mem_of_getElem? (i := 37) (by decide +kernel)) (by decide +kernel)
theorem ks_38 : Cond.selects "BassRealiserModel" ⟨"BassRealiserModel", "isParallel", "(II)Z"⟩ ⟨"BassRealiserModel", "isParallel", "(II)Z"⟩ ∈ lw_good := lw_inS (List.mem_of_getElem? (i := 38) (by decide +kernel)) (by decide +kernel)
theorem ks_39 : Cond.selects "BassRealiserModel" ⟨"BassRealiserModel", "layBack", "()V"⟩ ⟨"BassRealiserModel", "layBack", "()V"⟩ ∈ lw_good := lw_inS (List.mem_of_getElem? (i := 39) (by decide +kernel)) (by decide +kernel)
theorem ks_40 : Cond.selects "BassRealiserModel" ⟨"BassRealiserModel", "cost", "(I)I"⟩ ⟨"BassRealiserModel", "cost", "(I)I"⟩ ∈ lw_good := lw_inS (List.mem_of_getElem? (i := 40) (by decide +kernel)) (by decide +kernel)
theorem ks_41 : Cond.selects "BassRealiserModel" ⟨"BassRealiserModel", "best", "(I[I)I"⟩ ⟨"BassRealiserModel", "best", "(I[I)I"⟩ ∈ lw_good := lw_inS (List.mem_of_getElem? (i := 41) (by decide +kernel)) (by decide +kernel)
theorem ks_42 : Cond.selects "BassRealiserModel" ⟨"BassRealiserModel", "faultOf", "(I)I"⟩ ⟨"BassRealiserModel", "faultOf", "(I)I"⟩ ∈ lw_good := lw_inS (List.mem_of_getElem? (i := 42) (by decide +kernel)) (by decide +kernel)
theorem ks_43 : Cond.selects "BassRealiserModel" ⟨"BassRealiserModel", "takeSung", "(I[I)V"⟩ ⟨"BassRealiserModel", "takeSung", "(I[I)V"⟩ ∈ lw_good := lw_inS (List.mem_of_getElem? (i := 43) (by decide +kernel)) (by decide +kernel)
theorem iw_0 : ∀ w ∈ u_ws "BassRealiser$Chord" T_0 11, w ∈ lw_good := by
  intro w hw
  obtain ⟨k, hk, rfl⟩ := List.mem_map.mp hw
  have hk := List.mem_range.mp hk
  match k, hk with
  | 0, _ => exact kw_1_89
  | 1, _ => exact kw_1_91
  | 2, _ => exact kw_1_93
  | 3, _ => exact kw_1_95
  | 4, _ => exact kw_1_97
  | 5, _ => exact kw_1_99
  | 6, _ => exact kw_1_101
  | 7, _ => exact kw_1_103
  | 8, _ => exact kw_1_105
  | 9, _ => exact kw_1_107
  | 10, _ => exact kw_1_109
  | n + 11, h => exact absurd h (by omega)
theorem df_0 (b : Nat) : ∀ j, j < 11 → defaultValue (tf_0 j) = vp_V (([.inl 0, .inl 0, .inl 0, .inl 0, .inr none, .inr none, .inl 0, .inl 0, .inl 0, .inl 0, .inl 0] : List MV).map (trV b)) j := by
  intro j hj
  match j, hj with
  | 0, _ => rfl
  | 1, _ => rfl
  | 2, _ => rfl
  | 3, _ => rfl
  | 4, _ => rfl
  | 5, _ => rfl
  | 6, _ => rfl
  | 7, _ => rfl
  | 8, _ => rfl
  | 9, _ => rfl
  | 10, _ => rfl
  | n + 11, h => exact absurd h (by omega)
theorem iw_1 : ∀ w ∈ u_ws "BassRealiser$Column" T_1 6, w ∈ lw_good := by
  intro w hw
  obtain ⟨k, hk, rfl⟩ := List.mem_map.mp hw
  have hk := List.mem_range.mp hk
  match k, hk with
  | 0, _ => exact kw_1_131
  | 1, _ => exact kw_1_133
  | 2, _ => exact kw_1_135
  | 3, _ => exact kw_1_137
  | 4, _ => exact kw_1_139
  | 5, _ => exact kw_1_141
  | n + 6, h => exact absurd h (by omega)
theorem df_1 (b : Nat) : ∀ j, j < 6 → defaultValue (tf_1 j) = vp_V (([.inr none, .inr none, .inr none, .inr none, .inl 0, .inl 0] : List MV).map (trV b)) j := by
  intro j hj
  match j, hj with
  | 0, _ => rfl
  | 1, _ => rfl
  | 2, _ => rfl
  | 3, _ => rfl
  | 4, _ => rfl
  | 5, _ => rfl
  | n + 6, h => exact absurd h (by omega)
theorem iw_2 : ∀ w ∈ u_ws "BassRealiser$Move" T_2 6, w ∈ lw_good := by
  intro w hw
  obtain ⟨k, hk, rfl⟩ := List.mem_map.mp hw
  have hk := List.mem_range.mp hk
  match k, hk with
  | 0, _ => exact kw_1_157
  | 1, _ => exact kw_1_159
  | 2, _ => exact kw_1_161
  | 3, _ => exact kw_1_163
  | 4, _ => exact kw_1_165
  | 5, _ => exact kw_1_167
  | n + 6, h => exact absurd h (by omega)
theorem df_2 (b : Nat) : ∀ j, j < 6 → defaultValue (tf_2 j) = vp_V (([.inr none, .inr none, .inr none, .inl 0, .inl 0, .inl 0] : List MV).map (trV b)) j := by
  intro j hj
  match j, hj with
  | 0, _ => rfl
  | 1, _ => rfl
  | 2, _ => rfl
  | 3, _ => rfl
  | 4, _ => rfl
  | 5, _ => rfl
  | n + 6, h => exact absurd h (by omega)
theorem iw_3 : ∀ w ∈ u_ws "BassRealiser$Rules" T_3 5, w ∈ lw_good := by
  intro w hw
  obtain ⟨k, hk, rfl⟩ := List.mem_map.mp hw
  have hk := List.mem_range.mp hk
  match k, hk with
  | 0, _ => exact kw_1_45
  | 1, _ => exact kw_1_47
  | 2, _ => exact kw_1_49
  | 3, _ => exact kw_1_51
  | 4, _ => exact kw_1_53
  | n + 5, h => exact absurd h (by omega)
theorem df_3 (b : Nat) : ∀ j, j < 5 → defaultValue (tf_3 j) = vp_V (([.inr none, .inr none, .inr none, .inl 0, .inl 0] : List MV).map (trV b)) j := by
  intro j hj
  match j, hj with
  | 0, _ => rfl
  | 1, _ => rfl
  | 2, _ => rfl
  | 3, _ => rfl
  | 4, _ => rfl
  | n + 5, h => exact absurd h (by omega)
theorem iw_4 : ∀ w ∈ u_ws "BassRealiser$Search" T_4 9, w ∈ lw_good := by
  intro w hw
  obtain ⟨k, hk, rfl⟩ := List.mem_map.mp hw
  have hk := List.mem_range.mp hk
  match k, hk with
  | 0, _ => exact kw_1_185
  | 1, _ => exact kw_1_187
  | 2, _ => exact kw_1_189
  | 3, _ => exact kw_1_191
  | 4, _ => exact kw_1_193
  | 5, _ => exact kw_1_195
  | 6, _ => exact kw_1_197
  | 7, _ => exact kw_1_199
  | 8, _ => exact kw_1_201
  | n + 9, h => exact absurd h (by omega)
theorem df_4 (b : Nat) : ∀ j, j < 9 → defaultValue (tf_4 j) = vp_V (([.inr none, .inr none, .inr none, .inr none, .inr none, .inl 0, .inl 0, .inl 0, .inl 0] : List MV).map (trV b)) j := by
  intro j hj
  match j, hj with
  | 0, _ => rfl
  | 1, _ => rfl
  | 2, _ => rfl
  | 3, _ => rfl
  | 4, _ => rfl
  | 5, _ => rfl
  | 6, _ => rfl
  | 7, _ => rfl
  | 8, _ => rfl
  | n + 9, h => exact absurd h (by omega)
theorem iw_5 : ∀ w ∈ u_ws "BassRealiser" T_5 5, w ∈ lw_good := by
  intro w hw
  obtain ⟨k, hk, rfl⟩ := List.mem_map.mp hw
  have hk := List.mem_range.mp hk
  match k, hk with
  | 0, _ => exact kw_1_211
  | 1, _ => exact kw_1_213
  | 2, _ => exact kw_1_215
  | 3, _ => exact kw_1_217
  | 4, _ => exact kw_1_219
  | n + 5, h => exact absurd h (by omega)
theorem df_5 (b : Nat) : ∀ j, j < 5 → defaultValue (tf_5 j) = vp_V (([.inr none, .inr none, .inr none, .inr none, .inl 0] : List MV).map (trV b)) j := by
  intro j hj
  match j, hj with
  | 0, _ => rfl
  | 1, _ => rfl
  | 2, _ => rfl
  | 3, _ => rfl
  | 4, _ => rfl
  | n + 5, h => exact absurd h (by omega)
theorem iw_6 : ∀ w ∈ u_ws "BassRealiserModel" T_6 26, w ∈ lw_good := by
  intro w hw
  obtain ⟨k, hk, rfl⟩ := List.mem_map.mp hw
  have hk := List.mem_range.mp hk
  match k, hk with
  | 0, _ => exact kw_3_113
  | 1, _ => exact kw_3_115
  | 2, _ => exact kw_3_117
  | 3, _ => exact kw_3_119
  | 4, _ => exact kw_3_121
  | 5, _ => exact kw_3_123
  | 6, _ => exact kw_3_125
  | 7, _ => exact kw_3_127
  | 8, _ => exact kw_3_129
  | 9, _ => exact kw_3_131
  | 10, _ => exact kw_3_133
  | 11, _ => exact kw_3_135
  | 12, _ => exact kw_3_137
  | 13, _ => exact kw_3_139
  | 14, _ => exact kw_3_141
  | 15, _ => exact kw_3_143
  | 16, _ => exact kw_3_145
  | 17, _ => exact kw_3_147
  | 18, _ => exact kw_3_149
  | 19, _ => exact kw_3_151
  | 20, _ => exact kw_3_153
  | 21, _ => exact kw_3_155
  | 22, _ => exact kw_3_157
  | 23, _ => exact kw_3_159
  | 24, _ => exact kw_3_161
  | 25, _ => exact kw_3_163
  | n + 26, h => exact absurd h (by omega)
theorem df_6 (b : Nat) : ∀ j, j < 26 → defaultValue (tf_6 j) = vp_V (([.inl 0, .inl 0, .inl 0, .inr none, .inr none, .inr none, .inr none, .inr none, .inr none, .inr none, .inl 0, .inr none, .inr none, .inr none, .inr none, .inr none, .inr none, .inr none, .inr none, .inl 0, .inr none, .inr none, .inr none, .inr none, .inl 0, .inr none] : List MV).map (trV b)) j := by
  intro j hj
  match j, hj with
  | 0, _ => rfl
  | 1, _ => rfl
  | 2, _ => rfl
  | 3, _ => rfl
  | 4, _ => rfl
  | 5, _ => rfl
  | 6, _ => rfl
  | 7, _ => rfl
  | 8, _ => rfl
  | 9, _ => rfl
  | 10, _ => rfl
  | 11, _ => rfl
  | 12, _ => rfl
  | 13, _ => rfl
  | 14, _ => rfl
  | 15, _ => rfl
  | 16, _ => rfl
  | 17, _ => rfl
  | 18, _ => rfl
  | 19, _ => rfl
  | 20, _ => rfl
  | 21, _ => rfl
  | 22, _ => rfl
  | 23, _ => rfl
  | 24, _ => rfl
  | 25, _ => rfl
  | n + 26, h => exact absurd h (by omega)
theorem fk_Br_10 : FK "BassRealiser" 10 5 0 := ⟨_, _, _, rfl, iw_5, by decide, kw_1_206⟩
theorem fk_Br_101 : FK "BassRealiser" 101 3 2 := ⟨_, _, _, rfl, iw_3, by decide, kw_1_39⟩
theorem fk_Br_107 : FK "BassRealiser" 107 3 3 := ⟨_, _, _, rfl, iw_3, by decide, kw_1_42⟩
theorem fk_Br_110 : FK "BassRealiser" 110 0 5 := ⟨_, _, _, rfl, iw_0, by decide, kw_1_77⟩
theorem fk_Br_113 : FK "BassRealiser" 113 0 1 := ⟨_, _, _, rfl, iw_0, by decide, kw_1_69⟩
theorem fk_Br_127 : FK "BassRealiser" 127 1 4 := ⟨_, _, _, rfl, iw_1, by decide, kw_1_128⟩
theorem fk_Br_130 : FK "BassRealiser" 130 1 0 := ⟨_, _, _, rfl, iw_1, by decide, kw_1_119⟩
theorem fk_Br_140 : FK "BassRealiser" 140 4 5 := ⟨_, _, _, rfl, iw_4, by decide, kw_1_179⟩
theorem fk_Br_143 : FK "BassRealiser" 143 4 6 := ⟨_, _, _, rfl, iw_4, by decide, kw_1_181⟩
theorem fk_Br_146 : FK "BassRealiser" 146 4 4 := ⟨_, _, _, rfl, iw_4, by decide, kw_1_177⟩
theorem fk_Br_149 : FK "BassRealiser" 149 4 7 := ⟨_, _, _, rfl, iw_4, by decide, kw_1_183⟩
theorem fk_Br_155 : FK "BassRealiser" 155 0 6 := ⟨_, _, _, rfl, iw_0, by decide, kw_1_79⟩
theorem fk_Br_16 : FK "BassRealiser" 16 4 0 := ⟨_, _, _, rfl, iw_4, by decide, kw_1_171⟩
theorem fk_Br_20 : FK "BassRealiser" 20 5 1 := ⟨_, _, _, rfl, iw_5, by decide, kw_1_207⟩
theorem fk_Br_21 : FK "BassRealiser" 21 4 1 := ⟨_, _, _, rfl, iw_4, by decide, kw_1_173⟩
theorem fk_Br_25 : FK "BassRealiser" 25 5 2 := ⟨_, _, _, rfl, iw_5, by decide, kw_1_208⟩
theorem fk_Br_29 : FK "BassRealiser" 29 5 3 := ⟨_, _, _, rfl, iw_5, by decide, kw_1_209⟩
theorem fk_Br_33 : FK "BassRealiser" 33 5 4 := ⟨_, _, _, rfl, iw_5, by decide, kw_1_210⟩
theorem fk_Br_41 : FK "BassRealiser" 41 3 4 := ⟨_, _, _, rfl, iw_3, by decide, kw_1_44⟩
theorem fk_Br_66 : FK "BassRealiser" 66 0 2 := ⟨_, _, _, rfl, iw_0, by decide, kw_1_71⟩
theorem fk_Br_82 : FK "BassRealiser" 82 0 3 := ⟨_, _, _, rfl, iw_0, by decide, kw_1_73⟩
theorem fk_Br_94 : FK "BassRealiser" 94 3 0 := ⟨_, _, _, rfl, iw_3, by decide, kw_1_34⟩
theorem fk_Br_98 : FK "BassRealiser" 98 3 1 := ⟨_, _, _, rfl, iw_3, by decide, kw_1_37⟩
theorem fk_Ch_15 : FK "BassRealiser$Chord" 15 0 5 := ⟨_, _, _, rfl, iw_0, by decide, kw_1_75⟩
theorem fk_Ch_22 : FK "BassRealiser$Chord" 22 0 0 := ⟨_, _, _, rfl, iw_0, by decide, kw_1_64⟩
theorem fk_Ch_28 : FK "BassRealiser$Chord" 28 0 1 := ⟨_, _, _, rfl, iw_0, by decide, kw_1_65⟩
theorem fk_Ch_34 : FK "BassRealiser$Chord" 34 0 2 := ⟨_, _, _, rfl, iw_0, by decide, kw_1_70⟩
theorem fk_Ch_41 : FK "BassRealiser$Chord" 41 0 3 := ⟨_, _, _, rfl, iw_0, by decide, kw_1_72⟩
theorem fk_Ch_44 : FK "BassRealiser$Chord" 44 0 7 := ⟨_, _, _, rfl, iw_0, by decide, kw_1_81⟩
theorem fk_Ch_47 : FK "BassRealiser$Chord" 47 0 9 := ⟨_, _, _, rfl, iw_0, by decide, kw_1_85⟩
theorem fk_Ch_50 : FK "BassRealiser$Chord" 50 0 10 := ⟨_, _, _, rfl, iw_0, by decide, kw_1_88⟩
theorem fk_Ch_67 : FK "BassRealiser$Chord" 67 0 8 := ⟨_, _, _, rfl, iw_0, by decide, kw_1_83⟩
theorem fk_Ch_9 : FK "BassRealiser$Chord" 9 0 4 := ⟨_, _, _, rfl, iw_0, by decide, kw_1_74⟩
theorem fk_Co_11 : FK "BassRealiser$Column" 11 1 0 := ⟨_, _, _, rfl, iw_1, by decide, kw_1_117⟩
theorem fk_Co_15 : FK "BassRealiser$Column" 15 1 1 := ⟨_, _, _, rfl, iw_1, by decide, kw_1_120⟩
theorem fk_Co_25 : FK "BassRealiser$Column" 25 1 4 := ⟨_, _, _, rfl, iw_1, by decide, kw_1_126⟩
theorem fk_Co_29 : FK "BassRealiser$Column" 29 3 0 := ⟨_, _, _, rfl, iw_3, by decide, kw_1_33⟩
theorem fk_Co_34 : FK "BassRealiser$Column" 34 3 1 := ⟨_, _, _, rfl, iw_3, by decide, kw_1_36⟩
theorem fk_Co_60 : FK "BassRealiser$Column" 60 0 1 := ⟨_, _, _, rfl, iw_0, by decide, kw_1_67⟩
theorem fk_Mv_11 : FK "BassRealiser$Move" 11 2 0 := ⟨_, _, _, rfl, iw_2, by decide, kw_1_151⟩
theorem fk_Mv_15 : FK "BassRealiser$Move" 15 2 1 := ⟨_, _, _, rfl, iw_2, by decide, kw_1_152⟩
theorem fk_Mv_18 : FK "BassRealiser$Move" 18 2 2 := ⟨_, _, _, rfl, iw_2, by decide, kw_1_153⟩
theorem fk_Mv_25 : FK "BassRealiser$Move" 25 0 1 := ⟨_, _, _, rfl, iw_0, by decide, kw_1_66⟩
theorem fk_Mv_31 : FK "BassRealiser$Move" 31 0 9 := ⟨_, _, _, rfl, iw_0, by decide, kw_1_84⟩
theorem fk_Mv_34 : FK "BassRealiser$Move" 34 2 3 := ⟨_, _, _, rfl, iw_2, by decide, kw_1_154⟩
theorem fk_Mv_37 : FK "BassRealiser$Move" 37 0 10 := ⟨_, _, _, rfl, iw_0, by decide, kw_1_87⟩
theorem fk_Mv_40 : FK "BassRealiser$Move" 40 2 4 := ⟨_, _, _, rfl, iw_2, by decide, kw_1_155⟩
theorem fk_Mv_43 : FK "BassRealiser$Move" 43 2 5 := ⟨_, _, _, rfl, iw_2, by decide, kw_1_156⟩
theorem fk_Rm_13 : FK "BassRealiserModel" 13 6 3 := ⟨_, _, _, rfl, iw_6, by decide, kw_3_90⟩
theorem fk_Rm_17 : FK "BassRealiserModel" 17 6 4 := ⟨_, _, _, rfl, iw_6, by decide, kw_3_91⟩
theorem fk_Rm_177 : FK "BassRealiserModel" 177 6 24 := ⟨_, _, _, rfl, iw_6, by decide, kw_3_111⟩
theorem fk_Rm_20 : FK "BassRealiserModel" 20 6 5 := ⟨_, _, _, rfl, iw_6, by decide, kw_3_92⟩
theorem fk_Rm_23 : FK "BassRealiserModel" 23 6 6 := ⟨_, _, _, rfl, iw_6, by decide, kw_3_93⟩
theorem fk_Rm_26 : FK "BassRealiserModel" 26 6 7 := ⟨_, _, _, rfl, iw_6, by decide, kw_3_94⟩
theorem fk_Rm_29 : FK "BassRealiserModel" 29 6 8 := ⟨_, _, _, rfl, iw_6, by decide, kw_3_95⟩
theorem fk_Rm_32 : FK "BassRealiserModel" 32 6 9 := ⟨_, _, _, rfl, iw_6, by decide, kw_3_96⟩
theorem fk_Rm_35 : FK "BassRealiserModel" 35 6 10 := ⟨_, _, _, rfl, iw_6, by decide, kw_3_97⟩
theorem fk_Rm_38 : FK "BassRealiserModel" 38 6 11 := ⟨_, _, _, rfl, iw_6, by decide, kw_3_98⟩
theorem fk_Rm_41 : FK "BassRealiserModel" 41 6 12 := ⟨_, _, _, rfl, iw_6, by decide, kw_3_99⟩
theorem fk_Rm_44 : FK "BassRealiserModel" 44 6 13 := ⟨_, _, _, rfl, iw_6, by decide, kw_3_100⟩
theorem fk_Rm_48 : FK "BassRealiserModel" 48 6 14 := ⟨_, _, _, rfl, iw_6, by decide, kw_3_101⟩
theorem fk_Rm_51 : FK "BassRealiserModel" 51 6 15 := ⟨_, _, _, rfl, iw_6, by decide, kw_3_102⟩
theorem fk_Rm_54 : FK "BassRealiserModel" 54 6 16 := ⟨_, _, _, rfl, iw_6, by decide, kw_3_103⟩
theorem fk_Rm_57 : FK "BassRealiserModel" 57 6 17 := ⟨_, _, _, rfl, iw_6, by decide, kw_3_104⟩
theorem fk_Rm_60 : FK "BassRealiserModel" 60 6 18 := ⟨_, _, _, rfl, iw_6, by decide, kw_3_105⟩
theorem fk_Rm_63 : FK "BassRealiserModel" 63 6 20 := ⟨_, _, _, rfl, iw_6, by decide, kw_3_107⟩
theorem fk_Rm_66 : FK "BassRealiserModel" 66 6 21 := ⟨_, _, _, rfl, iw_6, by decide, kw_3_108⟩
theorem fk_Rm_69 : FK "BassRealiserModel" 69 6 22 := ⟨_, _, _, rfl, iw_6, by decide, kw_3_109⟩
theorem fk_Rm_72 : FK "BassRealiserModel" 72 6 23 := ⟨_, _, _, rfl, iw_6, by decide, kw_3_110⟩
theorem fk_Rm_76 : FK "BassRealiserModel" 76 6 25 := ⟨_, _, _, rfl, iw_6, by decide, kw_3_112⟩
theorem fk_Rm_79 : FK "BassRealiserModel" 79 6 2 := ⟨_, _, _, rfl, iw_6, by decide, kw_3_89⟩
theorem fk_Rm_90 : FK "BassRealiserModel" 90 6 1 := ⟨_, _, _, rfl, iw_6, by decide, kw_3_88⟩
theorem fk_Rm_93 : FK "BassRealiserModel" 93 6 19 := ⟨_, _, _, rfl, iw_6, by decide, kw_3_106⟩
theorem fk_Ru_15 : FK "BassRealiser$Rules" 15 3 1 := ⟨_, _, _, rfl, iw_3, by decide, kw_1_35⟩
theorem fk_Ru_18 : FK "BassRealiser$Rules" 18 3 2 := ⟨_, _, _, rfl, iw_3, by decide, kw_1_38⟩
theorem fk_Ru_25 : FK "BassRealiser$Rules" 25 3 4 := ⟨_, _, _, rfl, iw_3, by decide, kw_1_43⟩
theorem fk_Ru_45 : FK "BassRealiser$Rules" 45 0 8 := ⟨_, _, _, rfl, iw_0, by decide, kw_1_82⟩
theorem fk_Ru_50 : FK "BassRealiser$Rules" 50 0 7 := ⟨_, _, _, rfl, iw_0, by decide, kw_1_80⟩
theorem fk_Ru_53 : FK "BassRealiser$Rules" 53 0 1 := ⟨_, _, _, rfl, iw_0, by decide, kw_1_68⟩
theorem fk_Ru_67 : FK "BassRealiser$Rules" 67 0 5 := ⟨_, _, _, rfl, iw_0, by decide, kw_1_76⟩
theorem fk_Ru_70 : FK "BassRealiser$Rules" 70 0 9 := ⟨_, _, _, rfl, iw_0, by decide, kw_1_86⟩
theorem fk_Ru_9 : FK "BassRealiser$Rules" 9 3 0 := ⟨_, _, _, rfl, iw_3, by decide, kw_1_32⟩
theorem fk_Se_11 : FK "BassRealiser$Search" 11 4 0 := ⟨_, _, _, rfl, iw_4, by decide, kw_1_170⟩
theorem fk_Se_112 : FK "BassRealiser$Search" 112 3 3 := ⟨_, _, _, rfl, iw_3, by decide, kw_1_41⟩
theorem fk_Se_119 : FK "BassRealiser$Search" 119 1 3 := ⟨_, _, _, rfl, iw_1, by decide, kw_1_125⟩
theorem fk_Se_122 : FK "BassRealiser$Search" 122 1 2 := ⟨_, _, _, rfl, iw_1, by decide, kw_1_123⟩
theorem fk_Se_20 : FK "BassRealiser$Search" 20 4 1 := ⟨_, _, _, rfl, iw_4, by decide, kw_1_172⟩
theorem fk_Se_26 : FK "BassRealiser$Search" 26 4 2 := ⟨_, _, _, rfl, iw_4, by decide, kw_1_174⟩
theorem fk_Se_35 : FK "BassRealiser$Search" 35 4 3 := ⟨_, _, _, rfl, iw_4, by decide, kw_1_175⟩
theorem fk_Se_39 : FK "BassRealiser$Search" 39 4 4 := ⟨_, _, _, rfl, iw_4, by decide, kw_1_176⟩
theorem fk_Se_47 : FK "BassRealiser$Search" 47 1 5 := ⟨_, _, _, rfl, iw_1, by decide, kw_1_129⟩
theorem fk_Se_51 : FK "BassRealiser$Search" 51 4 8 := ⟨_, _, _, rfl, iw_4, by decide, kw_1_184⟩
theorem fk_Se_58 : FK "BassRealiser$Search" 58 4 7 := ⟨_, _, _, rfl, iw_4, by decide, kw_1_182⟩
theorem fk_Se_61 : FK "BassRealiser$Search" 61 4 6 := ⟨_, _, _, rfl, iw_4, by decide, kw_1_180⟩
theorem fk_Se_87 : FK "BassRealiser$Search" 87 1 4 := ⟨_, _, _, rfl, iw_1, by decide, kw_1_127⟩
theorem fk_Se_90 : FK "BassRealiser$Search" 90 1 0 := ⟨_, _, _, rfl, iw_1, by decide, kw_1_118⟩
theorem fk_Se_93 : FK "BassRealiser$Search" 93 1 1 := ⟨_, _, _, rfl, iw_1, by decide, kw_1_121⟩
theorem pk_Br_10 : PK "BassRealiser" 10 5 0 (.object "BassRealiser$Search") true := ⟨_, _, _, rfl, iw_5, by decide, kw_1_206, ⟨tf_5, tf_5_ok⟩, nm_5, rfl, by decide +kernel, fun h => by first | rfl | cases h⟩
theorem pk_Br_107 : PK "BassRealiser" 107 3 3 (.int) false := ⟨_, _, _, rfl, iw_3, by decide, kw_1_42, ⟨tf_3, tf_3_ok⟩, nm_3, rfl, by decide +kernel, fun h => by first | rfl | cases h⟩
theorem pk_Br_155 : PK "BassRealiser" 155 0 6 (.int) false := ⟨_, _, _, rfl, iw_0, by decide, kw_1_79, ⟨tf_0, tf_0_ok⟩, nm_0, rfl, by decide +kernel, fun h => by first | rfl | cases h⟩
theorem pk_Br_20 : PK "BassRealiser" 20 5 1 (.array (.object "BassRealiser$Chord")) true := ⟨_, _, _, rfl, iw_5, by decide, kw_1_207, ⟨tf_5, tf_5_ok⟩, nm_5, rfl, by decide +kernel, fun h => by first | rfl | cases h⟩
theorem pk_Br_25 : PK "BassRealiser" 25 5 2 (.object "BassRealiser$Rules") true := ⟨_, _, _, rfl, iw_5, by decide, kw_1_208, ⟨tf_5, tf_5_ok⟩, nm_5, rfl, by decide +kernel, fun h => by first | rfl | cases h⟩
theorem pk_Br_29 : PK "BassRealiser" 29 5 3 (.object "BassRealiser$Move") true := ⟨_, _, _, rfl, iw_5, by decide, kw_1_209, ⟨tf_5, tf_5_ok⟩, nm_5, rfl, by decide +kernel, fun h => by first | rfl | cases h⟩
theorem pk_Br_33 : PK "BassRealiser" 33 5 4 (.int) false := ⟨_, _, _, rfl, iw_5, by decide, kw_1_210, ⟨tf_5, tf_5_ok⟩, nm_5, rfl, by decide +kernel, fun h => by first | rfl | cases h⟩
theorem pk_Br_41 : PK "BassRealiser" 41 3 4 (.int) false := ⟨_, _, _, rfl, iw_3, by decide, kw_1_44, ⟨tf_3, tf_3_ok⟩, nm_3, rfl, by decide +kernel, fun h => by first | rfl | cases h⟩
theorem pk_Ch_15 : PK "BassRealiser$Chord" 15 0 5 (.array .int) true := ⟨_, _, _, rfl, iw_0, by decide, kw_1_75, ⟨tf_0, tf_0_ok⟩, nm_0, rfl, by decide +kernel, fun h => by first | rfl | cases h⟩
theorem pk_Ch_18 : PK "BassRealiser$Chord" 18 0 6 (.int) false := ⟨_, _, _, rfl, iw_0, by decide, kw_1_78, ⟨tf_0, tf_0_ok⟩, nm_0, rfl, by decide +kernel, fun h => by first | rfl | cases h⟩
theorem pk_Ch_22 : PK "BassRealiser$Chord" 22 0 0 (.int) false := ⟨_, _, _, rfl, iw_0, by decide, kw_1_64, ⟨tf_0, tf_0_ok⟩, nm_0, rfl, by decide +kernel, fun h => by first | rfl | cases h⟩
theorem pk_Ch_28 : PK "BassRealiser$Chord" 28 0 1 (.int) false := ⟨_, _, _, rfl, iw_0, by decide, kw_1_65, ⟨tf_0, tf_0_ok⟩, nm_0, rfl, by decide +kernel, fun h => by first | rfl | cases h⟩
theorem pk_Ch_34 : PK "BassRealiser$Chord" 34 0 2 (.int) false := ⟨_, _, _, rfl, iw_0, by decide, kw_1_70, ⟨tf_0, tf_0_ok⟩, nm_0, rfl, by decide +kernel, fun h => by first | rfl | cases h⟩
theorem pk_Ch_41 : PK "BassRealiser$Chord" 41 0 3 (.int) false := ⟨_, _, _, rfl, iw_0, by decide, kw_1_72, ⟨tf_0, tf_0_ok⟩, nm_0, rfl, by decide +kernel, fun h => by first | rfl | cases h⟩
theorem pk_Ch_44 : PK "BassRealiser$Chord" 44 0 7 (.int) false := ⟨_, _, _, rfl, iw_0, by decide, kw_1_81, ⟨tf_0, tf_0_ok⟩, nm_0, rfl, by decide +kernel, fun h => by first | rfl | cases h⟩
theorem pk_Ch_47 : PK "BassRealiser$Chord" 47 0 9 (.int) false := ⟨_, _, _, rfl, iw_0, by decide, kw_1_85, ⟨tf_0, tf_0_ok⟩, nm_0, rfl, by decide +kernel, fun h => by first | rfl | cases h⟩
theorem pk_Ch_50 : PK "BassRealiser$Chord" 50 0 10 (.int) false := ⟨_, _, _, rfl, iw_0, by decide, kw_1_88, ⟨tf_0, tf_0_ok⟩, nm_0, rfl, by decide +kernel, fun h => by first | rfl | cases h⟩
theorem pk_Ch_67 : PK "BassRealiser$Chord" 67 0 8 (.int) false := ⟨_, _, _, rfl, iw_0, by decide, kw_1_83, ⟨tf_0, tf_0_ok⟩, nm_0, rfl, by decide +kernel, fun h => by first | rfl | cases h⟩
theorem pk_Ch_9 : PK "BassRealiser$Chord" 9 0 4 (.array .int) true := ⟨_, _, _, rfl, iw_0, by decide, kw_1_74, ⟨tf_0, tf_0_ok⟩, nm_0, rfl, by decide +kernel, fun h => by first | rfl | cases h⟩
theorem pk_Co_11 : PK "BassRealiser$Column" 11 1 0 (.array .int) true := ⟨_, _, _, rfl, iw_1, by decide, kw_1_117, ⟨tf_1, tf_1_ok⟩, nm_1, rfl, by decide +kernel, fun h => by first | rfl | cases h⟩
theorem pk_Co_15 : PK "BassRealiser$Column" 15 1 1 (.array .boolean) true := ⟨_, _, _, rfl, iw_1, by decide, kw_1_120, ⟨tf_1, tf_1_ok⟩, nm_1, rfl, by decide +kernel, fun h => by first | rfl | cases h⟩
theorem pk_Co_19 : PK "BassRealiser$Column" 19 1 2 (.array .int) true := ⟨_, _, _, rfl, iw_1, by decide, kw_1_122, ⟨tf_1, tf_1_ok⟩, nm_1, rfl, by decide +kernel, fun h => by first | rfl | cases h⟩
theorem pk_Co_22 : PK "BassRealiser$Column" 22 1 3 (.array .int) true := ⟨_, _, _, rfl, iw_1, by decide, kw_1_124, ⟨tf_1, tf_1_ok⟩, nm_1, rfl, by decide +kernel, fun h => by first | rfl | cases h⟩
theorem pk_Co_25 : PK "BassRealiser$Column" 25 1 4 (.int) false := ⟨_, _, _, rfl, iw_1, by decide, kw_1_126, ⟨tf_1, tf_1_ok⟩, nm_1, rfl, by decide +kernel, fun h => by first | rfl | cases h⟩
theorem pk_Co_56 : PK "BassRealiser$Column" 56 1 5 (.boolean) false := ⟨_, _, _, rfl, iw_1, by decide, kw_1_130, ⟨tf_1, tf_1_ok⟩, nm_1, rfl, by decide +kernel, fun h => by first | rfl | cases h⟩
theorem pk_Mv_11 : PK "BassRealiser$Move" 11 2 0 (.array .int) true := ⟨_, _, _, rfl, iw_2, by decide, kw_1_151, ⟨tf_2, tf_2_ok⟩, nm_2, rfl, by decide +kernel, fun h => by first | rfl | cases h⟩
theorem pk_Mv_15 : PK "BassRealiser$Move" 15 2 1 (.array .int) true := ⟨_, _, _, rfl, iw_2, by decide, kw_1_152, ⟨tf_2, tf_2_ok⟩, nm_2, rfl, by decide +kernel, fun h => by first | rfl | cases h⟩
theorem pk_Mv_18 : PK "BassRealiser$Move" 18 2 2 (.array .int) true := ⟨_, _, _, rfl, iw_2, by decide, kw_1_153, ⟨tf_2, tf_2_ok⟩, nm_2, rfl, by decide +kernel, fun h => by first | rfl | cases h⟩
theorem pk_Mv_34 : PK "BassRealiser$Move" 34 2 3 (.int) false := ⟨_, _, _, rfl, iw_2, by decide, kw_1_154, ⟨tf_2, tf_2_ok⟩, nm_2, rfl, by decide +kernel, fun h => by first | rfl | cases h⟩
theorem pk_Mv_40 : PK "BassRealiser$Move" 40 2 4 (.int) false := ⟨_, _, _, rfl, iw_2, by decide, kw_1_155, ⟨tf_2, tf_2_ok⟩, nm_2, rfl, by decide +kernel, fun h => by first | rfl | cases h⟩
theorem pk_Mv_43 : PK "BassRealiser$Move" 43 2 5 (.int) false := ⟨_, _, _, rfl, iw_2, by decide, kw_1_156, ⟨tf_2, tf_2_ok⟩, nm_2, rfl, by decide +kernel, fun h => by first | rfl | cases h⟩
theorem pk_Rm_1 : PK "BassRealiserModel" 1 6 0 (.int) false := ⟨_, _, _, rfl, iw_6, by decide, kw_3_87, ⟨tf_6, tf_6_ok⟩, nm_6, rfl, by decide +kernel, fun h => by first | rfl | cases h⟩
theorem pk_Rm_13 : PK "BassRealiserModel" 13 6 3 (.array .int) true := ⟨_, _, _, rfl, iw_6, by decide, kw_3_90, ⟨tf_6, tf_6_ok⟩, nm_6, rfl, by decide +kernel, fun h => by first | rfl | cases h⟩
theorem pk_Rm_17 : PK "BassRealiserModel" 17 6 4 (.array .int) true := ⟨_, _, _, rfl, iw_6, by decide, kw_3_91, ⟨tf_6, tf_6_ok⟩, nm_6, rfl, by decide +kernel, fun h => by first | rfl | cases h⟩
theorem pk_Rm_177 : PK "BassRealiserModel" 177 6 24 (.int) false := ⟨_, _, _, rfl, iw_6, by decide, kw_3_111, ⟨tf_6, tf_6_ok⟩, nm_6, rfl, by decide +kernel, fun h => by first | rfl | cases h⟩
theorem pk_Rm_20 : PK "BassRealiserModel" 20 6 5 (.array .int) true := ⟨_, _, _, rfl, iw_6, by decide, kw_3_92, ⟨tf_6, tf_6_ok⟩, nm_6, rfl, by decide +kernel, fun h => by first | rfl | cases h⟩
theorem pk_Rm_23 : PK "BassRealiserModel" 23 6 6 (.array .int) true := ⟨_, _, _, rfl, iw_6, by decide, kw_3_93, ⟨tf_6, tf_6_ok⟩, nm_6, rfl, by decide +kernel, fun h => by first | rfl | cases h⟩
theorem pk_Rm_26 : PK "BassRealiserModel" 26 6 7 (.array .int) true := ⟨_, _, _, rfl, iw_6, by decide, kw_3_94, ⟨tf_6, tf_6_ok⟩, nm_6, rfl, by decide +kernel, fun h => by first | rfl | cases h⟩
theorem pk_Rm_29 : PK "BassRealiserModel" 29 6 8 (.array .int) true := ⟨_, _, _, rfl, iw_6, by decide, kw_3_95, ⟨tf_6, tf_6_ok⟩, nm_6, rfl, by decide +kernel, fun h => by first | rfl | cases h⟩
theorem pk_Rm_32 : PK "BassRealiserModel" 32 6 9 (.array .int) true := ⟨_, _, _, rfl, iw_6, by decide, kw_3_96, ⟨tf_6, tf_6_ok⟩, nm_6, rfl, by decide +kernel, fun h => by first | rfl | cases h⟩
theorem pk_Rm_35 : PK "BassRealiserModel" 35 6 10 (.int) false := ⟨_, _, _, rfl, iw_6, by decide, kw_3_97, ⟨tf_6, tf_6_ok⟩, nm_6, rfl, by decide +kernel, fun h => by first | rfl | cases h⟩
theorem pk_Rm_38 : PK "BassRealiserModel" 38 6 11 (.array .int) true := ⟨_, _, _, rfl, iw_6, by decide, kw_3_98, ⟨tf_6, tf_6_ok⟩, nm_6, rfl, by decide +kernel, fun h => by first | rfl | cases h⟩
theorem pk_Rm_41 : PK "BassRealiserModel" 41 6 12 (.array .int) true := ⟨_, _, _, rfl, iw_6, by decide, kw_3_99, ⟨tf_6, tf_6_ok⟩, nm_6, rfl, by decide +kernel, fun h => by first | rfl | cases h⟩
theorem pk_Rm_44 : PK "BassRealiserModel" 44 6 13 (.array .boolean) true := ⟨_, _, _, rfl, iw_6, by decide, kw_3_100, ⟨tf_6, tf_6_ok⟩, nm_6, rfl, by decide +kernel, fun h => by first | rfl | cases h⟩
theorem pk_Rm_48 : PK "BassRealiserModel" 48 6 14 (.array .int) true := ⟨_, _, _, rfl, iw_6, by decide, kw_3_101, ⟨tf_6, tf_6_ok⟩, nm_6, rfl, by decide +kernel, fun h => by first | rfl | cases h⟩
theorem pk_Rm_51 : PK "BassRealiserModel" 51 6 15 (.array .int) true := ⟨_, _, _, rfl, iw_6, by decide, kw_3_102, ⟨tf_6, tf_6_ok⟩, nm_6, rfl, by decide +kernel, fun h => by first | rfl | cases h⟩
theorem pk_Rm_54 : PK "BassRealiserModel" 54 6 16 (.array .int) true := ⟨_, _, _, rfl, iw_6, by decide, kw_3_103, ⟨tf_6, tf_6_ok⟩, nm_6, rfl, by decide +kernel, fun h => by first | rfl | cases h⟩
theorem pk_Rm_57 : PK "BassRealiserModel" 57 6 17 (.array .int) true := ⟨_, _, _, rfl, iw_6, by decide, kw_3_104, ⟨tf_6, tf_6_ok⟩, nm_6, rfl, by decide +kernel, fun h => by first | rfl | cases h⟩
theorem pk_Rm_60 : PK "BassRealiserModel" 60 6 18 (.array .int) true := ⟨_, _, _, rfl, iw_6, by decide, kw_3_105, ⟨tf_6, tf_6_ok⟩, nm_6, rfl, by decide +kernel, fun h => by first | rfl | cases h⟩
theorem pk_Rm_63 : PK "BassRealiserModel" 63 6 20 (.array .int) true := ⟨_, _, _, rfl, iw_6, by decide, kw_3_107, ⟨tf_6, tf_6_ok⟩, nm_6, rfl, by decide +kernel, fun h => by first | rfl | cases h⟩
theorem pk_Rm_66 : PK "BassRealiserModel" 66 6 21 (.array .int) true := ⟨_, _, _, rfl, iw_6, by decide, kw_3_108, ⟨tf_6, tf_6_ok⟩, nm_6, rfl, by decide +kernel, fun h => by first | rfl | cases h⟩
theorem pk_Rm_69 : PK "BassRealiserModel" 69 6 22 (.array .int) true := ⟨_, _, _, rfl, iw_6, by decide, kw_3_109, ⟨tf_6, tf_6_ok⟩, nm_6, rfl, by decide +kernel, fun h => by first | rfl | cases h⟩
theorem pk_Rm_72 : PK "BassRealiserModel" 72 6 23 (.array .long) true := ⟨_, _, _, rfl, iw_6, by decide, kw_3_110, ⟨tf_6, tf_6_ok⟩, nm_6, rfl, by decide +kernel, fun h => by first | rfl | cases h⟩
theorem pk_Rm_76 : PK "BassRealiserModel" 76 6 25 (.array .int) true := ⟨_, _, _, rfl, iw_6, by decide, kw_3_112, ⟨tf_6, tf_6_ok⟩, nm_6, rfl, by decide +kernel, fun h => by first | rfl | cases h⟩
theorem pk_Rm_79 : PK "BassRealiserModel" 79 6 2 (.int) false := ⟨_, _, _, rfl, iw_6, by decide, kw_3_89, ⟨tf_6, tf_6_ok⟩, nm_6, rfl, by decide +kernel, fun h => by first | rfl | cases h⟩
theorem pk_Rm_90 : PK "BassRealiserModel" 90 6 1 (.int) false := ⟨_, _, _, rfl, iw_6, by decide, kw_3_88, ⟨tf_6, tf_6_ok⟩, nm_6, rfl, by decide +kernel, fun h => by first | rfl | cases h⟩
theorem pk_Rm_93 : PK "BassRealiserModel" 93 6 19 (.boolean) false := ⟨_, _, _, rfl, iw_6, by decide, kw_3_106, ⟨tf_6, tf_6_ok⟩, nm_6, rfl, by decide +kernel, fun h => by first | rfl | cases h⟩
theorem pk_Ru_15 : PK "BassRealiser$Rules" 15 3 1 (.array .int) true := ⟨_, _, _, rfl, iw_3, by decide, kw_1_35, ⟨tf_3, tf_3_ok⟩, nm_3, rfl, by decide +kernel, fun h => by first | rfl | cases h⟩
theorem pk_Ru_18 : PK "BassRealiser$Rules" 18 3 2 (.array .int) true := ⟨_, _, _, rfl, iw_3, by decide, kw_1_38, ⟨tf_3, tf_3_ok⟩, nm_3, rfl, by decide +kernel, fun h => by first | rfl | cases h⟩
theorem pk_Ru_21 : PK "BassRealiser$Rules" 21 3 3 (.int) false := ⟨_, _, _, rfl, iw_3, by decide, kw_1_40, ⟨tf_3, tf_3_ok⟩, nm_3, rfl, by decide +kernel, fun h => by first | rfl | cases h⟩
theorem pk_Ru_25 : PK "BassRealiser$Rules" 25 3 4 (.int) false := ⟨_, _, _, rfl, iw_3, by decide, kw_1_43, ⟨tf_3, tf_3_ok⟩, nm_3, rfl, by decide +kernel, fun h => by first | rfl | cases h⟩
theorem pk_Ru_9 : PK "BassRealiser$Rules" 9 3 0 (.array .int) true := ⟨_, _, _, rfl, iw_3, by decide, kw_1_32, ⟨tf_3, tf_3_ok⟩, nm_3, rfl, by decide +kernel, fun h => by first | rfl | cases h⟩
theorem pk_Se_11 : PK "BassRealiser$Search" 11 4 0 (.array (.object "BassRealiser$Chord")) true := ⟨_, _, _, rfl, iw_4, by decide, kw_1_170, ⟨tf_4, tf_4_ok⟩, nm_4, rfl, by decide +kernel, fun h => by first | rfl | cases h⟩
theorem pk_Se_20 : PK "BassRealiser$Search" 20 4 1 (.object "BassRealiser$Rules") true := ⟨_, _, _, rfl, iw_4, by decide, kw_1_172, ⟨tf_4, tf_4_ok⟩, nm_4, rfl, by decide +kernel, fun h => by first | rfl | cases h⟩
theorem pk_Se_26 : PK "BassRealiser$Search" 26 4 2 (.array (.object "BassRealiser$Column")) true := ⟨_, _, _, rfl, iw_4, by decide, kw_1_174, ⟨tf_4, tf_4_ok⟩, nm_4, rfl, by decide +kernel, fun h => by first | rfl | cases h⟩
theorem pk_Se_35 : PK "BassRealiser$Search" 35 4 3 (.object "BassRealiser$Move") true := ⟨_, _, _, rfl, iw_4, by decide, kw_1_175, ⟨tf_4, tf_4_ok⟩, nm_4, rfl, by decide +kernel, fun h => by first | rfl | cases h⟩
theorem pk_Se_39 : PK "BassRealiser$Search" 39 4 4 (.array .int) true := ⟨_, _, _, rfl, iw_4, by decide, kw_1_176, ⟨tf_4, tf_4_ok⟩, nm_4, rfl, by decide +kernel, fun h => by first | rfl | cases h⟩
theorem pk_Se_43 : PK "BassRealiser$Search" 43 4 5 (.int) false := ⟨_, _, _, rfl, iw_4, by decide, kw_1_178, ⟨tf_4, tf_4_ok⟩, nm_4, rfl, by decide +kernel, fun h => by first | rfl | cases h⟩
theorem pk_Se_47 : PK "BassRealiser$Search" 47 1 5 (.boolean) false := ⟨_, _, _, rfl, iw_1, by decide, kw_1_129, ⟨tf_1, tf_1_ok⟩, nm_1, rfl, by decide +kernel, fun h => by first | rfl | cases h⟩
theorem pk_Se_51 : PK "BassRealiser$Search" 51 4 8 (.boolean) false := ⟨_, _, _, rfl, iw_4, by decide, kw_1_184, ⟨tf_4, tf_4_ok⟩, nm_4, rfl, by decide +kernel, fun h => by first | rfl | cases h⟩
theorem pk_Se_58 : PK "BassRealiser$Search" 58 4 7 (.int) false := ⟨_, _, _, rfl, iw_4, by decide, kw_1_182, ⟨tf_4, tf_4_ok⟩, nm_4, rfl, by decide +kernel, fun h => by first | rfl | cases h⟩
theorem pk_Se_61 : PK "BassRealiser$Search" 61 4 6 (.int) false := ⟨_, _, _, rfl, iw_4, by decide, kw_1_180, ⟨tf_4, tf_4_ok⟩, nm_4, rfl, by decide +kernel, fun h => by first | rfl | cases h⟩
abbrev y_Ru_init : MethodName := ⟨"BassRealiser$Rules", "<init>", "()V"⟩
theorem mk_Ru_init : MK y_Ru_init prog_5_method_1_code 1 (Option.none : Option Jvm.ClassFile.FieldType) 0 := ⟨kw_1_30, kw_1_3, by decide, by decide, by decide +kernel⟩
abbrev y_Ch_init : MethodName := ⟨"BassRealiser$Chord", "<init>", "()V"⟩
theorem mk_Ch_init : MK y_Ch_init prog_2_method_1_code 1 (Option.none : Option Jvm.ClassFile.FieldType) 0 := ⟨kw_1_62, kw_1_4, by decide, by decide, by decide +kernel⟩
abbrev y_Co_init : MethodName := ⟨"BassRealiser$Column", "<init>", "()V"⟩
theorem mk_Co_init : MK y_Co_init prog_3_method_1_code 1 (Option.none : Option Jvm.ClassFile.FieldType) 0 := ⟨kw_1_115, kw_1_5, by decide, by decide, by decide +kernel⟩
abbrev y_Mv_init : MethodName := ⟨"BassRealiser$Move", "<init>", "()V"⟩
theorem mk_Mv_init : MK y_Mv_init prog_4_method_1_code 1 (Option.none : Option Jvm.ClassFile.FieldType) 0 := ⟨kw_1_149, kw_1_6, by decide, by decide, by decide +kernel⟩
abbrev y_Se_init : MethodName := ⟨"BassRealiser$Search", "<init>", "()V"⟩
theorem mk_Se_init : MK y_Se_init prog_6_method_1_code 2 (Option.none : Option Jvm.ClassFile.FieldType) 0 := ⟨kw_1_22, kw_1_2, by decide, by decide, by decide +kernel⟩
abbrev y_Br_init : MethodName := ⟨"BassRealiser", "<init>", "()V"⟩
theorem mk_Br_init : MK y_Br_init prog_1_method_1_code 1 (Option.none : Option Jvm.ClassFile.FieldType) 0 := ⟨kw_1_14, kw_1_1, by decide, by decide, by decide +kernel⟩
abbrev y_Rm_init : MethodName := ⟨"BassRealiserModel", "<init>", "()V"⟩
theorem mk_Rm_init : MK y_Rm_init prog_8_method_3_code 2 (Option.none : Option Jvm.ClassFile.FieldType) 0 := ⟨kw_3_85, kw_1_7, by decide, by decide, by decide +kernel⟩
abbrev y_Br_within : MethodName := ⟨"BassRealiser", "within", "(III)Z"⟩
theorem mk_Br_within : MK y_Br_within prog_1_method_30_code 3 (Option.some Jvm.ClassFile.FieldType.boolean) 3 := ⟨kw_1_228, kw_1_1, by decide, by decide, by decide +kernel⟩
abbrev y_Ch_has : MethodName := ⟨"BassRealiser$Chord", "has", "(II)Z"⟩
theorem mk_Ch_has : MK y_Ch_has prog_2_method_7_code 2 (Option.some Jvm.ClassFile.FieldType.boolean) 2 := ⟨kw_1_238, kw_1_4, by decide, by decide, by decide +kernel⟩
abbrev y_Ch_complete : MethodName := ⟨"BassRealiser$Chord", "complete", "(I)I"⟩
theorem mk_Ch_complete : MK y_Ch_complete prog_2_method_6_code 5 (Option.some Jvm.ClassFile.FieldType.int) 1 := ⟨kw_1_235, kw_1_4, by decide, by decide, by decide +kernel⟩
abbrev y_Ch_toneLetter : MethodName := ⟨"BassRealiser$Chord", "toneLetter", "(I)I"⟩
theorem mk_Ch_toneLetter : MK y_Ch_toneLetter prog_2_method_10_code 2 (Option.some Jvm.ClassFile.FieldType.int) 1 := ⟨kw_2_8, kw_1_4, by decide, by decide, by decide +kernel⟩
abbrev y_Br_keyAlter : MethodName := ⟨"BassRealiser", "keyAlter", "(II)I"⟩
theorem mk_Br_keyAlter : MK y_Br_keyAlter prog_1_method_34_code 5 (Option.some Jvm.ClassFile.FieldType.int) 2 := ⟨kw_2_15, kw_1_1, by decide, by decide, by decide +kernel⟩
abbrev y_Ch_toneAlter : MethodName := ⟨"BassRealiser$Chord", "toneAlter", "(II)I"⟩
theorem mk_Ch_toneAlter : MK y_Ch_toneAlter prog_2_method_11_code 3 (Option.some Jvm.ClassFile.FieldType.int) 2 := ⟨kw_2_12, kw_1_4, by decide, by decide, by decide +kernel⟩
abbrev y_Ma_floorMod : MethodName := ⟨"java/lang/Math", "floorMod", "(II)I"⟩
theorem mk_Ma_floorMod : MK y_Ma_floorMod prog_10_method_50_code 3 (Option.some Jvm.ClassFile.FieldType.int) 2 := ⟨kw_2_28, kw_1_8, by decide, by decide, by decide +kernel⟩
abbrev y_Ch_toneClass : MethodName := ⟨"BassRealiser$Chord", "toneClass", "(II)I"⟩
theorem mk_Ch_toneClass : MK y_Ch_toneClass prog_2_method_12_code 3 (Option.some Jvm.ClassFile.FieldType.int) 2 := ⟨kw_2_2, kw_1_4, by decide, by decide, by decide +kernel⟩
abbrev y_Ch_kind : MethodName := ⟨"BassRealiser$Chord", "kind", "(I)I"⟩
theorem mk_Ch_kind : MK y_Ch_kind prog_2_method_13_code 3 (Option.some Jvm.ClassFile.FieldType.int) 1 := ⟨kw_2_32, kw_1_4, by decide, by decide, by decide +kernel⟩
abbrev y_Br_classBit : MethodName := ⟨"BassRealiser", "classBit", "(I)I"⟩
theorem mk_Br_classBit : MK y_Br_classBit prog_1_method_33_code 1 (Option.some Jvm.ClassFile.FieldType.int) 1 := ⟨kw_2_35, kw_1_1, by decide, by decide, by decide +kernel⟩
abbrev y_Ch_tune : MethodName := ⟨"BassRealiser$Chord", "tune", "(I)V"⟩
theorem mk_Ch_tune : MK y_Ch_tune prog_2_method_5_code 4 (Option.none : Option Jvm.ClassFile.FieldType) 1 := ⟨kw_1_232, kw_1_4, by decide, by decide, by decide +kernel⟩
abbrev y_Se_forgetAll : MethodName := ⟨"BassRealiser$Search", "forgetAll", "()V"⟩
theorem mk_Se_forgetAll : MK y_Se_forgetAll prog_6_method_2_code 2 (Option.none : Option Jvm.ClassFile.FieldType) 0 := ⟨kw_2_39, kw_1_2, by decide, by decide, by decide +kernel⟩
abbrev y_Br_key : MethodName := ⟨"BassRealiser", "key", "(I)I"⟩
theorem mk_Br_key : MK y_Br_key prog_1_method_2_code 4 (Option.some Jvm.ClassFile.FieldType.int) 1 := ⟨kw_1_225, kw_1_1, by decide, by decide, by decide +kernel⟩
abbrev y_Rm_in : MethodName := ⟨"BassRealiserModel", "in", "(JJJ)Z"⟩
theorem mk_Rm_in : MK y_Rm_in prog_8_method_2_code 6 (Option.some Jvm.ClassFile.FieldType.boolean) 3 := ⟨kw_3_175, kw_1_7, by decide, by decide, by decide +kernel⟩
abbrev y_Rm_key : MethodName := ⟨"BassRealiserModel", "key", "(I)I"⟩
theorem mk_Rm_key : MK y_Rm_key prog_8_method_5_code 3 (Option.some Jvm.ClassFile.FieldType.int) 1 := ⟨kw_3_170, kw_1_7, by decide, by decide, by decide +kernel⟩
abbrev y_Ch_untell : MethodName := ⟨"BassRealiser$Chord", "untell", "()V"⟩
theorem mk_Ch_untell : MK y_Ch_untell prog_2_method_4_code 2 (Option.none : Option Jvm.ClassFile.FieldType) 0 := ⟨kw_2_51, kw_1_4, by decide, by decide, by decide +kernel⟩
abbrev y_Ch_begin : MethodName := ⟨"BassRealiser$Chord", "begin", "(III)V"⟩
theorem mk_Ch_begin : MK y_Ch_begin prog_2_method_2_code 5 (Option.none : Option Jvm.ClassFile.FieldType) 3 := ⟨kw_2_47, kw_1_4, by decide, by decide, by decide +kernel⟩
abbrev y_Se_forgetChord : MethodName := ⟨"BassRealiser$Search", "forgetChord", "(I)V"⟩
theorem mk_Se_forgetChord : MK y_Se_forgetChord prog_6_method_3_code 2 (Option.none : Option Jvm.ClassFile.FieldType) 1 := ⟨kw_2_55, kw_1_2, by decide, by decide, by decide +kernel⟩
abbrev y_Br_chord : MethodName := ⟨"BassRealiser", "chord", "(III)I"⟩
theorem mk_Br_chord : MK y_Br_chord prog_1_method_3_code 4 (Option.some Jvm.ClassFile.FieldType.int) 3 := ⟨kw_2_43, kw_1_1, by decide, by decide, by decide +kernel⟩
abbrev y_Rm_chord : MethodName := ⟨"BassRealiserModel", "chord", "(III)I"⟩
theorem mk_Rm_chord : MK y_Rm_chord prog_8_method_6_code 5 (Option.some Jvm.ClassFile.FieldType.int) 3 := ⟨kw_3_179, kw_1_7, by decide, by decide, by decide +kernel⟩
abbrev y_Br_less : MethodName := ⟨"BassRealiser", "less", "()I"⟩
theorem mk_Br_less : MK y_Br_less prog_1_method_4_code 1 (Option.some Jvm.ClassFile.FieldType.int) 0 := ⟨kw_2_59, kw_1_1, by decide, by decide, by decide +kernel⟩
abbrev y_Rm_less : MethodName := ⟨"BassRealiserModel", "less", "()I"⟩
theorem mk_Rm_less : MK y_Rm_less prog_8_method_7_code 1 (Option.some Jvm.ClassFile.FieldType.int) 0 := ⟨kw_3_186, kw_1_7, by decide, by decide, by decide +kernel⟩
abbrev y_Br_hasChord : MethodName := ⟨"BassRealiser", "hasChord", "(I)Z"⟩
theorem mk_Br_hasChord : MK y_Br_hasChord prog_1_method_27_code 2 (Option.some Jvm.ClassFile.FieldType.boolean) 1 := ⟨kw_2_67, kw_1_1, by decide, by decide, by decide +kernel⟩
abbrev y_In_bitCount : MethodName := ⟨"java/lang/Integer", "bitCount", "(I)I"⟩
theorem mk_In_bitCount : MK y_In_bitCount prog_9_method_49_code 1 (Option.some Jvm.ClassFile.FieldType.int) 1 := ⟨kw_2_71, kw_1_9, by decide, by decide, by decide +kernel⟩
abbrev y_Ch_tell : MethodName := ⟨"BassRealiser$Chord", "tell", "(II)V"⟩
theorem mk_Ch_tell : MK y_Ch_tell prog_2_method_3_code 3 (Option.none : Option Jvm.ClassFile.FieldType) 2 := ⟨kw_2_78, kw_1_4, by decide, by decide, by decide +kernel⟩
abbrev y_Br_figure : MethodName := ⟨"BassRealiser", "figure", "(III)I"⟩
theorem mk_Br_figure : MK y_Br_figure prog_1_method_5_code 5 (Option.some Jvm.ClassFile.FieldType.int) 3 := ⟨kw_2_63, kw_1_1, by decide, by decide, by decide +kernel⟩
abbrev y_Rm_noChord : MethodName := ⟨"BassRealiserModel", "noChord", "(I)Z"⟩
theorem mk_Rm_noChord : MK y_Rm_noChord prog_8_method_4_code 2 (Option.some Jvm.ClassFile.FieldType.boolean) 1 := ⟨kw_3_194, kw_1_7, by decide, by decide, by decide +kernel⟩
abbrev y_Rm_isTold : MethodName := ⟨"BassRealiserModel", "isTold", "(II)Z"⟩
theorem mk_Rm_isTold : MK y_Rm_isTold prog_8_method_18_code 3 (Option.some Jvm.ClassFile.FieldType.boolean) 2 := ⟨kw_3_209, kw_1_7, by decide, by decide, by decide +kernel⟩
abbrev y_Rm_isWorked : MethodName := ⟨"BassRealiserModel", "isWorked", "(II)Z"⟩
theorem mk_Rm_isWorked : MK y_Rm_isWorked prog_8_method_19_code 5 (Option.some Jvm.ClassFile.FieldType.boolean) 2 := ⟨kw_3_205, kw_1_7, by decide, by decide, by decide +kernel⟩
abbrev y_Rm_many_i1 : MethodName := ⟨"BassRealiserModel", "many", "(I)I"⟩
theorem mk_Rm_many_i1 : MK y_Rm_many_i1 prog_8_method_20_code 4 (Option.some Jvm.ClassFile.FieldType.int) 1 := ⟨kw_3_201, kw_1_7, by decide, by decide, by decide +kernel⟩
abbrev y_Rm_figure : MethodName := ⟨"BassRealiserModel", "figure", "(III)I"⟩
theorem mk_Rm_figure : MK y_Rm_figure prog_8_method_8_code 6 (Option.some Jvm.ClassFile.FieldType.int) 3 := ⟨kw_3_190, kw_1_7, by decide, by decide, by decide +kernel⟩
abbrev y_Br_plain : MethodName := ⟨"BassRealiser", "plain", "(I)I"⟩
theorem mk_Br_plain : MK y_Br_plain prog_1_method_6_code 3 (Option.some Jvm.ClassFile.FieldType.int) 1 := ⟨kw_2_82, kw_1_1, by decide, by decide, by decide +kernel⟩
abbrev y_Rm_plain : MethodName := ⟨"BassRealiserModel", "plain", "(I)I"⟩
theorem mk_Rm_plain : MK y_Rm_plain prog_8_method_9_code 4 (Option.some Jvm.ClassFile.FieldType.int) 1 := ⟨kw_3_213, kw_1_7, by decide, by decide, by decide +kernel⟩
abbrev y_Br_isVoice : MethodName := ⟨"BassRealiser", "isVoice", "(I)Z"⟩
theorem mk_Br_isVoice : MK y_Br_isVoice prog_1_method_28_code 1 (Option.some Jvm.ClassFile.FieldType.boolean) 1 := ⟨kw_2_90, kw_1_1, by decide, by decide, by decide +kernel⟩
abbrev y_Br_isPitch : MethodName := ⟨"BassRealiser", "isPitch", "(I)Z"⟩
theorem mk_Br_isPitch : MK y_Br_isPitch prog_1_method_29_code 1 (Option.some Jvm.ClassFile.FieldType.boolean) 1 := ⟨kw_2_93, kw_1_1, by decide, by decide, by decide +kernel⟩
abbrev y_Br_range : MethodName := ⟨"BassRealiser", "range", "(III)I"⟩
theorem mk_Br_range : MK y_Br_range prog_1_method_7_code 4 (Option.some Jvm.ClassFile.FieldType.int) 3 := ⟨kw_2_87, kw_1_1, by decide, by decide, by decide +kernel⟩
abbrev y_Rm_range : MethodName := ⟨"BassRealiserModel", "range", "(III)I"⟩
theorem mk_Rm_range : MK y_Rm_range prog_8_method_10_code 4 (Option.some Jvm.ClassFile.FieldType.int) 3 := ⟨kw_3_217, kw_1_7, by decide, by decide, by decide +kernel⟩
abbrev y_Se_forgetRealising : MethodName := ⟨"BassRealiser$Search", "forgetRealising", "()V"⟩
theorem mk_Se_forgetRealising : MK y_Se_forgetRealising prog_6_method_4_code 1 (Option.none : Option Jvm.ClassFile.FieldType) 0 := ⟨kw_2_101, kw_1_2, by decide, by decide, by decide +kernel⟩
abbrev y_Br_home : MethodName := ⟨"BassRealiser", "home", "(II)I"⟩
theorem mk_Br_home : MK y_Br_home prog_1_method_8_code 4 (Option.some Jvm.ClassFile.FieldType.int) 2 := ⟨kw_2_97, kw_1_1, by decide, by decide, by decide +kernel⟩
abbrev y_Rm_home : MethodName := ⟨"BassRealiserModel", "home", "(II)I"⟩
theorem mk_Rm_home : MK y_Rm_home prog_8_method_11_code 4 (Option.some Jvm.ClassFile.FieldType.int) 2 := ⟨kw_3_222, kw_1_7, by decide, by decide, by decide +kernel⟩
abbrev y_Br_leap : MethodName := ⟨"BassRealiser", "leap", "(I)I"⟩
theorem mk_Br_leap : MK y_Br_leap prog_1_method_9_code 3 (Option.some Jvm.ClassFile.FieldType.int) 1 := ⟨kw_2_105, kw_1_1, by decide, by decide, by decide +kernel⟩
abbrev y_Rm_leap : MethodName := ⟨"BassRealiserModel", "leap", "(I)I"⟩
theorem mk_Rm_leap : MK y_Rm_leap prog_8_method_12_code 3 (Option.some Jvm.ClassFile.FieldType.int) 1 := ⟨kw_3_226, kw_1_7, by decide, by decide, by decide +kernel⟩
abbrev y_Br_given : MethodName := ⟨"BassRealiser", "given", "(III)I"⟩
theorem mk_Br_given : MK y_Br_given prog_1_method_10_code 5 (Option.some Jvm.ClassFile.FieldType.int) 3 := ⟨kw_2_109, kw_1_1, by decide, by decide, by decide +kernel⟩
abbrev y_Rm_given : MethodName := ⟨"BassRealiserModel", "given", "(III)I"⟩
theorem mk_Rm_given : MK y_Rm_given prog_8_method_13_code 5 (Option.some Jvm.ClassFile.FieldType.int) 3 := ⟨kw_3_231, kw_1_7, by decide, by decide, by decide +kernel⟩
abbrev y_Br_bass : MethodName := ⟨"BassRealiser", "bass", "(I)I"⟩
theorem mk_Br_bass : MK y_Br_bass prog_1_method_11_code 2 (Option.some Jvm.ClassFile.FieldType.int) 1 := ⟨kw_2_113, kw_1_1, by decide, by decide, by decide +kernel⟩
abbrev y_Rm_semitones : MethodName := ⟨"BassRealiserModel", "semitones", "(I)I"⟩
theorem mk_Rm_semitones : MK y_Rm_semitones prog_8_method_15_code 1 (Option.some Jvm.ClassFile.FieldType.int) 1 := ⟨kw_4_2, kw_1_7, by decide, by decide, by decide +kernel⟩
abbrev y_Rm_bassOf : MethodName := ⟨"BassRealiserModel", "bassOf", "(I)I"⟩
theorem mk_Rm_bassOf : MK y_Rm_bassOf prog_8_method_16_code 2 (Option.some Jvm.ClassFile.FieldType.int) 1 := ⟨kw_3_239, kw_1_7, by decide, by decide, by decide +kernel⟩
abbrev y_Rm_bass : MethodName := ⟨"BassRealiserModel", "bass", "(I)I"⟩
theorem mk_Rm_bass : MK y_Rm_bass prog_8_method_17_code 2 (Option.some Jvm.ClassFile.FieldType.int) 1 := ⟨kw_3_235, kw_1_7, by decide, by decide, by decide +kernel⟩
abbrev y_Ch_nthWorked : MethodName := ⟨"BassRealiser$Chord", "nthWorked", "(I)I"⟩
theorem mk_Ch_nthWorked : MK y_Ch_nthWorked prog_2_method_8_code 4 (Option.some Jvm.ClassFile.FieldType.int) 1 := ⟨kw_2_121, kw_1_4, by decide, by decide, by decide +kernel⟩
abbrev y_Ch_about : MethodName := ⟨"BassRealiser$Chord", "about", "(III)I"⟩
theorem mk_Ch_about : MK y_Ch_about prog_2_method_9_code 4 (Option.some Jvm.ClassFile.FieldType.int) 3 := ⟨kw_2_125, kw_1_4, by decide, by decide, by decide +kernel⟩
abbrev y_Br_worked : MethodName := ⟨"BassRealiser", "worked", "(III)I"⟩
theorem mk_Br_worked : MK y_Br_worked prog_1_method_12_code 6 (Option.some Jvm.ClassFile.FieldType.int) 3 := ⟨kw_2_117, kw_1_1, by decide, by decide, by decide +kernel⟩
abbrev y_Rm_letterOf : MethodName := ⟨"BassRealiserModel", "letterOf", "(II)I"⟩
theorem mk_Rm_letterOf : MK y_Rm_letterOf prog_8_method_21_code 3 (Option.some Jvm.ClassFile.FieldType.int) 2 := ⟨kw_4_14, kw_1_7, by decide, by decide, by decide +kernel⟩
abbrev y_Rm_keyOf : MethodName := ⟨"BassRealiserModel", "keyOf", "(I)I"⟩
theorem mk_Rm_keyOf : MK y_Rm_keyOf prog_8_method_22_code 3 (Option.some Jvm.ClassFile.FieldType.int) 1 := ⟨kw_4_22, kw_1_7, by decide, by decide, by decide +kernel⟩
abbrev y_Rm_alterOf : MethodName := ⟨"BassRealiserModel", "alterOf", "(II)I"⟩
theorem mk_Rm_alterOf : MK y_Rm_alterOf prog_8_method_23_code 4 (Option.some Jvm.ClassFile.FieldType.int) 2 := ⟨kw_4_18, kw_1_7, by decide, by decide, by decide +kernel⟩
abbrev y_Rm_mod : MethodName := ⟨"BassRealiserModel", "mod", "(II)I"⟩
theorem mk_Rm_mod : MK y_Rm_mod prog_8_method_14_code 2 (Option.some Jvm.ClassFile.FieldType.int) 2 := ⟨kw_4_29, kw_1_7, by decide, by decide, by decide +kernel⟩
abbrev y_Rm_classOf : MethodName := ⟨"BassRealiserModel", "classOf", "(II)I"⟩
theorem mk_Rm_classOf : MK y_Rm_classOf prog_8_method_24_code 3 (Option.some Jvm.ClassFile.FieldType.int) 2 := ⟨kw_4_26, kw_1_7, by decide, by decide, by decide +kernel⟩
abbrev y_Rm_isSuspended : MethodName := ⟨"BassRealiserModel", "isSuspended", "(II)Z"⟩
theorem mk_Rm_isSuspended : MK y_Rm_isSuspended prog_8_method_25_code 3 (Option.some Jvm.ClassFile.FieldType.boolean) 2 := ⟨kw_4_33, kw_1_7, by decide, by decide, by decide +kernel⟩
abbrev y_Rm_workedAs : MethodName := ⟨"BassRealiserModel", "workedAs", "(III)I"⟩
theorem mk_Rm_workedAs : MK y_Rm_workedAs prog_8_method_27_code 4 (Option.some Jvm.ClassFile.FieldType.int) 3 := ⟨kw_4_10, kw_1_7, by decide, by decide, by decide +kernel⟩
abbrev y_Rm_worked : MethodName := ⟨"BassRealiserModel", "worked", "(III)I"⟩
theorem mk_Rm_worked : MK y_Rm_worked prog_8_method_26_code 6 (Option.some Jvm.ClassFile.FieldType.int) 3 := ⟨kw_4_6, kw_1_7, by decide, by decide, by decide +kernel⟩
abbrev y_Ch_takes : MethodName := ⟨"BassRealiser$Chord", "takes", "(I)Z"⟩
theorem mk_Ch_takes : MK y_Ch_takes prog_2_method_14_code 2 (Option.some Jvm.ClassFile.FieldType.boolean) 1 := ⟨kw_2_141, kw_1_4, by decide, by decide, by decide +kernel⟩
abbrev y_Br_pack : MethodName := ⟨"BassRealiser", "pack", "(III)I"⟩
theorem mk_Br_pack : MK y_Br_pack prog_1_method_31_code 3 (Option.some Jvm.ClassFile.FieldType.int) 3 := ⟨kw_2_152, kw_1_1, by decide, by decide, by decide +kernel⟩
abbrev y_Br_pitchOf : MethodName := ⟨"BassRealiser", "pitchOf", "(II)I"⟩
theorem mk_Br_pitchOf : MK y_Br_pitchOf prog_1_method_32_code 2 (Option.some Jvm.ClassFile.FieldType.int) 2 := ⟨kw_2_159, kw_1_1, by decide, by decide, by decide +kernel⟩
abbrev y_Ru_outside : MethodName := ⟨"BassRealiser$Rules", "outside", "(II)Z"⟩
theorem mk_Ru_outside : MK y_Ru_outside prog_5_method_4_code 3 (Option.some Jvm.ClassFile.FieldType.boolean) 2 := ⟨kw_2_163, kw_1_3, by decide, by decide, by decide +kernel⟩
abbrev y_Ru_leadingOnes : MethodName := ⟨"BassRealiser$Rules", "leadingOnes", "(IIII)I"⟩
theorem mk_Ru_leadingOnes : MK y_Ru_leadingOnes prog_5_method_5_code 7 (Option.some Jvm.ClassFile.FieldType.int) 4 := ⟨kw_2_169, kw_1_3, by decide, by decide, by decide +kernel⟩
abbrev y_Ru_strays : MethodName := ⟨"BassRealiser$Rules", "strays", "(LBassRealiser$Chord;I)Z"⟩
theorem mk_Ru_strays : MK y_Ru_strays prog_5_method_6_code 4 (Option.some Jvm.ClassFile.FieldType.boolean) 2 := ⟨kw_2_173, kw_1_3, by decide, by decide, by decide +kernel⟩
abbrev y_Ru_ofVoicing : MethodName := ⟨"BassRealiser$Rules", "ofVoicing", "(LBassRealiser$Chord;I)I"⟩
theorem mk_Ru_ofVoicing : MK y_Ru_ofVoicing prog_5_method_3_code 7 (Option.some Jvm.ClassFile.FieldType.int) 2 := ⟨kw_2_156, kw_1_3, by decide, by decide, by decide +kernel⟩
abbrev y_Co_listBelow : MethodName := ⟨"BassRealiser$Column", "listBelow", "(LBassRealiser$Chord;LBassRealiser$Rules;II)V"⟩
theorem mk_Co_listBelow : MK y_Co_listBelow prog_3_method_3_code 10 (Option.none : Option Jvm.ClassFile.FieldType) 4 := ⟨kw_2_149, kw_1_5, by decide, by decide, by decide +kernel⟩
abbrev y_Co_list : MethodName := ⟨"BassRealiser$Column", "list", "(LBassRealiser$Chord;LBassRealiser$Rules;)V"⟩
theorem mk_Co_list : MK y_Co_list prog_3_method_2_code 6 (Option.none : Option Jvm.ClassFile.FieldType) 2 := ⟨kw_2_137, kw_1_5, by decide, by decide, by decide +kernel⟩
abbrev y_Se_listed : MethodName := ⟨"BassRealiser$Search", "listed", "(I)LBassRealiser$Column;"⟩
theorem mk_Se_listed : MK y_Se_listed prog_6_method_5_code 2 (Option.some (Jvm.ClassFile.FieldType.object "BassRealiser$Column")) 1 := ⟨kw_2_133, kw_1_2, by decide, by decide, by decide +kernel⟩
abbrev y_Br_voicings : MethodName := ⟨"BassRealiser", "voicings", "(I)I"⟩
theorem mk_Br_voicings : MK y_Br_voicings prog_1_method_13_code 2 (Option.some Jvm.ClassFile.FieldType.int) 1 := ⟨kw_2_129, kw_1_1, by decide, by decide, by decide +kernel⟩
abbrev y_Rm_look : MethodName := ⟨"BassRealiserModel", "look", "(I)V"⟩
theorem mk_Rm_look : MK y_Rm_look prog_8_method_28_code 4 (Option.none : Option Jvm.ClassFile.FieldType) 1 := ⟨kw_4_49, kw_1_7, by decide, by decide, by decide +kernel⟩
abbrev y_Rm_has : MethodName := ⟨"BassRealiserModel", "has", "(II)Z"⟩
theorem mk_Rm_has : MK y_Rm_has prog_8_method_29_code 2 (Option.some Jvm.ClassFile.FieldType.boolean) 2 := ⟨kw_4_56, kw_1_7, by decide, by decide, by decide +kernel⟩
abbrev y_Rm_classes : MethodName := ⟨"BassRealiserModel", "classes", "()I"⟩
theorem mk_Rm_classes : MK y_Rm_classes prog_8_method_30_code 3 (Option.some Jvm.ClassFile.FieldType.int) 0 := ⟨kw_4_60, kw_1_7, by decide, by decide, by decide +kernel⟩
abbrev y_Rm_aloneRule : MethodName := ⟨"BassRealiserModel", "aloneRule", "(I)I"⟩
theorem mk_Rm_aloneRule : MK y_Rm_aloneRule prog_8_method_31_code 5 (Option.some Jvm.ClassFile.FieldType.int) 1 := ⟨kw_4_53, kw_1_7, by decide, by decide, by decide +kernel⟩
abbrev y_Rm_tryAll : MethodName := ⟨"BassRealiserModel", "tryAll", "(I)V"⟩
theorem mk_Rm_tryAll : MK y_Rm_tryAll prog_8_method_35_code 5 (Option.none : Option Jvm.ClassFile.FieldType) 1 := ⟨kw_4_45, kw_1_7, by decide, by decide, by decide +kernel⟩
abbrev y_Rm_take : MethodName := ⟨"BassRealiserModel", "take", "(II[I)V"⟩
theorem mk_Rm_take : MK y_Rm_take prog_8_method_34_code 5 (Option.none : Option Jvm.ClassFile.FieldType) 3 := ⟨kw_4_64, kw_1_7, by decide, by decide, by decide +kernel⟩
abbrev y_Rm_far : MethodName := ⟨"BassRealiserModel", "far", "(II)I"⟩
theorem mk_Rm_far : MK y_Rm_far prog_8_method_36_code 2 (Option.some Jvm.ClassFile.FieldType.int) 2 := ⟨kw_4_71, kw_1_7, by decide, by decide, by decide +kernel⟩
abbrev y_Rm_isParallel : MethodName := ⟨"BassRealiserModel", "isParallel", "(II)Z"⟩
theorem mk_Rm_isParallel : MK y_Rm_isParallel prog_8_method_32_code 5 (Option.some Jvm.ClassFile.FieldType.boolean) 2 := ⟨kw_4_75, kw_1_7, by decide, by decide, by decide +kernel⟩
abbrev y_Rm_pairRule : MethodName := ⟨"BassRealiserModel", "pairRule", "(I)I"⟩
theorem mk_Rm_pairRule : MK y_Rm_pairRule prog_8_method_33_code 9 (Option.some Jvm.ClassFile.FieldType.int) 1 := ⟨kw_4_68, kw_1_7, by decide, by decide, by decide +kernel⟩
abbrev y_Rm_cost : MethodName := ⟨"BassRealiserModel", "cost", "(I)I"⟩
theorem mk_Rm_cost : MK y_Rm_cost prog_8_method_37_code 4 (Option.some Jvm.ClassFile.FieldType.int) 1 := ⟨kw_4_85, kw_1_7, by decide, by decide, by decide +kernel⟩
abbrev y_Rm_layBack : MethodName := ⟨"BassRealiserModel", "layBack", "()V"⟩
theorem mk_Rm_layBack : MK y_Rm_layBack prog_8_method_39_code 5 (Option.none : Option Jvm.ClassFile.FieldType) 0 := ⟨kw_4_80, kw_1_7, by decide, by decide, by decide +kernel⟩
abbrev y_Rm_lay : MethodName := ⟨"BassRealiserModel", "lay", "()V"⟩
theorem mk_Rm_lay : MK y_Rm_lay prog_8_method_38_code 7 (Option.none : Option Jvm.ClassFile.FieldType) 0 := ⟨kw_4_41, kw_1_7, by decide, by decide, by decide +kernel⟩
abbrev y_Rm_voicings : MethodName := ⟨"BassRealiserModel", "voicings", "(I)I"⟩
theorem mk_Rm_voicings : MK y_Rm_voicings prog_8_method_40_code 2 (Option.some Jvm.ClassFile.FieldType.int) 1 := ⟨kw_4_37, kw_1_7, by decide, by decide, by decide +kernel⟩
abbrev y_Br_voicing : MethodName := ⟨"BassRealiser", "voicing", "(III)I"⟩
theorem mk_Br_voicing : MK y_Br_voicing prog_1_method_14_code 5 (Option.some Jvm.ClassFile.FieldType.int) 3 := ⟨kw_2_177, kw_1_1, by decide, by decide, by decide +kernel⟩
abbrev y_Rm_voicing : MethodName := ⟨"BassRealiserModel", "voicing", "(III)I"⟩
theorem mk_Rm_voicing : MK y_Rm_voicing prog_8_method_41_code 4 (Option.some Jvm.ClassFile.FieldType.int) 3 := ⟨kw_4_89, kw_1_7, by decide, by decide, by decide +kernel⟩
abbrev y_Ru_ofStart : MethodName := ⟨"BassRealiser$Rules", "ofStart", "(LBassRealiser$Chord;I)I"⟩
theorem mk_Ru_ofStart : MK y_Ru_ofStart prog_5_method_7_code 4 (Option.some Jvm.ClassFile.FieldType.int) 2 := ⟨kw_2_195, kw_1_3, by decide, by decide, by decide +kernel⟩
abbrev y_Mv_leave : MethodName := ⟨"BassRealiser$Move", "leave", "(LBassRealiser$Chord;I)V"⟩
theorem mk_Mv_leave : MK y_Mv_leave prog_4_method_2_code 4 (Option.none : Option Jvm.ClassFile.FieldType) 2 := ⟨kw_2_203, kw_1_6, by decide, by decide, by decide +kernel⟩
abbrev y_Mv_arrive : MethodName := ⟨"BassRealiser$Move", "arrive", "(LBassRealiser$Chord;I)V"⟩
theorem mk_Mv_arrive : MK y_Mv_arrive prog_4_method_3_code 4 (Option.none : Option Jvm.ClassFile.FieldType) 2 := ⟨kw_2_208, kw_1_6, by decide, by decide, by decide +kernel⟩
abbrev y_Mv_leaps : MethodName := ⟨"BassRealiser$Move", "leaps", "(I)Z"⟩
theorem mk_Mv_leaps : MK y_Mv_leaps prog_4_method_6_code 3 (Option.some Jvm.ClassFile.FieldType.boolean) 1 := ⟨kw_2_216, kw_1_6, by decide, by decide, by decide +kernel⟩
abbrev y_Mv_parallel : MethodName := ⟨"BassRealiser$Move", "parallel", "(II)Z"⟩
theorem mk_Mv_parallel : MK y_Mv_parallel prog_4_method_8_code 4 (Option.some Jvm.ClassFile.FieldType.boolean) 2 := ⟨kw_2_225, kw_1_6, by decide, by decide, by decide +kernel⟩
abbrev y_Mv_hasParallels : MethodName := ⟨"BassRealiser$Move", "hasParallels", "()Z"⟩
theorem mk_Mv_hasParallels : MK y_Mv_hasParallels prog_4_method_7_code 3 (Option.some Jvm.ClassFile.FieldType.boolean) 0 := ⟨kw_2_221, kw_1_6, by decide, by decide, by decide +kernel⟩
abbrev y_Mv_unprepared : MethodName := ⟨"BassRealiser$Move", "unprepared", "()Z"⟩
theorem mk_Mv_unprepared : MK y_Mv_unprepared prog_4_method_9_code 2 (Option.some Jvm.ClassFile.FieldType.boolean) 0 := ⟨kw_2_229, kw_1_6, by decide, by decide, by decide +kernel⟩
abbrev y_Mv_unresolved : MethodName := ⟨"BassRealiser$Move", "unresolved", "()Z"⟩
theorem mk_Mv_unresolved : MK y_Mv_unresolved prog_4_method_10_code 3 (Option.some Jvm.ClassFile.FieldType.boolean) 0 := ⟨kw_2_234, kw_1_6, by decide, by decide, by decide +kernel⟩
abbrev y_Mv_rule : MethodName := ⟨"BassRealiser$Move", "rule", "(I)I"⟩
theorem mk_Mv_rule : MK y_Mv_rule prog_4_method_5_code 2 (Option.some Jvm.ClassFile.FieldType.int) 1 := ⟨kw_2_212, kw_1_6, by decide, by decide, by decide +kernel⟩
abbrev y_Se_reachable : MethodName := ⟨"BassRealiser$Search", "reachable", "(II)Z"⟩
theorem mk_Se_reachable : MK y_Se_reachable prog_6_method_8_code 5 (Option.some Jvm.ClassFile.FieldType.boolean) 2 := ⟨kw_2_199, kw_1_2, by decide, by decide, by decide +kernel⟩
abbrev y_Se_reach : MethodName := ⟨"BassRealiser$Search", "reach", "(ILBassRealiser$Column;)V"⟩
theorem mk_Se_reach : MK y_Se_reach prog_6_method_7_code 5 (Option.none : Option Jvm.ClassFile.FieldType) 2 := ⟨kw_2_191, kw_1_2, by decide, by decide, by decide +kernel⟩
abbrev y_Co_reachedAtAll : MethodName := ⟨"BassRealiser$Column", "reachedAtAll", "()Z"⟩
theorem mk_Co_reachedAtAll : MK y_Co_reachedAtAll prog_3_method_4_code 2 (Option.some Jvm.ClassFile.FieldType.boolean) 0 := ⟨kw_2_239, kw_1_5, by decide, by decide, by decide +kernel⟩
abbrev y_Mv_length : MethodName := ⟨"BassRealiser$Move", "length", "()I"⟩
theorem mk_Mv_length : MK y_Mv_length prog_4_method_4_code 1 (Option.some Jvm.ClassFile.FieldType.int) 0 := ⟨kw_3_11, kw_1_6, by decide, by decide, by decide +kernel⟩
abbrev y_Se_joined : MethodName := ⟨"BassRealiser$Search", "joined", "(II)I"⟩
theorem mk_Se_joined : MK y_Se_joined prog_6_method_11_code 2 (Option.some Jvm.ClassFile.FieldType.int) 2 := ⟨kw_3_15, kw_1_2, by decide, by decide, by decide +kernel⟩
abbrev y_Se_weighOne : MethodName := ⟨"BassRealiser$Search", "weighOne", "(II)V"⟩
theorem mk_Se_weighOne : MK y_Se_weighOne prog_6_method_10_code 8 (Option.none : Option Jvm.ClassFile.FieldType) 2 := ⟨kw_3_7, kw_1_2, by decide, by decide, by decide +kernel⟩
abbrev y_Se_weigh : MethodName := ⟨"BassRealiser$Search", "weigh", "(IZ)V"⟩
theorem mk_Se_weigh : MK y_Se_weigh prog_6_method_9_code 5 (Option.none : Option Jvm.ClassFile.FieldType) 2 := ⟨kw_3_3, kw_1_2, by decide, by decide, by decide +kernel⟩
abbrev y_Ru_farFromHome : MethodName := ⟨"BassRealiser$Rules", "farFromHome", "(I)I"⟩
theorem mk_Ru_farFromHome : MK y_Ru_farFromHome prog_5_method_2_code 4 (Option.some Jvm.ClassFile.FieldType.int) 1 := ⟨kw_3_24, kw_1_3, by decide, by decide, by decide +kernel⟩
abbrev y_Se_pickFirst : MethodName := ⟨"BassRealiser$Search", "pickFirst", "()V"⟩
theorem mk_Se_pickFirst : MK y_Se_pickFirst prog_6_method_12_code 4 (Option.none : Option Jvm.ClassFile.FieldType) 0 := ⟨kw_3_20, kw_1_2, by decide, by decide, by decide +kernel⟩
abbrev y_Se_pickNext : MethodName := ⟨"BassRealiser$Search", "pickNext", "(I)V"⟩
theorem mk_Se_pickNext : MK y_Se_pickNext prog_6_method_13_code 6 (Option.none : Option Jvm.ClassFile.FieldType) 1 := ⟨kw_3_28, kw_1_2, by decide, by decide, by decide +kernel⟩
abbrev y_Se_settle : MethodName := ⟨"BassRealiser$Search", "settle", "(I)V"⟩
theorem mk_Se_settle : MK y_Se_settle prog_6_method_6_code 3 (Option.none : Option Jvm.ClassFile.FieldType) 1 := ⟨kw_2_186, kw_1_2, by decide, by decide, by decide +kernel⟩
abbrev y_Br_solve : MethodName := ⟨"BassRealiser", "solve", "()I"⟩
theorem mk_Br_solve : MK y_Br_solve prog_1_method_15_code 1 (Option.some Jvm.ClassFile.FieldType.int) 0 := ⟨kw_2_182, kw_1_1, by decide, by decide, by decide +kernel⟩
abbrev y_Rm_best : MethodName := ⟨"BassRealiserModel", "best", "(I[I)I"⟩
theorem mk_Rm_best : MK y_Rm_best prog_8_method_42_code 7 (Option.some Jvm.ClassFile.FieldType.int) 2 := ⟨kw_4_97, kw_1_7, by decide, by decide, by decide +kernel⟩
abbrev y_Rm_solve : MethodName := ⟨"BassRealiserModel", "solve", "()I"⟩
theorem mk_Rm_solve : MK y_Rm_solve prog_8_method_43_code 1 (Option.some Jvm.ClassFile.FieldType.int) 0 := ⟨kw_4_93, kw_1_7, by decide, by decide, by decide +kernel⟩
abbrev y_Br_note : MethodName := ⟨"BassRealiser", "note", "(II)I"⟩
theorem mk_Br_note : MK y_Br_note prog_1_method_16_code 3 (Option.some Jvm.ClassFile.FieldType.int) 2 := ⟨kw_3_32, kw_1_1, by decide, by decide, by decide +kernel⟩
abbrev y_Rm_note : MethodName := ⟨"BassRealiserModel", "note", "(II)I"⟩
theorem mk_Rm_note : MK y_Rm_note prog_8_method_44_code 6 (Option.some Jvm.ClassFile.FieldType.int) 2 := ⟨kw_4_101, kw_1_7, by decide, by decide, by decide +kernel⟩
abbrev y_Br_many : MethodName := ⟨"BassRealiser", "many", "()I"⟩
theorem mk_Br_many : MK y_Br_many prog_1_method_17_code 1 (Option.some Jvm.ClassFile.FieldType.int) 0 := ⟨kw_3_36, kw_1_1, by decide, by decide, by decide +kernel⟩
abbrev y_Rm_many_0 : MethodName := ⟨"BassRealiserModel", "many", "()I"⟩
theorem mk_Rm_many_0 : MK y_Rm_many_0 prog_8_method_45_code 4 (Option.some Jvm.ClassFile.FieldType.int) 0 := ⟨kw_4_105, kw_1_7, by decide, by decide, by decide +kernel⟩
abbrev y_Br_sing : MethodName := ⟨"BassRealiser", "sing", "(IIII)I"⟩
theorem mk_Br_sing : MK y_Br_sing prog_1_method_18_code 5 (Option.some Jvm.ClassFile.FieldType.int) 4 := ⟨kw_3_40, kw_1_1, by decide, by decide, by decide +kernel⟩
abbrev y_Rm_sing : MethodName := ⟨"BassRealiserModel", "sing", "(IIII)I"⟩
theorem mk_Rm_sing : MK y_Rm_sing prog_8_method_46_code 5 (Option.some Jvm.ClassFile.FieldType.int) 4 := ⟨kw_4_110, kw_1_7, by decide, by decide, by decide +kernel⟩
abbrev y_Br_moveTo : MethodName := ⟨"BassRealiser", "moveTo", "(I)LBassRealiser$Move;"⟩
theorem mk_Br_moveTo : MK y_Br_moveTo prog_1_method_23_code 2 (Option.some (Jvm.ClassFile.FieldType.object "BassRealiser$Move")) 1 := ⟨kw_3_55, kw_1_1, by decide, by decide, by decide +kernel⟩
abbrev y_Br_faultAt : MethodName := ⟨"BassRealiser", "faultAt", "(I)I"⟩
theorem mk_Br_faultAt : MK y_Br_faultAt prog_1_method_22_code 4 (Option.some Jvm.ClassFile.FieldType.int) 1 := ⟨kw_3_49, kw_1_1, by decide, by decide, by decide +kernel⟩
abbrev y_Br_fault : MethodName := ⟨"BassRealiser", "fault", "(I)I"⟩
theorem mk_Br_fault : MK y_Br_fault prog_1_method_19_code 2 (Option.some Jvm.ClassFile.FieldType.int) 1 := ⟨kw_3_45, kw_1_1, by decide, by decide, by decide +kernel⟩
abbrev y_Rm_takeSung : MethodName := ⟨"BassRealiserModel", "takeSung", "(I[I)V"⟩
theorem mk_Rm_takeSung : MK y_Rm_takeSung prog_8_method_47_code 4 (Option.none : Option Jvm.ClassFile.FieldType) 2 := ⟨kw_4_122, kw_1_7, by decide, by decide, by decide +kernel⟩
abbrev y_Rm_faultOf : MethodName := ⟨"BassRealiserModel", "faultOf", "(I)I"⟩
theorem mk_Rm_faultOf : MK y_Rm_faultOf prog_8_method_48_code 3 (Option.some Jvm.ClassFile.FieldType.int) 1 := ⟨kw_4_118, kw_1_7, by decide, by decide, by decide +kernel⟩
abbrev y_Rm_fault : MethodName := ⟨"BassRealiserModel", "fault", "(I)I"⟩
theorem mk_Rm_fault : MK y_Rm_fault prog_8_method_49_code 2 (Option.some Jvm.ClassFile.FieldType.int) 1 := ⟨kw_4_114, kw_1_7, by decide, by decide, by decide +kernel⟩
abbrev y_Br_sung : MethodName := ⟨"BassRealiser", "sung", "()I"⟩
theorem mk_Br_sung : MK y_Br_sung prog_1_method_20_code 4 (Option.some Jvm.ClassFile.FieldType.int) 0 := ⟨kw_3_62, kw_1_1, by decide, by decide, by decide +kernel⟩
abbrev y_Rm_sung : MethodName := ⟨"BassRealiserModel", "sung", "()I"⟩
theorem mk_Rm_sung : MK y_Rm_sung prog_8_method_50_code 3 (Option.some Jvm.ClassFile.FieldType.int) 0 := ⟨kw_4_126, kw_1_7, by decide, by decide, by decide +kernel⟩
abbrev y_Br_figuresTold : MethodName := ⟨"BassRealiser", "figuresTold", "()I"⟩
theorem mk_Br_figuresTold : MK y_Br_figuresTold prog_1_method_24_code 3 (Option.some Jvm.ClassFile.FieldType.int) 0 := ⟨kw_3_72, kw_1_1, by decide, by decide, by decide +kernel⟩
abbrev y_Br_chordsSung : MethodName := ⟨"BassRealiser", "chordsSung", "()I"⟩
theorem mk_Br_chordsSung : MK y_Br_chordsSung prog_1_method_25_code 3 (Option.some Jvm.ClassFile.FieldType.int) 0 := ⟨kw_3_76, kw_1_1, by decide, by decide, by decide +kernel⟩
abbrev y_Br_pitchesGiven : MethodName := ⟨"BassRealiser", "pitchesGiven", "()I"⟩
theorem mk_Br_pitchesGiven : MK y_Br_pitchesGiven prog_1_method_26_code 4 (Option.some Jvm.ClassFile.FieldType.int) 0 := ⟨kw_3_80, kw_1_1, by decide, by decide, by decide +kernel⟩
abbrev y_Br_count : MethodName := ⟨"BassRealiser", "count", "(I)I"⟩
theorem mk_Br_count : MK y_Br_count prog_1_method_21_code 2 (Option.some Jvm.ClassFile.FieldType.int) 1 := ⟨kw_3_68, kw_1_1, by decide, by decide, by decide +kernel⟩
abbrev y_Rm_count : MethodName := ⟨"BassRealiserModel", "count", "(I)I"⟩
theorem mk_Rm_count : MK y_Rm_count prog_8_method_51_code 5 (Option.some Jvm.ClassFile.FieldType.int) 1 := ⟨kw_4_130, kw_1_7, by decide, by decide, by decide +kernel⟩
theorem vk_Br_bass : VK y_Br_bass := ⟨kw_2_111, kw_2_112⟩
theorem vk_Br_chord : VK y_Br_chord := ⟨kw_2_41, kw_2_42⟩
theorem vk_Br_chordsSung : VK y_Br_chordsSung := ⟨kw_3_75, ks_18⟩
theorem vk_Br_count : VK y_Br_count := ⟨kw_3_66, kw_3_67⟩
theorem vk_Br_fault : VK y_Br_fault := ⟨kw_3_43, kw_3_44⟩
theorem vk_Br_faultAt : VK y_Br_faultAt := ⟨kw_3_48, ks_15⟩
theorem vk_Br_figure : VK y_Br_figure := ⟨kw_2_61, kw_2_62⟩
theorem vk_Br_figuresTold : VK y_Br_figuresTold := ⟨kw_3_71, ks_17⟩
theorem vk_Br_given : VK y_Br_given := ⟨kw_2_107, kw_2_108⟩
theorem vk_Br_hasChord : VK y_Br_hasChord := ⟨kw_2_66, ks_0⟩
theorem vk_Br_home : VK y_Br_home := ⟨kw_2_95, kw_2_96⟩
theorem vk_Br_key : VK y_Br_key := ⟨kw_1_223, kw_1_224⟩
theorem vk_Br_leap : VK y_Br_leap := ⟨kw_2_103, kw_2_104⟩
theorem vk_Br_less : VK y_Br_less := ⟨kw_2_57, kw_2_58⟩
theorem vk_Br_many : VK y_Br_many := ⟨kw_3_34, kw_3_35⟩
theorem vk_Br_moveTo : VK y_Br_moveTo := ⟨kw_3_54, ks_16⟩
theorem vk_Br_note : VK y_Br_note := ⟨kw_3_30, kw_3_31⟩
theorem vk_Br_pitchesGiven : VK y_Br_pitchesGiven := ⟨kw_3_79, ks_19⟩
theorem vk_Br_plain : VK y_Br_plain := ⟨kw_2_80, kw_2_81⟩
theorem vk_Br_range : VK y_Br_range := ⟨kw_2_85, kw_2_86⟩
theorem vk_Br_sing : VK y_Br_sing := ⟨kw_3_38, kw_3_39⟩
theorem vk_Br_solve : VK y_Br_solve := ⟨kw_2_180, kw_2_181⟩
theorem vk_Br_sung : VK y_Br_sung := ⟨kw_3_60, kw_3_61⟩
theorem vk_Br_voicing : VK y_Br_voicing := ⟨kw_2_175, kw_2_176⟩
theorem vk_Br_voicings : VK y_Br_voicings := ⟨kw_2_127, kw_2_128⟩
theorem vk_Br_worked : VK y_Br_worked := ⟨kw_2_115, kw_2_116⟩
theorem vk_Ch_about : VK y_Ch_about := ⟨kw_2_123, kw_2_124⟩
theorem vk_Ch_begin : VK y_Ch_begin := ⟨kw_2_45, kw_2_46⟩
theorem vk_Ch_kind : VK y_Ch_kind := ⟨kw_2_30, kw_2_31⟩
theorem vk_Ch_nthWorked : VK y_Ch_nthWorked := ⟨kw_2_119, kw_2_120⟩
theorem vk_Ch_takes : VK y_Ch_takes := ⟨kw_2_139, kw_2_140⟩
theorem vk_Ch_tell : VK y_Ch_tell := ⟨kw_2_76, kw_2_77⟩
theorem vk_Ch_toneAlter : VK y_Ch_toneAlter := ⟨kw_2_10, kw_2_11⟩
theorem vk_Ch_toneClass : VK y_Ch_toneClass := ⟨kw_2_0, kw_2_1⟩
theorem vk_Ch_toneLetter : VK y_Ch_toneLetter := ⟨kw_2_6, kw_2_7⟩
theorem vk_Ch_tune : VK y_Ch_tune := ⟨kw_1_230, kw_1_231⟩
theorem vk_Ch_untell : VK y_Ch_untell := ⟨kw_2_49, kw_2_50⟩
theorem vk_Co_list : VK y_Co_list := ⟨kw_2_135, kw_2_136⟩
theorem vk_Co_listBelow : VK y_Co_listBelow := ⟨kw_2_148, ks_1⟩
theorem vk_Co_reachedAtAll : VK y_Co_reachedAtAll := ⟨kw_2_237, kw_2_238⟩
theorem vk_Mv_arrive : VK y_Mv_arrive := ⟨kw_2_206, kw_2_207⟩
theorem vk_Mv_hasParallels : VK y_Mv_hasParallels := ⟨kw_2_220, ks_7⟩
theorem vk_Mv_leaps : VK y_Mv_leaps := ⟨kw_2_215, ks_6⟩
theorem vk_Mv_leave : VK y_Mv_leave := ⟨kw_2_201, kw_2_202⟩
theorem vk_Mv_length : VK y_Mv_length := ⟨kw_3_9, kw_3_10⟩
theorem vk_Mv_parallel : VK y_Mv_parallel := ⟨kw_2_224, ks_8⟩
theorem vk_Mv_rule : VK y_Mv_rule := ⟨kw_2_210, kw_2_211⟩
theorem vk_Mv_unprepared : VK y_Mv_unprepared := ⟨kw_2_228, ks_9⟩
theorem vk_Mv_unresolved : VK y_Mv_unresolved := ⟨kw_2_233, ks_10⟩
theorem vk_Ru_farFromHome : VK y_Ru_farFromHome := ⟨kw_3_22, kw_3_23⟩
theorem vk_Ru_leadingOnes : VK y_Ru_leadingOnes := ⟨kw_2_168, ks_3⟩
theorem vk_Ru_ofStart : VK y_Ru_ofStart := ⟨kw_2_193, kw_2_194⟩
theorem vk_Ru_ofVoicing : VK y_Ru_ofVoicing := ⟨kw_2_154, kw_2_155⟩
theorem vk_Ru_outside : VK y_Ru_outside := ⟨kw_2_162, ks_2⟩
theorem vk_Se_forgetAll : VK y_Se_forgetAll := ⟨kw_2_37, kw_2_38⟩
theorem vk_Se_forgetChord : VK y_Se_forgetChord := ⟨kw_2_53, kw_2_54⟩
theorem vk_Se_forgetRealising : VK y_Se_forgetRealising := ⟨kw_2_99, kw_2_100⟩
theorem vk_Se_listed : VK y_Se_listed := ⟨kw_2_131, kw_2_132⟩
theorem vk_Se_pickFirst : VK y_Se_pickFirst := ⟨kw_3_19, ks_13⟩
theorem vk_Se_pickNext : VK y_Se_pickNext := ⟨kw_3_27, ks_14⟩
theorem vk_Se_reach : VK y_Se_reach := ⟨kw_2_190, ks_4⟩
theorem vk_Se_reachable : VK y_Se_reachable := ⟨kw_2_198, ks_5⟩
theorem vk_Se_settle : VK y_Se_settle := ⟨kw_2_184, kw_2_185⟩
theorem vk_Se_weigh : VK y_Se_weigh := ⟨kw_3_2, ks_11⟩
theorem vk_Se_weighOne : VK y_Se_weighOne := ⟨kw_3_6, ks_12⟩
theorem vk_Rm_aloneRule : VK y_Rm_aloneRule := ⟨kw_4_52, ks_34⟩
theorem vk_Rm_alterOf : VK y_Rm_alterOf := ⟨kw_4_17, ks_27⟩
theorem vk_Rm_bass : VK y_Rm_bass := ⟨kw_3_233, kw_3_234⟩
theorem vk_Rm_bassOf : VK y_Rm_bassOf := ⟨kw_3_238, ks_24⟩
theorem vk_Rm_best : VK y_Rm_best := ⟨kw_4_96, ks_41⟩
theorem vk_Rm_chord : VK y_Rm_chord := ⟨kw_3_177, kw_3_178⟩
theorem vk_Rm_classOf : VK y_Rm_classOf := ⟨kw_4_25, ks_29⟩
theorem vk_Rm_classes : VK y_Rm_classes := ⟨kw_4_59, ks_35⟩
theorem vk_Rm_cost : VK y_Rm_cost := ⟨kw_4_84, ks_40⟩
theorem vk_Rm_count : VK y_Rm_count := ⟨kw_4_128, kw_4_129⟩
theorem vk_Rm_fault : VK y_Rm_fault := ⟨kw_4_112, kw_4_113⟩
theorem vk_Rm_faultOf : VK y_Rm_faultOf := ⟨kw_4_117, ks_42⟩
theorem vk_Rm_figure : VK y_Rm_figure := ⟨kw_3_188, kw_3_189⟩
theorem vk_Rm_given : VK y_Rm_given := ⟨kw_3_229, kw_3_230⟩
theorem vk_Rm_home : VK y_Rm_home := ⟨kw_3_220, kw_3_221⟩
theorem vk_Rm_isParallel : VK y_Rm_isParallel := ⟨kw_4_74, ks_38⟩
theorem vk_Rm_isSuspended : VK y_Rm_isSuspended := ⟨kw_4_32, ks_30⟩
theorem vk_Rm_isTold : VK y_Rm_isTold := ⟨kw_3_208, ks_23⟩
theorem vk_Rm_isWorked : VK y_Rm_isWorked := ⟨kw_3_204, ks_22⟩
theorem vk_Rm_key : VK y_Rm_key := ⟨kw_3_168, kw_3_169⟩
theorem vk_Rm_keyOf : VK y_Rm_keyOf := ⟨kw_4_21, ks_28⟩
theorem vk_Rm_lay : VK y_Rm_lay := ⟨kw_4_40, ks_31⟩
theorem vk_Rm_layBack : VK y_Rm_layBack := ⟨kw_4_79, ks_39⟩
theorem vk_Rm_leap : VK y_Rm_leap := ⟨kw_3_224, kw_3_225⟩
theorem vk_Rm_less : VK y_Rm_less := ⟨kw_3_184, kw_3_185⟩
theorem vk_Rm_letterOf : VK y_Rm_letterOf := ⟨kw_4_13, ks_26⟩
theorem vk_Rm_look : VK y_Rm_look := ⟨kw_4_48, ks_33⟩
theorem vk_Rm_many_0 : VK y_Rm_many_0 := ⟨kw_4_103, kw_4_104⟩
theorem vk_Rm_many_i1 : VK y_Rm_many_i1 := ⟨kw_3_200, ks_21⟩
theorem vk_Rm_noChord : VK y_Rm_noChord := ⟨kw_3_193, ks_20⟩
theorem vk_Rm_note : VK y_Rm_note := ⟨kw_4_99, kw_4_100⟩
theorem vk_Rm_pairRule : VK y_Rm_pairRule := ⟨kw_4_67, ks_37⟩
theorem vk_Rm_plain : VK y_Rm_plain := ⟨kw_3_211, kw_3_212⟩
theorem vk_Rm_range : VK y_Rm_range := ⟨kw_3_215, kw_3_216⟩
theorem vk_Rm_sing : VK y_Rm_sing := ⟨kw_4_108, kw_4_109⟩
theorem vk_Rm_solve : VK y_Rm_solve := ⟨kw_4_91, kw_4_92⟩
theorem vk_Rm_sung : VK y_Rm_sung := ⟨kw_4_124, kw_4_125⟩
theorem vk_Rm_take : VK y_Rm_take := ⟨kw_4_63, ks_36⟩
theorem vk_Rm_takeSung : VK y_Rm_takeSung := ⟨kw_4_121, ks_43⟩
theorem vk_Rm_tryAll : VK y_Rm_tryAll := ⟨kw_4_44, ks_32⟩
theorem vk_Rm_voicing : VK y_Rm_voicing := ⟨kw_4_87, kw_4_88⟩
theorem vk_Rm_voicings : VK y_Rm_voicings := ⟨kw_4_35, kw_4_36⟩
theorem vk_Rm_worked : VK y_Rm_worked := ⟨kw_4_4, kw_4_5⟩
theorem vk_Rm_workedAs : VK y_Rm_workedAs := ⟨kw_4_9, ks_25⟩
end
section
theorem d_Ru_init_0 : decode prog_5_method_1_code 0 = .ok (.aload_n 0, 1) := by decide +kernel
theorem d_Ru_init_1 : decode prog_5_method_1_code 1 = .ok (.invokespecial 3, 3) := by decide +kernel
theorem d_Ru_init_4 : decode prog_5_method_1_code 4 = .ok (.aload_n 0, 1) := by decide +kernel
theorem d_Ru_init_5 : decode prog_5_method_1_code 5 = .ok (.iconst 3, 1) := by decide +kernel
theorem d_Ru_init_6 : decode prog_5_method_1_code 6 = .ok (.newarray .int, 2) := by decide +kernel
theorem d_Ru_init_8 : decode prog_5_method_1_code 8 = .ok (.dup, 1) := by decide +kernel
theorem d_Ru_init_9 : decode prog_5_method_1_code 9 = .ok (.iconst 0, 1) := by decide +kernel
theorem d_Ru_init_10 : decode prog_5_method_1_code 10 = .ok (.bipush 60, 2) := by decide +kernel
theorem d_Ru_init_12 : decode prog_5_method_1_code 12 = .ok (.iastore, 1) := by decide +kernel
theorem d_Ru_init_13 : decode prog_5_method_1_code 13 = .ok (.dup, 1) := by decide +kernel
theorem d_Ru_init_14 : decode prog_5_method_1_code 14 = .ok (.iconst 1, 1) := by decide +kernel
theorem d_Ru_init_15 : decode prog_5_method_1_code 15 = .ok (.bipush 55, 2) := by decide +kernel
theorem d_Ru_init_17 : decode prog_5_method_1_code 17 = .ok (.iastore, 1) := by decide +kernel
theorem d_Ru_init_18 : decode prog_5_method_1_code 18 = .ok (.dup, 1) := by decide +kernel
theorem d_Ru_init_19 : decode prog_5_method_1_code 19 = .ok (.iconst 2, 1) := by decide +kernel
theorem d_Ru_init_20 : decode prog_5_method_1_code 20 = .ok (.bipush 48, 2) := by decide +kernel
theorem d_Ru_init_22 : decode prog_5_method_1_code 22 = .ok (.iastore, 1) := by decide +kernel
theorem d_Ru_init_23 : decode prog_5_method_1_code 23 = .ok (.putfield 9, 3) := by decide +kernel
theorem d_Ru_init_26 : decode prog_5_method_1_code 26 = .ok (.aload_n 0, 1) := by decide +kernel
theorem d_Ru_init_27 : decode prog_5_method_1_code 27 = .ok (.iconst 3, 1) := by decide +kernel
theorem d_Ru_init_28 : decode prog_5_method_1_code 28 = .ok (.newarray .int, 2) := by decide +kernel
theorem d_Ru_init_30 : decode prog_5_method_1_code 30 = .ok (.dup, 1) := by decide +kernel
theorem d_Ru_init_31 : decode prog_5_method_1_code 31 = .ok (.iconst 0, 1) := by decide +kernel
theorem d_Ru_init_32 : decode prog_5_method_1_code 32 = .ok (.bipush 81, 2) := by decide +kernel
theorem d_Ru_init_34 : decode prog_5_method_1_code 34 = .ok (.iastore, 1) := by decide +kernel
theorem d_Ru_init_35 : decode prog_5_method_1_code 35 = .ok (.dup, 1) := by decide +kernel
theorem d_Ru_init_36 : decode prog_5_method_1_code 36 = .ok (.iconst 1, 1) := by decide +kernel
theorem d_Ru_init_37 : decode prog_5_method_1_code 37 = .ok (.bipush 74, 2) := by decide +kernel
theorem d_Ru_init_39 : decode prog_5_method_1_code 39 = .ok (.iastore, 1) := by decide +kernel
theorem d_Ru_init_40 : decode prog_5_method_1_code 40 = .ok (.dup, 1) := by decide +kernel
theorem d_Ru_init_41 : decode prog_5_method_1_code 41 = .ok (.iconst 2, 1) := by decide +kernel
theorem d_Ru_init_42 : decode prog_5_method_1_code 42 = .ok (.bipush 69, 2) := by decide +kernel
theorem d_Ru_init_44 : decode prog_5_method_1_code 44 = .ok (.iastore, 1) := by decide +kernel
theorem d_Ru_init_45 : decode prog_5_method_1_code 45 = .ok (.putfield 15, 3) := by decide +kernel
theorem d_Ru_init_48 : decode prog_5_method_1_code 48 = .ok (.aload_n 0, 1) := by decide +kernel
theorem d_Ru_init_49 : decode prog_5_method_1_code 49 = .ok (.iconst 3, 1) := by decide +kernel
theorem d_Ru_init_50 : decode prog_5_method_1_code 50 = .ok (.newarray .int, 2) := by decide +kernel
theorem d_Ru_init_52 : decode prog_5_method_1_code 52 = .ok (.dup, 1) := by decide +kernel
theorem d_Ru_init_53 : decode prog_5_method_1_code 53 = .ok (.iconst 0, 1) := by decide +kernel
theorem d_Ru_init_54 : decode prog_5_method_1_code 54 = .ok (.bipush 72, 2) := by decide +kernel
theorem d_Ru_init_56 : decode prog_5_method_1_code 56 = .ok (.iastore, 1) := by decide +kernel
theorem d_Ru_init_57 : decode prog_5_method_1_code 57 = .ok (.dup, 1) := by decide +kernel
theorem d_Ru_init_58 : decode prog_5_method_1_code 58 = .ok (.iconst 1, 1) := by decide +kernel
theorem d_Ru_init_59 : decode prog_5_method_1_code 59 = .ok (.bipush 67, 2) := by decide +kernel
theorem d_Ru_init_61 : decode prog_5_method_1_code 61 = .ok (.iastore, 1) := by decide +kernel
theorem d_Ru_init_62 : decode prog_5_method_1_code 62 = .ok (.dup, 1) := by decide +kernel
theorem d_Ru_init_63 : decode prog_5_method_1_code 63 = .ok (.iconst 2, 1) := by decide +kernel
theorem d_Ru_init_64 : decode prog_5_method_1_code 64 = .ok (.bipush 60, 2) := by decide +kernel
theorem d_Ru_init_66 : decode prog_5_method_1_code 66 = .ok (.iastore, 1) := by decide +kernel
theorem d_Ru_init_67 : decode prog_5_method_1_code 67 = .ok (.putfield 18, 3) := by decide +kernel
theorem d_Ru_init_70 : decode prog_5_method_1_code 70 = .ok (.aload_n 0, 1) := by decide +kernel
theorem d_Ru_init_71 : decode prog_5_method_1_code 71 = .ok (.bipush 12, 2) := by decide +kernel
theorem d_Ru_init_73 : decode prog_5_method_1_code 73 = .ok (.putfield 21, 3) := by decide +kernel
theorem d_Ru_init_76 : decode prog_5_method_1_code 76 = .ok (.aload_n 0, 1) := by decide +kernel
theorem d_Ru_init_77 : decode prog_5_method_1_code 77 = .ok (.iconst 0, 1) := by decide +kernel
theorem d_Ru_init_78 : decode prog_5_method_1_code 78 = .ok (.putfield 25, 3) := by decide +kernel
theorem d_Ru_init_81 : decode prog_5_method_1_code 81 = .ok (.return_, 1) := by decide +kernel
theorem d_Ch_init_0 : decode prog_2_method_1_code 0 = .ok (.aload_n 0, 1) := by decide +kernel
theorem d_Ch_init_1 : decode prog_2_method_1_code 1 = .ok (.invokespecial 3, 3) := by decide +kernel
theorem d_Ch_init_4 : decode prog_2_method_1_code 4 = .ok (.aload_n 0, 1) := by decide +kernel
theorem d_Ch_init_5 : decode prog_2_method_1_code 5 = .ok (.bipush 10, 2) := by decide +kernel
theorem d_Ch_init_7 : decode prog_2_method_1_code 7 = .ok (.newarray .int, 2) := by decide +kernel
theorem d_Ch_init_9 : decode prog_2_method_1_code 9 = .ok (.putfield 9, 3) := by decide +kernel
theorem d_Ch_init_12 : decode prog_2_method_1_code 12 = .ok (.aload_n 0, 1) := by decide +kernel
theorem d_Ch_init_13 : decode prog_2_method_1_code 13 = .ok (.iconst 3, 1) := by decide +kernel
theorem d_Ch_init_14 : decode prog_2_method_1_code 14 = .ok (.newarray .int, 2) := by decide +kernel
theorem d_Ch_init_16 : decode prog_2_method_1_code 16 = .ok (.putfield 15, 3) := by decide +kernel
theorem d_Ch_init_19 : decode prog_2_method_1_code 19 = .ok (.aload_n 0, 1) := by decide +kernel
theorem d_Ch_init_20 : decode prog_2_method_1_code 20 = .ok (.iconst (-1), 1) := by decide +kernel
theorem d_Ch_init_21 : decode prog_2_method_1_code 21 = .ok (.putfield 18, 3) := by decide +kernel
theorem d_Ch_init_24 : decode prog_2_method_1_code 24 = .ok (.return_, 1) := by decide +kernel
theorem d_Co_init_0 : decode prog_3_method_1_code 0 = .ok (.aload_n 0, 1) := by decide +kernel
theorem d_Co_init_1 : decode prog_3_method_1_code 1 = .ok (.invokespecial 3, 3) := by decide +kernel
theorem d_Co_init_4 : decode prog_3_method_1_code 4 = .ok (.aload_n 0, 1) := by decide +kernel
theorem d_Co_init_5 : decode prog_3_method_1_code 5 = .ok (.bipush 112, 2) := by decide +kernel
theorem d_Co_init_7 : decode prog_3_method_1_code 7 = .ok (.newarray .int, 2) := by decide +kernel
theorem d_Co_init_9 : decode prog_3_method_1_code 9 = .ok (.putfield 11, 3) := by decide +kernel
theorem d_Co_init_12 : decode prog_3_method_1_code 12 = .ok (.aload_n 0, 1) := by decide +kernel
theorem d_Co_init_13 : decode prog_3_method_1_code 13 = .ok (.bipush 112, 2) := by decide +kernel
theorem d_Co_init_15 : decode prog_3_method_1_code 15 = .ok (.newarray .boolean, 2) := by decide +kernel
theorem d_Co_init_17 : decode prog_3_method_1_code 17 = .ok (.putfield 15, 3) := by decide +kernel
theorem d_Co_init_20 : decode prog_3_method_1_code 20 = .ok (.aload_n 0, 1) := by decide +kernel
theorem d_Co_init_21 : decode prog_3_method_1_code 21 = .ok (.bipush 112, 2) := by decide +kernel
theorem d_Co_init_23 : decode prog_3_method_1_code 23 = .ok (.newarray .int, 2) := by decide +kernel
theorem d_Co_init_25 : decode prog_3_method_1_code 25 = .ok (.putfield 19, 3) := by decide +kernel
theorem d_Co_init_28 : decode prog_3_method_1_code 28 = .ok (.aload_n 0, 1) := by decide +kernel
theorem d_Co_init_29 : decode prog_3_method_1_code 29 = .ok (.bipush 112, 2) := by decide +kernel
theorem d_Co_init_31 : decode prog_3_method_1_code 31 = .ok (.newarray .int, 2) := by decide +kernel
theorem d_Co_init_33 : decode prog_3_method_1_code 33 = .ok (.putfield 22, 3) := by decide +kernel
theorem d_Co_init_36 : decode prog_3_method_1_code 36 = .ok (.return_, 1) := by decide +kernel
theorem d_Mv_init_0 : decode prog_4_method_1_code 0 = .ok (.aload_n 0, 1) := by decide +kernel
theorem d_Mv_init_1 : decode prog_4_method_1_code 1 = .ok (.invokespecial 3, 3) := by decide +kernel
theorem d_Mv_init_4 : decode prog_4_method_1_code 4 = .ok (.aload_n 0, 1) := by decide +kernel
theorem d_Mv_init_5 : decode prog_4_method_1_code 5 = .ok (.iconst 4, 1) := by decide +kernel
theorem d_Mv_init_6 : decode prog_4_method_1_code 6 = .ok (.newarray .int, 2) := by decide +kernel
theorem d_Mv_init_8 : decode prog_4_method_1_code 8 = .ok (.putfield 11, 3) := by decide +kernel
theorem d_Mv_init_11 : decode prog_4_method_1_code 11 = .ok (.aload_n 0, 1) := by decide +kernel
theorem d_Mv_init_12 : decode prog_4_method_1_code 12 = .ok (.iconst 4, 1) := by decide +kernel
theorem d_Mv_init_13 : decode prog_4_method_1_code 13 = .ok (.newarray .int, 2) := by decide +kernel
theorem d_Mv_init_15 : decode prog_4_method_1_code 15 = .ok (.putfield 15, 3) := by decide +kernel
theorem d_Mv_init_18 : decode prog_4_method_1_code 18 = .ok (.aload_n 0, 1) := by decide +kernel
theorem d_Mv_init_19 : decode prog_4_method_1_code 19 = .ok (.iconst 4, 1) := by decide +kernel
theorem d_Mv_init_20 : decode prog_4_method_1_code 20 = .ok (.newarray .int, 2) := by decide +kernel
theorem d_Mv_init_22 : decode prog_4_method_1_code 22 = .ok (.putfield 18, 3) := by decide +kernel
theorem d_Mv_init_25 : decode prog_4_method_1_code 25 = .ok (.return_, 1) := by decide +kernel
theorem d_Se_init_0 : decode prog_6_method_1_code 0 = .ok (.aload_n 0, 1) := by decide +kernel
theorem d_Se_init_1 : decode prog_6_method_1_code 1 = .ok (.invokespecial 3, 3) := by decide +kernel
theorem d_Se_init_4 : decode prog_6_method_1_code 4 = .ok (.aload_n 0, 1) := by decide +kernel
theorem d_Se_init_5 : decode prog_6_method_1_code 5 = .ok (.bipush 12, 2) := by decide +kernel
theorem d_Se_init_7 : decode prog_6_method_1_code 7 = .ok (.anewarray 9, 3) := by decide +kernel
theorem d_Se_init_10 : decode prog_6_method_1_code 10 = .ok (.putfield 11, 3) := by decide +kernel
theorem d_Se_init_13 : decode prog_6_method_1_code 13 = .ok (.aload_n 0, 1) := by decide +kernel
theorem d_Se_init_14 : decode prog_6_method_1_code 14 = .ok (.new 17, 3) := by decide +kernel
theorem d_Se_init_17 : decode prog_6_method_1_code 17 = .ok (.dup, 1) := by decide +kernel
theorem d_Se_init_18 : decode prog_6_method_1_code 18 = .ok (.invokespecial 19, 3) := by decide +kernel
theorem d_Se_init_21 : decode prog_6_method_1_code 21 = .ok (.putfield 20, 3) := by decide +kernel
theorem d_Se_init_24 : decode prog_6_method_1_code 24 = .ok (.aload_n 0, 1) := by decide +kernel
theorem d_Se_init_25 : decode prog_6_method_1_code 25 = .ok (.bipush 12, 2) := by decide +kernel
theorem d_Se_init_27 : decode prog_6_method_1_code 27 = .ok (.anewarray 24, 3) := by decide +kernel
theorem d_Se_init_30 : decode prog_6_method_1_code 30 = .ok (.putfield 26, 3) := by decide +kernel
theorem d_Se_init_33 : decode prog_6_method_1_code 33 = .ok (.iconst 0, 1) := by decide +kernel
theorem d_Se_init_34 : decode prog_6_method_1_code 34 = .ok (.istore_n 1, 1) := by decide +kernel
theorem d_Se_init_35 : decode prog_6_method_1_code 35 = .ok (.iload_n 1, 1) := by decide +kernel
theorem d_Se_init_36 : decode prog_6_method_1_code 36 = .ok (.bipush 12, 2) := by decide +kernel
theorem d_Se_init_38 : decode prog_6_method_1_code 38 = .ok (.if_icmp .ge 35, 3) := by decide +kernel
theorem d_Se_init_41 : decode prog_6_method_1_code 41 = .ok (.aload_n 0, 1) := by decide +kernel
theorem d_Se_init_42 : decode prog_6_method_1_code 42 = .ok (.getfield 11, 3) := by decide +kernel
theorem d_Se_init_45 : decode prog_6_method_1_code 45 = .ok (.iload_n 1, 1) := by decide +kernel
theorem d_Se_init_46 : decode prog_6_method_1_code 46 = .ok (.new 9, 3) := by decide +kernel
theorem d_Se_init_49 : decode prog_6_method_1_code 49 = .ok (.dup, 1) := by decide +kernel
theorem d_Se_init_50 : decode prog_6_method_1_code 50 = .ok (.invokespecial 30, 3) := by decide +kernel
theorem d_Se_init_53 : decode prog_6_method_1_code 53 = .ok (.aastore, 1) := by decide +kernel
theorem d_Se_init_54 : decode prog_6_method_1_code 54 = .ok (.aload_n 0, 1) := by decide +kernel
theorem d_Se_init_55 : decode prog_6_method_1_code 55 = .ok (.getfield 26, 3) := by decide +kernel
theorem d_Se_init_58 : decode prog_6_method_1_code 58 = .ok (.iload_n 1, 1) := by decide +kernel
theorem d_Se_init_59 : decode prog_6_method_1_code 59 = .ok (.new 24, 3) := by decide +kernel
theorem d_Se_init_62 : decode prog_6_method_1_code 62 = .ok (.dup, 1) := by decide +kernel
theorem d_Se_init_63 : decode prog_6_method_1_code 63 = .ok (.invokespecial 31, 3) := by decide +kernel
theorem d_Se_init_66 : decode prog_6_method_1_code 66 = .ok (.aastore, 1) := by decide +kernel
theorem d_Se_init_67 : decode prog_6_method_1_code 67 = .ok (.iinc 1 1, 3) := by decide +kernel
theorem d_Se_init_70 : decode prog_6_method_1_code 70 = .ok (.goto (-35), 3) := by decide +kernel
theorem d_Se_init_73 : decode prog_6_method_1_code 73 = .ok (.aload_n 0, 1) := by decide +kernel
theorem d_Se_init_74 : decode prog_6_method_1_code 74 = .ok (.new 32, 3) := by decide +kernel
theorem d_Se_init_77 : decode prog_6_method_1_code 77 = .ok (.dup, 1) := by decide +kernel
theorem d_Se_init_78 : decode prog_6_method_1_code 78 = .ok (.invokespecial 34, 3) := by decide +kernel
theorem d_Se_init_81 : decode prog_6_method_1_code 81 = .ok (.putfield 35, 3) := by decide +kernel
theorem d_Se_init_84 : decode prog_6_method_1_code 84 = .ok (.aload_n 0, 1) := by decide +kernel
theorem d_Se_init_85 : decode prog_6_method_1_code 85 = .ok (.bipush 12, 2) := by decide +kernel
theorem d_Se_init_87 : decode prog_6_method_1_code 87 = .ok (.newarray .int, 2) := by decide +kernel
theorem d_Se_init_89 : decode prog_6_method_1_code 89 = .ok (.putfield 39, 3) := by decide +kernel
theorem d_Se_init_92 : decode prog_6_method_1_code 92 = .ok (.aload_n 0, 1) := by decide +kernel
theorem d_Se_init_93 : decode prog_6_method_1_code 93 = .ok (.iconst (-1), 1) := by decide +kernel
theorem d_Se_init_94 : decode prog_6_method_1_code 94 = .ok (.putfield 43, 3) := by decide +kernel
theorem d_Se_init_97 : decode prog_6_method_1_code 97 = .ok (.return_, 1) := by decide +kernel
theorem d_Br_init_0 : decode prog_1_method_1_code 0 = .ok (.aload_n 0, 1) := by decide +kernel
theorem d_Br_init_1 : decode prog_1_method_1_code 1 = .ok (.invokespecial 1, 3) := by decide +kernel
theorem d_Br_init_4 : decode prog_1_method_1_code 4 = .ok (.aload_n 0, 1) := by decide +kernel
theorem d_Br_init_5 : decode prog_1_method_1_code 5 = .ok (.new 7, 3) := by decide +kernel
theorem d_Br_init_8 : decode prog_1_method_1_code 8 = .ok (.dup, 1) := by decide +kernel
theorem d_Br_init_9 : decode prog_1_method_1_code 9 = .ok (.invokespecial 9, 3) := by decide +kernel
theorem d_Br_init_12 : decode prog_1_method_1_code 12 = .ok (.putfield 10, 3) := by decide +kernel
theorem d_Br_init_15 : decode prog_1_method_1_code 15 = .ok (.aload_n 0, 1) := by decide +kernel
theorem d_Br_init_16 : decode prog_1_method_1_code 16 = .ok (.aload_n 0, 1) := by decide +kernel
theorem d_Br_init_17 : decode prog_1_method_1_code 17 = .ok (.getfield 10, 3) := by decide +kernel
theorem d_Br_init_20 : decode prog_1_method_1_code 20 = .ok (.getfield 16, 3) := by decide +kernel
theorem d_Br_init_23 : decode prog_1_method_1_code 23 = .ok (.putfield 20, 3) := by decide +kernel
theorem d_Br_init_26 : decode prog_1_method_1_code 26 = .ok (.aload_n 0, 1) := by decide +kernel
theorem d_Br_init_27 : decode prog_1_method_1_code 27 = .ok (.aload_n 0, 1) := by decide +kernel
theorem d_Br_init_28 : decode prog_1_method_1_code 28 = .ok (.getfield 10, 3) := by decide +kernel
theorem d_Br_init_31 : decode prog_1_method_1_code 31 = .ok (.getfield 21, 3) := by decide +kernel
theorem d_Br_init_34 : decode prog_1_method_1_code 34 = .ok (.putfield 25, 3) := by decide +kernel
theorem d_Br_init_37 : decode prog_1_method_1_code 37 = .ok (.aload_n 0, 1) := by decide +kernel
theorem d_Br_init_38 : decode prog_1_method_1_code 38 = .ok (.new 26, 3) := by decide +kernel
theorem d_Br_init_41 : decode prog_1_method_1_code 41 = .ok (.dup, 1) := by decide +kernel
theorem d_Br_init_42 : decode prog_1_method_1_code 42 = .ok (.invokespecial 28, 3) := by decide +kernel
theorem d_Br_init_45 : decode prog_1_method_1_code 45 = .ok (.putfield 29, 3) := by decide +kernel
theorem d_Br_init_48 : decode prog_1_method_1_code 48 = .ok (.aload_n 0, 1) := by decide +kernel
theorem d_Br_init_49 : decode prog_1_method_1_code 49 = .ok (.iconst 0, 1) := by decide +kernel
theorem d_Br_init_50 : decode prog_1_method_1_code 50 = .ok (.putfield 33, 3) := by decide +kernel
theorem d_Br_init_53 : decode prog_1_method_1_code 53 = .ok (.return_, 1) := by decide +kernel
theorem d_Rm_init_0 : decode prog_8_method_3_code 0 = .ok (.aload_n 0, 1) := by decide +kernel
theorem d_Rm_init_1 : decode prog_8_method_3_code 1 = .ok (.invokespecial 7, 3) := by decide +kernel
theorem d_Rm_init_4 : decode prog_8_method_3_code 4 = .ok (.aload_n 0, 1) := by decide +kernel
theorem d_Rm_init_5 : decode prog_8_method_3_code 5 = .ok (.bipush 12, 2) := by decide +kernel
theorem d_Rm_init_7 : decode prog_8_method_3_code 7 = .ok (.newarray .int, 2) := by decide +kernel
theorem d_Rm_init_9 : decode prog_8_method_3_code 9 = .ok (.putfield 13, 3) := by decide +kernel
theorem d_Rm_init_12 : decode prog_8_method_3_code 12 = .ok (.aload_n 0, 1) := by decide +kernel
theorem d_Rm_init_13 : decode prog_8_method_3_code 13 = .ok (.bipush 12, 2) := by decide +kernel
theorem d_Rm_init_15 : decode prog_8_method_3_code 15 = .ok (.newarray .int, 2) := by decide +kernel
theorem d_Rm_init_17 : decode prog_8_method_3_code 17 = .ok (.putfield 17, 3) := by decide +kernel
theorem d_Rm_init_20 : decode prog_8_method_3_code 20 = .ok (.aload_n 0, 1) := by decide +kernel
theorem d_Rm_init_21 : decode prog_8_method_3_code 21 = .ok (.bipush 12, 2) := by decide +kernel
theorem d_Rm_init_23 : decode prog_8_method_3_code 23 = .ok (.newarray .int, 2) := by decide +kernel
theorem d_Rm_init_25 : decode prog_8_method_3_code 25 = .ok (.putfield 20, 3) := by decide +kernel
theorem d_Rm_init_28 : decode prog_8_method_3_code 28 = .ok (.aload_n 0, 1) := by decide +kernel
theorem d_Rm_init_29 : decode prog_8_method_3_code 29 = .ok (.bipush 120, 2) := by decide +kernel
theorem d_Rm_init_31 : decode prog_8_method_3_code 31 = .ok (.newarray .int, 2) := by decide +kernel
theorem d_Rm_init_33 : decode prog_8_method_3_code 33 = .ok (.putfield 23, 3) := by decide +kernel
theorem d_Rm_init_36 : decode prog_8_method_3_code 36 = .ok (.aload_n 0, 1) := by decide +kernel
theorem d_Rm_init_37 : decode prog_8_method_3_code 37 = .ok (.iconst 3, 1) := by decide +kernel
theorem d_Rm_init_38 : decode prog_8_method_3_code 38 = .ok (.newarray .int, 2) := by decide +kernel
theorem d_Rm_init_40 : decode prog_8_method_3_code 40 = .ok (.putfield 26, 3) := by decide +kernel
theorem d_Rm_init_43 : decode prog_8_method_3_code 43 = .ok (.aload_n 0, 1) := by decide +kernel
theorem d_Rm_init_44 : decode prog_8_method_3_code 44 = .ok (.iconst 3, 1) := by decide +kernel
theorem d_Rm_init_45 : decode prog_8_method_3_code 45 = .ok (.newarray .int, 2) := by decide +kernel
theorem d_Rm_init_47 : decode prog_8_method_3_code 47 = .ok (.putfield 29, 3) := by decide +kernel
theorem d_Rm_init_50 : decode prog_8_method_3_code 50 = .ok (.aload_n 0, 1) := by decide +kernel
theorem d_Rm_init_51 : decode prog_8_method_3_code 51 = .ok (.iconst 3, 1) := by decide +kernel
theorem d_Rm_init_52 : decode prog_8_method_3_code 52 = .ok (.newarray .int, 2) := by decide +kernel
theorem d_Rm_init_54 : decode prog_8_method_3_code 54 = .ok (.putfield 32, 3) := by decide +kernel
theorem d_Rm_init_57 : decode prog_8_method_3_code 57 = .ok (.aload_n 0, 1) := by decide +kernel
theorem d_Rm_init_58 : decode prog_8_method_3_code 58 = .ok (.bipush 12, 2) := by decide +kernel
theorem d_Rm_init_60 : decode prog_8_method_3_code 60 = .ok (.putfield 35, 3) := by decide +kernel
theorem d_Rm_init_63 : decode prog_8_method_3_code 63 = .ok (.aload_n 0, 1) := by decide +kernel
theorem d_Rm_init_64 : decode prog_8_method_3_code 64 = .ok (.bipush 36, 2) := by decide +kernel
theorem d_Rm_init_66 : decode prog_8_method_3_code 66 = .ok (.newarray .int, 2) := by decide +kernel
theorem d_Rm_init_68 : decode prog_8_method_3_code 68 = .ok (.putfield 38, 3) := by decide +kernel
theorem d_Rm_init_71 : decode prog_8_method_3_code 71 = .ok (.aload_n 0, 1) := by decide +kernel
theorem d_Rm_init_72 : decode prog_8_method_3_code 72 = .ok (.bipush 36, 2) := by decide +kernel
theorem d_Rm_init_74 : decode prog_8_method_3_code 74 = .ok (.newarray .int, 2) := by decide +kernel
theorem d_Rm_init_76 : decode prog_8_method_3_code 76 = .ok (.putfield 41, 3) := by decide +kernel
theorem d_Rm_init_79 : decode prog_8_method_3_code 79 = .ok (.aload_n 0, 1) := by decide +kernel
theorem d_Rm_init_80 : decode prog_8_method_3_code 80 = .ok (.bipush 12, 2) := by decide +kernel
theorem d_Rm_init_82 : decode prog_8_method_3_code 82 = .ok (.newarray .boolean, 2) := by decide +kernel
theorem d_Rm_init_84 : decode prog_8_method_3_code 84 = .ok (.putfield 44, 3) := by decide +kernel
theorem d_Rm_init_87 : decode prog_8_method_3_code 87 = .ok (.aload_n 0, 1) := by decide +kernel
theorem d_Rm_init_88 : decode prog_8_method_3_code 88 = .ok (.iconst 4, 1) := by decide +kernel
theorem d_Rm_init_89 : decode prog_8_method_3_code 89 = .ok (.newarray .int, 2) := by decide +kernel
theorem d_Rm_init_91 : decode prog_8_method_3_code 91 = .ok (.putfield 48, 3) := by decide +kernel
theorem d_Rm_init_94 : decode prog_8_method_3_code 94 = .ok (.aload_n 0, 1) := by decide +kernel
theorem d_Rm_init_95 : decode prog_8_method_3_code 95 = .ok (.iconst 4, 1) := by decide +kernel
theorem d_Rm_init_96 : decode prog_8_method_3_code 96 = .ok (.newarray .int, 2) := by decide +kernel
theorem d_Rm_init_98 : decode prog_8_method_3_code 98 = .ok (.putfield 51, 3) := by decide +kernel
theorem d_Rm_init_101 : decode prog_8_method_3_code 101 = .ok (.aload_n 0, 1) := by decide +kernel
theorem d_Rm_init_102 : decode prog_8_method_3_code 102 = .ok (.bipush 12, 2) := by decide +kernel
theorem d_Rm_init_104 : decode prog_8_method_3_code 104 = .ok (.newarray .int, 2) := by decide +kernel
theorem d_Rm_init_106 : decode prog_8_method_3_code 106 = .ok (.putfield 54, 3) := by decide +kernel
theorem d_Rm_init_109 : decode prog_8_method_3_code 109 = .ok (.aload_n 0, 1) := by decide +kernel
theorem d_Rm_init_110 : decode prog_8_method_3_code 110 = .ok (.bipush 12, 2) := by decide +kernel
theorem d_Rm_init_112 : decode prog_8_method_3_code 112 = .ok (.newarray .int, 2) := by decide +kernel
theorem d_Rm_init_114 : decode prog_8_method_3_code 114 = .ok (.putfield 57, 3) := by decide +kernel
theorem d_Rm_init_117 : decode prog_8_method_3_code 117 = .ok (.aload_n 0, 1) := by decide +kernel
theorem d_Rm_init_118 : decode prog_8_method_3_code 118 = .ok (.bipush 12, 2) := by decide +kernel
theorem d_Rm_init_120 : decode prog_8_method_3_code 120 = .ok (.newarray .int, 2) := by decide +kernel
theorem d_Rm_init_122 : decode prog_8_method_3_code 122 = .ok (.putfield 60, 3) := by decide +kernel
theorem d_Rm_init_125 : decode prog_8_method_3_code 125 = .ok (.aload_n 0, 1) := by decide +kernel
theorem d_Rm_init_126 : decode prog_8_method_3_code 126 = .ok (.sipush 28800, 3) := by decide +kernel
theorem d_Rm_init_129 : decode prog_8_method_3_code 129 = .ok (.newarray .int, 2) := by decide +kernel
theorem d_Rm_init_131 : decode prog_8_method_3_code 131 = .ok (.putfield 63, 3) := by decide +kernel
theorem d_Rm_init_134 : decode prog_8_method_3_code 134 = .ok (.aload_n 0, 1) := by decide +kernel
theorem d_Rm_init_135 : decode prog_8_method_3_code 135 = .ok (.bipush 12, 2) := by decide +kernel
theorem d_Rm_init_137 : decode prog_8_method_3_code 137 = .ok (.newarray .int, 2) := by decide +kernel
theorem d_Rm_init_139 : decode prog_8_method_3_code 139 = .ok (.putfield 66, 3) := by decide +kernel
theorem d_Rm_init_142 : decode prog_8_method_3_code 142 = .ok (.aload_n 0, 1) := by decide +kernel
theorem d_Rm_init_143 : decode prog_8_method_3_code 143 = .ok (.sipush 9600, 3) := by decide +kernel
theorem d_Rm_init_146 : decode prog_8_method_3_code 146 = .ok (.newarray .int, 2) := by decide +kernel
theorem d_Rm_init_148 : decode prog_8_method_3_code 148 = .ok (.putfield 69, 3) := by decide +kernel
theorem d_Rm_init_151 : decode prog_8_method_3_code 151 = .ok (.aload_n 0, 1) := by decide +kernel
theorem d_Rm_init_152 : decode prog_8_method_3_code 152 = .ok (.sipush 9600, 3) := by decide +kernel
theorem d_Rm_init_155 : decode prog_8_method_3_code 155 = .ok (.newarray .long, 2) := by decide +kernel
theorem d_Rm_init_157 : decode prog_8_method_3_code 157 = .ok (.putfield 72, 3) := by decide +kernel
theorem d_Rm_init_160 : decode prog_8_method_3_code 160 = .ok (.aload_n 0, 1) := by decide +kernel
theorem d_Rm_init_161 : decode prog_8_method_3_code 161 = .ok (.iconst 4, 1) := by decide +kernel
theorem d_Rm_init_162 : decode prog_8_method_3_code 162 = .ok (.newarray .int, 2) := by decide +kernel
theorem d_Rm_init_164 : decode prog_8_method_3_code 164 = .ok (.putfield 76, 3) := by decide +kernel
theorem d_Rm_init_167 : decode prog_8_method_3_code 167 = .ok (.aload_n 0, 1) := by decide +kernel
theorem d_Rm_init_168 : decode prog_8_method_3_code 168 = .ok (.iconst 0, 1) := by decide +kernel
theorem d_Rm_init_169 : decode prog_8_method_3_code 169 = .ok (.putfield 1, 3) := by decide +kernel
theorem d_Rm_init_172 : decode prog_8_method_3_code 172 = .ok (.iconst 0, 1) := by decide +kernel
theorem d_Rm_init_173 : decode prog_8_method_3_code 173 = .ok (.istore_n 1, 1) := by decide +kernel
theorem d_Rm_init_174 : decode prog_8_method_3_code 174 = .ok (.iload_n 1, 1) := by decide +kernel
theorem d_Rm_init_175 : decode prog_8_method_3_code 175 = .ok (.iconst 3, 1) := by decide +kernel
theorem d_Rm_init_176 : decode prog_8_method_3_code 176 = .ok (.if_icmp .ge 90, 3) := by decide +kernel
theorem d_Rm_init_179 : decode prog_8_method_3_code 179 = .ok (.aload_n 0, 1) := by decide +kernel
theorem d_Rm_init_180 : decode prog_8_method_3_code 180 = .ok (.getfield 26, 3) := by decide +kernel
theorem d_Rm_init_183 : decode prog_8_method_3_code 183 = .ok (.iload_n 1, 1) := by decide +kernel
theorem d_Rm_init_184 : decode prog_8_method_3_code 184 = .ok (.iload_n 1, 1) := by decide +kernel
theorem d_Rm_init_185 : decode prog_8_method_3_code 185 = .ok (.ifCond .ne 8, 3) := by decide +kernel
theorem d_Rm_init_188 : decode prog_8_method_3_code 188 = .ok (.bipush 60, 2) := by decide +kernel
theorem d_Rm_init_190 : decode prog_8_method_3_code 190 = .ok (.goto 15, 3) := by decide +kernel
theorem d_Rm_init_193 : decode prog_8_method_3_code 193 = .ok (.iload_n 1, 1) := by decide +kernel
theorem d_Rm_init_194 : decode prog_8_method_3_code 194 = .ok (.iconst 1, 1) := by decide +kernel
theorem d_Rm_init_195 : decode prog_8_method_3_code 195 = .ok (.if_icmp .ne 8, 3) := by decide +kernel
theorem d_Rm_init_198 : decode prog_8_method_3_code 198 = .ok (.bipush 55, 2) := by decide +kernel
theorem d_Rm_init_200 : decode prog_8_method_3_code 200 = .ok (.goto 5, 3) := by decide +kernel
theorem d_Rm_init_203 : decode prog_8_method_3_code 203 = .ok (.bipush 48, 2) := by decide +kernel
theorem d_Rm_init_205 : decode prog_8_method_3_code 205 = .ok (.iastore, 1) := by decide +kernel
theorem d_Rm_init_206 : decode prog_8_method_3_code 206 = .ok (.aload_n 0, 1) := by decide +kernel
theorem d_Rm_init_207 : decode prog_8_method_3_code 207 = .ok (.getfield 29, 3) := by decide +kernel
theorem d_Rm_init_210 : decode prog_8_method_3_code 210 = .ok (.iload_n 1, 1) := by decide +kernel
theorem d_Rm_init_211 : decode prog_8_method_3_code 211 = .ok (.iload_n 1, 1) := by decide +kernel
theorem d_Rm_init_212 : decode prog_8_method_3_code 212 = .ok (.ifCond .ne 8, 3) := by decide +kernel
theorem d_Rm_init_215 : decode prog_8_method_3_code 215 = .ok (.bipush 81, 2) := by decide +kernel
theorem d_Rm_init_217 : decode prog_8_method_3_code 217 = .ok (.goto 15, 3) := by decide +kernel
theorem d_Rm_init_220 : decode prog_8_method_3_code 220 = .ok (.iload_n 1, 1) := by decide +kernel
theorem d_Rm_init_221 : decode prog_8_method_3_code 221 = .ok (.iconst 1, 1) := by decide +kernel
theorem d_Rm_init_222 : decode prog_8_method_3_code 222 = .ok (.if_icmp .ne 8, 3) := by decide +kernel
theorem d_Rm_init_225 : decode prog_8_method_3_code 225 = .ok (.bipush 74, 2) := by decide +kernel
theorem d_Rm_init_227 : decode prog_8_method_3_code 227 = .ok (.goto 5, 3) := by decide +kernel
theorem d_Rm_init_230 : decode prog_8_method_3_code 230 = .ok (.bipush 69, 2) := by decide +kernel
theorem d_Rm_init_232 : decode prog_8_method_3_code 232 = .ok (.iastore, 1) := by decide +kernel
theorem d_Rm_init_233 : decode prog_8_method_3_code 233 = .ok (.aload_n 0, 1) := by decide +kernel
theorem d_Rm_init_234 : decode prog_8_method_3_code 234 = .ok (.getfield 32, 3) := by decide +kernel
theorem d_Rm_init_237 : decode prog_8_method_3_code 237 = .ok (.iload_n 1, 1) := by decide +kernel
theorem d_Rm_init_238 : decode prog_8_method_3_code 238 = .ok (.iload_n 1, 1) := by decide +kernel
theorem d_Rm_init_239 : decode prog_8_method_3_code 239 = .ok (.ifCond .ne 8, 3) := by decide +kernel
theorem d_Rm_init_242 : decode prog_8_method_3_code 242 = .ok (.bipush 72, 2) := by decide +kernel
theorem d_Rm_init_244 : decode prog_8_method_3_code 244 = .ok (.goto 15, 3) := by decide +kernel
theorem d_Rm_init_247 : decode prog_8_method_3_code 247 = .ok (.iload_n 1, 1) := by decide +kernel
theorem d_Rm_init_248 : decode prog_8_method_3_code 248 = .ok (.iconst 1, 1) := by decide +kernel
theorem d_Rm_init_249 : decode prog_8_method_3_code 249 = .ok (.if_icmp .ne 8, 3) := by decide +kernel
theorem d_Rm_init_252 : decode prog_8_method_3_code 252 = .ok (.bipush 67, 2) := by decide +kernel
theorem d_Rm_init_254 : decode prog_8_method_3_code 254 = .ok (.goto 5, 3) := by decide +kernel
theorem d_Rm_init_257 : decode prog_8_method_3_code 257 = .ok (.bipush 60, 2) := by decide +kernel
theorem d_Rm_init_259 : decode prog_8_method_3_code 259 = .ok (.iastore, 1) := by decide +kernel
theorem d_Rm_init_260 : decode prog_8_method_3_code 260 = .ok (.iinc 1 1, 3) := by decide +kernel
theorem d_Rm_init_263 : decode prog_8_method_3_code 263 = .ok (.goto (-89), 3) := by decide +kernel
theorem d_Rm_init_266 : decode prog_8_method_3_code 266 = .ok (.return_, 1) := by decide +kernel
theorem d_Br_within_0 : decode prog_1_method_30_code 0 = .ok (.iload_n 0, 1) := by decide +kernel
theorem d_Br_within_1 : decode prog_1_method_30_code 1 = .ok (.iload_n 1, 1) := by decide +kernel
theorem d_Br_within_2 : decode prog_1_method_30_code 2 = .ok (.if_icmp .lt 12, 3) := by decide +kernel
theorem d_Br_within_5 : decode prog_1_method_30_code 5 = .ok (.iload_n 0, 1) := by decide +kernel
theorem d_Br_within_6 : decode prog_1_method_30_code 6 = .ok (.iload_n 2, 1) := by decide +kernel
theorem d_Br_within_7 : decode prog_1_method_30_code 7 = .ok (.if_icmp .gt 7, 3) := by decide +kernel
theorem d_Br_within_10 : decode prog_1_method_30_code 10 = .ok (.iconst 1, 1) := by decide +kernel
theorem d_Br_within_11 : decode prog_1_method_30_code 11 = .ok (.goto 4, 3) := by decide +kernel
theorem d_Br_within_14 : decode prog_1_method_30_code 14 = .ok (.iconst 0, 1) := by decide +kernel
theorem d_Br_within_15 : decode prog_1_method_30_code 15 = .ok (.ireturn, 1) := by decide +kernel
theorem d_Ch_has_0 : decode prog_2_method_7_code 0 = .ok (.iload_n 0, 1) := by decide +kernel
theorem d_Ch_has_1 : decode prog_2_method_7_code 1 = .ok (.iconst 1, 1) := by decide +kernel
theorem d_Ch_has_2 : decode prog_2_method_7_code 2 = .ok (.iload_n 1, 1) := by decide +kernel
theorem d_Ch_has_3 : decode prog_2_method_7_code 3 = .ok (.ishl, 1) := by decide +kernel
theorem d_Ch_has_4 : decode prog_2_method_7_code 4 = .ok (.iand, 1) := by decide +kernel
theorem d_Ch_has_5 : decode prog_2_method_7_code 5 = .ok (.ifCond .eq 7, 3) := by decide +kernel
theorem d_Ch_has_8 : decode prog_2_method_7_code 8 = .ok (.iconst 1, 1) := by decide +kernel
theorem d_Ch_has_9 : decode prog_2_method_7_code 9 = .ok (.goto 4, 3) := by decide +kernel
theorem d_Ch_has_12 : decode prog_2_method_7_code 12 = .ok (.iconst 0, 1) := by decide +kernel
theorem d_Ch_has_13 : decode prog_2_method_7_code 13 = .ok (.ireturn, 1) := by decide +kernel
theorem d_Ch_complete_0 : decode prog_2_method_6_code 0 = .ok (.iload_n 0, 1) := by decide +kernel
theorem d_Ch_complete_1 : decode prog_2_method_6_code 1 = .ok (.iconst 2, 1) := by decide +kernel
theorem d_Ch_complete_2 : decode prog_2_method_6_code 2 = .ok (.invokestatic 53, 3) := by decide +kernel
theorem d_Ch_complete_5 : decode prog_2_method_6_code 5 = .ok (.ifCond .eq 15, 3) := by decide +kernel
theorem d_Ch_complete_8 : decode prog_2_method_6_code 8 = .ok (.iload_n 0, 1) := by decide +kernel
theorem d_Ch_complete_9 : decode prog_2_method_6_code 9 = .ok (.iconst 5, 1) := by decide +kernel
theorem d_Ch_complete_10 : decode prog_2_method_6_code 10 = .ok (.invokestatic 53, 3) := by decide +kernel
theorem d_Ch_complete_13 : decode prog_2_method_6_code 13 = .ok (.ifCond .ne 7, 3) := by decide +kernel
theorem d_Ch_complete_16 : decode prog_2_method_6_code 16 = .ok (.iconst 1, 1) := by decide +kernel
theorem d_Ch_complete_17 : decode prog_2_method_6_code 17 = .ok (.goto 4, 3) := by decide +kernel
theorem d_Ch_complete_20 : decode prog_2_method_6_code 20 = .ok (.iconst 0, 1) := by decide +kernel
theorem d_Ch_complete_21 : decode prog_2_method_6_code 21 = .ok (.istore_n 1, 1) := by decide +kernel
theorem d_Ch_complete_22 : decode prog_2_method_6_code 22 = .ok (.iload_n 0, 1) := by decide +kernel
theorem d_Ch_complete_23 : decode prog_2_method_6_code 23 = .ok (.iconst 3, 1) := by decide +kernel
theorem d_Ch_complete_24 : decode prog_2_method_6_code 24 = .ok (.invokestatic 53, 3) := by decide +kernel
theorem d_Ch_complete_27 : decode prog_2_method_6_code 27 = .ok (.ifCond .eq 15, 3) := by decide +kernel
theorem d_Ch_complete_30 : decode prog_2_method_6_code 30 = .ok (.iload_n 0, 1) := by decide +kernel
theorem d_Ch_complete_31 : decode prog_2_method_6_code 31 = .ok (.iconst 4, 1) := by decide +kernel
theorem d_Ch_complete_32 : decode prog_2_method_6_code 32 = .ok (.invokestatic 53, 3) := by decide +kernel
theorem d_Ch_complete_35 : decode prog_2_method_6_code 35 = .ok (.ifCond .eq 7, 3) := by decide +kernel
theorem d_Ch_complete_38 : decode prog_2_method_6_code 38 = .ok (.iconst 1, 1) := by decide +kernel
theorem d_Ch_complete_39 : decode prog_2_method_6_code 39 = .ok (.goto 4, 3) := by decide +kernel
theorem d_Ch_complete_42 : decode prog_2_method_6_code 42 = .ok (.iconst 0, 1) := by decide +kernel
theorem d_Ch_complete_43 : decode prog_2_method_6_code 43 = .ok (.istore_n 2, 1) := by decide +kernel
theorem d_Ch_complete_44 : decode prog_2_method_6_code 44 = .ok (.iload_n 0, 1) := by decide +kernel
theorem d_Ch_complete_45 : decode prog_2_method_6_code 45 = .ok (.bipush 7, 2) := by decide +kernel
theorem d_Ch_complete_47 : decode prog_2_method_6_code 47 = .ok (.invokestatic 53, 3) := by decide +kernel
theorem d_Ch_complete_50 : decode prog_2_method_6_code 50 = .ok (.ifCond .eq 16, 3) := by decide +kernel
theorem d_Ch_complete_53 : decode prog_2_method_6_code 53 = .ok (.iload_n 0, 1) := by decide +kernel
theorem d_Ch_complete_54 : decode prog_2_method_6_code 54 = .ok (.bipush 9, 2) := by decide +kernel
theorem d_Ch_complete_56 : decode prog_2_method_6_code 56 = .ok (.invokestatic 53, 3) := by decide +kernel
theorem d_Ch_complete_59 : decode prog_2_method_6_code 59 = .ok (.ifCond .eq 7, 3) := by decide +kernel
theorem d_Ch_complete_62 : decode prog_2_method_6_code 62 = .ok (.iconst 1, 1) := by decide +kernel
theorem d_Ch_complete_63 : decode prog_2_method_6_code 63 = .ok (.goto 4, 3) := by decide +kernel
theorem d_Ch_complete_66 : decode prog_2_method_6_code 66 = .ok (.iconst 0, 1) := by decide +kernel
theorem d_Ch_complete_67 : decode prog_2_method_6_code 67 = .ok (.istore_n 3, 1) := by decide +kernel
theorem d_Ch_complete_68 : decode prog_2_method_6_code 68 = .ok (.iload_n 0, 1) := by decide +kernel
theorem d_Ch_complete_69 : decode prog_2_method_6_code 69 = .ok (.istore 4, 2) := by decide +kernel
theorem d_Ch_complete_71 : decode prog_2_method_6_code 71 = .ok (.iload_n 0, 1) := by decide +kernel
theorem d_Ch_complete_72 : decode prog_2_method_6_code 72 = .ok (.iconst 2, 1) := by decide +kernel
theorem d_Ch_complete_73 : decode prog_2_method_6_code 73 = .ok (.invokestatic 53, 3) := by decide +kernel
theorem d_Ch_complete_76 : decode prog_2_method_6_code 76 = .ok (.ifCond .ne 18, 3) := by decide +kernel
theorem d_Ch_complete_79 : decode prog_2_method_6_code 79 = .ok (.iload_n 0, 1) := by decide +kernel
theorem d_Ch_complete_80 : decode prog_2_method_6_code 80 = .ok (.iconst 4, 1) := by decide +kernel
theorem d_Ch_complete_81 : decode prog_2_method_6_code 81 = .ok (.invokestatic 53, 3) := by decide +kernel
theorem d_Ch_complete_84 : decode prog_2_method_6_code 84 = .ok (.ifCond .ne 10, 3) := by decide +kernel
theorem d_Ch_complete_87 : decode prog_2_method_6_code 87 = .ok (.iload 4, 2) := by decide +kernel
theorem d_Ch_complete_89 : decode prog_2_method_6_code 89 = .ok (.bipush 8, 2) := by decide +kernel
theorem d_Ch_complete_91 : decode prog_2_method_6_code 91 = .ok (.ior, 1) := by decide +kernel
theorem d_Ch_complete_92 : decode prog_2_method_6_code 92 = .ok (.istore 4, 2) := by decide +kernel
theorem d_Ch_complete_94 : decode prog_2_method_6_code 94 = .ok (.iload_n 1, 1) := by decide +kernel
theorem d_Ch_complete_95 : decode prog_2_method_6_code 95 = .ok (.ifCond .eq 10, 3) := by decide +kernel
theorem d_Ch_complete_98 : decode prog_2_method_6_code 98 = .ok (.iload 4, 2) := by decide +kernel
theorem d_Ch_complete_100 : decode prog_2_method_6_code 100 = .ok (.bipush 16, 2) := by decide +kernel
theorem d_Ch_complete_102 : decode prog_2_method_6_code 102 = .ok (.ior, 1) := by decide +kernel
theorem d_Ch_complete_103 : decode prog_2_method_6_code 103 = .ok (.istore 4, 2) := by decide +kernel
theorem d_Ch_complete_105 : decode prog_2_method_6_code 105 = .ok (.iload_n 0, 1) := by decide +kernel
theorem d_Ch_complete_106 : decode prog_2_method_6_code 106 = .ok (.iconst 2, 1) := by decide +kernel
theorem d_Ch_complete_107 : decode prog_2_method_6_code 107 = .ok (.invokestatic 53, 3) := by decide +kernel
theorem d_Ch_complete_110 : decode prog_2_method_6_code 110 = .ok (.ifCond .ne 27, 3) := by decide +kernel
theorem d_Ch_complete_113 : decode prog_2_method_6_code 113 = .ok (.iload_n 0, 1) := by decide +kernel
theorem d_Ch_complete_114 : decode prog_2_method_6_code 114 = .ok (.bipush 6, 2) := by decide +kernel
theorem d_Ch_complete_116 : decode prog_2_method_6_code 116 = .ok (.invokestatic 53, 3) := by decide +kernel
theorem d_Ch_complete_119 : decode prog_2_method_6_code 119 = .ok (.ifCond .ne 18, 3) := by decide +kernel
theorem d_Ch_complete_122 : decode prog_2_method_6_code 122 = .ok (.iload_n 2, 1) := by decide +kernel
theorem d_Ch_complete_123 : decode prog_2_method_6_code 123 = .ok (.ifCond .ne 14, 3) := by decide +kernel
theorem d_Ch_complete_126 : decode prog_2_method_6_code 126 = .ok (.iload_n 3, 1) := by decide +kernel
theorem d_Ch_complete_127 : decode prog_2_method_6_code 127 = .ok (.ifCond .ne 10, 3) := by decide +kernel
theorem d_Ch_complete_130 : decode prog_2_method_6_code 130 = .ok (.iload 4, 2) := by decide +kernel
theorem d_Ch_complete_132 : decode prog_2_method_6_code 132 = .ok (.bipush 32, 2) := by decide +kernel
theorem d_Ch_complete_134 : decode prog_2_method_6_code 134 = .ok (.ior, 1) := by decide +kernel
theorem d_Ch_complete_135 : decode prog_2_method_6_code 135 = .ok (.istore 4, 2) := by decide +kernel
theorem d_Ch_complete_137 : decode prog_2_method_6_code 137 = .ok (.iload_n 1, 1) := by decide +kernel
theorem d_Ch_complete_138 : decode prog_2_method_6_code 138 = .ok (.ifCond .ne 7, 3) := by decide +kernel
theorem d_Ch_complete_141 : decode prog_2_method_6_code 141 = .ok (.iload_n 2, 1) := by decide +kernel
theorem d_Ch_complete_142 : decode prog_2_method_6_code 142 = .ok (.ifCond .eq 10, 3) := by decide +kernel
theorem d_Ch_complete_145 : decode prog_2_method_6_code 145 = .ok (.iload 4, 2) := by decide +kernel
theorem d_Ch_complete_147 : decode prog_2_method_6_code 147 = .ok (.bipush 64, 2) := by decide +kernel
theorem d_Ch_complete_149 : decode prog_2_method_6_code 149 = .ok (.ior, 1) := by decide +kernel
theorem d_Ch_complete_150 : decode prog_2_method_6_code 150 = .ok (.istore 4, 2) := by decide +kernel
theorem d_Ch_complete_152 : decode prog_2_method_6_code 152 = .ok (.iload 4, 2) := by decide +kernel
theorem d_Ch_complete_154 : decode prog_2_method_6_code 154 = .ok (.ireturn, 1) := by decide +kernel
def wp_Ru_init (Post : MH → Prop) (cn : Nat) (sn : Nat) (l0 : Nat) (h : MH) : Prop :=
  (cn + 1 ≤ 3 ∧ sn + 3 ≤ 9) ∧ ∀ (k6 : Nat) (h6 : MH), k6 = h.1 → h6 = mnew h (.inr (0, 3, .inl (fun _ => 0))) →
  (∃ (n12 : Nat) (f12 : Nat → Int32), gA h6 k6 0 = some (n12, f12) ∧ vp_in (0 : Int32) n12 ∧ ∀ h12 : MH, h12 = mset h6 k6 (.inr (0, n12, .inl (upd f12 ((0 : Int32)).toNatClampNeg (60 : Int32)))) →
    (∃ (n17 : Nat) (f17 : Nat → Int32), gA h12 k6 0 = some (n17, f17) ∧ vp_in (1 : Int32) n17 ∧ ∀ h17 : MH, h17 = mset h12 k6 (.inr (0, n17, .inl (upd f17 ((1 : Int32)).toNatClampNeg (55 : Int32)))) →
      (∃ (n22 : Nat) (f22 : Nat → Int32), gA h17 k6 0 = some (n22, f22) ∧ vp_in (2 : Int32) n22 ∧ ∀ h22 : MH, h22 = mset h17 k6 (.inr (0, n22, .inl (upd f22 ((2 : Int32)).toNatClampNeg (48 : Int32)))) →
        ((∃ o : MV, gF h22 l0 3 0 = some o) ∧ ∀ h23 : MH, h23 = fset h22 l0 0 (.inr (some k6) : MV) →
          (((cn + 1) + 1 ≤ 3 ∧ (sn + 3) + 3 ≤ 9) ∧ ∀ (k28 : Nat) (h28 : MH), k28 = h23.1 → h28 = mnew h23 (.inr (0, 3, .inl (fun _ => 0))) →
            (∃ (n34 : Nat) (f34 : Nat → Int32), gA h28 k28 0 = some (n34, f34) ∧ vp_in (0 : Int32) n34 ∧ ∀ h34 : MH, h34 = mset h28 k28 (.inr (0, n34, .inl (upd f34 ((0 : Int32)).toNatClampNeg (81 : Int32)))) →
              (∃ (n39 : Nat) (f39 : Nat → Int32), gA h34 k28 0 = some (n39, f39) ∧ vp_in (1 : Int32) n39 ∧ ∀ h39 : MH, h39 = mset h34 k28 (.inr (0, n39, .inl (upd f39 ((1 : Int32)).toNatClampNeg (74 : Int32)))) →
                (∃ (n44 : Nat) (f44 : Nat → Int32), gA h39 k28 0 = some (n44, f44) ∧ vp_in (2 : Int32) n44 ∧ ∀ h44 : MH, h44 = mset h39 k28 (.inr (0, n44, .inl (upd f44 ((2 : Int32)).toNatClampNeg (69 : Int32)))) →
                  ((∃ o : MV, gF h44 l0 3 1 = some o) ∧ ∀ h45 : MH, h45 = fset h44 l0 1 (.inr (some k28) : MV) →
                    ((((cn + 1) + 1) + 1 ≤ 3 ∧ ((sn + 3) + 3) + 3 ≤ 9) ∧ ∀ (k50 : Nat) (h50 : MH), k50 = h45.1 → h50 = mnew h45 (.inr (0, 3, .inl (fun _ => 0))) →
                      (∃ (n56 : Nat) (f56 : Nat → Int32), gA h50 k50 0 = some (n56, f56) ∧ vp_in (0 : Int32) n56 ∧ ∀ h56 : MH, h56 = mset h50 k50 (.inr (0, n56, .inl (upd f56 ((0 : Int32)).toNatClampNeg (72 : Int32)))) →
                        (∃ (n61 : Nat) (f61 : Nat → Int32), gA h56 k50 0 = some (n61, f61) ∧ vp_in (1 : Int32) n61 ∧ ∀ h61 : MH, h61 = mset h56 k50 (.inr (0, n61, .inl (upd f61 ((1 : Int32)).toNatClampNeg (67 : Int32)))) →
                        (∃ (n66 : Nat) (f66 : Nat → Int32), gA h61 k50 0 = some (n66, f66) ∧ vp_in (2 : Int32) n66 ∧ ∀ h66 : MH, h66 = mset h61 k50 (.inr (0, n66, .inl (upd f66 ((2 : Int32)).toNatClampNeg (60 : Int32)))) →
                        ((∃ o : MV, gF h66 l0 3 2 = some o) ∧ ∀ h67 : MH, h67 = fset h66 l0 2 (.inr (some k50) : MV) →
                        ((∃ o : MV, gF h67 l0 3 3 = some o) ∧ ∀ h73 : MH, h73 = fset h67 l0 3 (.inl (12 : Int32) : MV) →
                        ((∃ o : MV, gF h73 l0 3 4 = some o) ∧ ∀ h78 : MH, h78 = fset h73 l0 4 (.inl (0 : Int32) : MV) →
                        (((((cn + 1) + 1) + 1) ≤ 3 ∧ (((sn + 3) + 3) + 3) ≤ 9) ∧ Post h78)))))))))))))))))
set_option maxRecDepth 100000 in
set_option maxHeartbeats 4000000 in
theorem t_Ru_init {p : Program} {l : Launch} {e : Env} {R : Room} {s : State} {m : MethodId} {args : Array Value} {below : List Frame} {meth : Method} {c : Code} (G : mG) (C0 : Cx G p s m args c prog_5_method_1_code 1 "BassRealiser$Rules") (hR : 1 ≤ R.frames ∧ 20 ≤ R.locals ∧ 3 ≤ R.cells ∧ 9 ≤ R.slots) (hr : meth.sig.returnType = none) (hlk : meth.locks = false) (hin : meth.name = "<init>") {Post : MH → Prop} (cn : Nat) (sn : Nat) (l0 : Nat) (h : MH) (hwp : wp_Ru_init Post cn sn l0 h) : WG p l e R s m args below meth c cn sn (MQ below (va_Qv Post (Wd G) (mA G)) args s 3 9 (mA G)) G 1 [(0, .ref (m_b G + l0))] 0 [] h := by
  unfold wp_Ru_init at hwp
  refine x_aload_n C0 0 d_Ru_init_0 rfl rfl ?_
  refine x_objInit C0 kw_1_31 kw_1_16 kw_1_17 d_Ru_init_1 ⟨Nat.le_trans (by decide) hR.1, Nat.le_trans (by decide) hR.2.1⟩ (by decide) ?_
  refine x_aload_n C0 0 d_Ru_init_4 rfl rfl ?_
  refine x_iconst (v := 3) C0 d_Ru_init_5 (by decide) ?_
  obtain ⟨b6, hwp⟩ := hwp
  refine x_newai C0 3 kw_1_56 (by decide) (by decide) (by decide) ⟨Nat.le_trans b6.1 hR.2.2.1, Nat.le_trans b6.2 hR.2.2.2⟩ d_Ru_init_6 ?_
  refine x_nk (fun k6 ek6 => ?_)
  refine x_nh (fun h6 eh6 => ?_)
  replace hwp := hwp k6 h6 ek6 eh6
  refine x_dup C0 d_Ru_init_8 rfl ?_
  refine x_iconst (v := 0) C0 d_Ru_init_9 (by decide) ?_
  refine x_bipush (v := 60) C0 d_Ru_init_10 (by decide) ?_
  obtain ⟨n12, f12, e12, i12, hwp⟩ := hwp
  refine x_iast C0 e12 i12 d_Ru_init_12 ?_
  refine x_nh (fun h12 eh12 => ?_)
  replace hwp := hwp h12 eh12
  refine x_dup C0 d_Ru_init_13 rfl ?_
  refine x_iconst (v := 1) C0 d_Ru_init_14 (by decide) ?_
  refine x_bipush (v := 55) C0 d_Ru_init_15 (by decide) ?_
  obtain ⟨n17, f17, e17, i17, hwp⟩ := hwp
  refine x_iast C0 e17 i17 d_Ru_init_17 ?_
  refine x_nh (fun h17 eh17 => ?_)
  replace hwp := hwp h17 eh17
  refine x_dup C0 d_Ru_init_18 rfl ?_
  refine x_iconst (v := 2) C0 d_Ru_init_19 (by decide) ?_
  refine x_bipush (v := 48) C0 d_Ru_init_20 (by decide) ?_
  obtain ⟨n22, f22, e22, i22, hwp⟩ := hwp
  refine x_iast C0 e22 i22 d_Ru_init_22 ?_
  refine x_nh (fun h22 eh22 => ?_)
  replace hwp := hwp h22 eh22
  obtain ⟨⟨o23, e23⟩, hwp⟩ := hwp
  refine x_putF (x := (.inr (some k6) : MV)) C0 pk_Ru_9 hin e23 rfl rfl d_Ru_init_23 ?_
  refine x_nh (fun h23 eh23 => ?_)
  replace hwp := hwp h23 eh23
  refine x_aload_n C0 0 d_Ru_init_26 rfl rfl ?_
  refine x_iconst (v := 3) C0 d_Ru_init_27 (by decide) ?_
  obtain ⟨b28, hwp⟩ := hwp
  refine x_newai C0 3 kw_1_56 (by decide) (by decide) (by decide) ⟨Nat.le_trans b28.1 hR.2.2.1, Nat.le_trans b28.2 hR.2.2.2⟩ d_Ru_init_28 ?_
  refine x_nk (fun k28 ek28 => ?_)
  refine x_nh (fun h28 eh28 => ?_)
  replace hwp := hwp k28 h28 ek28 eh28
  refine x_dup C0 d_Ru_init_30 rfl ?_
  refine x_iconst (v := 0) C0 d_Ru_init_31 (by decide) ?_
  refine x_bipush (v := 81) C0 d_Ru_init_32 (by decide) ?_
  obtain ⟨n34, f34, e34, i34, hwp⟩ := hwp
  refine x_iast C0 e34 i34 d_Ru_init_34 ?_
  refine x_nh (fun h34 eh34 => ?_)
  replace hwp := hwp h34 eh34
  refine x_dup C0 d_Ru_init_35 rfl ?_
  refine x_iconst (v := 1) C0 d_Ru_init_36 (by decide) ?_
  refine x_bipush (v := 74) C0 d_Ru_init_37 (by decide) ?_
  obtain ⟨n39, f39, e39, i39, hwp⟩ := hwp
  refine x_iast C0 e39 i39 d_Ru_init_39 ?_
  refine x_nh (fun h39 eh39 => ?_)
  replace hwp := hwp h39 eh39
  refine x_dup C0 d_Ru_init_40 rfl ?_
  refine x_iconst (v := 2) C0 d_Ru_init_41 (by decide) ?_
  refine x_bipush (v := 69) C0 d_Ru_init_42 (by decide) ?_
  obtain ⟨n44, f44, e44, i44, hwp⟩ := hwp
  refine x_iast C0 e44 i44 d_Ru_init_44 ?_
  refine x_nh (fun h44 eh44 => ?_)
  replace hwp := hwp h44 eh44
  obtain ⟨⟨o45, e45⟩, hwp⟩ := hwp
  refine x_putF (x := (.inr (some k28) : MV)) C0 pk_Ru_15 hin e45 rfl rfl d_Ru_init_45 ?_
  refine x_nh (fun h45 eh45 => ?_)
  replace hwp := hwp h45 eh45
  refine x_aload_n C0 0 d_Ru_init_48 rfl rfl ?_
  refine x_iconst (v := 3) C0 d_Ru_init_49 (by decide) ?_
  obtain ⟨b50, hwp⟩ := hwp
  refine x_newai C0 3 kw_1_56 (by decide) (by decide) (by decide) ⟨Nat.le_trans b50.1 hR.2.2.1, Nat.le_trans b50.2 hR.2.2.2⟩ d_Ru_init_50 ?_
  refine x_nk (fun k50 ek50 => ?_)
  refine x_nh (fun h50 eh50 => ?_)
  replace hwp := hwp k50 h50 ek50 eh50
  refine x_dup C0 d_Ru_init_52 rfl ?_
  refine x_iconst (v := 0) C0 d_Ru_init_53 (by decide) ?_
  refine x_bipush (v := 72) C0 d_Ru_init_54 (by decide) ?_
  obtain ⟨n56, f56, e56, i56, hwp⟩ := hwp
  refine x_iast C0 e56 i56 d_Ru_init_56 ?_
  refine x_nh (fun h56 eh56 => ?_)
  replace hwp := hwp h56 eh56
  refine x_dup C0 d_Ru_init_57 rfl ?_
  refine x_iconst (v := 1) C0 d_Ru_init_58 (by decide) ?_
  refine x_bipush (v := 67) C0 d_Ru_init_59 (by decide) ?_
  obtain ⟨n61, f61, e61, i61, hwp⟩ := hwp
  refine x_iast C0 e61 i61 d_Ru_init_61 ?_
  refine x_nh (fun h61 eh61 => ?_)
  replace hwp := hwp h61 eh61
  refine x_dup C0 d_Ru_init_62 rfl ?_
  refine x_iconst (v := 2) C0 d_Ru_init_63 (by decide) ?_
  refine x_bipush (v := 60) C0 d_Ru_init_64 (by decide) ?_
  obtain ⟨n66, f66, e66, i66, hwp⟩ := hwp
  refine x_iast C0 e66 i66 d_Ru_init_66 ?_
  refine x_nh (fun h66 eh66 => ?_)
  replace hwp := hwp h66 eh66
  obtain ⟨⟨o67, e67⟩, hwp⟩ := hwp
  refine x_putF (x := (.inr (some k50) : MV)) C0 pk_Ru_18 hin e67 rfl rfl d_Ru_init_67 ?_
  refine x_nh (fun h67 eh67 => ?_)
  replace hwp := hwp h67 eh67
  refine x_aload_n C0 0 d_Ru_init_70 rfl rfl ?_
  refine x_bipush (v := 12) C0 d_Ru_init_71 (by decide) ?_
  obtain ⟨⟨o73, e73⟩, hwp⟩ := hwp
  refine x_put (x := (.inl (12 : Int32) : MV)) C0 pk_Ru_21 e73 rfl rfl d_Ru_init_73 ?_
  refine x_nh (fun h73 eh73 => ?_)
  replace hwp := hwp h73 eh73
  refine x_aload_n C0 0 d_Ru_init_76 rfl rfl ?_
  refine x_iconst (v := 0) C0 d_Ru_init_77 (by decide) ?_
  obtain ⟨⟨o78, e78⟩, hwp⟩ := hwp
  refine x_put (x := (.inl (0 : Int32) : MV)) C0 pk_Ru_25 e78 rfl rfl d_Ru_init_78 ?_
  refine x_nh (fun h78 eh78 => ?_)
  replace hwp := hwp h78 eh78
  obtain ⟨bR, hwp⟩ := hwp
  refine x_cs bR.1 bR.2 ?_
  exact x_vret C0 hr hlk hwp d_Ru_init_81
set_option maxRecDepth 100000 in
set_option maxHeartbeats 4000000 in
theorem c_Ru_init (l : Launch) (G : mG) {Post : MH → Prop} {l0 : Nat} {h : MH} (hwp : wp_Ru_init Post 0 0 l0 h) : Met l y_Ru_init (Cond.code y_Ru_init prog_5_method_1_code 1 (Option.none : Option Jvm.ClassFile.FieldType) :: lw_good) ({ frames := 1, cells := 3, slots := 9, locals := 20 }) (va_Pc [.ref (m_b G + l0)] (Wd G h)) (va_Qv Post (Wd G) (mA G)) 3 9 (mA G) := by
  refine Met.ofW (cc := prog_5_method_1_code) (maxL := 1) (ret := (Option.none : Option Jvm.ClassFile.FieldType)) (by decide) rfl ?_
  intro p e s m args below meth c s₁ B hml hv
  obtain ⟨rfl, hP, hz, hK, hSt⟩ := hv
  have hts := atoms_spec (ws := Cond.code y_Ru_init prog_5_method_1_code 1 (Option.none : Option Jvm.ClassFile.FieldType) :: lw_good) B.pre
  have C0 : Cx G p s m ([.ref (m_b G + l0)] : List Value).toArray c prog_5_method_1_code 1 "BassRealiser$Rules" := ⟨⟨B.exec, B.bytes, hml, findClass_of_methodNamed B.named, fun w h => hts w (List.mem_cons_of_mem _ h)⟩, hK, hSt, by rw [hz]; exact Nat.le_add_right _ _⟩
  have hl := lv_entry ([.ref (m_b G + l0)]) (n := 1) (Nat.le_of_ble_eq_true rfl)
  rw [lg_entry_eq]
  exact t_Ru_init G C0 ⟨Nat.le_refl _, Nat.le_refl _, Nat.le_refl _, Nat.le_refl _⟩ B.returns B.notSynchronized (name_of_methodNamed B.named B.method).1 _ _ _ _ hwp _ _ _ ⟨hP, hz, va_S.rf⟩ hl
def wp_Ch_init (Post : MH → Prop) (cn : Nat) (sn : Nat) (l0 : Nat) (h : MH) : Prop :=
  (cn + 1 ≤ 2 ∧ sn + 10 ≤ 13) ∧ ∀ (k7 : Nat) (h7 : MH), k7 = h.1 → h7 = mnew h (.inr (0, 10, .inl (fun _ => 0))) →
  ((∃ o : MV, gF h7 l0 0 4 = some o) ∧ ∀ h9 : MH, h9 = fset h7 l0 4 (.inr (some k7) : MV) →
    (((cn + 1) + 1 ≤ 2 ∧ (sn + 10) + 3 ≤ 13) ∧ ∀ (k14 : Nat) (h14 : MH), k14 = h9.1 → h14 = mnew h9 (.inr (0, 3, .inl (fun _ => 0))) →
      ((∃ o : MV, gF h14 l0 0 5 = some o) ∧ ∀ h16 : MH, h16 = fset h14 l0 5 (.inr (some k14) : MV) →
        ((∃ o : MV, gF h16 l0 0 6 = some o) ∧ ∀ h21 : MH, h21 = fset h16 l0 6 (.inl (-1 : Int32) : MV) →
          ((((cn + 1) + 1) ≤ 2 ∧ ((sn + 10) + 3) ≤ 13) ∧ Post h21)))))
set_option maxRecDepth 100000 in
set_option maxHeartbeats 4000000 in
theorem t_Ch_init {p : Program} {l : Launch} {e : Env} {R : Room} {s : State} {m : MethodId} {args : Array Value} {below : List Frame} {meth : Method} {c : Code} (G : mG) (C0 : Cx G p s m args c prog_2_method_1_code 1 "BassRealiser$Chord") (hR : 1 ≤ R.frames ∧ 20 ≤ R.locals ∧ 2 ≤ R.cells ∧ 13 ≤ R.slots) (hr : meth.sig.returnType = none) (hlk : meth.locks = false) (hin : meth.name = "<init>") {Post : MH → Prop} (cn : Nat) (sn : Nat) (l0 : Nat) (h : MH) (hwp : wp_Ch_init Post cn sn l0 h) : WG p l e R s m args below meth c cn sn (MQ below (va_Qv Post (Wd G) (mA G)) args s 2 13 (mA G)) G 1 [(0, .ref (m_b G + l0))] 0 [] h := by
  unfold wp_Ch_init at hwp
  refine x_aload_n C0 0 d_Ch_init_0 rfl rfl ?_
  refine x_objInit C0 kw_1_63 kw_1_16 kw_1_17 d_Ch_init_1 ⟨Nat.le_trans (by decide) hR.1, Nat.le_trans (by decide) hR.2.1⟩ (by decide) ?_
  refine x_aload_n C0 0 d_Ch_init_4 rfl rfl ?_
  refine x_bipush (v := 10) C0 d_Ch_init_5 (by decide) ?_
  obtain ⟨b7, hwp⟩ := hwp
  refine x_newai C0 10 kw_1_56 (by decide) (by decide) (by decide) ⟨Nat.le_trans b7.1 hR.2.2.1, Nat.le_trans b7.2 hR.2.2.2⟩ d_Ch_init_7 ?_
  refine x_nk (fun k7 ek7 => ?_)
  refine x_nh (fun h7 eh7 => ?_)
  replace hwp := hwp k7 h7 ek7 eh7
  obtain ⟨⟨o9, e9⟩, hwp⟩ := hwp
  refine x_putF (x := (.inr (some k7) : MV)) C0 pk_Ch_9 hin e9 rfl rfl d_Ch_init_9 ?_
  refine x_nh (fun h9 eh9 => ?_)
  replace hwp := hwp h9 eh9
  refine x_aload_n C0 0 d_Ch_init_12 rfl rfl ?_
  refine x_iconst (v := 3) C0 d_Ch_init_13 (by decide) ?_
  obtain ⟨b14, hwp⟩ := hwp
  refine x_newai C0 3 kw_1_56 (by decide) (by decide) (by decide) ⟨Nat.le_trans b14.1 hR.2.2.1, Nat.le_trans b14.2 hR.2.2.2⟩ d_Ch_init_14 ?_
  refine x_nk (fun k14 ek14 => ?_)
  refine x_nh (fun h14 eh14 => ?_)
  replace hwp := hwp k14 h14 ek14 eh14
  obtain ⟨⟨o16, e16⟩, hwp⟩ := hwp
  refine x_putF (x := (.inr (some k14) : MV)) C0 pk_Ch_15 hin e16 rfl rfl d_Ch_init_16 ?_
  refine x_nh (fun h16 eh16 => ?_)
  replace hwp := hwp h16 eh16
  refine x_aload_n C0 0 d_Ch_init_19 rfl rfl ?_
  refine x_iconst (v := -1) C0 d_Ch_init_20 (by decide) ?_
  obtain ⟨⟨o21, e21⟩, hwp⟩ := hwp
  refine x_put (x := (.inl (-1 : Int32) : MV)) C0 pk_Ch_18 e21 rfl rfl d_Ch_init_21 ?_
  refine x_nh (fun h21 eh21 => ?_)
  replace hwp := hwp h21 eh21
  obtain ⟨bR, hwp⟩ := hwp
  refine x_cs bR.1 bR.2 ?_
  exact x_vret C0 hr hlk hwp d_Ch_init_24
set_option maxRecDepth 100000 in
set_option maxHeartbeats 4000000 in
theorem c_Ch_init (l : Launch) (G : mG) {Post : MH → Prop} {l0 : Nat} {h : MH} (hwp : wp_Ch_init Post 0 0 l0 h) : Met l y_Ch_init (Cond.code y_Ch_init prog_2_method_1_code 1 (Option.none : Option Jvm.ClassFile.FieldType) :: lw_good) ({ frames := 1, cells := 2, slots := 13, locals := 20 }) (va_Pc [.ref (m_b G + l0)] (Wd G h)) (va_Qv Post (Wd G) (mA G)) 2 13 (mA G) := by
  refine Met.ofW (cc := prog_2_method_1_code) (maxL := 1) (ret := (Option.none : Option Jvm.ClassFile.FieldType)) (by decide) rfl ?_
  intro p e s m args below meth c s₁ B hml hv
  obtain ⟨rfl, hP, hz, hK, hSt⟩ := hv
  have hts := atoms_spec (ws := Cond.code y_Ch_init prog_2_method_1_code 1 (Option.none : Option Jvm.ClassFile.FieldType) :: lw_good) B.pre
  have C0 : Cx G p s m ([.ref (m_b G + l0)] : List Value).toArray c prog_2_method_1_code 1 "BassRealiser$Chord" := ⟨⟨B.exec, B.bytes, hml, findClass_of_methodNamed B.named, fun w h => hts w (List.mem_cons_of_mem _ h)⟩, hK, hSt, by rw [hz]; exact Nat.le_add_right _ _⟩
  have hl := lv_entry ([.ref (m_b G + l0)]) (n := 1) (Nat.le_of_ble_eq_true rfl)
  rw [lg_entry_eq]
  exact t_Ch_init G C0 ⟨Nat.le_refl _, Nat.le_refl _, Nat.le_refl _, Nat.le_refl _⟩ B.returns B.notSynchronized (name_of_methodNamed B.named B.method).1 _ _ _ _ hwp _ _ _ ⟨hP, hz, va_S.rf⟩ hl
def wp_Co_init (Post : MH → Prop) (cn : Nat) (sn : Nat) (l0 : Nat) (h : MH) : Prop :=
  (cn + 1 ≤ 4 ∧ sn + 112 ≤ 448) ∧ ∀ (k7 : Nat) (h7 : MH), k7 = h.1 → h7 = mnew h (.inr (0, 112, .inl (fun _ => 0))) →
  ((∃ o : MV, gF h7 l0 1 0 = some o) ∧ ∀ h9 : MH, h9 = fset h7 l0 0 (.inr (some k7) : MV) →
    (((cn + 1) + 1 ≤ 4 ∧ (sn + 112) + 112 ≤ 448) ∧ ∀ (k15 : Nat) (h15 : MH), k15 = h9.1 → h15 = mnew h9 (.inr (1, 112, .inl (fun _ => 0))) →
      ((∃ o : MV, gF h15 l0 1 1 = some o) ∧ ∀ h17 : MH, h17 = fset h15 l0 1 (.inr (some k15) : MV) →
        ((((cn + 1) + 1) + 1 ≤ 4 ∧ ((sn + 112) + 112) + 112 ≤ 448) ∧ ∀ (k23 : Nat) (h23 : MH), k23 = h17.1 → h23 = mnew h17 (.inr (0, 112, .inl (fun _ => 0))) →
          ((∃ o : MV, gF h23 l0 1 2 = some o) ∧ ∀ h25 : MH, h25 = fset h23 l0 2 (.inr (some k23) : MV) →
            (((((cn + 1) + 1) + 1) + 1 ≤ 4 ∧ (((sn + 112) + 112) + 112) + 112 ≤ 448) ∧ ∀ (k31 : Nat) (h31 : MH), k31 = h25.1 → h31 = mnew h25 (.inr (0, 112, .inl (fun _ => 0))) →
              ((∃ o : MV, gF h31 l0 1 3 = some o) ∧ ∀ h33 : MH, h33 = fset h31 l0 3 (.inr (some k31) : MV) →
                ((((((cn + 1) + 1) + 1) + 1) ≤ 4 ∧ ((((sn + 112) + 112) + 112) + 112) ≤ 448) ∧ Post h33))))))))
set_option maxRecDepth 100000 in
set_option maxHeartbeats 4000000 in
theorem t_Co_init {p : Program} {l : Launch} {e : Env} {R : Room} {s : State} {m : MethodId} {args : Array Value} {below : List Frame} {meth : Method} {c : Code} (G : mG) (C0 : Cx G p s m args c prog_3_method_1_code 1 "BassRealiser$Column") (hR : 1 ≤ R.frames ∧ 20 ≤ R.locals ∧ 4 ≤ R.cells ∧ 448 ≤ R.slots) (hr : meth.sig.returnType = none) (hlk : meth.locks = false) (hin : meth.name = "<init>") {Post : MH → Prop} (cn : Nat) (sn : Nat) (l0 : Nat) (h : MH) (hwp : wp_Co_init Post cn sn l0 h) : WG p l e R s m args below meth c cn sn (MQ below (va_Qv Post (Wd G) (mA G)) args s 4 448 (mA G)) G 1 [(0, .ref (m_b G + l0))] 0 [] h := by
  unfold wp_Co_init at hwp
  refine x_aload_n C0 0 d_Co_init_0 rfl rfl ?_
  refine x_objInit C0 kw_1_116 kw_1_16 kw_1_17 d_Co_init_1 ⟨Nat.le_trans (by decide) hR.1, Nat.le_trans (by decide) hR.2.1⟩ (by decide) ?_
  refine x_aload_n C0 0 d_Co_init_4 rfl rfl ?_
  refine x_bipush (v := 112) C0 d_Co_init_5 (by decide) ?_
  obtain ⟨b7, hwp⟩ := hwp
  refine x_newai C0 112 kw_1_56 (by decide) (by decide) (by decide) ⟨Nat.le_trans b7.1 hR.2.2.1, Nat.le_trans b7.2 hR.2.2.2⟩ d_Co_init_7 ?_
  refine x_nk (fun k7 ek7 => ?_)
  refine x_nh (fun h7 eh7 => ?_)
  replace hwp := hwp k7 h7 ek7 eh7
  obtain ⟨⟨o9, e9⟩, hwp⟩ := hwp
  refine x_putF (x := (.inr (some k7) : MV)) C0 pk_Co_11 hin e9 rfl rfl d_Co_init_9 ?_
  refine x_nh (fun h9 eh9 => ?_)
  replace hwp := hwp h9 eh9
  refine x_aload_n C0 0 d_Co_init_12 rfl rfl ?_
  refine x_bipush (v := 112) C0 d_Co_init_13 (by decide) ?_
  obtain ⟨b15, hwp⟩ := hwp
  refine x_newaz C0 112 kw_1_144 (by decide) (by decide) (by decide) ⟨Nat.le_trans b15.1 hR.2.2.1, Nat.le_trans b15.2 hR.2.2.2⟩ d_Co_init_15 ?_
  refine x_nk (fun k15 ek15 => ?_)
  refine x_nh (fun h15 eh15 => ?_)
  replace hwp := hwp k15 h15 ek15 eh15
  obtain ⟨⟨o17, e17⟩, hwp⟩ := hwp
  refine x_putF (x := (.inr (some k15) : MV)) C0 pk_Co_15 hin e17 rfl rfl d_Co_init_17 ?_
  refine x_nh (fun h17 eh17 => ?_)
  replace hwp := hwp h17 eh17
  refine x_aload_n C0 0 d_Co_init_20 rfl rfl ?_
  refine x_bipush (v := 112) C0 d_Co_init_21 (by decide) ?_
  obtain ⟨b23, hwp⟩ := hwp
  refine x_newai C0 112 kw_1_56 (by decide) (by decide) (by decide) ⟨Nat.le_trans b23.1 hR.2.2.1, Nat.le_trans b23.2 hR.2.2.2⟩ d_Co_init_23 ?_
  refine x_nk (fun k23 ek23 => ?_)
  refine x_nh (fun h23 eh23 => ?_)
  replace hwp := hwp k23 h23 ek23 eh23
  obtain ⟨⟨o25, e25⟩, hwp⟩ := hwp
  refine x_putF (x := (.inr (some k23) : MV)) C0 pk_Co_19 hin e25 rfl rfl d_Co_init_25 ?_
  refine x_nh (fun h25 eh25 => ?_)
  replace hwp := hwp h25 eh25
  refine x_aload_n C0 0 d_Co_init_28 rfl rfl ?_
  refine x_bipush (v := 112) C0 d_Co_init_29 (by decide) ?_
  obtain ⟨b31, hwp⟩ := hwp
  refine x_newai C0 112 kw_1_56 (by decide) (by decide) (by decide) ⟨Nat.le_trans b31.1 hR.2.2.1, Nat.le_trans b31.2 hR.2.2.2⟩ d_Co_init_31 ?_
  refine x_nk (fun k31 ek31 => ?_)
  refine x_nh (fun h31 eh31 => ?_)
  replace hwp := hwp k31 h31 ek31 eh31
  obtain ⟨⟨o33, e33⟩, hwp⟩ := hwp
  refine x_putF (x := (.inr (some k31) : MV)) C0 pk_Co_22 hin e33 rfl rfl d_Co_init_33 ?_
  refine x_nh (fun h33 eh33 => ?_)
  replace hwp := hwp h33 eh33
  obtain ⟨bR, hwp⟩ := hwp
  refine x_cs bR.1 bR.2 ?_
  exact x_vret C0 hr hlk hwp d_Co_init_36
set_option maxRecDepth 100000 in
set_option maxHeartbeats 4000000 in
theorem c_Co_init (l : Launch) (G : mG) {Post : MH → Prop} {l0 : Nat} {h : MH} (hwp : wp_Co_init Post 0 0 l0 h) : Met l y_Co_init (Cond.code y_Co_init prog_3_method_1_code 1 (Option.none : Option Jvm.ClassFile.FieldType) :: lw_good) ({ frames := 1, cells := 4, slots := 448, locals := 20 }) (va_Pc [.ref (m_b G + l0)] (Wd G h)) (va_Qv Post (Wd G) (mA G)) 4 448 (mA G) := by
  refine Met.ofW (cc := prog_3_method_1_code) (maxL := 1) (ret := (Option.none : Option Jvm.ClassFile.FieldType)) (by decide) rfl ?_
  intro p e s m args below meth c s₁ B hml hv
  obtain ⟨rfl, hP, hz, hK, hSt⟩ := hv
  have hts := atoms_spec (ws := Cond.code y_Co_init prog_3_method_1_code 1 (Option.none : Option Jvm.ClassFile.FieldType) :: lw_good) B.pre
  have C0 : Cx G p s m ([.ref (m_b G + l0)] : List Value).toArray c prog_3_method_1_code 1 "BassRealiser$Column" := ⟨⟨B.exec, B.bytes, hml, findClass_of_methodNamed B.named, fun w h => hts w (List.mem_cons_of_mem _ h)⟩, hK, hSt, by rw [hz]; exact Nat.le_add_right _ _⟩
  have hl := lv_entry ([.ref (m_b G + l0)]) (n := 1) (Nat.le_of_ble_eq_true rfl)
  rw [lg_entry_eq]
  exact t_Co_init G C0 ⟨Nat.le_refl _, Nat.le_refl _, Nat.le_refl _, Nat.le_refl _⟩ B.returns B.notSynchronized (name_of_methodNamed B.named B.method).1 _ _ _ _ hwp _ _ _ ⟨hP, hz, va_S.rf⟩ hl
def wp_Mv_init (Post : MH → Prop) (cn : Nat) (sn : Nat) (l0 : Nat) (h : MH) : Prop :=
  (cn + 1 ≤ 3 ∧ sn + 4 ≤ 12) ∧ ∀ (k6 : Nat) (h6 : MH), k6 = h.1 → h6 = mnew h (.inr (0, 4, .inl (fun _ => 0))) →
  ((∃ o : MV, gF h6 l0 2 0 = some o) ∧ ∀ h8 : MH, h8 = fset h6 l0 0 (.inr (some k6) : MV) →
    (((cn + 1) + 1 ≤ 3 ∧ (sn + 4) + 4 ≤ 12) ∧ ∀ (k13 : Nat) (h13 : MH), k13 = h8.1 → h13 = mnew h8 (.inr (0, 4, .inl (fun _ => 0))) →
      ((∃ o : MV, gF h13 l0 2 1 = some o) ∧ ∀ h15 : MH, h15 = fset h13 l0 1 (.inr (some k13) : MV) →
        ((((cn + 1) + 1) + 1 ≤ 3 ∧ ((sn + 4) + 4) + 4 ≤ 12) ∧ ∀ (k20 : Nat) (h20 : MH), k20 = h15.1 → h20 = mnew h15 (.inr (0, 4, .inl (fun _ => 0))) →
          ((∃ o : MV, gF h20 l0 2 2 = some o) ∧ ∀ h22 : MH, h22 = fset h20 l0 2 (.inr (some k20) : MV) →
            (((((cn + 1) + 1) + 1) ≤ 3 ∧ (((sn + 4) + 4) + 4) ≤ 12) ∧ Post h22))))))
set_option maxRecDepth 100000 in
set_option maxHeartbeats 4000000 in
theorem t_Mv_init {p : Program} {l : Launch} {e : Env} {R : Room} {s : State} {m : MethodId} {args : Array Value} {below : List Frame} {meth : Method} {c : Code} (G : mG) (C0 : Cx G p s m args c prog_4_method_1_code 1 "BassRealiser$Move") (hR : 1 ≤ R.frames ∧ 20 ≤ R.locals ∧ 3 ≤ R.cells ∧ 12 ≤ R.slots) (hr : meth.sig.returnType = none) (hlk : meth.locks = false) (hin : meth.name = "<init>") {Post : MH → Prop} (cn : Nat) (sn : Nat) (l0 : Nat) (h : MH) (hwp : wp_Mv_init Post cn sn l0 h) : WG p l e R s m args below meth c cn sn (MQ below (va_Qv Post (Wd G) (mA G)) args s 3 12 (mA G)) G 1 [(0, .ref (m_b G + l0))] 0 [] h := by
  unfold wp_Mv_init at hwp
  refine x_aload_n C0 0 d_Mv_init_0 rfl rfl ?_
  refine x_objInit C0 kw_1_150 kw_1_16 kw_1_17 d_Mv_init_1 ⟨Nat.le_trans (by decide) hR.1, Nat.le_trans (by decide) hR.2.1⟩ (by decide) ?_
  refine x_aload_n C0 0 d_Mv_init_4 rfl rfl ?_
  refine x_iconst (v := 4) C0 d_Mv_init_5 (by decide) ?_
  obtain ⟨b6, hwp⟩ := hwp
  refine x_newai C0 4 kw_1_56 (by decide) (by decide) (by decide) ⟨Nat.le_trans b6.1 hR.2.2.1, Nat.le_trans b6.2 hR.2.2.2⟩ d_Mv_init_6 ?_
  refine x_nk (fun k6 ek6 => ?_)
  refine x_nh (fun h6 eh6 => ?_)
  replace hwp := hwp k6 h6 ek6 eh6
  obtain ⟨⟨o8, e8⟩, hwp⟩ := hwp
  refine x_putF (x := (.inr (some k6) : MV)) C0 pk_Mv_11 hin e8 rfl rfl d_Mv_init_8 ?_
  refine x_nh (fun h8 eh8 => ?_)
  replace hwp := hwp h8 eh8
  refine x_aload_n C0 0 d_Mv_init_11 rfl rfl ?_
  refine x_iconst (v := 4) C0 d_Mv_init_12 (by decide) ?_
  obtain ⟨b13, hwp⟩ := hwp
  refine x_newai C0 4 kw_1_56 (by decide) (by decide) (by decide) ⟨Nat.le_trans b13.1 hR.2.2.1, Nat.le_trans b13.2 hR.2.2.2⟩ d_Mv_init_13 ?_
  refine x_nk (fun k13 ek13 => ?_)
  refine x_nh (fun h13 eh13 => ?_)
  replace hwp := hwp k13 h13 ek13 eh13
  obtain ⟨⟨o15, e15⟩, hwp⟩ := hwp
  refine x_putF (x := (.inr (some k13) : MV)) C0 pk_Mv_15 hin e15 rfl rfl d_Mv_init_15 ?_
  refine x_nh (fun h15 eh15 => ?_)
  replace hwp := hwp h15 eh15
  refine x_aload_n C0 0 d_Mv_init_18 rfl rfl ?_
  refine x_iconst (v := 4) C0 d_Mv_init_19 (by decide) ?_
  obtain ⟨b20, hwp⟩ := hwp
  refine x_newai C0 4 kw_1_56 (by decide) (by decide) (by decide) ⟨Nat.le_trans b20.1 hR.2.2.1, Nat.le_trans b20.2 hR.2.2.2⟩ d_Mv_init_20 ?_
  refine x_nk (fun k20 ek20 => ?_)
  refine x_nh (fun h20 eh20 => ?_)
  replace hwp := hwp k20 h20 ek20 eh20
  obtain ⟨⟨o22, e22⟩, hwp⟩ := hwp
  refine x_putF (x := (.inr (some k20) : MV)) C0 pk_Mv_18 hin e22 rfl rfl d_Mv_init_22 ?_
  refine x_nh (fun h22 eh22 => ?_)
  replace hwp := hwp h22 eh22
  obtain ⟨bR, hwp⟩ := hwp
  refine x_cs bR.1 bR.2 ?_
  exact x_vret C0 hr hlk hwp d_Mv_init_25
set_option maxRecDepth 100000 in
set_option maxHeartbeats 4000000 in
theorem c_Mv_init (l : Launch) (G : mG) {Post : MH → Prop} {l0 : Nat} {h : MH} (hwp : wp_Mv_init Post 0 0 l0 h) : Met l y_Mv_init (Cond.code y_Mv_init prog_4_method_1_code 1 (Option.none : Option Jvm.ClassFile.FieldType) :: lw_good) ({ frames := 1, cells := 3, slots := 12, locals := 20 }) (va_Pc [.ref (m_b G + l0)] (Wd G h)) (va_Qv Post (Wd G) (mA G)) 3 12 (mA G) := by
  refine Met.ofW (cc := prog_4_method_1_code) (maxL := 1) (ret := (Option.none : Option Jvm.ClassFile.FieldType)) (by decide) rfl ?_
  intro p e s m args below meth c s₁ B hml hv
  obtain ⟨rfl, hP, hz, hK, hSt⟩ := hv
  have hts := atoms_spec (ws := Cond.code y_Mv_init prog_4_method_1_code 1 (Option.none : Option Jvm.ClassFile.FieldType) :: lw_good) B.pre
  have C0 : Cx G p s m ([.ref (m_b G + l0)] : List Value).toArray c prog_4_method_1_code 1 "BassRealiser$Move" := ⟨⟨B.exec, B.bytes, hml, findClass_of_methodNamed B.named, fun w h => hts w (List.mem_cons_of_mem _ h)⟩, hK, hSt, by rw [hz]; exact Nat.le_add_right _ _⟩
  have hl := lv_entry ([.ref (m_b G + l0)]) (n := 1) (Nat.le_of_ble_eq_true rfl)
  rw [lg_entry_eq]
  exact t_Mv_init G C0 ⟨Nat.le_refl _, Nat.le_refl _, Nat.le_refl _, Nat.le_refl _⟩ B.returns B.notSynchronized (name_of_methodNamed B.named B.method).1 _ _ _ _ hwp _ _ _ ⟨hP, hz, va_S.rf⟩ hl
def wb_Se_init_35 (K35 : Nat → Nat → Nat → Int32 → MH → Prop) (Post : MH → Prop) (cn : Nat) (sn : Nat) (l0 : Nat) (l1 : Int32) (h : MH) : Prop :=
  (((12 : Int32) ≤ l1) →
    ((cn + 1 ≤ 107 ∧ sn + 6 ≤ 5804) ∧ ∀ (k74 : Nat) (h74 : MH), k74 = h.1 → h74 = mnew h (.inl (2, [.inr none, .inr none, .inr none, .inl 0, .inl 0, .inl 0])) →
      (((cn + 1) + 3 ≤ 107 ∧ (sn + 6) + 12 ≤ 5804) ∧ wp_Mv_init (fun (h78 : MH) =>
          ((∃ o : MV, gF h78 l0 4 3 = some o) ∧ ∀ h81 : MH, h81 = fset h78 l0 3 (.inr (some k74) : MV) →
            ((((cn + 1) + 3) + 1 ≤ 107 ∧ ((sn + 6) + 12) + 12 ≤ 5804) ∧ ∀ (k87 : Nat) (h87 : MH), k87 = h81.1 → h87 = mnew h81 (.inr (0, 12, .inl (fun _ => 0))) →
              ((∃ o : MV, gF h87 l0 4 4 = some o) ∧ ∀ h89 : MH, h89 = fset h87 l0 4 (.inr (some k87) : MV) →
                ((∃ o : MV, gF h89 l0 4 5 = some o) ∧ ∀ h94 : MH, h94 = fset h89 l0 5 (.inl (-1 : Int32) : MV) →
                  (((((cn + 1) + 3) + 1) ≤ 107 ∧ (((sn + 6) + 12) + 12) ≤ 5804) ∧ Post h94)))))) 0 0 k74 h74))) ∧
  ((¬ (12 : Int32) ≤ l1) →
    (∃ x42 : Nat, gF h l0 4 0 = some (.inr (some x42)) ∧
      ((cn + 1 ≤ 107 ∧ sn + 11 ≤ 5804) ∧ ∀ (k46 : Nat) (h46 : MH), k46 = h.1 → h46 = mnew h (.inl (0, [.inl 0, .inl 0, .inl 0, .inl 0, .inr none, .inr none, .inl 0, .inl 0, .inl 0, .inl 0, .inl 0])) →
        (((cn + 1) + 2 ≤ 107 ∧ (sn + 11) + 13 ≤ 5804) ∧ wp_Ch_init (fun (h50 : MH) =>
            (∃ (n53 : Nat) (f53 : Nat → Option Nat), gR h50 x42 3 = some (n53, f53) ∧ vp_in l1 n53 ∧ gC h50 k46 = some 0 ∧ ∀ h53 : MH, h53 = mset h50 x42 (.inr (3, n53, .inr (.inr (va_up f53 (l1).toNatClampNeg (some k46))))) →
              (∃ x55 : Nat, gF h53 l0 4 2 = some (.inr (some x55)) ∧
                ((((cn + 1) + 2) + 1 ≤ 107 ∧ ((sn + 11) + 13) + 6 ≤ 5804) ∧ ∀ (k59 : Nat) (h59 : MH), k59 = h53.1 → h59 = mnew h53 (.inl (1, [.inr none, .inr none, .inr none, .inr none, .inl 0, .inl 0])) →
                  (((((cn + 1) + 2) + 1) + 4 ≤ 107 ∧ (((sn + 11) + 13) + 6) + 448 ≤ 5804) ∧ wp_Co_init (fun (h63 : MH) =>
                      (∃ (n66 : Nat) (f66 : Nat → Option Nat), gR h63 x55 4 = some (n66, f66) ∧ vp_in l1 n66 ∧ gC h63 k59 = some 1 ∧ ∀ h66 : MH, h66 = mset h63 x55 (.inr (4, n66, .inr (.inr (va_up f66 (l1).toNatClampNeg (some k59))))) →
                        (K35 ((((cn + 1) + 2) + 1) + 4) ((((sn + 11) + 13) + 6) + 448) l0 (l1 + (1 : Int32)) h66))) 0 0 k59 h59))))) 0 0 k46 h46))))
def wn_Se_init_35 (Post : MH → Prop) : Nat → Nat → Nat → Nat → Int32 → MH → Prop
  | 0 => fun _ _ _ _ _ => False
  | n + 1 => wb_Se_init_35 (wn_Se_init_35 Post n) Post
def wp_Se_init_35 (Post : MH → Prop) (cn : Nat) (sn : Nat) (l0 : Nat) (l1 : Int32) (h : MH) : Prop := ∃ n, wn_Se_init_35 Post n cn sn l0 l1 h
def wp_Se_init (Post : MH → Prop) (cn : Nat) (sn : Nat) (l0 : Nat) (h : MH) : Prop :=
  (cn + 1 ≤ 107 ∧ sn + 12 ≤ 5804) ∧ ∀ (k7 : Nat) (h7 : MH), k7 = h.1 → h7 = mnew h (.inr (3, 12, .inr (.inr (fun _ => none)))) →
  ((∃ o : MV, gF h7 l0 4 0 = some o) ∧ ∀ h10 : MH, h10 = fset h7 l0 0 (.inr (some k7) : MV) →
    (((cn + 1) + 1 ≤ 107 ∧ (sn + 12) + 5 ≤ 5804) ∧ ∀ (k14 : Nat) (h14 : MH), k14 = h10.1 → h14 = mnew h10 (.inl (3, [.inr none, .inr none, .inr none, .inl 0, .inl 0])) →
      ((((cn + 1) + 1) + 3 ≤ 107 ∧ ((sn + 12) + 5) + 9 ≤ 5804) ∧ wp_Ru_init (fun (h18 : MH) =>
          ((∃ o : MV, gF h18 l0 4 1 = some o) ∧ ∀ h21 : MH, h21 = fset h18 l0 1 (.inr (some k14) : MV) →
            (((((cn + 1) + 1) + 3) + 1 ≤ 107 ∧ (((sn + 12) + 5) + 9) + 12 ≤ 5804) ∧ ∀ (k27 : Nat) (h27 : MH), k27 = h21.1 → h27 = mnew h21 (.inr (4, 12, .inr (.inr (fun _ => none)))) →
              ((∃ o : MV, gF h27 l0 4 2 = some o) ∧ ∀ h30 : MH, h30 = fset h27 l0 2 (.inr (some k27) : MV) →
                (wp_Se_init_35 Post ((((cn + 1) + 1) + 3) + 1) ((((sn + 12) + 5) + 9) + 12) l0 (0 : Int32) h30))))) 0 0 k14 h14)))
set_option maxRecDepth 100000 in
set_option maxHeartbeats 4000000 in
theorem tb_Se_init_35 {p : Program} {l : Launch} {e : Env} {R : Room} {s : State} {m : MethodId} {args : Array Value} {below : List Frame} {meth : Method} {c : Code} (G : mG) (C0 : Cx G p s m args c prog_6_method_1_code 2 "BassRealiser$Search") (hR : 2 ≤ R.frames ∧ 40 ≤ R.locals ∧ 107 ≤ R.cells ∧ 5804 ≤ R.slots) (hr : meth.sig.returnType = none) (hlk : meth.locks = false) (hin : meth.name = "<init>") {Post : MH → Prop} {K35 : Nat → Nat → Nat → Int32 → MH → Prop} (hK35 : ∀ (cn : Nat) (sn : Nat) (l0 : Nat) (l1 : Int32) (h : MH), K35 cn sn l0 l1 h → WG p l e R s m args below meth c cn sn (MQ below (va_Qv Post (Wd G) (mA G)) args s 107 5804 (mA G)) G 2 [(0, .ref (m_b G + l0)), (1, .int l1)] 35 [] h) (cn : Nat) (sn : Nat) (l0 : Nat) (l1 : Int32) (h : MH) (hwp : wb_Se_init_35 K35 Post cn sn l0 l1 h) : WG p l e R s m args below meth c cn sn (MQ below (va_Qv Post (Wd G) (mA G)) args s 107 5804 (mA G)) G 2 [(0, .ref (m_b G + l0)), (1, .int l1)] 35 [] h := by
  unfold wb_Se_init_35 at hwp
  refine x_iload_n C0 1 d_Se_init_35 rfl rfl ?_
  refine x_bipush (v := 12) C0 d_Se_init_36 (by decide) ?_
  refine x_icmp_ge (tgt := 73) C0 d_Se_init_38 (by decide) (fun c38 => ?_) (fun c38 => ?_)
  · replace hwp := hwp.1 c38
    refine x_aload_n C0 0 d_Se_init_73 rfl rfl ?_
    obtain ⟨b74, hwp⟩ := hwp
    refine x_new C0 [.inr none, .inr none, .inr none, .inl 0, .inl 0, .inl 0] (ci := 2) rfl iw_2 tf_2 tf_2_ok kw_1_145 kw_1_146 kw_1_6 (by intro j hj; exact df_2 _ j hj) ⟨Nat.le_trans b74.1 hR.2.2.1, Nat.le_trans b74.2 hR.2.2.2⟩ d_Se_init_74 ?_
    refine x_nk (fun k74 ek74 => ?_)
    refine x_nh (fun h74 eh74 => ?_)
    replace hwp := hwp k74 h74 ek74 eh74
    refine x_dup C0 d_Se_init_77 rfl ?_
    obtain ⟨b78, hwp⟩ := hwp
    refine x_callI (k := k74) (As := []) (st := [.ref (m_b G + k74), .ref (m_b G + l0)]) C0 (c_Mv_init l G hwp) kw_1_147 mk_Mv_init ⟨rfl, kw_1_148⟩ rfl (by decide) rfl rfl ⟨Nat.le_trans (by decide) hR.1, Nat.le_trans (by decide) hR.2.1⟩ ⟨Nat.le_trans b78.1 hR.2.2.1, Nat.le_trans b78.2 hR.2.2.2⟩ rfl d_Se_init_78 (fun h78 hwp => ?_)
    obtain ⟨⟨o81, e81⟩, hwp⟩ := hwp
    refine x_putF (x := (.inr (some k74) : MV)) C0 pk_Se_35 hin e81 rfl rfl d_Se_init_81 ?_
    refine x_nh (fun h81 eh81 => ?_)
    replace hwp := hwp h81 eh81
    refine x_aload_n C0 0 d_Se_init_84 rfl rfl ?_
    refine x_bipush (v := 12) C0 d_Se_init_85 (by decide) ?_
    obtain ⟨b87, hwp⟩ := hwp
    refine x_newai C0 12 kw_1_56 (by decide) (by decide) (by decide) ⟨Nat.le_trans b87.1 hR.2.2.1, Nat.le_trans b87.2 hR.2.2.2⟩ d_Se_init_87 ?_
    refine x_nk (fun k87 ek87 => ?_)
    refine x_nh (fun h87 eh87 => ?_)
    replace hwp := hwp k87 h87 ek87 eh87
    obtain ⟨⟨o89, e89⟩, hwp⟩ := hwp
    refine x_putF (x := (.inr (some k87) : MV)) C0 pk_Se_39 hin e89 rfl rfl d_Se_init_89 ?_
    refine x_nh (fun h89 eh89 => ?_)
    replace hwp := hwp h89 eh89
    refine x_aload_n C0 0 d_Se_init_92 rfl rfl ?_
    refine x_iconst (v := -1) C0 d_Se_init_93 (by decide) ?_
    obtain ⟨⟨o94, e94⟩, hwp⟩ := hwp
    refine x_put (x := (.inl (-1 : Int32) : MV)) C0 pk_Se_43 e94 rfl rfl d_Se_init_94 ?_
    refine x_nh (fun h94 eh94 => ?_)
    replace hwp := hwp h94 eh94
    obtain ⟨bR, hwp⟩ := hwp
    refine x_cs bR.1 bR.2 ?_
    exact x_vret C0 hr hlk hwp d_Se_init_97
  · replace hwp := hwp.2 c38
    refine x_aload_n C0 0 d_Se_init_41 rfl rfl ?_
    obtain ⟨x42, e42, hwp⟩ := hwp
    refine x_getR C0 fk_Se_11 e42 d_Se_init_42 ?_
    refine x_iload_n C0 1 d_Se_init_45 rfl rfl ?_
    obtain ⟨b46, hwp⟩ := hwp
    refine x_new C0 [.inl 0, .inl 0, .inl 0, .inl 0, .inr none, .inr none, .inl 0, .inl 0, .inl 0, .inl 0, .inl 0] (ci := 0) rfl iw_0 tf_0 tf_0_ok kw_1_24 kw_1_59 kw_1_4 (by intro j hj; exact df_0 _ j hj) ⟨Nat.le_trans b46.1 hR.2.2.1, Nat.le_trans b46.2 hR.2.2.2⟩ d_Se_init_46 ?_
    refine x_nk (fun k46 ek46 => ?_)
    refine x_nh (fun h46 eh46 => ?_)
    replace hwp := hwp k46 h46 ek46 eh46
    refine x_dup C0 d_Se_init_49 rfl ?_
    obtain ⟨b50, hwp⟩ := hwp
    refine x_callI (k := k46) (As := []) (st := [.ref (m_b G + k46), .int l1, .ref (m_b G + x42)]) C0 (c_Ch_init l G hwp) kw_1_60 mk_Ch_init ⟨rfl, kw_1_61⟩ rfl (by decide) rfl rfl ⟨Nat.le_trans (by decide) hR.1, Nat.le_trans (by decide) hR.2.1⟩ ⟨Nat.le_trans b50.1 hR.2.2.1, Nat.le_trans b50.2 hR.2.2.2⟩ rfl d_Se_init_50 (fun h50 hwp => ?_)
    obtain ⟨n53, f53, e53, i53, g53, hwp⟩ := hwp
    refine x_aast (t := 3) (ci := 0) C0 e53 rfl rfl i53 g53 d_Se_init_53 ?_
    refine x_nh (fun h53 eh53 => ?_)
    replace hwp := hwp h53 eh53
    refine x_aload_n C0 0 d_Se_init_54 rfl rfl ?_
    obtain ⟨x55, e55, hwp⟩ := hwp
    refine x_getR C0 fk_Se_26 e55 d_Se_init_55 ?_
    refine x_iload_n C0 1 d_Se_init_58 rfl rfl ?_
    obtain ⟨b59, hwp⟩ := hwp
    refine x_new C0 [.inr none, .inr none, .inr none, .inr none, .inl 0, .inl 0] (ci := 1) rfl iw_1 tf_1 tf_1_ok kw_1_57 kw_1_112 kw_1_5 (by intro j hj; exact df_1 _ j hj) ⟨Nat.le_trans b59.1 hR.2.2.1, Nat.le_trans b59.2 hR.2.2.2⟩ d_Se_init_59 ?_
    refine x_nk (fun k59 ek59 => ?_)
    refine x_nh (fun h59 eh59 => ?_)
    replace hwp := hwp k59 h59 ek59 eh59
    refine x_dup C0 d_Se_init_62 rfl ?_
    obtain ⟨b63, hwp⟩ := hwp
    refine x_callI (k := k59) (As := []) (st := [.ref (m_b G + k59), .int l1, .ref (m_b G + x55)]) C0 (c_Co_init l G hwp) kw_1_113 mk_Co_init ⟨rfl, kw_1_114⟩ rfl (by decide) rfl rfl ⟨Nat.le_trans (by decide) hR.1, Nat.le_trans (by decide) hR.2.1⟩ ⟨Nat.le_trans b63.1 hR.2.2.1, Nat.le_trans b63.2 hR.2.2.2⟩ rfl d_Se_init_63 (fun h63 hwp => ?_)
    obtain ⟨n66, f66, e66, i66, g66, hwp⟩ := hwp
    refine x_aast (t := 4) (ci := 1) C0 e66 rfl rfl i66 g66 d_Se_init_66 ?_
    refine x_nh (fun h66 eh66 => ?_)
    replace hwp := hwp h66 eh66
    refine x_iinc C0 1 d_Se_init_67 rfl rfl (by decide) (lv' := [(1, .int (l1 + (1 : Int32))), (0, .ref (m_b G + l0))]) rfl ?_
    refine x_goto (tgt := 35) C0 d_Se_init_70 (by decide) ?_
    exact x_sub [1, 0] rfl (hK35 _ _ _ _ _ hwp)
theorem t_Se_init_35 {p : Program} {l : Launch} {e : Env} {R : Room} {s : State} {m : MethodId} {args : Array Value} {below : List Frame} {meth : Method} {c : Code} (G : mG) (C0 : Cx G p s m args c prog_6_method_1_code 2 "BassRealiser$Search") (hR : 2 ≤ R.frames ∧ 40 ≤ R.locals ∧ 107 ≤ R.cells ∧ 5804 ≤ R.slots) (hr : meth.sig.returnType = none) (hlk : meth.locks = false) (hin : meth.name = "<init>") {Post : MH → Prop} (cn : Nat) (sn : Nat) (l0 : Nat) (l1 : Int32) (h : MH) (hwp : wp_Se_init_35 Post cn sn l0 l1 h) : WG p l e R s m args below meth c cn sn (MQ below (va_Qv Post (Wd G) (mA G)) args s 107 5804 (mA G)) G 2 [(0, .ref (m_b G + l0)), (1, .int l1)] 35 [] h := by
  obtain ⟨n, hwp⟩ := hwp
  induction n generalizing cn sn l0 l1 h with
  | zero => exact False.elim hwp
  | succ n ih => exact tb_Se_init_35 G C0 hR hr hlk hin (fun cn sn l0 l1 h hwp => ih cn sn l0 l1 h hwp) cn sn l0 l1 h hwp
set_option maxRecDepth 100000 in
set_option maxHeartbeats 4000000 in
theorem t_Se_init {p : Program} {l : Launch} {e : Env} {R : Room} {s : State} {m : MethodId} {args : Array Value} {below : List Frame} {meth : Method} {c : Code} (G : mG) (C0 : Cx G p s m args c prog_6_method_1_code 2 "BassRealiser$Search") (hR : 2 ≤ R.frames ∧ 40 ≤ R.locals ∧ 107 ≤ R.cells ∧ 5804 ≤ R.slots) (hr : meth.sig.returnType = none) (hlk : meth.locks = false) (hin : meth.name = "<init>") {Post : MH → Prop} (cn : Nat) (sn : Nat) (l0 : Nat) (h : MH) (hwp : wp_Se_init Post cn sn l0 h) : WG p l e R s m args below meth c cn sn (MQ below (va_Qv Post (Wd G) (mA G)) args s 107 5804 (mA G)) G 2 [(0, .ref (m_b G + l0))] 0 [] h := by
  unfold wp_Se_init at hwp
  refine x_aload_n C0 0 d_Se_init_0 rfl rfl ?_
  refine x_objInit C0 kw_1_23 kw_1_16 kw_1_17 d_Se_init_1 ⟨Nat.le_trans (by decide) hR.1, Nat.le_trans (by decide) hR.2.1⟩ (by decide) ?_
  refine x_aload_n C0 0 d_Se_init_4 rfl rfl ?_
  refine x_bipush (v := 12) C0 d_Se_init_5 (by decide) ?_
  obtain ⟨b7, hwp⟩ := hwp
  refine x_newq (t := 3) C0 12 rfl kw_1_24 (m_ao0 C0) (by decide) (by decide) (by decide) ⟨Nat.le_trans b7.1 hR.2.2.1, Nat.le_trans b7.2 hR.2.2.2⟩ d_Se_init_7 ?_
  refine x_nk (fun k7 ek7 => ?_)
  refine x_nh (fun h7 eh7 => ?_)
  replace hwp := hwp k7 h7 ek7 eh7
  obtain ⟨⟨o10, e10⟩, hwp⟩ := hwp
  refine x_putF (x := (.inr (some k7) : MV)) C0 pk_Se_11 hin e10 rfl rfl d_Se_init_10 ?_
  refine x_nh (fun h10 eh10 => ?_)
  replace hwp := hwp h10 eh10
  refine x_aload_n C0 0 d_Se_init_13 rfl rfl ?_
  obtain ⟨b14, hwp⟩ := hwp
  refine x_new C0 [.inr none, .inr none, .inr none, .inl 0, .inl 0] (ci := 3) rfl iw_3 tf_3 tf_3_ok kw_1_26 kw_1_27 kw_1_3 (by intro j hj; exact df_3 _ j hj) ⟨Nat.le_trans b14.1 hR.2.2.1, Nat.le_trans b14.2 hR.2.2.2⟩ d_Se_init_14 ?_
  refine x_nk (fun k14 ek14 => ?_)
  refine x_nh (fun h14 eh14 => ?_)
  replace hwp := hwp k14 h14 ek14 eh14
  refine x_dup C0 d_Se_init_17 rfl ?_
  obtain ⟨b18, hwp⟩ := hwp
  refine x_callI (k := k14) (As := []) (st := [.ref (m_b G + k14), .ref (m_b G + l0)]) C0 (c_Ru_init l G hwp) kw_1_28 mk_Ru_init ⟨rfl, kw_1_29⟩ rfl (by decide) rfl rfl ⟨Nat.le_trans (by decide) hR.1, Nat.le_trans (by decide) hR.2.1⟩ ⟨Nat.le_trans b18.1 hR.2.2.1, Nat.le_trans b18.2 hR.2.2.2⟩ rfl d_Se_init_18 (fun h18 hwp => ?_)
  obtain ⟨⟨o21, e21⟩, hwp⟩ := hwp
  refine x_putF (x := (.inr (some k14) : MV)) C0 pk_Se_20 hin e21 rfl rfl d_Se_init_21 ?_
  refine x_nh (fun h21 eh21 => ?_)
  replace hwp := hwp h21 eh21
  refine x_aload_n C0 0 d_Se_init_24 rfl rfl ?_
  refine x_bipush (v := 12) C0 d_Se_init_25 (by decide) ?_
  obtain ⟨b27, hwp⟩ := hwp
  refine x_newq (t := 4) C0 12 rfl kw_1_57 (m_ao1 C0) (by decide) (by decide) (by decide) ⟨Nat.le_trans b27.1 hR.2.2.1, Nat.le_trans b27.2 hR.2.2.2⟩ d_Se_init_27 ?_
  refine x_nk (fun k27 ek27 => ?_)
  refine x_nh (fun h27 eh27 => ?_)
  replace hwp := hwp k27 h27 ek27 eh27
  obtain ⟨⟨o30, e30⟩, hwp⟩ := hwp
  refine x_putF (x := (.inr (some k27) : MV)) C0 pk_Se_26 hin e30 rfl rfl d_Se_init_30 ?_
  refine x_nh (fun h30 eh30 => ?_)
  replace hwp := hwp h30 eh30
  refine x_iconst (v := 0) C0 d_Se_init_33 (by decide) ?_
  refine x_istore_n C0 d_Se_init_34 rfl (by decide) (lv' := [(1, .int (0 : Int32)), (0, .ref (m_b G + l0))]) rfl ?_
  exact x_sub [1, 0] rfl (t_Se_init_35 G C0 hR hr hlk hin  _ _ _ _ _ hwp)
set_option maxRecDepth 100000 in
set_option maxHeartbeats 4000000 in
theorem c_Se_init (l : Launch) (G : mG) {Post : MH → Prop} {l0 : Nat} {h : MH} (hwp : wp_Se_init Post 0 0 l0 h) : Met l y_Se_init (Cond.code y_Se_init prog_6_method_1_code 2 (Option.none : Option Jvm.ClassFile.FieldType) :: lw_good) ({ frames := 2, cells := 107, slots := 5804, locals := 40 }) (va_Pc [.ref (m_b G + l0)] (Wd G h)) (va_Qv Post (Wd G) (mA G)) 107 5804 (mA G) := by
  refine Met.ofW (cc := prog_6_method_1_code) (maxL := 2) (ret := (Option.none : Option Jvm.ClassFile.FieldType)) (by decide) rfl ?_
  intro p e s m args below meth c s₁ B hml hv
  obtain ⟨rfl, hP, hz, hK, hSt⟩ := hv
  have hts := atoms_spec (ws := Cond.code y_Se_init prog_6_method_1_code 2 (Option.none : Option Jvm.ClassFile.FieldType) :: lw_good) B.pre
  have C0 : Cx G p s m ([.ref (m_b G + l0)] : List Value).toArray c prog_6_method_1_code 2 "BassRealiser$Search" := ⟨⟨B.exec, B.bytes, hml, findClass_of_methodNamed B.named, fun w h => hts w (List.mem_cons_of_mem _ h)⟩, hK, hSt, by rw [hz]; exact Nat.le_add_right _ _⟩
  have hl := lv_entry ([.ref (m_b G + l0)]) (n := 2) (Nat.le_of_ble_eq_true rfl)
  rw [lg_entry_eq]
  exact t_Se_init G C0 ⟨Nat.le_refl _, Nat.le_refl _, Nat.le_refl _, Nat.le_refl _⟩ B.returns B.notSynchronized (name_of_methodNamed B.named B.method).1 _ _ _ _ hwp _ _ _ ⟨hP, hz, va_S.rf⟩ hl
def wp_Br_init (Post : MH → Prop) (cn : Nat) (sn : Nat) (l0 : Nat) (h : MH) : Prop :=
  (cn + 1 ≤ 112 ∧ sn + 9 ≤ 5831) ∧ ∀ (k5 : Nat) (h5 : MH), k5 = h.1 → h5 = mnew h (.inl (4, [.inr none, .inr none, .inr none, .inr none, .inr none, .inl 0, .inl 0, .inl 0, .inl 0])) →
  (((cn + 1) + 107 ≤ 112 ∧ (sn + 9) + 5804 ≤ 5831) ∧ wp_Se_init (fun (h9 : MH) =>
      ((∃ o : MV, gF h9 l0 5 0 = some o) ∧ ∀ h12 : MH, h12 = fset h9 l0 0 (.inr (some k5) : MV) →
        (∃ x17 : Nat, gF h12 l0 5 0 = some (.inr (some x17)) ∧
          (∃ x20 : Nat, gF h12 x17 4 0 = some (.inr (some x20)) ∧
            ((∃ o : MV, gF h12 l0 5 1 = some o) ∧ ∀ h23 : MH, h23 = fset h12 l0 1 (.inr (some x20) : MV) →
              (∃ x28 : Nat, gF h23 l0 5 0 = some (.inr (some x28)) ∧
                (∃ x31 : Nat, gF h23 x28 4 1 = some (.inr (some x31)) ∧
                  ((∃ o : MV, gF h23 l0 5 2 = some o) ∧ ∀ h34 : MH, h34 = fset h23 l0 2 (.inr (some x31) : MV) →
                    ((((cn + 1) + 107) + 1 ≤ 112 ∧ ((sn + 9) + 5804) + 6 ≤ 5831) ∧ ∀ (k38 : Nat) (h38 : MH), k38 = h34.1 → h38 = mnew h34 (.inl (2, [.inr none, .inr none, .inr none, .inl 0, .inl 0, .inl 0])) →
                      (((((cn + 1) + 107) + 1) + 3 ≤ 112 ∧ (((sn + 9) + 5804) + 6) + 12 ≤ 5831) ∧ wp_Mv_init (fun (h42 : MH) =>
                        ((∃ o : MV, gF h42 l0 5 3 = some o) ∧ ∀ h45 : MH, h45 = fset h42 l0 3 (.inr (some k38) : MV) →
                        ((∃ o : MV, gF h45 l0 5 4 = some o) ∧ ∀ h50 : MH, h50 = fset h45 l0 4 (.inl (0 : Int32) : MV) →
                        ((((((cn + 1) + 107) + 1) + 3) ≤ 112 ∧ ((((sn + 9) + 5804) + 6) + 12) ≤ 5831) ∧ Post h50)))) 0 0 k38 h38)))))))))) 0 0 k5 h5)
set_option maxRecDepth 100000 in
set_option maxHeartbeats 4000000 in
theorem t_Br_init {p : Program} {l : Launch} {e : Env} {R : Room} {s : State} {m : MethodId} {args : Array Value} {below : List Frame} {meth : Method} {c : Code} (G : mG) (C0 : Cx G p s m args c prog_1_method_1_code 1 "BassRealiser") (hR : 3 ≤ R.frames ∧ 61 ≤ R.locals ∧ 112 ≤ R.cells ∧ 5831 ≤ R.slots) (hr : meth.sig.returnType = none) (hlk : meth.locks = false) (hin : meth.name = "<init>") {Post : MH → Prop} (cn : Nat) (sn : Nat) (l0 : Nat) (h : MH) (hwp : wp_Br_init Post cn sn l0 h) : WG p l e R s m args below meth c cn sn (MQ below (va_Qv Post (Wd G) (mA G)) args s 112 5831 (mA G)) G 1 [(0, .ref (m_b G + l0))] 0 [] h := by
  unfold wp_Br_init at hwp
  refine x_aload_n C0 0 d_Br_init_0 rfl rfl ?_
  refine x_objInit C0 kw_1_15 kw_1_16 kw_1_17 d_Br_init_1 ⟨Nat.le_trans (by decide) hR.1, Nat.le_trans (by decide) hR.2.1⟩ (by decide) ?_
  refine x_aload_n C0 0 d_Br_init_4 rfl rfl ?_
  obtain ⟨b5, hwp⟩ := hwp
  refine x_new C0 [.inr none, .inr none, .inr none, .inr none, .inr none, .inl 0, .inl 0, .inl 0, .inl 0] (ci := 4) rfl iw_4 tf_4 tf_4_ok kw_1_18 kw_1_19 kw_1_2 (by intro j hj; exact df_4 _ j hj) ⟨Nat.le_trans b5.1 hR.2.2.1, Nat.le_trans b5.2 hR.2.2.2⟩ d_Br_init_5 ?_
  refine x_nk (fun k5 ek5 => ?_)
  refine x_nh (fun h5 eh5 => ?_)
  replace hwp := hwp k5 h5 ek5 eh5
  refine x_dup C0 d_Br_init_8 rfl ?_
  obtain ⟨b9, hwp⟩ := hwp
  refine x_callI (k := k5) (As := []) (st := [.ref (m_b G + k5), .ref (m_b G + l0)]) C0 (c_Se_init l G hwp) kw_1_20 mk_Se_init ⟨rfl, kw_1_21⟩ rfl (by decide) rfl rfl ⟨Nat.le_trans (by decide) hR.1, Nat.le_trans (by decide) hR.2.1⟩ ⟨Nat.le_trans b9.1 hR.2.2.1, Nat.le_trans b9.2 hR.2.2.2⟩ rfl d_Br_init_9 (fun h9 hwp => ?_)
  obtain ⟨⟨o12, e12⟩, hwp⟩ := hwp
  refine x_putF (x := (.inr (some k5) : MV)) C0 pk_Br_10 hin e12 rfl rfl d_Br_init_12 ?_
  refine x_nh (fun h12 eh12 => ?_)
  replace hwp := hwp h12 eh12
  refine x_aload_n C0 0 d_Br_init_15 rfl rfl ?_
  refine x_aload_n C0 0 d_Br_init_16 rfl rfl ?_
  obtain ⟨x17, e17, hwp⟩ := hwp
  refine x_getR C0 fk_Br_10 e17 d_Br_init_17 ?_
  obtain ⟨x20, e20, hwp⟩ := hwp
  refine x_getR C0 fk_Br_16 e20 d_Br_init_20 ?_
  obtain ⟨⟨o23, e23⟩, hwp⟩ := hwp
  refine x_putF (x := (.inr (some x20) : MV)) C0 pk_Br_20 hin e23 rfl rfl d_Br_init_23 ?_
  refine x_nh (fun h23 eh23 => ?_)
  replace hwp := hwp h23 eh23
  refine x_aload_n C0 0 d_Br_init_26 rfl rfl ?_
  refine x_aload_n C0 0 d_Br_init_27 rfl rfl ?_
  obtain ⟨x28, e28, hwp⟩ := hwp
  refine x_getR C0 fk_Br_10 e28 d_Br_init_28 ?_
  obtain ⟨x31, e31, hwp⟩ := hwp
  refine x_getR C0 fk_Br_21 e31 d_Br_init_31 ?_
  obtain ⟨⟨o34, e34⟩, hwp⟩ := hwp
  refine x_putF (x := (.inr (some x31) : MV)) C0 pk_Br_25 hin e34 rfl rfl d_Br_init_34 ?_
  refine x_nh (fun h34 eh34 => ?_)
  replace hwp := hwp h34 eh34
  refine x_aload_n C0 0 d_Br_init_37 rfl rfl ?_
  obtain ⟨b38, hwp⟩ := hwp
  refine x_new C0 [.inr none, .inr none, .inr none, .inl 0, .inl 0, .inl 0] (ci := 2) rfl iw_2 tf_2 tf_2_ok kw_1_204 kw_1_146 kw_1_6 (by intro j hj; exact df_2 _ j hj) ⟨Nat.le_trans b38.1 hR.2.2.1, Nat.le_trans b38.2 hR.2.2.2⟩ d_Br_init_38 ?_
  refine x_nk (fun k38 ek38 => ?_)
  refine x_nh (fun h38 eh38 => ?_)
  replace hwp := hwp k38 h38 ek38 eh38
  refine x_dup C0 d_Br_init_41 rfl ?_
  obtain ⟨b42, hwp⟩ := hwp
  refine x_callI (k := k38) (As := []) (st := [.ref (m_b G + k38), .ref (m_b G + l0)]) C0 (c_Mv_init l G hwp) kw_1_205 mk_Mv_init ⟨rfl, kw_1_148⟩ rfl (by decide) rfl rfl ⟨Nat.le_trans (by decide) hR.1, Nat.le_trans (by decide) hR.2.1⟩ ⟨Nat.le_trans b42.1 hR.2.2.1, Nat.le_trans b42.2 hR.2.2.2⟩ rfl d_Br_init_42 (fun h42 hwp => ?_)
  obtain ⟨⟨o45, e45⟩, hwp⟩ := hwp
  refine x_putF (x := (.inr (some k38) : MV)) C0 pk_Br_29 hin e45 rfl rfl d_Br_init_45 ?_
  refine x_nh (fun h45 eh45 => ?_)
  replace hwp := hwp h45 eh45
  refine x_aload_n C0 0 d_Br_init_48 rfl rfl ?_
  refine x_iconst (v := 0) C0 d_Br_init_49 (by decide) ?_
  obtain ⟨⟨o50, e50⟩, hwp⟩ := hwp
  refine x_put (x := (.inl (0 : Int32) : MV)) C0 pk_Br_33 e50 rfl rfl d_Br_init_50 ?_
  refine x_nh (fun h50 eh50 => ?_)
  replace hwp := hwp h50 eh50
  obtain ⟨bR, hwp⟩ := hwp
  refine x_cs bR.1 bR.2 ?_
  exact x_vret C0 hr hlk hwp d_Br_init_53
set_option maxRecDepth 100000 in
set_option maxHeartbeats 4000000 in
theorem c_Br_init (l : Launch) (G : mG) {Post : MH → Prop} {l0 : Nat} {h : MH} (hwp : wp_Br_init Post 0 0 l0 h) : Met l y_Br_init (Cond.code y_Br_init prog_1_method_1_code 1 (Option.none : Option Jvm.ClassFile.FieldType) :: lw_good) ({ frames := 3, cells := 112, slots := 5831, locals := 61 }) (va_Pc [.ref (m_b G + l0)] (Wd G h)) (va_Qv Post (Wd G) (mA G)) 112 5831 (mA G) := by
  refine Met.ofW (cc := prog_1_method_1_code) (maxL := 1) (ret := (Option.none : Option Jvm.ClassFile.FieldType)) (by decide) rfl ?_
  intro p e s m args below meth c s₁ B hml hv
  obtain ⟨rfl, hP, hz, hK, hSt⟩ := hv
  have hts := atoms_spec (ws := Cond.code y_Br_init prog_1_method_1_code 1 (Option.none : Option Jvm.ClassFile.FieldType) :: lw_good) B.pre
  have C0 : Cx G p s m ([.ref (m_b G + l0)] : List Value).toArray c prog_1_method_1_code 1 "BassRealiser" := ⟨⟨B.exec, B.bytes, hml, findClass_of_methodNamed B.named, fun w h => hts w (List.mem_cons_of_mem _ h)⟩, hK, hSt, by rw [hz]; exact Nat.le_add_right _ _⟩
  have hl := lv_entry ([.ref (m_b G + l0)]) (n := 1) (Nat.le_of_ble_eq_true rfl)
  rw [lg_entry_eq]
  exact t_Br_init G C0 ⟨Nat.le_refl _, Nat.le_refl _, Nat.le_refl _, Nat.le_refl _⟩ B.returns B.notSynchronized (name_of_methodNamed B.named B.method).1 _ _ _ _ hwp _ _ _ ⟨hP, hz, va_S.rf⟩ hl
def wp_Rm_init_259 (K174 : Nat → Nat → Nat → Int32 → MH → Prop) (Post : MH → Prop) (cn : Nat) (sn : Nat) (l0 : Nat) (l1 : Int32) (y0 : Nat) (y1 : Int32) (y2 : Int32) (h : MH) : Prop :=
  ∃ (n259 : Nat) (f259 : Nat → Int32), gA h y0 0 = some (n259, f259) ∧ vp_in y1 n259 ∧ ∀ h259 : MH, h259 = mset h y0 (.inr (0, n259, .inl (upd f259 (y1).toNatClampNeg y2))) →
  (K174 cn sn l0 (l1 + (1 : Int32)) h259)
def wp_Rm_init_232 (K174 : Nat → Nat → Nat → Int32 → MH → Prop) (Post : MH → Prop) (cn : Nat) (sn : Nat) (l0 : Nat) (l1 : Int32) (y0 : Nat) (y1 : Int32) (y2 : Int32) (h : MH) : Prop :=
  ∃ (n232 : Nat) (f232 : Nat → Int32), gA h y0 0 = some (n232, f232) ∧ vp_in y1 n232 ∧ ∀ h232 : MH, h232 = mset h y0 (.inr (0, n232, .inl (upd f232 (y1).toNatClampNeg y2))) →
  (∃ x234 : Nat, gF h232 l0 6 9 = some (.inr (some x234)) ∧
    (((¬ l1 = 0) →
        (((¬ l1 = (1 : Int32)) →
            (wp_Rm_init_259 K174 Post cn sn l0 l1 x234 l1 (60 : Int32) h232)) ∧
          ((l1 = (1 : Int32)) →
            (wp_Rm_init_259 K174 Post cn sn l0 l1 x234 l1 (67 : Int32) h232)))) ∧
      ((l1 = 0) →
        (wp_Rm_init_259 K174 Post cn sn l0 l1 x234 l1 (72 : Int32) h232))))
def wp_Rm_init_205 (K174 : Nat → Nat → Nat → Int32 → MH → Prop) (Post : MH → Prop) (cn : Nat) (sn : Nat) (l0 : Nat) (l1 : Int32) (y0 : Nat) (y1 : Int32) (y2 : Int32) (h : MH) : Prop :=
  ∃ (n205 : Nat) (f205 : Nat → Int32), gA h y0 0 = some (n205, f205) ∧ vp_in y1 n205 ∧ ∀ h205 : MH, h205 = mset h y0 (.inr (0, n205, .inl (upd f205 (y1).toNatClampNeg y2))) →
  (∃ x207 : Nat, gF h205 l0 6 8 = some (.inr (some x207)) ∧
    (((¬ l1 = 0) →
        (((¬ l1 = (1 : Int32)) →
            (wp_Rm_init_232 K174 Post cn sn l0 l1 x207 l1 (69 : Int32) h205)) ∧
          ((l1 = (1 : Int32)) →
            (wp_Rm_init_232 K174 Post cn sn l0 l1 x207 l1 (74 : Int32) h205)))) ∧
      ((l1 = 0) →
        (wp_Rm_init_232 K174 Post cn sn l0 l1 x207 l1 (81 : Int32) h205))))
def wb_Rm_init_174 (K174 : Nat → Nat → Nat → Int32 → MH → Prop) (Post : MH → Prop) (cn : Nat) (sn : Nat) (l0 : Nat) (l1 : Int32) (h : MH) : Prop :=
  (((3 : Int32) ≤ l1) →
    ((cn ≤ 20 ∧ sn ≤ 48309) ∧ Post h)) ∧
  ((¬ (3 : Int32) ≤ l1) →
    (∃ x180 : Nat, gF h l0 6 7 = some (.inr (some x180)) ∧
      (((¬ l1 = 0) →
          (((¬ l1 = (1 : Int32)) →
              (wp_Rm_init_205 K174 Post cn sn l0 l1 x180 l1 (48 : Int32) h)) ∧
            ((l1 = (1 : Int32)) →
              (wp_Rm_init_205 K174 Post cn sn l0 l1 x180 l1 (55 : Int32) h)))) ∧
        ((l1 = 0) →
          (wp_Rm_init_205 K174 Post cn sn l0 l1 x180 l1 (60 : Int32) h)))))
def wn_Rm_init_174 (Post : MH → Prop) : Nat → Nat → Nat → Nat → Int32 → MH → Prop
  | 0 => fun _ _ _ _ _ => False
  | n + 1 => wb_Rm_init_174 (wn_Rm_init_174 Post n) Post
def wp_Rm_init_174 (Post : MH → Prop) (cn : Nat) (sn : Nat) (l0 : Nat) (l1 : Int32) (h : MH) : Prop := ∃ n, wn_Rm_init_174 Post n cn sn l0 l1 h
def wp_Rm_init (Post : MH → Prop) (cn : Nat) (sn : Nat) (l0 : Nat) (h : MH) : Prop :=
  (cn + 1 ≤ 20 ∧ sn + 12 ≤ 48309) ∧ ∀ (k7 : Nat) (h7 : MH), k7 = h.1 → h7 = mnew h (.inr (0, 12, .inl (fun _ => 0))) →
  ((∃ o : MV, gF h7 l0 6 3 = some o) ∧ ∀ h9 : MH, h9 = fset h7 l0 3 (.inr (some k7) : MV) →
    (((cn + 1) + 1 ≤ 20 ∧ (sn + 12) + 12 ≤ 48309) ∧ ∀ (k15 : Nat) (h15 : MH), k15 = h9.1 → h15 = mnew h9 (.inr (0, 12, .inl (fun _ => 0))) →
      ((∃ o : MV, gF h15 l0 6 4 = some o) ∧ ∀ h17 : MH, h17 = fset h15 l0 4 (.inr (some k15) : MV) →
        ((((cn + 1) + 1) + 1 ≤ 20 ∧ ((sn + 12) + 12) + 12 ≤ 48309) ∧ ∀ (k23 : Nat) (h23 : MH), k23 = h17.1 → h23 = mnew h17 (.inr (0, 12, .inl (fun _ => 0))) →
          ((∃ o : MV, gF h23 l0 6 5 = some o) ∧ ∀ h25 : MH, h25 = fset h23 l0 5 (.inr (some k23) : MV) →
            (((((cn + 1) + 1) + 1) + 1 ≤ 20 ∧ (((sn + 12) + 12) + 12) + 120 ≤ 48309) ∧ ∀ (k31 : Nat) (h31 : MH), k31 = h25.1 → h31 = mnew h25 (.inr (0, 120, .inl (fun _ => 0))) →
              ((∃ o : MV, gF h31 l0 6 6 = some o) ∧ ∀ h33 : MH, h33 = fset h31 l0 6 (.inr (some k31) : MV) →
                ((((((cn + 1) + 1) + 1) + 1) + 1 ≤ 20 ∧ ((((sn + 12) + 12) + 12) + 120) + 3 ≤ 48309) ∧ ∀ (k38 : Nat) (h38 : MH), k38 = h33.1 → h38 = mnew h33 (.inr (0, 3, .inl (fun _ => 0))) →
                  ((∃ o : MV, gF h38 l0 6 7 = some o) ∧ ∀ h40 : MH, h40 = fset h38 l0 7 (.inr (some k38) : MV) →
                    (((((((cn + 1) + 1) + 1) + 1) + 1) + 1 ≤ 20 ∧ (((((sn + 12) + 12) + 12) + 120) + 3) + 3 ≤ 48309) ∧ ∀ (k45 : Nat) (h45 : MH), k45 = h40.1 → h45 = mnew h40 (.inr (0, 3, .inl (fun _ => 0))) →
                      ((∃ o : MV, gF h45 l0 6 8 = some o) ∧ ∀ h47 : MH, h47 = fset h45 l0 8 (.inr (some k45) : MV) →
                        ((((((((cn + 1) + 1) + 1) + 1) + 1) + 1) + 1 ≤ 20 ∧ ((((((sn + 12) + 12) + 12) + 120) + 3) + 3) + 3 ≤ 48309) ∧ ∀ (k52 : Nat) (h52 : MH), k52 = h47.1 → h52 = mnew h47 (.inr (0, 3, .inl (fun _ => 0))) →
                        ((∃ o : MV, gF h52 l0 6 9 = some o) ∧ ∀ h54 : MH, h54 = fset h52 l0 9 (.inr (some k52) : MV) →
                        ((∃ o : MV, gF h54 l0 6 10 = some o) ∧ ∀ h60 : MH, h60 = fset h54 l0 10 (.inl (12 : Int32) : MV) →
                        (((((((((cn + 1) + 1) + 1) + 1) + 1) + 1) + 1) + 1 ≤ 20 ∧ (((((((sn + 12) + 12) + 12) + 120) + 3) + 3) + 3) + 36 ≤ 48309) ∧ ∀ (k66 : Nat) (h66 : MH), k66 = h60.1 → h66 = mnew h60 (.inr (0, 36, .inl (fun _ => 0))) →
                        ((∃ o : MV, gF h66 l0 6 11 = some o) ∧ ∀ h68 : MH, h68 = fset h66 l0 11 (.inr (some k66) : MV) →
                        ((((((((((cn + 1) + 1) + 1) + 1) + 1) + 1) + 1) + 1) + 1 ≤ 20 ∧ ((((((((sn + 12) + 12) + 12) + 120) + 3) + 3) + 3) + 36) + 36 ≤ 48309) ∧ ∀ (k74 : Nat) (h74 : MH), k74 = h68.1 → h74 = mnew h68 (.inr (0, 36, .inl (fun _ => 0))) →
                        ((∃ o : MV, gF h74 l0 6 12 = some o) ∧ ∀ h76 : MH, h76 = fset h74 l0 12 (.inr (some k74) : MV) →
                        (((((((((((cn + 1) + 1) + 1) + 1) + 1) + 1) + 1) + 1) + 1) + 1 ≤ 20 ∧ (((((((((sn + 12) + 12) + 12) + 120) + 3) + 3) + 3) + 36) + 36) + 12 ≤ 48309) ∧ ∀ (k82 : Nat) (h82 : MH), k82 = h76.1 → h82 = mnew h76 (.inr (1, 12, .inl (fun _ => 0))) →
                        ((∃ o : MV, gF h82 l0 6 13 = some o) ∧ ∀ h84 : MH, h84 = fset h82 l0 13 (.inr (some k82) : MV) →
                        ((((((((((((cn + 1) + 1) + 1) + 1) + 1) + 1) + 1) + 1) + 1) + 1) + 1 ≤ 20 ∧ ((((((((((sn + 12) + 12) + 12) + 120) + 3) + 3) + 3) + 36) + 36) + 12) + 4 ≤ 48309) ∧ ∀ (k89 : Nat) (h89 : MH), k89 = h84.1 → h89 = mnew h84 (.inr (0, 4, .inl (fun _ => 0))) →
                        ((∃ o : MV, gF h89 l0 6 14 = some o) ∧ ∀ h91 : MH, h91 = fset h89 l0 14 (.inr (some k89) : MV) →
                        (((((((((((((cn + 1) + 1) + 1) + 1) + 1) + 1) + 1) + 1) + 1) + 1) + 1) + 1 ≤ 20 ∧ (((((((((((sn + 12) + 12) + 12) + 120) + 3) + 3) + 3) + 36) + 36) + 12) + 4) + 4 ≤ 48309) ∧ ∀ (k96 : Nat) (h96 : MH), k96 = h91.1 → h96 = mnew h91 (.inr (0, 4, .inl (fun _ => 0))) →
                        ((∃ o : MV, gF h96 l0 6 15 = some o) ∧ ∀ h98 : MH, h98 = fset h96 l0 15 (.inr (some k96) : MV) →
                        ((((((((((((((cn + 1) + 1) + 1) + 1) + 1) + 1) + 1) + 1) + 1) + 1) + 1) + 1) + 1 ≤ 20 ∧ ((((((((((((sn + 12) + 12) + 12) + 120) + 3) + 3) + 3) + 36) + 36) + 12) + 4) + 4) + 12 ≤ 48309) ∧ ∀ (k104 : Nat) (h104 : MH), k104 = h98.1 → h104 = mnew h98 (.inr (0, 12, .inl (fun _ => 0))) →
                        ((∃ o : MV, gF h104 l0 6 16 = some o) ∧ ∀ h106 : MH, h106 = fset h104 l0 16 (.inr (some k104) : MV) →
                        (((((((((((((((cn + 1) + 1) + 1) + 1) + 1) + 1) + 1) + 1) + 1) + 1) + 1) + 1) + 1) + 1 ≤ 20 ∧ (((((((((((((sn + 12) + 12) + 12) + 120) + 3) + 3) + 3) + 36) + 36) + 12) + 4) + 4) + 12) + 12 ≤ 48309) ∧ ∀ (k112 : Nat) (h112 : MH), k112 = h106.1 → h112 = mnew h106 (.inr (0, 12, .inl (fun _ => 0))) →
                        ((∃ o : MV, gF h112 l0 6 17 = some o) ∧ ∀ h114 : MH, h114 = fset h112 l0 17 (.inr (some k112) : MV) →
                        ((((((((((((((((cn + 1) + 1) + 1) + 1) + 1) + 1) + 1) + 1) + 1) + 1) + 1) + 1) + 1) + 1) + 1 ≤ 20 ∧ ((((((((((((((sn + 12) + 12) + 12) + 120) + 3) + 3) + 3) + 36) + 36) + 12) + 4) + 4) + 12) + 12) + 12 ≤ 48309) ∧ ∀ (k120 : Nat) (h120 : MH), k120 = h114.1 → h120 = mnew h114 (.inr (0, 12, .inl (fun _ => 0))) →
                        ((∃ o : MV, gF h120 l0 6 18 = some o) ∧ ∀ h122 : MH, h122 = fset h120 l0 18 (.inr (some k120) : MV) →
                        (((((((((((((((((cn + 1) + 1) + 1) + 1) + 1) + 1) + 1) + 1) + 1) + 1) + 1) + 1) + 1) + 1) + 1) + 1 ≤ 20 ∧ (((((((((((((((sn + 12) + 12) + 12) + 120) + 3) + 3) + 3) + 36) + 36) + 12) + 4) + 4) + 12) + 12) + 12) + 28800 ≤ 48309) ∧ ∀ (k129 : Nat) (h129 : MH), k129 = h122.1 → h129 = mnew h122 (.inr (0, 28800, .inl (fun _ => 0))) →
                        ((∃ o : MV, gF h129 l0 6 20 = some o) ∧ ∀ h131 : MH, h131 = fset h129 l0 20 (.inr (some k129) : MV) →
                        ((((((((((((((((((cn + 1) + 1) + 1) + 1) + 1) + 1) + 1) + 1) + 1) + 1) + 1) + 1) + 1) + 1) + 1) + 1) + 1 ≤ 20 ∧ ((((((((((((((((sn + 12) + 12) + 12) + 120) + 3) + 3) + 3) + 36) + 36) + 12) + 4) + 4) + 12) + 12) + 12) + 28800) + 12 ≤ 48309) ∧ ∀ (k137 : Nat) (h137 : MH), k137 = h131.1 → h137 = mnew h131 (.inr (0, 12, .inl (fun _ => 0))) →
                        ((∃ o : MV, gF h137 l0 6 21 = some o) ∧ ∀ h139 : MH, h139 = fset h137 l0 21 (.inr (some k137) : MV) →
                        (((((((((((((((((((cn + 1) + 1) + 1) + 1) + 1) + 1) + 1) + 1) + 1) + 1) + 1) + 1) + 1) + 1) + 1) + 1) + 1) + 1 ≤ 20 ∧ (((((((((((((((((sn + 12) + 12) + 12) + 120) + 3) + 3) + 3) + 36) + 36) + 12) + 4) + 4) + 12) + 12) + 12) + 28800) + 12) + 9600 ≤ 48309) ∧ ∀ (k146 : Nat) (h146 : MH), k146 = h139.1 → h146 = mnew h139 (.inr (0, 9600, .inl (fun _ => 0))) →
                        ((∃ o : MV, gF h146 l0 6 22 = some o) ∧ ∀ h148 : MH, h148 = fset h146 l0 22 (.inr (some k146) : MV) →
                        ((((((((((((((((((((cn + 1) + 1) + 1) + 1) + 1) + 1) + 1) + 1) + 1) + 1) + 1) + 1) + 1) + 1) + 1) + 1) + 1) + 1) + 1 ≤ 20 ∧ ((((((((((((((((((sn + 12) + 12) + 12) + 120) + 3) + 3) + 3) + 36) + 36) + 12) + 4) + 4) + 12) + 12) + 12) + 28800) + 12) + 9600) + 9600 ≤ 48309) ∧ ∀ (k155 : Nat) (h155 : MH), k155 = h148.1 → h155 = mnew h148 (.inr (2, 9600, .inr (.inl (fun _ => 0)))) →
                        ((∃ o : MV, gF h155 l0 6 23 = some o) ∧ ∀ h157 : MH, h157 = fset h155 l0 23 (.inr (some k155) : MV) →
                        (((((((((((((((((((((cn + 1) + 1) + 1) + 1) + 1) + 1) + 1) + 1) + 1) + 1) + 1) + 1) + 1) + 1) + 1) + 1) + 1) + 1) + 1) + 1 ≤ 20 ∧ (((((((((((((((((((sn + 12) + 12) + 12) + 120) + 3) + 3) + 3) + 36) + 36) + 12) + 4) + 4) + 12) + 12) + 12) + 28800) + 12) + 9600) + 9600) + 4 ≤ 48309) ∧ ∀ (k162 : Nat) (h162 : MH), k162 = h157.1 → h162 = mnew h157 (.inr (0, 4, .inl (fun _ => 0))) →
                        ((∃ o : MV, gF h162 l0 6 25 = some o) ∧ ∀ h164 : MH, h164 = fset h162 l0 25 (.inr (some k162) : MV) →
                        ((∃ o : MV, gF h164 l0 6 0 = some o) ∧ ∀ h169 : MH, h169 = fset h164 l0 0 (.inl (0 : Int32) : MV) →
                        (wp_Rm_init_174 Post ((((((((((((((((((((cn + 1) + 1) + 1) + 1) + 1) + 1) + 1) + 1) + 1) + 1) + 1) + 1) + 1) + 1) + 1) + 1) + 1) + 1) + 1) + 1) ((((((((((((((((((((sn + 12) + 12) + 12) + 120) + 3) + 3) + 3) + 36) + 36) + 12) + 4) + 4) + 12) + 12) + 12) + 28800) + 12) + 9600) + 9600) + 4) l0 (0 : Int32) h169))))))))))))))))))))))))))))))))))))))))))
set_option maxRecDepth 100000 in
set_option maxHeartbeats 4000000 in
theorem t_Rm_init_259 {p : Program} {l : Launch} {e : Env} {R : Room} {s : State} {m : MethodId} {args : Array Value} {below : List Frame} {meth : Method} {c : Code} (G : mG) (C0 : Cx G p s m args c prog_8_method_3_code 2 "BassRealiserModel") (hR : 1 ≤ R.frames ∧ 20 ≤ R.locals ∧ 20 ≤ R.cells ∧ 48309 ≤ R.slots) (hr : meth.sig.returnType = none) (hlk : meth.locks = false) (hin : meth.name = "<init>") {Post : MH → Prop} {K174 : Nat → Nat → Nat → Int32 → MH → Prop} (hK174 : ∀ (cn : Nat) (sn : Nat) (l0 : Nat) (l1 : Int32) (h : MH), K174 cn sn l0 l1 h → WG p l e R s m args below meth c cn sn (MQ below (va_Qv Post (Wd G) (mA G)) args s 20 48309 (mA G)) G 2 [(0, .ref (m_b G + l0)), (1, .int l1)] 174 [] h) (cn : Nat) (sn : Nat) (l0 : Nat) (l1 : Int32) (y0 : Nat) (y1 : Int32) (y2 : Int32) (h : MH) (hwp : wp_Rm_init_259 K174 Post cn sn l0 l1 y0 y1 y2 h) : WG p l e R s m args below meth c cn sn (MQ below (va_Qv Post (Wd G) (mA G)) args s 20 48309 (mA G)) G 2 [(0, .ref (m_b G + l0)), (1, .int l1)] 259 [.int y2, .int y1, .ref (m_b G + y0)] h := by
  unfold wp_Rm_init_259 at hwp
  obtain ⟨n259, f259, e259, i259, hwp⟩ := hwp
  refine x_iast C0 e259 i259 d_Rm_init_259 ?_
  refine x_nh (fun h259 eh259 => ?_)
  replace hwp := hwp h259 eh259
  refine x_iinc C0 1 d_Rm_init_260 rfl rfl (by decide) (lv' := [(1, .int (l1 + (1 : Int32))), (0, .ref (m_b G + l0))]) rfl ?_
  refine x_goto (tgt := 174) C0 d_Rm_init_263 (by decide) ?_
  exact x_sub [1, 0] rfl (hK174 _ _ _ _ _ hwp)
set_option maxRecDepth 100000 in
set_option maxHeartbeats 4000000 in
theorem t_Rm_init_232 {p : Program} {l : Launch} {e : Env} {R : Room} {s : State} {m : MethodId} {args : Array Value} {below : List Frame} {meth : Method} {c : Code} (G : mG) (C0 : Cx G p s m args c prog_8_method_3_code 2 "BassRealiserModel") (hR : 1 ≤ R.frames ∧ 20 ≤ R.locals ∧ 20 ≤ R.cells ∧ 48309 ≤ R.slots) (hr : meth.sig.returnType = none) (hlk : meth.locks = false) (hin : meth.name = "<init>") {Post : MH → Prop} {K174 : Nat → Nat → Nat → Int32 → MH → Prop} (hK174 : ∀ (cn : Nat) (sn : Nat) (l0 : Nat) (l1 : Int32) (h : MH), K174 cn sn l0 l1 h → WG p l e R s m args below meth c cn sn (MQ below (va_Qv Post (Wd G) (mA G)) args s 20 48309 (mA G)) G 2 [(0, .ref (m_b G + l0)), (1, .int l1)] 174 [] h) (cn : Nat) (sn : Nat) (l0 : Nat) (l1 : Int32) (y0 : Nat) (y1 : Int32) (y2 : Int32) (h : MH) (hwp : wp_Rm_init_232 K174 Post cn sn l0 l1 y0 y1 y2 h) : WG p l e R s m args below meth c cn sn (MQ below (va_Qv Post (Wd G) (mA G)) args s 20 48309 (mA G)) G 2 [(0, .ref (m_b G + l0)), (1, .int l1)] 232 [.int y2, .int y1, .ref (m_b G + y0)] h := by
  unfold wp_Rm_init_232 at hwp
  obtain ⟨n232, f232, e232, i232, hwp⟩ := hwp
  refine x_iast C0 e232 i232 d_Rm_init_232 ?_
  refine x_nh (fun h232 eh232 => ?_)
  replace hwp := hwp h232 eh232
  refine x_aload_n C0 0 d_Rm_init_233 rfl rfl ?_
  obtain ⟨x234, e234, hwp⟩ := hwp
  refine x_getR C0 fk_Rm_32 e234 d_Rm_init_234 ?_
  refine x_iload_n C0 1 d_Rm_init_237 rfl rfl ?_
  refine x_iload_n C0 1 d_Rm_init_238 rfl rfl ?_
  refine x_if_ne (tgt := 247) C0 d_Rm_init_239 (by decide) (fun c239 => ?_) (fun c239 => ?_)
  · replace hwp := hwp.1 c239
    refine x_iload_n C0 1 d_Rm_init_247 rfl rfl ?_
    refine x_iconst (v := 1) C0 d_Rm_init_248 (by decide) ?_
    refine x_icmp_ne (tgt := 257) C0 d_Rm_init_249 (by decide) (fun c249 => ?_) (fun c249 => ?_)
    · replace hwp := hwp.1 c249
      refine x_bipush (v := 60) C0 d_Rm_init_257 (by decide) ?_
      exact x_sub [0, 1] rfl (t_Rm_init_259 G C0 hR hr hlk hin hK174 _ _ _ _ _ _ _ _ hwp)
    · replace hwp := hwp.2 c249
      refine x_bipush (v := 67) C0 d_Rm_init_252 (by decide) ?_
      refine x_goto (tgt := 259) C0 d_Rm_init_254 (by decide) ?_
      exact x_sub [0, 1] rfl (t_Rm_init_259 G C0 hR hr hlk hin hK174 _ _ _ _ _ _ _ _ hwp)
  · replace hwp := hwp.2 c239
    refine x_bipush (v := 72) C0 d_Rm_init_242 (by decide) ?_
    refine x_goto (tgt := 259) C0 d_Rm_init_244 (by decide) ?_
    exact x_sub [0, 1] rfl (t_Rm_init_259 G C0 hR hr hlk hin hK174 _ _ _ _ _ _ _ _ hwp)
set_option maxRecDepth 100000 in
set_option maxHeartbeats 4000000 in
theorem t_Rm_init_205 {p : Program} {l : Launch} {e : Env} {R : Room} {s : State} {m : MethodId} {args : Array Value} {below : List Frame} {meth : Method} {c : Code} (G : mG) (C0 : Cx G p s m args c prog_8_method_3_code 2 "BassRealiserModel") (hR : 1 ≤ R.frames ∧ 20 ≤ R.locals ∧ 20 ≤ R.cells ∧ 48309 ≤ R.slots) (hr : meth.sig.returnType = none) (hlk : meth.locks = false) (hin : meth.name = "<init>") {Post : MH → Prop} {K174 : Nat → Nat → Nat → Int32 → MH → Prop} (hK174 : ∀ (cn : Nat) (sn : Nat) (l0 : Nat) (l1 : Int32) (h : MH), K174 cn sn l0 l1 h → WG p l e R s m args below meth c cn sn (MQ below (va_Qv Post (Wd G) (mA G)) args s 20 48309 (mA G)) G 2 [(0, .ref (m_b G + l0)), (1, .int l1)] 174 [] h) (cn : Nat) (sn : Nat) (l0 : Nat) (l1 : Int32) (y0 : Nat) (y1 : Int32) (y2 : Int32) (h : MH) (hwp : wp_Rm_init_205 K174 Post cn sn l0 l1 y0 y1 y2 h) : WG p l e R s m args below meth c cn sn (MQ below (va_Qv Post (Wd G) (mA G)) args s 20 48309 (mA G)) G 2 [(0, .ref (m_b G + l0)), (1, .int l1)] 205 [.int y2, .int y1, .ref (m_b G + y0)] h := by
  unfold wp_Rm_init_205 at hwp
  obtain ⟨n205, f205, e205, i205, hwp⟩ := hwp
  refine x_iast C0 e205 i205 d_Rm_init_205 ?_
  refine x_nh (fun h205 eh205 => ?_)
  replace hwp := hwp h205 eh205
  refine x_aload_n C0 0 d_Rm_init_206 rfl rfl ?_
  obtain ⟨x207, e207, hwp⟩ := hwp
  refine x_getR C0 fk_Rm_29 e207 d_Rm_init_207 ?_
  refine x_iload_n C0 1 d_Rm_init_210 rfl rfl ?_
  refine x_iload_n C0 1 d_Rm_init_211 rfl rfl ?_
  refine x_if_ne (tgt := 220) C0 d_Rm_init_212 (by decide) (fun c212 => ?_) (fun c212 => ?_)
  · replace hwp := hwp.1 c212
    refine x_iload_n C0 1 d_Rm_init_220 rfl rfl ?_
    refine x_iconst (v := 1) C0 d_Rm_init_221 (by decide) ?_
    refine x_icmp_ne (tgt := 230) C0 d_Rm_init_222 (by decide) (fun c222 => ?_) (fun c222 => ?_)
    · replace hwp := hwp.1 c222
      refine x_bipush (v := 69) C0 d_Rm_init_230 (by decide) ?_
      exact x_sub [0, 1] rfl (t_Rm_init_232 G C0 hR hr hlk hin hK174 _ _ _ _ _ _ _ _ hwp)
    · replace hwp := hwp.2 c222
      refine x_bipush (v := 74) C0 d_Rm_init_225 (by decide) ?_
      refine x_goto (tgt := 232) C0 d_Rm_init_227 (by decide) ?_
      exact x_sub [0, 1] rfl (t_Rm_init_232 G C0 hR hr hlk hin hK174 _ _ _ _ _ _ _ _ hwp)
  · replace hwp := hwp.2 c212
    refine x_bipush (v := 81) C0 d_Rm_init_215 (by decide) ?_
    refine x_goto (tgt := 232) C0 d_Rm_init_217 (by decide) ?_
    exact x_sub [0, 1] rfl (t_Rm_init_232 G C0 hR hr hlk hin hK174 _ _ _ _ _ _ _ _ hwp)
set_option maxRecDepth 100000 in
set_option maxHeartbeats 4000000 in
theorem tb_Rm_init_174 {p : Program} {l : Launch} {e : Env} {R : Room} {s : State} {m : MethodId} {args : Array Value} {below : List Frame} {meth : Method} {c : Code} (G : mG) (C0 : Cx G p s m args c prog_8_method_3_code 2 "BassRealiserModel") (hR : 1 ≤ R.frames ∧ 20 ≤ R.locals ∧ 20 ≤ R.cells ∧ 48309 ≤ R.slots) (hr : meth.sig.returnType = none) (hlk : meth.locks = false) (hin : meth.name = "<init>") {Post : MH → Prop} {K174 : Nat → Nat → Nat → Int32 → MH → Prop} (hK174 : ∀ (cn : Nat) (sn : Nat) (l0 : Nat) (l1 : Int32) (h : MH), K174 cn sn l0 l1 h → WG p l e R s m args below meth c cn sn (MQ below (va_Qv Post (Wd G) (mA G)) args s 20 48309 (mA G)) G 2 [(0, .ref (m_b G + l0)), (1, .int l1)] 174 [] h) (cn : Nat) (sn : Nat) (l0 : Nat) (l1 : Int32) (h : MH) (hwp : wb_Rm_init_174 K174 Post cn sn l0 l1 h) : WG p l e R s m args below meth c cn sn (MQ below (va_Qv Post (Wd G) (mA G)) args s 20 48309 (mA G)) G 2 [(0, .ref (m_b G + l0)), (1, .int l1)] 174 [] h := by
  unfold wb_Rm_init_174 at hwp
  refine x_iload_n C0 1 d_Rm_init_174 rfl rfl ?_
  refine x_iconst (v := 3) C0 d_Rm_init_175 (by decide) ?_
  refine x_icmp_ge (tgt := 266) C0 d_Rm_init_176 (by decide) (fun c176 => ?_) (fun c176 => ?_)
  · replace hwp := hwp.1 c176
    obtain ⟨bR, hwp⟩ := hwp
    refine x_cs bR.1 bR.2 ?_
    exact x_vret C0 hr hlk hwp d_Rm_init_266
  · replace hwp := hwp.2 c176
    refine x_aload_n C0 0 d_Rm_init_179 rfl rfl ?_
    obtain ⟨x180, e180, hwp⟩ := hwp
    refine x_getR C0 fk_Rm_26 e180 d_Rm_init_180 ?_
    refine x_iload_n C0 1 d_Rm_init_183 rfl rfl ?_
    refine x_iload_n C0 1 d_Rm_init_184 rfl rfl ?_
    refine x_if_ne (tgt := 193) C0 d_Rm_init_185 (by decide) (fun c185 => ?_) (fun c185 => ?_)
    · replace hwp := hwp.1 c185
      refine x_iload_n C0 1 d_Rm_init_193 rfl rfl ?_
      refine x_iconst (v := 1) C0 d_Rm_init_194 (by decide) ?_
      refine x_icmp_ne (tgt := 203) C0 d_Rm_init_195 (by decide) (fun c195 => ?_) (fun c195 => ?_)
      · replace hwp := hwp.1 c195
        refine x_bipush (v := 48) C0 d_Rm_init_203 (by decide) ?_
        exact x_sub [0, 1] rfl (t_Rm_init_205 G C0 hR hr hlk hin hK174 _ _ _ _ _ _ _ _ hwp)
      · replace hwp := hwp.2 c195
        refine x_bipush (v := 55) C0 d_Rm_init_198 (by decide) ?_
        refine x_goto (tgt := 205) C0 d_Rm_init_200 (by decide) ?_
        exact x_sub [0, 1] rfl (t_Rm_init_205 G C0 hR hr hlk hin hK174 _ _ _ _ _ _ _ _ hwp)
    · replace hwp := hwp.2 c185
      refine x_bipush (v := 60) C0 d_Rm_init_188 (by decide) ?_
      refine x_goto (tgt := 205) C0 d_Rm_init_190 (by decide) ?_
      exact x_sub [0, 1] rfl (t_Rm_init_205 G C0 hR hr hlk hin hK174 _ _ _ _ _ _ _ _ hwp)
theorem t_Rm_init_174 {p : Program} {l : Launch} {e : Env} {R : Room} {s : State} {m : MethodId} {args : Array Value} {below : List Frame} {meth : Method} {c : Code} (G : mG) (C0 : Cx G p s m args c prog_8_method_3_code 2 "BassRealiserModel") (hR : 1 ≤ R.frames ∧ 20 ≤ R.locals ∧ 20 ≤ R.cells ∧ 48309 ≤ R.slots) (hr : meth.sig.returnType = none) (hlk : meth.locks = false) (hin : meth.name = "<init>") {Post : MH → Prop} (cn : Nat) (sn : Nat) (l0 : Nat) (l1 : Int32) (h : MH) (hwp : wp_Rm_init_174 Post cn sn l0 l1 h) : WG p l e R s m args below meth c cn sn (MQ below (va_Qv Post (Wd G) (mA G)) args s 20 48309 (mA G)) G 2 [(0, .ref (m_b G + l0)), (1, .int l1)] 174 [] h := by
  obtain ⟨n, hwp⟩ := hwp
  induction n generalizing cn sn l0 l1 h with
  | zero => exact False.elim hwp
  | succ n ih => exact tb_Rm_init_174 G C0 hR hr hlk hin (fun cn sn l0 l1 h hwp => ih cn sn l0 l1 h hwp) cn sn l0 l1 h hwp
set_option maxRecDepth 100000 in
set_option maxHeartbeats 4000000 in
theorem t_Rm_init {p : Program} {l : Launch} {e : Env} {R : Room} {s : State} {m : MethodId} {args : Array Value} {below : List Frame} {meth : Method} {c : Code} (G : mG) (C0 : Cx G p s m args c prog_8_method_3_code 2 "BassRealiserModel") (hR : 1 ≤ R.frames ∧ 20 ≤ R.locals ∧ 20 ≤ R.cells ∧ 48309 ≤ R.slots) (hr : meth.sig.returnType = none) (hlk : meth.locks = false) (hin : meth.name = "<init>") {Post : MH → Prop} (cn : Nat) (sn : Nat) (l0 : Nat) (h : MH) (hwp : wp_Rm_init Post cn sn l0 h) : WG p l e R s m args below meth c cn sn (MQ below (va_Qv Post (Wd G) (mA G)) args s 20 48309 (mA G)) G 2 [(0, .ref (m_b G + l0))] 0 [] h := by
  unfold wp_Rm_init at hwp
  refine x_aload_n C0 0 d_Rm_init_0 rfl rfl ?_
  refine x_objInit C0 kw_3_86 kw_1_16 kw_1_17 d_Rm_init_1 ⟨Nat.le_trans (by decide) hR.1, Nat.le_trans (by decide) hR.2.1⟩ (by decide) ?_
  refine x_aload_n C0 0 d_Rm_init_4 rfl rfl ?_
  refine x_bipush (v := 12) C0 d_Rm_init_5 (by decide) ?_
  obtain ⟨b7, hwp⟩ := hwp
  refine x_newai C0 12 kw_1_56 (by decide) (by decide) (by decide) ⟨Nat.le_trans b7.1 hR.2.2.1, Nat.le_trans b7.2 hR.2.2.2⟩ d_Rm_init_7 ?_
  refine x_nk (fun k7 ek7 => ?_)
  refine x_nh (fun h7 eh7 => ?_)
  replace hwp := hwp k7 h7 ek7 eh7
  obtain ⟨⟨o9, e9⟩, hwp⟩ := hwp
  refine x_putF (x := (.inr (some k7) : MV)) C0 pk_Rm_13 hin e9 rfl rfl d_Rm_init_9 ?_
  refine x_nh (fun h9 eh9 => ?_)
  replace hwp := hwp h9 eh9
  refine x_aload_n C0 0 d_Rm_init_12 rfl rfl ?_
  refine x_bipush (v := 12) C0 d_Rm_init_13 (by decide) ?_
  obtain ⟨b15, hwp⟩ := hwp
  refine x_newai C0 12 kw_1_56 (by decide) (by decide) (by decide) ⟨Nat.le_trans b15.1 hR.2.2.1, Nat.le_trans b15.2 hR.2.2.2⟩ d_Rm_init_15 ?_
  refine x_nk (fun k15 ek15 => ?_)
  refine x_nh (fun h15 eh15 => ?_)
  replace hwp := hwp k15 h15 ek15 eh15
  obtain ⟨⟨o17, e17⟩, hwp⟩ := hwp
  refine x_putF (x := (.inr (some k15) : MV)) C0 pk_Rm_17 hin e17 rfl rfl d_Rm_init_17 ?_
  refine x_nh (fun h17 eh17 => ?_)
  replace hwp := hwp h17 eh17
  refine x_aload_n C0 0 d_Rm_init_20 rfl rfl ?_
  refine x_bipush (v := 12) C0 d_Rm_init_21 (by decide) ?_
  obtain ⟨b23, hwp⟩ := hwp
  refine x_newai C0 12 kw_1_56 (by decide) (by decide) (by decide) ⟨Nat.le_trans b23.1 hR.2.2.1, Nat.le_trans b23.2 hR.2.2.2⟩ d_Rm_init_23 ?_
  refine x_nk (fun k23 ek23 => ?_)
  refine x_nh (fun h23 eh23 => ?_)
  replace hwp := hwp k23 h23 ek23 eh23
  obtain ⟨⟨o25, e25⟩, hwp⟩ := hwp
  refine x_putF (x := (.inr (some k23) : MV)) C0 pk_Rm_20 hin e25 rfl rfl d_Rm_init_25 ?_
  refine x_nh (fun h25 eh25 => ?_)
  replace hwp := hwp h25 eh25
  refine x_aload_n C0 0 d_Rm_init_28 rfl rfl ?_
  refine x_bipush (v := 120) C0 d_Rm_init_29 (by decide) ?_
  obtain ⟨b31, hwp⟩ := hwp
  refine x_newai C0 120 kw_1_56 (by decide) (by decide) (by decide) ⟨Nat.le_trans b31.1 hR.2.2.1, Nat.le_trans b31.2 hR.2.2.2⟩ d_Rm_init_31 ?_
  refine x_nk (fun k31 ek31 => ?_)
  refine x_nh (fun h31 eh31 => ?_)
  replace hwp := hwp k31 h31 ek31 eh31
  obtain ⟨⟨o33, e33⟩, hwp⟩ := hwp
  refine x_putF (x := (.inr (some k31) : MV)) C0 pk_Rm_23 hin e33 rfl rfl d_Rm_init_33 ?_
  refine x_nh (fun h33 eh33 => ?_)
  replace hwp := hwp h33 eh33
  refine x_aload_n C0 0 d_Rm_init_36 rfl rfl ?_
  refine x_iconst (v := 3) C0 d_Rm_init_37 (by decide) ?_
  obtain ⟨b38, hwp⟩ := hwp
  refine x_newai C0 3 kw_1_56 (by decide) (by decide) (by decide) ⟨Nat.le_trans b38.1 hR.2.2.1, Nat.le_trans b38.2 hR.2.2.2⟩ d_Rm_init_38 ?_
  refine x_nk (fun k38 ek38 => ?_)
  refine x_nh (fun h38 eh38 => ?_)
  replace hwp := hwp k38 h38 ek38 eh38
  obtain ⟨⟨o40, e40⟩, hwp⟩ := hwp
  refine x_putF (x := (.inr (some k38) : MV)) C0 pk_Rm_26 hin e40 rfl rfl d_Rm_init_40 ?_
  refine x_nh (fun h40 eh40 => ?_)
  replace hwp := hwp h40 eh40
  refine x_aload_n C0 0 d_Rm_init_43 rfl rfl ?_
  refine x_iconst (v := 3) C0 d_Rm_init_44 (by decide) ?_
  obtain ⟨b45, hwp⟩ := hwp
  refine x_newai C0 3 kw_1_56 (by decide) (by decide) (by decide) ⟨Nat.le_trans b45.1 hR.2.2.1, Nat.le_trans b45.2 hR.2.2.2⟩ d_Rm_init_45 ?_
  refine x_nk (fun k45 ek45 => ?_)
  refine x_nh (fun h45 eh45 => ?_)
  replace hwp := hwp k45 h45 ek45 eh45
  obtain ⟨⟨o47, e47⟩, hwp⟩ := hwp
  refine x_putF (x := (.inr (some k45) : MV)) C0 pk_Rm_29 hin e47 rfl rfl d_Rm_init_47 ?_
  refine x_nh (fun h47 eh47 => ?_)
  replace hwp := hwp h47 eh47
  refine x_aload_n C0 0 d_Rm_init_50 rfl rfl ?_
  refine x_iconst (v := 3) C0 d_Rm_init_51 (by decide) ?_
  obtain ⟨b52, hwp⟩ := hwp
  refine x_newai C0 3 kw_1_56 (by decide) (by decide) (by decide) ⟨Nat.le_trans b52.1 hR.2.2.1, Nat.le_trans b52.2 hR.2.2.2⟩ d_Rm_init_52 ?_
  refine x_nk (fun k52 ek52 => ?_)
  refine x_nh (fun h52 eh52 => ?_)
  replace hwp := hwp k52 h52 ek52 eh52
  obtain ⟨⟨o54, e54⟩, hwp⟩ := hwp
  refine x_putF (x := (.inr (some k52) : MV)) C0 pk_Rm_32 hin e54 rfl rfl d_Rm_init_54 ?_
  refine x_nh (fun h54 eh54 => ?_)
  replace hwp := hwp h54 eh54
  refine x_aload_n C0 0 d_Rm_init_57 rfl rfl ?_
  refine x_bipush (v := 12) C0 d_Rm_init_58 (by decide) ?_
  obtain ⟨⟨o60, e60⟩, hwp⟩ := hwp
  refine x_put (x := (.inl (12 : Int32) : MV)) C0 pk_Rm_35 e60 rfl rfl d_Rm_init_60 ?_
  refine x_nh (fun h60 eh60 => ?_)
  replace hwp := hwp h60 eh60
  refine x_aload_n C0 0 d_Rm_init_63 rfl rfl ?_
  refine x_bipush (v := 36) C0 d_Rm_init_64 (by decide) ?_
  obtain ⟨b66, hwp⟩ := hwp
  refine x_newai C0 36 kw_1_56 (by decide) (by decide) (by decide) ⟨Nat.le_trans b66.1 hR.2.2.1, Nat.le_trans b66.2 hR.2.2.2⟩ d_Rm_init_66 ?_
  refine x_nk (fun k66 ek66 => ?_)
  refine x_nh (fun h66 eh66 => ?_)
  replace hwp := hwp k66 h66 ek66 eh66
  obtain ⟨⟨o68, e68⟩, hwp⟩ := hwp
  refine x_putF (x := (.inr (some k66) : MV)) C0 pk_Rm_38 hin e68 rfl rfl d_Rm_init_68 ?_
  refine x_nh (fun h68 eh68 => ?_)
  replace hwp := hwp h68 eh68
  refine x_aload_n C0 0 d_Rm_init_71 rfl rfl ?_
  refine x_bipush (v := 36) C0 d_Rm_init_72 (by decide) ?_
  obtain ⟨b74, hwp⟩ := hwp
  refine x_newai C0 36 kw_1_56 (by decide) (by decide) (by decide) ⟨Nat.le_trans b74.1 hR.2.2.1, Nat.le_trans b74.2 hR.2.2.2⟩ d_Rm_init_74 ?_
  refine x_nk (fun k74 ek74 => ?_)
  refine x_nh (fun h74 eh74 => ?_)
  replace hwp := hwp k74 h74 ek74 eh74
  obtain ⟨⟨o76, e76⟩, hwp⟩ := hwp
  refine x_putF (x := (.inr (some k74) : MV)) C0 pk_Rm_41 hin e76 rfl rfl d_Rm_init_76 ?_
  refine x_nh (fun h76 eh76 => ?_)
  replace hwp := hwp h76 eh76
  refine x_aload_n C0 0 d_Rm_init_79 rfl rfl ?_
  refine x_bipush (v := 12) C0 d_Rm_init_80 (by decide) ?_
  obtain ⟨b82, hwp⟩ := hwp
  refine x_newaz C0 12 kw_1_144 (by decide) (by decide) (by decide) ⟨Nat.le_trans b82.1 hR.2.2.1, Nat.le_trans b82.2 hR.2.2.2⟩ d_Rm_init_82 ?_
  refine x_nk (fun k82 ek82 => ?_)
  refine x_nh (fun h82 eh82 => ?_)
  replace hwp := hwp k82 h82 ek82 eh82
  obtain ⟨⟨o84, e84⟩, hwp⟩ := hwp
  refine x_putF (x := (.inr (some k82) : MV)) C0 pk_Rm_44 hin e84 rfl rfl d_Rm_init_84 ?_
  refine x_nh (fun h84 eh84 => ?_)
  replace hwp := hwp h84 eh84
  refine x_aload_n C0 0 d_Rm_init_87 rfl rfl ?_
  refine x_iconst (v := 4) C0 d_Rm_init_88 (by decide) ?_
  obtain ⟨b89, hwp⟩ := hwp
  refine x_newai C0 4 kw_1_56 (by decide) (by decide) (by decide) ⟨Nat.le_trans b89.1 hR.2.2.1, Nat.le_trans b89.2 hR.2.2.2⟩ d_Rm_init_89 ?_
  refine x_nk (fun k89 ek89 => ?_)
  refine x_nh (fun h89 eh89 => ?_)
  replace hwp := hwp k89 h89 ek89 eh89
  obtain ⟨⟨o91, e91⟩, hwp⟩ := hwp
  refine x_putF (x := (.inr (some k89) : MV)) C0 pk_Rm_48 hin e91 rfl rfl d_Rm_init_91 ?_
  refine x_nh (fun h91 eh91 => ?_)
  replace hwp := hwp h91 eh91
  refine x_aload_n C0 0 d_Rm_init_94 rfl rfl ?_
  refine x_iconst (v := 4) C0 d_Rm_init_95 (by decide) ?_
  obtain ⟨b96, hwp⟩ := hwp
  refine x_newai C0 4 kw_1_56 (by decide) (by decide) (by decide) ⟨Nat.le_trans b96.1 hR.2.2.1, Nat.le_trans b96.2 hR.2.2.2⟩ d_Rm_init_96 ?_
  refine x_nk (fun k96 ek96 => ?_)
  refine x_nh (fun h96 eh96 => ?_)
  replace hwp := hwp k96 h96 ek96 eh96
  obtain ⟨⟨o98, e98⟩, hwp⟩ := hwp
  refine x_putF (x := (.inr (some k96) : MV)) C0 pk_Rm_51 hin e98 rfl rfl d_Rm_init_98 ?_
  refine x_nh (fun h98 eh98 => ?_)
  replace hwp := hwp h98 eh98
  refine x_aload_n C0 0 d_Rm_init_101 rfl rfl ?_
  refine x_bipush (v := 12) C0 d_Rm_init_102 (by decide) ?_
  obtain ⟨b104, hwp⟩ := hwp
  refine x_newai C0 12 kw_1_56 (by decide) (by decide) (by decide) ⟨Nat.le_trans b104.1 hR.2.2.1, Nat.le_trans b104.2 hR.2.2.2⟩ d_Rm_init_104 ?_
  refine x_nk (fun k104 ek104 => ?_)
  refine x_nh (fun h104 eh104 => ?_)
  replace hwp := hwp k104 h104 ek104 eh104
  obtain ⟨⟨o106, e106⟩, hwp⟩ := hwp
  refine x_putF (x := (.inr (some k104) : MV)) C0 pk_Rm_54 hin e106 rfl rfl d_Rm_init_106 ?_
  refine x_nh (fun h106 eh106 => ?_)
  replace hwp := hwp h106 eh106
  refine x_aload_n C0 0 d_Rm_init_109 rfl rfl ?_
  refine x_bipush (v := 12) C0 d_Rm_init_110 (by decide) ?_
  obtain ⟨b112, hwp⟩ := hwp
  refine x_newai C0 12 kw_1_56 (by decide) (by decide) (by decide) ⟨Nat.le_trans b112.1 hR.2.2.1, Nat.le_trans b112.2 hR.2.2.2⟩ d_Rm_init_112 ?_
  refine x_nk (fun k112 ek112 => ?_)
  refine x_nh (fun h112 eh112 => ?_)
  replace hwp := hwp k112 h112 ek112 eh112
  obtain ⟨⟨o114, e114⟩, hwp⟩ := hwp
  refine x_putF (x := (.inr (some k112) : MV)) C0 pk_Rm_57 hin e114 rfl rfl d_Rm_init_114 ?_
  refine x_nh (fun h114 eh114 => ?_)
  replace hwp := hwp h114 eh114
  refine x_aload_n C0 0 d_Rm_init_117 rfl rfl ?_
  refine x_bipush (v := 12) C0 d_Rm_init_118 (by decide) ?_
  obtain ⟨b120, hwp⟩ := hwp
  refine x_newai C0 12 kw_1_56 (by decide) (by decide) (by decide) ⟨Nat.le_trans b120.1 hR.2.2.1, Nat.le_trans b120.2 hR.2.2.2⟩ d_Rm_init_120 ?_
  refine x_nk (fun k120 ek120 => ?_)
  refine x_nh (fun h120 eh120 => ?_)
  replace hwp := hwp k120 h120 ek120 eh120
  obtain ⟨⟨o122, e122⟩, hwp⟩ := hwp
  refine x_putF (x := (.inr (some k120) : MV)) C0 pk_Rm_60 hin e122 rfl rfl d_Rm_init_122 ?_
  refine x_nh (fun h122 eh122 => ?_)
  replace hwp := hwp h122 eh122
  refine x_aload_n C0 0 d_Rm_init_125 rfl rfl ?_
  refine x_sipush (v := 28800) C0 d_Rm_init_126 (by decide) ?_
  obtain ⟨b129, hwp⟩ := hwp
  refine x_newai C0 28800 kw_1_56 (by decide) (by decide) (by decide) ⟨Nat.le_trans b129.1 hR.2.2.1, Nat.le_trans b129.2 hR.2.2.2⟩ d_Rm_init_129 ?_
  refine x_nk (fun k129 ek129 => ?_)
  refine x_nh (fun h129 eh129 => ?_)
  replace hwp := hwp k129 h129 ek129 eh129
  obtain ⟨⟨o131, e131⟩, hwp⟩ := hwp
  refine x_putF (x := (.inr (some k129) : MV)) C0 pk_Rm_63 hin e131 rfl rfl d_Rm_init_131 ?_
  refine x_nh (fun h131 eh131 => ?_)
  replace hwp := hwp h131 eh131
  refine x_aload_n C0 0 d_Rm_init_134 rfl rfl ?_
  refine x_bipush (v := 12) C0 d_Rm_init_135 (by decide) ?_
  obtain ⟨b137, hwp⟩ := hwp
  refine x_newai C0 12 kw_1_56 (by decide) (by decide) (by decide) ⟨Nat.le_trans b137.1 hR.2.2.1, Nat.le_trans b137.2 hR.2.2.2⟩ d_Rm_init_137 ?_
  refine x_nk (fun k137 ek137 => ?_)
  refine x_nh (fun h137 eh137 => ?_)
  replace hwp := hwp k137 h137 ek137 eh137
  obtain ⟨⟨o139, e139⟩, hwp⟩ := hwp
  refine x_putF (x := (.inr (some k137) : MV)) C0 pk_Rm_66 hin e139 rfl rfl d_Rm_init_139 ?_
  refine x_nh (fun h139 eh139 => ?_)
  replace hwp := hwp h139 eh139
  refine x_aload_n C0 0 d_Rm_init_142 rfl rfl ?_
  refine x_sipush (v := 9600) C0 d_Rm_init_143 (by decide) ?_
  obtain ⟨b146, hwp⟩ := hwp
  refine x_newai C0 9600 kw_1_56 (by decide) (by decide) (by decide) ⟨Nat.le_trans b146.1 hR.2.2.1, Nat.le_trans b146.2 hR.2.2.2⟩ d_Rm_init_146 ?_
  refine x_nk (fun k146 ek146 => ?_)
  refine x_nh (fun h146 eh146 => ?_)
  replace hwp := hwp k146 h146 ek146 eh146
  obtain ⟨⟨o148, e148⟩, hwp⟩ := hwp
  refine x_putF (x := (.inr (some k146) : MV)) C0 pk_Rm_69 hin e148 rfl rfl d_Rm_init_148 ?_
  refine x_nh (fun h148 eh148 => ?_)
  replace hwp := hwp h148 eh148
  refine x_aload_n C0 0 d_Rm_init_151 rfl rfl ?_
  refine x_sipush (v := 9600) C0 d_Rm_init_152 (by decide) ?_
  obtain ⟨b155, hwp⟩ := hwp
  refine x_newal C0 9600 kw_3_166 (by decide) (by decide) (by decide) ⟨Nat.le_trans b155.1 hR.2.2.1, Nat.le_trans b155.2 hR.2.2.2⟩ d_Rm_init_155 ?_
  refine x_nk (fun k155 ek155 => ?_)
  refine x_nh (fun h155 eh155 => ?_)
  replace hwp := hwp k155 h155 ek155 eh155
  obtain ⟨⟨o157, e157⟩, hwp⟩ := hwp
  refine x_putF (x := (.inr (some k155) : MV)) C0 pk_Rm_72 hin e157 rfl rfl d_Rm_init_157 ?_
  refine x_nh (fun h157 eh157 => ?_)
  replace hwp := hwp h157 eh157
  refine x_aload_n C0 0 d_Rm_init_160 rfl rfl ?_
  refine x_iconst (v := 4) C0 d_Rm_init_161 (by decide) ?_
  obtain ⟨b162, hwp⟩ := hwp
  refine x_newai C0 4 kw_1_56 (by decide) (by decide) (by decide) ⟨Nat.le_trans b162.1 hR.2.2.1, Nat.le_trans b162.2 hR.2.2.2⟩ d_Rm_init_162 ?_
  refine x_nk (fun k162 ek162 => ?_)
  refine x_nh (fun h162 eh162 => ?_)
  replace hwp := hwp k162 h162 ek162 eh162
  obtain ⟨⟨o164, e164⟩, hwp⟩ := hwp
  refine x_putF (x := (.inr (some k162) : MV)) C0 pk_Rm_76 hin e164 rfl rfl d_Rm_init_164 ?_
  refine x_nh (fun h164 eh164 => ?_)
  replace hwp := hwp h164 eh164
  refine x_aload_n C0 0 d_Rm_init_167 rfl rfl ?_
  refine x_iconst (v := 0) C0 d_Rm_init_168 (by decide) ?_
  obtain ⟨⟨o169, e169⟩, hwp⟩ := hwp
  refine x_put (x := (.inl (0 : Int32) : MV)) C0 pk_Rm_1 e169 rfl rfl d_Rm_init_169 ?_
  refine x_nh (fun h169 eh169 => ?_)
  replace hwp := hwp h169 eh169
  refine x_iconst (v := 0) C0 d_Rm_init_172 (by decide) ?_
  refine x_istore_n C0 d_Rm_init_173 rfl (by decide) (lv' := [(1, .int (0 : Int32)), (0, .ref (m_b G + l0))]) rfl ?_
  exact x_sub [1, 0] rfl (t_Rm_init_174 G C0 hR hr hlk hin  _ _ _ _ _ hwp)
set_option maxRecDepth 100000 in
set_option maxHeartbeats 4000000 in
theorem c_Rm_init (l : Launch) (G : mG) {Post : MH → Prop} {l0 : Nat} {h : MH} (hwp : wp_Rm_init Post 0 0 l0 h) : Met l y_Rm_init (Cond.code y_Rm_init prog_8_method_3_code 2 (Option.none : Option Jvm.ClassFile.FieldType) :: lw_good) ({ frames := 1, cells := 20, slots := 48309, locals := 20 }) (va_Pc [.ref (m_b G + l0)] (Wd G h)) (va_Qv Post (Wd G) (mA G)) 20 48309 (mA G) := by
  refine Met.ofW (cc := prog_8_method_3_code) (maxL := 2) (ret := (Option.none : Option Jvm.ClassFile.FieldType)) (by decide) rfl ?_
  intro p e s m args below meth c s₁ B hml hv
  obtain ⟨rfl, hP, hz, hK, hSt⟩ := hv
  have hts := atoms_spec (ws := Cond.code y_Rm_init prog_8_method_3_code 2 (Option.none : Option Jvm.ClassFile.FieldType) :: lw_good) B.pre
  have C0 : Cx G p s m ([.ref (m_b G + l0)] : List Value).toArray c prog_8_method_3_code 2 "BassRealiserModel" := ⟨⟨B.exec, B.bytes, hml, findClass_of_methodNamed B.named, fun w h => hts w (List.mem_cons_of_mem _ h)⟩, hK, hSt, by rw [hz]; exact Nat.le_add_right _ _⟩
  have hl := lv_entry ([.ref (m_b G + l0)]) (n := 2) (Nat.le_of_ble_eq_true rfl)
  rw [lg_entry_eq]
  exact t_Rm_init G C0 ⟨Nat.le_refl _, Nat.le_refl _, Nat.le_refl _, Nat.le_refl _⟩ B.returns B.notSynchronized (name_of_methodNamed B.named B.method).1 _ _ _ _ hwp _ _ _ ⟨hP, hz, va_S.rf⟩ hl
def wp_Br_within (Post : Int32 → MH → Prop) (l0 : Int32) (l1 : Int32) (l2 : Int32) (h : MH) : Prop :=
  ((l0 < l1) →
    (Post (0 : Int32) h)) ∧
  ((¬ l0 < l1) →
    (((l2 < l0) →
        (Post (0 : Int32) h)) ∧
      ((¬ l2 < l0) →
        (Post (1 : Int32) h))))
set_option maxRecDepth 100000 in
set_option maxHeartbeats 4000000 in
theorem t_Br_within {p : Program} {l : Launch} {e : Env} {R : Room} {s : State} {m : MethodId} {args : Array Value} {below : List Frame} {meth : Method} {c : Code} (G : mG) (C0 : Cx G p s m args c prog_1_method_30_code 3 "BassRealiser") (hR : 0 ≤ R.frames ∧ 0 ≤ R.locals ∧ 0 ≤ R.cells ∧ 0 ≤ R.slots) (hr : meth.sig.returnType = some .boolean) (hlk : meth.locks = false) {Post : Int32 → MH → Prop} (l0 : Int32) (l1 : Int32) (l2 : Int32) (h : MH) (hwp : wp_Br_within Post l0 l1 l2 h) : WG p l e R s m args below meth c 0 0 (MQ below (va_Qi Post (Wd G) (mA G)) args s 0 0 (mA G)) G 3 [(0, .int l0), (1, .int l1), (2, .int l2)] 0 [] h := by
  unfold wp_Br_within at hwp
  refine x_iload_n C0 0 d_Br_within_0 rfl rfl ?_
  refine x_iload_n C0 1 d_Br_within_1 rfl rfl ?_
  refine x_icmp_lt (tgt := 14) C0 d_Br_within_2 (by decide) (fun c2 => ?_) (fun c2 => ?_)
  · replace hwp := hwp.1 c2
    refine x_iconst (v := 0) C0 d_Br_within_14 (by decide) ?_
    exact x_zret C0 hr rfl hlk hwp d_Br_within_15
  · replace hwp := hwp.2 c2
    refine x_iload_n C0 0 d_Br_within_5 rfl rfl ?_
    refine x_iload_n C0 2 d_Br_within_6 rfl rfl ?_
    refine x_icmp_gt (tgt := 14) C0 d_Br_within_7 (by decide) (fun c7 => ?_) (fun c7 => ?_)
    · replace hwp := hwp.1 c7
      refine x_iconst (v := 0) C0 d_Br_within_14 (by decide) ?_
      exact x_zret C0 hr rfl hlk hwp d_Br_within_15
    · replace hwp := hwp.2 c7
      refine x_iconst (v := 1) C0 d_Br_within_10 (by decide) ?_
      refine x_goto (tgt := 15) C0 d_Br_within_11 (by decide) ?_
      exact x_zret C0 hr rfl hlk hwp d_Br_within_15
set_option maxRecDepth 100000 in
set_option maxHeartbeats 4000000 in
theorem c_Br_within (l : Launch) (G : mG) {Post : Int32 → MH → Prop} {l0 : Int32} {l1 : Int32} {l2 : Int32} {h : MH} (hwp : wp_Br_within Post l0 l1 l2 h) : Met l y_Br_within (Cond.code y_Br_within prog_1_method_30_code 3 (Option.some Jvm.ClassFile.FieldType.boolean) :: lw_good) ({ frames := 0, cells := 0, slots := 0, locals := 0 }) (va_Pc [.int l0, .int l1, .int l2] (Wd G h)) (va_Qi Post (Wd G) (mA G)) 0 0 (mA G) := by
  refine Met.ofW (cc := prog_1_method_30_code) (maxL := 3) (ret := (Option.some Jvm.ClassFile.FieldType.boolean)) (by decide) rfl ?_
  intro p e s m args below meth c s₁ B hml hv
  obtain ⟨rfl, hP, hz, hK, hSt⟩ := hv
  have hts := atoms_spec (ws := Cond.code y_Br_within prog_1_method_30_code 3 (Option.some Jvm.ClassFile.FieldType.boolean) :: lw_good) B.pre
  have C0 : Cx G p s m ([.int l0, .int l1, .int l2] : List Value).toArray c prog_1_method_30_code 3 "BassRealiser" := ⟨⟨B.exec, B.bytes, hml, findClass_of_methodNamed B.named, fun w h => hts w (List.mem_cons_of_mem _ h)⟩, hK, hSt, by rw [hz]; exact Nat.le_add_right _ _⟩
  have hl := lv_entry ([.int l0, .int l1, .int l2]) (n := 3) (Nat.le_of_ble_eq_true rfl)
  rw [lg_entry_eq]
  exact t_Br_within G C0 ⟨Nat.le_refl _, Nat.le_refl _, Nat.le_refl _, Nat.le_refl _⟩ B.returns B.notSynchronized _ _ _ _ hwp _ _ _ ⟨hP, hz, va_S.rf⟩ hl
def wp_Ch_has (Post : Int32 → MH → Prop) (l0 : Int32) (l1 : Int32) (h : MH) : Prop :=
  (((l0 &&& ((1 : Int32) <<< (l1 &&& 31))) = 0) →
    (Post (0 : Int32) h)) ∧
  ((¬ (l0 &&& ((1 : Int32) <<< (l1 &&& 31))) = 0) →
    (Post (1 : Int32) h))
set_option maxRecDepth 100000 in
set_option maxHeartbeats 4000000 in
theorem t_Ch_has {p : Program} {l : Launch} {e : Env} {R : Room} {s : State} {m : MethodId} {args : Array Value} {below : List Frame} {meth : Method} {c : Code} (G : mG) (C0 : Cx G p s m args c prog_2_method_7_code 2 "BassRealiser$Chord") (hR : 0 ≤ R.frames ∧ 0 ≤ R.locals ∧ 0 ≤ R.cells ∧ 0 ≤ R.slots) (hr : meth.sig.returnType = some .boolean) (hlk : meth.locks = false) {Post : Int32 → MH → Prop} (l0 : Int32) (l1 : Int32) (h : MH) (hwp : wp_Ch_has Post l0 l1 h) : WG p l e R s m args below meth c 0 0 (MQ below (va_Qi Post (Wd G) (mA G)) args s 0 0 (mA G)) G 2 [(0, .int l0), (1, .int l1)] 0 [] h := by
  unfold wp_Ch_has at hwp
  refine x_iload_n C0 0 d_Ch_has_0 rfl rfl ?_
  refine x_iconst (v := 1) C0 d_Ch_has_1 (by decide) ?_
  refine x_iload_n C0 1 d_Ch_has_2 rfl rfl ?_
  refine x_ishl C0 d_Ch_has_3 ?_
  refine x_iand C0 d_Ch_has_4 ?_
  refine x_if_eq (tgt := 12) C0 d_Ch_has_5 (by decide) (fun c5 => ?_) (fun c5 => ?_)
  · replace hwp := hwp.1 c5
    refine x_iconst (v := 0) C0 d_Ch_has_12 (by decide) ?_
    exact x_zret C0 hr rfl hlk hwp d_Ch_has_13
  · replace hwp := hwp.2 c5
    refine x_iconst (v := 1) C0 d_Ch_has_8 (by decide) ?_
    refine x_goto (tgt := 13) C0 d_Ch_has_9 (by decide) ?_
    exact x_zret C0 hr rfl hlk hwp d_Ch_has_13
set_option maxRecDepth 100000 in
set_option maxHeartbeats 4000000 in
theorem c_Ch_has (l : Launch) (G : mG) {Post : Int32 → MH → Prop} {l0 : Int32} {l1 : Int32} {h : MH} (hwp : wp_Ch_has Post l0 l1 h) : Met l y_Ch_has (Cond.code y_Ch_has prog_2_method_7_code 2 (Option.some Jvm.ClassFile.FieldType.boolean) :: lw_good) ({ frames := 0, cells := 0, slots := 0, locals := 0 }) (va_Pc [.int l0, .int l1] (Wd G h)) (va_Qi Post (Wd G) (mA G)) 0 0 (mA G) := by
  refine Met.ofW (cc := prog_2_method_7_code) (maxL := 2) (ret := (Option.some Jvm.ClassFile.FieldType.boolean)) (by decide) rfl ?_
  intro p e s m args below meth c s₁ B hml hv
  obtain ⟨rfl, hP, hz, hK, hSt⟩ := hv
  have hts := atoms_spec (ws := Cond.code y_Ch_has prog_2_method_7_code 2 (Option.some Jvm.ClassFile.FieldType.boolean) :: lw_good) B.pre
  have C0 : Cx G p s m ([.int l0, .int l1] : List Value).toArray c prog_2_method_7_code 2 "BassRealiser$Chord" := ⟨⟨B.exec, B.bytes, hml, findClass_of_methodNamed B.named, fun w h => hts w (List.mem_cons_of_mem _ h)⟩, hK, hSt, by rw [hz]; exact Nat.le_add_right _ _⟩
  have hl := lv_entry ([.int l0, .int l1]) (n := 2) (Nat.le_of_ble_eq_true rfl)
  rw [lg_entry_eq]
  exact t_Ch_has G C0 ⟨Nat.le_refl _, Nat.le_refl _, Nat.le_refl _, Nat.le_refl _⟩ B.returns B.notSynchronized _ _ _ hwp _ _ _ ⟨hP, hz, va_S.rf⟩ hl
def wp_Ch_complete_145 (Post : Int32 → MH → Prop) (l4 : Int32) (h : MH) : Prop :=
  ∀ z150 : Int32, z150 = l4 ||| (64 : Int32) →
  (Post z150 h)
def wp_Ch_complete_137 (Post : Int32 → MH → Prop) (l1 : Int32) (l2 : Int32) (l4 : Int32) (h : MH) : Prop :=
  ((¬ l1 = 0) →
    (wp_Ch_complete_145 Post l4 h)) ∧
  ((l1 = 0) →
    (((l2 = 0) →
        (Post l4 h)) ∧
      ((¬ l2 = 0) →
        (wp_Ch_complete_145 Post l4 h))))
def wp_Ch_complete_105 (Post : Int32 → MH → Prop) (l0 : Int32) (l1 : Int32) (l2 : Int32) (l3 : Int32) (l4 : Int32) (h : MH) : Prop :=
  wp_Ch_has (fun (r107 : Int32) (h107 : MH) =>
    (((¬ r107 = 0) →
        (wp_Ch_complete_137 Post l1 l2 l4 h107)) ∧
      ((r107 = 0) →
        (wp_Ch_has (fun (r116 : Int32) (h116 : MH) =>
            (((¬ r116 = 0) →
                (wp_Ch_complete_137 Post l1 l2 l4 h116)) ∧
              ((r116 = 0) →
                (((¬ l2 = 0) →
                    (wp_Ch_complete_137 Post l1 l2 l4 h116)) ∧
                  ((l2 = 0) →
                    (((¬ l3 = 0) →
                        (wp_Ch_complete_137 Post l1 l2 l4 h116)) ∧
                      ((l3 = 0) →
                        (∀ z135 : Int32, z135 = l4 ||| (32 : Int32) →
                        (wp_Ch_complete_137 Post l1 l2 z135 h116))))))))) l0 (6 : Int32) h107)))) l0 (2 : Int32) h
def wp_Ch_complete_94 (Post : Int32 → MH → Prop) (l0 : Int32) (l1 : Int32) (l2 : Int32) (l3 : Int32) (l4 : Int32) (h : MH) : Prop :=
  ((l1 = 0) →
    (wp_Ch_complete_105 Post l0 l1 l2 l3 l4 h)) ∧
  ((¬ l1 = 0) →
    (∀ z103 : Int32, z103 = l4 ||| (16 : Int32) →
      (wp_Ch_complete_105 Post l0 l1 l2 l3 z103 h)))
def wp_Ch_complete_67 (Post : Int32 → MH → Prop) (l0 : Int32) (l1 : Int32) (l2 : Int32) (y0 : Int32) (h : MH) : Prop :=
  wp_Ch_has (fun (r73 : Int32) (h73 : MH) =>
    (((¬ r73 = 0) →
        (wp_Ch_complete_94 Post l0 l1 l2 y0 l0 h73)) ∧
      ((r73 = 0) →
        (wp_Ch_has (fun (r81 : Int32) (h81 : MH) =>
            (((¬ r81 = 0) →
                (wp_Ch_complete_94 Post l0 l1 l2 y0 l0 h81)) ∧
              ((r81 = 0) →
                (∀ z92 : Int32, z92 = l0 ||| (8 : Int32) →
                  (wp_Ch_complete_94 Post l0 l1 l2 y0 z92 h81))))) l0 (4 : Int32) h73)))) l0 (2 : Int32) h
def wp_Ch_complete_66 (Post : Int32 → MH → Prop) (l0 : Int32) (l1 : Int32) (l2 : Int32) (h : MH) : Prop :=
  wp_Ch_complete_67 Post l0 l1 l2 (0 : Int32) h
def wp_Ch_complete_43 (Post : Int32 → MH → Prop) (l0 : Int32) (l1 : Int32) (y0 : Int32) (h : MH) : Prop :=
  wp_Ch_has (fun (r47 : Int32) (h47 : MH) =>
    (((r47 = 0) →
        (wp_Ch_complete_66 Post l0 l1 y0 h47)) ∧
      ((¬ r47 = 0) →
        (wp_Ch_has (fun (r56 : Int32) (h56 : MH) =>
            (((r56 = 0) →
                (wp_Ch_complete_66 Post l0 l1 y0 h56)) ∧
              ((¬ r56 = 0) →
                (wp_Ch_complete_67 Post l0 l1 y0 (1 : Int32) h56)))) l0 (9 : Int32) h47)))) l0 (7 : Int32) h
def wp_Ch_complete_42 (Post : Int32 → MH → Prop) (l0 : Int32) (l1 : Int32) (h : MH) : Prop :=
  wp_Ch_complete_43 Post l0 l1 (0 : Int32) h
def wp_Ch_complete_21 (Post : Int32 → MH → Prop) (l0 : Int32) (y0 : Int32) (h : MH) : Prop :=
  wp_Ch_has (fun (r24 : Int32) (h24 : MH) =>
    (((r24 = 0) →
        (wp_Ch_complete_42 Post l0 y0 h24)) ∧
      ((¬ r24 = 0) →
        (wp_Ch_has (fun (r32 : Int32) (h32 : MH) =>
            (((r32 = 0) →
                (wp_Ch_complete_42 Post l0 y0 h32)) ∧
              ((¬ r32 = 0) →
                (wp_Ch_complete_43 Post l0 y0 (1 : Int32) h32)))) l0 (4 : Int32) h24)))) l0 (3 : Int32) h
def wp_Ch_complete_20 (Post : Int32 → MH → Prop) (l0 : Int32) (h : MH) : Prop :=
  wp_Ch_complete_21 Post l0 (0 : Int32) h
def wp_Ch_complete (Post : Int32 → MH → Prop) (l0 : Int32) (h : MH) : Prop :=
  wp_Ch_has (fun (r2 : Int32) (h2 : MH) =>
    (((r2 = 0) →
        (wp_Ch_complete_20 Post l0 h2)) ∧
      ((¬ r2 = 0) →
        (wp_Ch_has (fun (r10 : Int32) (h10 : MH) =>
            (((¬ r10 = 0) →
                (wp_Ch_complete_20 Post l0 h10)) ∧
              ((r10 = 0) →
                (wp_Ch_complete_21 Post l0 (1 : Int32) h10)))) l0 (5 : Int32) h2)))) l0 (2 : Int32) h
set_option maxRecDepth 100000 in
set_option maxHeartbeats 4000000 in
theorem t_Ch_complete_145 {p : Program} {l : Launch} {e : Env} {R : Room} {s : State} {m : MethodId} {args : Array Value} {below : List Frame} {meth : Method} {c : Code} (G : mG) (C0 : Cx G p s m args c prog_2_method_6_code 5 "BassRealiser$Chord") (hR : 1 ≤ R.frames ∧ 21 ≤ R.locals ∧ 0 ≤ R.cells ∧ 0 ≤ R.slots) (hr : meth.sig.returnType = some .int) (hlk : meth.locks = false) {Post : Int32 → MH → Prop} (l4 : Int32) (h : MH) (hwp : wp_Ch_complete_145 Post l4 h) : WG p l e R s m args below meth c 0 0 (MQ below (va_Qi Post (Wd G) (mA G)) args s 0 0 (mA G)) G 5 [(4, .int l4)] 145 [] h := by
  unfold wp_Ch_complete_145 at hwp
  refine x_iload C0 0 d_Ch_complete_145 rfl ?_
  refine x_bipush (v := 64) C0 d_Ch_complete_147 (by decide) ?_
  refine x_ior C0 d_Ch_complete_149 ?_
  refine x_topI (fun z150 e150 => ?_)
  replace hwp := hwp z150 e150
  refine x_istore C0 d_Ch_complete_150 (by decide) (lv' := [(4, .int z150)]) rfl ?_
  refine x_iload C0 0 d_Ch_complete_152 rfl ?_
  exact x_iret C0 hr hlk hwp d_Ch_complete_154
set_option maxRecDepth 100000 in
set_option maxHeartbeats 4000000 in
theorem t_Ch_complete_137 {p : Program} {l : Launch} {e : Env} {R : Room} {s : State} {m : MethodId} {args : Array Value} {below : List Frame} {meth : Method} {c : Code} (G : mG) (C0 : Cx G p s m args c prog_2_method_6_code 5 "BassRealiser$Chord") (hR : 1 ≤ R.frames ∧ 21 ≤ R.locals ∧ 0 ≤ R.cells ∧ 0 ≤ R.slots) (hr : meth.sig.returnType = some .int) (hlk : meth.locks = false) {Post : Int32 → MH → Prop} (l1 : Int32) (l2 : Int32) (l4 : Int32) (h : MH) (hwp : wp_Ch_complete_137 Post l1 l2 l4 h) : WG p l e R s m args below meth c 0 0 (MQ below (va_Qi Post (Wd G) (mA G)) args s 0 0 (mA G)) G 5 [(1, .int l1), (2, .int l2), (4, .int l4)] 137 [] h := by
  unfold wp_Ch_complete_137 at hwp
  refine x_iload_n C0 0 d_Ch_complete_137 rfl rfl ?_
  refine x_if_ne (tgt := 145) C0 d_Ch_complete_138 (by decide) (fun c138 => ?_) (fun c138 => ?_)
  · replace hwp := hwp.1 c138
    exact x_sub [2] rfl (t_Ch_complete_145 G C0 hR hr hlk  _ _ hwp)
  · replace hwp := hwp.2 c138
    refine x_iload_n C0 1 d_Ch_complete_141 rfl rfl ?_
    refine x_if_eq (tgt := 152) C0 d_Ch_complete_142 (by decide) (fun c142 => ?_) (fun c142 => ?_)
    · replace hwp := hwp.1 c142
      refine x_iload C0 2 d_Ch_complete_152 rfl ?_
      exact x_iret C0 hr hlk hwp d_Ch_complete_154
    · replace hwp := hwp.2 c142
      exact x_sub [2] rfl (t_Ch_complete_145 G C0 hR hr hlk  _ _ hwp)
set_option maxRecDepth 100000 in
set_option maxHeartbeats 4000000 in
theorem t_Ch_complete_105 {p : Program} {l : Launch} {e : Env} {R : Room} {s : State} {m : MethodId} {args : Array Value} {below : List Frame} {meth : Method} {c : Code} (G : mG) (C0 : Cx G p s m args c prog_2_method_6_code 5 "BassRealiser$Chord") (hR : 1 ≤ R.frames ∧ 21 ≤ R.locals ∧ 0 ≤ R.cells ∧ 0 ≤ R.slots) (hr : meth.sig.returnType = some .int) (hlk : meth.locks = false) {Post : Int32 → MH → Prop} (l0 : Int32) (l1 : Int32) (l2 : Int32) (l3 : Int32) (l4 : Int32) (h : MH) (hwp : wp_Ch_complete_105 Post l0 l1 l2 l3 l4 h) : WG p l e R s m args below meth c 0 0 (MQ below (va_Qi Post (Wd G) (mA G)) args s 0 0 (mA G)) G 5 [(0, .int l0), (1, .int l1), (2, .int l2), (3, .int l3), (4, .int l4)] 105 [] h := by
  unfold wp_Ch_complete_105 at hwp
  refine x_iload_n C0 0 d_Ch_complete_105 rfl rfl ?_
  refine x_iconst (v := 2) C0 d_Ch_complete_106 (by decide) ?_
  refine x_callSi0 (As := [.int l0, .int (2 : Int32)]) (st := []) C0 (c_Ch_has l G hwp) kw_1_236 mk_Ch_has kw_1_237 rfl (by decide) rfl rfl ⟨Nat.le_trans (by decide) hR.1, Nat.le_trans (by decide) hR.2.1⟩ ⟨Nat.zero_le _, Nat.zero_le _⟩ rfl d_Ch_complete_107 (fun r107 h107 hwp => ?_)
  refine x_if_ne (tgt := 137) C0 d_Ch_complete_110 (by decide) (fun c110 => ?_) (fun c110 => ?_)
  · replace hwp := hwp.1 c110
    exact x_sub [1, 2, 4] rfl (t_Ch_complete_137 G C0 hR hr hlk  _ _ _ _ hwp)
  · replace hwp := hwp.2 c110
    refine x_iload_n C0 0 d_Ch_complete_113 rfl rfl ?_
    refine x_bipush (v := 6) C0 d_Ch_complete_114 (by decide) ?_
    refine x_callSi0 (As := [.int l0, .int (6 : Int32)]) (st := []) C0 (c_Ch_has l G hwp) kw_1_236 mk_Ch_has kw_1_237 rfl (by decide) rfl rfl ⟨Nat.le_trans (by decide) hR.1, Nat.le_trans (by decide) hR.2.1⟩ ⟨Nat.zero_le _, Nat.zero_le _⟩ rfl d_Ch_complete_116 (fun r116 h116 hwp => ?_)
    refine x_if_ne (tgt := 137) C0 d_Ch_complete_119 (by decide) (fun c119 => ?_) (fun c119 => ?_)
    · replace hwp := hwp.1 c119
      exact x_sub [1, 2, 4] rfl (t_Ch_complete_137 G C0 hR hr hlk  _ _ _ _ hwp)
    · replace hwp := hwp.2 c119
      refine x_iload_n C0 2 d_Ch_complete_122 rfl rfl ?_
      refine x_if_ne (tgt := 137) C0 d_Ch_complete_123 (by decide) (fun c123 => ?_) (fun c123 => ?_)
      · replace hwp := hwp.1 c123
        exact x_sub [1, 2, 4] rfl (t_Ch_complete_137 G C0 hR hr hlk  _ _ _ _ hwp)
      · replace hwp := hwp.2 c123
        refine x_iload_n C0 3 d_Ch_complete_126 rfl rfl ?_
        refine x_if_ne (tgt := 137) C0 d_Ch_complete_127 (by decide) (fun c127 => ?_) (fun c127 => ?_)
        · replace hwp := hwp.1 c127
          exact x_sub [1, 2, 4] rfl (t_Ch_complete_137 G C0 hR hr hlk  _ _ _ _ hwp)
        · replace hwp := hwp.2 c127
          refine x_iload C0 4 d_Ch_complete_130 rfl ?_
          refine x_bipush (v := 32) C0 d_Ch_complete_132 (by decide) ?_
          refine x_ior C0 d_Ch_complete_134 ?_
          refine x_topI (fun z135 e135 => ?_)
          replace hwp := hwp z135 e135
          refine x_istore C0 d_Ch_complete_135 (by decide) (lv' := [(4, .int z135), (0, .int l0), (1, .int l1), (2, .int l2), (3, .int l3)]) rfl ?_
          exact x_sub [2, 3, 0] rfl (t_Ch_complete_137 G C0 hR hr hlk  _ _ _ _ hwp)
set_option maxRecDepth 100000 in
set_option maxHeartbeats 4000000 in
theorem t_Ch_complete_94 {p : Program} {l : Launch} {e : Env} {R : Room} {s : State} {m : MethodId} {args : Array Value} {below : List Frame} {meth : Method} {c : Code} (G : mG) (C0 : Cx G p s m args c prog_2_method_6_code 5 "BassRealiser$Chord") (hR : 1 ≤ R.frames ∧ 21 ≤ R.locals ∧ 0 ≤ R.cells ∧ 0 ≤ R.slots) (hr : meth.sig.returnType = some .int) (hlk : meth.locks = false) {Post : Int32 → MH → Prop} (l0 : Int32) (l1 : Int32) (l2 : Int32) (l3 : Int32) (l4 : Int32) (h : MH) (hwp : wp_Ch_complete_94 Post l0 l1 l2 l3 l4 h) : WG p l e R s m args below meth c 0 0 (MQ below (va_Qi Post (Wd G) (mA G)) args s 0 0 (mA G)) G 5 [(0, .int l0), (1, .int l1), (2, .int l2), (3, .int l3), (4, .int l4)] 94 [] h := by
  unfold wp_Ch_complete_94 at hwp
  refine x_iload_n C0 1 d_Ch_complete_94 rfl rfl ?_
  refine x_if_eq (tgt := 105) C0 d_Ch_complete_95 (by decide) (fun c95 => ?_) (fun c95 => ?_)
  · replace hwp := hwp.1 c95
    exact x_sub [0, 1, 2, 3, 4] rfl (t_Ch_complete_105 G C0 hR hr hlk  _ _ _ _ _ _ hwp)
  · replace hwp := hwp.2 c95
    refine x_iload C0 4 d_Ch_complete_98 rfl ?_
    refine x_bipush (v := 16) C0 d_Ch_complete_100 (by decide) ?_
    refine x_ior C0 d_Ch_complete_102 ?_
    refine x_topI (fun z103 e103 => ?_)
    replace hwp := hwp z103 e103
    refine x_istore C0 d_Ch_complete_103 (by decide) (lv' := [(4, .int z103), (0, .int l0), (1, .int l1), (2, .int l2), (3, .int l3)]) rfl ?_
    exact x_sub [1, 2, 3, 4, 0] rfl (t_Ch_complete_105 G C0 hR hr hlk  _ _ _ _ _ _ hwp)
set_option maxRecDepth 100000 in
set_option maxHeartbeats 4000000 in
theorem t_Ch_complete_67 {p : Program} {l : Launch} {e : Env} {R : Room} {s : State} {m : MethodId} {args : Array Value} {below : List Frame} {meth : Method} {c : Code} (G : mG) (C0 : Cx G p s m args c prog_2_method_6_code 5 "BassRealiser$Chord") (hR : 1 ≤ R.frames ∧ 21 ≤ R.locals ∧ 0 ≤ R.cells ∧ 0 ≤ R.slots) (hr : meth.sig.returnType = some .int) (hlk : meth.locks = false) {Post : Int32 → MH → Prop} (l0 : Int32) (l1 : Int32) (l2 : Int32) (y0 : Int32) (h : MH) (hwp : wp_Ch_complete_67 Post l0 l1 l2 y0 h) : WG p l e R s m args below meth c 0 0 (MQ below (va_Qi Post (Wd G) (mA G)) args s 0 0 (mA G)) G 5 [(0, .int l0), (1, .int l1), (2, .int l2)] 67 [.int y0] h := by
  unfold wp_Ch_complete_67 at hwp
  refine x_istore_n C0 d_Ch_complete_67 rfl (by decide) (lv' := [(3, .int y0), (0, .int l0), (1, .int l1), (2, .int l2)]) rfl ?_
  refine x_iload_n C0 1 d_Ch_complete_68 rfl rfl ?_
  refine x_istore C0 d_Ch_complete_69 (by decide) (lv' := [(4, .int l0), (3, .int y0), (0, .int l0), (1, .int l1), (2, .int l2)]) rfl ?_
  refine x_iload_n C0 2 d_Ch_complete_71 rfl rfl ?_
  refine x_iconst (v := 2) C0 d_Ch_complete_72 (by decide) ?_
  refine x_callSi0 (As := [.int l0, .int (2 : Int32)]) (st := []) C0 (c_Ch_has l G hwp) kw_1_236 mk_Ch_has kw_1_237 rfl (by decide) rfl rfl ⟨Nat.le_trans (by decide) hR.1, Nat.le_trans (by decide) hR.2.1⟩ ⟨Nat.zero_le _, Nat.zero_le _⟩ rfl d_Ch_complete_73 (fun r73 h73 hwp => ?_)
  refine x_if_ne (tgt := 94) C0 d_Ch_complete_76 (by decide) (fun c76 => ?_) (fun c76 => ?_)
  · replace hwp := hwp.1 c76
    exact x_sub [2, 3, 4, 1, 0] rfl (t_Ch_complete_94 G C0 hR hr hlk  _ _ _ _ _ _ hwp)
  · replace hwp := hwp.2 c76
    refine x_iload_n C0 2 d_Ch_complete_79 rfl rfl ?_
    refine x_iconst (v := 4) C0 d_Ch_complete_80 (by decide) ?_
    refine x_callSi0 (As := [.int l0, .int (4 : Int32)]) (st := []) C0 (c_Ch_has l G hwp) kw_1_236 mk_Ch_has kw_1_237 rfl (by decide) rfl rfl ⟨Nat.le_trans (by decide) hR.1, Nat.le_trans (by decide) hR.2.1⟩ ⟨Nat.zero_le _, Nat.zero_le _⟩ rfl d_Ch_complete_81 (fun r81 h81 hwp => ?_)
    refine x_if_ne (tgt := 94) C0 d_Ch_complete_84 (by decide) (fun c84 => ?_) (fun c84 => ?_)
    · replace hwp := hwp.1 c84
      exact x_sub [2, 3, 4, 1, 0] rfl (t_Ch_complete_94 G C0 hR hr hlk  _ _ _ _ _ _ hwp)
    · replace hwp := hwp.2 c84
      refine x_iload C0 0 d_Ch_complete_87 rfl ?_
      refine x_bipush (v := 8) C0 d_Ch_complete_89 (by decide) ?_
      refine x_ior C0 d_Ch_complete_91 ?_
      refine x_topI (fun z92 e92 => ?_)
      replace hwp := hwp z92 e92
      refine x_istore C0 d_Ch_complete_92 (by decide) (lv' := [(4, .int z92), (3, .int y0), (0, .int l0), (1, .int l1), (2, .int l2)]) rfl ?_
      exact x_sub [2, 3, 4, 1, 0] rfl (t_Ch_complete_94 G C0 hR hr hlk  _ _ _ _ _ _ hwp)
set_option maxRecDepth 100000 in
set_option maxHeartbeats 4000000 in
theorem t_Ch_complete_66 {p : Program} {l : Launch} {e : Env} {R : Room} {s : State} {m : MethodId} {args : Array Value} {below : List Frame} {meth : Method} {c : Code} (G : mG) (C0 : Cx G p s m args c prog_2_method_6_code 5 "BassRealiser$Chord") (hR : 1 ≤ R.frames ∧ 21 ≤ R.locals ∧ 0 ≤ R.cells ∧ 0 ≤ R.slots) (hr : meth.sig.returnType = some .int) (hlk : meth.locks = false) {Post : Int32 → MH → Prop} (l0 : Int32) (l1 : Int32) (l2 : Int32) (h : MH) (hwp : wp_Ch_complete_66 Post l0 l1 l2 h) : WG p l e R s m args below meth c 0 0 (MQ below (va_Qi Post (Wd G) (mA G)) args s 0 0 (mA G)) G 5 [(0, .int l0), (1, .int l1), (2, .int l2)] 66 [] h := by
  unfold wp_Ch_complete_66 at hwp
  refine x_iconst (v := 0) C0 d_Ch_complete_66 (by decide) ?_
  exact x_sub [0, 1, 2] rfl (t_Ch_complete_67 G C0 hR hr hlk  _ _ _ _ _ hwp)
set_option maxRecDepth 100000 in
set_option maxHeartbeats 4000000 in
theorem t_Ch_complete_43 {p : Program} {l : Launch} {e : Env} {R : Room} {s : State} {m : MethodId} {args : Array Value} {below : List Frame} {meth : Method} {c : Code} (G : mG) (C0 : Cx G p s m args c prog_2_method_6_code 5 "BassRealiser$Chord") (hR : 1 ≤ R.frames ∧ 21 ≤ R.locals ∧ 0 ≤ R.cells ∧ 0 ≤ R.slots) (hr : meth.sig.returnType = some .int) (hlk : meth.locks = false) {Post : Int32 → MH → Prop} (l0 : Int32) (l1 : Int32) (y0 : Int32) (h : MH) (hwp : wp_Ch_complete_43 Post l0 l1 y0 h) : WG p l e R s m args below meth c 0 0 (MQ below (va_Qi Post (Wd G) (mA G)) args s 0 0 (mA G)) G 5 [(0, .int l0), (1, .int l1)] 43 [.int y0] h := by
  unfold wp_Ch_complete_43 at hwp
  refine x_istore_n C0 d_Ch_complete_43 rfl (by decide) (lv' := [(2, .int y0), (0, .int l0), (1, .int l1)]) rfl ?_
  refine x_iload_n C0 1 d_Ch_complete_44 rfl rfl ?_
  refine x_bipush (v := 7) C0 d_Ch_complete_45 (by decide) ?_
  refine x_callSi0 (As := [.int l0, .int (7 : Int32)]) (st := []) C0 (c_Ch_has l G hwp) kw_1_236 mk_Ch_has kw_1_237 rfl (by decide) rfl rfl ⟨Nat.le_trans (by decide) hR.1, Nat.le_trans (by decide) hR.2.1⟩ ⟨Nat.zero_le _, Nat.zero_le _⟩ rfl d_Ch_complete_47 (fun r47 h47 hwp => ?_)
  refine x_if_eq (tgt := 66) C0 d_Ch_complete_50 (by decide) (fun c50 => ?_) (fun c50 => ?_)
  · replace hwp := hwp.1 c50
    exact x_sub [1, 2, 0] rfl (t_Ch_complete_66 G C0 hR hr hlk  _ _ _ _ hwp)
  · replace hwp := hwp.2 c50
    refine x_iload_n C0 1 d_Ch_complete_53 rfl rfl ?_
    refine x_bipush (v := 9) C0 d_Ch_complete_54 (by decide) ?_
    refine x_callSi0 (As := [.int l0, .int (9 : Int32)]) (st := []) C0 (c_Ch_has l G hwp) kw_1_236 mk_Ch_has kw_1_237 rfl (by decide) rfl rfl ⟨Nat.le_trans (by decide) hR.1, Nat.le_trans (by decide) hR.2.1⟩ ⟨Nat.zero_le _, Nat.zero_le _⟩ rfl d_Ch_complete_56 (fun r56 h56 hwp => ?_)
    refine x_if_eq (tgt := 66) C0 d_Ch_complete_59 (by decide) (fun c59 => ?_) (fun c59 => ?_)
    · replace hwp := hwp.1 c59
      exact x_sub [1, 2, 0] rfl (t_Ch_complete_66 G C0 hR hr hlk  _ _ _ _ hwp)
    · replace hwp := hwp.2 c59
      refine x_iconst (v := 1) C0 d_Ch_complete_62 (by decide) ?_
      refine x_goto (tgt := 67) C0 d_Ch_complete_63 (by decide) ?_
      exact x_sub [1, 2, 0] rfl (t_Ch_complete_67 G C0 hR hr hlk  _ _ _ _ _ hwp)
set_option maxRecDepth 100000 in
set_option maxHeartbeats 4000000 in
theorem t_Ch_complete_42 {p : Program} {l : Launch} {e : Env} {R : Room} {s : State} {m : MethodId} {args : Array Value} {below : List Frame} {meth : Method} {c : Code} (G : mG) (C0 : Cx G p s m args c prog_2_method_6_code 5 "BassRealiser$Chord") (hR : 1 ≤ R.frames ∧ 21 ≤ R.locals ∧ 0 ≤ R.cells ∧ 0 ≤ R.slots) (hr : meth.sig.returnType = some .int) (hlk : meth.locks = false) {Post : Int32 → MH → Prop} (l0 : Int32) (l1 : Int32) (h : MH) (hwp : wp_Ch_complete_42 Post l0 l1 h) : WG p l e R s m args below meth c 0 0 (MQ below (va_Qi Post (Wd G) (mA G)) args s 0 0 (mA G)) G 5 [(0, .int l0), (1, .int l1)] 42 [] h := by
  unfold wp_Ch_complete_42 at hwp
  refine x_iconst (v := 0) C0 d_Ch_complete_42 (by decide) ?_
  exact x_sub [0, 1] rfl (t_Ch_complete_43 G C0 hR hr hlk  _ _ _ _ hwp)
set_option maxRecDepth 100000 in
set_option maxHeartbeats 4000000 in
theorem t_Ch_complete_21 {p : Program} {l : Launch} {e : Env} {R : Room} {s : State} {m : MethodId} {args : Array Value} {below : List Frame} {meth : Method} {c : Code} (G : mG) (C0 : Cx G p s m args c prog_2_method_6_code 5 "BassRealiser$Chord") (hR : 1 ≤ R.frames ∧ 21 ≤ R.locals ∧ 0 ≤ R.cells ∧ 0 ≤ R.slots) (hr : meth.sig.returnType = some .int) (hlk : meth.locks = false) {Post : Int32 → MH → Prop} (l0 : Int32) (y0 : Int32) (h : MH) (hwp : wp_Ch_complete_21 Post l0 y0 h) : WG p l e R s m args below meth c 0 0 (MQ below (va_Qi Post (Wd G) (mA G)) args s 0 0 (mA G)) G 5 [(0, .int l0)] 21 [.int y0] h := by
  unfold wp_Ch_complete_21 at hwp
  refine x_istore_n C0 d_Ch_complete_21 rfl (by decide) (lv' := [(1, .int y0), (0, .int l0)]) rfl ?_
  refine x_iload_n C0 1 d_Ch_complete_22 rfl rfl ?_
  refine x_iconst (v := 3) C0 d_Ch_complete_23 (by decide) ?_
  refine x_callSi0 (As := [.int l0, .int (3 : Int32)]) (st := []) C0 (c_Ch_has l G hwp) kw_1_236 mk_Ch_has kw_1_237 rfl (by decide) rfl rfl ⟨Nat.le_trans (by decide) hR.1, Nat.le_trans (by decide) hR.2.1⟩ ⟨Nat.zero_le _, Nat.zero_le _⟩ rfl d_Ch_complete_24 (fun r24 h24 hwp => ?_)
  refine x_if_eq (tgt := 42) C0 d_Ch_complete_27 (by decide) (fun c27 => ?_) (fun c27 => ?_)
  · replace hwp := hwp.1 c27
    exact x_sub [1, 0] rfl (t_Ch_complete_42 G C0 hR hr hlk  _ _ _ hwp)
  · replace hwp := hwp.2 c27
    refine x_iload_n C0 1 d_Ch_complete_30 rfl rfl ?_
    refine x_iconst (v := 4) C0 d_Ch_complete_31 (by decide) ?_
    refine x_callSi0 (As := [.int l0, .int (4 : Int32)]) (st := []) C0 (c_Ch_has l G hwp) kw_1_236 mk_Ch_has kw_1_237 rfl (by decide) rfl rfl ⟨Nat.le_trans (by decide) hR.1, Nat.le_trans (by decide) hR.2.1⟩ ⟨Nat.zero_le _, Nat.zero_le _⟩ rfl d_Ch_complete_32 (fun r32 h32 hwp => ?_)
    refine x_if_eq (tgt := 42) C0 d_Ch_complete_35 (by decide) (fun c35 => ?_) (fun c35 => ?_)
    · replace hwp := hwp.1 c35
      exact x_sub [1, 0] rfl (t_Ch_complete_42 G C0 hR hr hlk  _ _ _ hwp)
    · replace hwp := hwp.2 c35
      refine x_iconst (v := 1) C0 d_Ch_complete_38 (by decide) ?_
      refine x_goto (tgt := 43) C0 d_Ch_complete_39 (by decide) ?_
      exact x_sub [1, 0] rfl (t_Ch_complete_43 G C0 hR hr hlk  _ _ _ _ hwp)
set_option maxRecDepth 100000 in
set_option maxHeartbeats 4000000 in
theorem t_Ch_complete_20 {p : Program} {l : Launch} {e : Env} {R : Room} {s : State} {m : MethodId} {args : Array Value} {below : List Frame} {meth : Method} {c : Code} (G : mG) (C0 : Cx G p s m args c prog_2_method_6_code 5 "BassRealiser$Chord") (hR : 1 ≤ R.frames ∧ 21 ≤ R.locals ∧ 0 ≤ R.cells ∧ 0 ≤ R.slots) (hr : meth.sig.returnType = some .int) (hlk : meth.locks = false) {Post : Int32 → MH → Prop} (l0 : Int32) (h : MH) (hwp : wp_Ch_complete_20 Post l0 h) : WG p l e R s m args below meth c 0 0 (MQ below (va_Qi Post (Wd G) (mA G)) args s 0 0 (mA G)) G 5 [(0, .int l0)] 20 [] h := by
  unfold wp_Ch_complete_20 at hwp
  refine x_iconst (v := 0) C0 d_Ch_complete_20 (by decide) ?_
  exact x_sub [0] rfl (t_Ch_complete_21 G C0 hR hr hlk  _ _ _ hwp)
set_option maxRecDepth 100000 in
set_option maxHeartbeats 4000000 in
theorem t_Ch_complete {p : Program} {l : Launch} {e : Env} {R : Room} {s : State} {m : MethodId} {args : Array Value} {below : List Frame} {meth : Method} {c : Code} (G : mG) (C0 : Cx G p s m args c prog_2_method_6_code 5 "BassRealiser$Chord") (hR : 1 ≤ R.frames ∧ 21 ≤ R.locals ∧ 0 ≤ R.cells ∧ 0 ≤ R.slots) (hr : meth.sig.returnType = some .int) (hlk : meth.locks = false) {Post : Int32 → MH → Prop} (l0 : Int32) (h : MH) (hwp : wp_Ch_complete Post l0 h) : WG p l e R s m args below meth c 0 0 (MQ below (va_Qi Post (Wd G) (mA G)) args s 0 0 (mA G)) G 5 [(0, .int l0)] 0 [] h := by
  unfold wp_Ch_complete at hwp
  refine x_iload_n C0 0 d_Ch_complete_0 rfl rfl ?_
  refine x_iconst (v := 2) C0 d_Ch_complete_1 (by decide) ?_
  refine x_callSi0 (As := [.int l0, .int (2 : Int32)]) (st := []) C0 (c_Ch_has l G hwp) kw_1_236 mk_Ch_has kw_1_237 rfl (by decide) rfl rfl ⟨Nat.le_trans (by decide) hR.1, Nat.le_trans (by decide) hR.2.1⟩ ⟨Nat.zero_le _, Nat.zero_le _⟩ rfl d_Ch_complete_2 (fun r2 h2 hwp => ?_)
  refine x_if_eq (tgt := 20) C0 d_Ch_complete_5 (by decide) (fun c5 => ?_) (fun c5 => ?_)
  · replace hwp := hwp.1 c5
    exact x_sub [0] rfl (t_Ch_complete_20 G C0 hR hr hlk  _ _ hwp)
  · replace hwp := hwp.2 c5
    refine x_iload_n C0 0 d_Ch_complete_8 rfl rfl ?_
    refine x_iconst (v := 5) C0 d_Ch_complete_9 (by decide) ?_
    refine x_callSi0 (As := [.int l0, .int (5 : Int32)]) (st := []) C0 (c_Ch_has l G hwp) kw_1_236 mk_Ch_has kw_1_237 rfl (by decide) rfl rfl ⟨Nat.le_trans (by decide) hR.1, Nat.le_trans (by decide) hR.2.1⟩ ⟨Nat.zero_le _, Nat.zero_le _⟩ rfl d_Ch_complete_10 (fun r10 h10 hwp => ?_)
    refine x_if_ne (tgt := 20) C0 d_Ch_complete_13 (by decide) (fun c13 => ?_) (fun c13 => ?_)
    · replace hwp := hwp.1 c13
      exact x_sub [0] rfl (t_Ch_complete_20 G C0 hR hr hlk  _ _ hwp)
    · replace hwp := hwp.2 c13
      refine x_iconst (v := 1) C0 d_Ch_complete_16 (by decide) ?_
      refine x_goto (tgt := 21) C0 d_Ch_complete_17 (by decide) ?_
      exact x_sub [0] rfl (t_Ch_complete_21 G C0 hR hr hlk  _ _ _ hwp)
set_option maxRecDepth 100000 in
set_option maxHeartbeats 4000000 in
theorem c_Ch_complete (l : Launch) (G : mG) {Post : Int32 → MH → Prop} {l0 : Int32} {h : MH} (hwp : wp_Ch_complete Post l0 h) : Met l y_Ch_complete (Cond.code y_Ch_complete prog_2_method_6_code 5 (Option.some Jvm.ClassFile.FieldType.int) :: lw_good) ({ frames := 1, cells := 0, slots := 0, locals := 21 }) (va_Pc [.int l0] (Wd G h)) (va_Qi Post (Wd G) (mA G)) 0 0 (mA G) := by
  refine Met.ofW (cc := prog_2_method_6_code) (maxL := 5) (ret := (Option.some Jvm.ClassFile.FieldType.int)) (by decide) rfl ?_
  intro p e s m args below meth c s₁ B hml hv
  obtain ⟨rfl, hP, hz, hK, hSt⟩ := hv
  have hts := atoms_spec (ws := Cond.code y_Ch_complete prog_2_method_6_code 5 (Option.some Jvm.ClassFile.FieldType.int) :: lw_good) B.pre
  have C0 : Cx G p s m ([.int l0] : List Value).toArray c prog_2_method_6_code 5 "BassRealiser$Chord" := ⟨⟨B.exec, B.bytes, hml, findClass_of_methodNamed B.named, fun w h => hts w (List.mem_cons_of_mem _ h)⟩, hK, hSt, by rw [hz]; exact Nat.le_add_right _ _⟩
  have hl := lv_entry ([.int l0]) (n := 5) (Nat.le_of_ble_eq_true rfl)
  rw [lg_entry_eq]
  exact t_Ch_complete G C0 ⟨Nat.le_refl _, Nat.le_refl _, Nat.le_refl _, Nat.le_refl _⟩ B.returns B.notSynchronized _ _ hwp _ _ _ ⟨hP, hz, va_S.rf⟩ hl
end
