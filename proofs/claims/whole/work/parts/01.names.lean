-- ===== PART A: goes FIRST, ahead of the names: the tables' words, and 'selects' of the private methods out of them =====
/-- a private method of a class that the tables say can be made, by its rows of tables_1 -/
def lw_okq (q : MethodName × Nat) : Prop := (q.1.cls ≠ "java/lang/invoke/MethodHandle" ∧ q.1.cls ≠ "java/lang/invoke/VarHandle") ∧ Cond.instantiable q.1.cls q.2 ∈ tables_1 ∧ Cond.privateMethod q.1 ∈ tables_1 ∧ Cond.instanceMethod q.1 ∈ tables_1
theorem lw_p0 : lw_okq (⟨"HandKnot", "refuse", "(I)I"⟩, 12) := ⟨⟨by decide +kernel, by decide +kernel⟩, List.mem_of_getElem? (i := 27) (by decide +kernel), List.mem_of_getElem? (i := 592) (by decide +kernel), List.mem_of_getElem? (i := 593) (by decide +kernel)⟩
theorem lw_p1 : lw_okq (⟨"HandKnot$Tape", "cutOne", "(II)I"⟩, 8) := ⟨⟨by decide +kernel, by decide +kernel⟩, List.mem_of_getElem? (i := 41) (by decide +kernel), List.mem_of_getElem? (i := 607) (by decide +kernel), List.mem_of_getElem? (i := 608) (by decide +kernel)⟩
theorem lw_p2 : lw_okq (⟨"HandKnot$Tape", "addWord", "(II)V"⟩, 8) := ⟨⟨by decide +kernel, by decide +kernel⟩, List.mem_of_getElem? (i := 41) (by decide +kernel), List.mem_of_getElem? (i := 614) (by decide +kernel), List.mem_of_getElem? (i := 615) (by decide +kernel)⟩
theorem lw_p3 : lw_okq (⟨"HandKnot$Tape", "addToken", "(IIIJ)V"⟩, 8) := ⟨⟨by decide +kernel, by decide +kernel⟩, List.mem_of_getElem? (i := 41) (by decide +kernel), List.mem_of_getElem? (i := 618) (by decide +kernel), List.mem_of_getElem? (i := 619) (by decide +kernel)⟩
theorem lw_p4 : lw_okq (⟨"HandKnot$Tape", "addWhole", "(II)V"⟩, 8) := ⟨⟨by decide +kernel, by decide +kernel⟩, List.mem_of_getElem? (i := 41) (by decide +kernel), List.mem_of_getElem? (i := 625) (by decide +kernel), List.mem_of_getElem? (i := 626) (by decide +kernel)⟩
theorem lw_p5 : lw_okq (⟨"HandKnot$Tape", "ends", "(I)I"⟩, 8) := ⟨⟨by decide +kernel, by decide +kernel⟩, List.mem_of_getElem? (i := 41) (by decide +kernel), List.mem_of_getElem? (i := 629) (by decide +kernel), List.mem_of_getElem? (i := 630) (by decide +kernel)⟩
theorem lw_p6 : lw_okq (⟨"HandKnot$Reader", "readsLine", "()Z"⟩, 7) := ⟨⟨by decide +kernel, by decide +kernel⟩, List.mem_of_getElem? (i := 35) (by decide +kernel), List.mem_of_getElem? (i := 640) (by decide +kernel), List.mem_of_getElem? (i := 641) (by decide +kernel)⟩
theorem lw_p7 : lw_okq (⟨"HandKnot$Reader", "advance", "()V"⟩, 7) := ⟨⟨by decide +kernel, by decide +kernel⟩, List.mem_of_getElem? (i := 35) (by decide +kernel), List.mem_of_getElem? (i := 644) (by decide +kernel), List.mem_of_getElem? (i := 645) (by decide +kernel)⟩
theorem lw_p8 : lw_okq (⟨"HandKnot$Reader", "isWord", "(I)Z"⟩, 7) := ⟨⟨by decide +kernel, by decide +kernel⟩, List.mem_of_getElem? (i := 35) (by decide +kernel), List.mem_of_getElem? (i := 648) (by decide +kernel), List.mem_of_getElem? (i := 649) (by decide +kernel)⟩
theorem lw_p9 : lw_okq (⟨"HandKnot$Reader", "readsTangle", "()Z"⟩, 7) := ⟨⟨by decide +kernel, by decide +kernel⟩, List.mem_of_getElem? (i := 35) (by decide +kernel), List.mem_of_getElem? (i := 652) (by decide +kernel), List.mem_of_getElem? (i := 653) (by decide +kernel)⟩
theorem lw_p10 : lw_okq (⟨"HandKnot$Reader", "isFaulty", "(I)Z"⟩, 7) := ⟨⟨by decide +kernel, by decide +kernel⟩, List.mem_of_getElem? (i := 35) (by decide +kernel), List.mem_of_getElem? (i := 656) (by decide +kernel), List.mem_of_getElem? (i := 657) (by decide +kernel)⟩
theorem lw_p11 : lw_okq (⟨"HandKnot$Reader", "takesWord", "(I)Z"⟩, 7) := ⟨⟨by decide +kernel, by decide +kernel⟩, List.mem_of_getElem? (i := 35) (by decide +kernel), List.mem_of_getElem? (i := 660) (by decide +kernel), List.mem_of_getElem? (i := 661) (by decide +kernel)⟩
theorem lw_p12 : lw_okq (⟨"HandKnot$Reader", "takesWhole", "(II)Z"⟩, 7) := ⟨⟨by decide +kernel, by decide +kernel⟩, List.mem_of_getElem? (i := 35) (by decide +kernel), List.mem_of_getElem? (i := 664) (by decide +kernel), List.mem_of_getElem? (i := 665) (by decide +kernel)⟩
theorem lw_p13 : lw_okq (⟨"HandKnot$Reader", "kind", "()I"⟩, 7) := ⟨⟨by decide +kernel, by decide +kernel⟩, List.mem_of_getElem? (i := 35) (by decide +kernel), List.mem_of_getElem? (i := 668) (by decide +kernel), List.mem_of_getElem? (i := 669) (by decide +kernel)⟩
theorem lw_p14 : lw_okq (⟨"HandKnot$Reader", "readsPerson", "()Z"⟩, 7) := ⟨⟨by decide +kernel, by decide +kernel⟩, List.mem_of_getElem? (i := 35) (by decide +kernel), List.mem_of_getElem? (i := 672) (by decide +kernel), List.mem_of_getElem? (i := 673) (by decide +kernel)⟩
theorem lw_p15 : lw_okq (⟨"HandKnot$Reader", "takesNewName", "()Z"⟩, 7) := ⟨⟨by decide +kernel, by decide +kernel⟩, List.mem_of_getElem? (i := 35) (by decide +kernel), List.mem_of_getElem? (i := 676) (by decide +kernel), List.mem_of_getElem? (i := 677) (by decide +kernel)⟩
def lw_privs_1 : List (MethodName × Nat) := [(⟨"HandKnot", "refuse", "(I)I"⟩, 12), (⟨"HandKnot$Tape", "cutOne", "(II)I"⟩, 8), (⟨"HandKnot$Tape", "addWord", "(II)V"⟩, 8), (⟨"HandKnot$Tape", "addToken", "(IIIJ)V"⟩, 8), (⟨"HandKnot$Tape", "addWhole", "(II)V"⟩, 8), (⟨"HandKnot$Tape", "ends", "(I)I"⟩, 8), (⟨"HandKnot$Reader", "readsLine", "()Z"⟩, 7), (⟨"HandKnot$Reader", "advance", "()V"⟩, 7), (⟨"HandKnot$Reader", "isWord", "(I)Z"⟩, 7), (⟨"HandKnot$Reader", "readsTangle", "()Z"⟩, 7), (⟨"HandKnot$Reader", "isFaulty", "(I)Z"⟩, 7), (⟨"HandKnot$Reader", "takesWord", "(I)Z"⟩, 7), (⟨"HandKnot$Reader", "takesWhole", "(II)Z"⟩, 7), (⟨"HandKnot$Reader", "kind", "()I"⟩, 7), (⟨"HandKnot$Reader", "readsPerson", "()Z"⟩, 7), (⟨"HandKnot$Reader", "takesNewName", "()Z"⟩, 7)]
theorem lw_r1 : ∀ q ∈ lw_privs_1, lw_okq q := List.forall_mem_cons.mpr ⟨lw_p0, List.forall_mem_cons.mpr ⟨lw_p1, List.forall_mem_cons.mpr ⟨lw_p2, List.forall_mem_cons.mpr ⟨lw_p3, List.forall_mem_cons.mpr ⟨lw_p4, List.forall_mem_cons.mpr ⟨lw_p5, List.forall_mem_cons.mpr ⟨lw_p6, List.forall_mem_cons.mpr ⟨lw_p7, List.forall_mem_cons.mpr ⟨lw_p8, List.forall_mem_cons.mpr ⟨lw_p9, List.forall_mem_cons.mpr ⟨lw_p10, List.forall_mem_cons.mpr ⟨lw_p11, List.forall_mem_cons.mpr ⟨lw_p12, List.forall_mem_cons.mpr ⟨lw_p13, List.forall_mem_cons.mpr ⟨lw_p14, List.forall_mem_cons.mpr ⟨lw_p15, fun _ h => absurd h List.not_mem_nil⟩⟩⟩⟩⟩⟩⟩⟩⟩⟩⟩⟩⟩⟩⟩⟩
theorem lw_p16 : lw_okq (⟨"HandKnot$Reader", "takesName", "()Z"⟩, 7) := ⟨⟨by decide +kernel, by decide +kernel⟩, List.mem_of_getElem? (i := 35) (by decide +kernel), List.mem_of_getElem? (i := 680) (by decide +kernel), List.mem_of_getElem? (i := 681) (by decide +kernel)⟩
theorem lw_p17 : lw_okq (⟨"HandKnot$Reader", "readsHold", "()Z"⟩, 7) := ⟨⟨by decide +kernel, by decide +kernel⟩, List.mem_of_getElem? (i := 35) (by decide +kernel), List.mem_of_getElem? (i := 699) (by decide +kernel), List.mem_of_getElem? (i := 700) (by decide +kernel)⟩
theorem lw_p18 : lw_okq (⟨"HandKnot$Reader", "takesPerson", "()Z"⟩, 7) := ⟨⟨by decide +kernel, by decide +kernel⟩, List.mem_of_getElem? (i := 35) (by decide +kernel), List.mem_of_getElem? (i := 703) (by decide +kernel), List.mem_of_getElem? (i := 704) (by decide +kernel)⟩
theorem lw_p19 : lw_okq (⟨"HandKnot$Reader", "takesHand", "(I)Z"⟩, 7) := ⟨⟨by decide +kernel, by decide +kernel⟩, List.mem_of_getElem? (i := 35) (by decide +kernel), List.mem_of_getElem? (i := 707) (by decide +kernel), List.mem_of_getElem? (i := 708) (by decide +kernel)⟩
theorem lw_p20 : lw_okq (⟨"HandKnot$Reader", "readsCross", "()Z"⟩, 7) := ⟨⟨by decide +kernel, by decide +kernel⟩, List.mem_of_getElem? (i := 35) (by decide +kernel), List.mem_of_getElem? (i := 726) (by decide +kernel), List.mem_of_getElem? (i := 727) (by decide +kernel)⟩
theorem lw_p21 : lw_okq (⟨"HandKnot$Reader", "takesPass", "(Z)Z"⟩, 7) := ⟨⟨by decide +kernel, by decide +kernel⟩, List.mem_of_getElem? (i := 35) (by decide +kernel), List.mem_of_getElem? (i := 730) (by decide +kernel), List.mem_of_getElem? (i := 731) (by decide +kernel)⟩
theorem lw_p22 : lw_okq (⟨"HandKnot$Reader", "takesLink", "()Z"⟩, 7) := ⟨⟨by decide +kernel, by decide +kernel⟩, List.mem_of_getElem? (i := 35) (by decide +kernel), List.mem_of_getElem? (i := 734) (by decide +kernel), List.mem_of_getElem? (i := 735) (by decide +kernel)⟩
theorem lw_p23 : lw_okq (⟨"HandKnot$Rings", "traceHands", "(LHandKnot$Told;I)V"⟩, 20) := ⟨⟨by decide +kernel, by decide +kernel⟩, List.mem_of_getElem? (i := 241) (by decide +kernel), List.mem_of_getElem? (i := 766) (by decide +kernel), List.mem_of_getElem? (i := 767) (by decide +kernel)⟩
theorem lw_p24 : lw_okq (⟨"HandKnot$Rings", "traceRing", "(LHandKnot$Told;II)I"⟩, 20) := ⟨⟨by decide +kernel, by decide +kernel⟩, List.mem_of_getElem? (i := 241) (by decide +kernel), List.mem_of_getElem? (i := 778) (by decide +kernel), List.mem_of_getElem? (i := 779) (by decide +kernel)⟩
theorem lw_p25 : lw_okq (⟨"HandKnot$Rings", "traceLink", "(LHandKnot$Told;IZ)V"⟩, 20) := ⟨⟨by decide +kernel, by decide +kernel⟩, List.mem_of_getElem? (i := 241) (by decide +kernel), List.mem_of_getElem? (i := 782) (by decide +kernel), List.mem_of_getElem? (i := 783) (by decide +kernel)⟩
theorem lw_p26 : lw_okq (⟨"HandKnot$Rings", "traceSigns", "(LHandKnot$Told;)V"⟩, 20) := ⟨⟨by decide +kernel, by decide +kernel⟩, List.mem_of_getElem? (i := 241) (by decide +kernel), List.mem_of_getElem? (i := 787) (by decide +kernel), List.mem_of_getElem? (i := 788) (by decide +kernel)⟩
theorem lw_p27 : lw_okq (⟨"HandKnot$Board", "walkRound", "(II)I"⟩, 13) := ⟨⟨by decide +kernel, by decide +kernel⟩, List.mem_of_getElem? (i := 394) (by decide +kernel), List.mem_of_getElem? (i := 807) (by decide +kernel), List.mem_of_getElem? (i := 808) (by decide +kernel)⟩
theorem lw_p28 : lw_okq (⟨"HandKnot$Board", "join", "(II)V"⟩, 13) := ⟨⟨by decide +kernel, by decide +kernel⟩, List.mem_of_getElem? (i := 394) (by decide +kernel), List.mem_of_getElem? (i := 819) (by decide +kernel), List.mem_of_getElem? (i := 820) (by decide +kernel)⟩
theorem lw_p29 : lw_okq (⟨"HandKnot$Board", "listTurn", "(I)V"⟩, 13) := ⟨⟨by decide +kernel, by decide +kernel⟩, List.mem_of_getElem? (i := 394) (by decide +kernel), List.mem_of_getElem? (i := 823) (by decide +kernel), List.mem_of_getElem? (i := 824) (by decide +kernel)⟩
theorem lw_p30 : lw_okq (⟨"HandKnot$Board", "addNumber", "(I)V"⟩, 13) := ⟨⟨by decide +kernel, by decide +kernel⟩, List.mem_of_getElem? (i := 394) (by decide +kernel), List.mem_of_getElem? (i := 830) (by decide +kernel), List.mem_of_getElem? (i := 831) (by decide +kernel)⟩
theorem lw_p31 : lw_okq (⟨"HandKnot$Board", "listSlips", "(I)V"⟩, 13) := ⟨⟨by decide +kernel, by decide +kernel⟩, List.mem_of_getElem? (i := 394) (by decide +kernel), List.mem_of_getElem? (i := 834) (by decide +kernel), List.mem_of_getElem? (i := 835) (by decide +kernel)⟩
def lw_privs_2 : List (MethodName × Nat) := [(⟨"HandKnot$Reader", "takesName", "()Z"⟩, 7), (⟨"HandKnot$Reader", "readsHold", "()Z"⟩, 7), (⟨"HandKnot$Reader", "takesPerson", "()Z"⟩, 7), (⟨"HandKnot$Reader", "takesHand", "(I)Z"⟩, 7), (⟨"HandKnot$Reader", "readsCross", "()Z"⟩, 7), (⟨"HandKnot$Reader", "takesPass", "(Z)Z"⟩, 7), (⟨"HandKnot$Reader", "takesLink", "()Z"⟩, 7), (⟨"HandKnot$Rings", "traceHands", "(LHandKnot$Told;I)V"⟩, 20), (⟨"HandKnot$Rings", "traceRing", "(LHandKnot$Told;II)I"⟩, 20), (⟨"HandKnot$Rings", "traceLink", "(LHandKnot$Told;IZ)V"⟩, 20), (⟨"HandKnot$Rings", "traceSigns", "(LHandKnot$Told;)V"⟩, 20), (⟨"HandKnot$Board", "walkRound", "(II)I"⟩, 13), (⟨"HandKnot$Board", "join", "(II)V"⟩, 13), (⟨"HandKnot$Board", "listTurn", "(I)V"⟩, 13), (⟨"HandKnot$Board", "addNumber", "(I)V"⟩, 13), (⟨"HandKnot$Board", "listSlips", "(I)V"⟩, 13)]
theorem lw_r2 : ∀ q ∈ lw_privs_2, lw_okq q := List.forall_mem_cons.mpr ⟨lw_p16, List.forall_mem_cons.mpr ⟨lw_p17, List.forall_mem_cons.mpr ⟨lw_p18, List.forall_mem_cons.mpr ⟨lw_p19, List.forall_mem_cons.mpr ⟨lw_p20, List.forall_mem_cons.mpr ⟨lw_p21, List.forall_mem_cons.mpr ⟨lw_p22, List.forall_mem_cons.mpr ⟨lw_p23, List.forall_mem_cons.mpr ⟨lw_p24, List.forall_mem_cons.mpr ⟨lw_p25, List.forall_mem_cons.mpr ⟨lw_p26, List.forall_mem_cons.mpr ⟨lw_p27, List.forall_mem_cons.mpr ⟨lw_p28, List.forall_mem_cons.mpr ⟨lw_p29, List.forall_mem_cons.mpr ⟨lw_p30, List.forall_mem_cons.mpr ⟨lw_p31, fun _ h => absurd h List.not_mem_nil⟩⟩⟩⟩⟩⟩⟩⟩⟩⟩⟩⟩⟩⟩⟩⟩
theorem lw_p32 : lw_okq (⟨"HandKnot$Board", "slipsWith", "(I)I"⟩, 13) := ⟨⟨by decide +kernel, by decide +kernel⟩, List.mem_of_getElem? (i := 394) (by decide +kernel), List.mem_of_getElem? (i := 838) (by decide +kernel), List.mem_of_getElem? (i := 839) (by decide +kernel)⟩
theorem lw_p33 : lw_okq (⟨"HandKnot$Board", "fits", "(II)Z"⟩, 13) := ⟨⟨by decide +kernel, by decide +kernel⟩, List.mem_of_getElem? (i := 394) (by decide +kernel), List.mem_of_getElem? (i := 842) (by decide +kernel), List.mem_of_getElem? (i := 843) (by decide +kernel)⟩
theorem lw_p34 : lw_okq (⟨"HandKnot$Board", "lowLink", "(II)I"⟩, 13) := ⟨⟨by decide +kernel, by decide +kernel⟩, List.mem_of_getElem? (i := 394) (by decide +kernel), List.mem_of_getElem? (i := 846) (by decide +kernel), List.mem_of_getElem? (i := 847) (by decide +kernel)⟩
theorem lw_p35 : lw_okq (⟨"HandKnot$Board", "listSteps", "(I)V"⟩, 13) := ⟨⟨by decide +kernel, by decide +kernel⟩, List.mem_of_getElem? (i := 394) (by decide +kernel), List.mem_of_getElem? (i := 850) (by decide +kernel), List.mem_of_getElem? (i := 851) (by decide +kernel)⟩
theorem lw_p36 : lw_okq (⟨"HandKnot$Board", "stepsWith", "(II)I"⟩, 13) := ⟨⟨by decide +kernel, by decide +kernel⟩, List.mem_of_getElem? (i := 394) (by decide +kernel), List.mem_of_getElem? (i := 854) (by decide +kernel), List.mem_of_getElem? (i := 855) (by decide +kernel)⟩
theorem lw_p37 : lw_okq (⟨"HandKnot", "grant", "(I)I"⟩, 12) := ⟨⟨by decide +kernel, by decide +kernel⟩, List.mem_of_getElem? (i := 27) (by decide +kernel), List.mem_of_getElem? (i := 858) (by decide +kernel), List.mem_of_getElem? (i := 859) (by decide +kernel)⟩
theorem lw_p38 : lw_okq (⟨"HandKnot", "isPerson", "(I)Z"⟩, 12) := ⟨⟨by decide +kernel, by decide +kernel⟩, List.mem_of_getElem? (i := 27) (by decide +kernel), List.mem_of_getElem? (i := 874) (by decide +kernel), List.mem_of_getElem? (i := 875) (by decide +kernel)⟩
theorem lw_p39 : lw_okq (⟨"HandKnot", "isRing", "(I)Z"⟩, 12) := ⟨⟨by decide +kernel, by decide +kernel⟩, List.mem_of_getElem? (i := 27) (by decide +kernel), List.mem_of_getElem? (i := 883) (by decide +kernel), List.mem_of_getElem? (i := 884) (by decide +kernel)⟩
theorem lw_p40 : lw_okq (⟨"HandKnot", "isLink", "(I)Z"⟩, 12) := ⟨⟨by decide +kernel, by decide +kernel⟩, List.mem_of_getElem? (i := 27) (by decide +kernel), List.mem_of_getElem? (i := 903) (by decide +kernel), List.mem_of_getElem? (i := 904) (by decide +kernel)⟩
theorem lw_p41 : lw_okq (⟨"HandKnot", "isStanding", "(I)Z"⟩, 12) := ⟨⟨by decide +kernel, by decide +kernel⟩, List.mem_of_getElem? (i := 27) (by decide +kernel), List.mem_of_getElem? (i := 911) (by decide +kernel), List.mem_of_getElem? (i := 912) (by decide +kernel)⟩
theorem lw_p42 : lw_okq (⟨"HandKnot", "isCrossing", "(I)Z"⟩, 12) := ⟨⟨by decide +kernel, by decide +kernel⟩, List.mem_of_getElem? (i := 27) (by decide +kernel), List.mem_of_getElem? (i := 924) (by decide +kernel), List.mem_of_getElem? (i := 925) (by decide +kernel)⟩
theorem lw_p43 : lw_okq (⟨"HandKnot", "refuseSigned", "(I)I"⟩, 12) := ⟨⟨by decide +kernel, by decide +kernel⟩, List.mem_of_getElem? (i := 27) (by decide +kernel), List.mem_of_getElem? (i := 936) (by decide +kernel), List.mem_of_getElem? (i := 937) (by decide +kernel)⟩
theorem lw_p44 : lw_okq (⟨"HandKnot", "isMove", "(I)Z"⟩, 12) := ⟨⟨by decide +kernel, by decide +kernel⟩, List.mem_of_getElem? (i := 27) (by decide +kernel), List.mem_of_getElem? (i := 952) (by decide +kernel), List.mem_of_getElem? (i := 953) (by decide +kernel)⟩
theorem lw_p45 : lw_okq (⟨"HandKnot$Board", "goerLink", "(I)I"⟩, 13) := ⟨⟨by decide +kernel, by decide +kernel⟩, List.mem_of_getElem? (i := 394) (by decide +kernel), List.mem_of_getElem? (i := 976) (by decide +kernel), List.mem_of_getElem? (i := 977) (by decide +kernel)⟩
theorem lw_p46 : lw_okq (⟨"HandKnot$Search", "forget", "()V"⟩, 8) := ⟨⟨by decide +kernel, by decide +kernel⟩, List.mem_of_getElem? (i := 451) (by decide +kernel), List.mem_of_getElem? (i := 1008) (by decide +kernel), List.mem_of_getElem? (i := 1009) (by decide +kernel)⟩
theorem lw_p47 : lw_okq (⟨"HandKnot$Search", "add", "(JI)V"⟩, 8) := ⟨⟨by decide +kernel, by decide +kernel⟩, List.mem_of_getElem? (i := 451) (by decide +kernel), List.mem_of_getElem? (i := 1012) (by decide +kernel), List.mem_of_getElem? (i := 1013) (by decide +kernel)⟩
def lw_privs_3 : List (MethodName × Nat) := [(⟨"HandKnot$Board", "slipsWith", "(I)I"⟩, 13), (⟨"HandKnot$Board", "fits", "(II)Z"⟩, 13), (⟨"HandKnot$Board", "lowLink", "(II)I"⟩, 13), (⟨"HandKnot$Board", "listSteps", "(I)V"⟩, 13), (⟨"HandKnot$Board", "stepsWith", "(II)I"⟩, 13), (⟨"HandKnot", "grant", "(I)I"⟩, 12), (⟨"HandKnot", "isPerson", "(I)Z"⟩, 12), (⟨"HandKnot", "isRing", "(I)Z"⟩, 12), (⟨"HandKnot", "isLink", "(I)Z"⟩, 12), (⟨"HandKnot", "isStanding", "(I)Z"⟩, 12), (⟨"HandKnot", "isCrossing", "(I)Z"⟩, 12), (⟨"HandKnot", "refuseSigned", "(I)I"⟩, 12), (⟨"HandKnot", "isMove", "(I)Z"⟩, 12), (⟨"HandKnot$Board", "goerLink", "(I)I"⟩, 13), (⟨"HandKnot$Search", "forget", "()V"⟩, 8), (⟨"HandKnot$Search", "add", "(JI)V"⟩, 8)]
theorem lw_r3 : ∀ q ∈ lw_privs_3, lw_okq q := List.forall_mem_cons.mpr ⟨lw_p32, List.forall_mem_cons.mpr ⟨lw_p33, List.forall_mem_cons.mpr ⟨lw_p34, List.forall_mem_cons.mpr ⟨lw_p35, List.forall_mem_cons.mpr ⟨lw_p36, List.forall_mem_cons.mpr ⟨lw_p37, List.forall_mem_cons.mpr ⟨lw_p38, List.forall_mem_cons.mpr ⟨lw_p39, List.forall_mem_cons.mpr ⟨lw_p40, List.forall_mem_cons.mpr ⟨lw_p41, List.forall_mem_cons.mpr ⟨lw_p42, List.forall_mem_cons.mpr ⟨lw_p43, List.forall_mem_cons.mpr ⟨lw_p44, List.forall_mem_cons.mpr ⟨lw_p45, List.forall_mem_cons.mpr ⟨lw_p46, List.forall_mem_cons.mpr ⟨lw_p47, fun _ h => absurd h List.not_mem_nil⟩⟩⟩⟩⟩⟩⟩⟩⟩⟩⟩⟩⟩⟩⟩⟩
theorem lw_p48 : lw_okq (⟨"HandKnot$Search", "slotFor", "(J)I"⟩, 8) := ⟨⟨by decide +kernel, by decide +kernel⟩, List.mem_of_getElem? (i := 451) (by decide +kernel), List.mem_of_getElem? (i := 1016) (by decide +kernel), List.mem_of_getElem? (i := 1017) (by decide +kernel)⟩
theorem lw_p49 : lw_okq (⟨"HandKnot$Search", "spreadFrom", "(ILHandKnot$Moment;)V"⟩, 8) := ⟨⟨by decide +kernel, by decide +kernel⟩, List.mem_of_getElem? (i := 451) (by decide +kernel), List.mem_of_getElem? (i := 1021) (by decide +kernel), List.mem_of_getElem? (i := 1022) (by decide +kernel)⟩
theorem lw_p50 : lw_okq (⟨"HandKnot$Board", "placesOf", "(I)J"⟩, 13) := ⟨⟨by decide +kernel, by decide +kernel⟩, List.mem_of_getElem? (i := 394) (by decide +kernel), List.mem_of_getElem? (i := 1030) (by decide +kernel), List.mem_of_getElem? (i := 1031) (by decide +kernel)⟩
theorem lw_p51 : lw_okq (⟨"HandKnot$Board", "exchange", "(II)J"⟩, 13) := ⟨⟨by decide +kernel, by decide +kernel⟩, List.mem_of_getElem? (i := 394) (by decide +kernel), List.mem_of_getElem? (i := 1036) (by decide +kernel), List.mem_of_getElem? (i := 1037) (by decide +kernel)⟩
theorem lw_p52 : lw_okq (⟨"HandKnot$Board", "ringOfPass", "(I)I"⟩, 13) := ⟨⟨by decide +kernel, by decide +kernel⟩, List.mem_of_getElem? (i := 394) (by decide +kernel), List.mem_of_getElem? (i := 1075) (by decide +kernel), List.mem_of_getElem? (i := 1076) (by decide +kernel)⟩
theorem lw_p53 : lw_okq (⟨"HandKnot$Colouring", "traceArcs", "(LHandKnot$Board;I)V"⟩, 5) := ⟨⟨by decide +kernel, by decide +kernel⟩, List.mem_of_getElem? (i := 499) (by decide +kernel), List.mem_of_getElem? (i := 1092) (by decide +kernel), List.mem_of_getElem? (i := 1093) (by decide +kernel)⟩
theorem lw_p54 : lw_okq (⟨"HandKnot$Colouring", "fillRow", "([III)V"⟩, 5) := ⟨⟨by decide +kernel, by decide +kernel⟩, List.mem_of_getElem? (i := 499) (by decide +kernel), List.mem_of_getElem? (i := 1099) (by decide +kernel), List.mem_of_getElem? (i := 1100) (by decide +kernel)⟩
theorem lw_p55 : lw_okq (⟨"HandKnot$Colouring", "rank", "(II)I"⟩, 5) := ⟨⟨by decide +kernel, by decide +kernel⟩, List.mem_of_getElem? (i := 499) (by decide +kernel), List.mem_of_getElem? (i := 1107) (by decide +kernel), List.mem_of_getElem? (i := 1108) (by decide +kernel)⟩
theorem lw_p56 : lw_okq (⟨"HandKnot$Colouring", "bringsUp", "(III)Z"⟩, 5) := ⟨⟨by decide +kernel, by decide +kernel⟩, List.mem_of_getElem? (i := 499) (by decide +kernel), List.mem_of_getElem? (i := 1111) (by decide +kernel), List.mem_of_getElem? (i := 1112) (by decide +kernel)⟩
theorem lw_p57 : lw_okq (⟨"HandKnot", "isProvedTight", "()Z"⟩, 12) := ⟨⟨by decide +kernel, by decide +kernel⟩, List.mem_of_getElem? (i := 27) (by decide +kernel), List.mem_of_getElem? (i := 1122) (by decide +kernel), List.mem_of_getElem? (i := 1123) (by decide +kernel)⟩
theorem lw_p58 : lw_okq (⟨"HandKnot", "bestPart", "(I)I"⟩, 12) := ⟨⟨by decide +kernel, by decide +kernel⟩, List.mem_of_getElem? (i := 27) (by decide +kernel), List.mem_of_getElem? (i := 1130) (by decide +kernel), List.mem_of_getElem? (i := 1131) (by decide +kernel)⟩
theorem lw_p59 : lw_okq (⟨"HandKnot", "bestLift", "(I)I"⟩, 12) := ⟨⟨by decide +kernel, by decide +kernel⟩, List.mem_of_getElem? (i := 27) (by decide +kernel), List.mem_of_getElem? (i := 1148) (by decide +kernel), List.mem_of_getElem? (i := 1149) (by decide +kernel)⟩
theorem lw_p60 : lw_okq (⟨"HandKnot", "makeMove", "(I)V"⟩, 12) := ⟨⟨by decide +kernel, by decide +kernel⟩, List.mem_of_getElem? (i := 27) (by decide +kernel), List.mem_of_getElem? (i := 1296) (by decide +kernel), List.mem_of_getElem? (i := 1297) (by decide +kernel)⟩
theorem lw_p61 : lw_okq (⟨"HandKnot", "refuseFlatly", "(I)Z"⟩, 12) := ⟨⟨by decide +kernel, by decide +kernel⟩, List.mem_of_getElem? (i := 27) (by decide +kernel), List.mem_of_getElem? (i := 1323) (by decide +kernel), List.mem_of_getElem? (i := 1324) (by decide +kernel)⟩
theorem lw_p62 : lw_okq (⟨"HandKnot", "toldSize", "(I)I"⟩, 12) := ⟨⟨by decide +kernel, by decide +kernel⟩, List.mem_of_getElem? (i := 27) (by decide +kernel), List.mem_of_getElem? (i := 1355) (by decide +kernel), List.mem_of_getElem? (i := 1356) (by decide +kernel)⟩
theorem lw_p63 : lw_okq (⟨"HandKnot", "changingSize", "(I)I"⟩, 12) := ⟨⟨by decide +kernel, by decide +kernel⟩, List.mem_of_getElem? (i := 27) (by decide +kernel), List.mem_of_getElem? (i := 1359) (by decide +kernel), List.mem_of_getElem? (i := 1360) (by decide +kernel)⟩
def lw_privs_4 : List (MethodName × Nat) := [(⟨"HandKnot$Search", "slotFor", "(J)I"⟩, 8), (⟨"HandKnot$Search", "spreadFrom", "(ILHandKnot$Moment;)V"⟩, 8), (⟨"HandKnot$Board", "placesOf", "(I)J"⟩, 13), (⟨"HandKnot$Board", "exchange", "(II)J"⟩, 13), (⟨"HandKnot$Board", "ringOfPass", "(I)I"⟩, 13), (⟨"HandKnot$Colouring", "traceArcs", "(LHandKnot$Board;I)V"⟩, 5), (⟨"HandKnot$Colouring", "fillRow", "([III)V"⟩, 5), (⟨"HandKnot$Colouring", "rank", "(II)I"⟩, 5), (⟨"HandKnot$Colouring", "bringsUp", "(III)Z"⟩, 5), (⟨"HandKnot", "isProvedTight", "()Z"⟩, 12), (⟨"HandKnot", "bestPart", "(I)I"⟩, 12), (⟨"HandKnot", "bestLift", "(I)I"⟩, 12), (⟨"HandKnot", "makeMove", "(I)V"⟩, 12), (⟨"HandKnot", "refuseFlatly", "(I)Z"⟩, 12), (⟨"HandKnot", "toldSize", "(I)I"⟩, 12), (⟨"HandKnot", "changingSize", "(I)I"⟩, 12)]
theorem lw_r4 : ∀ q ∈ lw_privs_4, lw_okq q := List.forall_mem_cons.mpr ⟨lw_p48, List.forall_mem_cons.mpr ⟨lw_p49, List.forall_mem_cons.mpr ⟨lw_p50, List.forall_mem_cons.mpr ⟨lw_p51, List.forall_mem_cons.mpr ⟨lw_p52, List.forall_mem_cons.mpr ⟨lw_p53, List.forall_mem_cons.mpr ⟨lw_p54, List.forall_mem_cons.mpr ⟨lw_p55, List.forall_mem_cons.mpr ⟨lw_p56, List.forall_mem_cons.mpr ⟨lw_p57, List.forall_mem_cons.mpr ⟨lw_p58, List.forall_mem_cons.mpr ⟨lw_p59, List.forall_mem_cons.mpr ⟨lw_p60, List.forall_mem_cons.mpr ⟨lw_p61, List.forall_mem_cons.mpr ⟨lw_p62, List.forall_mem_cons.mpr ⟨lw_p63, fun _ h => absurd h List.not_mem_nil⟩⟩⟩⟩⟩⟩⟩⟩⟩⟩⟩⟩⟩⟩⟩⟩
theorem lw_p64 : lw_okq (⟨"java/lang/Throwable", "fillInStackTrace", "(I)Ljava/lang/Throwable;"⟩, 6) := ⟨⟨by decide +kernel, by decide +kernel⟩, List.mem_of_getElem? (i := 1411) (by decide +kernel), List.mem_of_getElem? (i := 1409) (by decide +kernel), List.mem_of_getElem? (i := 1410) (by decide +kernel)⟩
theorem lw_p65 : lw_okq (⟨"HandKnotModel", "refused", "(I)I"⟩, 41) := ⟨⟨by decide +kernel, by decide +kernel⟩, List.mem_of_getElem? (i := 1440) (by decide +kernel), List.mem_of_getElem? (i := 1582) (by decide +kernel), List.mem_of_getElem? (i := 1583) (by decide +kernel)⟩
theorem lw_p66 : lw_okq (⟨"HandKnotModel", "goesOn", "()V"⟩, 41) := ⟨⟨by decide +kernel, by decide +kernel⟩, List.mem_of_getElem? (i := 1440) (by decide +kernel), List.mem_of_getElem? (i := 1719) (by decide +kernel), List.mem_of_getElem? (i := 1720) (by decide +kernel)⟩
theorem lw_p67 : lw_okq (⟨"HandKnotModel", "byteAt", "(I)I"⟩, 41) := ⟨⟨by decide +kernel, by decide +kernel⟩, List.mem_of_getElem? (i := 1440) (by decide +kernel), List.mem_of_getElem? (i := 1723) (by decide +kernel), List.mem_of_getElem? (i := 1724) (by decide +kernel)⟩
theorem lw_p68 : lw_okq (⟨"HandKnotModel", "readAll", "()V"⟩, 41) := ⟨⟨by decide +kernel, by decide +kernel⟩, List.mem_of_getElem? (i := 1440) (by decide +kernel), List.mem_of_getElem? (i := 1734) (by decide +kernel), List.mem_of_getElem? (i := 1735) (by decide +kernel)⟩
theorem lw_p69 : lw_okq (⟨"HandKnotModel", "readLine", "()V"⟩, 41) := ⟨⟨by decide +kernel, by decide +kernel⟩, List.mem_of_getElem? (i := 1440) (by decide +kernel), List.mem_of_getElem? (i := 1738) (by decide +kernel), List.mem_of_getElem? (i := 1739) (by decide +kernel)⟩
theorem lw_p70 : lw_okq (⟨"HandKnotModel", "isWord", "(Ljava/lang/String;)Z"⟩, 41) := ⟨⟨by decide +kernel, by decide +kernel⟩, List.mem_of_getElem? (i := 1440) (by decide +kernel), List.mem_of_getElem? (i := 1743) (by decide +kernel), List.mem_of_getElem? (i := 1744) (by decide +kernel)⟩
theorem lw_p71 : lw_okq (⟨"HandKnotModel", "readTangle", "()V"⟩, 41) := ⟨⟨by decide +kernel, by decide +kernel⟩, List.mem_of_getElem? (i := 1440) (by decide +kernel), List.mem_of_getElem? (i := 1752) (by decide +kernel), List.mem_of_getElem? (i := 1753) (by decide +kernel)⟩
theorem lw_p72 : lw_okq (⟨"HandKnotModel", "flaw", "(I)V"⟩, 41) := ⟨⟨by decide +kernel, by decide +kernel⟩, List.mem_of_getElem? (i := 1440) (by decide +kernel), List.mem_of_getElem? (i := 1756) (by decide +kernel), List.mem_of_getElem? (i := 1757) (by decide +kernel)⟩
theorem lw_p73 : lw_okq (⟨"HandKnotModel", "readPart", "(Ljava/lang/String;II)I"⟩, 41) := ⟨⟨by decide +kernel, by decide +kernel⟩, List.mem_of_getElem? (i := 1440) (by decide +kernel), List.mem_of_getElem? (i := 1761) (by decide +kernel), List.mem_of_getElem? (i := 1762) (by decide +kernel)⟩
theorem lw_p74 : lw_okq (⟨"HandKnotModel", "needs", "(Ljava/lang/String;)V"⟩, 41) := ⟨⟨by decide +kernel, by decide +kernel⟩, List.mem_of_getElem? (i := 1440) (by decide +kernel), List.mem_of_getElem? (i := 1765) (by decide +kernel), List.mem_of_getElem? (i := 1766) (by decide +kernel)⟩
theorem lw_p75 : lw_okq (⟨"HandKnotModel", "bounded", "(II)I"⟩, 41) := ⟨⟨by decide +kernel, by decide +kernel⟩, List.mem_of_getElem? (i := 1440) (by decide +kernel), List.mem_of_getElem? (i := 1769) (by decide +kernel), List.mem_of_getElem? (i := 1770) (by decide +kernel)⟩
theorem lw_p76 : lw_okq (⟨"HandKnotModel", "eatsWord", "(Ljava/lang/String;)Z"⟩, 41) := ⟨⟨by decide +kernel, by decide +kernel⟩, List.mem_of_getElem? (i := 1440) (by decide +kernel), List.mem_of_getElem? (i := 1777) (by decide +kernel), List.mem_of_getElem? (i := 1778) (by decide +kernel)⟩
theorem lw_p77 : lw_okq (⟨"HandKnotModel", "readPerson", "()V"⟩, 41) := ⟨⟨by decide +kernel, by decide +kernel⟩, List.mem_of_getElem? (i := 1440) (by decide +kernel), List.mem_of_getElem? (i := 1782) (by decide +kernel), List.mem_of_getElem? (i := 1783) (by decide +kernel)⟩
theorem lw_p78 : lw_okq (⟨"HandKnotModel", "begins", "(II)V"⟩, 41) := ⟨⟨by decide +kernel, by decide +kernel⟩, List.mem_of_getElem? (i := 1440) (by decide +kernel), List.mem_of_getElem? (i := 1786) (by decide +kernel), List.mem_of_getElem? (i := 1787) (by decide +kernel)⟩
theorem lw_p79 : lw_okq (⟨"HandKnotModel", "readFresh", "()J"⟩, 41) := ⟨⟨by decide +kernel, by decide +kernel⟩, List.mem_of_getElem? (i := 1440) (by decide +kernel), List.mem_of_getElem? (i := 1790) (by decide +kernel), List.mem_of_getElem? (i := 1791) (by decide +kernel)⟩
def lw_privs_5 : List (MethodName × Nat) := [(⟨"java/lang/Throwable", "fillInStackTrace", "(I)Ljava/lang/Throwable;"⟩, 6), (⟨"HandKnotModel", "refused", "(I)I"⟩, 41), (⟨"HandKnotModel", "goesOn", "()V"⟩, 41), (⟨"HandKnotModel", "byteAt", "(I)I"⟩, 41), (⟨"HandKnotModel", "readAll", "()V"⟩, 41), (⟨"HandKnotModel", "readLine", "()V"⟩, 41), (⟨"HandKnotModel", "isWord", "(Ljava/lang/String;)Z"⟩, 41), (⟨"HandKnotModel", "readTangle", "()V"⟩, 41), (⟨"HandKnotModel", "flaw", "(I)V"⟩, 41), (⟨"HandKnotModel", "readPart", "(Ljava/lang/String;II)I"⟩, 41), (⟨"HandKnotModel", "needs", "(Ljava/lang/String;)V"⟩, 41), (⟨"HandKnotModel", "bounded", "(II)I"⟩, 41), (⟨"HandKnotModel", "eatsWord", "(Ljava/lang/String;)Z"⟩, 41), (⟨"HandKnotModel", "readPerson", "()V"⟩, 41), (⟨"HandKnotModel", "begins", "(II)V"⟩, 41), (⟨"HandKnotModel", "readFresh", "()J"⟩, 41)]
theorem lw_r5 : ∀ q ∈ lw_privs_5, lw_okq q := List.forall_mem_cons.mpr ⟨lw_p64, List.forall_mem_cons.mpr ⟨lw_p65, List.forall_mem_cons.mpr ⟨lw_p66, List.forall_mem_cons.mpr ⟨lw_p67, List.forall_mem_cons.mpr ⟨lw_p68, List.forall_mem_cons.mpr ⟨lw_p69, List.forall_mem_cons.mpr ⟨lw_p70, List.forall_mem_cons.mpr ⟨lw_p71, List.forall_mem_cons.mpr ⟨lw_p72, List.forall_mem_cons.mpr ⟨lw_p73, List.forall_mem_cons.mpr ⟨lw_p74, List.forall_mem_cons.mpr ⟨lw_p75, List.forall_mem_cons.mpr ⟨lw_p76, List.forall_mem_cons.mpr ⟨lw_p77, List.forall_mem_cons.mpr ⟨lw_p78, List.forall_mem_cons.mpr ⟨lw_p79, fun _ h => absurd h List.not_mem_nil⟩⟩⟩⟩⟩⟩⟩⟩⟩⟩⟩⟩⟩⟩⟩⟩
theorem lw_p80 : lw_okq (⟨"HandKnotModel", "isName", "()Z"⟩, 41) := ⟨⟨by decide +kernel, by decide +kernel⟩, List.mem_of_getElem? (i := 1440) (by decide +kernel), List.mem_of_getElem? (i := 1794) (by decide +kernel), List.mem_of_getElem? (i := 1795) (by decide +kernel)⟩
theorem lw_p81 : lw_okq (⟨"HandKnotModel", "names", "(JII)V"⟩, 41) := ⟨⟨by decide +kernel, by decide +kernel⟩, List.mem_of_getElem? (i := 1440) (by decide +kernel), List.mem_of_getElem? (i := 1804) (by decide +kernel), List.mem_of_getElem? (i := 1805) (by decide +kernel)⟩
theorem lw_p82 : lw_okq (⟨"HandKnotModel", "readHold", "()V"⟩, 41) := ⟨⟨by decide +kernel, by decide +kernel⟩, List.mem_of_getElem? (i := 1440) (by decide +kernel), List.mem_of_getElem? (i := 1808) (by decide +kernel), List.mem_of_getElem? (i := 1809) (by decide +kernel)⟩
theorem lw_p83 : lw_okq (⟨"HandKnotModel", "known", "(I)I"⟩, 41) := ⟨⟨by decide +kernel, by decide +kernel⟩, List.mem_of_getElem? (i := 1440) (by decide +kernel), List.mem_of_getElem? (i := 1812) (by decide +kernel), List.mem_of_getElem? (i := 1813) (by decide +kernel)⟩
theorem lw_p84 : lw_okq (⟨"HandKnotModel", "readHand", "(I)I"⟩, 41) := ⟨⟨by decide +kernel, by decide +kernel⟩, List.mem_of_getElem? (i := 1440) (by decide +kernel), List.mem_of_getElem? (i := 1816) (by decide +kernel), List.mem_of_getElem? (i := 1817) (by decide +kernel)⟩
theorem lw_p85 : lw_okq (⟨"HandKnotModel", "isHeld", "(II)Z"⟩, 41) := ⟨⟨by decide +kernel, by decide +kernel⟩, List.mem_of_getElem? (i := 1440) (by decide +kernel), List.mem_of_getElem? (i := 1822) (by decide +kernel), List.mem_of_getElem? (i := 1823) (by decide +kernel)⟩
theorem lw_p86 : lw_okq (⟨"HandKnotModel", "readCross", "()V"⟩, 41) := ⟨⟨by decide +kernel, by decide +kernel⟩, List.mem_of_getElem? (i := 1440) (by decide +kernel), List.mem_of_getElem? (i := 1826) (by decide +kernel), List.mem_of_getElem? (i := 1827) (by decide +kernel)⟩
theorem lw_p87 : lw_okq (⟨"HandKnotModel", "readPlace", "(II)I"⟩, 41) := ⟨⟨by decide +kernel, by decide +kernel⟩, List.mem_of_getElem? (i := 1440) (by decide +kernel), List.mem_of_getElem? (i := 1830) (by decide +kernel), List.mem_of_getElem? (i := 1831) (by decide +kernel)⟩
theorem lw_p88 : lw_okq (⟨"HandKnotModel", "eatsSemicolon", "()Z"⟩, 41) := ⟨⟨by decide +kernel, by decide +kernel⟩, List.mem_of_getElem? (i := 1440) (by decide +kernel), List.mem_of_getElem? (i := 1837) (by decide +kernel), List.mem_of_getElem? (i := 1838) (by decide +kernel)⟩
theorem lw_p89 : lw_okq (⟨"HandKnotModel$Tangle", "laysRing", "(I)V"⟩, 32) := ⟨⟨by decide +kernel, by decide +kernel⟩, List.mem_of_getElem? (i := 1586) (by decide +kernel), List.mem_of_getElem? (i := 1845) (by decide +kernel), List.mem_of_getElem? (i := 1846) (by decide +kernel)⟩
theorem lw_p90 : lw_okq (⟨"HandKnotModel$Tangle", "laysStandings", "(I)V"⟩, 32) := ⟨⟨by decide +kernel, by decide +kernel⟩, List.mem_of_getElem? (i := 1586) (by decide +kernel), List.mem_of_getElem? (i := 1849) (by decide +kernel), List.mem_of_getElem? (i := 1850) (by decide +kernel)⟩
theorem lw_p91 : lw_okq (⟨"HandKnotModel$Tangle", "stands", "(II)V"⟩, 32) := ⟨⟨by decide +kernel, by decide +kernel⟩, List.mem_of_getElem? (i := 1586) (by decide +kernel), List.mem_of_getElem? (i := 1853) (by decide +kernel), List.mem_of_getElem? (i := 1854) (by decide +kernel)⟩
theorem lw_p92 : lw_okq (⟨"HandKnotModel", "good", "(I)I"⟩, 41) := ⟨⟨by decide +kernel, by decide +kernel⟩, List.mem_of_getElem? (i := 1440) (by decide +kernel), List.mem_of_getElem? (i := 1861) (by decide +kernel), List.mem_of_getElem? (i := 1862) (by decide +kernel)⟩
theorem lw_p93 : lw_okq (⟨"HandKnotModel", "isPerson", "(I)Z"⟩, 41) := ⟨⟨by decide +kernel, by decide +kernel⟩, List.mem_of_getElem? (i := 1440) (by decide +kernel), List.mem_of_getElem? (i := 1877) (by decide +kernel), List.mem_of_getElem? (i := 1878) (by decide +kernel)⟩
theorem lw_p94 : lw_okq (⟨"HandKnotModel", "isRing", "(I)Z"⟩, 41) := ⟨⟨by decide +kernel, by decide +kernel⟩, List.mem_of_getElem? (i := 1440) (by decide +kernel), List.mem_of_getElem? (i := 1885) (by decide +kernel), List.mem_of_getElem? (i := 1886) (by decide +kernel)⟩
theorem lw_p95 : lw_okq (⟨"HandKnotModel", "isLink", "(I)Z"⟩, 41) := ⟨⟨by decide +kernel, by decide +kernel⟩, List.mem_of_getElem? (i := 1440) (by decide +kernel), List.mem_of_getElem? (i := 1902) (by decide +kernel), List.mem_of_getElem? (i := 1903) (by decide +kernel)⟩
def lw_privs_6 : List (MethodName × Nat) := [(⟨"HandKnotModel", "isName", "()Z"⟩, 41), (⟨"HandKnotModel", "names", "(JII)V"⟩, 41), (⟨"HandKnotModel", "readHold", "()V"⟩, 41), (⟨"HandKnotModel", "known", "(I)I"⟩, 41), (⟨"HandKnotModel", "readHand", "(I)I"⟩, 41), (⟨"HandKnotModel", "isHeld", "(II)Z"⟩, 41), (⟨"HandKnotModel", "readCross", "()V"⟩, 41), (⟨"HandKnotModel", "readPlace", "(II)I"⟩, 41), (⟨"HandKnotModel", "eatsSemicolon", "()Z"⟩, 41), (⟨"HandKnotModel$Tangle", "laysRing", "(I)V"⟩, 32), (⟨"HandKnotModel$Tangle", "laysStandings", "(I)V"⟩, 32), (⟨"HandKnotModel$Tangle", "stands", "(II)V"⟩, 32), (⟨"HandKnotModel", "good", "(I)I"⟩, 41), (⟨"HandKnotModel", "isPerson", "(I)Z"⟩, 41), (⟨"HandKnotModel", "isRing", "(I)Z"⟩, 41), (⟨"HandKnotModel", "isLink", "(I)Z"⟩, 41)]
theorem lw_r6 : ∀ q ∈ lw_privs_6, lw_okq q := List.forall_mem_cons.mpr ⟨lw_p80, List.forall_mem_cons.mpr ⟨lw_p81, List.forall_mem_cons.mpr ⟨lw_p82, List.forall_mem_cons.mpr ⟨lw_p83, List.forall_mem_cons.mpr ⟨lw_p84, List.forall_mem_cons.mpr ⟨lw_p85, List.forall_mem_cons.mpr ⟨lw_p86, List.forall_mem_cons.mpr ⟨lw_p87, List.forall_mem_cons.mpr ⟨lw_p88, List.forall_mem_cons.mpr ⟨lw_p89, List.forall_mem_cons.mpr ⟨lw_p90, List.forall_mem_cons.mpr ⟨lw_p91, List.forall_mem_cons.mpr ⟨lw_p92, List.forall_mem_cons.mpr ⟨lw_p93, List.forall_mem_cons.mpr ⟨lw_p94, List.forall_mem_cons.mpr ⟨lw_p95, fun _ h => absurd h List.not_mem_nil⟩⟩⟩⟩⟩⟩⟩⟩⟩⟩⟩⟩⟩⟩⟩⟩
theorem lw_p96 : lw_okq (⟨"HandKnotModel", "isStanding", "(I)Z"⟩, 41) := ⟨⟨by decide +kernel, by decide +kernel⟩, List.mem_of_getElem? (i := 1440) (by decide +kernel), List.mem_of_getElem? (i := 1910) (by decide +kernel), List.mem_of_getElem? (i := 1911) (by decide +kernel)⟩
theorem lw_p97 : lw_okq (⟨"HandKnotModel", "lost", "(I)I"⟩, 41) := ⟨⟨by decide +kernel, by decide +kernel⟩, List.mem_of_getElem? (i := 1440) (by decide +kernel), List.mem_of_getElem? (i := 1926) (by decide +kernel), List.mem_of_getElem? (i := 1927) (by decide +kernel)⟩
theorem lw_p98 : lw_okq (⟨"HandKnotModel", "isLeft", "(I)Z"⟩, 41) := ⟨⟨by decide +kernel, by decide +kernel⟩, List.mem_of_getElem? (i := 1440) (by decide +kernel), List.mem_of_getElem? (i := 1930) (by decide +kernel), List.mem_of_getElem? (i := 1931) (by decide +kernel)⟩
theorem lw_p99 : lw_okq (⟨"HandKnotModel", "looks", "(J)V"⟩, 41) := ⟨⟨by decide +kernel, by decide +kernel⟩, List.mem_of_getElem? (i := 1440) (by decide +kernel), List.mem_of_getElem? (i := 1934) (by decide +kernel), List.mem_of_getElem? (i := 1935) (by decide +kernel)⟩
theorem lw_p100 : lw_okq (⟨"HandKnotModel", "nextFrom", "(JI)I"⟩, 41) := ⟨⟨by decide +kernel, by decide +kernel⟩, List.mem_of_getElem? (i := 1440) (by decide +kernel), List.mem_of_getElem? (i := 1938) (by decide +kernel), List.mem_of_getElem? (i := 1939) (by decide +kernel)⟩
theorem lw_p101 : lw_okq (⟨"HandKnotModel", "isOpen", "(III)Z"⟩, 41) := ⟨⟨by decide +kernel, by decide +kernel⟩, List.mem_of_getElem? (i := 1440) (by decide +kernel), List.mem_of_getElem? (i := 1942) (by decide +kernel), List.mem_of_getElem? (i := 1943) (by decide +kernel)⟩
theorem lw_p102 : lw_okq (⟨"HandKnotModel", "signNow", "(I)I"⟩, 41) := ⟨⟨by decide +kernel, by decide +kernel⟩, List.mem_of_getElem? (i := 1440) (by decide +kernel), List.mem_of_getElem? (i := 1946) (by decide +kernel), List.mem_of_getElem? (i := 1947) (by decide +kernel)⟩
theorem lw_p103 : lw_okq (⟨"HandKnotModel", "leftIn", "(J)I"⟩, 41) := ⟨⟨by decide +kernel, by decide +kernel⟩, List.mem_of_getElem? (i := 1440) (by decide +kernel), List.mem_of_getElem? (i := 1958) (by decide +kernel), List.mem_of_getElem? (i := 1959) (by decide +kernel)⟩
theorem lw_p104 : lw_okq (⟨"HandKnotModel", "isMove", "(I)Z"⟩, 41) := ⟨⟨by decide +kernel, by decide +kernel⟩, List.mem_of_getElem? (i := 1440) (by decide +kernel), List.mem_of_getElem? (i := 1970) (by decide +kernel), List.mem_of_getElem? (i := 1971) (by decide +kernel)⟩
theorem lw_p105 : lw_okq (⟨"HandKnotModel", "mayMove", "(I)Z"⟩, 41) := ⟨⟨by decide +kernel, by decide +kernel⟩, List.mem_of_getElem? (i := 1440) (by decide +kernel), List.mem_of_getElem? (i := 1977) (by decide +kernel), List.mem_of_getElem? (i := 1978) (by decide +kernel)⟩
theorem lw_p106 : lw_okq (⟨"HandKnotModel", "can", "(I)Z"⟩, 41) := ⟨⟨by decide +kernel, by decide +kernel⟩, List.mem_of_getElem? (i := 1440) (by decide +kernel), List.mem_of_getElem? (i := 1981) (by decide +kernel), List.mem_of_getElem? (i := 1982) (by decide +kernel)⟩
theorem lw_p107 : lw_okq (⟨"HandKnotModel", "areBeside", "(II)Z"⟩, 41) := ⟨⟨by decide +kernel, by decide +kernel⟩, List.mem_of_getElem? (i := 1440) (by decide +kernel), List.mem_of_getElem? (i := 1985) (by decide +kernel), List.mem_of_getElem? (i := 1986) (by decide +kernel)⟩
theorem lw_p108 : lw_okq (⟨"HandKnotModel", "goerOf", "(I)I"⟩, 41) := ⟨⟨by decide +kernel, by decide +kernel⟩, List.mem_of_getElem? (i := 1440) (by decide +kernel), List.mem_of_getElem? (i := 1989) (by decide +kernel), List.mem_of_getElem? (i := 1990) (by decide +kernel)⟩
theorem lw_p109 : lw_okq (⟨"HandKnotModel", "nextMay", "(I)I"⟩, 41) := ⟨⟨by decide +kernel, by decide +kernel⟩, List.mem_of_getElem? (i := 1440) (by decide +kernel), List.mem_of_getElem? (i := 2001) (by decide +kernel), List.mem_of_getElem? (i := 2002) (by decide +kernel)⟩
theorem lw_p110 : lw_okq (⟨"HandKnotModel", "nextMove", "(I)I"⟩, 41) := ⟨⟨by decide +kernel, by decide +kernel⟩, List.mem_of_getElem? (i := 1440) (by decide +kernel), List.mem_of_getElem? (i := 2005) (by decide +kernel), List.mem_of_getElem? (i := 2006) (by decide +kernel)⟩
theorem lw_p111 : lw_okq (⟨"HandKnotModel", "fewestFrom", "(JI)I"⟩, 41) := ⟨⟨by decide +kernel, by decide +kernel⟩, List.mem_of_getElem? (i := 1440) (by decide +kernel), List.mem_of_getElem? (i := 2017) (by decide +kernel), List.mem_of_getElem? (i := 2018) (by decide +kernel)⟩
def lw_privs_7 : List (MethodName × Nat) := [(⟨"HandKnotModel", "isStanding", "(I)Z"⟩, 41), (⟨"HandKnotModel", "lost", "(I)I"⟩, 41), (⟨"HandKnotModel", "isLeft", "(I)Z"⟩, 41), (⟨"HandKnotModel", "looks", "(J)V"⟩, 41), (⟨"HandKnotModel", "nextFrom", "(JI)I"⟩, 41), (⟨"HandKnotModel", "isOpen", "(III)Z"⟩, 41), (⟨"HandKnotModel", "signNow", "(I)I"⟩, 41), (⟨"HandKnotModel", "leftIn", "(J)I"⟩, 41), (⟨"HandKnotModel", "isMove", "(I)Z"⟩, 41), (⟨"HandKnotModel", "mayMove", "(I)Z"⟩, 41), (⟨"HandKnotModel", "can", "(I)Z"⟩, 41), (⟨"HandKnotModel", "areBeside", "(II)Z"⟩, 41), (⟨"HandKnotModel", "goerOf", "(I)I"⟩, 41), (⟨"HandKnotModel", "nextMay", "(I)I"⟩, 41), (⟨"HandKnotModel", "nextMove", "(I)I"⟩, 41), (⟨"HandKnotModel", "fewestFrom", "(JI)I"⟩, 41)]
theorem lw_r7 : ∀ q ∈ lw_privs_7, lw_okq q := List.forall_mem_cons.mpr ⟨lw_p96, List.forall_mem_cons.mpr ⟨lw_p97, List.forall_mem_cons.mpr ⟨lw_p98, List.forall_mem_cons.mpr ⟨lw_p99, List.forall_mem_cons.mpr ⟨lw_p100, List.forall_mem_cons.mpr ⟨lw_p101, List.forall_mem_cons.mpr ⟨lw_p102, List.forall_mem_cons.mpr ⟨lw_p103, List.forall_mem_cons.mpr ⟨lw_p104, List.forall_mem_cons.mpr ⟨lw_p105, List.forall_mem_cons.mpr ⟨lw_p106, List.forall_mem_cons.mpr ⟨lw_p107, List.forall_mem_cons.mpr ⟨lw_p108, List.forall_mem_cons.mpr ⟨lw_p109, List.forall_mem_cons.mpr ⟨lw_p110, List.forall_mem_cons.mpr ⟨lw_p111, fun _ h => absurd h List.not_mem_nil⟩⟩⟩⟩⟩⟩⟩⟩⟩⟩⟩⟩⟩⟩⟩⟩
theorem lw_p112 : lw_okq (⟨"HandKnotModel", "comes", "(J)Z"⟩, 41) := ⟨⟨by decide +kernel, by decide +kernel⟩, List.mem_of_getElem? (i := 1440) (by decide +kernel), List.mem_of_getElem? (i := 2021) (by decide +kernel), List.mem_of_getElem? (i := 2022) (by decide +kernel)⟩
theorem lw_p113 : lw_okq (⟨"HandKnotModel", "goesOnFrom", "(J)Z"⟩, 41) := ⟨⟨by decide +kernel, by decide +kernel⟩, List.mem_of_getElem? (i := 1440) (by decide +kernel), List.mem_of_getElem? (i := 2027) (by decide +kernel), List.mem_of_getElem? (i := 2028) (by decide +kernel)⟩
theorem lw_p114 : lw_okq (⟨"HandKnotModel", "behind", "(JI)J"⟩, 41) := ⟨⟨by decide +kernel, by decide +kernel⟩, List.mem_of_getElem? (i := 1440) (by decide +kernel), List.mem_of_getElem? (i := 2031) (by decide +kernel), List.mem_of_getElem? (i := 2032) (by decide +kernel)⟩
theorem lw_p115 : lw_okq (⟨"HandKnotModel", "without", "(JI)J"⟩, 41) := ⟨⟨by decide +kernel, by decide +kernel⟩, List.mem_of_getElem? (i := 1440) (by decide +kernel), List.mem_of_getElem? (i := 2035) (by decide +kernel), List.mem_of_getElem? (i := 2036) (by decide +kernel)⟩
theorem lw_p116 : lw_okq (⟨"HandKnotModel", "changed", "(JII)J"⟩, 41) := ⟨⟨by decide +kernel, by decide +kernel⟩, List.mem_of_getElem? (i := 1440) (by decide +kernel), List.mem_of_getElem? (i := 2043) (by decide +kernel), List.mem_of_getElem? (i := 2044) (by decide +kernel)⟩
theorem lw_p117 : lw_okq (⟨"HandKnotModel", "callerNow", "()I"⟩, 41) := ⟨⟨by decide +kernel, by decide +kernel⟩, List.mem_of_getElem? (i := 1440) (by decide +kernel), List.mem_of_getElem? (i := 2055) (by decide +kernel), List.mem_of_getElem? (i := 2056) (by decide +kernel)⟩
theorem lw_p118 : lw_okq (⟨"HandKnotModel", "leastBehind", "(J)I"⟩, 41) := ⟨⟨by decide +kernel, by decide +kernel⟩, List.mem_of_getElem? (i := 1440) (by decide +kernel), List.mem_of_getElem? (i := 2059) (by decide +kernel), List.mem_of_getElem? (i := 2060) (by decide +kernel)⟩
theorem lw_p119 : lw_okq (⟨"HandKnotModel", "hangNow", "(II)I"⟩, 41) := ⟨⟨by decide +kernel, by decide +kernel⟩, List.mem_of_getElem? (i := 1440) (by decide +kernel), List.mem_of_getElem? (i := 2067) (by decide +kernel), List.mem_of_getElem? (i := 2068) (by decide +kernel)⟩
theorem lw_p120 : lw_okq (⟨"HandKnotModel", "coloursNow", "(I)I"⟩, 41) := ⟨⟨by decide +kernel, by decide +kernel⟩, List.mem_of_getElem? (i := 1440) (by decide +kernel), List.mem_of_getElem? (i := 2075) (by decide +kernel), List.mem_of_getElem? (i := 2076) (by decide +kernel)⟩
theorem lw_p121 : lw_okq (⟨"HandKnotModel", "laysArcs", "()V"⟩, 41) := ⟨⟨by decide +kernel, by decide +kernel⟩, List.mem_of_getElem? (i := 1440) (by decide +kernel), List.mem_of_getElem? (i := 2079) (by decide +kernel), List.mem_of_getElem? (i := 2080) (by decide +kernel)⟩
theorem lw_p122 : lw_okq (⟨"HandKnotModel", "laysArcsOf", "(IZ)V"⟩, 41) := ⟨⟨by decide +kernel, by decide +kernel⟩, List.mem_of_getElem? (i := 1440) (by decide +kernel), List.mem_of_getElem? (i := 2083) (by decide +kernel), List.mem_of_getElem? (i := 2084) (by decide +kernel)⟩
theorem lw_p123 : lw_okq (⟨"HandKnotModel", "adds", "(IIII)V"⟩, 41) := ⟨⟨by decide +kernel, by decide +kernel⟩, List.mem_of_getElem? (i := 1440) (by decide +kernel), List.mem_of_getElem? (i := 2087) (by decide +kernel), List.mem_of_getElem? (i := 2088) (by decide +kernel)⟩
theorem lw_p124 : lw_okq (⟨"HandKnotModel", "partedFrom", "(JI)J"⟩, 41) := ⟨⟨by decide +kernel, by decide +kernel⟩, List.mem_of_getElem? (i := 1440) (by decide +kernel), List.mem_of_getElem? (i := 2102) (by decide +kernel), List.mem_of_getElem? (i := 2103) (by decide +kernel)⟩
theorem lw_p125 : lw_okq (⟨"HandKnotModel", "liftedFrom", "(JI)J"⟩, 41) := ⟨⟨by decide +kernel, by decide +kernel⟩, List.mem_of_getElem? (i := 1440) (by decide +kernel), List.mem_of_getElem? (i := 2110) (by decide +kernel), List.mem_of_getElem? (i := 2111) (by decide +kernel)⟩
theorem lw_p126 : lw_okq (⟨"HandKnotModel", "isCrossing", "(I)Z"⟩, 41) := ⟨⟨by decide +kernel, by decide +kernel⟩, List.mem_of_getElem? (i := 1440) (by decide +kernel), List.mem_of_getElem? (i := 2118) (by decide +kernel), List.mem_of_getElem? (i := 2119) (by decide +kernel)⟩
theorem lw_p127 : lw_okq (⟨"HandKnotModel", "keeps", "()V"⟩, 41) := ⟨⟨by decide +kernel, by decide +kernel⟩, List.mem_of_getElem? (i := 1440) (by decide +kernel), List.mem_of_getElem? (i := 2122) (by decide +kernel), List.mem_of_getElem? (i := 2123) (by decide +kernel)⟩
def lw_privs_8 : List (MethodName × Nat) := [(⟨"HandKnotModel", "comes", "(J)Z"⟩, 41), (⟨"HandKnotModel", "goesOnFrom", "(J)Z"⟩, 41), (⟨"HandKnotModel", "behind", "(JI)J"⟩, 41), (⟨"HandKnotModel", "without", "(JI)J"⟩, 41), (⟨"HandKnotModel", "changed", "(JII)J"⟩, 41), (⟨"HandKnotModel", "callerNow", "()I"⟩, 41), (⟨"HandKnotModel", "leastBehind", "(J)I"⟩, 41), (⟨"HandKnotModel", "hangNow", "(II)I"⟩, 41), (⟨"HandKnotModel", "coloursNow", "(I)I"⟩, 41), (⟨"HandKnotModel", "laysArcs", "()V"⟩, 41), (⟨"HandKnotModel", "laysArcsOf", "(IZ)V"⟩, 41), (⟨"HandKnotModel", "adds", "(IIII)V"⟩, 41), (⟨"HandKnotModel", "partedFrom", "(JI)J"⟩, 41), (⟨"HandKnotModel", "liftedFrom", "(JI)J"⟩, 41), (⟨"HandKnotModel", "isCrossing", "(I)Z"⟩, 41), (⟨"HandKnotModel", "keeps", "()V"⟩, 41)]
theorem lw_r8 : ∀ q ∈ lw_privs_8, lw_okq q := List.forall_mem_cons.mpr ⟨lw_p112, List.forall_mem_cons.mpr ⟨lw_p113, List.forall_mem_cons.mpr ⟨lw_p114, List.forall_mem_cons.mpr ⟨lw_p115, List.forall_mem_cons.mpr ⟨lw_p116, List.forall_mem_cons.mpr ⟨lw_p117, List.forall_mem_cons.mpr ⟨lw_p118, List.forall_mem_cons.mpr ⟨lw_p119, List.forall_mem_cons.mpr ⟨lw_p120, List.forall_mem_cons.mpr ⟨lw_p121, List.forall_mem_cons.mpr ⟨lw_p122, List.forall_mem_cons.mpr ⟨lw_p123, List.forall_mem_cons.mpr ⟨lw_p124, List.forall_mem_cons.mpr ⟨lw_p125, List.forall_mem_cons.mpr ⟨lw_p126, List.forall_mem_cons.mpr ⟨lw_p127, fun _ h => absurd h List.not_mem_nil⟩⟩⟩⟩⟩⟩⟩⟩⟩⟩⟩⟩⟩⟩⟩⟩
theorem lw_p128 : lw_okq (⟨"HandKnotModel", "comesAll", "(I)Z"⟩, 41) := ⟨⟨by decide +kernel, by decide +kernel⟩, List.mem_of_getElem? (i := 1440) (by decide +kernel), List.mem_of_getElem? (i := 2138) (by decide +kernel), List.mem_of_getElem? (i := 2139) (by decide +kernel)⟩
theorem lw_p129 : lw_okq (⟨"HandKnotModel", "seesIn", "(JI)I"⟩, 41) := ⟨⟨by decide +kernel, by decide +kernel⟩, List.mem_of_getElem? (i := 1440) (by decide +kernel), List.mem_of_getElem? (i := 2150) (by decide +kernel), List.mem_of_getElem? (i := 2151) (by decide +kernel)⟩
theorem lw_p130 : lw_okq (⟨"HandKnotModel", "ownIn", "(JI)I"⟩, 41) := ⟨⟨by decide +kernel, by decide +kernel⟩, List.mem_of_getElem? (i := 1440) (by decide +kernel), List.mem_of_getElem? (i := 2158) (by decide +kernel), List.mem_of_getElem? (i := 2159) (by decide +kernel)⟩
theorem lw_p131 : lw_okq (⟨"HandKnotModel", "lotFrom", "(J)J"⟩, 41) := ⟨⟨by decide +kernel, by decide +kernel⟩, List.mem_of_getElem? (i := 1440) (by decide +kernel), List.mem_of_getElem? (i := 2174) (by decide +kernel), List.mem_of_getElem? (i := 2175) (by decide +kernel)⟩
theorem lw_p132 : lw_okq (⟨"HandKnotModel", "laysWays", "(IZ)V"⟩, 41) := ⟨⟨by decide +kernel, by decide +kernel⟩, List.mem_of_getElem? (i := 1440) (by decide +kernel), List.mem_of_getElem? (i := 2185) (by decide +kernel), List.mem_of_getElem? (i := 2186) (by decide +kernel)⟩
theorem lw_p133 : lw_okq (⟨"HandKnotModel", "waysNow", "(II)J"⟩, 41) := ⟨⟨by decide +kernel, by decide +kernel⟩, List.mem_of_getElem? (i := 1440) (by decide +kernel), List.mem_of_getElem? (i := 2193) (by decide +kernel), List.mem_of_getElem? (i := 2194) (by decide +kernel)⟩
theorem lw_p134 : lw_okq (⟨"HandKnotModel", "allWays", "(I)J"⟩, 41) := ⟨⟨by decide +kernel, by decide +kernel⟩, List.mem_of_getElem? (i := 1440) (by decide +kernel), List.mem_of_getElem? (i := 2201) (by decide +kernel), List.mem_of_getElem? (i := 2202) (by decide +kernel)⟩
theorem lw_p135 : lw_okq (⟨"HandKnotModel", "told", "(JJZ)J"⟩, 41) := ⟨⟨by decide +kernel, by decide +kernel⟩, List.mem_of_getElem? (i := 1440) (by decide +kernel), List.mem_of_getElem? (i := 2205) (by decide +kernel), List.mem_of_getElem? (i := 2206) (by decide +kernel)⟩
theorem lw_p136 : lw_okq (⟨"HandKnotModel", "denied", "(I)Z"⟩, 41) := ⟨⟨by decide +kernel, by decide +kernel⟩, List.mem_of_getElem? (i := 1440) (by decide +kernel), List.mem_of_getElem? (i := 2233) (by decide +kernel), List.mem_of_getElem? (i := 2234) (by decide +kernel)⟩
theorem lw_p137 : lw_okq (⟨"HandKnotModel", "granted", "()Z"⟩, 41) := ⟨⟨by decide +kernel, by decide +kernel⟩, List.mem_of_getElem? (i := 1440) (by decide +kernel), List.mem_of_getElem? (i := 2237) (by decide +kernel), List.mem_of_getElem? (i := 2238) (by decide +kernel)⟩
def lw_privs_9 : List (MethodName × Nat) := [(⟨"HandKnotModel", "comesAll", "(I)Z"⟩, 41), (⟨"HandKnotModel", "seesIn", "(JI)I"⟩, 41), (⟨"HandKnotModel", "ownIn", "(JI)I"⟩, 41), (⟨"HandKnotModel", "lotFrom", "(J)J"⟩, 41), (⟨"HandKnotModel", "laysWays", "(IZ)V"⟩, 41), (⟨"HandKnotModel", "waysNow", "(II)J"⟩, 41), (⟨"HandKnotModel", "allWays", "(I)J"⟩, 41), (⟨"HandKnotModel", "told", "(JJZ)J"⟩, 41), (⟨"HandKnotModel", "denied", "(I)Z"⟩, 41), (⟨"HandKnotModel", "granted", "()Z"⟩, 41)]
theorem lw_r9 : ∀ q ∈ lw_privs_9, lw_okq q := List.forall_mem_cons.mpr ⟨lw_p128, List.forall_mem_cons.mpr ⟨lw_p129, List.forall_mem_cons.mpr ⟨lw_p130, List.forall_mem_cons.mpr ⟨lw_p131, List.forall_mem_cons.mpr ⟨lw_p132, List.forall_mem_cons.mpr ⟨lw_p133, List.forall_mem_cons.mpr ⟨lw_p134, List.forall_mem_cons.mpr ⟨lw_p135, List.forall_mem_cons.mpr ⟨lw_p136, List.forall_mem_cons.mpr ⟨lw_p137, fun _ h => absurd h List.not_mem_nil⟩⟩⟩⟩⟩⟩⟩⟩⟩⟩
def lw_privs : List (MethodName × Nat) := lw_privs_1 ++ (lw_privs_2 ++ (lw_privs_3 ++ (lw_privs_4 ++ (lw_privs_5 ++ (lw_privs_6 ++ (lw_privs_7 ++ (lw_privs_8 ++ (lw_privs_9))))))))
def lw_tbl : List Cond := k2_sels lw_privs ++ tables_1
theorem lw_privs_ok : ∀ q ∈ lw_privs, lw_okq q := by
  show ∀ q ∈ lw_privs_1 ++ (lw_privs_2 ++ (lw_privs_3 ++ (lw_privs_4 ++ (lw_privs_5 ++ (lw_privs_6 ++ (lw_privs_7 ++ (lw_privs_8 ++ (lw_privs_9)))))))), lw_okq q
  exact List.forall_mem_append.mpr ⟨lw_r1, List.forall_mem_append.mpr ⟨lw_r2, List.forall_mem_append.mpr ⟨lw_r3, List.forall_mem_append.mpr ⟨lw_r4, List.forall_mem_append.mpr ⟨lw_r5, List.forall_mem_append.mpr ⟨lw_r6, List.forall_mem_append.mpr ⟨lw_r7, List.forall_mem_append.mpr ⟨lw_r8, lw_r9⟩⟩⟩⟩⟩⟩⟩⟩

/-! ===== BEGIN words of one list among another's, by their places ===== -/
theorem goodIn_r {big : List Cond} (ws : List Cond) (ps : List Nat) (hp : ws = ps.filterMap (fun i => big[i]?)) (h : ws.all goodWord = true) : GoodIn big ws := by
  intro w hw
  have h1 := List.all_eq_true.mp h w hw
  rw [hp] at hw
  obtain ⟨i, -, hi⟩ := List.mem_filterMap.mp hw
  have hm : w ∈ big := by first | exact List.mem_of_getElem? hi | exact List.getElem?_mem hi
  exact ⟨hm, good_of_word h1⟩
theorem goodIn_app {big a b : List Cond} (ha : GoodIn big a) (hb : GoodIn big b) : GoodIn big (a ++ b) := fun w h => (List.mem_append.mp h).elim (ha w) (hb w)
theorem goodIn_ca {big a b : List Cond} {c : Cond} (ha : GoodIn big (c :: a)) (hb : GoodIn big b) : GoodIn big (c :: (a ++ b)) := fun w h => (List.mem_cons.mp h).elim (fun e => ha w (List.mem_cons.mpr (Or.inl e))) (fun h => (List.mem_append.mp h).elim (fun h => ha w (List.mem_cons.mpr (Or.inr h))) (hb w))
theorem goodIn_sub {big ws : List Cond} (hm : ∀ w ∈ ws, w ∈ big) (h : ws.all goodWord = true) : GoodIn big ws := fun w hw => ⟨hm w hw, good_of_word (List.all_eq_true.mp h w hw)⟩
/-! ===== END ===== -/


def RX0 : String := "HandKnot$Board"
def TX0 : u_T := fun k => match k with
  | 0 => ("HandKnot$Board", "rings", "LHandKnot$Rings;", true)
  | 1 => ("HandKnot$Board", "key", "J", false)
  | 2 => ("HandKnot$Board", "plus", "I", false)
  | 3 => ("HandKnot$Board", "parted", "I", false)
  | 4 => ("HandKnot$Board", "left", "I", false)
  | 5 => ("HandKnot$Board", "standing", "[I", true)
  | 6 => ("HandKnot$Board", "walk", "[I", true)
  | 7 => ("HandKnot$Board", "walkStart", "[I", true)
  | 8 => ("HandKnot$Board", "overByOver", "[I", true)
  | 9 => ("HandKnot$Board", "overByUnder", "[I", true)
  | 10 => ("HandKnot$Board", "underByUnder", "[I", true)
  | 11 => ("HandKnot$Board", "numbers", "[I", true)
  | _ => ("HandKnot$Board", "count", "I", false)
def tyX0 : Nat → FieldType := fun k => match k with
  | 0 => .object "HandKnot$Rings"
  | 1 => .long
  | 2 => .int
  | 3 => .int
  | 4 => .int
  | 5 => .array .int
  | 6 => .array .int
  | 7 => .array .int
  | 8 => .array .int
  | 9 => .array .int
  | 10 => .array .int
  | 11 => .array .int
  | _ => .int
abbrev wsX00 : List Cond := u_ws RX0 TX0 13
theorem nmX0 : ∀ a, a < 13 → ∀ b, b < 13 → a ≠ b → (TX0 a).2.1 ≠ (TX0 b).2.1 := by decide +kernel
theorem tyX0_ok : ∀ k, k < 13 → parseFieldDescriptor (TX0 k).2.2.1 = some (tyX0 k) := by decide +kernel
abbrev cX0_init : ByteArray := prog_2_method_1_code
def yX0_init : MethodName := ⟨RX0, "<init>", "(LHandKnot$Rings;)V"⟩
abbrev cX0_isNumber : ByteArray := prog_2_method_2_code
def yX0_isNumber : MethodName := ⟨RX0, "isNumber", "(II)Z"⟩
abbrev cX0_firstOf : ByteArray := prog_2_method_3_code
def yX0_firstOf : MethodName := ⟨RX0, "firstOf", "(I)I"⟩
abbrev cX0_secondOf : ByteArray := prog_2_method_4_code
def yX0_secondOf : MethodName := ⟨RX0, "secondOf", "(I)I"⟩
abbrev cX0_thirdOf : ByteArray := prog_2_method_5_code
def yX0_thirdOf : MethodName := ⟨RX0, "thirdOf", "(I)I"⟩
abbrev cX0_touchedBy : ByteArray := prog_2_method_6_code
def yX0_touchedBy : MethodName := ⟨RX0, "touchedBy", "(I)I"⟩
abbrev cX0_lay : ByteArray := prog_2_method_7_code
def yX0_lay : MethodName := ⟨RX0, "lay", "(LHandKnot$Moment;)V"⟩
abbrev cX0_layOut : ByteArray := prog_2_method_8_code
def yX0_layOut : MethodName := ⟨RX0, "layOut", "(JII)V"⟩
abbrev cX0_isOpen : ByteArray := prog_2_method_9_code
def yX0_isOpen : MethodName := ⟨RX0, "isOpen", "(I)Z"⟩
abbrev cX0_walkRound : ByteArray := prog_2_method_10_code
def yX0_walkRound : MethodName := ⟨RX0, "walkRound", "(II)I"⟩
abbrev cX0_join : ByteArray := prog_2_method_11_code
def yX0_join : MethodName := ⟨RX0, "join", "(II)V"⟩
abbrev cX0_has : ByteArray := prog_2_method_12_code
def yX0_has : MethodName := ⟨RX0, "has", "(II)Z"⟩
abbrev cX0_isLeft : ByteArray := prog_2_method_13_code
def yX0_isLeft : MethodName := ⟨RX0, "isLeft", "(I)Z"⟩
abbrev cX0_signOf : ByteArray := prog_2_method_14_code
def yX0_signOf : MethodName := ⟨RX0, "signOf", "(I)I"⟩
abbrev cX0_ringOfPass : ByteArray := prog_2_method_15_code
def yX0_ringOfPass : MethodName := ⟨RX0, "ringOfPass", "(I)I"⟩
abbrev cX0_signsBetween : ByteArray := prog_2_method_16_code
def yX0_signsBetween : MethodName := ⟨RX0, "signsBetween", "(II)I"⟩
abbrev cX0_seenBy : ByteArray := prog_2_method_17_code
def yX0_seenBy : MethodName := ⟨RX0, "seenBy", "(I)I"⟩
abbrev cX0_listTurn : ByteArray := prog_2_method_18_code
def yX0_listTurn : MethodName := ⟨RX0, "listTurn", "(I)V"⟩
abbrev cX0_addNumber : ByteArray := prog_2_method_19_code
def yX0_addNumber : MethodName := ⟨RX0, "addNumber", "(I)V"⟩
abbrev cX0_slipsWith : ByteArray := prog_2_method_20_code
def yX0_slipsWith : MethodName := ⟨RX0, "slipsWith", "(I)I"⟩
abbrev cX0_listSlips : ByteArray := prog_2_method_21_code
def yX0_listSlips : MethodName := ⟨RX0, "listSlips", "(I)V"⟩
abbrev cX0_stepsWith : ByteArray := prog_2_method_22_code
def yX0_stepsWith : MethodName := ⟨RX0, "stepsWith", "(II)I"⟩
abbrev cX0_listSteps : ByteArray := prog_2_method_23_code
def yX0_listSteps : MethodName := ⟨RX0, "listSteps", "(I)V"⟩
abbrev cX0_lowLink : ByteArray := prog_2_method_24_code
def yX0_lowLink : MethodName := ⟨RX0, "lowLink", "(II)I"⟩
abbrev cX0_fits : ByteArray := prog_2_method_25_code
def yX0_fits : MethodName := ⟨RX0, "fits", "(II)Z"⟩
abbrev cX0_can : ByteArray := prog_2_method_26_code
def yX0_can : MethodName := ⟨RX0, "can", "(I)Z"⟩
abbrev cX0_goerLink : ByteArray := prog_2_method_27_code
def yX0_goerLink : MethodName := ⟨RX0, "goerLink", "(I)I"⟩
abbrev cX0_allows : ByteArray := prog_2_method_28_code
def yX0_allows : MethodName := ⟨RX0, "allows", "(I)Z"⟩
abbrev cX0_whoGoes : ByteArray := prog_2_method_29_code
def yX0_whoGoes : MethodName := ⟨RX0, "whoGoes", "(I)I"⟩
abbrev cX0_leftBehind : ByteArray := prog_2_method_30_code
def yX0_leftBehind : MethodName := ⟨RX0, "leftBehind", "(I)I"⟩
abbrev cX0_drawn : ByteArray := prog_2_method_31_code
def yX0_drawn : MethodName := ⟨RX0, "drawn", "(I)I"⟩
abbrev cX0_after : ByteArray := prog_2_method_32_code
def yX0_after : MethodName := ⟨RX0, "after", "(I)J"⟩
abbrev cX0_placesOf : ByteArray := prog_2_method_33_code
def yX0_placesOf : MethodName := ⟨RX0, "placesOf", "(I)J"⟩
abbrev cX0_exchange : ByteArray := prog_2_method_34_code
def yX0_exchange : MethodName := ⟨RX0, "exchange", "(II)J"⟩
abbrev cX0_make : ByteArray := prog_2_method_35_code
def yX0_make : MethodName := ⟨RX0, "make", "(I)V"⟩
def RX1 : String := "HandKnot$Chances"
def TX1 : u_T := fun k => match k with
  | 0 => ("HandKnot$Chances", "often", "[J", true)
  | 1 => ("HandKnot$Chances", "onlyOnce", "[J", true)
  | _ => ("HandKnot$Chances", "filled", "Z", false)
def tyX1 : Nat → FieldType := fun k => match k with
  | 0 => .array .long
  | 1 => .array .long
  | _ => .boolean
abbrev wsX10 : List Cond := u_ws RX1 TX1 3
theorem nmX1 : ∀ a, a < 3 → ∀ b, b < 3 → a ≠ b → (TX1 a).2.1 ≠ (TX1 b).2.1 := by decide +kernel
theorem tyX1_ok : ∀ k, k < 3 → parseFieldDescriptor (TX1 k).2.2.1 = some (tyX1 k) := by decide +kernel
abbrev cX1_init : ByteArray := prog_3_method_1_code
def yX1_init : MethodName := ⟨RX1, "<init>", "()V"⟩
abbrev cX1_isCrowd : ByteArray := prog_3_method_2_code
def yX1_isCrowd : MethodName := ⟨RX1, "isCrowd", "(I)Z"⟩
abbrev cX1_isRingCount : ByteArray := prog_3_method_3_code
def yX1_isRingCount : MethodName := ⟨RX1, "isRingCount", "(I)Z"⟩
abbrev cX1_waysInto : ByteArray := prog_3_method_4_code
def yX1_waysInto : MethodName := ⟨RX1, "waysInto", "(IIZ)J"⟩
abbrev cX1_allWays : ByteArray := prog_3_method_5_code
def yX1_allWays : MethodName := ⟨RX1, "allWays", "(IZ)J"⟩
abbrev cX1_allRings : ByteArray := prog_3_method_6_code
def yX1_allRings : MethodName := ⟨RX1, "allRings", "(IZ)J"⟩
abbrev cX1_fill : ByteArray := prog_3_method_7_code
def yX1_fill : MethodName := ⟨RX1, "fill", "([JI)V"⟩
abbrev cX1_waysByFirstRing : ByteArray := prog_3_method_8_code
def yX1_waysByFirstRing : MethodName := ⟨RX1, "waysByFirstRing", "([JIII)J"⟩
abbrev cX1_inLowestTerms : ByteArray := prog_3_method_9_code
def yX1_inLowestTerms : MethodName := ⟨RX1, "inLowestTerms", "(JJZ)J"⟩
abbrev cX1_commonDivisor : ByteArray := prog_3_method_10_code
def yX1_commonDivisor : MethodName := ⟨RX1, "commonDivisor", "(JJ)J"⟩
def RX2 : String := "HandKnot$Colouring"
def TX2 : u_T := fun k => match k with
  | 0 => ("HandKnot$Colouring", "overArc", "[I", true)
  | 1 => ("HandKnot$Colouring", "arcBefore", "[I", true)
  | 2 => ("HandKnot$Colouring", "arcBehind", "[I", true)
  | 3 => ("HandKnot$Colouring", "rows", "[[I", true)
  | _ => ("HandKnot$Colouring", "arcs", "I", false)
def tyX2 : Nat → FieldType := fun k => match k with
  | 0 => .array .int
  | 1 => .array .int
  | 2 => .array .int
  | 3 => .array (.array .int)
  | _ => .int
abbrev wsX20 : List Cond := u_ws RX2 TX2 5
theorem nmX2 : ∀ a, a < 5 → ∀ b, b < 5 → a ≠ b → (TX2 a).2.1 ≠ (TX2 b).2.1 := by decide +kernel
theorem tyX2_ok : ∀ k, k < 5 → parseFieldDescriptor (TX2 k).2.2.1 = some (tyX2 k) := by decide +kernel
abbrev cX2_init : ByteArray := prog_4_method_1_code
def yX2_init : MethodName := ⟨RX2, "<init>", "()V"⟩
abbrev cX2_countArcs : ByteArray := prog_4_method_2_code
def yX2_countArcs : MethodName := ⟨RX2, "countArcs", "(LHandKnot$Board;I)I"⟩
abbrev cX2_freeColours : ByteArray := prog_4_method_3_code
def yX2_freeColours : MethodName := ⟨RX2, "freeColours", "(LHandKnot$Board;II)I"⟩
abbrev cX2_traceArcs : ByteArray := prog_4_method_4_code
def yX2_traceArcs : MethodName := ⟨RX2, "traceArcs", "(LHandKnot$Board;I)V"⟩
abbrev cX2_fillRow : ByteArray := prog_4_method_5_code
def yX2_fillRow : MethodName := ⟨RX2, "fillRow", "([III)V"⟩
abbrev cX2_rank : ByteArray := prog_4_method_6_code
def yX2_rank : MethodName := ⟨RX2, "rank", "(II)I"⟩
abbrev cX2_bringsUp : ByteArray := prog_4_method_7_code
def yX2_bringsUp : MethodName := ⟨RX2, "bringsUp", "(III)Z"⟩
abbrev cX2_clearColumn : ByteArray := prog_4_method_8_code
def yX2_clearColumn : MethodName := ⟨RX2, "clearColumn", "([I[III)V"⟩
def RX3 : String := "HandKnot$History"
def TX3 : u_T := fun k => match k with
  | 0 => ("HandKnot$History", "moments", "[LHandKnot$Moment;", true)
  | 1 => ("HandKnot$History", "marks", "[LHandKnot$Moment;", true)
  | 2 => ("HandKnot$History", "kept", "I", false)
  | 3 => ("HandKnot$History", "marked", "I", false)
  | _ => ("HandKnot$History", "free", "I", false)
def tyX3 : Nat → FieldType := fun k => match k with
  | 0 => .array (.object "HandKnot$Moment")
  | 1 => .array (.object "HandKnot$Moment")
  | 2 => .int
  | 3 => .int
  | _ => .int
abbrev wsX30 : List Cond := u_ws RX3 TX3 5
theorem nmX3 : ∀ a, a < 5 → ∀ b, b < 5 → a ≠ b → (TX3 a).2.1 ≠ (TX3 b).2.1 := by decide +kernel
theorem tyX3_ok : ∀ k, k < 5 → parseFieldDescriptor (TX3 k).2.2.1 = some (tyX3 k) := by decide +kernel
abbrev cX3_init : ByteArray := prog_5_method_1_code
def yX3_init : MethodName := ⟨RX3, "<init>", "()V"⟩
abbrev cX3_clear : ByteArray := prog_5_method_2_code
def yX3_clear : MethodName := ⟨RX3, "clear", "()V"⟩
abbrev cX3_keep : ByteArray := prog_5_method_3_code
def yX3_keep : MethodName := ⟨RX3, "keep", "(LHandKnot$Moment;)V"⟩
abbrev cX3_giveLatest : ByteArray := prog_5_method_4_code
def yX3_giveLatest : MethodName := ⟨RX3, "giveLatest", "(LHandKnot$Moment;)Z"⟩
abbrev cX3_setMark : ByteArray := prog_5_method_5_code
def yX3_setMark : MethodName := ⟨RX3, "setMark", "(LHandKnot$Moment;)I"⟩
abbrev cX3_giveMarked : ByteArray := prog_5_method_6_code
def yX3_giveMarked : MethodName := ⟨RX3, "giveMarked", "(ILHandKnot$Moment;)Z"⟩
def RX4 : String := "HandKnot$Moment"
def TX4 : u_T := fun k => match k with
  | 0 => ("HandKnot$Moment", "key", "J", false)
  | 1 => ("HandKnot$Moment", "plus", "I", false)
  | 2 => ("HandKnot$Moment", "parted", "I", false)
  | _ => ("HandKnot$Moment", "seed", "I", false)
def tyX4 : Nat → FieldType := fun k => match k with
  | 0 => .long
  | 1 => .int
  | 2 => .int
  | _ => .int
abbrev wsX40 : List Cond := u_ws RX4 TX4 4
theorem nmX4 : ∀ a, a < 4 → ∀ b, b < 4 → a ≠ b → (TX4 a).2.1 ≠ (TX4 b).2.1 := by decide +kernel
theorem tyX4_ok : ∀ k, k < 4 → parseFieldDescriptor (TX4 k).2.2.1 = some (tyX4 k) := by decide +kernel
abbrev cX4_init : ByteArray := prog_6_method_1_code
def yX4_init : MethodName := ⟨RX4, "<init>", "()V"⟩
abbrev cX4_begin : ByteArray := prog_6_method_2_code
def yX4_begin : MethodName := ⟨RX4, "begin", "(JI)V"⟩
abbrev cX4_become : ByteArray := prog_6_method_3_code
def yX4_become : MethodName := ⟨RX4, "become", "(LHandKnot$Moment;)V"⟩
abbrev cX4_seedBehind : ByteArray := prog_6_method_4_code
def yX4_seedBehind : MethodName := ⟨RX4, "seedBehind", "(I)I"⟩
abbrev cX4_passAt : ByteArray := prog_6_method_5_code
def yX4_passAt : MethodName := ⟨RX4, "passAt", "(JI)I"⟩
abbrev cX4_letGo : ByteArray := prog_6_method_6_code
def yX4_letGo : MethodName := ⟨RX4, "letGo", "(LHandKnot$Rings;I)V"⟩
abbrev cX4_turnOver : ByteArray := prog_6_method_7_code
def yX4_turnOver : MethodName := ⟨RX4, "turnOver", "(I)V"⟩
def RX5 : String := "HandKnot$Reader"
def TX5 : u_T := fun k => match k with
  | 0 => ("HandKnot$Reader", "tape", "LHandKnot$Tape;", true)
  | 1 => ("HandKnot$Reader", "told", "LHandKnot$Told;", true)
  | 2 => ("HandKnot$Reader", "fault", "I", false)
  | 3 => ("HandKnot$Reader", "place", "I", false)
  | 4 => ("HandKnot$Reader", "token", "I", false)
  | 5 => ("HandKnot$Reader", "taken", "I", false)
  | _ => ("HandKnot$Reader", "name", "J", false)
def tyX5 : Nat → FieldType := fun k => match k with
  | 0 => .object "HandKnot$Tape"
  | 1 => .object "HandKnot$Told"
  | 2 => .int
  | 3 => .int
  | 4 => .int
  | 5 => .int
  | _ => .long
abbrev wsX50 : List Cond := u_ws RX5 TX5 7
theorem nmX5 : ∀ a, a < 7 → ∀ b, b < 7 → a ≠ b → (TX5 a).2.1 ≠ (TX5 b).2.1 := by decide +kernel
theorem tyX5_ok : ∀ k, k < 7 → parseFieldDescriptor (TX5 k).2.2.1 = some (tyX5 k) := by decide +kernel
abbrev cX5_init : ByteArray := prog_7_method_1_code
def yX5_init : MethodName := ⟨RX5, "<init>", "()V"⟩
abbrev cX5_reads : ByteArray := prog_7_method_2_code
def yX5_reads : MethodName := ⟨RX5, "reads", "(I)Z"⟩
abbrev cX5_isFaulty : ByteArray := prog_7_method_3_code
def yX5_isFaulty : MethodName := ⟨RX5, "isFaulty", "(I)Z"⟩
abbrev cX5_advance : ByteArray := prog_7_method_4_code
def yX5_advance : MethodName := ⟨RX5, "advance", "()V"⟩
abbrev cX5_kind : ByteArray := prog_7_method_5_code
def yX5_kind : MethodName := ⟨RX5, "kind", "()I"⟩
abbrev cX5_isWord : ByteArray := prog_7_method_6_code
def yX5_isWord : MethodName := ⟨RX5, "isWord", "(I)Z"⟩
abbrev cX5_readsLine : ByteArray := prog_7_method_7_code
def yX5_readsLine : MethodName := ⟨RX5, "readsLine", "()Z"⟩
abbrev cX5_readsTangle : ByteArray := prog_7_method_8_code
def yX5_readsTangle : MethodName := ⟨RX5, "readsTangle", "()Z"⟩
abbrev cX5_readsPerson : ByteArray := prog_7_method_9_code
def yX5_readsPerson : MethodName := ⟨RX5, "readsPerson", "()Z"⟩
abbrev cX5_readsHold : ByteArray := prog_7_method_10_code
def yX5_readsHold : MethodName := ⟨RX5, "readsHold", "()Z"⟩
abbrev cX5_readsCross : ByteArray := prog_7_method_11_code
def yX5_readsCross : MethodName := ⟨RX5, "readsCross", "()Z"⟩
abbrev cX5_takesPass : ByteArray := prog_7_method_12_code
def yX5_takesPass : MethodName := ⟨RX5, "takesPass", "(Z)Z"⟩
abbrev cX5_takesWord : ByteArray := prog_7_method_13_code
def yX5_takesWord : MethodName := ⟨RX5, "takesWord", "(I)Z"⟩
abbrev cX5_takesWhole : ByteArray := prog_7_method_14_code
def yX5_takesWhole : MethodName := ⟨RX5, "takesWhole", "(II)Z"⟩
abbrev cX5_takesName : ByteArray := prog_7_method_15_code
def yX5_takesName : MethodName := ⟨RX5, "takesName", "()Z"⟩
abbrev cX5_takesNewName : ByteArray := prog_7_method_16_code
def yX5_takesNewName : MethodName := ⟨RX5, "takesNewName", "()Z"⟩
abbrev cX5_takesPerson : ByteArray := prog_7_method_17_code
def yX5_takesPerson : MethodName := ⟨RX5, "takesPerson", "()Z"⟩
abbrev cX5_takesLink : ByteArray := prog_7_method_18_code
def yX5_takesLink : MethodName := ⟨RX5, "takesLink", "()Z"⟩
abbrev cX5_takesHand : ByteArray := prog_7_method_19_code
def yX5_takesHand : MethodName := ⟨RX5, "takesHand", "(I)Z"⟩
def RX6 : String := "HandKnot$Rings"
def TX6 : u_T := fun k => match k with
  | 0 => ("HandKnot$Rings", "people", "I", false)
  | 1 => ("HandKnot$Rings", "links", "I", false)
  | 2 => ("HandKnot$Rings", "crossings", "I", false)
  | 3 => ("HandKnot$Rings", "standings", "I", false)
  | 4 => ("HandKnot$Rings", "count", "I", false)
  | 5 => ("HandKnot$Rings", "tall", "I", false)
  | 6 => ("HandKnot$Rings", "once", "Z", false)
  | 7 => ("HandKnot$Rings", "key", "J", false)
  | 8 => ("HandKnot$Rings", "plus", "I", false)
  | 9 => ("HandKnot$Rings", "members", "[I", true)
  | 10 => ("HandKnot$Rings", "firstMember", "[I", true)
  | 11 => ("HandKnot$Rings", "firstStanding", "[I", true)
  | 12 => ("HandKnot$Rings", "partner", "[I", true)
  | 13 => ("HandKnot$Rings", "linkIn", "[I", true)
  | 14 => ("HandKnot$Rings", "along", "[I", true)
  | 15 => ("HandKnot$Rings", "linkRing", "[I", true)
  | 16 => ("HandKnot$Rings", "linkStart", "[I", true)
  | 17 => ("HandKnot$Rings", "linkGoer", "[I", true)
  | 18 => ("HandKnot$Rings", "standingLink", "[I", true)
  | _ => ("HandKnot$Rings", "linkFits", "[Z", true)
def tyX6 : Nat → FieldType := fun k => match k with
  | 0 => .int
  | 1 => .int
  | 2 => .int
  | 3 => .int
  | 4 => .int
  | 5 => .int
  | 6 => .boolean
  | 7 => .long
  | 8 => .int
  | 9 => .array .int
  | 10 => .array .int
  | 11 => .array .int
  | 12 => .array .int
  | 13 => .array .int
  | 14 => .array .int
  | 15 => .array .int
  | 16 => .array .int
  | 17 => .array .int
  | 18 => .array .int
  | _ => .array .boolean
abbrev wsX60 : List Cond := u_ws RX6 TX6 20
theorem nmX6 : ∀ a, a < 20 → ∀ b, b < 20 → a ≠ b → (TX6 a).2.1 ≠ (TX6 b).2.1 := by decide +kernel
theorem tyX6_ok : ∀ k, k < 20 → parseFieldDescriptor (TX6 k).2.2.1 = some (tyX6 k) := by decide +kernel
abbrev cX6_init : ByteArray := prog_8_method_1_code
def yX6_init : MethodName := ⟨RX6, "<init>", "()V"⟩
abbrev cX6_ringWith : ByteArray := prog_8_method_2_code
def yX6_ringWith : MethodName := ⟨RX6, "ringWith", "(I)I"⟩
abbrev cX6_peopleIn : ByteArray := prog_8_method_3_code
def yX6_peopleIn : MethodName := ⟨RX6, "peopleIn", "(I)I"⟩
abbrev cX6_trace : ByteArray := prog_8_method_4_code
def yX6_trace : MethodName := ⟨RX6, "trace", "(LHandKnot$Told;)V"⟩
abbrev cX6_traceHands : ByteArray := prog_8_method_5_code
def yX6_traceHands : MethodName := ⟨RX6, "traceHands", "(LHandKnot$Told;I)V"⟩
abbrev cX6_traceRing : ByteArray := prog_8_method_6_code
def yX6_traceRing : MethodName := ⟨RX6, "traceRing", "(LHandKnot$Told;II)I"⟩
abbrev cX6_traceLink : ByteArray := prog_8_method_7_code
def yX6_traceLink : MethodName := ⟨RX6, "traceLink", "(LHandKnot$Told;IZ)V"⟩
abbrev cX6_traceSigns : ByteArray := prog_8_method_8_code
def yX6_traceSigns : MethodName := ⟨RX6, "traceSigns", "(LHandKnot$Told;)V"⟩
def RX7 : String := "HandKnot$Search"
def TX7 : u_T := fun k => match k with
  | 0 => ("HandKnot$Search", "board", "LHandKnot$Board;", true)
  | 1 => ("HandKnot$Search", "keys", "[J", true)
  | 2 => ("HandKnot$Search", "firsts", "[I", true)
  | 3 => ("HandKnot$Search", "slots", "[I", true)
  | 4 => ("HandKnot$Search", "table", "[I", true)
  | 5 => ("HandKnot$Search", "count", "I", false)
  | 6 => ("HandKnot$Search", "looseAt", "I", false)
  | _ => ("HandKnot$Search", "over", "Z", false)
def tyX7 : Nat → FieldType := fun k => match k with
  | 0 => .object "HandKnot$Board"
  | 1 => .array .long
  | 2 => .array .int
  | 3 => .array .int
  | 4 => .array .int
  | 5 => .int
  | 6 => .int
  | _ => .boolean
abbrev wsX70 : List Cond := u_ws RX7 TX7 8
theorem nmX7 : ∀ a, a < 8 → ∀ b, b < 8 → a ≠ b → (TX7 a).2.1 ≠ (TX7 b).2.1 := by decide +kernel
theorem tyX7_ok : ∀ k, k < 8 → parseFieldDescriptor (TX7 k).2.2.1 = some (tyX7 k) := by decide +kernel
abbrev cX7_init : ByteArray := prog_9_method_1_code
def yX7_init : MethodName := ⟨RX7, "<init>", "(LHandKnot$Rings;)V"⟩
abbrev cX7_firstToLoose : ByteArray := prog_9_method_2_code
def yX7_firstToLoose : MethodName := ⟨RX7, "firstToLoose", "(LHandKnot$Moment;I)I"⟩
abbrev cX7_countReached : ByteArray := prog_9_method_3_code
def yX7_countReached : MethodName := ⟨RX7, "countReached", "(LHandKnot$Moment;I)I"⟩
abbrev cX7_leastLeft : ByteArray := prog_9_method_4_code
def yX7_leastLeft : MethodName := ⟨RX7, "leastLeft", "(LHandKnot$Moment;I)I"⟩
abbrev cX7_crossingsIn : ByteArray := prog_9_method_5_code
def yX7_crossingsIn : MethodName := ⟨RX7, "crossingsIn", "(J)I"⟩
abbrev cX7_forget : ByteArray := prog_9_method_6_code
def yX7_forget : MethodName := ⟨RX7, "forget", "()V"⟩
abbrev cX7_grow : ByteArray := prog_9_method_7_code
def yX7_grow : MethodName := ⟨RX7, "grow", "(LHandKnot$Moment;IZ)I"⟩
abbrev cX7_spreadFrom : ByteArray := prog_9_method_8_code
def yX7_spreadFrom : MethodName := ⟨RX7, "spreadFrom", "(ILHandKnot$Moment;)V"⟩
abbrev cX7_add : ByteArray := prog_9_method_9_code
def yX7_add : MethodName := ⟨RX7, "add", "(JI)V"⟩
abbrev cX7_slotFor : ByteArray := prog_9_method_10_code
def yX7_slotFor : MethodName := ⟨RX7, "slotFor", "(J)I"⟩
def RX8 : String := "HandKnot$Tape"
def TX8 : u_T := fun k => match k with
  | 0 => ("HandKnot$Tape", "bytes", "[I", true)
  | 1 => ("HandKnot$Tape", "filled", "I", false)
  | 2 => ("HandKnot$Tape", "words", "[J", true)
  | 3 => ("HandKnot$Tape", "kinds", "[I", true)
  | 4 => ("HandKnot$Tape", "starts", "[I", true)
  | 5 => ("HandKnot$Tape", "values", "[I", true)
  | 6 => ("HandKnot$Tape", "spellings", "[J", true)
  | _ => ("HandKnot$Tape", "count", "I", false)
def tyX8 : Nat → FieldType := fun k => match k with
  | 0 => .array .int
  | 1 => .int
  | 2 => .array .long
  | 3 => .array .int
  | 4 => .array .int
  | 5 => .array .int
  | 6 => .array .long
  | _ => .int
abbrev wsX80 : List Cond := u_ws RX8 TX8 8
theorem nmX8 : ∀ a, a < 8 → ∀ b, b < 8 → a ≠ b → (TX8 a).2.1 ≠ (TX8 b).2.1 := by decide +kernel
theorem tyX8_ok : ∀ k, k < 8 → parseFieldDescriptor (TX8 k).2.2.1 = some (tyX8 k) := by decide +kernel
abbrev cX8_init : ByteArray := prog_10_method_1_code
def yX8_init : MethodName := ⟨RX8, "<init>", "()V"⟩
abbrev cX8_spelling : ByteArray := prog_10_method_2_code
def yX8_spelling : MethodName := ⟨RX8, "spelling", "(Ljava/lang/String;)J"⟩
abbrev cX8_withLetter : ByteArray := prog_10_method_3_code
def yX8_withLetter : MethodName := ⟨RX8, "withLetter", "(JI)J"⟩
abbrev cX8_hasRoom : ByteArray := prog_10_method_4_code
def yX8_hasRoom : MethodName := ⟨RX8, "hasRoom", "()Z"⟩
abbrev cX8_take : ByteArray := prog_10_method_5_code
def yX8_take : MethodName := ⟨RX8, "take", "(I)V"⟩
abbrev cX8_cut : ByteArray := prog_10_method_6_code
def yX8_cut : MethodName := ⟨RX8, "cut", "(I)V"⟩
abbrev cX8_ends : ByteArray := prog_10_method_7_code
def yX8_ends : MethodName := ⟨RX8, "ends", "(I)I"⟩
abbrev cX8_cutOne : ByteArray := prog_10_method_8_code
def yX8_cutOne : MethodName := ⟨RX8, "cutOne", "(II)I"⟩
abbrev cX8_isLetter : ByteArray := prog_10_method_9_code
def yX8_isLetter : MethodName := ⟨RX8, "isLetter", "(I)Z"⟩
abbrev cX8_isFigure : ByteArray := prog_10_method_10_code
def yX8_isFigure : MethodName := ⟨RX8, "isFigure", "(I)Z"⟩
abbrev cX8_addWord : ByteArray := prog_10_method_11_code
def yX8_addWord : MethodName := ⟨RX8, "addWord", "(II)V"⟩
abbrev cX8_addWhole : ByteArray := prog_10_method_12_code
def yX8_addWhole : MethodName := ⟨RX8, "addWhole", "(II)V"⟩
abbrev cX8_addToken : ByteArray := prog_10_method_13_code
def yX8_addToken : MethodName := ⟨RX8, "addToken", "(IIIJ)V"⟩
def RX9 : String := "HandKnot$Told"
def TX9 : u_T := fun k => match k with
  | 0 => ("HandKnot$Told", "begun", "Z", false)
  | 1 => ("HandKnot$Told", "once", "Z", false)
  | 2 => ("HandKnot$Told", "tall", "I", false)
  | 3 => ("HandKnot$Told", "people", "I", false)
  | 4 => ("HandKnot$Told", "links", "I", false)
  | 5 => ("HandKnot$Told", "crossings", "I", false)
  | 6 => ("HandKnot$Told", "plus", "I", false)
  | 7 => ("HandKnot$Told", "personNames", "[J", true)
  | 8 => ("HandKnot$Told", "talls", "[I", true)
  | 9 => ("HandKnot$Told", "linkNames", "[J", true)
  | 10 => ("HandKnot$Told", "handAt", "[I", true)
  | 11 => ("HandKnot$Told", "linkIn", "[I", true)
  | 12 => ("HandKnot$Told", "passes", "[I", true)
  | 13 => ("HandKnot$Told", "linkUnder", "[I", true)
  | _ => ("HandKnot$Told", "linkOver", "[I", true)
def tyX9 : Nat → FieldType := fun k => match k with
  | 0 => .boolean
  | 1 => .boolean
  | 2 => .int
  | 3 => .int
  | 4 => .int
  | 5 => .int
  | 6 => .int
  | 7 => .array .long
  | 8 => .array .int
  | 9 => .array .long
  | 10 => .array .int
  | 11 => .array .int
  | 12 => .array .int
  | 13 => .array .int
  | _ => .array .int
abbrev wsX90 : List Cond := u_ws RX9 TX9 15
theorem nmX9 : ∀ a, a < 15 → ∀ b, b < 15 → a ≠ b → (TX9 a).2.1 ≠ (TX9 b).2.1 := by decide +kernel
theorem tyX9_ok : ∀ k, k < 15 → parseFieldDescriptor (TX9 k).2.2.1 = some (tyX9 k) := by decide +kernel
abbrev cX9_init : ByteArray := prog_11_method_1_code
def yX9_init : MethodName := ⟨RX9, "<init>", "()V"⟩
abbrev cX9_clear : ByteArray := prog_11_method_2_code
def yX9_clear : MethodName := ⟨RX9, "clear", "()V"⟩
abbrev cX9_personNamed : ByteArray := prog_11_method_3_code
def yX9_personNamed : MethodName := ⟨RX9, "personNamed", "(J)I"⟩
abbrev cX9_linkNamed : ByteArray := prog_11_method_4_code
def yX9_linkNamed : MethodName := ⟨RX9, "linkNamed", "(J)I"⟩
abbrev cX9_indexOf : ByteArray := prog_11_method_5_code
def yX9_indexOf : MethodName := ⟨RX9, "indexOf", "([JIJ)I"⟩
abbrev cX9_addPerson : ByteArray := prog_11_method_6_code
def yX9_addPerson : MethodName := ⟨RX9, "addPerson", "(JI)V"⟩
abbrev cX9_addLink : ByteArray := prog_11_method_7_code
def yX9_addLink : MethodName := ⟨RX9, "addLink", "(JII)V"⟩
abbrev cX9_isHand : ByteArray := prog_11_method_8_code
def yX9_isHand : MethodName := ⟨RX9, "isHand", "(I)Z"⟩
abbrev cX9_isHeld : ByteArray := prog_11_method_9_code
def yX9_isHeld : MethodName := ⟨RX9, "isHeld", "(I)Z"⟩
abbrev cX9_areHeld : ByteArray := prog_11_method_10_code
def yX9_areHeld : MethodName := ⟨RX9, "areHeld", "(II)Z"⟩
abbrev cX9_isPlace : ByteArray := prog_11_method_11_code
def yX9_isPlace : MethodName := ⟨RX9, "isPlace", "(II)Z"⟩
abbrev cX9_passOn : ByteArray := prog_11_method_12_code
def yX9_passOn : MethodName := ⟨RX9, "passOn", "(II)I"⟩
abbrev cX9_addPass : ByteArray := prog_11_method_13_code
def yX9_addPass : MethodName := ⟨RX9, "addPass", "(IIZ)V"⟩
abbrev cX9_addCrossing : ByteArray := prog_11_method_14_code
def yX9_addCrossing : MethodName := ⟨RX9, "addCrossing", "(Z)V"⟩
abbrev cX9_lacksSomething : ByteArray := prog_11_method_15_code
def yX9_lacksSomething : MethodName := ⟨RX9, "lacksSomething", "()Z"⟩
def RX10 : String := "HandKnot$Within"
def TX10 : u_T := fun k => match k with
  | 0 => ("HandKnot$Within", "rings", "LHandKnot$Rings;", true)
  | _ => ("HandKnot$Within", "trial", "LHandKnot$Board;", true)
def tyX10 : Nat → FieldType := fun k => match k with
  | 0 => .object "HandKnot$Rings"
  | _ => .object "HandKnot$Board"
abbrev wsX100 : List Cond := u_ws RX10 TX10 2
theorem nmX10 : ∀ a, a < 2 → ∀ b, b < 2 → a ≠ b → (TX10 a).2.1 ≠ (TX10 b).2.1 := by decide +kernel
theorem tyX10_ok : ∀ k, k < 2 → parseFieldDescriptor (TX10 k).2.2.1 = some (tyX10 k) := by decide +kernel
abbrev cX10_init : ByteArray := prog_12_method_1_code
def yX10_init : MethodName := ⟨RX10, "<init>", "(LHandKnot$Rings;)V"⟩
abbrev cX10_bestCall : ByteArray := prog_12_method_2_code
def yX10_bestCall : MethodName := ⟨RX10, "bestCall", "(LHandKnot$Board;LHandKnot$Moment;)I"⟩
abbrev cX10_leastBehind : ByteArray := prog_12_method_3_code
def yX10_leastBehind : MethodName := ⟨RX10, "leastBehind", "(LHandKnot$Board;)I"⟩
abbrev cX10_bestOwn : ByteArray := prog_12_method_4_code
def yX10_bestOwn : MethodName := ⟨RX10, "bestOwn", "(LHandKnot$Board;I)I"⟩
abbrev cX10_leftBehindRounds : ByteArray := prog_12_method_5_code
def yX10_leftBehindRounds : MethodName := ⟨RX10, "leftBehindRounds", "(LHandKnot$Moment;I)I"⟩
abbrev cX10_looseTries : ByteArray := prog_12_method_6_code
def yX10_looseTries : MethodName := ⟨RX10, "looseTries", "(LHandKnot$Moment;III)I"⟩
def RX11 : String := "HandKnot"
def TX11 : u_T := fun k => match k with
  | 0 => ("HandKnot", "reader", "LHandKnot$Reader;", true)
  | 1 => ("HandKnot", "rings", "LHandKnot$Rings;", true)
  | 2 => ("HandKnot", "now", "LHandKnot$Moment;", true)
  | 3 => ("HandKnot", "tried", "LHandKnot$Moment;", true)
  | 4 => ("HandKnot", "history", "LHandKnot$History;", true)
  | 5 => ("HandKnot", "board", "LHandKnot$Board;", true)
  | 6 => ("HandKnot", "search", "LHandKnot$Search;", true)
  | 7 => ("HandKnot", "within", "LHandKnot$Within;", true)
  | 8 => ("HandKnot", "colouring", "LHandKnot$Colouring;", true)
  | 9 => ("HandKnot", "chances", "LHandKnot$Chances;", true)
  | 10 => ("HandKnot", "there", "Z", false)
  | _ => ("HandKnot", "trouble", "I", false)
def tyX11 : Nat → FieldType := fun k => match k with
  | 0 => .object "HandKnot$Reader"
  | 1 => .object "HandKnot$Rings"
  | 2 => .object "HandKnot$Moment"
  | 3 => .object "HandKnot$Moment"
  | 4 => .object "HandKnot$History"
  | 5 => .object "HandKnot$Board"
  | 6 => .object "HandKnot$Search"
  | 7 => .object "HandKnot$Within"
  | 8 => .object "HandKnot$Colouring"
  | 9 => .object "HandKnot$Chances"
  | 10 => .boolean
  | _ => .int
abbrev wsX110 : List Cond := u_ws RX11 TX11 12
theorem nmX11 : ∀ a, a < 12 → ∀ b, b < 12 → a ≠ b → (TX11 a).2.1 ≠ (TX11 b).2.1 := by decide +kernel
theorem tyX11_ok : ∀ k, k < 12 → parseFieldDescriptor (TX11 k).2.2.1 = some (tyX11 k) := by decide +kernel
abbrev cX11_init : ByteArray := prog_1_method_1_code
def yX11_init : MethodName := ⟨RX11, "<init>", "()V"⟩
abbrev cX11_refuse : ByteArray := prog_1_method_2_code
def yX11_refuse : MethodName := ⟨RX11, "refuse", "(I)I"⟩
abbrev cX11_refuseSigned : ByteArray := prog_1_method_3_code
def yX11_refuseSigned : MethodName := ⟨RX11, "refuseSigned", "(I)I"⟩
abbrev cX11_refuseFlatly : ByteArray := prog_1_method_4_code
def yX11_refuseFlatly : MethodName := ⟨RX11, "refuseFlatly", "(I)Z"⟩
abbrev cX11_grant : ByteArray := prog_1_method_5_code
def yX11_grant : MethodName := ⟨RX11, "grant", "(I)I"⟩
abbrev cX11_isPerson : ByteArray := prog_1_method_6_code
def yX11_isPerson : MethodName := ⟨RX11, "isPerson", "(I)Z"⟩
abbrev cX11_isLink : ByteArray := prog_1_method_7_code
def yX11_isLink : MethodName := ⟨RX11, "isLink", "(I)Z"⟩
abbrev cX11_isRing : ByteArray := prog_1_method_8_code
def yX11_isRing : MethodName := ⟨RX11, "isRing", "(I)Z"⟩
abbrev cX11_isCrossing : ByteArray := prog_1_method_9_code
def yX11_isCrossing : MethodName := ⟨RX11, "isCrossing", "(I)Z"⟩
abbrev cX11_isStanding : ByteArray := prog_1_method_10_code
def yX11_isStanding : MethodName := ⟨RX11, "isStanding", "(I)Z"⟩
abbrev cX11_isMove : ByteArray := prog_1_method_11_code
def yX11_isMove : MethodName := ⟨RX11, "isMove", "(I)Z"⟩
abbrev cX11_isDepth : ByteArray := prog_1_method_12_code
def yX11_isDepth : MethodName := ⟨RX11, "isDepth", "(I)Z"⟩
abbrev cX11_isSeed : ByteArray := prog_1_method_13_code
def yX11_isSeed : MethodName := ⟨RX11, "isSeed", "(I)Z"⟩
abbrev cX11_feed : ByteArray := prog_1_method_14_code
def yX11_feed : MethodName := ⟨RX11, "feed", "(IIIII)I"⟩
abbrev cX11_tangle : ByteArray := prog_1_method_15_code
def yX11_tangle : MethodName := ⟨RX11, "tangle", "(I)I"⟩
abbrev cX11_fault : ByteArray := prog_1_method_16_code
def yX11_fault : MethodName := ⟨RX11, "fault", "()I"⟩
abbrev cX11_where : ByteArray := prog_1_method_17_code
def yX11_where : MethodName := ⟨RX11, "where", "()I"⟩
abbrev cX11_ring : ByteArray := prog_1_method_18_code
def yX11_ring : MethodName := ⟨RX11, "ring", "(I)I"⟩
abbrev cX11_people : ByteArray := prog_1_method_19_code
def yX11_people : MethodName := ⟨RX11, "people", "(I)I"⟩
abbrev cX11_member : ByteArray := prog_1_method_20_code
def yX11_member : MethodName := ⟨RX11, "member", "(II)I"⟩
abbrev cX11_holds : ByteArray := prog_1_method_21_code
def yX11_holds : MethodName := ⟨RX11, "holds", "(IZ)I"⟩
abbrev cX11_along : ByteArray := prog_1_method_22_code
def yX11_along : MethodName := ⟨RX11, "along", "(I)I"⟩
abbrev cX11_stands : ByteArray := prog_1_method_23_code
def yX11_stands : MethodName := ⟨RX11, "stands", "(I)I"⟩
abbrev cX11_place : ByteArray := prog_1_method_24_code
def yX11_place : MethodName := ⟨RX11, "place", "(II)I"⟩
abbrev cX11_sign : ByteArray := prog_1_method_25_code
def yX11_sign : MethodName := ⟨RX11, "sign", "(I)I"⟩
abbrev cX11_left : ByteArray := prog_1_method_26_code
def yX11_left : MethodName := ⟨RX11, "left", "()I"⟩
abbrev cX11_loose : ByteArray := prog_1_method_27_code
def yX11_loose : MethodName := ⟨RX11, "loose", "()I"⟩
abbrev cX11_may : ByteArray := prog_1_method_28_code
def yX11_may : MethodName := ⟨RX11, "may", "(I)I"⟩
abbrev cX11_goer : ByteArray := prog_1_method_29_code
def yX11_goer : MethodName := ⟨RX11, "goer", "(I)I"⟩
abbrev cX11_moves : ByteArray := prog_1_method_30_code
def yX11_moves : MethodName := ⟨RX11, "moves", "()I"⟩
abbrev cX11_moveAt : ByteArray := prog_1_method_31_code
def yX11_moveAt : MethodName := ⟨RX11, "moveAt", "(I)I"⟩
abbrev cX11_fewest : ByteArray := prog_1_method_32_code
def yX11_fewest : MethodName := ⟨RX11, "fewest", "(I)I"⟩
abbrev cX11_next : ByteArray := prog_1_method_33_code
def yX11_next : MethodName := ⟨RX11, "next", "(I)I"⟩
abbrev cX11_caller : ByteArray := prog_1_method_34_code
def yX11_caller : MethodName := ⟨RX11, "caller", "()I"⟩
abbrev cX11_hang : ByteArray := prog_1_method_35_code
def yX11_hang : MethodName := ⟨RX11, "hang", "(II)I"⟩
abbrev cX11_colours : ByteArray := prog_1_method_36_code
def yX11_colours : MethodName := ⟨RX11, "colours", "(I)I"⟩
abbrev cX11_cannot : ByteArray := prog_1_method_37_code
def yX11_cannot : MethodName := ⟨RX11, "cannot", "()I"⟩
abbrev cX11_isProvedTight : ByteArray := prog_1_method_38_code
def yX11_isProvedTight : MethodName := ⟨RX11, "isProvedTight", "()Z"⟩
abbrev cX11_part : ByteArray := prog_1_method_39_code
def yX11_part : MethodName := ⟨RX11, "part", "(I)I"⟩
abbrev cX11_bestPart : ByteArray := prog_1_method_40_code
def yX11_bestPart : MethodName := ⟨RX11, "bestPart", "(I)I"⟩
abbrev cX11_lift : ByteArray := prog_1_method_41_code
def yX11_lift : MethodName := ⟨RX11, "lift", "(I)I"⟩
abbrev cX11_bestLift : ByteArray := prog_1_method_42_code
def yX11_bestLift : MethodName := ⟨RX11, "bestLift", "(I)I"⟩
abbrev cX11_twist : ByteArray := prog_1_method_43_code
def yX11_twist : MethodName := ⟨RX11, "twist", "(I)I"⟩
abbrev cX11_arcs : ByteArray := prog_1_method_44_code
def yX11_arcs : MethodName := ⟨RX11, "arcs", "()I"⟩
abbrev cX11_reached : ByteArray := prog_1_method_45_code
def yX11_reached : MethodName := ⟨RX11, "reached", "(I)I"⟩
abbrev cX11_few : ByteArray := prog_1_method_46_code
def yX11_few : MethodName := ⟨RX11, "few", "(I)I"⟩
abbrev cX11_sees : ByteArray := prog_1_method_47_code
def yX11_sees : MethodName := ⟨RX11, "sees", "(I)I"⟩
abbrev cX11_own : ByteArray := prog_1_method_48_code
def yX11_own : MethodName := ⟨RX11, "own", "(I)I"⟩
abbrev cX11_rounds : ByteArray := prog_1_method_49_code
def yX11_rounds : MethodName := ⟨RX11, "rounds", "(I)I"⟩
abbrev cX11_tries : ByteArray := prog_1_method_50_code
def yX11_tries : MethodName := ⟨RX11, "tries", "(III)I"⟩
abbrev cX11_ways : ByteArray := prog_1_method_51_code
def yX11_ways : MethodName := ⟨RX11, "ways", "(IIZ)J"⟩
abbrev cX11_odds : ByteArray := prog_1_method_52_code
def yX11_odds : MethodName := ⟨RX11, "odds", "(IIZZ)J"⟩
abbrev cX11_mean : ByteArray := prog_1_method_53_code
def yX11_mean : MethodName := ⟨RX11, "mean", "(IZZ)J"⟩
abbrev cX11_makeMove : ByteArray := prog_1_method_54_code
def yX11_makeMove : MethodName := ⟨RX11, "makeMove", "(I)V"⟩
abbrev cX11_move : ByteArray := prog_1_method_55_code
def yX11_move : MethodName := ⟨RX11, "move", "(I)I"⟩
abbrev cX11_parts : ByteArray := prog_1_method_56_code
def yX11_parts : MethodName := ⟨RX11, "parts", "(I)I"⟩
abbrev cX11_lifts : ByteArray := prog_1_method_57_code
def yX11_lifts : MethodName := ⟨RX11, "lifts", "(I)I"⟩
abbrev cX11_lot : ByteArray := prog_1_method_58_code
def yX11_lot : MethodName := ⟨RX11, "lot", "()I"⟩
abbrev cX11_call : ByteArray := prog_1_method_59_code
def yX11_call : MethodName := ⟨RX11, "call", "()I"⟩
abbrev cX11_seed : ByteArray := prog_1_method_60_code
def yX11_seed : MethodName := ⟨RX11, "seed", "(I)Z"⟩
abbrev cX11_undo : ByteArray := prog_1_method_61_code
def yX11_undo : MethodName := ⟨RX11, "undo", "()Z"⟩
abbrev cX11_mark : ByteArray := prog_1_method_62_code
def yX11_mark : MethodName := ⟨RX11, "mark", "()I"⟩
abbrev cX11_back : ByteArray := prog_1_method_63_code
def yX11_back : MethodName := ⟨RX11, "back", "(I)Z"⟩
abbrev cX11_led : ByteArray := prog_1_method_64_code
def yX11_led : MethodName := ⟨RX11, "led", "(I)I"⟩
abbrev cX11_size : ByteArray := prog_1_method_65_code
def yX11_size : MethodName := ⟨RX11, "size", "(I)I"⟩
abbrev cX11_toldSize : ByteArray := prog_1_method_66_code
def yX11_toldSize : MethodName := ⟨RX11, "toldSize", "(I)I"⟩
abbrev cX11_changingSize : ByteArray := prog_1_method_67_code
def yX11_changingSize : MethodName := ⟨RX11, "changingSize", "(I)I"⟩
abbrev cX11_trouble : ByteArray := prog_1_method_68_code
def yX11_trouble : MethodName := ⟨RX11, "trouble", "()I"⟩
def RX12 : String := "HandKnotModel$Tangle"
def TX12 : u_T := fun k => match k with
  | 0 => ("HandKnotModel$Tangle", "height", "I", false)
  | 1 => ("HandKnotModel$Tangle", "people", "I", false)
  | 2 => ("HandKnotModel$Tangle", "links", "I", false)
  | 3 => ("HandKnotModel$Tangle", "crossings", "I", false)
  | 4 => ("HandKnotModel$Tangle", "names", "I", false)
  | 5 => ("HandKnotModel$Tangle", "rings", "I", false)
  | 6 => ("HandKnotModel$Tangle", "standings", "I", false)
  | 7 => ("HandKnotModel$Tangle", "once", "Z", false)
  | 8 => ("HandKnotModel$Tangle", "tall", "[I", true)
  | 9 => ("HandKnotModel$Tangle", "one", "[I", true)
  | 10 => ("HandKnotModel$Tangle", "oneHand", "[I", true)
  | 11 => ("HandKnotModel$Tangle", "two", "[I", true)
  | 12 => ("HandKnotModel$Tangle", "twoHand", "[I", true)
  | 13 => ("HandKnotModel$Tangle", "linkOf", "[I", true)
  | 14 => ("HandKnotModel$Tangle", "over", "[I", true)
  | 15 => ("HandKnotModel$Tangle", "overAt", "[I", true)
  | 16 => ("HandKnotModel$Tangle", "under", "[I", true)
  | 17 => ("HandKnotModel$Tangle", "underAt", "[I", true)
  | 18 => ("HandKnotModel$Tangle", "sign", "[I", true)
  | 19 => ("HandKnotModel$Tangle", "name", "[J", true)
  | 20 => ("HandKnotModel$Tangle", "nameSort", "[I", true)
  | 21 => ("HandKnotModel$Tangle", "nameNumber", "[I", true)
  | 22 => ("HandKnotModel$Tangle", "usedAt", "[I", true)
  | 23 => ("HandKnotModel$Tangle", "ringOf", "[I", true)
  | 24 => ("HandKnotModel$Tangle", "linkRing", "[I", true)
  | 25 => ("HandKnotModel$Tangle", "linkRow", "[I", true)
  | 26 => ("HandKnotModel$Tangle", "member", "[I", true)
  | 27 => ("HandKnotModel$Tangle", "size", "[I", true)
  | 28 => ("HandKnotModel$Tangle", "along", "[Z", true)
  | 29 => ("HandKnotModel$Tangle", "standRing", "[I", true)
  | 30 => ("HandKnotModel$Tangle", "standLink", "[I", true)
  | _ => ("HandKnotModel$Tangle", "first", "J", false)
def tyX12 : Nat → FieldType := fun k => match k with
  | 0 => .int
  | 1 => .int
  | 2 => .int
  | 3 => .int
  | 4 => .int
  | 5 => .int
  | 6 => .int
  | 7 => .boolean
  | 8 => .array .int
  | 9 => .array .int
  | 10 => .array .int
  | 11 => .array .int
  | 12 => .array .int
  | 13 => .array .int
  | 14 => .array .int
  | 15 => .array .int
  | 16 => .array .int
  | 17 => .array .int
  | 18 => .array .int
  | 19 => .array .long
  | 20 => .array .int
  | 21 => .array .int
  | 22 => .array .int
  | 23 => .array .int
  | 24 => .array .int
  | 25 => .array .int
  | 26 => .array .int
  | 27 => .array .int
  | 28 => .array .boolean
  | 29 => .array .int
  | 30 => .array .int
  | _ => .long
abbrev wsX120 : List Cond := u_ws RX12 TX12 32
theorem nmX12 : ∀ a, a < 32 → ∀ b, b < 32 → a ≠ b → (TX12 a).2.1 ≠ (TX12 b).2.1 := by decide +kernel
theorem tyX12_ok : ∀ k, k < 32 → parseFieldDescriptor (TX12 k).2.2.1 = some (tyX12 k) := by decide +kernel
abbrev cX12_init : ByteArray := prog_15_method_1_code
def yX12_init : MethodName := ⟨RX12, "<init>", "()V"⟩
abbrev cX12_find : ByteArray := prog_15_method_2_code
def yX12_find : MethodName := ⟨RX12, "find", "(J)I"⟩
abbrev cX12_other : ByteArray := prog_15_method_3_code
def yX12_other : MethodName := ⟨RX12, "other", "(I)I"⟩
abbrev cX12_laysRings : ByteArray := prog_15_method_4_code
def yX12_laysRings : MethodName := ⟨RX12, "laysRings", "()V"⟩
abbrev cX12_laysRing : ByteArray := prog_15_method_5_code
def yX12_laysRing : MethodName := ⟨RX12, "laysRing", "(I)V"⟩
abbrev cX12_laysStandings : ByteArray := prog_15_method_6_code
def yX12_laysStandings : MethodName := ⟨RX12, "laysStandings", "(I)V"⟩
abbrev cX12_stands : ByteArray := prog_15_method_7_code
def yX12_stands : MethodName := ⟨RX12, "stands", "(II)V"⟩
abbrev cX12_signOf : ByteArray := prog_15_method_8_code
def yX12_signOf : MethodName := ⟨RX12, "signOf", "(II)I"⟩
def RX13 : String := "HandKnotModel"
def TX13 : u_T := fun k => match k with
  | 0 => ("HandKnotModel", "thrown", "I", false)
  | 1 => ("HandKnotModel", "trouble", "I", false)
  | 2 => ("HandKnotModel", "where", "I", false)
  | 3 => ("HandKnotModel", "tangle", "LHandKnotModel$Tangle;", false)
  | 4 => ("HandKnotModel", "read", "LHandKnotModel$Tangle;", false)
  | 5 => ("HandKnotModel", "tape", "[B", true)
  | 6 => ("HandKnotModel", "taped", "I", false)
  | 7 => ("HandKnotModel", "size", "I", false)
  | 8 => ("HandKnotModel", "spot", "I", false)
  | 9 => ("HandKnotModel", "sort", "I", false)
  | 10 => ("HandKnotModel", "place", "I", false)
  | 11 => ("HandKnotModel", "number", "I", false)
  | 12 => ("HandKnotModel", "fault", "I", false)
  | 13 => ("HandKnotModel", "wrongAt", "I", false)
  | 14 => ("HandKnotModel", "word", "J", false)
  | 15 => ("HandKnotModel", "now", "J", false)
  | 16 => ("HandKnotModel", "parted", "I", false)
  | 17 => ("HandKnotModel", "lifted", "I", false)
  | 18 => ("HandKnotModel", "seed", "I", false)
  | 19 => ("HandKnotModel", "spotOf", "[I", true)
  | 20 => ("HandKnotModel", "nextOf", "[I", true)
  | 21 => ("HandKnotModel", "come", "[J", true)
  | 22 => ("HandKnotModel", "table", "[J", true)
  | 23 => ("HandKnotModel", "many", "I", false)
  | 24 => ("HandKnotModel", "ahead", "[I", true)
  | 25 => ("HandKnotModel", "after", "[I", true)
  | 26 => ("HandKnotModel", "row", "[I", true)
  | 27 => ("HandKnotModel", "equation", "[I", true)
  | 28 => ("HandKnotModel", "arcs", "I", false)
  | 29 => ("HandKnotModel", "drawn", "I", false)
  | 30 => ("HandKnotModel", "ways", "[J", true)
  | 31 => ("HandKnotModel", "pastNow", "[J", true)
  | 32 => ("HandKnotModel", "keptNow", "[J", true)
  | 33 => ("HandKnotModel", "pastParted", "[I", true)
  | 34 => ("HandKnotModel", "pastSeed", "[I", true)
  | 35 => ("HandKnotModel", "pastLifted", "[I", true)
  | 36 => ("HandKnotModel", "keptParted", "[I", true)
  | 37 => ("HandKnotModel", "keptSeed", "[I", true)
  | 38 => ("HandKnotModel", "keptLifted", "[I", true)
  | 39 => ("HandKnotModel", "acts", "I", false)
  | _ => ("HandKnotModel", "marks", "I", false)
def tyX13 : Nat → FieldType := fun k => match k with
  | 0 => .int
  | 1 => .int
  | 2 => .int
  | 3 => .object "HandKnotModel$Tangle"
  | 4 => .object "HandKnotModel$Tangle"
  | 5 => .array .byte
  | 6 => .int
  | 7 => .int
  | 8 => .int
  | 9 => .int
  | 10 => .int
  | 11 => .int
  | 12 => .int
  | 13 => .int
  | 14 => .long
  | 15 => .long
  | 16 => .int
  | 17 => .int
  | 18 => .int
  | 19 => .array .int
  | 20 => .array .int
  | 21 => .array .long
  | 22 => .array .long
  | 23 => .int
  | 24 => .array .int
  | 25 => .array .int
  | 26 => .array .int
  | 27 => .array .int
  | 28 => .int
  | 29 => .int
  | 30 => .array .long
  | 31 => .array .long
  | 32 => .array .long
  | 33 => .array .int
  | 34 => .array .int
  | 35 => .array .int
  | 36 => .array .int
  | 37 => .array .int
  | 38 => .array .int
  | 39 => .int
  | _ => .int
abbrev wsX130 : List Cond := u_ws RX13 TX13 41
theorem nmX13 : ∀ a, a < 41 → ∀ b, b < 41 → a ≠ b → (TX13 a).2.1 ≠ (TX13 b).2.1 := by decide +kernel
theorem tyX13_ok : ∀ k, k < 41 → parseFieldDescriptor (TX13 k).2.2.1 = some (tyX13 k) := by decide +kernel
abbrev cX13_init : ByteArray := prog_14_method_1_code
def yX13_init : MethodName := ⟨RX13, "<init>", "()V"⟩
abbrev cX13_thrown : ByteArray := prog_14_method_2_code
def yX13_thrown : MethodName := ⟨RX13, "thrown", "()I"⟩
abbrev cX13_refused : ByteArray := prog_14_method_3_code
def yX13_refused : MethodName := ⟨RX13, "refused", "(I)I"⟩
abbrev cX13_lost : ByteArray := prog_14_method_4_code
def yX13_lost : MethodName := ⟨RX13, "lost", "(I)I"⟩
abbrev cX13_denied : ByteArray := prog_14_method_5_code
def yX13_denied : MethodName := ⟨RX13, "denied", "(I)Z"⟩
abbrev cX13_good : ByteArray := prog_14_method_6_code
def yX13_good : MethodName := ⟨RX13, "good", "(I)I"⟩
abbrev cX13_granted : ByteArray := prog_14_method_7_code
def yX13_granted : MethodName := ⟨RX13, "granted", "()Z"⟩
abbrev cX13_in : ByteArray := prog_14_method_8_code
def yX13_in : MethodName := ⟨RX13, "in", "(III)Z"⟩
abbrev cX13_byteAt : ByteArray := prog_14_method_9_code
def yX13_byteAt : MethodName := ⟨RX13, "byteAt", "(I)I"⟩
abbrev cX13_isLetter : ByteArray := prog_14_method_10_code
def yX13_isLetter : MethodName := ⟨RX13, "isLetter", "(I)Z"⟩
abbrev cX13_isDigit : ByteArray := prog_14_method_11_code
def yX13_isDigit : MethodName := ⟨RX13, "isDigit", "(I)Z"⟩
abbrev cX13_wordOf : ByteArray := prog_14_method_12_code
def yX13_wordOf : MethodName := ⟨RX13, "wordOf", "(Ljava/lang/String;)J"⟩
abbrev cX13_goesOn : ByteArray := prog_14_method_13_code
def yX13_goesOn : MethodName := ⟨RX13, "goesOn", "()V"⟩
abbrev cX13_flaw : ByteArray := prog_14_method_14_code
def yX13_flaw : MethodName := ⟨RX13, "flaw", "(I)V"⟩
abbrev cX13_isWord : ByteArray := prog_14_method_15_code
def yX13_isWord : MethodName := ⟨RX13, "isWord", "(Ljava/lang/String;)Z"⟩
abbrev cX13_eatsWord : ByteArray := prog_14_method_16_code
def yX13_eatsWord : MethodName := ⟨RX13, "eatsWord", "(Ljava/lang/String;)Z"⟩
abbrev cX13_eatsSemicolon : ByteArray := prog_14_method_17_code
def yX13_eatsSemicolon : MethodName := ⟨RX13, "eatsSemicolon", "()Z"⟩
abbrev cX13_needs : ByteArray := prog_14_method_18_code
def yX13_needs : MethodName := ⟨RX13, "needs", "(Ljava/lang/String;)V"⟩
abbrev cX13_bounded : ByteArray := prog_14_method_19_code
def yX13_bounded : MethodName := ⟨RX13, "bounded", "(II)I"⟩
abbrev cX13_readPart : ByteArray := prog_14_method_20_code
def yX13_readPart : MethodName := ⟨RX13, "readPart", "(Ljava/lang/String;II)I"⟩
abbrev cX13_isName : ByteArray := prog_14_method_21_code
def yX13_isName : MethodName := ⟨RX13, "isName", "()Z"⟩
abbrev cX13_begins : ByteArray := prog_14_method_22_code
def yX13_begins : MethodName := ⟨RX13, "begins", "(II)V"⟩
abbrev cX13_readFresh : ByteArray := prog_14_method_23_code
def yX13_readFresh : MethodName := ⟨RX13, "readFresh", "()J"⟩
abbrev cX13_names : ByteArray := prog_14_method_24_code
def yX13_names : MethodName := ⟨RX13, "names", "(JII)V"⟩
abbrev cX13_known : ByteArray := prog_14_method_25_code
def yX13_known : MethodName := ⟨RX13, "known", "(I)I"⟩
abbrev cX13_readAll : ByteArray := prog_14_method_26_code
def yX13_readAll : MethodName := ⟨RX13, "readAll", "()V"⟩
abbrev cX13_readLine : ByteArray := prog_14_method_27_code
def yX13_readLine : MethodName := ⟨RX13, "readLine", "()V"⟩
abbrev cX13_readTangle : ByteArray := prog_14_method_28_code
def yX13_readTangle : MethodName := ⟨RX13, "readTangle", "()V"⟩
abbrev cX13_readPerson : ByteArray := prog_14_method_29_code
def yX13_readPerson : MethodName := ⟨RX13, "readPerson", "()V"⟩
abbrev cX13_readHand : ByteArray := prog_14_method_30_code
def yX13_readHand : MethodName := ⟨RX13, "readHand", "(I)I"⟩
abbrev cX13_isHeld : ByteArray := prog_14_method_31_code
def yX13_isHeld : MethodName := ⟨RX13, "isHeld", "(II)Z"⟩
abbrev cX13_readHold : ByteArray := prog_14_method_32_code
def yX13_readHold : MethodName := ⟨RX13, "readHold", "()V"⟩
abbrev cX13_readPlace : ByteArray := prog_14_method_33_code
def yX13_readPlace : MethodName := ⟨RX13, "readPlace", "(II)I"⟩
abbrev cX13_readCross : ByteArray := prog_14_method_34_code
def yX13_readCross : MethodName := ⟨RX13, "readCross", "()V"⟩
abbrev cX13_feed : ByteArray := prog_14_method_35_code
def yX13_feed : MethodName := ⟨RX13, "feed", "(IIIII)I"⟩
abbrev cX13_tangle : ByteArray := prog_14_method_36_code
def yX13_tangle : MethodName := ⟨RX13, "tangle", "(I)I"⟩
abbrev cX13_fault : ByteArray := prog_14_method_37_code
def yX13_fault : MethodName := ⟨RX13, "fault", "()I"⟩
abbrev cX13_where : ByteArray := prog_14_method_38_code
def yX13_where : MethodName := ⟨RX13, "where", "()I"⟩
abbrev cX13_signNow : ByteArray := prog_14_method_39_code
def yX13_signNow : MethodName := ⟨RX13, "signNow", "(I)I"⟩
abbrev cX13_at : ByteArray := prog_14_method_40_code
def yX13_at : MethodName := ⟨RX13, "at", "(JI)I"⟩
abbrev cX13_with : ByteArray := prog_14_method_41_code
def yX13_with : MethodName := ⟨RX13, "with", "(JII)J"⟩
abbrev cX13_looks : ByteArray := prog_14_method_42_code
def yX13_looks : MethodName := ⟨RX13, "looks", "(J)V"⟩
abbrev cX13_nextFrom : ByteArray := prog_14_method_43_code
def yX13_nextFrom : MethodName := ⟨RX13, "nextFrom", "(JI)I"⟩
abbrev cX13_isOpen : ByteArray := prog_14_method_44_code
def yX13_isOpen : MethodName := ⟨RX13, "isOpen", "(III)Z"⟩
abbrev cX13_areBeside : ByteArray := prog_14_method_45_code
def yX13_areBeside : MethodName := ⟨RX13, "areBeside", "(II)Z"⟩
abbrev cX13_kindOf : ByteArray := prog_14_method_46_code
def yX13_kindOf : MethodName := ⟨RX13, "kindOf", "(I)I"⟩
abbrev cX13_isMove : ByteArray := prog_14_method_47_code
def yX13_isMove : MethodName := ⟨RX13, "isMove", "(I)Z"⟩
abbrev cX13_can : ByteArray := prog_14_method_48_code
def yX13_can : MethodName := ⟨RX13, "can", "(I)Z"⟩
abbrev cX13_goerOf : ByteArray := prog_14_method_49_code
def yX13_goerOf : MethodName := ⟨RX13, "goerOf", "(I)I"⟩
abbrev cX13_mayMove : ByteArray := prog_14_method_50_code
def yX13_mayMove : MethodName := ⟨RX13, "mayMove", "(I)Z"⟩
abbrev cX13_behind : ByteArray := prog_14_method_51_code
def yX13_behind : MethodName := ⟨RX13, "behind", "(JI)J"⟩
abbrev cX13_without : ByteArray := prog_14_method_52_code
def yX13_without : MethodName := ⟨RX13, "without", "(JI)J"⟩
abbrev cX13_changed : ByteArray := prog_14_method_53_code
def yX13_changed : MethodName := ⟨RX13, "changed", "(JII)J"⟩
abbrev cX13_nextMove : ByteArray := prog_14_method_54_code
def yX13_nextMove : MethodName := ⟨RX13, "nextMove", "(I)I"⟩
abbrev cX13_nextMay : ByteArray := prog_14_method_55_code
def yX13_nextMay : MethodName := ⟨RX13, "nextMay", "(I)I"⟩
abbrev cX13_leftIn : ByteArray := prog_14_method_56_code
def yX13_leftIn : MethodName := ⟨RX13, "leftIn", "(J)I"⟩
abbrev cX13_isPerson : ByteArray := prog_14_method_57_code
def yX13_isPerson : MethodName := ⟨RX13, "isPerson", "(I)Z"⟩
abbrev cX13_isRing : ByteArray := prog_14_method_58_code
def yX13_isRing : MethodName := ⟨RX13, "isRing", "(I)Z"⟩
abbrev cX13_isLink : ByteArray := prog_14_method_59_code
def yX13_isLink : MethodName := ⟨RX13, "isLink", "(I)Z"⟩
abbrev cX13_isStanding : ByteArray := prog_14_method_60_code
def yX13_isStanding : MethodName := ⟨RX13, "isStanding", "(I)Z"⟩
abbrev cX13_ring : ByteArray := prog_14_method_61_code
def yX13_ring : MethodName := ⟨RX13, "ring", "(I)I"⟩
abbrev cX13_people : ByteArray := prog_14_method_62_code
def yX13_people : MethodName := ⟨RX13, "people", "(I)I"⟩
abbrev cX13_member : ByteArray := prog_14_method_63_code
def yX13_member : MethodName := ⟨RX13, "member", "(II)I"⟩
abbrev cX13_holds : ByteArray := prog_14_method_64_code
def yX13_holds : MethodName := ⟨RX13, "holds", "(IZ)I"⟩
abbrev cX13_along : ByteArray := prog_14_method_65_code
def yX13_along : MethodName := ⟨RX13, "along", "(I)I"⟩
abbrev cX13_stands : ByteArray := prog_14_method_66_code
def yX13_stands : MethodName := ⟨RX13, "stands", "(I)I"⟩
abbrev cX13_place : ByteArray := prog_14_method_67_code
def yX13_place : MethodName := ⟨RX13, "place", "(II)I"⟩
abbrev cX13_isLeft : ByteArray := prog_14_method_68_code
def yX13_isLeft : MethodName := ⟨RX13, "isLeft", "(I)Z"⟩
abbrev cX13_sign : ByteArray := prog_14_method_69_code
def yX13_sign : MethodName := ⟨RX13, "sign", "(I)I"⟩
abbrev cX13_left : ByteArray := prog_14_method_70_code
def yX13_left : MethodName := ⟨RX13, "left", "()I"⟩
abbrev cX13_loose : ByteArray := prog_14_method_71_code
def yX13_loose : MethodName := ⟨RX13, "loose", "()I"⟩
abbrev cX13_may : ByteArray := prog_14_method_72_code
def yX13_may : MethodName := ⟨RX13, "may", "(I)I"⟩
abbrev cX13_goer : ByteArray := prog_14_method_73_code
def yX13_goer : MethodName := ⟨RX13, "goer", "(I)I"⟩
abbrev cX13_moves : ByteArray := prog_14_method_74_code
def yX13_moves : MethodName := ⟨RX13, "moves", "()I"⟩
abbrev cX13_moveAt : ByteArray := prog_14_method_75_code
def yX13_moveAt : MethodName := ⟨RX13, "moveAt", "(I)I"⟩
abbrev cX13_comes : ByteArray := prog_14_method_76_code
def yX13_comes : MethodName := ⟨RX13, "comes", "(J)Z"⟩
abbrev cX13_fewestFrom : ByteArray := prog_14_method_77_code
def yX13_fewestFrom : MethodName := ⟨RX13, "fewestFrom", "(JI)I"⟩
abbrev cX13_goesOnFrom : ByteArray := prog_14_method_78_code
def yX13_goesOnFrom : MethodName := ⟨RX13, "goesOnFrom", "(J)Z"⟩
abbrev cX13_fewest : ByteArray := prog_14_method_79_code
def yX13_fewest : MethodName := ⟨RX13, "fewest", "(I)I"⟩
abbrev cX13_next : ByteArray := prog_14_method_80_code
def yX13_next : MethodName := ⟨RX13, "next", "(I)I"⟩
abbrev cX13_callerNow : ByteArray := prog_14_method_81_code
def yX13_callerNow : MethodName := ⟨RX13, "callerNow", "()I"⟩
abbrev cX13_leastBehind : ByteArray := prog_14_method_82_code
def yX13_leastBehind : MethodName := ⟨RX13, "leastBehind", "(J)I"⟩
abbrev cX13_caller : ByteArray := prog_14_method_83_code
def yX13_caller : MethodName := ⟨RX13, "caller", "()I"⟩
abbrev cX13_hangNow : ByteArray := prog_14_method_84_code
def yX13_hangNow : MethodName := ⟨RX13, "hangNow", "(II)I"⟩
abbrev cX13_hang : ByteArray := prog_14_method_85_code
def yX13_hang : MethodName := ⟨RX13, "hang", "(II)I"⟩
abbrev cX13_laysArcs : ByteArray := prog_14_method_86_code
def yX13_laysArcs : MethodName := ⟨RX13, "laysArcs", "()V"⟩
abbrev cX13_laysArcsOf : ByteArray := prog_14_method_87_code
def yX13_laysArcsOf : MethodName := ⟨RX13, "laysArcsOf", "(IZ)V"⟩
abbrev cX13_turned : ByteArray := prog_14_method_88_code
def yX13_turned : MethodName := ⟨RX13, "turned", "(II)I"⟩
abbrev cX13_coloursNow : ByteArray := prog_14_method_89_code
def yX13_coloursNow : MethodName := ⟨RX13, "coloursNow", "(I)I"⟩
abbrev cX13_adds : ByteArray := prog_14_method_90_code
def yX13_adds : MethodName := ⟨RX13, "adds", "(IIII)V"⟩
abbrev cX13_colours : ByteArray := prog_14_method_91_code
def yX13_colours : MethodName := ⟨RX13, "colours", "(I)I"⟩
abbrev cX13_cannot : ByteArray := prog_14_method_92_code
def yX13_cannot : MethodName := ⟨RX13, "cannot", "()I"⟩
abbrev cX13_partedFrom : ByteArray := prog_14_method_93_code
def yX13_partedFrom : MethodName := ⟨RX13, "partedFrom", "(JI)J"⟩
abbrev cX13_part : ByteArray := prog_14_method_94_code
def yX13_part : MethodName := ⟨RX13, "part", "(I)I"⟩
abbrev cX13_isCrossing : ByteArray := prog_14_method_95_code
def yX13_isCrossing : MethodName := ⟨RX13, "isCrossing", "(I)Z"⟩
abbrev cX13_liftedFrom : ByteArray := prog_14_method_96_code
def yX13_liftedFrom : MethodName := ⟨RX13, "liftedFrom", "(JI)J"⟩
abbrev cX13_lift : ByteArray := prog_14_method_97_code
def yX13_lift : MethodName := ⟨RX13, "lift", "(I)I"⟩
abbrev cX13_lifts : ByteArray := prog_14_method_98_code
def yX13_lifts : MethodName := ⟨RX13, "lifts", "(I)I"⟩
abbrev cX13_twist : ByteArray := prog_14_method_99_code
def yX13_twist : MethodName := ⟨RX13, "twist", "(I)I"⟩
abbrev cX13_arcs : ByteArray := prog_14_method_100_code
def yX13_arcs : MethodName := ⟨RX13, "arcs", "()I"⟩
abbrev cX13_comesAll : ByteArray := prog_14_method_101_code
def yX13_comesAll : MethodName := ⟨RX13, "comesAll", "(I)Z"⟩
abbrev cX13_reached : ByteArray := prog_14_method_102_code
def yX13_reached : MethodName := ⟨RX13, "reached", "(I)I"⟩
abbrev cX13_few : ByteArray := prog_14_method_103_code
def yX13_few : MethodName := ⟨RX13, "few", "(I)I"⟩
abbrev cX13_seesIn : ByteArray := prog_14_method_104_code
def yX13_seesIn : MethodName := ⟨RX13, "seesIn", "(JI)I"⟩
abbrev cX13_sees : ByteArray := prog_14_method_105_code
def yX13_sees : MethodName := ⟨RX13, "sees", "(I)I"⟩
abbrev cX13_crossingsOf : ByteArray := prog_14_method_106_code
def yX13_crossingsOf : MethodName := ⟨RX13, "crossingsOf", "(I)I"⟩
abbrev cX13_ownIn : ByteArray := prog_14_method_107_code
def yX13_ownIn : MethodName := ⟨RX13, "ownIn", "(JI)I"⟩
abbrev cX13_own : ByteArray := prog_14_method_108_code
def yX13_own : MethodName := ⟨RX13, "own", "(I)I"⟩
abbrev cX13_rounds : ByteArray := prog_14_method_109_code
def yX13_rounds : MethodName := ⟨RX13, "rounds", "(I)I"⟩
abbrev cX13_lotFrom : ByteArray := prog_14_method_110_code
def yX13_lotFrom : MethodName := ⟨RX13, "lotFrom", "(J)J"⟩
abbrev cX13_tries : ByteArray := prog_14_method_111_code
def yX13_tries : MethodName := ⟨RX13, "tries", "(III)I"⟩
abbrev cX13_chosen : ByteArray := prog_14_method_112_code
def yX13_chosen : MethodName := ⟨RX13, "chosen", "(II)J"⟩
abbrev cX13_laysWays : ByteArray := prog_14_method_113_code
def yX13_laysWays : MethodName := ⟨RX13, "laysWays", "(IZ)V"⟩
abbrev cX13_waysNow : ByteArray := prog_14_method_114_code
def yX13_waysNow : MethodName := ⟨RX13, "waysNow", "(II)J"⟩
abbrev cX13_ways : ByteArray := prog_14_method_115_code
def yX13_ways : MethodName := ⟨RX13, "ways", "(IIZ)J"⟩
abbrev cX13_told : ByteArray := prog_14_method_116_code
def yX13_told : MethodName := ⟨RX13, "told", "(JJZ)J"⟩
abbrev cX13_allWays : ByteArray := prog_14_method_117_code
def yX13_allWays : MethodName := ⟨RX13, "allWays", "(I)J"⟩
abbrev cX13_odds : ByteArray := prog_14_method_118_code
def yX13_odds : MethodName := ⟨RX13, "odds", "(IIZZ)J"⟩
abbrev cX13_mean : ByteArray := prog_14_method_119_code
def yX13_mean : MethodName := ⟨RX13, "mean", "(IZZ)J"⟩
abbrev cX13_keeps : ByteArray := prog_14_method_120_code
def yX13_keeps : MethodName := ⟨RX13, "keeps", "()V"⟩
abbrev cX13_move : ByteArray := prog_14_method_121_code
def yX13_move : MethodName := ⟨RX13, "move", "(I)I"⟩
abbrev cX13_parts : ByteArray := prog_14_method_122_code
def yX13_parts : MethodName := ⟨RX13, "parts", "(I)I"⟩
abbrev cX13_lot : ByteArray := prog_14_method_123_code
def yX13_lot : MethodName := ⟨RX13, "lot", "()I"⟩
abbrev cX13_call : ByteArray := prog_14_method_124_code
def yX13_call : MethodName := ⟨RX13, "call", "()I"⟩
abbrev cX13_seed : ByteArray := prog_14_method_125_code
def yX13_seed : MethodName := ⟨RX13, "seed", "(I)Z"⟩
abbrev cX13_undo : ByteArray := prog_14_method_126_code
def yX13_undo : MethodName := ⟨RX13, "undo", "()Z"⟩
abbrev cX13_mark : ByteArray := prog_14_method_127_code
def yX13_mark : MethodName := ⟨RX13, "mark", "()I"⟩
abbrev cX13_back : ByteArray := prog_14_method_128_code
def yX13_back : MethodName := ⟨RX13, "back", "(I)Z"⟩
abbrev cX13_led : ByteArray := prog_14_method_129_code
def yX13_led : MethodName := ⟨RX13, "led", "(I)I"⟩
abbrev cX13_size : ByteArray := prog_14_method_130_code
def yX13_size : MethodName := ⟨RX13, "size", "(I)I"⟩
abbrev cX13_trouble : ByteArray := prog_14_method_131_code
def yX13_trouble : MethodName := ⟨RX13, "trouble", "()I"⟩
def RJx145de : String := "java/io/Serializable"
def TJx145de : u_T := fun k => match k with
  | _ => ("", "", "", false)
def tyJx145de : Nat → FieldType := fun k => match k with
  | _ => .int
abbrev wsJx145de0 : List Cond := u_ws RJx145de TJx145de 0
theorem nmJx145de : ∀ a, a < 0 → ∀ b, b < 0 → a ≠ b → (TJx145de a).2.1 ≠ (TJx145de b).2.1 := by decide +kernel
theorem tyJx145de_ok : ∀ k, k < 0 → parseFieldDescriptor (TJx145de k).2.2.1 = some (tyJx145de k) := by decide +kernel
def RJx9f9b0 : String := "java/lang/CharSequence"
def TJx9f9b0 : u_T := fun k => match k with
  | _ => ("", "", "", false)
def tyJx9f9b0 : Nat → FieldType := fun k => match k with
  | _ => .int
abbrev wsJx9f9b00 : List Cond := u_ws RJx9f9b0 TJx9f9b0 0
theorem nmJx9f9b0 : ∀ a, a < 0 → ∀ b, b < 0 → a ≠ b → (TJx9f9b0 a).2.1 ≠ (TJx9f9b0 b).2.1 := by decide +kernel
theorem tyJx9f9b0_ok : ∀ k, k < 0 → parseFieldDescriptor (TJx9f9b0 k).2.2.1 = some (tyJx9f9b0 k) := by decide +kernel
def RJxb160c : String := "java/lang/Comparable"
def TJxb160c : u_T := fun k => match k with
  | _ => ("", "", "", false)
def tyJxb160c : Nat → FieldType := fun k => match k with
  | _ => .int
abbrev wsJxb160c0 : List Cond := u_ws RJxb160c TJxb160c 0
theorem nmJxb160c : ∀ a, a < 0 → ∀ b, b < 0 → a ≠ b → (TJxb160c a).2.1 ≠ (TJxb160c b).2.1 := by decide +kernel
theorem tyJxb160c_ok : ∀ k, k < 0 → parseFieldDescriptor (TJxb160c k).2.2.1 = some (tyJxb160c k) := by decide +kernel
def RJ9 : String := "java/lang/Math"
def TJ9 : u_T := fun k => match k with
  | _ => ("", "", "", false)
def tyJ9 : Nat → FieldType := fun k => match k with
  | _ => .int
abbrev wsJ90 : List Cond := u_ws RJ9 TJ9 0
theorem nmJ9 : ∀ a, a < 0 → ∀ b, b < 0 → a ≠ b → (TJ9 a).2.1 ≠ (TJ9 b).2.1 := by decide +kernel
theorem tyJ9_ok : ∀ k, k < 0 → parseFieldDescriptor (TJ9 k).2.2.1 = some (tyJ9 k) := by decide +kernel
abbrev cJ9_floorMod_7cf53 : ByteArray := prog_20_method_50_code
def yJ9_floorMod_7cf53 : MethodName := ⟨RJ9, "floorMod", "(II)I"⟩
abbrev cJ9_max_7cf53 : ByteArray := prog_20_method_65_code
def yJ9_max_7cf53 : MethodName := ⟨RJ9, "max", "(II)I"⟩
abbrev cJ9_min_7cf53 : ByteArray := prog_20_method_69_code
def yJ9_min_7cf53 : MethodName := ⟨RJ9, "min", "(II)I"⟩
def RJ0 : String := "java/lang/String"
def TJ0 : u_T := fun k => match k with
  | _ => ("", "", "", false)
def tyJ0 : Nat → FieldType := fun k => match k with
  | _ => .int
abbrev wsJ00 : List Cond := u_ws RJ0 TJ0 0
theorem nmJ0 : ∀ a, a < 0 → ∀ b, b < 0 → a ≠ b → (TJ0 a).2.1 ≠ (TJ0 b).2.1 := by decide +kernel
theorem tyJ0_ok : ∀ k, k < 0 → parseFieldDescriptor (TJ0 k).2.2.1 = some (tyJ0 k) := by decide +kernel
abbrev cJ0_length_8abf5 : ByteArray := prog_22_method_54_code
def yJ0_length_8abf5 : MethodName := ⟨RJ0, "length", "()I"⟩
abbrev cJ0_charAt_5068e : ByteArray := prog_22_method_56_code
def yJ0_charAt_5068e : MethodName := ⟨RJ0, "charAt", "(I)C"⟩
abbrev cJ0_coder_7d493 : ByteArray := prog_22_method_152_code
def yJ0_coder_7d493 : MethodName := ⟨RJ0, "coder", "()B"⟩
abbrev cJ0_isLatin1_aae02 : ByteArray := prog_22_method_154_code
def yJ0_isLatin1_aae02 : MethodName := ⟨RJ0, "isLatin1", "()Z"⟩
abbrev cJ0_checkIndex_df160 : ByteArray := prog_22_method_155_code
def yJ0_checkIndex_df160 : MethodName := ⟨RJ0, "checkIndex", "(II)V"⟩
def RJ1 : String := "java/lang/StringLatin1"
def TJ1 : u_T := fun k => match k with
  | _ => ("", "", "", false)
def tyJ1 : Nat → FieldType := fun k => match k with
  | _ => .int
abbrev wsJ10 : List Cond := u_ws RJ1 TJ1 0
theorem nmJ1 : ∀ a, a < 0 → ∀ b, b < 0 → a ≠ b → (TJ1 a).2.1 ≠ (TJ1 b).2.1 := by decide +kernel
theorem tyJ1_ok : ∀ k, k < 0 → parseFieldDescriptor (TJ1 k).2.2.1 = some (tyJ1 k) := by decide +kernel
abbrev cJ1_charAt_3b067 : ByteArray := prog_23_method_2_code
def yJ1_charAt_3b067 : MethodName := ⟨RJ1, "charAt", "([BI)C"⟩
def RJ2 : String := "java/lang/StringUTF16"
def TJ2 : u_T := fun k => match k with
  | _ => ("", "", "", false)
def tyJ2 : Nat → FieldType := fun k => match k with
  | _ => .int
abbrev wsJ20 : List Cond := u_ws RJ2 TJ2 0
theorem nmJ2 : ∀ a, a < 0 → ∀ b, b < 0 → a ≠ b → (TJ2 a).2.1 ≠ (TJ2 b).2.1 := by decide +kernel
theorem tyJ2_ok : ∀ k, k < 0 → parseFieldDescriptor (TJ2 k).2.2.1 = some (tyJ2 k) := by decide +kernel
abbrev cJ2_getChar_3b067 : ByteArray := prog_24_method_5_code
def yJ2_getChar_3b067 : MethodName := ⟨RJ2, "getChar", "([BI)C"⟩
abbrev cJ2_length_9d52b : ByteArray := prog_24_method_6_code
def yJ2_length_9d52b : MethodName := ⟨RJ2, "length", "([B)I"⟩
abbrev cJ2_charAt_3b067 : ByteArray := prog_24_method_83_code
def yJ2_charAt_3b067 : MethodName := ⟨RJ2, "charAt", "([BI)C"⟩
abbrev cJ2_checkIndex_2214a : ByteArray := prog_24_method_91_code
def yJ2_checkIndex_2214a : MethodName := ⟨RJ2, "checkIndex", "(I[B)V"⟩
def RJ10 : String := "java/lang/System"
def TJ10 : u_T := fun k => match k with
  | _ => ("", "", "", false)
def tyJ10 : Nat → FieldType := fun k => match k with
  | _ => .int
abbrev wsJ100 : List Cond := u_ws RJ10 TJ10 0
theorem nmJ10 : ∀ a, a < 0 → ∀ b, b < 0 → a ≠ b → (TJ10 a).2.1 ≠ (TJ10 b).2.1 := by decide +kernel
theorem tyJ10_ok : ∀ k, k < 0 → parseFieldDescriptor (TJ10 k).2.2.1 = some (tyJ10 k) := by decide +kernel
def RJxfd54e : String := "java/lang/constant/Constable"
def TJxfd54e : u_T := fun k => match k with
  | _ => ("", "", "", false)
def tyJxfd54e : Nat → FieldType := fun k => match k with
  | _ => .int
abbrev wsJxfd54e0 : List Cond := u_ws RJxfd54e TJxfd54e 0
theorem nmJxfd54e : ∀ a, a < 0 → ∀ b, b < 0 → a ≠ b → (TJxfd54e a).2.1 ≠ (TJxfd54e b).2.1 := by decide +kernel
theorem tyJxfd54e_ok : ∀ k, k < 0 → parseFieldDescriptor (TJxfd54e k).2.2.1 = some (tyJxfd54e k) := by decide +kernel
def RJx3cf43 : String := "java/lang/constant/ConstantDesc"
def TJx3cf43 : u_T := fun k => match k with
  | _ => ("", "", "", false)
def tyJx3cf43 : Nat → FieldType := fun k => match k with
  | _ => .int
abbrev wsJx3cf430 : List Cond := u_ws RJx3cf43 TJx3cf43 0
theorem nmJx3cf43 : ∀ a, a < 0 → ∀ b, b < 0 → a ≠ b → (TJx3cf43 a).2.1 ≠ (TJx3cf43 b).2.1 := by decide +kernel
theorem tyJx3cf43_ok : ∀ k, k < 0 → parseFieldDescriptor (TJx3cf43 k).2.2.1 = some (tyJx3cf43 k) := by decide +kernel
def RJ7 : String := "java/util/Arrays"
def TJ7 : u_T := fun k => match k with
  | _ => ("", "", "", false)
def tyJ7 : Nat → FieldType := fun k => match k with
  | _ => .int
abbrev wsJ70 : List Cond := u_ws RJ7 TJ7 0
theorem nmJ7 : ∀ a, a < 0 → ∀ b, b < 0 → a ≠ b → (TJ7 a).2.1 ≠ (TJ7 b).2.1 := by decide +kernel
theorem tyJ7_ok : ∀ k, k < 0 → parseFieldDescriptor (TJ7 k).2.2.1 = some (tyJ7 k) := by decide +kernel
abbrev cJ7_fill_53178 : ByteArray := prog_29_method_103_code
def yJ7_fill_53178 : MethodName := ⟨RJ7, "fill", "([II)V"⟩
def RJ3 : String := "jdk/internal/util/Preconditions"
def TJ3 : u_T := fun k => match k with
  | _ => ("", "", "", false)
def tyJ3 : Nat → FieldType := fun k => match k with
  | _ => .int
abbrev wsJ30 : List Cond := u_ws RJ3 TJ3 0
theorem nmJ3 : ∀ a, a < 0 → ∀ b, b < 0 → a ≠ b → (TJ3 a).2.1 ≠ (TJ3 b).2.1 := by decide +kernel
theorem tyJ3_ok : ∀ k, k < 0 → parseFieldDescriptor (TJ3 k).2.2.1 = some (tyJ3 k) := by decide +kernel
abbrev cJ3_checkIndex_8e157 : ByteArray := prog_31_method_11_code
def yJ3_checkIndex_8e157 : MethodName := ⟨RJ3, "checkIndex", "(IILjava/util/function/BiFunction;)I"⟩
def RLw : String := "HandKnotLaw"
abbrev cL_led : ByteArray := method_3_code
def yL_led : MethodName := ⟨RLw, "led", "(LHandKnot;I[J)I"⟩
abbrev cL_law : ByteArray := code
def yL_law : MethodName := ⟨RLw, "law", "([I)Z"⟩
abbrev vwCl : List vw_C := [(RX0, TX0, 13), (RX1, TX1, 3), (RX2, TX2, 5), (RX3, TX3, 5), (RX4, TX4, 4), (RX5, TX5, 7), (RX6, TX6, 20), (RX7, TX7, 8), (RX8, TX8, 8), (RX9, TX9, 15), (RX10, TX10, 2), (RX11, TX11, 12), (RX12, TX12, 32), (RX13, TX13, 41)]
