section
-- ===== PART A: goes FIRST, ahead of the names: the tables' words, and 'selects' of the private methods out of them =====
/-- a private method of a class that the tables say can be made, by its rows of tables_1 -/
def lw_okq (q : MethodName × Nat) : Prop := (q.1.cls ≠ "java/lang/invoke/MethodHandle" ∧ q.1.cls ≠ "java/lang/invoke/VarHandle") ∧ Cond.instantiable q.1.cls q.2 ∈ tables_1 ∧ Cond.privateMethod q.1 ∈ tables_1 ∧ Cond.instanceMethod q.1 ∈ tables_1
theorem lw_p0 : lw_okq (⟨"OddsLadder", "headsNow", "()I"⟩, 7) := ⟨⟨by decide +kernel, by decide +kernel⟩, List.mem_of_getElem? (i := 10) (by decide +kernel), List.mem_of_getElem? (i := 60) (by decide +kernel), List.mem_of_getElem? (i := 61) (by decide +kernel)⟩
theorem lw_p1 : lw_okq (⟨"OddsLadder", "headsAhead", "(I)I"⟩, 7) := ⟨⟨by decide +kernel, by decide +kernel⟩, List.mem_of_getElem? (i := 10) (by decide +kernel), List.mem_of_getElem? (i := 64) (by decide +kernel), List.mem_of_getElem? (i := 65) (by decide +kernel)⟩
theorem lw_p2 : lw_okq (⟨"OddsLadder", "wholeNow", "()J"⟩, 7) := ⟨⟨by decide +kernel, by decide +kernel⟩, List.mem_of_getElem? (i := 10) (by decide +kernel), List.mem_of_getElem? (i := 72) (by decide +kernel), List.mem_of_getElem? (i := 73) (by decide +kernel)⟩
theorem lw_p3 : lw_okq (⟨"OddsLadder", "tailsNow", "()I"⟩, 7) := ⟨⟨by decide +kernel, by decide +kernel⟩, List.mem_of_getElem? (i := 10) (by decide +kernel), List.mem_of_getElem? (i := 76) (by decide +kernel), List.mem_of_getElem? (i := 77) (by decide +kernel)⟩
theorem lw_p4 : lw_okq (⟨"OddsLadder", "wholeAt", "(II)J"⟩, 7) := ⟨⟨by decide +kernel, by decide +kernel⟩, List.mem_of_getElem? (i := 10) (by decide +kernel), List.mem_of_getElem? (i := 80) (by decide +kernel), List.mem_of_getElem? (i := 81) (by decide +kernel)⟩
theorem lw_p5 : lw_okq (⟨"OddsLadder", "coinWeightAt", "(III)J"⟩, 7) := ⟨⟨by decide +kernel, by decide +kernel⟩, List.mem_of_getElem? (i := 10) (by decide +kernel), List.mem_of_getElem? (i := 84) (by decide +kernel), List.mem_of_getElem? (i := 85) (by decide +kernel)⟩
theorem lw_p6 : lw_okq (⟨"OddsLadder", "startWeight", "(II)J"⟩, 7) := ⟨⟨by decide +kernel, by decide +kernel⟩, List.mem_of_getElem? (i := 10) (by decide +kernel), List.mem_of_getElem? (i := 88) (by decide +kernel), List.mem_of_getElem? (i := 89) (by decide +kernel)⟩
theorem lw_p7 : lw_okq (⟨"OddsLadder", "likelihood", "(III)J"⟩, 7) := ⟨⟨by decide +kernel, by decide +kernel⟩, List.mem_of_getElem? (i := 10) (by decide +kernel), List.mem_of_getElem? (i := 92) (by decide +kernel), List.mem_of_getElem? (i := 93) (by decide +kernel)⟩
theorem lw_p8 : lw_okq (⟨"OddsLadder", "surpriseAt", "(I)I"⟩, 7) := ⟨⟨by decide +kernel, by decide +kernel⟩, List.mem_of_getElem? (i := 10) (by decide +kernel), List.mem_of_getElem? (i := 104) (by decide +kernel), List.mem_of_getElem? (i := 105) (by decide +kernel)⟩
theorem lw_p9 : lw_okq (⟨"OddsLadder", "surpriseBehind", "(ZII)I"⟩, 7) := ⟨⟨by decide +kernel, by decide +kernel⟩, List.mem_of_getElem? (i := 10) (by decide +kernel), List.mem_of_getElem? (i := 108) (by decide +kernel), List.mem_of_getElem? (i := 109) (by decide +kernel)⟩
theorem lw_p10 : lw_okq (⟨"OddsLadder", "chance", "(ZII)J"⟩, 7) := ⟨⟨by decide +kernel, by decide +kernel⟩, List.mem_of_getElem? (i := 10) (by decide +kernel), List.mem_of_getElem? (i := 113) (by decide +kernel), List.mem_of_getElem? (i := 114) (by decide +kernel)⟩
theorem lw_p11 : lw_okq (⟨"OddsLadder", "leaderAt", "(II)I"⟩, 7) := ⟨⟨by decide +kernel, by decide +kernel⟩, List.mem_of_getElem? (i := 10) (by decide +kernel), List.mem_of_getElem? (i := 126) (by decide +kernel), List.mem_of_getElem? (i := 127) (by decide +kernel)⟩
theorem lw_p12 : lw_okq (⟨"OddsLadder", "digestWithCoins", "(J)J"⟩, 7) := ⟨⟨by decide +kernel, by decide +kernel⟩, List.mem_of_getElem? (i := 10) (by decide +kernel), List.mem_of_getElem? (i := 147) (by decide +kernel), List.mem_of_getElem? (i := 148) (by decide +kernel)⟩
theorem lw_p13 : lw_okq (⟨"OddsLadder", "needCoin", "(I)V"⟩, 7) := ⟨⟨by decide +kernel, by decide +kernel⟩, List.mem_of_getElem? (i := 10) (by decide +kernel), List.mem_of_getElem? (i := 155) (by decide +kernel), List.mem_of_getElem? (i := 156) (by decide +kernel)⟩
theorem lw_p14 : lw_okq (⟨"java/lang/Throwable", "fillInStackTrace", "(I)Ljava/lang/Throwable;"⟩, 6) := ⟨⟨by decide +kernel, by decide +kernel⟩, List.mem_of_getElem? (i := 197) (by decide +kernel), List.mem_of_getElem? (i := 195) (by decide +kernel), List.mem_of_getElem? (i := 196) (by decide +kernel)⟩
theorem lw_p15 : lw_okq (⟨"OddsLadder", "digestWithSchools", "(J)J"⟩, 7) := ⟨⟨by decide +kernel, by decide +kernel⟩, List.mem_of_getElem? (i := 10) (by decide +kernel), List.mem_of_getElem? (i := 227) (by decide +kernel), List.mem_of_getElem? (i := 228) (by decide +kernel)⟩
def lw_privs_1 : List (MethodName × Nat) := [(⟨"OddsLadder", "headsNow", "()I"⟩, 7), (⟨"OddsLadder", "headsAhead", "(I)I"⟩, 7), (⟨"OddsLadder", "wholeNow", "()J"⟩, 7), (⟨"OddsLadder", "tailsNow", "()I"⟩, 7), (⟨"OddsLadder", "wholeAt", "(II)J"⟩, 7), (⟨"OddsLadder", "coinWeightAt", "(III)J"⟩, 7), (⟨"OddsLadder", "startWeight", "(II)J"⟩, 7), (⟨"OddsLadder", "likelihood", "(III)J"⟩, 7), (⟨"OddsLadder", "surpriseAt", "(I)I"⟩, 7), (⟨"OddsLadder", "surpriseBehind", "(ZII)I"⟩, 7), (⟨"OddsLadder", "chance", "(ZII)J"⟩, 7), (⟨"OddsLadder", "leaderAt", "(II)I"⟩, 7), (⟨"OddsLadder", "digestWithCoins", "(J)J"⟩, 7), (⟨"OddsLadder", "needCoin", "(I)V"⟩, 7), (⟨"java/lang/Throwable", "fillInStackTrace", "(I)Ljava/lang/Throwable;"⟩, 6), (⟨"OddsLadder", "digestWithSchools", "(J)J"⟩, 7)]
theorem lw_r1 : ∀ q ∈ lw_privs_1, lw_okq q := List.forall_mem_cons.mpr ⟨lw_p0, List.forall_mem_cons.mpr ⟨lw_p1, List.forall_mem_cons.mpr ⟨lw_p2, List.forall_mem_cons.mpr ⟨lw_p3, List.forall_mem_cons.mpr ⟨lw_p4, List.forall_mem_cons.mpr ⟨lw_p5, List.forall_mem_cons.mpr ⟨lw_p6, List.forall_mem_cons.mpr ⟨lw_p7, List.forall_mem_cons.mpr ⟨lw_p8, List.forall_mem_cons.mpr ⟨lw_p9, List.forall_mem_cons.mpr ⟨lw_p10, List.forall_mem_cons.mpr ⟨lw_p11, List.forall_mem_cons.mpr ⟨lw_p12, List.forall_mem_cons.mpr ⟨lw_p13, List.forall_mem_cons.mpr ⟨lw_p14, List.forall_mem_cons.mpr ⟨lw_p15, fun _ h => absurd h List.not_mem_nil⟩⟩⟩⟩⟩⟩⟩⟩⟩⟩⟩⟩⟩⟩⟩⟩
theorem lw_p16 : lw_okq (⟨"OddsLadder", "schoolWeightNow", "(I)J"⟩, 7) := ⟨⟨by decide +kernel, by decide +kernel⟩, List.mem_of_getElem? (i := 10) (by decide +kernel), List.mem_of_getElem? (i := 231) (by decide +kernel), List.mem_of_getElem? (i := 232) (by decide +kernel)⟩
theorem lw_p17 : lw_okq (⟨"OddsLadder", "digestWithTosses", "(J)J"⟩, 7) := ⟨⟨by decide +kernel, by decide +kernel⟩, List.mem_of_getElem? (i := 10) (by decide +kernel), List.mem_of_getElem? (i := 235) (by decide +kernel), List.mem_of_getElem? (i := 236) (by decide +kernel)⟩
theorem lw_p18 : lw_okq (⟨"OddsLadder", "needNoTosses", "()V"⟩, 7) := ⟨⟨by decide +kernel, by decide +kernel⟩, List.mem_of_getElem? (i := 10) (by decide +kernel), List.mem_of_getElem? (i := 280) (by decide +kernel), List.mem_of_getElem? (i := 281) (by decide +kernel)⟩
theorem lw_p19 : lw_okq (⟨"OddsLadder", "needSchool", "(I)V"⟩, 7) := ⟨⟨by decide +kernel, by decide +kernel⟩, List.mem_of_getElem? (i := 10) (by decide +kernel), List.mem_of_getElem? (i := 302) (by decide +kernel), List.mem_of_getElem? (i := 303) (by decide +kernel)⟩
theorem lw_p20 : lw_okq (⟨"OddsLadder", "needPossible", "(Z)V"⟩, 7) := ⟨⟨by decide +kernel, by decide +kernel⟩, List.mem_of_getElem? (i := 10) (by decide +kernel), List.mem_of_getElem? (i := 316) (by decide +kernel), List.mem_of_getElem? (i := 317) (by decide +kernel)⟩
theorem lw_p21 : lw_okq (⟨"OddsLadder", "needToss", "(I)V"⟩, 7) := ⟨⟨by decide +kernel, by decide +kernel⟩, List.mem_of_getElem? (i := 10) (by decide +kernel), List.mem_of_getElem? (i := 336) (by decide +kernel), List.mem_of_getElem? (i := 337) (by decide +kernel)⟩
theorem lw_p22 : lw_okq (⟨"OddsLadderModel", "fail", "(I)I"⟩, 8) := ⟨⟨by decide +kernel, by decide +kernel⟩, List.mem_of_getElem? (i := 477) (by decide +kernel), List.mem_of_getElem? (i := 519) (by decide +kernel), List.mem_of_getElem? (i := 520) (by decide +kernel)⟩
theorem lw_p23 : lw_okq (⟨"OddsLadderModel", "isSchool", "(I)Z"⟩, 8) := ⟨⟨by decide +kernel, by decide +kernel⟩, List.mem_of_getElem? (i := 477) (by decide +kernel), List.mem_of_getElem? (i := 531) (by decide +kernel), List.mem_of_getElem? (i := 532) (by decide +kernel)⟩
theorem lw_p24 : lw_okq (⟨"OddsLadderModel", "isCoin", "(I)Z"⟩, 8) := ⟨⟨by decide +kernel, by decide +kernel⟩, List.mem_of_getElem? (i := 477) (by decide +kernel), List.mem_of_getElem? (i := 535) (by decide +kernel), List.mem_of_getElem? (i := 536) (by decide +kernel)⟩
theorem lw_p25 : lw_okq (⟨"OddsLadderModel", "canBe", "(Z)Z"⟩, 8) := ⟨⟨by decide +kernel, by decide +kernel⟩, List.mem_of_getElem? (i := 477) (by decide +kernel), List.mem_of_getElem? (i := 543) (by decide +kernel), List.mem_of_getElem? (i := 544) (by decide +kernel)⟩
theorem lw_p26 : lw_okq (⟨"OddsLadderModel", "headsNow", "()I"⟩, 8) := ⟨⟨by decide +kernel, by decide +kernel⟩, List.mem_of_getElem? (i := 477) (by decide +kernel), List.mem_of_getElem? (i := 547) (by decide +kernel), List.mem_of_getElem? (i := 548) (by decide +kernel)⟩
theorem lw_p27 : lw_okq (⟨"OddsLadderModel", "chance", "(ZII)J"⟩, 8) := ⟨⟨by decide +kernel, by decide +kernel⟩, List.mem_of_getElem? (i := 477) (by decide +kernel), List.mem_of_getElem? (i := 554) (by decide +kernel), List.mem_of_getElem? (i := 555) (by decide +kernel)⟩
theorem lw_p28 : lw_okq (⟨"OddsLadderModel", "whole", "(II)J"⟩, 8) := ⟨⟨by decide +kernel, by decide +kernel⟩, List.mem_of_getElem? (i := 477) (by decide +kernel), List.mem_of_getElem? (i := 558) (by decide +kernel), List.mem_of_getElem? (i := 559) (by decide +kernel)⟩
theorem lw_p29 : lw_okq (⟨"OddsLadderModel", "weight", "(III)J"⟩, 8) := ⟨⟨by decide +kernel, by decide +kernel⟩, List.mem_of_getElem? (i := 477) (by decide +kernel), List.mem_of_getElem? (i := 562) (by decide +kernel), List.mem_of_getElem? (i := 563) (by decide +kernel)⟩
theorem lw_p30 : lw_okq (⟨"OddsLadderModel", "given", "(I)I"⟩, 8) := ⟨⟨by decide +kernel, by decide +kernel⟩, List.mem_of_getElem? (i := 477) (by decide +kernel), List.mem_of_getElem? (i := 566) (by decide +kernel), List.mem_of_getElem? (i := 567) (by decide +kernel)⟩
theorem lw_p31 : lw_okq (⟨"OddsLadderModel", "falls", "(III)J"⟩, 8) := ⟨⟨by decide +kernel, by decide +kernel⟩, List.mem_of_getElem? (i := 477) (by decide +kernel), List.mem_of_getElem? (i := 570) (by decide +kernel), List.mem_of_getElem? (i := 571) (by decide +kernel)⟩
def lw_privs_2 : List (MethodName × Nat) := [(⟨"OddsLadder", "schoolWeightNow", "(I)J"⟩, 7), (⟨"OddsLadder", "digestWithTosses", "(J)J"⟩, 7), (⟨"OddsLadder", "needNoTosses", "()V"⟩, 7), (⟨"OddsLadder", "needSchool", "(I)V"⟩, 7), (⟨"OddsLadder", "needPossible", "(Z)V"⟩, 7), (⟨"OddsLadder", "needToss", "(I)V"⟩, 7), (⟨"OddsLadderModel", "fail", "(I)I"⟩, 8), (⟨"OddsLadderModel", "isSchool", "(I)Z"⟩, 8), (⟨"OddsLadderModel", "isCoin", "(I)Z"⟩, 8), (⟨"OddsLadderModel", "canBe", "(Z)Z"⟩, 8), (⟨"OddsLadderModel", "headsNow", "()I"⟩, 8), (⟨"OddsLadderModel", "chance", "(ZII)J"⟩, 8), (⟨"OddsLadderModel", "whole", "(II)J"⟩, 8), (⟨"OddsLadderModel", "weight", "(III)J"⟩, 8), (⟨"OddsLadderModel", "given", "(I)I"⟩, 8), (⟨"OddsLadderModel", "falls", "(III)J"⟩, 8)]
theorem lw_r2 : ∀ q ∈ lw_privs_2, lw_okq q := List.forall_mem_cons.mpr ⟨lw_p16, List.forall_mem_cons.mpr ⟨lw_p17, List.forall_mem_cons.mpr ⟨lw_p18, List.forall_mem_cons.mpr ⟨lw_p19, List.forall_mem_cons.mpr ⟨lw_p20, List.forall_mem_cons.mpr ⟨lw_p21, List.forall_mem_cons.mpr ⟨lw_p22, List.forall_mem_cons.mpr ⟨lw_p23, List.forall_mem_cons.mpr ⟨lw_p24, List.forall_mem_cons.mpr ⟨lw_p25, List.forall_mem_cons.mpr ⟨lw_p26, List.forall_mem_cons.mpr ⟨lw_p27, List.forall_mem_cons.mpr ⟨lw_p28, List.forall_mem_cons.mpr ⟨lw_p29, List.forall_mem_cons.mpr ⟨lw_p30, List.forall_mem_cons.mpr ⟨lw_p31, fun _ h => absurd h List.not_mem_nil⟩⟩⟩⟩⟩⟩⟩⟩⟩⟩⟩⟩⟩⟩⟩⟩
theorem lw_p32 : lw_okq (⟨"OddsLadderModel", "surprise", "(ZII)I"⟩, 8) := ⟨⟨by decide +kernel, by decide +kernel⟩, List.mem_of_getElem? (i := 477) (by decide +kernel), List.mem_of_getElem? (i := 577) (by decide +kernel), List.mem_of_getElem? (i := 578) (by decide +kernel)⟩
theorem lw_p33 : lw_okq (⟨"OddsLadderModel", "isToss", "(I)Z"⟩, 8) := ⟨⟨by decide +kernel, by decide +kernel⟩, List.mem_of_getElem? (i := 477) (by decide +kernel), List.mem_of_getElem? (i := 594) (by decide +kernel), List.mem_of_getElem? (i := 595) (by decide +kernel)⟩
theorem lw_p34 : lw_okq (⟨"OddsLadderModel", "told", "(I)I"⟩, 8) := ⟨⟨by decide +kernel, by decide +kernel⟩, List.mem_of_getElem? (i := 477) (by decide +kernel), List.mem_of_getElem? (i := 602) (by decide +kernel), List.mem_of_getElem? (i := 603) (by decide +kernel)⟩
theorem lw_p35 : lw_okq (⟨"OddsLadderModel", "isUp", "(I)Z"⟩, 8) := ⟨⟨by decide +kernel, by decide +kernel⟩, List.mem_of_getElem? (i := 477) (by decide +kernel), List.mem_of_getElem? (i := 622) (by decide +kernel), List.mem_of_getElem? (i := 623) (by decide +kernel)⟩
theorem lw_p36 : lw_okq (⟨"OddsLadderModel", "pair", "(II)J"⟩, 8) := ⟨⟨by decide +kernel, by decide +kernel⟩, List.mem_of_getElem? (i := 477) (by decide +kernel), List.mem_of_getElem? (i := 642) (by decide +kernel), List.mem_of_getElem? (i := 643) (by decide +kernel)⟩
theorem lw_p37 : lw_okq (⟨"OddsLadderModel", "here", "(I)J"⟩, 8) := ⟨⟨by decide +kernel, by decide +kernel⟩, List.mem_of_getElem? (i := 477) (by decide +kernel), List.mem_of_getElem? (i := 650) (by decide +kernel), List.mem_of_getElem? (i := 651) (by decide +kernel)⟩
theorem lw_p38 : lw_okq (⟨"OddsLadderModel", "schoolHere", "(I)J"⟩, 8) := ⟨⟨by decide +kernel, by decide +kernel⟩, List.mem_of_getElem? (i := 477) (by decide +kernel), List.mem_of_getElem? (i := 658) (by decide +kernel), List.mem_of_getElem? (i := 659) (by decide +kernel)⟩
theorem lw_p39 : lw_okq (⟨"OddsLadderModel", "all", "()J"⟩, 8) := ⟨⟨by decide +kernel, by decide +kernel⟩, List.mem_of_getElem? (i := 477) (by decide +kernel), List.mem_of_getElem? (i := 666) (by decide +kernel), List.mem_of_getElem? (i := 667) (by decide +kernel)⟩
theorem lw_p40 : lw_okq (⟨"OddsLadderModel", "gone", "()I"⟩, 8) := ⟨⟨by decide +kernel, by decide +kernel⟩, List.mem_of_getElem? (i := 477) (by decide +kernel), List.mem_of_getElem? (i := 678) (by decide +kernel), List.mem_of_getElem? (i := 679) (by decide +kernel)⟩
theorem lw_p41 : lw_okq (⟨"OddsLadderModel", "leads", "()I"⟩, 8) := ⟨⟨by decide +kernel, by decide +kernel⟩, List.mem_of_getElem? (i := 477) (by decide +kernel), List.mem_of_getElem? (i := 695) (by decide +kernel), List.mem_of_getElem? (i := 696) (by decide +kernel)⟩
theorem lw_p42 : lw_okq (⟨"OddsLadderModel", "leader", "(II)I"⟩, 8) := ⟨⟨by decide +kernel, by decide +kernel⟩, List.mem_of_getElem? (i := 477) (by decide +kernel), List.mem_of_getElem? (i := 699) (by decide +kernel), List.mem_of_getElem? (i := 700) (by decide +kernel)⟩
theorem lw_p43 : lw_okq (⟨"OddsLadderModel", "surprise", "(I)I"⟩, 8) := ⟨⟨by decide +kernel, by decide +kernel⟩, List.mem_of_getElem? (i := 477) (by decide +kernel), List.mem_of_getElem? (i := 715) (by decide +kernel), List.mem_of_getElem? (i := 716) (by decide +kernel)⟩
theorem lw_p44 : lw_okq (⟨"OddsLadderModel", "surprises", "()I"⟩, 8) := ⟨⟨by decide +kernel, by decide +kernel⟩, List.mem_of_getElem? (i := 477) (by decide +kernel), List.mem_of_getElem? (i := 723) (by decide +kernel), List.mem_of_getElem? (i := 724) (by decide +kernel)⟩
theorem lw_p45 : lw_okq (⟨"OddsLadderModel", "toLead", "(I)I"⟩, 8) := ⟨⟨by decide +kernel, by decide +kernel⟩, List.mem_of_getElem? (i := 477) (by decide +kernel), List.mem_of_getElem? (i := 747) (by decide +kernel), List.mem_of_getElem? (i := 748) (by decide +kernel)⟩
theorem lw_p46 : lw_okq (⟨"OddsLadderModel", "isFirst", "(III)Z"⟩, 8) := ⟨⟨by decide +kernel, by decide +kernel⟩, List.mem_of_getElem? (i := 477) (by decide +kernel), List.mem_of_getElem? (i := 751) (by decide +kernel), List.mem_of_getElem? (i := 752) (by decide +kernel)⟩
theorem lw_p47 : lw_okq (⟨"OddsLadderModel", "decisive", "()I"⟩, 8) := ⟨⟨by decide +kernel, by decide +kernel⟩, List.mem_of_getElem? (i := 477) (by decide +kernel), List.mem_of_getElem? (i := 759) (by decide +kernel), List.mem_of_getElem? (i := 760) (by decide +kernel)⟩
def lw_privs_3 : List (MethodName × Nat) := [(⟨"OddsLadderModel", "surprise", "(ZII)I"⟩, 8), (⟨"OddsLadderModel", "isToss", "(I)Z"⟩, 8), (⟨"OddsLadderModel", "told", "(I)I"⟩, 8), (⟨"OddsLadderModel", "isUp", "(I)Z"⟩, 8), (⟨"OddsLadderModel", "pair", "(II)J"⟩, 8), (⟨"OddsLadderModel", "here", "(I)J"⟩, 8), (⟨"OddsLadderModel", "schoolHere", "(I)J"⟩, 8), (⟨"OddsLadderModel", "all", "()J"⟩, 8), (⟨"OddsLadderModel", "gone", "()I"⟩, 8), (⟨"OddsLadderModel", "leads", "()I"⟩, 8), (⟨"OddsLadderModel", "leader", "(II)I"⟩, 8), (⟨"OddsLadderModel", "surprise", "(I)I"⟩, 8), (⟨"OddsLadderModel", "surprises", "()I"⟩, 8), (⟨"OddsLadderModel", "toLead", "(I)I"⟩, 8), (⟨"OddsLadderModel", "isFirst", "(III)Z"⟩, 8), (⟨"OddsLadderModel", "decisive", "()I"⟩, 8)]
theorem lw_r3 : ∀ q ∈ lw_privs_3, lw_okq q := List.forall_mem_cons.mpr ⟨lw_p32, List.forall_mem_cons.mpr ⟨lw_p33, List.forall_mem_cons.mpr ⟨lw_p34, List.forall_mem_cons.mpr ⟨lw_p35, List.forall_mem_cons.mpr ⟨lw_p36, List.forall_mem_cons.mpr ⟨lw_p37, List.forall_mem_cons.mpr ⟨lw_p38, List.forall_mem_cons.mpr ⟨lw_p39, List.forall_mem_cons.mpr ⟨lw_p40, List.forall_mem_cons.mpr ⟨lw_p41, List.forall_mem_cons.mpr ⟨lw_p42, List.forall_mem_cons.mpr ⟨lw_p43, List.forall_mem_cons.mpr ⟨lw_p44, List.forall_mem_cons.mpr ⟨lw_p45, List.forall_mem_cons.mpr ⟨lw_p46, List.forall_mem_cons.mpr ⟨lw_p47, fun _ h => absurd h List.not_mem_nil⟩⟩⟩⟩⟩⟩⟩⟩⟩⟩⟩⟩⟩⟩⟩⟩
def lw_privs : List (MethodName × Nat) := lw_privs_1 ++ (lw_privs_2 ++ (lw_privs_3))
def lw_tbl : List Cond := k2_sels lw_privs ++ tables_1
theorem lw_privs_ok : ∀ q ∈ lw_privs, lw_okq q := by
  show ∀ q ∈ lw_privs_1 ++ (lw_privs_2 ++ (lw_privs_3)), lw_okq q
  exact List.forall_mem_append.mpr ⟨lw_r1, List.forall_mem_append.mpr ⟨lw_r2, lw_r3⟩⟩
/-- the streams that the claim lets the run draw from -/
abbrev lw_cs : List Choice := [Jvm.Choice.named "NaN.bits"]
theorem lw_bits : nanBits ∈ lw_cs := by first | decide | exact List.mem_cons_self | simp [lw_cs, nanBits]
/-! ===== BEGIN words of one list among another's, by their places ===== -/
theorem goodIn_r {big : List Cond} (ws : List Cond) (ps : List Nat) (hp : ws = ps.filterMap (fun i => big[i]?)) (h : ws.all goodWord = true) : GoodIn big ws := by
  intro w hw
  have h1 := List.all_eq_true.mp h w hw
  rw [hp] at hw
  obtain ⟨i, -, hi⟩ := List.mem_filterMap.mp hw
  have hm : w ∈ big := by first | exact List.mem_of_getElem? hi | exact List.getElem?_mem hi
  exact ⟨hm, good_of_word h1⟩
theorem goodIn_app {big a b : List Cond} (ha : GoodIn big a) (hb : GoodIn big b) : GoodIn big (a ++ b) := fun w h => (List.mem_append.mp h).elim (ha w) (hb w)
theorem goodIn_ca {big a b : List Cond} {c : Cond} (ha : GoodIn big (c :: a)) (hb : GoodIn big b) : GoodIn big (c :: (a ++ b)) := fun w h => (List.mem_cons.mp h).elim (fun e => ha w (List.mem_cons.mpr (Or.inl e))) (fun h => (List.mem_append.mp h).elim (fun h => ha w (List.mem_cons.mpr (Or.inr h))) (hb w))
theorem goodIn_sub {big ws : List Cond} (hm : ∀ w ∈ ws, w ∈ big) (h : ws.all goodWord = true) : GoodIn big ws := fun w hw => ⟨hm w hw, good_of_word (List.all_eq_true.mp h w hw)⟩
/-! ===== END ===== -/

/-- the array class over arrays of t: the word of the tables, by itself -/
def va_AOA (t : FieldType) (U : State) : Prop := (Cond.arrayOver (.array t)).before #[] U = true
theorem va_AOA.of {t : FieldType} {A : Array Value} {U : State} (h : (Cond.arrayOver (.array t)).before A U = true) : va_AOA t U := h
theorem va_AOA.use {t : FieldType} {A : Array Value} {U : State} (h : va_AOA t U) : (Cond.arrayOver (.array t)).before A U = true := h
/-! ===== BEGIN new T[n][m]: the outer array a place, the inner ones among the pooled ===== -/
/-- f, but v at every address of l -/
def vr_up {α : Type} (f : Nat → α) (l : List Nat) (v : α) : Nat → α := fun a => if a ∈ l then v else f a
theorem vr_up_in {α : Type} {f : Nat → α} {l : List Nat} {v : α} {a : Nat} (h : a ∈ l) : vr_up f l v a = v := if_pos h
theorem vr_up_ne {α : Type} {f : Nat → α} {l : List Nat} {v : α} {a : Nat} (h : a ∉ l) : vr_up f l v a = f a := if_neg h
theorem vr_rows {L l : List Nat} {f : Nat → va_E} {e : va_E} (h : ∀ a, a ∈ l → a ∉ L) : va_pl L f ++ l.map (fun a => (a, e)) = va_pl (L ++ l) (vr_up f l e) := by
  unfold va_pl
  rw [List.map_append]
  congr 1
  · apply List.map_congr_left
    intro a ha
    rw [vr_up_ne (fun q => h a q ha)]
  · apply List.map_congr_left
    intro a ha
    rw [vr_up_in ha]
theorem vr_lay {X rows : va_W} {x : Nat × va_E} {pl : va_W} {D : va_G} {cl : List vw_C} {H : Heap} (hP : va_P D cl (((X ++ pl) ++ [x]) ++ rows) H) : va_P D cl ((X ++ [x]) ++ (pl ++ rows)) H := by
  rw [List.append_assoc (X ++ pl)] at hP
  have h := va_P.swap hP
  rw [← List.append_assoc X] at h
  have h2 := va_P.swap h
  rw [List.append_assoc (X ++ [x])] at h2
  exact h2
theorem vr_layD {X rows : va_W} {x : Nat × va_E} {pl : va_W} {A : Nat → Prop} (hD : va_D A (((X ++ pl) ++ [x]) ++ rows)) : va_D A ((X ++ [x]) ++ (pl ++ rows)) := by
  rw [List.append_assoc (X ++ pl)] at hD
  have h := va_D.swap hD
  rw [← List.append_assoc X] at h
  have h2 := va_D.swap h
  rw [List.append_assoc (X ++ [x])] at h2
  exact h2
theorem vr_outer (c : ClassId) (N h0 : Nat) : ∀ i : Nat, Jvm.Free.Multi.outerC c N h0 i = arrV c N (fun j => va_rf (if j < i then some (h0 + 1 + j) else none))
  | 0 => by
    show ({ cls := c, slots := Array.replicate N .null, vm := .none } : Cell) = _
    rw [arrV_new]
    refine congrArg (arrV c N) (funext fun j => ?_)
    simp [va_rf]
  | i + 1 => by
    show (Jvm.Free.Multi.outerC c N h0 i).setSlot i (.ref (h0 + 1 + i)) = _
    rw [vr_outer c N h0 i, arrV_store]
    refine congrArg (arrV c N) (funext fun j => ?_)
    by_cases e : j = i
    · subst e
      simp [updV, va_rf]
    · by_cases h : j < i
      · simp [updV, e, h, Nat.lt_succ_of_lt h]
      · simp [updV, e, h, show ¬ j < i + 1 by omega]
section VGM
variable {p : Program} {l : Launch} {e : Env} {R : Room} {s : State} {m : MethodId} {args : Array Value} {below : List Frame} {meth : Method} {c : Code} {H : Heap} {locs : List Loc} {cells slots : Nat} {Q : State → Prop}
variable {cc : ByteArray} {pc : Nat} {ls : Array Slot} {rest : List Value} {D : va_G} {cl : List vw_C} {A : Nat → Prop} {a : Nat} {tys : List (ClassId × FieldType)} {ws : va_W} {H0 : Heap}
theorem va_mna {X : va_W} {L : List Nat} {f : Nat → va_E} {cc : ByteArray} (hexec : p.tables.exec = Jvm.exec) (hb : c.code = cc) {own : String} {index : Nat} {ty : FieldType} {cy : ClassId} (hown : s.vm.findClass own = some m.cls) (hclink : (Cond.classLink own index ("[" ++ (FieldType.array ty).toString)).before args s = true) (hover : va_AOA ty s) (harr : (Cond.arrayClass ty).before args s = true) (hcy : s.vm.findClass (FieldType.array ty).toString = some cy)
    (hK : va_K D cl tys s) (hP : va_P D cl (X ++ va_pl L f) H) (hD : va_D A (X ++ va_pl L f)) (hS : va_S A H0 H locs) (hA : ∀ q, H0.size ≤ q → A q) {n k : Int32} {N' K' : Nat} {z : vp_A} (hn : ¬ n < 0) (hk : ¬ k < 0) (hN : n.toNatClampNeg = N') (hM : k.toNatClampNeg = K')
    (hb1 : N' * 4 ≤ 536870912) (hb2 : K' * componentBytes ty ≤ 536870912) (hb3 : K' ≤ 536870912) (hdf : fits ty (defaultValue ty) = true) (hdd : (defaultValue ty).isDefault = true) (hcells : cells + (1 + N') ≤ R.cells) (hslots : slots + (N' + N' * K') ≤ R.slots) (hz : ∀ c : ClassId, Jvm.Free.Multi.innerC c K' (defaultValue ty) = vp_cell c z) (hdg : decode cc pc = .ok (.multianewarray index 2, 4))
    (kk : ∀ (q : Nat) (r : Nat → Nat) (cA : ClassId) (H1 : Heap), (∀ i j : Nat, i < N' → j < N' → r i = r j → i = j) → (∀ i : Nat, i < N' → r i ∉ L) → va_K D cl (tys ++ [(cA, .array ty)]) s →
      va_P D cl ((X ++ [(q, .inl (cA, N', .inr (.inr (.inr (.inr (fun i => if i < N' then some (r i) else none))))))]) ++ va_pl (L ++ (List.range N').map r) (vr_up f ((List.range N').map r) (.inl (cy, z)))) H1 → va_D A ((X ++ [(q, .inl (cA, N', .inr (.inr (.inr (.inr (fun i => if i < N' then some (r i) else none))))))]) ++ va_pl (L ++ (List.range N').map r) (vr_up f ((List.range N').map r) (.inl (cy, z)))) → va_S A H0 H1 locs →
      W p l e R s m args below meth c H1 locs (cells + 1 + N') (slots + N' + N' * K') Q (F0 m (pc + 4) ls (.ref q :: rest))) : W p l e R s m args below meth c H locs cells slots Q (F0 m pc ls (.int k :: .int n :: rest)) := by
  subst hN
  subst hM
  intro T hT Xs
  obtain ⟨vm₁, cA, comp, -, fA, fC, hO, -, X', step⟩ := Xs.multianewarray2F hexec hown hclink (va_AOA.use hover) harr (g := F0 m pc ls (.int k :: .int n :: rest)) rfl (by rw [hb]; exact hdg) rfl hn hk hb1 hb2 hb3 hdf hdd hcells hslots
  have ec : some cy = some comp := hcy.symm.trans fC
  cases ec
  generalize hF : Jvm.Free.Multi.fill (T.setVm vm₁) cA cy n.toNatClampNeg k.toNatClampNeg (defaultValue ty) n.toNatClampNeg = F at X' step
  have hTh : (T.setVm vm₁).heap = H := hT
  obtain ⟨f1, f2, -, -⟩ := Jvm.Free.Multi.fill_facts (T.setVm vm₁) cA cy n.toNatClampNeg k.toNatClampNeg (defaultValue ty) n.toNatClampNeg
  rw [hF, hTh] at f1 f2
  have hold : ∀ x : Nat, x < H.size → F.heap[x]? = H[x]? := fun x hx => by
    have := Jvm.Free.Multi.fill_old (T.setVm vm₁) cA cy n.toNatClampNeg k.toNatClampNeg (defaultValue ty) (a := x) (by rw [hTh]; exact hx) n.toNatClampNeg
    rw [hF, hTh] at this
    exact this
  have hrow : ∀ j : Nat, j < n.toNatClampNeg → F.heap[H.size + 1 + j]? = some (vp_cell cy z) := fun j hj => by
    have := Jvm.Free.Multi.fill_inner (T.setVm vm₁) cA cy n.toNatClampNeg k.toNatClampNeg (defaultValue ty) n.toNatClampNeg j hj
    rw [hF, hTh, hz] at this
    exact this
  have hout : Jvm.Free.Multi.outerC cA n.toNatClampNeg H.size n.toNatClampNeg = vp_cell cA (n.toNatClampNeg, .inr (.inr (.inr (.inr (fun i => if i < n.toNatClampNeg then some (H.size + 1 + i) else none))))) := by
    rw [vp_cell_q]
    exact vr_outer cA n.toNatClampNeg H.size n.toNatClampNeg
  rw [hout] at f2
  have hlt : ∀ a, a ∈ L → a < H.size := fun a ha => by
    obtain ⟨k9, hk9⟩ := va_pl_get (X := X) (f := f) ha
    exact (hP k9 _ hk9).lt
  have hnl : ∀ i : Nat, i < n.toNatClampNeg → H.size + 1 + i ∉ L := fun i _ h => by
    have := hlt _ h
    omega
  have hnm : ∀ a, a ∈ (List.range n.toNatClampNeg).map (fun i => H.size + 1 + i) → a ∉ L := fun a ha h => by
    obtain ⟨i, -, rfl⟩ := List.mem_map.mp ha
    have := hlt _ h
    omega
  have hP0 : va_P D cl (X ++ va_pl L f) F.heap := hP.kept (fun k9 x hx => hold x.1 ((hP k9 x hx).lt))
  have hP1 : va_P D cl ((X ++ va_pl L f) ++ [(H.size, .inl (cA, n.toNatClampNeg, .inr (.inr (.inr (.inr (fun i => if i < n.toNatClampNeg then some (H.size + 1 + i) else none))))))]) F.heap := hP0.app (fun k9 x hx => by
    have h0 : k9 < 1 := (List.getElem?_eq_some_iff.mp hx).1
    rw [show k9 = 0 by omega] at hx
    cases hx
    exact f2)
  have hP2 : va_P D cl (((X ++ va_pl L f) ++ [(H.size, .inl (cA, n.toNatClampNeg, .inr (.inr (.inr (.inr (fun i => if i < n.toNatClampNeg then some (H.size + 1 + i) else none))))))]) ++ ((List.range n.toNatClampNeg).map (fun i => H.size + 1 + i)).map (fun a => (a, .inl (cy, z)))) F.heap := hP1.app (fun k9 x hx => by
    obtain ⟨a, ha, rfl⟩ := List.mem_map.mp (List.mem_of_getElem? hx)
    obtain ⟨i, hi, rfl⟩ := List.mem_map.mp ha
    exact hrow i (List.mem_range.mp hi))
  have hD2 : va_D A (((X ++ va_pl L f) ++ [(H.size, .inl (cA, n.toNatClampNeg, .inr (.inr (.inr (.inr (fun i => if i < n.toNatClampNeg then some (H.size + 1 + i) else none))))))]) ++ ((List.range n.toNatClampNeg).map (fun i => H.size + 1 + i)).map (fun a => (a, .inl (cy, z)))) := by
    have hD1 := hD.push (e := .inl (cA, n.toNatClampNeg, .inr (.inr (.inr (.inr (fun i => if i < n.toNatClampNeg then some (H.size + 1 + i) else none)))))) hP rfl (hA _ hS.1)
    generalize hW1 : (X ++ va_pl L f) ++ [(H.size, .inl (cA, n.toNatClampNeg, .inr (.inr (.inr (.inr (fun i => if i < n.toNatClampNeg then some (H.size + 1 + i) else none))))))] = W1 at hD1 hP1 ⊢
    have hle : ∀ (k9 : Nat) (x : Nat × va_E), W1[k9]? = some x → x.1 ≤ H.size := fun k9 x hx => by
      rw [← hW1] at hx
      by_cases hl : k9 < (X ++ va_pl L f).length
      · rw [List.getElem?_append_left hl] at hx
        exact Nat.le_of_lt ((hP k9 x hx).lt)
      · rw [List.getElem?_append_right (by omega)] at hx
        have h0 : k9 - (X ++ va_pl L f).length < 1 := (List.getElem?_eq_some_iff.mp hx).1
        rw [show k9 - (X ++ va_pl L f).length = 0 by omega] at hx
        cases hx
        exact Nat.le_refl _
    have hr : ∀ (k9 : Nat) (x : Nat × va_E), (((List.range n.toNatClampNeg).map (fun i => H.size + 1 + i)).map (fun a => ((a, .inl (cy, z)) : Nat × va_E)))[k9]? = some x → x.1 = H.size + 1 + k9 := fun k9 x hx => by
      rw [List.getElem?_map, List.getElem?_map] at hx
      by_cases h9 : k9 < n.toNatClampNeg
      · rw [List.getElem?_range h9] at hx
        cases hx
        rfl
      · have hn0 : (List.range n.toNatClampNeg)[k9]? = none := List.getElem?_eq_none (by rw [List.length_range]; omega)
        rw [hn0] at hx
        cases hx
    refine ⟨fun i j x y hi hj hxy => ?_, fun k9 x hx => ?_⟩
    · by_cases h1 : i < W1.length <;> by_cases h2 : j < W1.length
      · rw [List.getElem?_append_left h1] at hi
        rw [List.getElem?_append_left h2] at hj
        exact hD1.1 i j x y hi hj hxy
      · rw [List.getElem?_append_left h1] at hi
        rw [List.getElem?_append_right (by omega)] at hj
        have := hle _ _ hi
        have := hr _ _ hj
        omega
      · rw [List.getElem?_append_right (by omega)] at hi
        rw [List.getElem?_append_left h2] at hj
        have := hle _ _ hj
        have := hr _ _ hi
        omega
      · rw [List.getElem?_append_right (by omega)] at hi hj
        have := hr _ _ hi
        have := hr _ _ hj
        omega
    · by_cases h1 : k9 < W1.length
      · rw [List.getElem?_append_left h1] at hx
        exact hD1.2 k9 x hx
      · rw [List.getElem?_append_right (by omega)] at hx
        have := hr _ _ hx
        exact hA _ (by have := hS.1; omega)
  have hAr : ArrOfT s cA (.array ty) := fun N9 z9 => by
    obtain ⟨-, k9, hk9, cm9, hkk9⟩ := (hO 0 0 0).1
    exact ⟨(fun q hq => by cases hq), k9, hk9, cm9, hkk9⟩
  have hK2 : va_K D cl (tys ++ [(cA, .array ty)]) s := ⟨hK.1, fun k9 x hx => by
    by_cases hl : k9 < tys.length
    · rw [List.getElem?_append_left hl] at hx
      exact hK.2 k9 x hx
    · rw [List.getElem?_append_right (by omega)] at hx
      have h0 : k9 - tys.length < 1 := (List.getElem?_eq_some_iff.mp hx).1
      rw [show k9 - tys.length = 0 by omega] at hx
      cases hx
      exact ⟨hAr, fA⟩⟩
  obtain ⟨t, a1, b1⟩ := kk H.size (fun i => H.size + 1 + i) cA F.heap (fun i j _ _ h => by have h9 : H.size + 1 + i = H.size + 1 + j := h; omega) hnl hK2 (by rw [← vr_rows hnm]; exact vr_lay hP2) (by rw [← vr_rows hnm]; exact vr_layD hD2) ⟨by rw [f1]; have := hS.1; omega, fun x h1 h2 => (hold x (Nat.lt_of_lt_of_le h1 hS.1)).trans (hS.2.1 x h1 h2), hS.2.2⟩ F rfl X'
  refine ⟨t, step t ?_, b1⟩
  have e : T.heap.size = H.size := by rw [hT]
  rw [e]
  exact a1
end VGM
/-! ===== END ===== -/

/-! ===== BEGIN exceptions that leave a method, and their catching by the caller (launches without stack traces) ===== -/
section VXA
/-! The laws vx_back, vx_callV, vx_callS, vx_callSW, vx_throw0, vx_throwS follow proofs of the library, with one case more: JvmDerived/Free/Laws.lean (Back.of_free), Shelf42/LK1.lean (callV, callS), Shelf/KitTraced.lean (throwNew0V, throwNewS). -/
/-- where a method has thrown q: the class by its name, the cell, what was written, the world -/
def vx_T (XC : String → State → State → Prop) (st : State) (q : Addr) (t : State) (mc ms : Nat) (free : Addr → Prop) : Prop :=
  ∃ (E : String) (ce : Cell) (L : List Loc), XC E st t ∧ t.heap[q]? = some ce ∧ ce.vm = .none ∧ st.vm.findClass E = some ce.cls ∧ st.WarmedH t.vm ∧ st.sameButNew ({ t with vm := st.vm } : State) L mc ms ∧ ∀ z ∈ L, free z.base
def vx_Q (Qc : Array Value → State → Outcome → State → Prop) (XC : String → State → State → Prop) (mc ms : Nat) (free : Addr → Prop) : Array Value → State → Outcome → State → Prop := fun a st o t =>
  (Qc a st o t ∧ ∃ L, FrameEnd st o t L mc ms ∧ ∀ q ∈ L, free q.base) ∨ ∃ q, o = .threw q ∧ vx_T XC st q t mc ms free
/-- a callee that returns or throws -/
def vx_Met (l : Launch) (y : MethodName) (ws : List Cond) (rm : Room) (Pc : Array Value → State → Prop) (Qc : Array Value → State → Outcome → State → Prop) (XC : String → State → State → Prop) (mc ms : Nat) (free : Addr → Prop) : Prop :=
  MetFree l y (headSpec ws rm) Pc (fun _ _ _ _ _ => True) (vx_Q Qc XC mc ms free)
def vx_Post (XC : String → State → State → Prop) (mc ms : Nat) (free : Addr → Prop) : Pt → Array Value → Addr → Pt → Prop := fun A a q B =>
  ∃ (g : JFrame) (mk : MethodId) (t : State) (L : List Loc) (E : String) (ce : Cell), B.U.heap = t.heap ∧ B.U.vm = t.vm ∧ XC E (A.U.calling g mk a) t ∧ t.heap[q]? = some ce ∧ ce.vm = .none ∧ A.U.vm.findClass E = some ce.cls ∧ B.locs = A.locs ++ L ∧ (∀ z ∈ L, free z.base) ∧ B.cells = A.cells + mc ∧ B.slots = A.slots + ms
def vx_Back (l : Launch) (R : Room) (p : Program) (e : Env) (below : List Frame) (s : State) (sargs : Array Value) (y : MethodName) (len W9 : Nat)
    (Pre : Pt → Array Value → Prop) (Post : Pt → Array Value → Option Value → Pt → Prop) (PostX : Pt → Array Value → Addr → Pt → Prop) : Prop :=
  ∀ (m : MethodId) (meth : Method) (c : Code) (A : Pt) (g : JFrame) (ig : Instr) (mk : MethodId) (a : Array Value),
    Stand p l e R s m sargs below meth c A.U A.locs A.cells A.slots → g.method = m → g.locals.size = c.maxLocals → decode c.code g.pc = .ok (ig, len) →
    2 * g.monitorRoom + (g.stack.map fun v => v.category).sum ≤ W9 → A.U.methodNamed? y = some mk → Pre A a →
    (∃ (v : Option Value) (B : Pt), Stand p l e R s m sargs below meth c B.U B.locs B.cells B.slots ∧ Post A a v B ∧
      Steps p.tables e below (doInvoke e (A.U.setTop g) [] mk a).1 (B.U.setTop { g with pc := g.pc + len, stack := v.toList ++ g.stack })) ∨
    (∃ (q : Addr) (B : Pt), Stand p l e R s m sargs below meth c B.U B.locs B.cells B.slots ∧ PostX A a q B ∧
      Steps p.tables e below (doInvoke e (A.U.setTop g) [] mk a).1 ((B.U.setTop g).pushFrame (.throwing q)))
section Payer
variable {l : Launch} {R : Room} {p : Program} {e : Env} {below : List Frame} {s : State} {sargs : Array Value} {y : MethodName} {len W9 : Nat}
theorem vx_back {ws : List Cond} {rm : Room} {Pc : Array Value → State → Prop} {Qc : Array Value → State → Outcome → State → Prop} {XC : String → State → State → Prop} {mc ms : Nat} {free : Addr → Prop} {bytes : ByteArray} {maxL : Nat} {ret : Option FieldType}
    (hM : vx_Met l y ws rm Pc Qc XC mc ms free) (hblind : FrameBlind Pc) (hrc : rm.cells = mc) (hrs : rm.slots = ms)
    (hframes : rm.frames + 1 ≤ R.frames) (hlocals : W9 + (maxL + 11) + rm.locals ≤ R.locals)
    (hws : ∀ w ∈ ws, ∀ a' U, s.WarmedH U.vm → w.before a' U = true) (hcode : Cond.code y bytes maxL ret ∈ ws) (hinit : ∀ a' U, s.WarmedH U.vm → (Cond.initialized y.cls).before a' U = true) :
    vx_Back l R p e below s sargs y len W9 (PreOf R mc ms Pc) (PostOf Qc mc ms free) (vx_Post XC mc ms free) := by
  intro m meth c A g ig mk a X hg hsize hdg hW hn hp
  have h1 : (headSpec ws rm).pre.before a A.U = true := atoms_intro fun w hw => hws w hw _ _ X.warmed
  have h2 : (Cond.code y bytes maxL ret).before a A.U = true := hws _ hcode _ _ X.warmed
  have h3 : (Cond.initialized y.cls).before a A.U = true := hinit _ _ X.warmed
  have h4 : A.cells + (headSpec ws rm).room.cells ≤ R.cells := by rw [show (headSpec ws rm).room.cells = mc from hrc]; exact hp.1
  have h5 : A.slots + (headSpec ws rm).room.slots ≤ R.slots := by rw [show (headSpec ws rm).room.slots = ms from hrs]; exact hp.2.1
  have hPc : Pc a (A.U.calling g mk a) := hblind _ _ _ _ hp.2.2
  obtain ⟨U, Ls, c0, s0⟩ := A
  dsimp only [Pt.U, Pt.locs, Pt.cells, Pt.slots] at h1 h2 h3 h4 h5 X hn hPc ⊢
  obtain ⟨methY, cY, hmY, hcY, -, hlY, -, -, -, -⟩ := Cond.code_spec hn h2
  obtain ⟨kY, hkY, -⟩ := className_of_methodNamed hn
  have hinitY : kY.init = .initialized := Cond.initialized_spec (findClass_of_methodNamed hn) hkY h3
  have h : At U g.method c below := by rw [hg]; exact X.here
  have hlocals9 : W9 + (maxL + 11) + (headSpec ws rm).room.locals ≤ R.locals := hlocals
  have happ : (headSpec ws rm).appliesLoose y e.platform (U.calling g mk a) = true :=
    Spec.appliesLoose_calling (g := g) h hdg hn hkY hinitY
      (X.room_calling (g := g) (R' := (headSpec ws rm).room) hsize hmY hcY hframes (by rw [hlY]; omega) h4 h5) h1
  obtain ⟨mid, hmid⟩ := h.above
  have hfr : (U.setTop g).frames = (.java g :: mid) ++ below := by rw [State.frames_setTop' g h.top, hmid]; rfl
  obtain ⟨o, s₂, hsteps, -, hend, hq⟩ := Steps.callFree hM p X.admits X.cas X.clock (acts := []) hfr happ hPc trivial
  have hq' : vx_Q Qc XC mc ms free a (U.calling g mk a) o s₂ := hq
  rw [State.frames_setTop' g h.top] at hend
  obtain ⟨g₀, hg0⟩ := Option.isSome_iff_exists.mp h.top
  obtain ⟨r, hr⟩ := State.topJava?_eq_some.mp hg0
  have hr' : (({ U with heap := s₂.heap, slotsUsed := s₂.slotsUsed } : State).setVm s₂.vm).frames = .java g₀ :: r := hr
  rcases hq' with ⟨hqc, L, hfe, hL⟩ | ⟨q, rfl, E, ce, L, hx, hce, hcv, hcl, hW₂, hsm, hL⟩
  · obtain ⟨⟨v, rfl⟩, hW₂, e2, q2, q3, q4, q5, q6⟩ := id hfe
    have e3 : s₂ = ({ (U.calling g mk a).setFrames s₂.frames with heap := s₂.heap, slotsUsed := s₂.slotsUsed } : State).setVm s₂.vm := by
      have : s₂ = ({ s₂ with vm := (U.calling g mk a).vm } : State).setVm s₂.vm := rfl
      rw [e2] at this
      exact this
    obtain ⟨c₂, i₂, len₂, hc₂, hd₂, hf₂⟩ := hend
    have hW' : U.WarmedH s₂.vm := hW₂
    have hcc : c₂ = c := by
      have h1 : s₂.code? g.method = U.code? g.method := by
        rw [State.code?_eq, State.code?_eq, hW'.alike.method?]
      exact Option.some.inj (hc₂.symm.trans (h1.trans h.code))
    subst hcc
    have hlen : len₂ = len := by rw [hdg] at hd₂; cases hd₂; rfl
    subst hlen
    have hs₂ : s₂ = (({ U with heap := s₂.heap, slotsUsed := s₂.slotsUsed } : State).setVm s₂.vm).setTop { g with pc := g.pc + len₂, stack := v.toList ++ g.stack } := by
      refine e3.trans ?_
      rw [hf₂, State.calling_eq h.top, State.setFrames_setFrames, State.setTop_of_frames _ hr', hr]
      rfl
    have hsame : U.sameButNew ({ U with heap := s₂.heap, slotsUsed := s₂.slotsUsed } : State) L mc ms := by
      refine ⟨?_, q2, q3, q4, q5, q6⟩
      obtain ⟨t, ht, -⟩ := State.frames_cons hr
      show ({ U with heap := s₂.heap, slotsUsed := s₂.slotsUsed } : State) = { U.setFrames U.frames with heap := s₂.heap, slotsUsed := s₂.slotsUsed }
      rw [State.setFrames_self ht]
    subst hg
    refine Or.inl ⟨v, ⟨(({ U with heap := s₂.heap, slotsUsed := s₂.slotsUsed } : State).setVm s₂.vm), Ls ++ L, c0 + mc, s0 + ms⟩,
      ⟨X.admits, X.cas, X.clock, X.frames, X.room, X.hears, X.method, X.code, (X.here.setHeapUsed s₂.heap s₂.slotsUsed).setVm hW'.alike, X.tail, State.WarmedH.trans X.warmed hW', X.limits, X.bytes, X.same.trans (hsame.setVm s.vm)⟩,
      ⟨g, mk, s₂, L, rfl, rfl, hqc, rfl, hL, rfl, rfl⟩, ?_⟩
    show Steps p.tables e below _ ((({ U with heap := s₂.heap, slotsUsed := s₂.slotsUsed } : State).setVm s₂.vm).setTop { g with pc := g.pc + len₂, stack := v.toList ++ g.stack })
    rw [← hs₂]
    exact hsteps
  · obtain ⟨e2, q2, q3, q4, q5, q6⟩ := id hsm
    have e3 : s₂ = ({ (U.calling g mk a).setFrames s₂.frames with heap := s₂.heap, slotsUsed := s₂.slotsUsed } : State).setVm s₂.vm := by
      have : s₂ = ({ s₂ with vm := (U.calling g mk a).vm } : State).setVm s₂.vm := rfl
      rw [e2] at this
      exact this
    have hf₂ : s₂.frames = .throwing q :: .java g :: U.frames.tail := hend
    have hW' : U.WarmedH s₂.vm := hW₂
    have hs₂ : s₂ = ((({ U with heap := s₂.heap, slotsUsed := s₂.slotsUsed } : State).setVm s₂.vm).setTop g).pushFrame (.throwing q) := by
      refine e3.trans ?_
      rw [hf₂, State.calling_eq h.top, State.setFrames_setFrames, State.pushFrame, State.frames_setTop _ hr', State.setTop_of_frames _ hr', State.setFrames_setFrames, hr]
      rfl
    have hsame : U.sameButNew ({ U with heap := s₂.heap, slotsUsed := s₂.slotsUsed } : State) L mc ms := by
      refine ⟨?_, q2, q3, q4, q5, q6⟩
      obtain ⟨t, ht, -⟩ := State.frames_cons hr
      show ({ U with heap := s₂.heap, slotsUsed := s₂.slotsUsed } : State) = { U.setFrames U.frames with heap := s₂.heap, slotsUsed := s₂.slotsUsed }
      rw [State.setFrames_self ht]
    subst hg
    refine Or.inr ⟨q, ⟨(({ U with heap := s₂.heap, slotsUsed := s₂.slotsUsed } : State).setVm s₂.vm), Ls ++ L, c0 + mc, s0 + ms⟩,
      ⟨X.admits, X.cas, X.clock, X.frames, X.room, X.hears, X.method, X.code, (X.here.setHeapUsed s₂.heap s₂.slotsUsed).setVm hW'.alike, X.tail, State.WarmedH.trans X.warmed hW', X.limits, X.bytes, X.same.trans (hsame.setVm s.vm)⟩,
      ⟨g, mk, s₂, L, E, ce, rfl, rfl, hx, hce, hcv, hcl, rfl, hL, rfl, rfl⟩, ?_⟩
    show Steps p.tables e below _ (((({ U with heap := s₂.heap, slotsUsed := s₂.slotsUsed } : State).setVm s₂.vm).setTop g).pushFrame (.throwing q))
    rw [← hs₂]
    exact hsteps
end Payer
section Calls
variable {p : Program} {l : Launch} {e : Env} {R : Room} {s : State} {m : MethodId} {args : Array Value} {below : List Frame} {meth : Method} {c : Code} {T : State} {locs : List Loc} {cells slots : Nat}
theorem vx_callV (X : Stand p l e R s m args below meth c T locs cells slots) (hexec : p.tables.exec = Jvm.exec) {own C : String} {index : Nat} {y : MethodName} {bytes : ByteArray} {maxL : Nat} {ret : Option FieldType}
    (hown : s.vm.findClass own = some m.cls) (hlink : (Cond.methodLink own index y).before args s = true) (hinst : (Cond.instanceMethod y).before args s = true) (hsel : (Cond.selects C y y).before args s = true)
    (hcode : (Cond.code y bytes maxL ret).before args s = true) (hy : y.cls ≠ "java/lang/invoke/MethodHandle" ∧ y.cls ≠ "java/lang/invoke/VarHandle")
    {W9 : Nat} {Pre : Pt → Array Value → Prop} {Post : Pt → Array Value → Option Value → Pt → Prop} {PostX : Pt → Array Value → Addr → Pt → Prop} (hK : vx_Back l R p e below s args y 3 W9 Pre Post PostX)
    {b : Addr} {cellB : Cell} (hcell : T.heap[b]? = some cellB) (hobj : cellB.vm.isStatics = false) (hcls : s.vm.findClass C = some cellB.cls)
    {g : JFrame} (hg : g.method = m) (hsize : g.locals.size = c.maxLocals) {argsL rest : List Value} (hlen : ∀ sig, parseMethodDescriptor y.desc = some sig → argsL.length = sig.parameters.length)
    (hstack : g.stack = argsL.reverse ++ .ref b :: rest) (hW : 2 * g.monitorRoom + (rest.map fun v => v.category).sum ≤ W9) (hdg : decode c.code g.pc = .ok (.invokevirtual index, 3))
    (hpre : ∀ vm₁, s.WarmedH vm₁ → Pre ⟨T.setVm vm₁, locs, cells, slots⟩ (Value.ref b :: argsL).toArray) :
    (∃ (v : Option Value) (vm₁ : Vm) (B : Pt), s.WarmedH vm₁ ∧ Stand p l e R s m args below meth c B.U B.locs B.cells B.slots ∧ Post ⟨T.setVm vm₁, locs, cells, slots⟩ (Value.ref b :: argsL).toArray v B ∧
      ∀ target, Steps p.tables e below (B.U.setTop { g with pc := g.pc + 3, stack := v.toList ++ rest }) target → Steps p.tables e below (T.setTop g) target) ∨
    (∃ (q : Addr) (vm₁ : Vm) (B : Pt), s.WarmedH vm₁ ∧ Stand p l e R s m args below meth c B.U B.locs B.cells B.slots ∧ PostX ⟨T.setVm vm₁, locs, cells, slots⟩ (Value.ref b :: argsL).toArray q B ∧
      Steps p.tables e below (T.setTop g) ((B.U.setTop { g with stack := rest }).pushFrame (.throwing q))) := by
  obtain ⟨mk, methM, hnamed, hmethM, hstM, habM⟩ := Cond.instanceMethod_spec hinst
  obtain ⟨methM', cM, hmethM', -, -, -, -, -, -, hsigM⟩ := Cond.code_spec hnamed hcode
  cases hmethM.symm.trans hmethM'
  obtain ⟨c2, r2, m2, q1, q2, q3, q4, kP, hkP, hkPi⟩ := Cond.selects_spec hsel
  cases hcls.symm.trans q1
  cases (State.methodFound?_of_named hnamed hy).symm.trans q2
  cases hnamed.symm.trans q3
  have hselP : selectMethod e.platform s.vm cellB.cls mk = .method mk := by rw [Launch.admits_selectMethod X.admits]; exact q4
  obtain ⟨vm₁, X₁, hstep₁⟩ := X.invokevirtual hexec hown hlink hnamed hmethM hstM hkP hkPi hy (a := b) (cell := cellB) hcell
    (fun z h => by rw [h] at hobj; cases hobj) hselP hmethM habM hkP hkPi (g := g) hg (argsL := argsL) (rest := rest) (hlen _ hsigM) hstack hdg
  rcases hK m meth c ⟨T.setVm vm₁, locs, cells, slots⟩ { g with stack := rest } (.invokevirtual index) mk (Value.ref b :: argsL).toArray X₁ hg hsize hdg hW (X₁.named hnamed) (hpre vm₁ X₁.warmed) with ⟨v, B, X', hpost, hsteps⟩ | ⟨q, B, X', hpost, hsteps⟩
  · exact Or.inl ⟨v, vm₁, B, X₁.warmed, X', hpost, fun target h => hstep₁ _ fun acts => by rw [doInvoke_state]; exact hsteps.trans h⟩
  · exact Or.inr ⟨q, vm₁, B, X₁.warmed, X', hpost, hstep₁ _ fun acts => by rw [doInvoke_state]; exact hsteps⟩
theorem vx_callS (X : Stand p l e R s m args below meth c T locs cells slots) (hexec : p.tables.exec = Jvm.exec) {own : String} {index : Nat} {y : MethodName} {bytes : ByteArray} {maxL : Nat} {ret : Option FieldType}
    (hown : s.vm.findClass own = some m.cls) (hlink : (Cond.methodLink own index y).before args s = true) (hstat : (Cond.static y).before args s = true) (hinit : (Cond.initialized y.cls).before args s = true)
    (hcode : (Cond.code y bytes maxL ret).before args s = true) (hy : y.cls ≠ "java/lang/invoke/MethodHandle" ∧ y.cls ≠ "java/lang/invoke/VarHandle")
    {W9 : Nat} {Pre : Pt → Array Value → Prop} {Post : Pt → Array Value → Option Value → Pt → Prop} {PostX : Pt → Array Value → Addr → Pt → Prop} (hK : vx_Back l R p e below s args y 3 W9 Pre Post PostX)
    {g : JFrame} (hg : g.method = m) (hsize : g.locals.size = c.maxLocals) {argsL rest : List Value} (hlen : ∀ sig, parseMethodDescriptor y.desc = some sig → argsL.length = sig.parameters.length)
    (hstack : g.stack = argsL.reverse ++ rest) (hW : 2 * g.monitorRoom + (rest.map fun v => v.category).sum ≤ W9) (hdg : decode c.code g.pc = .ok (.invokestatic index, 3))
    (hpre : ∀ vm₁, s.WarmedH vm₁ → Pre ⟨T.setVm vm₁, locs, cells, slots⟩ argsL.toArray) :
    (∃ (v : Option Value) (vm₁ : Vm) (B : Pt), s.WarmedH vm₁ ∧ Stand p l e R s m args below meth c B.U B.locs B.cells B.slots ∧ Post ⟨T.setVm vm₁, locs, cells, slots⟩ argsL.toArray v B ∧
      ∀ target, Steps p.tables e below (B.U.setTop { g with pc := g.pc + 3, stack := v.toList ++ rest }) target → Steps p.tables e below (T.setTop g) target) ∨
    (∃ (q : Addr) (vm₁ : Vm) (B : Pt), s.WarmedH vm₁ ∧ Stand p l e R s m args below meth c B.U B.locs B.cells B.slots ∧ PostX ⟨T.setVm vm₁, locs, cells, slots⟩ argsL.toArray q B ∧
      Steps p.tables e below (T.setTop g) ((B.U.setTop { g with stack := rest }).pushFrame (.throwing q))) := by
  obtain ⟨mk, hnamed⟩ := Cond.code_named hcode
  obtain ⟨methM, cM, hmethM, -, -, -, -, -, -, hsigM⟩ := Cond.code_spec hnamed hcode
  have hstatic : methM.isStatic = true := Cond.static_spec hnamed hmethM hstat
  obtain ⟨kP, hkP, -⟩ := className_of_methodNamed hnamed
  have hinitP : kP.init = .initialized := Cond.initialized_spec (findClass_of_methodNamed hnamed) hkP hinit
  obtain ⟨vm₁, X₁, hstep₁⟩ := X.invokestatic hexec hown hlink hnamed hmethM hstatic hkP hinitP hy (g := g) hg (argsL := argsL) (rest := rest) (hlen _ hsigM) hstack hdg
  rcases hK m meth c ⟨T.setVm vm₁, locs, cells, slots⟩ { g with stack := rest } (.invokestatic index) mk argsL.toArray X₁ hg hsize hdg hW (X₁.named hnamed) (hpre vm₁ X₁.warmed) with ⟨v, B, X', hpost, hsteps⟩ | ⟨q, B, X', hpost, hsteps⟩
  · exact Or.inl ⟨v, vm₁, B, X₁.warmed, X', hpost, fun target h => hstep₁ _ fun acts => by rw [doInvoke_state]; exact hsteps.trans h⟩
  · exact Or.inr ⟨q, vm₁, B, X₁.warmed, X', hpost, hstep₁ _ fun acts => by rw [doInvoke_state]; exact hsteps⟩
end Calls
theorem vx_cls {s : State} {T : State} {vm₁ : Vm} {E : String} {k : ClassId} (hW : s.WarmedH vm₁) (h : (T.setVm vm₁).vm.findClass E = some k) : s.vm.findClass E = some k := by
  have h1 : vm₁.findClass E = some k := h
  rw [hW.alike.findClass] at h1
  exact h1
/-- the method's frame g, with q thrown over it -/
def vx_W (p : Program) (l : Launch) (e : Env) (R : Room) (s : State) (m : MethodId) (args : Array Value) (below : List Frame) (meth : Method) (c : Code) (H : Heap) (locs : List Loc) (cells slots : Nat) (Q : State → Prop) (g : JFrame) (q : Addr) : Prop :=
  ∀ T : State, T.heap = H → Stand p l e R s m args below meth c T locs cells slots → ∃ t, Steps p.tables e below ((T.setTop g).pushFrame (.throwing q)) t ∧ Q t
def vx_Run (p : Program) (l : Launch) (e : Env) (R : Room) (s : State) (m : MethodId) (args : Array Value) (below : List Frame) (meth : Method) (c : Code) (H : Heap) (locs : List Loc) (cells slots mc ms : Nat) (g : JFrame) (rest : List Value) (Qa : State → Outcome → State → Prop) (XC : String → State → State → Prop) (free : Addr → Prop) : Prop :=
  ∀ T : State, T.heap = H → Stand p l e R s m args below meth c T locs cells slots →
    (∃ (v : Option Value) (st₀ t T' : State) (L : List Loc), st₀.heap = H ∧ Stand p l e R s m args below meth c T' (locs ++ L) (cells + mc) (slots + ms) ∧ (∀ q ∈ L, free q.base) ∧ T'.heap = t.heap ∧ T'.vm = t.vm ∧ Qa st₀ (.returned v) t ∧
      Goes p e below T g T' { g with pc := g.pc + 3, stack := v.toList ++ rest }) ∨
    (∃ (q : Addr) (st₀ t T' : State) (L : List Loc) (E : String) (ce : Cell), st₀.heap = H ∧ Stand p l e R s m args below meth c T' (locs ++ L) (cells + mc) (slots + ms) ∧ (∀ z ∈ L, free z.base) ∧ T'.heap = t.heap ∧ T'.vm = t.vm ∧ XC E st₀ t ∧ t.heap[q]? = some ce ∧ ce.vm = .none ∧ s.vm.findClass E = some ce.cls ∧
      Steps p.tables e below (T.setTop g) ((T'.setTop { g with stack := rest }).pushFrame (.throwing q)))
def vx_X {S : Type} (px : S → Prop) (B : String → S → State → Prop) (A : Nat → Prop) : String → State → State → Prop := fun E st t => ∃ u : S, px u ∧ B E u t ∧ va_F A st t
section Runs
variable {p : Program} {l : Launch} {e : Env} {R : Room} {s : State} {m : MethodId} {args : Array Value} {below : List Frame} {meth : Method} {c : Code} {H : Heap} {locs : List Loc} {cells slots : Nat}
variable {y : MethodName} {bytes cc : ByteArray} {maxL nL mc ms n index : Nat} {ret : Option FieldType} {ws : List Cond} {rm : Room} {Pc : Array Value → State → Prop} {Qc : Array Value → State → Outcome → State → Prop} {XC : String → State → State → Prop} {free : Addr → Prop} {Ts : List Cond} {own C : String} {b : Addr} {As rest : List Value} {g : JFrame}
theorem vx_callBack (cb : CallB R s args own index y bytes maxL ret ws rm mc ms n) (hM : vx_Met l y ws rm Pc Qc XC mc ms free) (hbl : FrameBlind Pc) : vx_Back l R p e below s args y 3 8 (PreOf R mc ms Pc) (PostOf Qc mc ms free) (vx_Post XC mc ms free) := by
  obtain ⟨hrc, hrs, hfr, hlo, hws, hcw, -, hini, -⟩ := cb
  exact vx_back (bytes := bytes) (maxL := maxL) (ret := ret) hM hbl hrc hrs hfr hlo hws hcw (fun a' U hW => word_at hW (Or.inl (by first | rfl | simp [Cond.onTables, Cond.keeps, Cond.steady])) hini)
theorem vx_runV (S : CallFix p m c cc nL s args Ts own) (hM : vx_Met l y ws rm Pc Qc XC mc ms free) (cw : CallW R s args own C index y bytes maxL ret ws rm mc ms n) (hp : PreV s H C b Pc As)
    (hg : g.method = m) (hn : As.length = n) (hsize : g.locals.size = nL) (hstack : g.stack = As.reverse ++ .ref b :: rest) (hW : 2 * g.monitorRoom + (rest.map fun v => v.category).sum ≤ 8) (hdg : decode cc g.pc = .ok (.invokevirtual index, 3)) (hf : cells + mc ≤ R.cells ∧ slots + ms ≤ R.slots) :
    vx_Run p l e R s m args below meth c H locs cells slots mc ms g rest (Qc (Value.ref b :: As).toArray) XC free := by
  have hK : vx_Back l R p e below s args y 3 8 (PreOf R mc ms Pc) (PostOf Qc mc ms free) (vx_Post XC mc ms free) := vx_callBack cw.1 hM hp.1
  obtain ⟨⟨-, -, -, -, -, -, hcode, -, hy, hlen, hl⟩, hin, hse⟩ := cw
  obtain ⟨hx, hb, hml, ho, -⟩ := S
  obtain ⟨-, ⟨cellB, hcB, hoB, hclB⟩, hPc⟩ := hp
  intro T hT X
  rcases vx_callV X hx (C := C) (bytes := bytes) (maxL := maxL) (ret := ret) ho hl hin hse hcode hy hK (by rw [hT]; exact hcB) hoB hclB hg (hsize.trans hml.symm) (argsL := As) (rest := rest) (fun sig h => hn.trans (hlen sig h)) hstack hW (by rw [hb]; exact hdg)
    (fun vm₁ hW₁ => ⟨hf.1, hf.2, hPc (T.setVm vm₁) hT hW₁⟩) with ⟨v, vm₁, ⟨U', l2, c2, s2⟩, hW₁, X', ⟨g', mk, t, L, e1, e2, hq, h1, hL, h2, h3⟩, st⟩ | ⟨q, vm₁, ⟨U', l2, c2, s2⟩, hW₁, X', ⟨g', mk, t, L, E, ce, e1, e2, hq, hce, hcv, hcl, h1, hL, h2, h3⟩, st⟩
  · dsimp only [Pt.U, Pt.locs, Pt.cells, Pt.slots] at X' e1 e2 h1 h2 h3 st
    subst h1; subst h2; subst h3
    exact Or.inl ⟨v, (T.setVm vm₁).calling g' mk (Value.ref b :: As).toArray, t, U', L, hT, X', hL, e1, e2, hq, st⟩
  · dsimp only [Pt.U, Pt.locs, Pt.cells, Pt.slots] at X' e1 e2 h1 h2 h3 st hcl
    subst h1; subst h2; subst h3
    exact Or.inr ⟨q, (T.setVm vm₁).calling g' mk (Value.ref b :: As).toArray, t, U', L, E, ce, hT, X', hL, e1, e2, hq, hce, hcv, vx_cls hW₁ hcl, st⟩
theorem vx_runS (S : CallFix p m c cc nL s args Ts own) (hM : vx_Met l y ws rm Pc Qc XC mc ms free) (cw : CallB R s args own index y bytes maxL ret ws rm mc ms n ∧ (Cond.static y).before args s = true) (hp : PreS s H Pc As)
    (hg : g.method = m) (hn : As.length = n) (hsize : g.locals.size = nL) (hstack : g.stack = As.reverse ++ rest) (hW : 2 * g.monitorRoom + (rest.map fun v => v.category).sum ≤ 8) (hdg : decode cc g.pc = .ok (.invokestatic index, 3)) (hf : cells + mc ≤ R.cells ∧ slots + ms ≤ R.slots) :
    vx_Run p l e R s m args below meth c H locs cells slots mc ms g rest (Qc As.toArray) XC free := by
  have hK : vx_Back l R p e below s args y 3 8 (PreOf R mc ms Pc) (PostOf Qc mc ms free) (vx_Post XC mc ms free) := vx_callBack cw.1 hM hp.1
  obtain ⟨⟨-, -, -, -, -, -, hcode, hini, hy, hlen, hl⟩, hstt⟩ := cw
  obtain ⟨hx, hb, hml, ho, -⟩ := S
  intro T hT X
  rcases vx_callS X hx (bytes := bytes) (maxL := maxL) (ret := ret) ho hl hstt hini hcode hy hK hg (hsize.trans hml.symm) (argsL := As) (rest := rest) (fun sig h => hn.trans (hlen sig h)) hstack hW (by rw [hb]; exact hdg)
    (fun vm₁ hW₁ => ⟨hf.1, hf.2, hp.2 (T.setVm vm₁) hT hW₁⟩) with ⟨v, vm₁, ⟨U', l2, c2, s2⟩, hW₁, X', ⟨g', mk, t, L, e1, e2, hq, h1, hL, h2, h3⟩, st⟩ | ⟨q, vm₁, ⟨U', l2, c2, s2⟩, hW₁, X', ⟨g', mk, t, L, E, ce, e1, e2, hq, hce, hcv, hcl, h1, hL, h2, h3⟩, st⟩
  · dsimp only [Pt.U, Pt.locs, Pt.cells, Pt.slots] at X' e1 e2 h1 h2 h3 st
    subst h1; subst h2; subst h3
    exact Or.inl ⟨v, (T.setVm vm₁).calling g' mk As.toArray, t, U', L, hT, X', hL, e1, e2, hq, st⟩
  · dsimp only [Pt.U, Pt.locs, Pt.cells, Pt.slots] at X' e1 e2 h1 h2 h3 st hcl
    subst h1; subst h2; subst h3
    exact Or.inr ⟨q, (T.setVm vm₁).calling g' mk As.toArray, t, U', L, E, ce, hT, X', hL, e1, e2, hq, hce, hcv, vx_cls hW₁ hcl, st⟩
end Runs
section Rows
variable {p : Program} {l : Launch} {e : Env} {R : Room} {s : State} {m : MethodId} {args : Array Value} {below : List Frame} {meth : Method} {c : Code} {H : Heap} {locs : List Loc} {cells slots : Nat} {Q : State → Prop}
variable {mc ms : Nat} {free : Addr → Prop} {A0 A1 : Nat → Prop} {H0 : Heap} {a : Array Value} {pc : Nat} {ls : Array Slot} {st0 rest : List Value}
theorem vx_keep {st₀ t T' : State} {L : List Loc} (h0 : st₀.heap = H) (e1 : T'.heap = t.heap) (hS : va_S A0 H0 H locs) (hA : ∀ q, q < H.size → A1 q → A0 q) (hf : ∀ q, free q → A0 q) (hL : ∀ q ∈ L, free q.base) (hF : va_F A1 st₀ t) :
    H.size ≤ T'.heap.size ∧ (∀ q : Nat, q < H.size → ¬ A1 q → T'.heap[q]? = H[q]?) ∧ va_S A0 H0 T'.heap (locs ++ L) := by
  obtain ⟨hz, hk⟩ := hF
  rw [h0] at hz hk
  exact ⟨by rw [e1]; exact hz, fun q h1 h2 => by rw [e1]; exact hk q h1 h2,
    ⟨Nat.le_trans hS.1 (by rw [e1]; exact hz), fun q h1 h2 => by rw [e1, hk q (Nat.lt_of_lt_of_le h1 hS.1) (fun z => h2 (hA q (Nat.lt_of_lt_of_le h1 hS.1) z))]; exact hS.2.1 q h1 h2, fun q hq => by
      rcases List.mem_append.mp hq with h | h
      · exact hS.2.2 q h
      · exact hf _ (hL q h)⟩⟩
theorem vx_calli {S SX : Type} {post : Int32 → S → Prop} {px : SX → Prop} {B : S → State → Prop} {BX : String → SX → State → Prop} {AX : Nat → Prop} (hr : vx_Run p l e R s m args below meth c H locs cells slots mc ms (F0 m pc ls st0) rest (va_Qi post B A1 a) (vx_X px BX AX) free) (hS : va_S A0 H0 H locs) (hA : ∀ q, q < H.size → A1 q → A0 q) (hf : ∀ q, free q → A0 q) (hAX : ∀ q, q < H.size → AX q → A0 q)
    (kx : ∀ (E : String) (ce : Cell) (q9 : Addr) (u : SX) (t : State) (H1 : Heap) (locs1 : List Loc), t.heap = H1 → s.vm.Alike t.vm → px u → BX E u t → H.size ≤ H1.size → (∀ q : Nat, q < H.size → ¬ AX q → H1[q]? = H[q]?) → va_S A0 H0 H1 locs1 → H1[q9]? = some ce → ce.vm = .none → s.vm.findClass E = some ce.cls → vx_W p l e R s m args below meth c H1 locs1 (cells + mc) (slots + ms) Q (F0 m pc ls rest) q9)
    (kk : ∀ (r : Int32) (u : S) (t : State) (H1 : Heap) (locs1 : List Loc), t.heap = H1 → s.vm.Alike t.vm → post r u → B u t → H.size ≤ H1.size → (∀ q : Nat, q < H.size → ¬ A1 q → H1[q]? = H[q]?) → va_S A0 H0 H1 locs1 → W p l e R s m args below meth c H1 locs1 (cells + mc) (slots + ms) Q (F0 m (pc + 3) ls (.int r :: rest))) : W p l e R s m args below meth c H locs cells slots Q (F0 m pc ls st0) := by
  intro T hT X
  rcases hr T hT X with ⟨v, st₀, t, T', L, h0, X', hL, e1, e2, ⟨⟨r, u, hv, hp, hb⟩, hF⟩, st⟩ | ⟨q, st₀, t, T', L, E, ce, h0, X', hL, e1, e2, ⟨u, hp, hb, hF⟩, hce, hcv, hcl, st⟩
  · cases hv
    obtain ⟨k1, k2, k3⟩ := vx_keep h0 e1 hS hA hf hL hF
    obtain ⟨t2, a1, b1⟩ := kk r u t T'.heap (locs ++ L) e1.symm (by rw [← e2]; exact X'.warmed.alike) hp hb k1 k2 k3 T' rfl X'
    exact ⟨t2, st t2 a1, b1⟩
  · obtain ⟨k1, k2, k3⟩ := vx_keep h0 e1 hS hAX hf hL hF
    obtain ⟨t2, a1, b1⟩ := kx E ce q u t T'.heap (locs ++ L) e1.symm (by rw [← e2]; exact X'.warmed.alike) hp hb k1 k2 k3 (by rw [e1]; exact hce) hcv hcl T' rfl X'
    exact ⟨t2, st.trans a1, b1⟩
theorem vx_calll {S SX : Type} {post : Int64 → S → Prop} {px : SX → Prop} {B : S → State → Prop} {BX : String → SX → State → Prop} {AX : Nat → Prop} (hr : vx_Run p l e R s m args below meth c H locs cells slots mc ms (F0 m pc ls st0) rest (va_Ql post B A1 a) (vx_X px BX AX) free) (hS : va_S A0 H0 H locs) (hA : ∀ q, q < H.size → A1 q → A0 q) (hf : ∀ q, free q → A0 q) (hAX : ∀ q, q < H.size → AX q → A0 q)
    (kx : ∀ (E : String) (ce : Cell) (q9 : Addr) (u : SX) (t : State) (H1 : Heap) (locs1 : List Loc), t.heap = H1 → s.vm.Alike t.vm → px u → BX E u t → H.size ≤ H1.size → (∀ q : Nat, q < H.size → ¬ AX q → H1[q]? = H[q]?) → va_S A0 H0 H1 locs1 → H1[q9]? = some ce → ce.vm = .none → s.vm.findClass E = some ce.cls → vx_W p l e R s m args below meth c H1 locs1 (cells + mc) (slots + ms) Q (F0 m pc ls rest) q9)
    (kk : ∀ (r : Int64) (u : S) (t : State) (H1 : Heap) (locs1 : List Loc), t.heap = H1 → s.vm.Alike t.vm → post r u → B u t → H.size ≤ H1.size → (∀ q : Nat, q < H.size → ¬ A1 q → H1[q]? = H[q]?) → va_S A0 H0 H1 locs1 → W p l e R s m args below meth c H1 locs1 (cells + mc) (slots + ms) Q (F0 m (pc + 3) ls (.long r :: rest))) : W p l e R s m args below meth c H locs cells slots Q (F0 m pc ls st0) := by
  intro T hT X
  rcases hr T hT X with ⟨v, st₀, t, T', L, h0, X', hL, e1, e2, ⟨⟨r, u, hv, hp, hb⟩, hF⟩, st⟩ | ⟨q, st₀, t, T', L, E, ce, h0, X', hL, e1, e2, ⟨u, hp, hb, hF⟩, hce, hcv, hcl, st⟩
  · cases hv
    obtain ⟨k1, k2, k3⟩ := vx_keep h0 e1 hS hA hf hL hF
    obtain ⟨t2, a1, b1⟩ := kk r u t T'.heap (locs ++ L) e1.symm (by rw [← e2]; exact X'.warmed.alike) hp hb k1 k2 k3 T' rfl X'
    exact ⟨t2, st t2 a1, b1⟩
  · obtain ⟨k1, k2, k3⟩ := vx_keep h0 e1 hS hAX hf hL hF
    obtain ⟨t2, a1, b1⟩ := kx E ce q u t T'.heap (locs ++ L) e1.symm (by rw [← e2]; exact X'.warmed.alike) hp hb k1 k2 k3 (by rw [e1]; exact hce) hcv hcl T' rfl X'
    exact ⟨t2, st.trans a1, b1⟩
theorem vx_callf {S SX : Type} {post : UInt32 → S → Prop} {px : SX → Prop} {B : S → State → Prop} {BX : String → SX → State → Prop} {AX : Nat → Prop} (hr : vx_Run p l e R s m args below meth c H locs cells slots mc ms (F0 m pc ls st0) rest (va_Qf post B A1 a) (vx_X px BX AX) free) (hS : va_S A0 H0 H locs) (hA : ∀ q, q < H.size → A1 q → A0 q) (hf : ∀ q, free q → A0 q) (hAX : ∀ q, q < H.size → AX q → A0 q)
    (kx : ∀ (E : String) (ce : Cell) (q9 : Addr) (u : SX) (t : State) (H1 : Heap) (locs1 : List Loc), t.heap = H1 → s.vm.Alike t.vm → px u → BX E u t → H.size ≤ H1.size → (∀ q : Nat, q < H.size → ¬ AX q → H1[q]? = H[q]?) → va_S A0 H0 H1 locs1 → H1[q9]? = some ce → ce.vm = .none → s.vm.findClass E = some ce.cls → vx_W p l e R s m args below meth c H1 locs1 (cells + mc) (slots + ms) Q (F0 m pc ls rest) q9)
    (kk : ∀ (r : UInt32) (u : S) (t : State) (H1 : Heap) (locs1 : List Loc), t.heap = H1 → s.vm.Alike t.vm → post r u → B u t → H.size ≤ H1.size → (∀ q : Nat, q < H.size → ¬ A1 q → H1[q]? = H[q]?) → va_S A0 H0 H1 locs1 → W p l e R s m args below meth c H1 locs1 (cells + mc) (slots + ms) Q (F0 m (pc + 3) ls (.float r :: rest))) : W p l e R s m args below meth c H locs cells slots Q (F0 m pc ls st0) := by
  intro T hT X
  rcases hr T hT X with ⟨v, st₀, t, T', L, h0, X', hL, e1, e2, ⟨⟨r, u, hv, hp, hb⟩, hF⟩, st⟩ | ⟨q, st₀, t, T', L, E, ce, h0, X', hL, e1, e2, ⟨u, hp, hb, hF⟩, hce, hcv, hcl, st⟩
  · cases hv
    obtain ⟨k1, k2, k3⟩ := vx_keep h0 e1 hS hA hf hL hF
    obtain ⟨t2, a1, b1⟩ := kk r u t T'.heap (locs ++ L) e1.symm (by rw [← e2]; exact X'.warmed.alike) hp hb k1 k2 k3 T' rfl X'
    exact ⟨t2, st t2 a1, b1⟩
  · obtain ⟨k1, k2, k3⟩ := vx_keep h0 e1 hS hAX hf hL hF
    obtain ⟨t2, a1, b1⟩ := kx E ce q u t T'.heap (locs ++ L) e1.symm (by rw [← e2]; exact X'.warmed.alike) hp hb k1 k2 k3 (by rw [e1]; exact hce) hcv hcl T' rfl X'
    exact ⟨t2, st.trans a1, b1⟩
theorem vx_calld {S SX : Type} {post : UInt64 → S → Prop} {px : SX → Prop} {B : S → State → Prop} {BX : String → SX → State → Prop} {AX : Nat → Prop} (hr : vx_Run p l e R s m args below meth c H locs cells slots mc ms (F0 m pc ls st0) rest (va_Qd post B A1 a) (vx_X px BX AX) free) (hS : va_S A0 H0 H locs) (hA : ∀ q, q < H.size → A1 q → A0 q) (hf : ∀ q, free q → A0 q) (hAX : ∀ q, q < H.size → AX q → A0 q)
    (kx : ∀ (E : String) (ce : Cell) (q9 : Addr) (u : SX) (t : State) (H1 : Heap) (locs1 : List Loc), t.heap = H1 → s.vm.Alike t.vm → px u → BX E u t → H.size ≤ H1.size → (∀ q : Nat, q < H.size → ¬ AX q → H1[q]? = H[q]?) → va_S A0 H0 H1 locs1 → H1[q9]? = some ce → ce.vm = .none → s.vm.findClass E = some ce.cls → vx_W p l e R s m args below meth c H1 locs1 (cells + mc) (slots + ms) Q (F0 m pc ls rest) q9)
    (kk : ∀ (r : UInt64) (u : S) (t : State) (H1 : Heap) (locs1 : List Loc), t.heap = H1 → s.vm.Alike t.vm → post r u → B u t → H.size ≤ H1.size → (∀ q : Nat, q < H.size → ¬ A1 q → H1[q]? = H[q]?) → va_S A0 H0 H1 locs1 → W p l e R s m args below meth c H1 locs1 (cells + mc) (slots + ms) Q (F0 m (pc + 3) ls (.double r :: rest))) : W p l e R s m args below meth c H locs cells slots Q (F0 m pc ls st0) := by
  intro T hT X
  rcases hr T hT X with ⟨v, st₀, t, T', L, h0, X', hL, e1, e2, ⟨⟨r, u, hv, hp, hb⟩, hF⟩, st⟩ | ⟨q, st₀, t, T', L, E, ce, h0, X', hL, e1, e2, ⟨u, hp, hb, hF⟩, hce, hcv, hcl, st⟩
  · cases hv
    obtain ⟨k1, k2, k3⟩ := vx_keep h0 e1 hS hA hf hL hF
    obtain ⟨t2, a1, b1⟩ := kk r u t T'.heap (locs ++ L) e1.symm (by rw [← e2]; exact X'.warmed.alike) hp hb k1 k2 k3 T' rfl X'
    exact ⟨t2, st t2 a1, b1⟩
  · obtain ⟨k1, k2, k3⟩ := vx_keep h0 e1 hS hAX hf hL hF
    obtain ⟨t2, a1, b1⟩ := kx E ce q u t T'.heap (locs ++ L) e1.symm (by rw [← e2]; exact X'.warmed.alike) hp hb k1 k2 k3 (by rw [e1]; exact hce) hcv hcl T' rfl X'
    exact ⟨t2, st.trans a1, b1⟩
theorem vx_callv {S SX : Type} {post : S → Prop} {px : SX → Prop} {B : S → State → Prop} {BX : String → SX → State → Prop} {AX : Nat → Prop} (hr : vx_Run p l e R s m args below meth c H locs cells slots mc ms (F0 m pc ls st0) rest (va_Qv post B A1 a) (vx_X px BX AX) free) (hS : va_S A0 H0 H locs) (hA : ∀ q, q < H.size → A1 q → A0 q) (hf : ∀ q, free q → A0 q) (hAX : ∀ q, q < H.size → AX q → A0 q)
    (kx : ∀ (E : String) (ce : Cell) (q9 : Addr) (u : SX) (t : State) (H1 : Heap) (locs1 : List Loc), t.heap = H1 → s.vm.Alike t.vm → px u → BX E u t → H.size ≤ H1.size → (∀ q : Nat, q < H.size → ¬ AX q → H1[q]? = H[q]?) → va_S A0 H0 H1 locs1 → H1[q9]? = some ce → ce.vm = .none → s.vm.findClass E = some ce.cls → vx_W p l e R s m args below meth c H1 locs1 (cells + mc) (slots + ms) Q (F0 m pc ls rest) q9)
    (kk : ∀ (u : S) (t : State) (H1 : Heap) (locs1 : List Loc), t.heap = H1 → s.vm.Alike t.vm → post u → B u t → H.size ≤ H1.size → (∀ q : Nat, q < H.size → ¬ A1 q → H1[q]? = H[q]?) → va_S A0 H0 H1 locs1 → W p l e R s m args below meth c H1 locs1 (cells + mc) (slots + ms) Q (F0 m (pc + 3) ls (rest))) : W p l e R s m args below meth c H locs cells slots Q (F0 m pc ls st0) := by
  intro T hT X
  rcases hr T hT X with ⟨v, st₀, t, T', L, h0, X', hL, e1, e2, ⟨⟨u, hv, hp, hb⟩, hF⟩, st⟩ | ⟨q, st₀, t, T', L, E, ce, h0, X', hL, e1, e2, ⟨u, hp, hb, hF⟩, hce, hcv, hcl, st⟩
  · cases hv
    obtain ⟨k1, k2, k3⟩ := vx_keep h0 e1 hS hA hf hL hF
    obtain ⟨t2, a1, b1⟩ := kk u t T'.heap (locs ++ L) e1.symm (by rw [← e2]; exact X'.warmed.alike) hp hb k1 k2 k3 T' rfl X'
    exact ⟨t2, st t2 a1, b1⟩
  · obtain ⟨k1, k2, k3⟩ := vx_keep h0 e1 hS hAX hf hL hF
    obtain ⟨t2, a1, b1⟩ := kx E ce q u t T'.heap (locs ++ L) e1.symm (by rw [← e2]; exact X'.warmed.alike) hp hb k1 k2 k3 (by rw [e1]; exact hce) hcv hcl T' rfl X'
    exact ⟨t2, st.trans a1, b1⟩
/-- caught by the row x of this method's table; the rows ahead don't take it -/
theorem vx_catch {own name : String} {E : String} {ce : Cell} {q : Addr} (hown : s.vm.findClass own = some m.cls) (pre : List ExceptionTableEntry) (x : ExceptionTableEntry) (suf : List ExceptionTableEntry) (hsplit : c.exceptionTable.toList = pre ++ x :: suf)
    (hpass : ∀ z ∈ pre, covers z pc = false ∨ (z.catchType ≠ 0 ∧ ∃ nm : String, (Cond.classLink own z.catchType nm).before args s = true ∧ va_Nc E nm s)) (hx : covers x pc = true) (h0 : x.catchType ≠ 0)
    (hlink : (Cond.classLink own x.catchType name).before args s = true) (hcast : (Cond.castable E name).before args s = true) (hcell : H[q]? = some ce) (hv : ce.vm = .none) (hcl : s.vm.findClass E = some ce.cls)
    (kk : W p l e R s m args below meth c H locs cells slots Q (F0 m x.handlerPc ls [.ref q])) : vx_W p l e R s m args below meth c H locs cells slots Q (F0 m pc ls rest) q := by
  intro T hT X
  have hpl : e.platform.magicAccessors = ({} : Platform).magicAccessors := by rw [X.admits.platform]
  obtain ⟨c3, c4, hc3, hc4, hasg⟩ := Cond.castable_spec hcast
  cases Option.some.inj (hc3.symm.trans hcl)
  obtain ⟨c5, hc5, hcl5⟩ := Cond.classLink_spec hown hlink e.platform hpl
  cases Option.some.inj (hc4.symm.trans hc5)
  obtain ⟨vm', X', st⟩ := X.thenCaughtThrough q (g := F0 m pc ls rest) rfl (Steps.refl _) (by rw [hT]; exact hcell) (by rw [hv]; rfl) (by obtain ⟨k9, h9, -⟩ := Vm.findClass_spec hcl; exact ⟨k9, h9⟩) pre x suf hsplit
    (fun z hz => by
      rcases hpass z hz with h | ⟨hz0, nm, hl1, hn1⟩
      · exact Or.inl h
      · obtain ⟨c6, hc6, hcl6⟩ := Cond.classLink_spec hown hl1 e.platform hpl
        obtain ⟨a8, b8, h1, h2, h3⟩ := hn1
        cases Option.some.inj (h1.symm.trans hcl)
        cases Option.some.inj (h2.symm.trans hc6)
        exact Or.inr ⟨hz0, _, hcl6, h3⟩) hx (Or.inr ⟨h0, c4, hcl5, hasg⟩)
  obtain ⟨t, a1, b1⟩ := kk (T.setVm vm') hT X'
  exact ⟨t, st.trans a1, b1⟩
end Rows
section Ends
variable {p : Program} {l : Launch} {e : Env} {R : Room} {s : State} {m : MethodId} {args : Array Value} {below : List Frame} {meth : Method} {c : Code} {H : Heap} {locs : List Loc} {cells slots : Nat} {Q : State → Prop}
variable {mc ms : Nat} {free : Addr → Prop} {A0 A1 : Nat → Prop} {H0 : Heap} {a : Array Value} {ls : Array Slot} {st0 rest : List Value}
variable {Qc : Array Value → State → Outcome → State → Prop} {XC : String → State → State → Prop}
/-- what a body that may throw owes at its end -/
def vx_MQ (below : List Frame) (Qc : Array Value → State → Outcome → State → Prop) (XC : String → State → State → Prop) (a : Array Value) (s : State) (mc ms : Nat) (free : Addr → Prop) : State → Prop := fun t =>
  ∃ o, t.status = .running ∧ Ended t below o ∧ vx_Q Qc XC mc ms free a s o t
theorem vx_ret {g : JFrame} {mc ms : Nat} (k : W p l e R s m args below meth c H locs cells slots (MQ below Qc args s mc ms free) g) : W p l e R s m args below meth c H locs cells slots (vx_MQ below Qc XC args s mc ms free) g := by
  intro T hT X
  obtain ⟨t, a1, o, b1, b2, b3, b4⟩ := k T hT X
  exact ⟨t, a1, o, b1, b2, Or.inl ⟨b3, b4⟩⟩
/-- not caught here: it goes on to the caller -/
theorem vx_widen {g : JFrame} {q : Addr} {k n : Nat} (h1 : cells ≤ k) (h2 : slots ≤ n) (kk : vx_W p l e R s m args below meth c H locs k n Q g q) : vx_W p l e R s m args below meth c H locs cells slots Q g q := fun T hT X => kk T hT (stand_widen X h1 h2)
theorem vx_out {pc : Nat} {E : String} {ce : Cell} {q : Addr} {mc ms : Nat} (hout : ∀ x ∈ c.exceptionTable.toList, covers x pc = false) (hlocks : meth.locks = false) (hcell : H[q]? = some ce) (hv : ce.vm = .none) (hcl : s.vm.findClass E = some ce.cls)
    (hx : ∀ t : State, t.heap = H → s.vm.Alike t.vm → XC E s t) (hf : ∀ z ∈ locs, free z.base) (hc : cells ≤ mc) (hs : slots ≤ ms) :
    vx_W p l e R s m args below meth c H locs cells slots (vx_MQ below Qc XC args s mc ms free) (F0 m pc ls rest) q := by
  intro T hT X
  obtain ⟨st1, hrun, hend, hW, hsm⟩ := X.leaveThrown q (g := F0 m pc ls rest) rfl rfl rfl hout hlocks
  have hcell9 : (T.setFrames (.throwing q :: below)).heap[q]? = some ce := by
    show T.heap[q]? = some ce
    rw [hT]; exact hcell
  exact ⟨_, st1, .threw q, hrun, hend, Or.inr ⟨q, rfl, E, ce, locs, hx _ hT hW.alike, hcell9, hv, hcl, hW, hsm.mono hc hs, hf⟩⟩
theorem vx_frame {U : State} {k n : Nat} (h : s.sameButNew ({ U with vm := s.vm } : State) locs k n) : s.heap.size ≤ U.heap.size ∧ ∀ q : Nat, q < s.heap.size → (∀ z ∈ locs, z.base ≠ q) → U.heap[q]? = s.heap[q]? := by
  obtain ⟨-, h2, -, -, -, h6⟩ := h
  refine ⟨h2, fun q hq hz => ?_⟩
  obtain ⟨c9, e1, e2, e3, e4⟩ := h6 q _ (Array.getElem?_eq_getElem hq)
  have hs : c9.slots = (s.heap[q]).slots := Array.ext_getElem? fun i => e4 i fun hm => hz _ hm rfl
  have h9 : c9 = s.heap[q] := by
    rw [hs] at e2
    exact e2
  have e5 : U.heap[q]? = some c9 := e1
  rw [e5, h9, Array.getElem?_eq_getElem hq]
/-- the words of a throw but the four that speak of the heap -/
def vx_no (w : Cond) : Bool := decide (w ≠ .isRef (.static Bundle.tN "UNASSIGNED_STACK" Bundle.steD)) && decide (w ≠ .isRef (.static Bundle.tN "SUPPRESSED_SENTINEL" Bundle.listD)) && decide (w ≠ .laysStatic Bundle.tN "UNASSIGNED_STACK" Bundle.steD) && decide (w ≠ .laysStatic Bundle.tN "SUPPRESSED_SENTINEL" Bundle.listD)
def vx_at0 (own : String) (ic : Nat) (X : String) (names : List String) : List Cond := (Bundle.ownAtoms0 own ic X names).filter vx_no
def vx_atS (own : String) (ic : Nat) (X : String) (names : List String) : List Cond := (Bundle.ownAtoms own ic X names).filter vx_no
/-- a word that the tables alone decide, or a good one -/
def vx_ot (w : Cond) : Bool := w.onTables || goodWord w
theorem vx_ot_at {args a' : Array Value} {s U : State} {w : Cond} (hW : s.WarmedH U.vm) (hvm : s.vm = U.vm) (hg : vx_ot w = true) (h : w.before args s = true) : w.before a' U = true := by
  simp only [vx_ot, Bool.or_eq_true] at hg
  rcases hg with hg | hg
  · exact va_tabs hg hvm h
  · exact word_at hW (good_of_word hg) h
/-- a list's words: the good ones out of the method's own list, the others by premises of their own -/
theorem vx_hat {args : Array Value} {s : State} {L B : List Cond} (h1 : ∀ w ∈ L.filter goodWord, w.before args s = true) (h2 : ∀ w ∈ L.filter (fun w => !goodWord w), w ∈ B) (h3 : ∀ w ∈ B, w.before args s = true) : ∀ w ∈ L, w.before args s = true := by
  intro w hw
  by_cases g : goodWord w = true
  · exact h1 w (List.mem_filter.mpr ⟨hw, g⟩)
  · refine h3 w (h2 w (List.mem_filter.mpr ⟨hw, ?_⟩))
    show (!goodWord w) = true
    cases hgw : goodWord w
    · rfl
    · exact absurd hgw g
theorem vx_c {args : Array Value} {s : State} {w : Cond} {B : List Cond} (h : w.before args s = true) (t : ∀ w ∈ B, w.before args s = true) : ∀ w' ∈ w :: B, w'.before args s = true := fun w' h' => (List.mem_cons.mp h').elim (fun e => by rw [e]; exact h) (t w')
theorem vx_n {args : Array Value} {s : State} : ∀ w ∈ ([] : List Cond), w.before args s = true := fun _ h => nomatch h
theorem vx_own {args : Array Value} {s : State} {L : List Cond} (h1 : ∀ w ∈ L.filter vx_no, w.before args s = true)
    (hU : (Cond.isRef (.static Bundle.tN "UNASSIGNED_STACK" Bundle.steD)).before args s = true) (hN : (Cond.isRef (.static Bundle.tN "SUPPRESSED_SENTINEL" Bundle.listD)).before args s = true)
    (lU : (Cond.laysStatic Bundle.tN "UNASSIGNED_STACK" Bundle.steD).before args s = true) (lN : (Cond.laysStatic Bundle.tN "SUPPRESSED_SENTINEL" Bundle.listD).before args s = true) : ∀ w ∈ L, w.before args s = true := by
  intro w hw
  by_cases e1 : w = .isRef (.static Bundle.tN "UNASSIGNED_STACK" Bundle.steD)
  · rw [e1]; exact hU
  · by_cases e2 : w = .isRef (.static Bundle.tN "SUPPRESSED_SENTINEL" Bundle.listD)
    · rw [e2]; exact hN
    · by_cases e3 : w = .laysStatic Bundle.tN "UNASSIGNED_STACK" Bundle.steD
      · rw [e3]; exact lU
      · by_cases e4 : w = .laysStatic Bundle.tN "SUPPRESSED_SENTINEL" Bundle.listD
        · rw [e4]; exact lN
        · exact h1 w (List.mem_filter.mpr ⟨hw, by unfold vx_no; rw [decide_eq_true e1, decide_eq_true e2, decide_eq_true e3, decide_eq_true e4]; rfl⟩)
/-- where a static field lies, its class's statics cell in H -/
def vx_L (C n d : String) (A : Nat → Prop) (U : State) (H : Heap) : Prop := ∃ (c : ClassId) (k : Class) (i : Nat) (f : Field) (a : Nat) (cell : Cell), U.vm.findClass C = some c ∧ U.fieldFound? C n d = some (c, k, i, f) ∧ f.isStatic = true ∧ k.statics = some a ∧ H[a]? = some cell ∧ cell.vm.isStatics = true ∧ cell.cls = c ∧ f.slot < cell.slots.size ∧ k.staticTypes[f.slot]? = some f.type ∧ ¬ A a
theorem vx_L.moved {C n d : String} {A : Nat → Prop} {u U : State} {H : Heap} (hvm : u.vm.Alike U.vm) (h : vx_L C n d A u H) : vx_L C n d A U H := by
  obtain ⟨c, k, i, f, a, cell, h1, h2, h3, h4, h5, h6, h7, h8, h9, h10⟩ := h
  obtain ⟨k', hi', he⟩ := State.fieldFound?_setVm hvm h2
  exact ⟨c, k', i, f, a, cell, by rw [hvm.findClass]; exact h1, hi', h3, by rw [he]; exact h4, h5, h6, h7, h8, by rw [he]; exact h9, h10⟩
theorem vx_L.kept {C n d : String} {A : Nat → Prop} {U : State} {H H1 : Heap} (h : vx_L C n d A U H) (hq : ∀ a : Nat, a < H.size → ¬ A a → H1[a]? = H[a]?) : vx_L C n d A U H1 := by
  obtain ⟨c, k, i, f, a, cell, h1, h2, h3, h4, h5, h6, h7, h8, h9, h10⟩ := h
  exact ⟨c, k, i, f, a, cell, h1, h2, h3, h4, by rw [hq a (Array.getElem?_eq_some_iff.mp h5).1 h10]; exact h5, h6, h7, h8, h9, h10⟩
theorem vx_L.narrow {C n d : String} {A B : Nat → Prop} {U : State} {H : Heap} (h : vx_L C n d A U H) (hAB : ∀ q, B q → A q) : vx_L C n d B U H := by
  obtain ⟨c, k, i, f, a, cell, h1, h2, h3, h4, h5, h6, h7, h8, h9, h10⟩ := h
  exact ⟨c, k, i, f, a, cell, h1, h2, h3, h4, h5, h6, h7, h8, h9, fun z => h10 (hAB _ z)⟩
theorem vx_L.word {C n d : String} {A : Nat → Prop} {s : State} {args : Array Value} (h : vx_L C n d A s s.heap) : (Cond.laysStatic C n d).before args s = true := by
  obtain ⟨c, k, i, f, a, cell, h1, h2, h3, h4, h5, h6, h7, h8, h9, -⟩ := h
  show (Cond.laysStatic C n d).holds args s none s [] = true
  exact Cond.laysStatic_of h1 h2 h3 h4 h5 h6 h7 h8 h9
/-- .. and what it holds: null or some reference -/
def vx_Zq (C n d : String) (A : Nat → Prop) (U : State) (H : Heap) : Prop := va_Zq C n d A U H ∧ vx_L C n d A U H
theorem vx_Zq.moved {C n d : String} {A : Nat → Prop} {u U : State} {H : Heap} (hvm : u.vm.Alike U.vm) (h : vx_Zq C n d A u H) : vx_Zq C n d A U H := ⟨va_Zq.moved hvm h.1, vx_L.moved hvm h.2⟩
theorem vx_Zq.kept {C n d : String} {A : Nat → Prop} {U : State} {H H1 : Heap} (h : vx_Zq C n d A U H) (hq : ∀ a : Nat, a < H.size → ¬ A a → H1[a]? = H[a]?) : vx_Zq C n d A U H1 := ⟨va_Zq.kept h.1 hq, vx_L.kept h.2 hq⟩
theorem vx_Zq.narrow {C n d : String} {A B : Nat → Prop} {U : State} {H : Heap} (h : vx_Zq C n d A U H) (hAB : ∀ q, B q → A q) : vx_Zq C n d B U H := ⟨va_Zq.narrow h.1 hAB, vx_L.narrow h.2 hAB⟩
theorem vx_Zqof {args : Array Value} {s : State} {C n d : String} {A : Nat → Prop} (hl : (Cond.laysStatic C n d).before args s = true) (hini : (Cond.initialized C).before args s = true) (h : (Cond.isRef (.static C n d)).before args s = true) (hA : ∀ a : Nat, a < s.heap.size → ¬ A a) : vx_Zq C n d A s s.heap := by
  refine ⟨va_Zqof hl hini h hA, ?_⟩
  obtain ⟨c, k, i, f, a, cell, h1, h2, h3, h4, h5, h6, h7, h8, h9⟩ := Cond.laysStatic_spec hl
  exact ⟨c, k, i, f, a, cell, h1, h2, h3, h4, h5, h6, h7, h8, h9, hA a (Array.getElem?_eq_some_iff.mp h5).1⟩
theorem vx_isRef {C n d : String} {v : Value} {A : Nat → Prop} {s : State} {args : Array Value} (h : va_Z C n d v A s s.heap) (hv : v.isRef = true) : (Cond.isRef (.static C n d)).before args s = true := by
  obtain ⟨cf, kf, fi, f, a, cell, h1, h2, h3, h4, h5, h6, h7, -⟩ := h
  have he : (Term.static C n d).eval args s none [] s = some v := by
    simp [Term.eval, State.fieldNamed?, h1, h2, h4, h5, h6, h7]
  simp only [Cond.before, Cond.holds, Cond.value, he]
  cases v <;> simp_all [Value.isRef]
theorem vx_isRefq {C n d : String} {A : Nat → Prop} {s : State} {args : Array Value} (h : va_Zq C n d A s s.heap) : (Cond.isRef (.static C n d)).before args s = true := by
  rcases h with h | ⟨t, h⟩
  · exact vx_isRef h rfl
  · exact vx_isRef h rfl
/-- the same frame, seen from here: as if the method were called anew in this heap -/
theorem vx_rebase {T : State} (X : Stand p l e R s m args below meth c T locs cells slots) {R' : Room} (hf : R'.frames ≤ R.frames) (hl : R'.locals ≤ R.locals) (hc : cells + R'.cells ≤ R.cells) (hs : slots + R'.slots ≤ R.slots) :
    Stand p l e R' ((T.setVm s.vm).setFrames (.invoking m args :: below)) m args below meth c T [] 0 0 := by
  have htop : (T.setVm s.vm).topJava?.isSome := X.here.top
  have hF : ((T.setVm s.vm).setFrames (.invoking m args :: below)).frames = .invoking m args :: below := State.frames_setFrames _ (State.cur_lt_of_top htop)
  obtain ⟨g₀, hg0⟩ := Option.isSome_iff_exists.mp htop
  obtain ⟨r, hr⟩ := State.topJava?_eq_some.mp hg0
  have hl9 : e.platform.stackLimits (T.setVm s.vm).me = e.platform.stackLimits s.me := X.limits
  have hb9 : (T.setVm s.vm).me.stackBytes = s.me.stackBytes := X.bytes
  refine ⟨X.admits, X.cas, X.clock, hF, ?_, X.hears, X.method, X.code, X.here, X.tail, X.warmed, ?_, ?_, ?_⟩
  · have h := X.room
    have hU : ((T.setVm s.vm).setFrames (.invoking m args :: below)).localsInUse = s.localsInUse := by
      rw [State.localsInUse_invoking hF (meth := meth) (c := c) X.method X.code, State.localsInUse_invoking X.frames X.method X.code]
    simp only [State.hasRoom, Bool.and_eq_true, decide_eq_true_eq] at h ⊢
    obtain ⟨⟨⟨⟨h1, h2, h3, h4, h5, h6⟩, h7⟩, h8⟩, h9⟩ := h
    rw [X.frames, List.length_cons] at h2 h3
    have q1 := X.heapSize
    have q2 := X.used
    simp only [hF, hU, List.length_cons, State.stackLimits_setFrames, State.stackBytes_setFrames, hl9, hb9]
    refine ⟨⟨⟨⟨by omega, by omega, by omega, by omega, by omega, h6⟩, ?_⟩, ?_⟩, X.book⟩
    · show T.heap.size + R'.cells ≤ e.platform.maxCells
      omega
    · show T.slotsUsed + R'.slots ≤ e.platform.maxSlots
      omega
  · rw [State.stackLimits_setFrames]; rfl
  · rw [State.stackBytes_setFrames]; rfl
  · refine ⟨?_, Nat.le_refl _, Nat.le_refl _, ?_, ?_, fun a c9 h9 => ⟨c9, h9, rfl, rfl, fun _ _ => rfl⟩⟩
    · obtain ⟨t, ht, -⟩ := State.frames_cons hr
      show T.setVm s.vm = { ((T.setVm s.vm).setFrames (.invoking m args :: below)).setFrames (T.setVm s.vm).frames with heap := T.heap, slotsUsed := T.slotsUsed }
      rw [State.setFrames_setFrames, State.setFrames_self ht]
      rfl
    · show T.slotsUsed = T.slotsUsed + ((T.heap.toList.drop T.heap.size).map (·.slots.size)).sum
      rw [List.drop_eq_nil_of_le (Nat.le_of_eq Array.length_toList)]
      rfl
    · show ((T.heap.toList.drop T.heap.size).map (·.slots.size)).sum ≤ 0
      rw [List.drop_eq_nil_of_le (Nat.le_of_eq Array.length_toList)]
      exact Nat.le_refl _
/-- 'throw new E()': new; dup; invokespecial; athrow -/
theorem vx_throw0 {cc : ByteArray} {pc : Nat} (hexec : p.tables.exec = Jvm.exec) (hb : c.code = cc) (hl : l.stackTraces = false) {own cls : String} {names : List String} {ik ic mc ms : Nat} {A : Nat → Prop}
    (hown : s.vm.findClass own = some m.cls) (hcls : Bundle.fit cls = true) (hnames : ∀ n ∈ names, Bundle.fit n = true)
    (hk : (Cond.classLink own ik cls).before args s = true) (hini : (Cond.initialized cls).before args s = true) (hat : ∀ w ∈ vx_at0 own ic cls names, w.before args s = true)
    (hgood : ∀ w ∈ Cond.classLink own ik cls :: Cond.initialized cls :: vx_at0 own ic cls names, vx_ot w = true)
    (hU : vx_Zq Bundle.tN "UNASSIGNED_STACK" Bundle.steD A s s.heap) (hN : vx_Zq Bundle.tN "SUPPRESSED_SENTINEL" Bundle.listD A s s.heap) (hS : va_S A s.heap H locs) (hsize : ls.size = c.maxLocals)
    (d0 : decode cc pc = .ok (.new ik, 3)) (d3 : decode cc (pc + 3) = .ok (.dup, 1)) (d4 : decode cc (pc + 4) = .ok (.invokespecial ic, 3)) (d7 : decode cc (pc + 7) = .ok (.athrow, 1))
    (hout : ∀ x ∈ c.exceptionTable.toList, covers x (pc + 7) = false)
    (hRframes : names.length + 3 < R.frames) (hRlocals : (rest.map fun v => v.category).sum + (13 * (names.length + 1) + 42) ≤ R.locals) (hRcells : cells + 1 ≤ R.cells) (hRslots : slots + 6 ≤ R.slots) (hlocks : meth.locks = false)
    (hx : ∀ t : State, s.vm.Alike t.vm → H.size ≤ t.heap.size → (∀ q : Nat, q < H.size → t.heap[q]? = H[q]?) → XC cls s t)
    (hf : ∀ z ∈ locs, free z.base) (hc : cells + 1 ≤ mc) (hs : slots + 6 ≤ ms) :
    W p l e R s m args below meth c H locs cells slots (vx_MQ below Qc XC args s mc ms free) (F0 m pc ls rest) := by
  intro T hT X
  have htr : e.platform.stackTraces = false := (show e.platform.stackTraces = l.stackTraces by rw [X.admits.platform]).trans hl
  have Y := vx_rebase X (R' := { frames := R.frames, locals := R.locals, cells := 1, slots := 6 }) (Nat.le_refl _) (Nat.le_refl _) hRcells hRslots
  obtain ⟨s', hA⟩ : ∃ z, z = (T.setVm s.vm).setFrames (.invoking m args :: below) := ⟨_, rfl⟩
  rw [← hA] at Y
  have hvm : s'.vm = s.vm := by rw [hA]; rfl
  have hhp : s'.heap = H := by rw [hA]; exact hT
  have hW0 : s.WarmedH s'.vm := by rw [hvm]; exact State.WarmedH.refl s
  have hat' : ∀ w ∈ vx_at0 own ic cls names, w.before args s' = true := fun w hw => vx_ot_at hW0 hvm.symm (hgood w (List.mem_cons_of_mem _ (List.mem_cons_of_mem _ hw))) (hat w hw)
  have hk' : (Cond.classLink own ik cls).before args s' = true := vx_ot_at hW0 hvm.symm (hgood _ List.mem_cons_self) hk
  have hini' : (Cond.initialized cls).before args s' = true := vx_ot_at hW0 hvm.symm (hgood _ (List.mem_cons_of_mem _ List.mem_cons_self)) hini
  have hU' : vx_Zq Bundle.tN "UNASSIGNED_STACK" Bundle.steD A s' s'.heap := by rw [hhp]; exact vx_Zq.moved hW0.alike (hU.kept hS.2.1)
  have hN' : vx_Zq Bundle.tN "SUPPRESSED_SENTINEL" Bundle.listD A s' s'.heap := by rw [hhp]; exact vx_Zq.moved hW0.alike (hN.kept hS.2.1)
  have h : ∀ w ∈ Bundle.ownAtoms0 own ic cls names, w.before args s' = true := vx_own hat' (vx_isRefq hU'.1) (vx_isRefq hN'.1) hU'.2.word hN'.2.word
  have hown' : s'.vm.findClass own = some m.cls := by rw [hvm]; exact hown
  have hins : (Cond.instantiable cls 6).before args s' = true := h _ (by simp [Bundle.ownAtoms0])
  obtain ⟨vm₁, cX, kX, hfX, hkX, -, -, X₁, st1⟩ := Y.newCold hexec (own := own) (C := cls) (index := ik) (n := 6) hown' hk' hins hini'
    (g := F0 m pc ls rest) rfl (by rw [hb]; exact d0) (Nat.le_refl _) (Nat.le_refl _)
  generalize hT1 : (T.setVm vm₁).pushCell { cls := cX, slots := kX.instanceTypes.map defaultValue, vm := .none } = T1 at X₁ st1
  have hcat : (Value.ref T.heap.size).category = 1 := rfl
  have hcellA : T1.heap[T.heap.size]? = some (freshCell cX kX) := by rw [← hT1]; exact State.heap_pushCell_size _ _
  have d3' : decode c.code (pc + 3) = .ok (.dup, 1) := by rw [hb]; exact d3
  obtain ⟨U, hsteps, hrun, hend, hW, hsame, ce, hce, hO⟩ := X₁.ctorThrow0 hexec htr (own := own) (cls := cls) (names := names) (ic := ic) hown' hcls hnames h (fun x hx => nomatch hx) hfX hkX hcellA (by rw [hhp, hT]; exact Nat.le_refl _)
    (g := { method := m, pc := pc + 4, locals := ls, stack := .ref T.heap.size :: .ref T.heap.size :: rest, locked := none }) rfl hsize rfl rfl (rest := rest) rfl
    (by rw [hb]; exact d4) (by rw [hb]; exact d7) hout hRframes (by simp only [List.map_cons, List.sum_cons, hcat]; omega) hlocks
  obtain ⟨f1, f2⟩ := vx_frame hsame
  rw [hhp] at f1 f2
  have hWs : s.WarmedH U.vm := State.WarmedH.trans hW0 hW
  have hcl : s.vm.findClass cls = some ce.cls := by
    have h9 := hO.cls
    rw [hvm] at h9
    exact h9
  have hall : s.sameButNew ({ U with vm := s.vm } : State) locs mc ms := by
    subst hA
    obtain ⟨e1, e2⟩ := hsame
    rw [State.setFrames_setFrames] at e1
    have h2 : (T.setVm s.vm).sameButNew ({ U with vm := s.vm } : State) [] (0 + 1) (0 + 6) := ⟨e1, e2⟩
    have h3 := X.same.trans h2
    rw [List.append_nil] at h3
    exact h3.mono hc hs
  refine ⟨U, ?_, .threw T.heap.size, hrun, hend, Or.inr ⟨T.heap.size, rfl, cls, ce, locs, hx U hWs.alike f1 (fun q hq => f2 q hq (fun z hz => nomatch hz)), hce, hO.vm, hcl, hWs, hall, hf⟩⟩
  refine st1 _ ?_
  show Steps p.tables e below (T1.setTop { method := m, pc := pc + 3, locals := ls, stack := .ref T.heap.size :: rest, locked := none }) _
  jvm_step X₁.here [X₁.here.top, hexec, d3', Value.category]
  exact hsteps
/-- 'throw new E("text")': new; dup; ldc; invokespecial; athrow -/
theorem vx_throwS {cc : ByteArray} {pc : Nat} (hexec : p.tables.exec = Jvm.exec) (hb : c.code = cc) (hl : l.stackTraces = false) {own cls text : String} {names : List String} {ik is ic mc ms sa : Nat} {A : Nat → Prop}
    (hown : s.vm.findClass own = some m.cls) (hcls : Bundle.fit cls = true) (hnames : ∀ n ∈ names, Bundle.fit n = true)
    (hk : (Cond.classLink own ik cls).before args s = true) (hini : (Cond.initialized cls).before args s = true) (hstr : vk_R own is text sa s) (hat : ∀ w ∈ vx_atS own ic cls names, w.before args s = true)
    (hgood : ∀ w ∈ Cond.classLink own ik cls :: Cond.initialized cls :: vx_atS own ic cls names, vx_ot w = true)
    (hU : vx_Zq Bundle.tN "UNASSIGNED_STACK" Bundle.steD A s s.heap) (hN : vx_Zq Bundle.tN "SUPPRESSED_SENTINEL" Bundle.listD A s s.heap) (hS : va_S A s.heap H locs) (hsize : ls.size = c.maxLocals)
    (d0 : decode cc pc = .ok (.new ik, 3)) (d3 : decode cc (pc + 3) = .ok (.dup, 1)) (d4 : decode cc (pc + 4) = .ok (.ldc is, 2)) (d6 : decode cc (pc + 6) = .ok (.invokespecial ic, 3)) (d9 : decode cc (pc + 9) = .ok (.athrow, 1))
    (hout : ∀ x ∈ c.exceptionTable.toList, covers x (pc + 9) = false)
    (hRframes : names.length + 3 < R.frames) (hRlocals : (rest.map fun v => v.category).sum + (13 * (names.length + 1) + 43) ≤ R.locals) (hRcells : cells + 1 ≤ R.cells) (hRslots : slots + 6 ≤ R.slots) (hlocks : meth.locks = false)
    (hx : ∀ t : State, s.vm.Alike t.vm → H.size ≤ t.heap.size → (∀ q : Nat, q < H.size → t.heap[q]? = H[q]?) → XC cls s t)
    (hf : ∀ z ∈ locs, free z.base) (hc : cells + 1 ≤ mc) (hs : slots + 6 ≤ ms) :
    W p l e R s m args below meth c H locs cells slots (vx_MQ below Qc XC args s mc ms free) (F0 m pc ls rest) := by
  intro T hT X
  have htr : e.platform.stackTraces = false := (show e.platform.stackTraces = l.stackTraces by rw [X.admits.platform]).trans hl
  have Y := vx_rebase X (R' := { frames := R.frames, locals := R.locals, cells := 1, slots := 6 }) (Nat.le_refl _) (Nat.le_refl _) hRcells hRslots
  obtain ⟨s', hA⟩ : ∃ z, z = (T.setVm s.vm).setFrames (.invoking m args :: below) := ⟨_, rfl⟩
  rw [← hA] at Y
  have hvm : s'.vm = s.vm := by rw [hA]; rfl
  have hhp : s'.heap = H := by rw [hA]; exact hT
  have hW0 : s.WarmedH s'.vm := by rw [hvm]; exact State.WarmedH.refl s
  have hat' : ∀ w ∈ vx_atS own ic cls names, w.before args s' = true := fun w hw => vx_ot_at hW0 hvm.symm (hgood w (List.mem_cons_of_mem _ (List.mem_cons_of_mem _ hw))) (hat w hw)
  have hk' : (Cond.classLink own ik cls).before args s' = true := vx_ot_at hW0 hvm.symm (hgood _ List.mem_cons_self) hk
  have hini' : (Cond.initialized cls).before args s' = true := vx_ot_at hW0 hvm.symm (hgood _ (List.mem_cons_of_mem _ List.mem_cons_self)) hini
  have hU' : vx_Zq Bundle.tN "UNASSIGNED_STACK" Bundle.steD A s' s'.heap := by rw [hhp]; exact vx_Zq.moved hW0.alike (hU.kept hS.2.1)
  have hN' : vx_Zq Bundle.tN "SUPPRESSED_SENTINEL" Bundle.listD A s' s'.heap := by rw [hhp]; exact vx_Zq.moved hW0.alike (hN.kept hS.2.1)
  have h : ∀ w ∈ Bundle.ownAtoms own ic cls names, w.before args s' = true := vx_own hat' (vx_isRefq hU'.1) (vx_isRefq hN'.1) hU'.2.word hN'.2.word
  have hown' : s'.vm.findClass own = some m.cls := by rw [hvm]; exact hown
  have hins : (Cond.instantiable cls 6).before args s' = true := h _ (by simp [Bundle.ownAtoms])
  obtain ⟨vm₁, cX, kX, hfX, hkX, -, -, X₁, st1⟩ := Y.newCold hexec (own := own) (C := cls) (index := ik) (n := 6) hown' hk' hins hini'
    (g := F0 m pc ls rest) rfl (by rw [hb]; exact d0) (Nat.le_refl _) (Nat.le_refl _)
  generalize hT1 : (T.setVm vm₁).pushCell { cls := cX, slots := kX.instanceTypes.map defaultValue, vm := .none } = T1 at X₁ st1
  have hcat : (Value.ref T.heap.size).category = 1 := rfl
  have hcellA : T1.heap[T.heap.size]? = some (freshCell cX kX) := by rw [← hT1]; exact State.heap_pushCell_size _ _
  have d3' : decode c.code (pc + 3) = .ok (.dup, 1) := by rw [hb]; exact d3
  have d4' : decode c.code (pc + 4) = .ok (.ldc is, 2) := by rw [hb]; exact d4
  have hstr' : vk_R own is text sa s' := vk_R.warm hW0 hstr
  obtain ⟨U, hsteps, hrun, hend, hW, hsame, ce, hce, hO⟩ := X₁.ctorThrowS hexec htr (own := own) (cls := cls) (names := names) (ic := ic) hown' hcls hnames h (fun x hx => nomatch hx) hfX hkX hcellA (by rw [hhp, hT]; exact Nat.le_refl _) (msg := .ref sa) rfl
    (g := { method := m, pc := pc + 6, locals := ls, stack := .ref sa :: .ref T.heap.size :: .ref T.heap.size :: rest, locked := none }) rfl hsize rfl rfl (rest := rest) rfl
    (by rw [hb]; exact d6) (by rw [hb]; exact d9) hout hRframes (by simp only [List.map_cons, List.sum_cons, hcat]; omega) hlocks
  obtain ⟨f1, f2⟩ := vx_frame hsame
  rw [hhp] at f1 f2
  have hWs : s.WarmedH U.vm := State.WarmedH.trans hW0 hW
  have hcl : s.vm.findClass cls = some ce.cls := by
    have h9 := hO.cls
    rw [hvm] at h9
    exact h9
  have hall : s.sameButNew ({ U with vm := s.vm } : State) locs mc ms := by
    subst hA
    obtain ⟨e1, e2⟩ := hsame
    rw [State.setFrames_setFrames] at e1
    have h2 : (T.setVm s.vm).sameButNew ({ U with vm := s.vm } : State) [] (0 + 1) (0 + 6) := ⟨e1, e2⟩
    have h3 := X.same.trans h2
    rw [List.append_nil] at h3
    exact h3.mono hc hs
  refine ⟨U, ?_, .threw T.heap.size, hrun, hend, Or.inr ⟨T.heap.size, rfl, cls, ce, locs, hx U hWs.alike f1 (fun q hq => f2 q hq (fun z hz => nomatch hz)), hce, hO.vm, hcl, hWs, hall, hf⟩⟩
  refine st1 _ ?_
  show Steps p.tables e below (T1.setTop { method := m, pc := pc + 3, locals := ls, stack := .ref T.heap.size :: rest, locked := none }) _
  jvm_step X₁.here [X₁.here.top, hexec, d3', Value.category]
  exact X₁.ldcString hexec (own := own) (text := text) (index := is) (a := sa) hown' hstr'.1 hstr'.2
    (g := { method := m, pc := pc + 4, locals := ls, stack := .ref T.heap.size :: .ref T.heap.size :: rest, locked := none }) rfl d4' _ hsteps
/-- 'throw new E("text")', the text by a wide index -/
theorem vx_throwSW {cc : ByteArray} {pc : Nat} (hexec : p.tables.exec = Jvm.exec) (hb : c.code = cc) (hl : l.stackTraces = false) {own cls text : String} {names : List String} {ik is ic mc ms sa : Nat} {A : Nat → Prop}
    (hown : s.vm.findClass own = some m.cls) (hcls : Bundle.fit cls = true) (hnames : ∀ n ∈ names, Bundle.fit n = true)
    (hk : (Cond.classLink own ik cls).before args s = true) (hini : (Cond.initialized cls).before args s = true) (hstr : vk_R own is text sa s) (hat : ∀ w ∈ vx_atS own ic cls names, w.before args s = true)
    (hgood : ∀ w ∈ Cond.classLink own ik cls :: Cond.initialized cls :: vx_atS own ic cls names, vx_ot w = true)
    (hU : vx_Zq Bundle.tN "UNASSIGNED_STACK" Bundle.steD A s s.heap) (hN : vx_Zq Bundle.tN "SUPPRESSED_SENTINEL" Bundle.listD A s s.heap) (hS : va_S A s.heap H locs) (hsize : ls.size = c.maxLocals)
    (d0 : decode cc pc = .ok (.new ik, 3)) (d3 : decode cc (pc + 3) = .ok (.dup, 1)) (d4 : decode cc (pc + 4) = .ok (.ldc_w is, 3)) (d7 : decode cc (pc + 7) = .ok (.invokespecial ic, 3)) (d10 : decode cc (pc + 10) = .ok (.athrow, 1))
    (hout : ∀ x ∈ c.exceptionTable.toList, covers x (pc + 10) = false)
    (hRframes : names.length + 3 < R.frames) (hRlocals : (rest.map fun v => v.category).sum + (13 * (names.length + 1) + 43) ≤ R.locals) (hRcells : cells + 1 ≤ R.cells) (hRslots : slots + 6 ≤ R.slots) (hlocks : meth.locks = false)
    (hx : ∀ t : State, s.vm.Alike t.vm → H.size ≤ t.heap.size → (∀ q : Nat, q < H.size → t.heap[q]? = H[q]?) → XC cls s t)
    (hf : ∀ z ∈ locs, free z.base) (hc : cells + 1 ≤ mc) (hs : slots + 6 ≤ ms) :
    W p l e R s m args below meth c H locs cells slots (vx_MQ below Qc XC args s mc ms free) (F0 m pc ls rest) := by
  intro T hT X
  have htr : e.platform.stackTraces = false := (show e.platform.stackTraces = l.stackTraces by rw [X.admits.platform]).trans hl
  have Y := vx_rebase X (R' := { frames := R.frames, locals := R.locals, cells := 1, slots := 6 }) (Nat.le_refl _) (Nat.le_refl _) hRcells hRslots
  obtain ⟨s', hA⟩ : ∃ z, z = (T.setVm s.vm).setFrames (.invoking m args :: below) := ⟨_, rfl⟩
  rw [← hA] at Y
  have hvm : s'.vm = s.vm := by rw [hA]; rfl
  have hhp : s'.heap = H := by rw [hA]; exact hT
  have hW0 : s.WarmedH s'.vm := by rw [hvm]; exact State.WarmedH.refl s
  have hat' : ∀ w ∈ vx_atS own ic cls names, w.before args s' = true := fun w hw => vx_ot_at hW0 hvm.symm (hgood w (List.mem_cons_of_mem _ (List.mem_cons_of_mem _ hw))) (hat w hw)
  have hk' : (Cond.classLink own ik cls).before args s' = true := vx_ot_at hW0 hvm.symm (hgood _ List.mem_cons_self) hk
  have hini' : (Cond.initialized cls).before args s' = true := vx_ot_at hW0 hvm.symm (hgood _ (List.mem_cons_of_mem _ List.mem_cons_self)) hini
  have hU' : vx_Zq Bundle.tN "UNASSIGNED_STACK" Bundle.steD A s' s'.heap := by rw [hhp]; exact vx_Zq.moved hW0.alike (hU.kept hS.2.1)
  have hN' : vx_Zq Bundle.tN "SUPPRESSED_SENTINEL" Bundle.listD A s' s'.heap := by rw [hhp]; exact vx_Zq.moved hW0.alike (hN.kept hS.2.1)
  have h : ∀ w ∈ Bundle.ownAtoms own ic cls names, w.before args s' = true := vx_own hat' (vx_isRefq hU'.1) (vx_isRefq hN'.1) hU'.2.word hN'.2.word
  have hown' : s'.vm.findClass own = some m.cls := by rw [hvm]; exact hown
  have hins : (Cond.instantiable cls 6).before args s' = true := h _ (by simp [Bundle.ownAtoms])
  obtain ⟨vm₁, cX, kX, hfX, hkX, -, -, X₁, st1⟩ := Y.newCold hexec (own := own) (C := cls) (index := ik) (n := 6) hown' hk' hins hini'
    (g := F0 m pc ls rest) rfl (by rw [hb]; exact d0) (Nat.le_refl _) (Nat.le_refl _)
  generalize hT1 : (T.setVm vm₁).pushCell { cls := cX, slots := kX.instanceTypes.map defaultValue, vm := .none } = T1 at X₁ st1
  have hcat : (Value.ref T.heap.size).category = 1 := rfl
  have hcellA : T1.heap[T.heap.size]? = some (freshCell cX kX) := by rw [← hT1]; exact State.heap_pushCell_size _ _
  have d3' : decode c.code (pc + 3) = .ok (.dup, 1) := by rw [hb]; exact d3
  have d4' : decode c.code (pc + 4) = .ok (.ldc_w is, 3) := by rw [hb]; exact d4
  have hstr' : vk_R own is text sa s' := vk_R.warm hW0 hstr
  obtain ⟨U, hsteps, hrun, hend, hW, hsame, ce, hce, hO⟩ := X₁.ctorThrowS hexec htr (own := own) (cls := cls) (names := names) (ic := ic) hown' hcls hnames h (fun x hx => nomatch hx) hfX hkX hcellA (by rw [hhp, hT]; exact Nat.le_refl _) (msg := .ref sa) rfl
    (g := { method := m, pc := pc + 7, locals := ls, stack := .ref sa :: .ref T.heap.size :: .ref T.heap.size :: rest, locked := none }) rfl hsize rfl rfl (rest := rest) rfl
    (by rw [hb]; exact d7) (by rw [hb]; exact d10) hout hRframes (by simp only [List.map_cons, List.sum_cons, hcat]; omega) hlocks
  obtain ⟨f1, f2⟩ := vx_frame hsame
  rw [hhp] at f1 f2
  have hWs : s.WarmedH U.vm := State.WarmedH.trans hW0 hW
  have hcl : s.vm.findClass cls = some ce.cls := by
    have h9 := hO.cls
    rw [hvm] at h9
    exact h9
  have hall : s.sameButNew ({ U with vm := s.vm } : State) locs mc ms := by
    subst hA
    obtain ⟨e1, e2⟩ := hsame
    rw [State.setFrames_setFrames] at e1
    have h2 : (T.setVm s.vm).sameButNew ({ U with vm := s.vm } : State) [] (0 + 1) (0 + 6) := ⟨e1, e2⟩
    have h3 := X.same.trans h2
    rw [List.append_nil] at h3
    exact h3.mono hc hs
  refine ⟨U, ?_, .threw T.heap.size, hrun, hend, Or.inr ⟨T.heap.size, rfl, cls, ce, locs, hx U hWs.alike f1 (fun q hq => f2 q hq (fun z hz => nomatch hz)), hce, hO.vm, hcl, hWs, hall, hf⟩⟩
  refine st1 _ ?_
  show Steps p.tables e below (T1.setTop { method := m, pc := pc + 3, locals := ls, stack := .ref T.heap.size :: rest, locked := none }) _
  jvm_step X₁.here [X₁.here.top, hexec, d3', Value.category]
  exact X₁.ldcStringW hexec (own := own) (text := text) (index := is) (a := sa) hown' hstr'.1 hstr'.2
    (g := { method := m, pc := pc + 4, locals := ls, stack := .ref T.heap.size :: .ref T.heap.size :: rest, locked := none }) rfl d4' _ hsteps
end Ends
section Bodies
variable {l : Launch}
theorem vx_ofW {y : MethodName} {ws ws' : List Cond} {rm : Room} {Pc : Array Value → State → Prop} {Qc : Array Value → State → Outcome → State → Prop} {XC : String → State → State → Prop} {mc ms : Nat} {free : Addr → Prop} {cc : ByteArray} {maxL : Nat} {ret : Option FieldType}
    (hy : plainName y.cls = true) (hw : ws = Cond.code y cc maxL ret :: ws')
    (body : ∀ p e s m args below meth c s₁, BodyLoose p l y (headSpec ws rm) cc maxL ret e s m args below meth c s₁ → c.maxLocals = maxL → (∀ x ∈ c.exceptionTable.toList, False) → Pc args s →
      W p l e (headSpec ws rm).room s m args below meth c s.heap [] 0 0 (vx_MQ below Qc XC args s mc ms free) (entryFrame m args maxL)) : vx_Met l y ws rm Pc Qc XC mc ms free := by
  refine MetFree.of_bodyS (code := cc) (maxLocals := maxL) (ret := ret) hy ?_ ?_
  · intro args s m h hn
    obtain ⟨meth, c, h1, h2, h3, h4, h5, h6, -, -⟩ := Cond.code_spec hn (atoms_spec (ws := ws) h _ (by rw [hw]; exact List.mem_cons_self))
    exact ⟨meth, c, h1, h2, h3, h4, h5, h6⟩
  · intro p e s m args below meth c s₁ B hml hP _
    have hh0 : s₁.heap = s.heap := by rw [B.state]; rfl
    have ht : ∀ x ∈ c.exceptionTable.toList, False := by
      obtain ⟨meth9, c9, h1, h2, -, -, -, -, h7, -⟩ := Cond.code_spec B.named (atoms_spec (ws := ws) B.pre _ (by rw [hw]; exact List.mem_cons_self))
      cases Option.some.inj (h1.symm.trans B.method)
      cases Option.some.inj (h2.symm.trans (Stand.of_body B).code)
      intro x hx
      rw [Array.isEmpty_iff.mp h7] at hx
      cases hx
    obtain ⟨t, a1, o, b1, b2, b3⟩ := body p e s m args below meth c s₁ B hml ht hP s₁ hh0 (Stand.of_body B)
    exact ⟨t, o, a1, b1, b2, b3⟩
/-- the table of a body with handlers -/
theorem vx_table {p : Program} {x y : MethodName} {S : Spec} {cc bytes : ByteArray} {maxL maxL' : Nat} {ret ret' : Option FieldType} {e : Env} {s s₁ : State} {m : MethodId} {args : Array Value} {below : List Frame} {meth : Method} {c : Code} {hh : List (Nat × Nat × Nat × Nat)}
    (B : BodyLoose p l y S cc maxL ret e s m args below meth c s₁) (h : (Cond.codeWith y bytes maxL' ret' hh).before args s = true) : c.exceptionTable.toList = tableOf hh := by
  obtain ⟨m9, meth9, c9, hn9, h1, h2, -, -, h6, -⟩ := Cond.codeWith_spec h
  cases Option.some.inj (hn9.symm.trans B.named)
  cases Option.some.inj (h1.symm.trans B.method)
  cases Option.some.inj (h2.symm.trans (Stand.of_body B).code)
  rw [← h6, table_eq]
end Bodies
end VXA
/-! ===== END ===== -/
/-! ===== BEGIN a static call of a method with an exception table ===== -/
section VXS
variable {p : Program} {l : Launch} {e : Env} {R : Room} {s : State} {m : MethodId} {args : Array Value} {below : List Frame} {meth : Method} {c : Code} {T : State} {H : Heap} {locs : List Loc} {cells slots : Nat}
abbrev vx_CSW (R : Room) (s : State) (args : Array Value) (own : String) (index : Nat) (y : MethodName) (bytes : ByteArray) (maxL : Nat) (ret : Option FieldType) (hh : List (Nat × Nat × Nat × Nat)) (ws : List Cond) (rm : Room) (mc ms n : Nat) : Prop :=
  (rm.cells = mc ∧ rm.slots = ms ∧ rm.frames + 1 ≤ R.frames ∧ 8 + (maxL + 11) + rm.locals ≤ R.locals ∧ (∀ w ∈ ws, ∀ (a' : Array Value) (U : State), s.WarmedH U.vm → w.before a' U = true) ∧ Cond.codeWith y bytes maxL ret hh ∈ ws) ∧
  (Cond.codeWith y bytes maxL ret hh).before args s = true ∧ (Cond.initialized y.cls).before args s = true ∧ (y.cls ≠ "java/lang/invoke/MethodHandle" ∧ y.cls ≠ "java/lang/invoke/VarHandle") ∧
  (∀ sig, parseMethodDescriptor y.desc = some sig → n = sig.parameters.length) ∧ (Cond.methodLink own index y).before args s = true ∧ (Cond.static y).before args s = true
theorem vx_cwSW {own : String} {index maxL mc ms : Nat} {y : MethodName} {bytes : ByteArray} {ret : Option FieldType} {hh : List (Nat × Nat × Nat × Nat)} {Ts ws ws' : List Cond} {rm : Room} (n : Nat) (ht : ∀ w ∈ Ts, w.before args s = true) (hT : GoodIn Ts (va_wsS own index y ws)) (hw : ws = Cond.codeWith y bytes maxL ret hh :: ws') (hrc : rm.cells = mc) (hrs : rm.slots = ms)
    (hd : y.cls ≠ "java/lang/invoke/MethodHandle" ∧ y.cls ≠ "java/lang/invoke/VarHandle" ∧ (parseMethodDescriptor y.desc).map (fun d => d.parameters.length) = some n) (hR : rm.frames + 1 ≤ R.frames ∧ 8 + (maxL + 11) + rm.locals ≤ R.locals) :
    vx_CSW R s args own index y bytes maxL ret hh ws rm mc ms n := by
  have ok : ∀ w ∈ va_wsS own index y ws, w.before args s = true := fun w h => ht w (hT w h).1
  have hG : GoodIn Ts ws := fun w h => hT w (by unfold va_wsS; exact List.mem_append_right _ h)
  have hc : Cond.codeWith y bytes maxL ret hh ∈ ws := by rw [hw]; exact List.mem_cons_self
  refine ⟨⟨hrc, hrs, hR.1, hR.2, pay_in ht hG, hc⟩, ht _ (hG _ hc).1, ok _ (by simp [va_wsS]), ⟨hd.1, hd.2.1⟩, fun sig h => ?_, ok _ (by simp [va_wsS]), ok _ (by simp [va_wsS])⟩
  have h2 := hd.2.2
  rw [h] at h2
  exact (Option.some.inj h2).symm
theorem vx_callSW (X : Stand p l e R s m args below meth c T locs cells slots) (hexec : p.tables.exec = Jvm.exec) {own : String} {index : Nat} {y : MethodName} {bytes : ByteArray} {maxL : Nat} {ret : Option FieldType} {hh : List (Nat × Nat × Nat × Nat)}
    (hown : s.vm.findClass own = some m.cls) (hlink : (Cond.methodLink own index y).before args s = true) (hstat : (Cond.static y).before args s = true) (hinit : (Cond.initialized y.cls).before args s = true)
    (hcode : (Cond.codeWith y bytes maxL ret hh).before args s = true) (hy : y.cls ≠ "java/lang/invoke/MethodHandle" ∧ y.cls ≠ "java/lang/invoke/VarHandle")
    {W9 : Nat} {Pre : Pt → Array Value → Prop} {Post : Pt → Array Value → Option Value → Pt → Prop} (hK : Back l R p e below s args y 3 W9 Pre Post)
    {g : JFrame} (hg : g.method = m) (hsize : g.locals.size = c.maxLocals) {argsL rest : List Value} (hlen : ∀ sig, parseMethodDescriptor y.desc = some sig → argsL.length = sig.parameters.length)
    (hstack : g.stack = argsL.reverse ++ rest) (hW : 2 * g.monitorRoom + (rest.map fun v => v.category).sum ≤ W9) (hdg : decode c.code g.pc = .ok (.invokestatic index, 3))
    (hpre : ∀ vm₁, s.WarmedH vm₁ → Pre ⟨T.setVm vm₁, locs, cells, slots⟩ argsL.toArray) :
    ∃ (v : Option Value) (vm₁ : Vm) (B : Pt), s.WarmedH vm₁ ∧ Stand p l e R s m args below meth c B.U B.locs B.cells B.slots ∧ Post ⟨T.setVm vm₁, locs, cells, slots⟩ argsL.toArray v B ∧
      ∀ target, Steps p.tables e below (B.U.setTop { g with pc := g.pc + 3, stack := v.toList ++ rest }) target → Steps p.tables e below (T.setTop g) target := by
  obtain ⟨mk, methM, cM, hnamed, hmethM, -, -, -, -, -, -, hsigM⟩ := Cond.codeWith_spec hcode
  have hstatic : methM.isStatic = true := Cond.static_spec hnamed hmethM hstat
  obtain ⟨kP, hkP, -⟩ := className_of_methodNamed hnamed
  have hinitP : kP.init = .initialized := Cond.initialized_spec (findClass_of_methodNamed hnamed) hkP hinit
  obtain ⟨vm₁, X₁, hstep₁⟩ := X.invokestatic hexec hown hlink hnamed hmethM hstatic hkP hinitP hy (g := g) hg (argsL := argsL) (rest := rest) (hlen _ hsigM) hstack hdg
  obtain ⟨v, B, X', hpost, hsteps⟩ := hK m meth c ⟨T.setVm vm₁, locs, cells, slots⟩ { g with stack := rest } (.invokestatic index) mk argsL.toArray X₁ hg hsize hdg hW (X₁.named hnamed) (hpre vm₁ X₁.warmed)
  exact ⟨v, vm₁, B, X₁.warmed, X', hpost, fun target h => hstep₁ _ fun acts => by rw [doInvoke_state]; exact hsteps.trans h⟩
theorem vx_runSW {y : MethodName} {bytes cc : ByteArray} {maxL nL mc ms n index : Nat} {ret : Option FieldType} {hh : List (Nat × Nat × Nat × Nat)} {ws : List Cond} {rm : Room} {Pc : Array Value → State → Prop} {Qc : Array Value → State → Outcome → State → Prop} {free : Addr → Prop} {Ts : List Cond} {own : String} {As rest : List Value} {g : JFrame}
    (S : CallFix p m c cc nL s args Ts own) (hM : Met l y ws rm Pc Qc mc ms free) (cw : vx_CSW R s args own index y bytes maxL ret hh ws rm mc ms n) (hp : PreS s H Pc As)
    (hg : g.method = m) (hn : As.length = n) (hsize : g.locals.size = nL) (hstack : g.stack = As.reverse ++ rest) (hW : 2 * g.monitorRoom + (rest.map fun v => v.category).sum ≤ 8) (hdg : decode cc g.pc = .ok (.invokestatic index, 3)) (hf : cells + mc ≤ R.cells ∧ slots + ms ≤ R.slots) :
    va_Run p l e R s m args below meth c H locs cells slots mc ms g rest (Qc As.toArray) (free) := by
  obtain ⟨⟨hrc, hrs, hfr, hlo, hws, hcw⟩, hcode, hini, hy, hlen, hl, hstt⟩ := cw
  have hK : Back l R p e below s args y 3 8 (PreOf R mc ms Pc) (PostOf Qc mc ms free) := va_backW (hh := hh) (bytes := bytes) (maxL := maxL) (ret := ret) hM hp.1 hrc hrs hfr hlo hws hcw (fun a' U hW => word_at hW (Or.inl (by first | rfl | simp [Cond.onTables, Cond.keeps, Cond.steady])) hini)
  obtain ⟨hx, hb, hml, ho, -⟩ := S
  intro T hT X
  obtain ⟨v, vm₁, ⟨U', l2, c2, s2⟩, hW₁, X', ⟨g', mk, t, L, e1, e2, hq, h1, hL, h2, h3⟩, st⟩ := vx_callSW X hx (hh := hh) (bytes := bytes) (maxL := maxL) (ret := ret) ho hl hstt hini hcode hy hK hg (hsize.trans hml.symm) (argsL := As) (rest := rest) (fun sig h => hn.trans (hlen sig h)) hstack hW (by rw [hb]; exact hdg)
    (fun vm₁ hW₁ => ⟨hf.1, hf.2, hp.2 (T.setVm vm₁) hT hW₁⟩)
  dsimp only [Pt.U, Pt.locs, Pt.cells, Pt.slots] at X' e1 e2 h1 h2 h3 st
  subst h1; subst h2; subst h3
  exact ⟨v, (T.setVm vm₁).calling g' mk As.toArray, t, U', L, hT, X', hL, e1, e2, hq, st⟩
/-- not caught here, past rows that name other classes: it goes on to the caller -/
theorem vx_outP {p : Program} {l : Launch} {e : Env} {R : Room} {s : State} {m : MethodId} {args : Array Value} {below : List Frame} {meth : Method} {c : Code} {H : Heap} {locs : List Loc} {cells slots : Nat} {free : Addr → Prop} {ls : Array Slot} {rest : List Value} {Qc : Array Value → State → Outcome → State → Prop} {XC : String → State → State → Prop}
    {pc : Nat} {own E : String} {ce : Cell} {q : Addr} {mc ms : Nat} (hown : s.vm.findClass own = some m.cls) (hlocks : meth.locks = false)
    (hpass : ∀ z ∈ c.exceptionTable.toList, covers z pc = false ∨ (z.catchType ≠ 0 ∧ ∃ nm : String, (Cond.classLink own z.catchType nm).before args s = true ∧ va_Nc E nm s)) (hcell : H[q]? = some ce) (hv : ce.vm = .none) (hcl : s.vm.findClass E = some ce.cls)
    (hx : ∀ t : State, t.heap = H → s.vm.Alike t.vm → XC E s t) (hf : ∀ z ∈ locs, free z.base) (hc : cells ≤ mc) (hs : slots ≤ ms) :
    vx_W p l e R s m args below meth c H locs cells slots (vx_MQ below Qc XC args s mc ms free) (F0 m pc ls rest) q := by
  intro T hT X
  have hpl : e.platform.magicAccessors = ({} : Platform).magicAccessors := by rw [X.admits.platform]
  obtain ⟨vm', hW', X', st⟩ := X.outThrough hlocks q (g := F0 m pc ls rest) rfl rfl rfl (cell := ce) (by rw [hT]; exact hcell) (by rw [hv]; rfl)
    (by obtain ⟨k9, h9, -⟩ := Vm.findClass_spec hcl; exact ⟨k9, h9⟩) (fun z hz => by
      rcases hpass z hz with h | ⟨hz0, nm, hl1, hn1⟩
      · exact Or.inl h
      · obtain ⟨c6, hc6, hcl6⟩ := Cond.classLink_spec hown hl1 e.platform hpl
        obtain ⟨a8, b8, h1, h2, h3⟩ := hn1
        cases Option.some.inj (h1.symm.trans hcl)
        cases Option.some.inj (h2.symm.trans hc6)
        exact Or.inr ⟨hz0, _, hcl6, h3⟩)
  obtain ⟨g₀, hfr⟩ := X'.frames_eq
  have hcell9 : ((T.setVm vm').setFrames (.throwing q :: below)).heap[q]? = some ce := by
    show T.heap[q]? = some ce
    rw [hT]; exact hcell
  have hend : Ended ((T.setVm vm').setFrames (.throwing q :: below)) below (.threw q) := State.frames_setFrames _ (State.cur_lt_of_frames hfr)
  refine ⟨(T.setVm vm').setFrames (.throwing q :: below), ?_, .threw q, X'.here.running, hend, Or.inr ⟨q, rfl, E, ce, locs, hx _ hT (X'.ends _).1.alike, hcell9, hv, hcl, (X'.ends _).1, (X'.ends _).2.mono hc hs, hf⟩⟩
  rw [X.pushThrowing_eq]
  exact st
/-- a thing of a world lies in the heap -/
theorem vx_lt {D : va_G} {cl : List vw_C} {ws : va_W} {H1 : Heap} (h : va_P D cl ws H1) {k : Nat} {q : Nat × va_E} (hk : ws[k]? = some q) : q.1 < H1.size := (h k q hk).lt
end VXS
/-! ===== END ===== -/
/-! ===== BEGIN methods with a table of their own: called by a name, returning or throwing ===== -/
section VXH
/-! vx_backW, vx_callVX, vx_callSX, vx_callVW, vx_runVW, vx_runVX, vx_runSX, vx_ofWH follow the same proofs as their sisters above (Free/Laws.lean, Shelf42/LK1.lean); vx_outP calls Shelf42/NT130.lean (outThrough). -/
section
variable {l : Launch} {R : Room} {p : Program} {e : Env} {below : List Frame} {s : State} {sargs : Array Value} {y : MethodName} {len W9 : Nat}
theorem vx_backW {ws : List Cond} {rm : Room} {Pc : Array Value → State → Prop} {Qc : Array Value → State → Outcome → State → Prop} {XC : String → State → State → Prop} {mc ms : Nat} {free : Addr → Prop} {bytes : ByteArray} {maxL : Nat} {ret : Option FieldType} {hh : List (Nat × Nat × Nat × Nat)}
    (hM : vx_Met l y ws rm Pc Qc XC mc ms free) (hblind : FrameBlind Pc) (hrc : rm.cells = mc) (hrs : rm.slots = ms)
    (hframes : rm.frames + 1 ≤ R.frames) (hlocals : W9 + (maxL + 11) + rm.locals ≤ R.locals)
    (hws : ∀ w ∈ ws, ∀ a' U, s.WarmedH U.vm → w.before a' U = true) (hcode : Cond.codeWith y bytes maxL ret hh ∈ ws) (hinit : ∀ a' U, s.WarmedH U.vm → (Cond.initialized y.cls).before a' U = true) :
    vx_Back l R p e below s sargs y len W9 (PreOf R mc ms Pc) (PostOf Qc mc ms free) (vx_Post XC mc ms free) := by
  intro m meth c A g ig mk a X hg hsize hdg hW hn hp
  have h1 : (headSpec ws rm).pre.before a A.U = true := atoms_intro fun w hw => hws w hw _ _ X.warmed
  have h2 : (Cond.codeWith y bytes maxL ret hh).before a A.U = true := hws _ hcode _ _ X.warmed
  have h3 : (Cond.initialized y.cls).before a A.U = true := hinit _ _ X.warmed
  have h4 : A.cells + (headSpec ws rm).room.cells ≤ R.cells := by rw [show (headSpec ws rm).room.cells = mc from hrc]; exact hp.1
  have h5 : A.slots + (headSpec ws rm).room.slots ≤ R.slots := by rw [show (headSpec ws rm).room.slots = ms from hrs]; exact hp.2.1
  have hPc : Pc a (A.U.calling g mk a) := hblind _ _ _ _ hp.2.2
  obtain ⟨U, Ls, c0, s0⟩ := A
  dsimp only [Pt.U, Pt.locs, Pt.cells, Pt.slots] at h1 h2 h3 h4 h5 X hn hPc ⊢
  obtain ⟨m9, methY, cY, hn9, hmY, hcY, -, hlY, -⟩ := Cond.codeWith_spec h2
  cases Option.some.inj (hn9.symm.trans hn)
  obtain ⟨kY, hkY, -⟩ := className_of_methodNamed hn
  have hinitY : kY.init = .initialized := Cond.initialized_spec (findClass_of_methodNamed hn) hkY h3
  have h : At U g.method c below := by rw [hg]; exact X.here
  have hlocals9 : W9 + (maxL + 11) + (headSpec ws rm).room.locals ≤ R.locals := hlocals
  have happ : (headSpec ws rm).appliesLoose y e.platform (U.calling g mk a) = true :=
    Spec.appliesLoose_calling (g := g) h hdg hn hkY hinitY
      (X.room_calling (g := g) (R' := (headSpec ws rm).room) hsize hmY hcY hframes (by rw [hlY]; omega) h4 h5) h1
  obtain ⟨mid, hmid⟩ := h.above
  have hfr : (U.setTop g).frames = (.java g :: mid) ++ below := by rw [State.frames_setTop' g h.top, hmid]; rfl
  obtain ⟨o, s₂, hsteps, -, hend, hq⟩ := Steps.callFree hM p X.admits X.cas X.clock (acts := []) hfr happ hPc trivial
  have hq' : vx_Q Qc XC mc ms free a (U.calling g mk a) o s₂ := hq
  rw [State.frames_setTop' g h.top] at hend
  obtain ⟨g₀, hg0⟩ := Option.isSome_iff_exists.mp h.top
  obtain ⟨r, hr⟩ := State.topJava?_eq_some.mp hg0
  have hr' : (({ U with heap := s₂.heap, slotsUsed := s₂.slotsUsed } : State).setVm s₂.vm).frames = .java g₀ :: r := hr
  rcases hq' with ⟨hqc, L, hfe, hL⟩ | ⟨q, rfl, E, ce, L, hx, hce, hcv, hcl, hW₂, hsm, hL⟩
  · obtain ⟨⟨v, rfl⟩, hW₂, e2, q2, q3, q4, q5, q6⟩ := id hfe
    have e3 : s₂ = ({ (U.calling g mk a).setFrames s₂.frames with heap := s₂.heap, slotsUsed := s₂.slotsUsed } : State).setVm s₂.vm := by
      have : s₂ = ({ s₂ with vm := (U.calling g mk a).vm } : State).setVm s₂.vm := rfl
      rw [e2] at this
      exact this
    obtain ⟨c₂, i₂, len₂, hc₂, hd₂, hf₂⟩ := hend
    have hW' : U.WarmedH s₂.vm := hW₂
    have hcc : c₂ = c := by
      have h1 : s₂.code? g.method = U.code? g.method := by
        rw [State.code?_eq, State.code?_eq, hW'.alike.method?]
      exact Option.some.inj (hc₂.symm.trans (h1.trans h.code))
    subst hcc
    have hlen : len₂ = len := by rw [hdg] at hd₂; cases hd₂; rfl
    subst hlen
    have hs₂ : s₂ = (({ U with heap := s₂.heap, slotsUsed := s₂.slotsUsed } : State).setVm s₂.vm).setTop { g with pc := g.pc + len₂, stack := v.toList ++ g.stack } := by
      refine e3.trans ?_
      rw [hf₂, State.calling_eq h.top, State.setFrames_setFrames, State.setTop_of_frames _ hr', hr]
      rfl
    have hsame : U.sameButNew ({ U with heap := s₂.heap, slotsUsed := s₂.slotsUsed } : State) L mc ms := by
      refine ⟨?_, q2, q3, q4, q5, q6⟩
      obtain ⟨t, ht, -⟩ := State.frames_cons hr
      show ({ U with heap := s₂.heap, slotsUsed := s₂.slotsUsed } : State) = { U.setFrames U.frames with heap := s₂.heap, slotsUsed := s₂.slotsUsed }
      rw [State.setFrames_self ht]
    subst hg
    refine Or.inl ⟨v, ⟨(({ U with heap := s₂.heap, slotsUsed := s₂.slotsUsed } : State).setVm s₂.vm), Ls ++ L, c0 + mc, s0 + ms⟩,
      ⟨X.admits, X.cas, X.clock, X.frames, X.room, X.hears, X.method, X.code, (X.here.setHeapUsed s₂.heap s₂.slotsUsed).setVm hW'.alike, X.tail, State.WarmedH.trans X.warmed hW', X.limits, X.bytes, X.same.trans (hsame.setVm s.vm)⟩,
      ⟨g, mk, s₂, L, rfl, rfl, hqc, rfl, hL, rfl, rfl⟩, ?_⟩
    show Steps p.tables e below _ ((({ U with heap := s₂.heap, slotsUsed := s₂.slotsUsed } : State).setVm s₂.vm).setTop { g with pc := g.pc + len₂, stack := v.toList ++ g.stack })
    rw [← hs₂]
    exact hsteps
  · obtain ⟨e2, q2, q3, q4, q5, q6⟩ := id hsm
    have e3 : s₂ = ({ (U.calling g mk a).setFrames s₂.frames with heap := s₂.heap, slotsUsed := s₂.slotsUsed } : State).setVm s₂.vm := by
      have : s₂ = ({ s₂ with vm := (U.calling g mk a).vm } : State).setVm s₂.vm := rfl
      rw [e2] at this
      exact this
    have hf₂ : s₂.frames = .throwing q :: .java g :: U.frames.tail := hend
    have hW' : U.WarmedH s₂.vm := hW₂
    have hs₂ : s₂ = ((({ U with heap := s₂.heap, slotsUsed := s₂.slotsUsed } : State).setVm s₂.vm).setTop g).pushFrame (.throwing q) := by
      refine e3.trans ?_
      rw [hf₂, State.calling_eq h.top, State.setFrames_setFrames, State.pushFrame, State.frames_setTop _ hr', State.setTop_of_frames _ hr', State.setFrames_setFrames, hr]
      rfl
    have hsame : U.sameButNew ({ U with heap := s₂.heap, slotsUsed := s₂.slotsUsed } : State) L mc ms := by
      refine ⟨?_, q2, q3, q4, q5, q6⟩
      obtain ⟨t, ht, -⟩ := State.frames_cons hr
      show ({ U with heap := s₂.heap, slotsUsed := s₂.slotsUsed } : State) = { U.setFrames U.frames with heap := s₂.heap, slotsUsed := s₂.slotsUsed }
      rw [State.setFrames_self ht]
    subst hg
    refine Or.inr ⟨q, ⟨(({ U with heap := s₂.heap, slotsUsed := s₂.slotsUsed } : State).setVm s₂.vm), Ls ++ L, c0 + mc, s0 + ms⟩,
      ⟨X.admits, X.cas, X.clock, X.frames, X.room, X.hears, X.method, X.code, (X.here.setHeapUsed s₂.heap s₂.slotsUsed).setVm hW'.alike, X.tail, State.WarmedH.trans X.warmed hW', X.limits, X.bytes, X.same.trans (hsame.setVm s.vm)⟩,
      ⟨g, mk, s₂, L, E, ce, rfl, rfl, hx, hce, hcv, hcl, rfl, hL, rfl, rfl⟩, ?_⟩
    show Steps p.tables e below _ (((({ U with heap := s₂.heap, slotsUsed := s₂.slotsUsed } : State).setVm s₂.vm).setTop g).pushFrame (.throwing q))
    rw [← hs₂]
    exact hsteps
end
variable {p : Program} {l : Launch} {e : Env} {R : Room} {s : State} {m : MethodId} {args : Array Value} {below : List Frame} {meth : Method} {c : Code} {T : State} {H : Heap} {locs : List Loc} {cells slots : Nat}
theorem vx_callVX (X : Stand p l e R s m args below meth c T locs cells slots) (hexec : p.tables.exec = Jvm.exec) {own C : String} {index : Nat} {y : MethodName} {bytes : ByteArray} {maxL : Nat} {ret : Option FieldType} {hh : List (Nat × Nat × Nat × Nat)}
    (hown : s.vm.findClass own = some m.cls) (hlink : (Cond.methodLink own index y).before args s = true) (hinst : (Cond.instanceMethod y).before args s = true) (hsel : (Cond.selects C y y).before args s = true)
    (hcode : (Cond.codeWith y bytes maxL ret hh).before args s = true) (hy : y.cls ≠ "java/lang/invoke/MethodHandle" ∧ y.cls ≠ "java/lang/invoke/VarHandle")
    {W9 : Nat} {Pre : Pt → Array Value → Prop} {Post : Pt → Array Value → Option Value → Pt → Prop} {PostX : Pt → Array Value → Addr → Pt → Prop} (hK : vx_Back l R p e below s args y 3 W9 Pre Post PostX)
    {b : Addr} {cellB : Cell} (hcell : T.heap[b]? = some cellB) (hobj : cellB.vm.isStatics = false) (hcls : s.vm.findClass C = some cellB.cls)
    {g : JFrame} (hg : g.method = m) (hsize : g.locals.size = c.maxLocals) {argsL rest : List Value} (hlen : ∀ sig, parseMethodDescriptor y.desc = some sig → argsL.length = sig.parameters.length)
    (hstack : g.stack = argsL.reverse ++ .ref b :: rest) (hW : 2 * g.monitorRoom + (rest.map fun v => v.category).sum ≤ W9) (hdg : decode c.code g.pc = .ok (.invokevirtual index, 3))
    (hpre : ∀ vm₁, s.WarmedH vm₁ → Pre ⟨T.setVm vm₁, locs, cells, slots⟩ (Value.ref b :: argsL).toArray) :
    (∃ (v : Option Value) (vm₁ : Vm) (B : Pt), s.WarmedH vm₁ ∧ Stand p l e R s m args below meth c B.U B.locs B.cells B.slots ∧ Post ⟨T.setVm vm₁, locs, cells, slots⟩ (Value.ref b :: argsL).toArray v B ∧
      ∀ target, Steps p.tables e below (B.U.setTop { g with pc := g.pc + 3, stack := v.toList ++ rest }) target → Steps p.tables e below (T.setTop g) target) ∨
    (∃ (q : Addr) (vm₁ : Vm) (B : Pt), s.WarmedH vm₁ ∧ Stand p l e R s m args below meth c B.U B.locs B.cells B.slots ∧ PostX ⟨T.setVm vm₁, locs, cells, slots⟩ (Value.ref b :: argsL).toArray q B ∧
      Steps p.tables e below (T.setTop g) ((B.U.setTop { g with stack := rest }).pushFrame (.throwing q))) := by
  obtain ⟨mk, methM, hnamed, hmethM, hstM, habM⟩ := Cond.instanceMethod_spec hinst
  obtain ⟨m8, methM', cM, hn8, hmethM', -, -, -, -, -, -, hsigM⟩ := Cond.codeWith_spec hcode
  cases Option.some.inj (hn8.symm.trans hnamed)
  cases hmethM.symm.trans hmethM'
  obtain ⟨c2, r2, m2, q1, q2, q3, q4, kP, hkP, hkPi⟩ := Cond.selects_spec hsel
  cases hcls.symm.trans q1
  cases (State.methodFound?_of_named hnamed hy).symm.trans q2
  cases hnamed.symm.trans q3
  have hselP : selectMethod e.platform s.vm cellB.cls mk = .method mk := by rw [Launch.admits_selectMethod X.admits]; exact q4
  obtain ⟨vm₁, X₁, hstep₁⟩ := X.invokevirtual hexec hown hlink hnamed hmethM hstM hkP hkPi hy (a := b) (cell := cellB) hcell
    (fun z h => by rw [h] at hobj; cases hobj) hselP hmethM habM hkP hkPi (g := g) hg (argsL := argsL) (rest := rest) (hlen _ hsigM) hstack hdg
  rcases hK m meth c ⟨T.setVm vm₁, locs, cells, slots⟩ { g with stack := rest } (.invokevirtual index) mk (Value.ref b :: argsL).toArray X₁ hg hsize hdg hW (X₁.named hnamed) (hpre vm₁ X₁.warmed) with ⟨v, B, X', hpost, hsteps⟩ | ⟨q, B, X', hpost, hsteps⟩
  · exact Or.inl ⟨v, vm₁, B, X₁.warmed, X', hpost, fun target h => hstep₁ _ fun acts => by rw [doInvoke_state]; exact hsteps.trans h⟩
  · exact Or.inr ⟨q, vm₁, B, X₁.warmed, X', hpost, hstep₁ _ fun acts => by rw [doInvoke_state]; exact hsteps⟩
theorem vx_callSX (X : Stand p l e R s m args below meth c T locs cells slots) (hexec : p.tables.exec = Jvm.exec) {own : String} {index : Nat} {y : MethodName} {bytes : ByteArray} {maxL : Nat} {ret : Option FieldType} {hh : List (Nat × Nat × Nat × Nat)}
    (hown : s.vm.findClass own = some m.cls) (hlink : (Cond.methodLink own index y).before args s = true) (hstat : (Cond.static y).before args s = true) (hinit : (Cond.initialized y.cls).before args s = true)
    (hcode : (Cond.codeWith y bytes maxL ret hh).before args s = true) (hy : y.cls ≠ "java/lang/invoke/MethodHandle" ∧ y.cls ≠ "java/lang/invoke/VarHandle")
    {W9 : Nat} {Pre : Pt → Array Value → Prop} {Post : Pt → Array Value → Option Value → Pt → Prop} {PostX : Pt → Array Value → Addr → Pt → Prop} (hK : vx_Back l R p e below s args y 3 W9 Pre Post PostX)
    {g : JFrame} (hg : g.method = m) (hsize : g.locals.size = c.maxLocals) {argsL rest : List Value} (hlen : ∀ sig, parseMethodDescriptor y.desc = some sig → argsL.length = sig.parameters.length)
    (hstack : g.stack = argsL.reverse ++ rest) (hW : 2 * g.monitorRoom + (rest.map fun v => v.category).sum ≤ W9) (hdg : decode c.code g.pc = .ok (.invokestatic index, 3))
    (hpre : ∀ vm₁, s.WarmedH vm₁ → Pre ⟨T.setVm vm₁, locs, cells, slots⟩ argsL.toArray) :
    (∃ (v : Option Value) (vm₁ : Vm) (B : Pt), s.WarmedH vm₁ ∧ Stand p l e R s m args below meth c B.U B.locs B.cells B.slots ∧ Post ⟨T.setVm vm₁, locs, cells, slots⟩ argsL.toArray v B ∧
      ∀ target, Steps p.tables e below (B.U.setTop { g with pc := g.pc + 3, stack := v.toList ++ rest }) target → Steps p.tables e below (T.setTop g) target) ∨
    (∃ (q : Addr) (vm₁ : Vm) (B : Pt), s.WarmedH vm₁ ∧ Stand p l e R s m args below meth c B.U B.locs B.cells B.slots ∧ PostX ⟨T.setVm vm₁, locs, cells, slots⟩ argsL.toArray q B ∧
      Steps p.tables e below (T.setTop g) ((B.U.setTop { g with stack := rest }).pushFrame (.throwing q))) := by
  obtain ⟨mk, methM, cM, hnamed, hmethM, -, -, -, -, -, -, hsigM⟩ := Cond.codeWith_spec hcode
  have hstatic : methM.isStatic = true := Cond.static_spec hnamed hmethM hstat
  obtain ⟨kP, hkP, -⟩ := className_of_methodNamed hnamed
  have hinitP : kP.init = .initialized := Cond.initialized_spec (findClass_of_methodNamed hnamed) hkP hinit
  obtain ⟨vm₁, X₁, hstep₁⟩ := X.invokestatic hexec hown hlink hnamed hmethM hstatic hkP hinitP hy (g := g) hg (argsL := argsL) (rest := rest) (hlen _ hsigM) hstack hdg
  rcases hK m meth c ⟨T.setVm vm₁, locs, cells, slots⟩ { g with stack := rest } (.invokestatic index) mk argsL.toArray X₁ hg hsize hdg hW (X₁.named hnamed) (hpre vm₁ X₁.warmed) with ⟨v, B, X', hpost, hsteps⟩ | ⟨q, B, X', hpost, hsteps⟩
  · exact Or.inl ⟨v, vm₁, B, X₁.warmed, X', hpost, fun target h => hstep₁ _ fun acts => by rw [doInvoke_state]; exact hsteps.trans h⟩
  · exact Or.inr ⟨q, vm₁, B, X₁.warmed, X', hpost, hstep₁ _ fun acts => by rw [doInvoke_state]; exact hsteps⟩
theorem vx_callVW (X : Stand p l e R s m args below meth c T locs cells slots) (hexec : p.tables.exec = Jvm.exec) {own C : String} {index : Nat} {y : MethodName} {bytes : ByteArray} {maxL : Nat} {ret : Option FieldType} {hh : List (Nat × Nat × Nat × Nat)}
    (hown : s.vm.findClass own = some m.cls) (hlink : (Cond.methodLink own index y).before args s = true) (hinst : (Cond.instanceMethod y).before args s = true) (hsel : (Cond.selects C y y).before args s = true)
    (hcode : (Cond.codeWith y bytes maxL ret hh).before args s = true) (hy : y.cls ≠ "java/lang/invoke/MethodHandle" ∧ y.cls ≠ "java/lang/invoke/VarHandle")
    {W9 : Nat} {Pre : Pt → Array Value → Prop} {Post : Pt → Array Value → Option Value → Pt → Prop} (hK : Back l R p e below s args y 3 W9 Pre Post)
    {b : Addr} {cellB : Cell} (hcell : T.heap[b]? = some cellB) (hobj : cellB.vm.isStatics = false) (hcls : s.vm.findClass C = some cellB.cls)
    {g : JFrame} (hg : g.method = m) (hsize : g.locals.size = c.maxLocals) {argsL rest : List Value} (hlen : ∀ sig, parseMethodDescriptor y.desc = some sig → argsL.length = sig.parameters.length)
    (hstack : g.stack = argsL.reverse ++ .ref b :: rest) (hW : 2 * g.monitorRoom + (rest.map fun v => v.category).sum ≤ W9) (hdg : decode c.code g.pc = .ok (.invokevirtual index, 3))
    (hpre : ∀ vm₁, s.WarmedH vm₁ → Pre ⟨T.setVm vm₁, locs, cells, slots⟩ (Value.ref b :: argsL).toArray) :
    ∃ (v : Option Value) (vm₁ : Vm) (B : Pt), s.WarmedH vm₁ ∧ Stand p l e R s m args below meth c B.U B.locs B.cells B.slots ∧ Post ⟨T.setVm vm₁, locs, cells, slots⟩ (Value.ref b :: argsL).toArray v B ∧
      ∀ target, Steps p.tables e below (B.U.setTop { g with pc := g.pc + 3, stack := v.toList ++ rest }) target → Steps p.tables e below (T.setTop g) target := by
  obtain ⟨mk, methM, hnamed, hmethM, hstM, habM⟩ := Cond.instanceMethod_spec hinst
  obtain ⟨m8, methM', cM, hn8, hmethM', -, -, -, -, -, -, hsigM⟩ := Cond.codeWith_spec hcode
  cases Option.some.inj (hn8.symm.trans hnamed)
  cases hmethM.symm.trans hmethM'
  obtain ⟨c2, r2, m2, q1, q2, q3, q4, kP, hkP, hkPi⟩ := Cond.selects_spec hsel
  cases hcls.symm.trans q1
  cases (State.methodFound?_of_named hnamed hy).symm.trans q2
  cases hnamed.symm.trans q3
  have hselP : selectMethod e.platform s.vm cellB.cls mk = .method mk := by rw [Launch.admits_selectMethod X.admits]; exact q4
  obtain ⟨vm₁, X₁, hstep₁⟩ := X.invokevirtual hexec hown hlink hnamed hmethM hstM hkP hkPi hy (a := b) (cell := cellB) hcell
    (fun z h => by rw [h] at hobj; cases hobj) hselP hmethM habM hkP hkPi (g := g) hg (argsL := argsL) (rest := rest) (hlen _ hsigM) hstack hdg
  obtain ⟨v, B, X', hpost, hsteps⟩ := hK m meth c ⟨T.setVm vm₁, locs, cells, slots⟩ { g with stack := rest } (.invokevirtual index) mk (Value.ref b :: argsL).toArray X₁ hg hsize hdg hW (X₁.named hnamed) (hpre vm₁ X₁.warmed)
  exact ⟨v, vm₁, B, X₁.warmed, X', hpost, fun target h => hstep₁ _ fun acts => by rw [doInvoke_state]; exact hsteps.trans h⟩
abbrev vx_CVW (R : Room) (s : State) (args : Array Value) (own C : String) (index : Nat) (y : MethodName) (bytes : ByteArray) (maxL : Nat) (ret : Option FieldType) (hh : List (Nat × Nat × Nat × Nat)) (ws : List Cond) (rm : Room) (mc ms n : Nat) : Prop :=
  (rm.cells = mc ∧ rm.slots = ms ∧ rm.frames + 1 ≤ R.frames ∧ 8 + (maxL + 11) + rm.locals ≤ R.locals ∧ (∀ w ∈ ws, ∀ (a' : Array Value) (U : State), s.WarmedH U.vm → w.before a' U = true) ∧ Cond.codeWith y bytes maxL ret hh ∈ ws) ∧
  (Cond.codeWith y bytes maxL ret hh).before args s = true ∧ (Cond.initialized y.cls).before args s = true ∧ (y.cls ≠ "java/lang/invoke/MethodHandle" ∧ y.cls ≠ "java/lang/invoke/VarHandle") ∧
  (∀ sig, parseMethodDescriptor y.desc = some sig → n = sig.parameters.length) ∧ (Cond.methodLink own index y).before args s = true ∧ (Cond.instanceMethod y).before args s = true ∧ (Cond.selects C y y).before args s = true
theorem vx_cwVW {own C : String} {index maxL mc ms : Nat} {y : MethodName} {bytes : ByteArray} {ret : Option FieldType} {hh : List (Nat × Nat × Nat × Nat)} {Ts ws ws' : List Cond} {rm : Room} (n : Nat) (ht : ∀ w ∈ Ts, w.before args s = true) (hT : GoodIn Ts (wsV own index C y ws)) (hw : ws = Cond.codeWith y bytes maxL ret hh :: ws') (hrc : rm.cells = mc) (hrs : rm.slots = ms)
    (hd : y.cls = C ∧ y.cls ≠ "java/lang/invoke/MethodHandle" ∧ y.cls ≠ "java/lang/invoke/VarHandle" ∧ (parseMethodDescriptor y.desc).map (fun d => d.parameters.length) = some n) (hR : rm.frames + 1 ≤ R.frames ∧ 8 + (maxL + 11) + rm.locals ≤ R.locals) :
    vx_CVW R s args own C index y bytes maxL ret hh ws rm mc ms n := by
  obtain ⟨hC, hd⟩ := hd
  subst hC
  have ok : ∀ w ∈ wsV own index y.cls y ws, w.before args s = true := fun w h => ht w (hT w h).1
  have hG : GoodIn Ts ws := fun w h => hT w (by unfold wsV; exact List.mem_append_right _ h)
  have hc : Cond.codeWith y bytes maxL ret hh ∈ ws := by rw [hw]; exact List.mem_cons_self
  refine ⟨⟨hrc, hrs, hR.1, hR.2, pay_in ht hG, hc⟩, ht _ (hG _ hc).1, ok _ (by simp [wsV]), ⟨hd.1, hd.2.1⟩, fun sig h => ?_, ok _ (by simp [wsV]), ok _ (by simp [wsV]), ok _ (by simp [wsV])⟩
  have h2 := hd.2.2
  rw [h] at h2
  exact (Option.some.inj h2).symm
theorem vx_runVW {y : MethodName} {bytes cc : ByteArray} {maxL nL mc ms n index : Nat} {ret : Option FieldType} {hh : List (Nat × Nat × Nat × Nat)} {ws : List Cond} {rm : Room} {Pc : Array Value → State → Prop} {Qc : Array Value → State → Outcome → State → Prop} {free : Addr → Prop} {Ts : List Cond} {own C : String} {b : Addr} {As rest : List Value} {g : JFrame}
    (S : CallFix p m c cc nL s args Ts own) (hM : Met l y ws rm Pc Qc mc ms free) (cw : vx_CVW R s args own C index y bytes maxL ret hh ws rm mc ms n) (hp : PreV s H C b Pc As)
    (hg : g.method = m) (hn : As.length = n) (hsize : g.locals.size = nL) (hstack : g.stack = As.reverse ++ .ref b :: rest) (hW : 2 * g.monitorRoom + (rest.map fun v => v.category).sum ≤ 8) (hdg : decode cc g.pc = .ok (.invokevirtual index, 3)) (hf : cells + mc ≤ R.cells ∧ slots + ms ≤ R.slots) :
    va_Run p l e R s m args below meth c H locs cells slots mc ms g rest (Qc (Value.ref b :: As).toArray) free := by
  obtain ⟨⟨hrc, hrs, hfr, hlo, hws, hcw⟩, hcode, hini, hy, hlen, hl, hin, hse⟩ := cw
  have hK : Back l R p e below s args y 3 8 (PreOf R mc ms Pc) (PostOf Qc mc ms free) := va_backW (hh := hh) (bytes := bytes) (maxL := maxL) (ret := ret) hM hp.1 hrc hrs hfr hlo hws hcw (fun a' U hW => word_at hW (Or.inl (by first | rfl | simp [Cond.onTables, Cond.keeps, Cond.steady])) hini)
  obtain ⟨hx, hb, hml, ho, -⟩ := S
  obtain ⟨-, ⟨cellB, hcB, hoB, hclB⟩, hPc⟩ := hp
  intro T hT X
  obtain ⟨v, vm₁, ⟨U', l2, c2, s2⟩, hW₁, X', ⟨g', mk, t, L, e1, e2, hq, h1, hL, h2, h3⟩, st⟩ := vx_callVW X hx (C := C) (hh := hh) (bytes := bytes) (maxL := maxL) (ret := ret) ho hl hin hse hcode hy hK (by rw [hT]; exact hcB) hoB hclB hg (hsize.trans hml.symm) (argsL := As) (rest := rest) (fun sig h => hn.trans (hlen sig h)) hstack hW (by rw [hb]; exact hdg)
    (fun vm₁ hW₁ => ⟨hf.1, hf.2, hPc (T.setVm vm₁) hT hW₁⟩)
  dsimp only [Pt.U, Pt.locs, Pt.cells, Pt.slots] at X' e1 e2 h1 h2 h3 st
  subst h1; subst h2; subst h3
  exact ⟨v, (T.setVm vm₁).calling g' mk (Value.ref b :: As).toArray, t, U', L, hT, X', hL, e1, e2, hq, st⟩
section
variable {y : MethodName} {bytes cc : ByteArray} {maxL nL mc ms n index : Nat} {ret : Option FieldType} {ws : List Cond} {rm : Room} {Pc : Array Value → State → Prop} {Qc : Array Value → State → Outcome → State → Prop} {XC : String → State → State → Prop} {free : Addr → Prop} {Ts : List Cond} {own C : String} {b : Addr} {As rest : List Value} {g : JFrame}
theorem vx_runVX {hh : List (Nat × Nat × Nat × Nat)} (S : CallFix p m c cc nL s args Ts own) (hM : vx_Met l y ws rm Pc Qc XC mc ms free) (cw : vx_CVW R s args own C index y bytes maxL ret hh ws rm mc ms n) (hp : PreV s H C b Pc As)
    (hg : g.method = m) (hn : As.length = n) (hsize : g.locals.size = nL) (hstack : g.stack = As.reverse ++ .ref b :: rest) (hW : 2 * g.monitorRoom + (rest.map fun v => v.category).sum ≤ 8) (hdg : decode cc g.pc = .ok (.invokevirtual index, 3)) (hf : cells + mc ≤ R.cells ∧ slots + ms ≤ R.slots) :
    vx_Run p l e R s m args below meth c H locs cells slots mc ms g rest (Qc (Value.ref b :: As).toArray) XC free := by
  obtain ⟨⟨hrc, hrs, hfr, hlo, hws, hcw⟩, hcode, hini, hy, hlen, hl, hin, hse⟩ := cw
  have hK : vx_Back l R p e below s args y 3 8 (PreOf R mc ms Pc) (PostOf Qc mc ms free) (vx_Post XC mc ms free) := vx_backW (hh := hh) (bytes := bytes) (maxL := maxL) (ret := ret) hM hp.1 hrc hrs hfr hlo hws hcw (fun a' U hW => word_at hW (Or.inl (by first | rfl | simp [Cond.onTables, Cond.keeps, Cond.steady])) hini)
  obtain ⟨hx, hb, hml, ho, -⟩ := S
  obtain ⟨-, ⟨cellB, hcB, hoB, hclB⟩, hPc⟩ := hp
  intro T hT X
  rcases vx_callVX X hx (C := C) (hh := hh) (bytes := bytes) (maxL := maxL) (ret := ret) ho hl hin hse hcode hy hK (by rw [hT]; exact hcB) hoB hclB hg (hsize.trans hml.symm) (argsL := As) (rest := rest) (fun sig h => hn.trans (hlen sig h)) hstack hW (by rw [hb]; exact hdg)
    (fun vm₁ hW₁ => ⟨hf.1, hf.2, hPc (T.setVm vm₁) hT hW₁⟩) with ⟨v, vm₁, ⟨U', l2, c2, s2⟩, hW₁, X', ⟨g', mk, t, L, e1, e2, hq, h1, hL, h2, h3⟩, st⟩ | ⟨q, vm₁, ⟨U', l2, c2, s2⟩, hW₁, X', ⟨g', mk, t, L, E, ce, e1, e2, hq, hce, hcv, hcl, h1, hL, h2, h3⟩, st⟩
  · dsimp only [Pt.U, Pt.locs, Pt.cells, Pt.slots] at X' e1 e2 h1 h2 h3 st
    subst h1; subst h2; subst h3
    exact Or.inl ⟨v, (T.setVm vm₁).calling g' mk (Value.ref b :: As).toArray, t, U', L, hT, X', hL, e1, e2, hq, st⟩
  · dsimp only [Pt.U, Pt.locs, Pt.cells, Pt.slots] at X' e1 e2 h1 h2 h3 st hcl
    subst h1; subst h2; subst h3
    exact Or.inr ⟨q, (T.setVm vm₁).calling g' mk (Value.ref b :: As).toArray, t, U', L, E, ce, hT, X', hL, e1, e2, hq, hce, hcv, vx_cls hW₁ hcl, st⟩
theorem vx_runSX {hh : List (Nat × Nat × Nat × Nat)} (S : CallFix p m c cc nL s args Ts own) (hM : vx_Met l y ws rm Pc Qc XC mc ms free) (cw : vx_CSW R s args own index y bytes maxL ret hh ws rm mc ms n) (hp : PreS s H Pc As)
    (hg : g.method = m) (hn : As.length = n) (hsize : g.locals.size = nL) (hstack : g.stack = As.reverse ++ rest) (hW : 2 * g.monitorRoom + (rest.map fun v => v.category).sum ≤ 8) (hdg : decode cc g.pc = .ok (.invokestatic index, 3)) (hf : cells + mc ≤ R.cells ∧ slots + ms ≤ R.slots) :
    vx_Run p l e R s m args below meth c H locs cells slots mc ms g rest (Qc As.toArray) XC free := by
  obtain ⟨⟨hrc, hrs, hfr, hlo, hws, hcw⟩, hcode, hini, hy, hlen, hl, hstt⟩ := cw
  have hK : vx_Back l R p e below s args y 3 8 (PreOf R mc ms Pc) (PostOf Qc mc ms free) (vx_Post XC mc ms free) := vx_backW (hh := hh) (bytes := bytes) (maxL := maxL) (ret := ret) hM hp.1 hrc hrs hfr hlo hws hcw (fun a' U hW => word_at hW (Or.inl (by first | rfl | simp [Cond.onTables, Cond.keeps, Cond.steady])) hini)
  obtain ⟨hx, hb, hml, ho, -⟩ := S
  intro T hT X
  rcases vx_callSX X hx (hh := hh) (bytes := bytes) (maxL := maxL) (ret := ret) ho hl hstt hini hcode hy hK hg (hsize.trans hml.symm) (argsL := As) (rest := rest) (fun sig h => hn.trans (hlen sig h)) hstack hW (by rw [hb]; exact hdg)
    (fun vm₁ hW₁ => ⟨hf.1, hf.2, hp.2 (T.setVm vm₁) hT hW₁⟩) with ⟨v, vm₁, ⟨U', l2, c2, s2⟩, hW₁, X', ⟨g', mk, t, L, e1, e2, hq, h1, hL, h2, h3⟩, st⟩ | ⟨q, vm₁, ⟨U', l2, c2, s2⟩, hW₁, X', ⟨g', mk, t, L, E, ce, e1, e2, hq, hce, hcv, hcl, h1, hL, h2, h3⟩, st⟩
  · dsimp only [Pt.U, Pt.locs, Pt.cells, Pt.slots] at X' e1 e2 h1 h2 h3 st
    subst h1; subst h2; subst h3
    exact Or.inl ⟨v, (T.setVm vm₁).calling g' mk As.toArray, t, U', L, hT, X', hL, e1, e2, hq, st⟩
  · dsimp only [Pt.U, Pt.locs, Pt.cells, Pt.slots] at X' e1 e2 h1 h2 h3 st hcl
    subst h1; subst h2; subst h3
    exact Or.inr ⟨q, (T.setVm vm₁).calling g' mk As.toArray, t, U', L, E, ce, hT, X', hL, e1, e2, hq, hce, hcv, vx_cls hW₁ hcl, st⟩
end
end VXH
theorem vx_ofWH {l : Launch} {y : MethodName} {ws ws' : List Cond} {rm : Room} {Pc : Array Value → State → Prop} {Qc : Array Value → State → Outcome → State → Prop} {XC : String → State → State → Prop} {mc ms : Nat} {free : Addr → Prop} {cc : ByteArray} {maxL : Nat} {ret : Option FieldType} {hh : List (Nat × Nat × Nat × Nat)}
    (hy : plainName y.cls = true) (hw : ws = Cond.codeWith y cc maxL ret hh :: ws')
    (body : ∀ p e s m args below meth c s₁, BodyLoose p l y (headSpec ws rm) cc maxL ret e s m args below meth c s₁ → c.maxLocals = maxL → Pc args s →
      W p l e (headSpec ws rm).room s m args below meth c s.heap [] 0 0 (vx_MQ below Qc XC args s mc ms free) (entryFrame m args maxL)) : vx_Met l y ws rm Pc Qc XC mc ms free := by
  refine MetFree.of_bodyS (code := cc) (maxLocals := maxL) (ret := ret) hy ?_ ?_
  · intro args s m h hn
    obtain ⟨m9, meth, c, hn9, h1, h2, h3, h4, -, h5, h6, -⟩ := Cond.codeWith_spec (atoms_spec (ws := ws) h _ (by rw [hw]; exact List.mem_cons_self))
    cases hn.symm.trans hn9
    exact ⟨meth, c, h1, h2, h3, h4, h5, h6⟩
  · intro p e s m args below meth c s₁ B hml hP _
    have hh0 : s₁.heap = s.heap := by rw [B.state]; rfl
    obtain ⟨t, a1, o, b1, b2, b3⟩ := body p e s m args below meth c s₁ B hml hP s₁ hh0 (Stand.of_body B)
    exact ⟨t, o, a1, b1, b2, b3⟩
/-! ===== END ===== -/
end
section
def RX0 : String := "OddsLadder"
def TX0 : u_T := fun k => match k with
  | 0 => ("OddsLadder", "coinTenths", "[I", true)
  | 1 => ("OddsLadder", "schoolOdds", "[I", true)
  | 2 => ("OddsLadder", "shares", "[[I", true)
  | 3 => ("OddsLadder", "tossHeads", "[Z", true)
  | 4 => ("OddsLadder", "coinCount", "I", false)
  | 5 => ("OddsLadder", "schoolCount", "I", false)
  | _ => ("OddsLadder", "tossCount", "I", false)
def tyX0 : Nat → FieldType := fun k => match k with
  | 0 => .array .int
  | 1 => .array .int
  | 2 => .array (.array .int)
  | 3 => .array .boolean
  | 4 => .int
  | 5 => .int
  | _ => .int
abbrev wsX00 : List Cond := u_ws RX0 TX0 7
theorem nmX0 : ∀ a, a < 7 → ∀ b, b < 7 → a ≠ b → (TX0 a).2.1 ≠ (TX0 b).2.1 := by decide +kernel
theorem tyX0_ok : ∀ k, k < 7 → parseFieldDescriptor (TX0 k).2.2.1 = some (tyX0 k) := by decide +kernel
abbrev cX0_init : ByteArray := prog_1_method_1_code
def yX0_init : MethodName := ⟨RX0, "<init>", "()V"⟩
abbrev cX0_addCoin : ByteArray := prog_1_method_2_code
def yX0_addCoin : MethodName := ⟨RX0, "addCoin", "(I)I"⟩
abbrev cX0_addSchool : ByteArray := prog_1_method_3_code
def yX0_addSchool : MethodName := ⟨RX0, "addSchool", "(I)I"⟩
abbrev cX0_setShare : ByteArray := prog_1_method_4_code
def yX0_setShare : MethodName := ⟨RX0, "setShare", "(III)I"⟩
abbrev cX0_toss : ByteArray := prog_1_method_5_code
def yX0_toss : MethodName := ⟨RX0, "toss", "(Z)I"⟩
abbrev cX0_undo : ByteArray := prog_1_method_6_code
def yX0_undo : MethodName := ⟨RX0, "undo", "()Z"⟩
abbrev cX0_strike : ByteArray := prog_1_method_7_code
def yX0_strike : MethodName := ⟨RX0, "strike", "(I)I"⟩
abbrev cX0_coins : ByteArray := prog_1_method_8_code
def yX0_coins : MethodName := ⟨RX0, "coins", "()I"⟩
abbrev cX0_schools : ByteArray := prog_1_method_9_code
def yX0_schools : MethodName := ⟨RX0, "schools", "()I"⟩
abbrev cX0_tosses : ByteArray := prog_1_method_10_code
def yX0_tosses : MethodName := ⟨RX0, "tosses", "()I"⟩
abbrev cX0_heads : ByteArray := prog_1_method_11_code
def yX0_heads : MethodName := ⟨RX0, "heads", "()I"⟩
abbrev cX0_isHeads : ByteArray := prog_1_method_12_code
def yX0_isHeads : MethodName := ⟨RX0, "isHeads", "(I)Z"⟩
abbrev cX0_tenthsOf : ByteArray := prog_1_method_13_code
def yX0_tenthsOf : MethodName := ⟨RX0, "tenthsOf", "(I)I"⟩
abbrev cX0_oddsOf : ByteArray := prog_1_method_14_code
def yX0_oddsOf : MethodName := ⟨RX0, "oddsOf", "(I)I"⟩
abbrev cX0_shareOf : ByteArray := prog_1_method_15_code
def yX0_shareOf : MethodName := ⟨RX0, "shareOf", "(II)I"⟩
abbrev cX0_weightOf : ByteArray := prog_1_method_16_code
def yX0_weightOf : MethodName := ⟨RX0, "weightOf", "(II)J"⟩
abbrev cX0_coinWeight : ByteArray := prog_1_method_17_code
def yX0_coinWeight : MethodName := ⟨RX0, "coinWeight", "(I)J"⟩
abbrev cX0_schoolWeight : ByteArray := prog_1_method_18_code
def yX0_schoolWeight : MethodName := ⟨RX0, "schoolWeight", "(I)J"⟩
abbrev cX0_wholeWeight : ByteArray := prog_1_method_19_code
def yX0_wholeWeight : MethodName := ⟨RX0, "wholeWeight", "()J"⟩
abbrev cX0_isRuledOut : ByteArray := prog_1_method_20_code
def yX0_isRuledOut : MethodName := ⟨RX0, "isRuledOut", "(I)Z"⟩
abbrev cX0_ruledOut : ByteArray := prog_1_method_21_code
def yX0_ruledOut : MethodName := ⟨RX0, "ruledOut", "()I"⟩
abbrev cX0_coinPercent : ByteArray := prog_1_method_22_code
def yX0_coinPercent : MethodName := ⟨RX0, "coinPercent", "(I)I"⟩
abbrev cX0_schoolPercent : ByteArray := prog_1_method_23_code
def yX0_schoolPercent : MethodName := ⟨RX0, "schoolPercent", "(I)I"⟩
abbrev cX0_leadingCoin : ByteArray := prog_1_method_24_code
def yX0_leadingCoin : MethodName := ⟨RX0, "leadingCoin", "()I"⟩
abbrev cX0_leadingSchool : ByteArray := prog_1_method_25_code
def yX0_leadingSchool : MethodName := ⟨RX0, "leadingSchool", "()I"⟩
abbrev cX0_oddsAgainst : ByteArray := prog_1_method_26_code
def yX0_oddsAgainst : MethodName := ⟨RX0, "oddsAgainst", "(II)J"⟩
abbrev cX0_surpriseOf : ByteArray := prog_1_method_27_code
def yX0_surpriseOf : MethodName := ⟨RX0, "surpriseOf", "(I)I"⟩
abbrev cX0_allSurprise : ByteArray := prog_1_method_28_code
def yX0_allSurprise : MethodName := ⟨RX0, "allSurprise", "()I"⟩
abbrev cX0_greatestSurprise : ByteArray := prog_1_method_29_code
def yX0_greatestSurprise : MethodName := ⟨RX0, "greatestSurprise", "()I"⟩
abbrev cX0_headsPercent : ByteArray := prog_1_method_30_code
def yX0_headsPercent : MethodName := ⟨RX0, "headsPercent", "()I"⟩
abbrev cX0_wouldSurprise : ByteArray := prog_1_method_31_code
def yX0_wouldSurprise : MethodName := ⟨RX0, "wouldSurprise", "(Z)I"⟩
abbrev cX0_leaderBehind : ByteArray := prog_1_method_32_code
def yX0_leaderBehind : MethodName := ⟨RX0, "leaderBehind", "(Z)I"⟩
abbrev cX0_tossesToLead : ByteArray := prog_1_method_33_code
def yX0_tossesToLead : MethodName := ⟨RX0, "tossesToLead", "(I)I"⟩
abbrev cX0_decisiveTosses : ByteArray := prog_1_method_34_code
def yX0_decisiveTosses : MethodName := ⟨RX0, "decisiveTosses", "()I"⟩
abbrev cX0_meanTenths : ByteArray := prog_1_method_35_code
def yX0_meanTenths : MethodName := ⟨RX0, "meanTenths", "()D"⟩
abbrev cX0_digest : ByteArray := prog_1_method_36_code
def yX0_digest : MethodName := ⟨RX0, "digest", "()J"⟩
abbrev cX0_needCoin : ByteArray := prog_1_method_37_code
def yX0_needCoin : MethodName := ⟨RX0, "needCoin", "(I)V"⟩
abbrev cX0_needSchool : ByteArray := prog_1_method_38_code
def yX0_needSchool : MethodName := ⟨RX0, "needSchool", "(I)V"⟩
abbrev cX0_needToss : ByteArray := prog_1_method_39_code
def yX0_needToss : MethodName := ⟨RX0, "needToss", "(I)V"⟩
abbrev cX0_needNoTosses : ByteArray := prog_1_method_40_code
def yX0_needNoTosses : MethodName := ⟨RX0, "needNoTosses", "()V"⟩
abbrev cX0_needPossible : ByteArray := prog_1_method_41_code
def yX0_needPossible : MethodName := ⟨RX0, "needPossible", "(Z)V"⟩
abbrev cX0_headsAhead : ByteArray := prog_1_method_42_code
def yX0_headsAhead : MethodName := ⟨RX0, "headsAhead", "(I)I"⟩
abbrev cX0_headsNow : ByteArray := prog_1_method_43_code
def yX0_headsNow : MethodName := ⟨RX0, "headsNow", "()I"⟩
abbrev cX0_tailsNow : ByteArray := prog_1_method_44_code
def yX0_tailsNow : MethodName := ⟨RX0, "tailsNow", "()I"⟩
abbrev cX0_startWeight : ByteArray := prog_1_method_45_code
def yX0_startWeight : MethodName := ⟨RX0, "startWeight", "(II)J"⟩
abbrev cX0_likelihood : ByteArray := prog_1_method_46_code
def yX0_likelihood : MethodName := ⟨RX0, "likelihood", "(III)J"⟩
abbrev cX0_coinWeightAt : ByteArray := prog_1_method_47_code
def yX0_coinWeightAt : MethodName := ⟨RX0, "coinWeightAt", "(III)J"⟩
abbrev cX0_schoolWeightNow : ByteArray := prog_1_method_48_code
def yX0_schoolWeightNow : MethodName := ⟨RX0, "schoolWeightNow", "(I)J"⟩
abbrev cX0_wholeAt : ByteArray := prog_1_method_49_code
def yX0_wholeAt : MethodName := ⟨RX0, "wholeAt", "(II)J"⟩
abbrev cX0_wholeNow : ByteArray := prog_1_method_50_code
def yX0_wholeNow : MethodName := ⟨RX0, "wholeNow", "()J"⟩
abbrev cX0_leaderAt : ByteArray := prog_1_method_51_code
def yX0_leaderAt : MethodName := ⟨RX0, "leaderAt", "(II)I"⟩
abbrev cX0_percent : ByteArray := prog_1_method_52_code
def yX0_percent : MethodName := ⟨RX0, "percent", "(JJ)I"⟩
abbrev cX0_chance : ByteArray := prog_1_method_53_code
def yX0_chance : MethodName := ⟨RX0, "chance", "(ZII)J"⟩
abbrev cX0_surpriseAt : ByteArray := prog_1_method_54_code
def yX0_surpriseAt : MethodName := ⟨RX0, "surpriseAt", "(I)I"⟩
abbrev cX0_surpriseBehind : ByteArray := prog_1_method_55_code
def yX0_surpriseBehind : MethodName := ⟨RX0, "surpriseBehind", "(ZII)I"⟩
abbrev cX0_digestWith : ByteArray := prog_1_method_56_code
def yX0_digestWith : MethodName := ⟨RX0, "digestWith", "(JJ)J"⟩
abbrev cX0_digestWithCoins : ByteArray := prog_1_method_57_code
def yX0_digestWithCoins : MethodName := ⟨RX0, "digestWithCoins", "(J)J"⟩
abbrev cX0_digestWithSchools : ByteArray := prog_1_method_58_code
def yX0_digestWithSchools : MethodName := ⟨RX0, "digestWithSchools", "(J)J"⟩
abbrev cX0_digestWithTosses : ByteArray := prog_1_method_59_code
def yX0_digestWithTosses : MethodName := ⟨RX0, "digestWithTosses", "(J)J"⟩
def RX1 : String := "OddsLadderModel"
def TX1 : u_T := fun k => match k with
  | 0 => ("OddsLadderModel", "thrown", "I", false)
  | 1 => ("OddsLadderModel", "coins", "I", false)
  | 2 => ("OddsLadderModel", "schools", "I", false)
  | 3 => ("OddsLadderModel", "tosses", "I", false)
  | 4 => ("OddsLadderModel", "row", "I", false)
  | 5 => ("OddsLadderModel", "tenths", "[I", true)
  | 6 => ("OddsLadderModel", "odds", "[I", true)
  | _ => ("OddsLadderModel", "share", "[I", true)
def tyX1 : Nat → FieldType := fun k => match k with
  | 0 => .int
  | 1 => .int
  | 2 => .int
  | 3 => .int
  | 4 => .int
  | 5 => .array .int
  | 6 => .array .int
  | _ => .array .int
abbrev wsX10 : List Cond := u_ws RX1 TX1 8
theorem nmX1 : ∀ a, a < 8 → ∀ b, b < 8 → a ≠ b → (TX1 a).2.1 ≠ (TX1 b).2.1 := by decide +kernel
theorem tyX1_ok : ∀ k, k < 8 → parseFieldDescriptor (TX1 k).2.2.1 = some (tyX1 k) := by decide +kernel
abbrev cX1_init : ByteArray := prog_3_method_1_code
def yX1_init : MethodName := ⟨RX1, "<init>", "()V"⟩
abbrev cX1_thrown : ByteArray := prog_3_method_2_code
def yX1_thrown : MethodName := ⟨RX1, "thrown", "()I"⟩
abbrev cX1_fail : ByteArray := prog_3_method_3_code
def yX1_fail : MethodName := ⟨RX1, "fail", "(I)I"⟩
abbrev cX1_told : ByteArray := prog_3_method_4_code
def yX1_told : MethodName := ⟨RX1, "told", "(I)I"⟩
abbrev cX1_isIn : ByteArray := prog_3_method_5_code
def yX1_isIn : MethodName := ⟨RX1, "isIn", "(III)Z"⟩
abbrev cX1_isCoin : ByteArray := prog_3_method_6_code
def yX1_isCoin : MethodName := ⟨RX1, "isCoin", "(I)Z"⟩
abbrev cX1_isSchool : ByteArray := prog_3_method_7_code
def yX1_isSchool : MethodName := ⟨RX1, "isSchool", "(I)Z"⟩
abbrev cX1_isToss : ByteArray := prog_3_method_8_code
def yX1_isToss : MethodName := ⟨RX1, "isToss", "(I)Z"⟩
abbrev cX1_headsIn : ByteArray := prog_3_method_9_code
def yX1_headsIn : MethodName := ⟨RX1, "headsIn", "(II)I"⟩
abbrev cX1_headsNow : ByteArray := prog_3_method_10_code
def yX1_headsNow : MethodName := ⟨RX1, "headsNow", "()I"⟩
abbrev cX1_power : ByteArray := prog_3_method_11_code
def yX1_power : MethodName := ⟨RX1, "power", "(II)J"⟩
abbrev cX1_falls : ByteArray := prog_3_method_12_code
def yX1_falls : MethodName := ⟨RX1, "falls", "(III)J"⟩
abbrev cX1_given : ByteArray := prog_3_method_13_code
def yX1_given : MethodName := ⟨RX1, "given", "(I)I"⟩
abbrev cX1_weight : ByteArray := prog_3_method_14_code
def yX1_weight : MethodName := ⟨RX1, "weight", "(III)J"⟩
abbrev cX1_whole : ByteArray := prog_3_method_15_code
def yX1_whole : MethodName := ⟨RX1, "whole", "(II)J"⟩
abbrev cX1_chance : ByteArray := prog_3_method_16_code
def yX1_chance : MethodName := ⟨RX1, "chance", "(ZII)J"⟩
abbrev cX1_surprise : ByteArray := prog_3_method_17_code
def yX1_surprise : MethodName := ⟨RX1, "surprise", "(ZII)I"⟩
abbrev cX1_leader : ByteArray := prog_3_method_18_code
def yX1_leader : MethodName := ⟨RX1, "leader", "(II)I"⟩
abbrev cX1_here : ByteArray := prog_3_method_19_code
def yX1_here : MethodName := ⟨RX1, "here", "(I)J"⟩
abbrev cX1_all : ByteArray := prog_3_method_20_code
def yX1_all : MethodName := ⟨RX1, "all", "()J"⟩
abbrev cX1_addCoin : ByteArray := prog_3_method_21_code
def yX1_addCoin : MethodName := ⟨RX1, "addCoin", "(I)I"⟩
abbrev cX1_addSchool : ByteArray := prog_3_method_22_code
def yX1_addSchool : MethodName := ⟨RX1, "addSchool", "(I)I"⟩
abbrev cX1_setShare : ByteArray := prog_3_method_23_code
def yX1_setShare : MethodName := ⟨RX1, "setShare", "(III)I"⟩
abbrev cX1_canBe : ByteArray := prog_3_method_24_code
def yX1_canBe : MethodName := ⟨RX1, "canBe", "(Z)Z"⟩
abbrev cX1_toss : ByteArray := prog_3_method_25_code
def yX1_toss : MethodName := ⟨RX1, "toss", "(Z)I"⟩
abbrev cX1_without : ByteArray := prog_3_method_26_code
def yX1_without : MethodName := ⟨RX1, "without", "(II)I"⟩
abbrev cX1_undo : ByteArray := prog_3_method_27_code
def yX1_undo : MethodName := ⟨RX1, "undo", "()Z"⟩
abbrev cX1_strike : ByteArray := prog_3_method_28_code
def yX1_strike : MethodName := ⟨RX1, "strike", "(I)I"⟩
abbrev cX1_coins : ByteArray := prog_3_method_29_code
def yX1_coins : MethodName := ⟨RX1, "coins", "()I"⟩
abbrev cX1_schools : ByteArray := prog_3_method_30_code
def yX1_schools : MethodName := ⟨RX1, "schools", "()I"⟩
abbrev cX1_tosses : ByteArray := prog_3_method_31_code
def yX1_tosses : MethodName := ⟨RX1, "tosses", "()I"⟩
abbrev cX1_heads : ByteArray := prog_3_method_32_code
def yX1_heads : MethodName := ⟨RX1, "heads", "()I"⟩
abbrev cX1_isUp : ByteArray := prog_3_method_33_code
def yX1_isUp : MethodName := ⟨RX1, "isUp", "(I)Z"⟩
abbrev cX1_isHeads : ByteArray := prog_3_method_34_code
def yX1_isHeads : MethodName := ⟨RX1, "isHeads", "(I)Z"⟩
abbrev cX1_tenthsOf : ByteArray := prog_3_method_35_code
def yX1_tenthsOf : MethodName := ⟨RX1, "tenthsOf", "(I)I"⟩
abbrev cX1_oddsOf : ByteArray := prog_3_method_36_code
def yX1_oddsOf : MethodName := ⟨RX1, "oddsOf", "(I)I"⟩
abbrev cX1_shareOf : ByteArray := prog_3_method_37_code
def yX1_shareOf : MethodName := ⟨RX1, "shareOf", "(II)I"⟩
abbrev cX1_pair : ByteArray := prog_3_method_38_code
def yX1_pair : MethodName := ⟨RX1, "pair", "(II)J"⟩
abbrev cX1_schoolHere : ByteArray := prog_3_method_39_code
def yX1_schoolHere : MethodName := ⟨RX1, "schoolHere", "(I)J"⟩
abbrev cX1_weightOf : ByteArray := prog_3_method_40_code
def yX1_weightOf : MethodName := ⟨RX1, "weightOf", "(II)J"⟩
abbrev cX1_coinWeight : ByteArray := prog_3_method_41_code
def yX1_coinWeight : MethodName := ⟨RX1, "coinWeight", "(I)J"⟩
abbrev cX1_schoolWeight : ByteArray := prog_3_method_42_code
def yX1_schoolWeight : MethodName := ⟨RX1, "schoolWeight", "(I)J"⟩
abbrev cX1_wholeWeight : ByteArray := prog_3_method_43_code
def yX1_wholeWeight : MethodName := ⟨RX1, "wholeWeight", "()J"⟩
abbrev cX1_isRuledOut : ByteArray := prog_3_method_44_code
def yX1_isRuledOut : MethodName := ⟨RX1, "isRuledOut", "(I)Z"⟩
abbrev cX1_gone : ByteArray := prog_3_method_45_code
def yX1_gone : MethodName := ⟨RX1, "gone", "()I"⟩
abbrev cX1_ruledOut : ByteArray := prog_3_method_46_code
def yX1_ruledOut : MethodName := ⟨RX1, "ruledOut", "()I"⟩
abbrev cX1_coinPercent : ByteArray := prog_3_method_47_code
def yX1_coinPercent : MethodName := ⟨RX1, "coinPercent", "(I)I"⟩
abbrev cX1_schoolPercent : ByteArray := prog_3_method_48_code
def yX1_schoolPercent : MethodName := ⟨RX1, "schoolPercent", "(I)I"⟩
abbrev cX1_leads : ByteArray := prog_3_method_49_code
def yX1_leads : MethodName := ⟨RX1, "leads", "()I"⟩
abbrev cX1_leadingCoin : ByteArray := prog_3_method_50_code
def yX1_leadingCoin : MethodName := ⟨RX1, "leadingCoin", "()I"⟩
abbrev cX1_leadingSchool : ByteArray := prog_3_method_51_code
def yX1_leadingSchool : MethodName := ⟨RX1, "leadingSchool", "()I"⟩
abbrev cX1_oddsAgainst : ByteArray := prog_3_method_52_code
def yX1_oddsAgainst : MethodName := ⟨RX1, "oddsAgainst", "(II)J"⟩
abbrev cX1_surprise_ : ByteArray := prog_3_method_53_code
def yX1_surprise_ : MethodName := ⟨RX1, "surprise", "(I)I"⟩
abbrev cX1_surpriseOf : ByteArray := prog_3_method_54_code
def yX1_surpriseOf : MethodName := ⟨RX1, "surpriseOf", "(I)I"⟩
abbrev cX1_surprises : ByteArray := prog_3_method_55_code
def yX1_surprises : MethodName := ⟨RX1, "surprises", "()I"⟩
abbrev cX1_allSurprise : ByteArray := prog_3_method_56_code
def yX1_allSurprise : MethodName := ⟨RX1, "allSurprise", "()I"⟩
abbrev cX1_greatestSurprise : ByteArray := prog_3_method_57_code
def yX1_greatestSurprise : MethodName := ⟨RX1, "greatestSurprise", "()I"⟩
abbrev cX1_headsPercent : ByteArray := prog_3_method_58_code
def yX1_headsPercent : MethodName := ⟨RX1, "headsPercent", "()I"⟩
abbrev cX1_wouldSurprise : ByteArray := prog_3_method_59_code
def yX1_wouldSurprise : MethodName := ⟨RX1, "wouldSurprise", "(Z)I"⟩
abbrev cX1_leaderBehind : ByteArray := prog_3_method_60_code
def yX1_leaderBehind : MethodName := ⟨RX1, "leaderBehind", "(Z)I"⟩
abbrev cX1_isFirst : ByteArray := prog_3_method_61_code
def yX1_isFirst : MethodName := ⟨RX1, "isFirst", "(III)Z"⟩
abbrev cX1_toLead : ByteArray := prog_3_method_62_code
def yX1_toLead : MethodName := ⟨RX1, "toLead", "(I)I"⟩
abbrev cX1_tossesToLead : ByteArray := prog_3_method_63_code
def yX1_tossesToLead : MethodName := ⟨RX1, "tossesToLead", "(I)I"⟩
abbrev cX1_decisive : ByteArray := prog_3_method_64_code
def yX1_decisive : MethodName := ⟨RX1, "decisive", "()I"⟩
abbrev cX1_decisiveTosses : ByteArray := prog_3_method_65_code
def yX1_decisiveTosses : MethodName := ⟨RX1, "decisiveTosses", "()I"⟩
abbrev cX1_meanTenths : ByteArray := prog_3_method_66_code
def yX1_meanTenths : MethodName := ⟨RX1, "meanTenths", "()D"⟩
abbrev cX1_digest : ByteArray := prog_3_method_67_code
def yX1_digest : MethodName := ⟨RX1, "digest", "()J"⟩
def RL : String := "OddsLadderLaw"
abbrev cL_addCoin : ByteArray := method_3_code
def yL_addCoin : MethodName := ⟨RL, "addCoin", "(LOddsLadder;I[J)I"⟩
abbrev cL_addSchool : ByteArray := method_4_code
def yL_addSchool : MethodName := ⟨RL, "addSchool", "(LOddsLadder;I[J)I"⟩
abbrev cL_setShare : ByteArray := method_5_code
def yL_setShare : MethodName := ⟨RL, "setShare", "(LOddsLadder;III[J)I"⟩
abbrev cL_toss : ByteArray := method_6_code
def yL_toss : MethodName := ⟨RL, "toss", "(LOddsLadder;Z[J)I"⟩
abbrev cL_undo : ByteArray := method_7_code
def yL_undo : MethodName := ⟨RL, "undo", "(LOddsLadder;[J)I"⟩
abbrev cL_strike : ByteArray := method_8_code
def yL_strike : MethodName := ⟨RL, "strike", "(LOddsLadder;I[J)I"⟩
abbrev cL_isHeads : ByteArray := method_9_code
def yL_isHeads : MethodName := ⟨RL, "isHeads", "(LOddsLadder;I[J)I"⟩
abbrev cL_tenthsOf : ByteArray := method_10_code
def yL_tenthsOf : MethodName := ⟨RL, "tenthsOf", "(LOddsLadder;I[J)I"⟩
abbrev cL_oddsOf : ByteArray := method_11_code
def yL_oddsOf : MethodName := ⟨RL, "oddsOf", "(LOddsLadder;I[J)I"⟩
abbrev cL_shareOf : ByteArray := method_12_code
def yL_shareOf : MethodName := ⟨RL, "shareOf", "(LOddsLadder;II[J)I"⟩
abbrev cL_weightOf : ByteArray := method_13_code
def yL_weightOf : MethodName := ⟨RL, "weightOf", "(LOddsLadder;II[J)I"⟩
abbrev cL_coinWeight : ByteArray := method_14_code
def yL_coinWeight : MethodName := ⟨RL, "coinWeight", "(LOddsLadder;I[J)I"⟩
abbrev cL_schoolWeight : ByteArray := method_15_code
def yL_schoolWeight : MethodName := ⟨RL, "schoolWeight", "(LOddsLadder;I[J)I"⟩
abbrev cL_isRuledOut : ByteArray := method_16_code
def yL_isRuledOut : MethodName := ⟨RL, "isRuledOut", "(LOddsLadder;I[J)I"⟩
abbrev cL_coinPercent : ByteArray := method_17_code
def yL_coinPercent : MethodName := ⟨RL, "coinPercent", "(LOddsLadder;I[J)I"⟩
abbrev cL_schoolPercent : ByteArray := method_18_code
def yL_schoolPercent : MethodName := ⟨RL, "schoolPercent", "(LOddsLadder;I[J)I"⟩
abbrev cL_leadingCoin : ByteArray := method_19_code
def yL_leadingCoin : MethodName := ⟨RL, "leadingCoin", "(LOddsLadder;[J)I"⟩
abbrev cL_leadingSchool : ByteArray := method_20_code
def yL_leadingSchool : MethodName := ⟨RL, "leadingSchool", "(LOddsLadder;[J)I"⟩
abbrev cL_oddsAgainst : ByteArray := method_21_code
def yL_oddsAgainst : MethodName := ⟨RL, "oddsAgainst", "(LOddsLadder;II[J)I"⟩
abbrev cL_surpriseOf : ByteArray := method_22_code
def yL_surpriseOf : MethodName := ⟨RL, "surpriseOf", "(LOddsLadder;I[J)I"⟩
abbrev cL_headsPercent : ByteArray := method_23_code
def yL_headsPercent : MethodName := ⟨RL, "headsPercent", "(LOddsLadder;[J)I"⟩
abbrev cL_wouldSurprise : ByteArray := method_24_code
def yL_wouldSurprise : MethodName := ⟨RL, "wouldSurprise", "(LOddsLadder;Z[J)I"⟩
abbrev cL_leaderBehind : ByteArray := method_25_code
def yL_leaderBehind : MethodName := ⟨RL, "leaderBehind", "(LOddsLadder;Z[J)I"⟩
abbrev cL_tossesToLead : ByteArray := method_26_code
def yL_tossesToLead : MethodName := ⟨RL, "tossesToLead", "(LOddsLadder;I[J)I"⟩
abbrev cL_meanTenths : ByteArray := method_27_code
def yL_meanTenths : MethodName := ⟨RL, "meanTenths", "(LOddsLadder;[D)I"⟩
abbrev cL_law : ByteArray := code
def yL_law : MethodName := ⟨RL, "law", "([I)Z"⟩
theorem dX0_init_0 : decode cX0_init 0 = .ok (.aload_n 0, 1) := by decide +kernel
theorem dX0_init_1 : decode cX0_init 1 = .ok (.invokespecial 1, 3) := by decide +kernel
theorem dX0_init_4 : decode cX0_init 4 = .ok (.aload_n 0, 1) := by decide +kernel
theorem dX0_init_5 : decode cX0_init 5 = .ok (.bipush 8, 2) := by decide +kernel
theorem dX0_init_7 : decode cX0_init 7 = .ok (.newarray .int, 2) := by decide +kernel
theorem dX0_init_9 : decode cX0_init 9 = .ok (.putfield 9, 3) := by decide +kernel
theorem dX0_init_12 : decode cX0_init 12 = .ok (.aload_n 0, 1) := by decide +kernel
theorem dX0_init_13 : decode cX0_init 13 = .ok (.iconst 4, 1) := by decide +kernel
theorem dX0_init_14 : decode cX0_init 14 = .ok (.newarray .int, 2) := by decide +kernel
theorem dX0_init_16 : decode cX0_init 16 = .ok (.putfield 13, 3) := by decide +kernel
theorem dX0_init_19 : decode cX0_init 19 = .ok (.aload_n 0, 1) := by decide +kernel
theorem dX0_init_20 : decode cX0_init 20 = .ok (.iconst 4, 1) := by decide +kernel
theorem dX0_init_21 : decode cX0_init 21 = .ok (.bipush 8, 2) := by decide +kernel
theorem dX0_init_23 : decode cX0_init 23 = .ok (.multianewarray 16 2, 4) := by decide +kernel
theorem dX0_init_27 : decode cX0_init 27 = .ok (.putfield 18, 3) := by decide +kernel
theorem dX0_init_30 : decode cX0_init 30 = .ok (.aload_n 0, 1) := by decide +kernel
theorem dX0_init_31 : decode cX0_init 31 = .ok (.bipush 12, 2) := by decide +kernel
theorem dX0_init_33 : decode cX0_init 33 = .ok (.newarray .boolean, 2) := by decide +kernel
theorem dX0_init_35 : decode cX0_init 35 = .ok (.putfield 21, 3) := by decide +kernel
theorem dX0_init_38 : decode cX0_init 38 = .ok (.aload_n 0, 1) := by decide +kernel
theorem dX0_init_39 : decode cX0_init 39 = .ok (.iconst 0, 1) := by decide +kernel
theorem dX0_init_40 : decode cX0_init 40 = .ok (.putfield 25, 3) := by decide +kernel
theorem dX0_init_43 : decode cX0_init 43 = .ok (.aload_n 0, 1) := by decide +kernel
theorem dX0_init_44 : decode cX0_init 44 = .ok (.iconst 0, 1) := by decide +kernel
theorem dX0_init_45 : decode cX0_init 45 = .ok (.putfield 29, 3) := by decide +kernel
theorem dX0_init_48 : decode cX0_init 48 = .ok (.aload_n 0, 1) := by decide +kernel
theorem dX0_init_49 : decode cX0_init 49 = .ok (.iconst 0, 1) := by decide +kernel
theorem dX0_init_50 : decode cX0_init 50 = .ok (.putfield 32, 3) := by decide +kernel
theorem dX0_init_53 : decode cX0_init 53 = .ok (.iconst 0, 1) := by decide +kernel
theorem dX0_init_54 : decode cX0_init 54 = .ok (.istore_n 1, 1) := by decide +kernel
theorem dX0_init_55 : decode cX0_init 55 = .ok (.iload_n 1, 1) := by decide +kernel
theorem dX0_init_56 : decode cX0_init 56 = .ok (.iconst 4, 1) := by decide +kernel
theorem dX0_init_57 : decode cX0_init 57 = .ok (.if_icmp .ge 32, 3) := by decide +kernel
theorem dX0_init_60 : decode cX0_init 60 = .ok (.iconst 0, 1) := by decide +kernel
theorem dX0_init_61 : decode cX0_init 61 = .ok (.istore_n 2, 1) := by decide +kernel
theorem dX0_init_62 : decode cX0_init 62 = .ok (.iload_n 2, 1) := by decide +kernel
theorem dX0_init_63 : decode cX0_init 63 = .ok (.bipush 8, 2) := by decide +kernel
theorem dX0_init_65 : decode cX0_init 65 = .ok (.if_icmp .ge 18, 3) := by decide +kernel
theorem dX0_init_68 : decode cX0_init 68 = .ok (.aload_n 0, 1) := by decide +kernel
theorem dX0_init_69 : decode cX0_init 69 = .ok (.getfield 18, 3) := by decide +kernel
theorem dX0_init_72 : decode cX0_init 72 = .ok (.iload_n 1, 1) := by decide +kernel
theorem dX0_init_73 : decode cX0_init 73 = .ok (.aaload, 1) := by decide +kernel
theorem dX0_init_74 : decode cX0_init 74 = .ok (.iload_n 2, 1) := by decide +kernel
theorem dX0_init_75 : decode cX0_init 75 = .ok (.iconst 1, 1) := by decide +kernel
theorem dX0_init_76 : decode cX0_init 76 = .ok (.iastore, 1) := by decide +kernel
theorem dX0_init_77 : decode cX0_init 77 = .ok (.iinc 2 1, 3) := by decide +kernel
theorem dX0_init_80 : decode cX0_init 80 = .ok (.goto (-18), 3) := by decide +kernel
theorem dX0_init_83 : decode cX0_init 83 = .ok (.iinc 1 1, 3) := by decide +kernel
theorem dX0_init_86 : decode cX0_init 86 = .ok (.goto (-31), 3) := by decide +kernel
theorem dX0_init_89 : decode cX0_init 89 = .ok (.return_, 1) := by decide +kernel
theorem dX0_addCoin_0 : decode cX0_addCoin 0 = .ok (.iload_n 1, 1) := by decide +kernel
theorem dX0_addCoin_1 : decode cX0_addCoin 1 = .ok (.ifCond .lt 9, 3) := by decide +kernel
theorem dX0_addCoin_4 : decode cX0_addCoin 4 = .ok (.iload_n 1, 1) := by decide +kernel
theorem dX0_addCoin_5 : decode cX0_addCoin 5 = .ok (.bipush 10, 2) := by decide +kernel
theorem dX0_addCoin_7 : decode cX0_addCoin 7 = .ok (.if_icmp .le 13, 3) := by decide +kernel
theorem dX0_addCoin_10 : decode cX0_addCoin 10 = .ok (.new 35, 3) := by decide +kernel
theorem dX0_addCoin_13 : decode cX0_addCoin 13 = .ok (.dup, 1) := by decide +kernel
theorem dX0_addCoin_14 : decode cX0_addCoin 14 = .ok (.ldc 37, 2) := by decide +kernel
theorem dX0_addCoin_16 : decode cX0_addCoin 16 = .ok (.invokespecial 39, 3) := by decide +kernel
theorem dX0_addCoin_19 : decode cX0_addCoin 19 = .ok (.athrow, 1) := by decide +kernel
theorem dX0_addCoin_20 : decode cX0_addCoin 20 = .ok (.aload_n 0, 1) := by decide +kernel
theorem dX0_addCoin_21 : decode cX0_addCoin 21 = .ok (.getfield 25, 3) := by decide +kernel
theorem dX0_addCoin_24 : decode cX0_addCoin 24 = .ok (.bipush 8, 2) := by decide +kernel
theorem dX0_addCoin_26 : decode cX0_addCoin 26 = .ok (.if_icmp .lt 13, 3) := by decide +kernel
theorem dX0_addCoin_29 : decode cX0_addCoin 29 = .ok (.new 42, 3) := by decide +kernel
theorem dX0_addCoin_32 : decode cX0_addCoin 32 = .ok (.dup, 1) := by decide +kernel
theorem dX0_addCoin_33 : decode cX0_addCoin 33 = .ok (.ldc 44, 2) := by decide +kernel
theorem dX0_addCoin_35 : decode cX0_addCoin 35 = .ok (.invokespecial 46, 3) := by decide +kernel
theorem dX0_addCoin_38 : decode cX0_addCoin 38 = .ok (.athrow, 1) := by decide +kernel
theorem dX0_addCoin_39 : decode cX0_addCoin 39 = .ok (.aload_n 0, 1) := by decide +kernel
theorem dX0_addCoin_40 : decode cX0_addCoin 40 = .ok (.invokevirtual 47, 3) := by decide +kernel
theorem dX0_addCoin_43 : decode cX0_addCoin 43 = .ok (.aload_n 0, 1) := by decide +kernel
theorem dX0_addCoin_44 : decode cX0_addCoin 44 = .ok (.getfield 9, 3) := by decide +kernel
theorem dX0_addCoin_47 : decode cX0_addCoin 47 = .ok (.aload_n 0, 1) := by decide +kernel
theorem dX0_addCoin_48 : decode cX0_addCoin 48 = .ok (.getfield 25, 3) := by decide +kernel
theorem dX0_addCoin_51 : decode cX0_addCoin 51 = .ok (.iload_n 1, 1) := by decide +kernel
theorem dX0_addCoin_52 : decode cX0_addCoin 52 = .ok (.iastore, 1) := by decide +kernel
theorem dX0_addCoin_53 : decode cX0_addCoin 53 = .ok (.aload_n 0, 1) := by decide +kernel
theorem dX0_addCoin_54 : decode cX0_addCoin 54 = .ok (.dup, 1) := by decide +kernel
theorem dX0_addCoin_55 : decode cX0_addCoin 55 = .ok (.getfield 25, 3) := by decide +kernel
theorem dX0_addCoin_58 : decode cX0_addCoin 58 = .ok (.iconst 1, 1) := by decide +kernel
theorem dX0_addCoin_59 : decode cX0_addCoin 59 = .ok (.iadd, 1) := by decide +kernel
theorem dX0_addCoin_60 : decode cX0_addCoin 60 = .ok (.putfield 25, 3) := by decide +kernel
theorem dX0_addCoin_63 : decode cX0_addCoin 63 = .ok (.aload_n 0, 1) := by decide +kernel
theorem dX0_addCoin_64 : decode cX0_addCoin 64 = .ok (.getfield 25, 3) := by decide +kernel
theorem dX0_addCoin_67 : decode cX0_addCoin 67 = .ok (.iconst 1, 1) := by decide +kernel
theorem dX0_addCoin_68 : decode cX0_addCoin 68 = .ok (.isub, 1) := by decide +kernel
theorem dX0_addCoin_69 : decode cX0_addCoin 69 = .ok (.ireturn, 1) := by decide +kernel
theorem dX0_addSchool_0 : decode cX0_addSchool 0 = .ok (.iload_n 1, 1) := by decide +kernel
theorem dX0_addSchool_1 : decode cX0_addSchool 1 = .ok (.iconst 1, 1) := by decide +kernel
theorem dX0_addSchool_2 : decode cX0_addSchool 2 = .ok (.if_icmp .lt 9, 3) := by decide +kernel
theorem dX0_addSchool_5 : decode cX0_addSchool 5 = .ok (.iload_n 1, 1) := by decide +kernel
theorem dX0_addSchool_6 : decode cX0_addSchool 6 = .ok (.bipush 9, 2) := by decide +kernel
theorem dX0_addSchool_8 : decode cX0_addSchool 8 = .ok (.if_icmp .le 13, 3) := by decide +kernel
theorem dX0_addSchool_11 : decode cX0_addSchool 11 = .ok (.new 35, 3) := by decide +kernel
theorem dX0_addSchool_14 : decode cX0_addSchool 14 = .ok (.dup, 1) := by decide +kernel
theorem dX0_addSchool_15 : decode cX0_addSchool 15 = .ok (.ldc 50, 2) := by decide +kernel
theorem dX0_addSchool_17 : decode cX0_addSchool 17 = .ok (.invokespecial 39, 3) := by decide +kernel
theorem dX0_addSchool_20 : decode cX0_addSchool 20 = .ok (.athrow, 1) := by decide +kernel
theorem dX0_addSchool_21 : decode cX0_addSchool 21 = .ok (.aload_n 0, 1) := by decide +kernel
theorem dX0_addSchool_22 : decode cX0_addSchool 22 = .ok (.getfield 29, 3) := by decide +kernel
theorem dX0_addSchool_25 : decode cX0_addSchool 25 = .ok (.iconst 4, 1) := by decide +kernel
theorem dX0_addSchool_26 : decode cX0_addSchool 26 = .ok (.if_icmp .lt 13, 3) := by decide +kernel
theorem dX0_addSchool_29 : decode cX0_addSchool 29 = .ok (.new 42, 3) := by decide +kernel
theorem dX0_addSchool_32 : decode cX0_addSchool 32 = .ok (.dup, 1) := by decide +kernel
theorem dX0_addSchool_33 : decode cX0_addSchool 33 = .ok (.ldc 52, 2) := by decide +kernel
theorem dX0_addSchool_35 : decode cX0_addSchool 35 = .ok (.invokespecial 46, 3) := by decide +kernel
theorem dX0_addSchool_38 : decode cX0_addSchool 38 = .ok (.athrow, 1) := by decide +kernel
theorem dX0_addSchool_39 : decode cX0_addSchool 39 = .ok (.aload_n 0, 1) := by decide +kernel
theorem dX0_addSchool_40 : decode cX0_addSchool 40 = .ok (.invokevirtual 47, 3) := by decide +kernel
theorem dX0_addSchool_43 : decode cX0_addSchool 43 = .ok (.aload_n 0, 1) := by decide +kernel
theorem dX0_addSchool_44 : decode cX0_addSchool 44 = .ok (.getfield 13, 3) := by decide +kernel
theorem dX0_addSchool_47 : decode cX0_addSchool 47 = .ok (.aload_n 0, 1) := by decide +kernel
theorem dX0_addSchool_48 : decode cX0_addSchool 48 = .ok (.getfield 29, 3) := by decide +kernel
theorem dX0_addSchool_51 : decode cX0_addSchool 51 = .ok (.iload_n 1, 1) := by decide +kernel
theorem dX0_addSchool_52 : decode cX0_addSchool 52 = .ok (.iastore, 1) := by decide +kernel
theorem dX0_addSchool_53 : decode cX0_addSchool 53 = .ok (.aload_n 0, 1) := by decide +kernel
theorem dX0_addSchool_54 : decode cX0_addSchool 54 = .ok (.dup, 1) := by decide +kernel
theorem dX0_addSchool_55 : decode cX0_addSchool 55 = .ok (.getfield 29, 3) := by decide +kernel
theorem dX0_addSchool_58 : decode cX0_addSchool 58 = .ok (.iconst 1, 1) := by decide +kernel
theorem dX0_addSchool_59 : decode cX0_addSchool 59 = .ok (.iadd, 1) := by decide +kernel
theorem dX0_addSchool_60 : decode cX0_addSchool 60 = .ok (.putfield 29, 3) := by decide +kernel
theorem dX0_addSchool_63 : decode cX0_addSchool 63 = .ok (.aload_n 0, 1) := by decide +kernel
theorem dX0_addSchool_64 : decode cX0_addSchool 64 = .ok (.getfield 29, 3) := by decide +kernel
theorem dX0_addSchool_67 : decode cX0_addSchool 67 = .ok (.iconst 1, 1) := by decide +kernel
theorem dX0_addSchool_68 : decode cX0_addSchool 68 = .ok (.isub, 1) := by decide +kernel
theorem dX0_addSchool_69 : decode cX0_addSchool 69 = .ok (.ireturn, 1) := by decide +kernel
theorem dX0_setShare_0 : decode cX0_setShare 0 = .ok (.aload_n 0, 1) := by decide +kernel
theorem dX0_setShare_1 : decode cX0_setShare 1 = .ok (.iload_n 1, 1) := by decide +kernel
theorem dX0_setShare_2 : decode cX0_setShare 2 = .ok (.invokevirtual 54, 3) := by decide +kernel
theorem dX0_setShare_5 : decode cX0_setShare 5 = .ok (.aload_n 0, 1) := by decide +kernel
theorem dX0_setShare_6 : decode cX0_setShare 6 = .ok (.iload_n 2, 1) := by decide +kernel
theorem dX0_setShare_7 : decode cX0_setShare 7 = .ok (.invokevirtual 58, 3) := by decide +kernel
theorem dX0_setShare_10 : decode cX0_setShare 10 = .ok (.iload_n 3, 1) := by decide +kernel
theorem dX0_setShare_11 : decode cX0_setShare 11 = .ok (.ifCond .lt 9, 3) := by decide +kernel
theorem dX0_setShare_14 : decode cX0_setShare 14 = .ok (.iload_n 3, 1) := by decide +kernel
theorem dX0_setShare_15 : decode cX0_setShare 15 = .ok (.bipush 9, 2) := by decide +kernel
theorem dX0_setShare_17 : decode cX0_setShare 17 = .ok (.if_icmp .le 13, 3) := by decide +kernel
theorem dX0_setShare_20 : decode cX0_setShare 20 = .ok (.new 35, 3) := by decide +kernel
theorem dX0_setShare_23 : decode cX0_setShare 23 = .ok (.dup, 1) := by decide +kernel
theorem dX0_setShare_24 : decode cX0_setShare 24 = .ok (.ldc 61, 2) := by decide +kernel
theorem dX0_setShare_26 : decode cX0_setShare 26 = .ok (.invokespecial 39, 3) := by decide +kernel
theorem dX0_setShare_29 : decode cX0_setShare 29 = .ok (.athrow, 1) := by decide +kernel
theorem dX0_setShare_30 : decode cX0_setShare 30 = .ok (.aload_n 0, 1) := by decide +kernel
theorem dX0_setShare_31 : decode cX0_setShare 31 = .ok (.invokevirtual 47, 3) := by decide +kernel
theorem dX0_setShare_34 : decode cX0_setShare 34 = .ok (.aload_n 0, 1) := by decide +kernel
theorem dX0_setShare_35 : decode cX0_setShare 35 = .ok (.getfield 18, 3) := by decide +kernel
theorem dX0_setShare_38 : decode cX0_setShare 38 = .ok (.iload_n 1, 1) := by decide +kernel
theorem dX0_setShare_39 : decode cX0_setShare 39 = .ok (.aaload, 1) := by decide +kernel
theorem dX0_setShare_40 : decode cX0_setShare 40 = .ok (.iload_n 2, 1) := by decide +kernel
theorem dX0_setShare_41 : decode cX0_setShare 41 = .ok (.iaload, 1) := by decide +kernel
theorem dX0_setShare_42 : decode cX0_setShare 42 = .ok (.istore 4, 2) := by decide +kernel
theorem dX0_setShare_44 : decode cX0_setShare 44 = .ok (.aload_n 0, 1) := by decide +kernel
theorem dX0_setShare_45 : decode cX0_setShare 45 = .ok (.getfield 18, 3) := by decide +kernel
theorem dX0_setShare_48 : decode cX0_setShare 48 = .ok (.iload_n 1, 1) := by decide +kernel
theorem dX0_setShare_49 : decode cX0_setShare 49 = .ok (.aaload, 1) := by decide +kernel
theorem dX0_setShare_50 : decode cX0_setShare 50 = .ok (.iload_n 2, 1) := by decide +kernel
theorem dX0_setShare_51 : decode cX0_setShare 51 = .ok (.iload_n 3, 1) := by decide +kernel
theorem dX0_setShare_52 : decode cX0_setShare 52 = .ok (.iastore, 1) := by decide +kernel
theorem dX0_setShare_53 : decode cX0_setShare 53 = .ok (.iload 4, 2) := by decide +kernel
theorem dX0_setShare_55 : decode cX0_setShare 55 = .ok (.ireturn, 1) := by decide +kernel
theorem dX0_toss_0 : decode cX0_toss 0 = .ok (.aload_n 0, 1) := by decide +kernel
theorem dX0_toss_1 : decode cX0_toss 1 = .ok (.getfield 32, 3) := by decide +kernel
theorem dX0_toss_4 : decode cX0_toss 4 = .ok (.bipush 12, 2) := by decide +kernel
theorem dX0_toss_6 : decode cX0_toss 6 = .ok (.if_icmp .lt 13, 3) := by decide +kernel
theorem dX0_toss_9 : decode cX0_toss 9 = .ok (.new 42, 3) := by decide +kernel
theorem dX0_toss_12 : decode cX0_toss 12 = .ok (.dup, 1) := by decide +kernel
theorem dX0_toss_13 : decode cX0_toss 13 = .ok (.ldc 63, 2) := by decide +kernel
theorem dX0_toss_15 : decode cX0_toss 15 = .ok (.invokespecial 46, 3) := by decide +kernel
theorem dX0_toss_18 : decode cX0_toss 18 = .ok (.athrow, 1) := by decide +kernel
theorem dX0_toss_19 : decode cX0_toss 19 = .ok (.aload_n 0, 1) := by decide +kernel
theorem dX0_toss_20 : decode cX0_toss 20 = .ok (.iload_n 1, 1) := by decide +kernel
theorem dX0_toss_21 : decode cX0_toss 21 = .ok (.invokevirtual 65, 3) := by decide +kernel
theorem dX0_toss_24 : decode cX0_toss 24 = .ok (.aload_n 0, 1) := by decide +kernel
theorem dX0_toss_25 : decode cX0_toss 25 = .ok (.iload_n 1, 1) := by decide +kernel
theorem dX0_toss_26 : decode cX0_toss 26 = .ok (.aload_n 0, 1) := by decide +kernel
theorem dX0_toss_27 : decode cX0_toss 27 = .ok (.invokevirtual 69, 3) := by decide +kernel
theorem dX0_toss_30 : decode cX0_toss 30 = .ok (.aload_n 0, 1) := by decide +kernel
theorem dX0_toss_31 : decode cX0_toss 31 = .ok (.invokevirtual 73, 3) := by decide +kernel
theorem dX0_toss_34 : decode cX0_toss 34 = .ok (.invokevirtual 76, 3) := by decide +kernel
theorem dX0_toss_37 : decode cX0_toss 37 = .ok (.istore_n 2, 1) := by decide +kernel
theorem dX0_toss_38 : decode cX0_toss 38 = .ok (.aload_n 0, 1) := by decide +kernel
theorem dX0_toss_39 : decode cX0_toss 39 = .ok (.getfield 21, 3) := by decide +kernel
theorem dX0_toss_42 : decode cX0_toss 42 = .ok (.aload_n 0, 1) := by decide +kernel
theorem dX0_toss_43 : decode cX0_toss 43 = .ok (.getfield 32, 3) := by decide +kernel
theorem dX0_toss_46 : decode cX0_toss 46 = .ok (.iload_n 1, 1) := by decide +kernel
theorem dX0_toss_47 : decode cX0_toss 47 = .ok (.bastore, 1) := by decide +kernel
theorem dX0_toss_48 : decode cX0_toss 48 = .ok (.aload_n 0, 1) := by decide +kernel
theorem dX0_toss_49 : decode cX0_toss 49 = .ok (.dup, 1) := by decide +kernel
theorem dX0_toss_50 : decode cX0_toss 50 = .ok (.getfield 32, 3) := by decide +kernel
theorem dX0_toss_53 : decode cX0_toss 53 = .ok (.iconst 1, 1) := by decide +kernel
theorem dX0_toss_54 : decode cX0_toss 54 = .ok (.iadd, 1) := by decide +kernel
theorem dX0_toss_55 : decode cX0_toss 55 = .ok (.putfield 32, 3) := by decide +kernel
theorem dX0_toss_58 : decode cX0_toss 58 = .ok (.iload_n 2, 1) := by decide +kernel
theorem dX0_toss_59 : decode cX0_toss 59 = .ok (.ireturn, 1) := by decide +kernel
theorem dX0_undo_0 : decode cX0_undo 0 = .ok (.aload_n 0, 1) := by decide +kernel
theorem dX0_undo_1 : decode cX0_undo 1 = .ok (.getfield 32, 3) := by decide +kernel
theorem dX0_undo_4 : decode cX0_undo 4 = .ok (.ifCond .gt 13, 3) := by decide +kernel
theorem dX0_undo_7 : decode cX0_undo 7 = .ok (.new 42, 3) := by decide +kernel
theorem dX0_undo_10 : decode cX0_undo 10 = .ok (.dup, 1) := by decide +kernel
theorem dX0_undo_11 : decode cX0_undo 11 = .ok (.ldc 80, 2) := by decide +kernel
theorem dX0_undo_13 : decode cX0_undo 13 = .ok (.invokespecial 46, 3) := by decide +kernel
theorem dX0_undo_16 : decode cX0_undo 16 = .ok (.athrow, 1) := by decide +kernel
theorem dX0_undo_17 : decode cX0_undo 17 = .ok (.aload_n 0, 1) := by decide +kernel
theorem dX0_undo_18 : decode cX0_undo 18 = .ok (.dup, 1) := by decide +kernel
theorem dX0_undo_19 : decode cX0_undo 19 = .ok (.getfield 32, 3) := by decide +kernel
theorem dX0_undo_22 : decode cX0_undo 22 = .ok (.iconst 1, 1) := by decide +kernel
theorem dX0_undo_23 : decode cX0_undo 23 = .ok (.isub, 1) := by decide +kernel
theorem dX0_undo_24 : decode cX0_undo 24 = .ok (.putfield 32, 3) := by decide +kernel
theorem dX0_undo_27 : decode cX0_undo 27 = .ok (.aload_n 0, 1) := by decide +kernel
theorem dX0_undo_28 : decode cX0_undo 28 = .ok (.getfield 21, 3) := by decide +kernel
theorem dX0_undo_31 : decode cX0_undo 31 = .ok (.aload_n 0, 1) := by decide +kernel
theorem dX0_undo_32 : decode cX0_undo 32 = .ok (.getfield 32, 3) := by decide +kernel
theorem dX0_undo_35 : decode cX0_undo 35 = .ok (.baload, 1) := by decide +kernel
theorem dX0_undo_36 : decode cX0_undo 36 = .ok (.ireturn, 1) := by decide +kernel
theorem dX0_strike_0 : decode cX0_strike 0 = .ok (.aload_n 0, 1) := by decide +kernel
theorem dX0_strike_1 : decode cX0_strike 1 = .ok (.iload_n 1, 1) := by decide +kernel
theorem dX0_strike_2 : decode cX0_strike 2 = .ok (.invokevirtual 82, 3) := by decide +kernel
theorem dX0_strike_5 : decode cX0_strike 5 = .ok (.aload_n 0, 1) := by decide +kernel
theorem dX0_strike_6 : decode cX0_strike 6 = .ok (.dup, 1) := by decide +kernel
theorem dX0_strike_7 : decode cX0_strike 7 = .ok (.getfield 32, 3) := by decide +kernel
theorem dX0_strike_10 : decode cX0_strike 10 = .ok (.iconst 1, 1) := by decide +kernel
theorem dX0_strike_11 : decode cX0_strike 11 = .ok (.isub, 1) := by decide +kernel
theorem dX0_strike_12 : decode cX0_strike 12 = .ok (.putfield 32, 3) := by decide +kernel
theorem dX0_strike_15 : decode cX0_strike 15 = .ok (.iload_n 1, 1) := by decide +kernel
theorem dX0_strike_16 : decode cX0_strike 16 = .ok (.istore_n 2, 1) := by decide +kernel
theorem dX0_strike_17 : decode cX0_strike 17 = .ok (.iload_n 2, 1) := by decide +kernel
theorem dX0_strike_18 : decode cX0_strike 18 = .ok (.aload_n 0, 1) := by decide +kernel
theorem dX0_strike_19 : decode cX0_strike 19 = .ok (.getfield 32, 3) := by decide +kernel
theorem dX0_strike_22 : decode cX0_strike 22 = .ok (.if_icmp .ge 23, 3) := by decide +kernel
theorem dX0_strike_25 : decode cX0_strike 25 = .ok (.aload_n 0, 1) := by decide +kernel
theorem dX0_strike_26 : decode cX0_strike 26 = .ok (.getfield 21, 3) := by decide +kernel
theorem dX0_strike_29 : decode cX0_strike 29 = .ok (.iload_n 2, 1) := by decide +kernel
theorem dX0_strike_30 : decode cX0_strike 30 = .ok (.aload_n 0, 1) := by decide +kernel
theorem dX0_strike_31 : decode cX0_strike 31 = .ok (.getfield 21, 3) := by decide +kernel
theorem dX0_strike_34 : decode cX0_strike 34 = .ok (.iload_n 2, 1) := by decide +kernel
theorem dX0_strike_35 : decode cX0_strike 35 = .ok (.iconst 1, 1) := by decide +kernel
theorem dX0_strike_36 : decode cX0_strike 36 = .ok (.iadd, 1) := by decide +kernel
theorem dX0_strike_37 : decode cX0_strike 37 = .ok (.baload, 1) := by decide +kernel
theorem dX0_strike_38 : decode cX0_strike 38 = .ok (.bastore, 1) := by decide +kernel
theorem dX0_strike_39 : decode cX0_strike 39 = .ok (.iinc 2 1, 3) := by decide +kernel
theorem dX0_strike_42 : decode cX0_strike 42 = .ok (.goto (-25), 3) := by decide +kernel
theorem dX0_strike_45 : decode cX0_strike 45 = .ok (.aload_n 0, 1) := by decide +kernel
theorem dX0_strike_46 : decode cX0_strike 46 = .ok (.getfield 32, 3) := by decide +kernel
theorem dX0_strike_49 : decode cX0_strike 49 = .ok (.ireturn, 1) := by decide +kernel
theorem dX0_coins_0 : decode cX0_coins 0 = .ok (.aload_n 0, 1) := by decide +kernel
theorem dX0_coins_1 : decode cX0_coins 1 = .ok (.getfield 25, 3) := by decide +kernel
theorem dX0_coins_4 : decode cX0_coins 4 = .ok (.ireturn, 1) := by decide +kernel
theorem dX0_schools_0 : decode cX0_schools 0 = .ok (.aload_n 0, 1) := by decide +kernel
theorem dX0_schools_1 : decode cX0_schools 1 = .ok (.getfield 29, 3) := by decide +kernel
theorem dX0_schools_4 : decode cX0_schools 4 = .ok (.ireturn, 1) := by decide +kernel
theorem dX0_tosses_0 : decode cX0_tosses 0 = .ok (.aload_n 0, 1) := by decide +kernel
theorem dX0_tosses_1 : decode cX0_tosses 1 = .ok (.getfield 32, 3) := by decide +kernel
theorem dX0_tosses_4 : decode cX0_tosses 4 = .ok (.ireturn, 1) := by decide +kernel
theorem dX0_heads_0 : decode cX0_heads 0 = .ok (.aload_n 0, 1) := by decide +kernel
theorem dX0_heads_1 : decode cX0_heads 1 = .ok (.invokevirtual 69, 3) := by decide +kernel
theorem dX0_heads_4 : decode cX0_heads 4 = .ok (.ireturn, 1) := by decide +kernel
theorem dX0_isHeads_0 : decode cX0_isHeads 0 = .ok (.aload_n 0, 1) := by decide +kernel
theorem dX0_isHeads_1 : decode cX0_isHeads 1 = .ok (.iload_n 1, 1) := by decide +kernel
theorem dX0_isHeads_2 : decode cX0_isHeads 2 = .ok (.invokevirtual 82, 3) := by decide +kernel
theorem dX0_isHeads_5 : decode cX0_isHeads 5 = .ok (.aload_n 0, 1) := by decide +kernel
theorem dX0_isHeads_6 : decode cX0_isHeads 6 = .ok (.getfield 21, 3) := by decide +kernel
theorem dX0_isHeads_9 : decode cX0_isHeads 9 = .ok (.iload_n 1, 1) := by decide +kernel
theorem dX0_isHeads_10 : decode cX0_isHeads 10 = .ok (.baload, 1) := by decide +kernel
theorem dX0_isHeads_11 : decode cX0_isHeads 11 = .ok (.ireturn, 1) := by decide +kernel
theorem dX0_tenthsOf_0 : decode cX0_tenthsOf 0 = .ok (.aload_n 0, 1) := by decide +kernel
theorem dX0_tenthsOf_1 : decode cX0_tenthsOf 1 = .ok (.iload_n 1, 1) := by decide +kernel
theorem dX0_tenthsOf_2 : decode cX0_tenthsOf 2 = .ok (.invokevirtual 58, 3) := by decide +kernel
theorem dX0_tenthsOf_5 : decode cX0_tenthsOf 5 = .ok (.aload_n 0, 1) := by decide +kernel
theorem dX0_tenthsOf_6 : decode cX0_tenthsOf 6 = .ok (.getfield 9, 3) := by decide +kernel
theorem dX0_tenthsOf_9 : decode cX0_tenthsOf 9 = .ok (.iload_n 1, 1) := by decide +kernel
theorem dX0_tenthsOf_10 : decode cX0_tenthsOf 10 = .ok (.iaload, 1) := by decide +kernel
theorem dX0_tenthsOf_11 : decode cX0_tenthsOf 11 = .ok (.ireturn, 1) := by decide +kernel
theorem dX0_oddsOf_0 : decode cX0_oddsOf 0 = .ok (.aload_n 0, 1) := by decide +kernel
theorem dX0_oddsOf_1 : decode cX0_oddsOf 1 = .ok (.iload_n 1, 1) := by decide +kernel
theorem dX0_oddsOf_2 : decode cX0_oddsOf 2 = .ok (.invokevirtual 54, 3) := by decide +kernel
theorem dX0_oddsOf_5 : decode cX0_oddsOf 5 = .ok (.aload_n 0, 1) := by decide +kernel
theorem dX0_oddsOf_6 : decode cX0_oddsOf 6 = .ok (.getfield 13, 3) := by decide +kernel
theorem dX0_oddsOf_9 : decode cX0_oddsOf 9 = .ok (.iload_n 1, 1) := by decide +kernel
theorem dX0_oddsOf_10 : decode cX0_oddsOf 10 = .ok (.iaload, 1) := by decide +kernel
theorem dX0_oddsOf_11 : decode cX0_oddsOf 11 = .ok (.ireturn, 1) := by decide +kernel
theorem dX0_shareOf_0 : decode cX0_shareOf 0 = .ok (.aload_n 0, 1) := by decide +kernel
theorem dX0_shareOf_1 : decode cX0_shareOf 1 = .ok (.iload_n 1, 1) := by decide +kernel
theorem dX0_shareOf_2 : decode cX0_shareOf 2 = .ok (.invokevirtual 54, 3) := by decide +kernel
theorem dX0_shareOf_5 : decode cX0_shareOf 5 = .ok (.aload_n 0, 1) := by decide +kernel
theorem dX0_shareOf_6 : decode cX0_shareOf 6 = .ok (.iload_n 2, 1) := by decide +kernel
theorem dX0_shareOf_7 : decode cX0_shareOf 7 = .ok (.invokevirtual 58, 3) := by decide +kernel
theorem dX0_shareOf_10 : decode cX0_shareOf 10 = .ok (.aload_n 0, 1) := by decide +kernel
theorem dX0_shareOf_11 : decode cX0_shareOf 11 = .ok (.getfield 18, 3) := by decide +kernel
theorem dX0_shareOf_14 : decode cX0_shareOf 14 = .ok (.iload_n 1, 1) := by decide +kernel
theorem dX0_shareOf_15 : decode cX0_shareOf 15 = .ok (.aaload, 1) := by decide +kernel
theorem dX0_shareOf_16 : decode cX0_shareOf 16 = .ok (.iload_n 2, 1) := by decide +kernel
theorem dX0_shareOf_17 : decode cX0_shareOf 17 = .ok (.iaload, 1) := by decide +kernel
theorem dX0_shareOf_18 : decode cX0_shareOf 18 = .ok (.ireturn, 1) := by decide +kernel
theorem dX0_weightOf_0 : decode cX0_weightOf 0 = .ok (.aload_n 0, 1) := by decide +kernel
theorem dX0_weightOf_1 : decode cX0_weightOf 1 = .ok (.iload_n 1, 1) := by decide +kernel
theorem dX0_weightOf_2 : decode cX0_weightOf 2 = .ok (.invokevirtual 54, 3) := by decide +kernel
theorem dX0_weightOf_5 : decode cX0_weightOf 5 = .ok (.aload_n 0, 1) := by decide +kernel
theorem dX0_weightOf_6 : decode cX0_weightOf 6 = .ok (.iload_n 2, 1) := by decide +kernel
theorem dX0_weightOf_7 : decode cX0_weightOf 7 = .ok (.invokevirtual 58, 3) := by decide +kernel
theorem dX0_weightOf_10 : decode cX0_weightOf 10 = .ok (.aload_n 0, 1) := by decide +kernel
theorem dX0_weightOf_11 : decode cX0_weightOf 11 = .ok (.iload_n 1, 1) := by decide +kernel
theorem dX0_weightOf_12 : decode cX0_weightOf 12 = .ok (.iload_n 2, 1) := by decide +kernel
theorem dX0_weightOf_13 : decode cX0_weightOf 13 = .ok (.invokevirtual 85, 3) := by decide +kernel
theorem dX0_weightOf_16 : decode cX0_weightOf 16 = .ok (.aload_n 0, 1) := by decide +kernel
theorem dX0_weightOf_17 : decode cX0_weightOf 17 = .ok (.iload_n 2, 1) := by decide +kernel
theorem dX0_weightOf_18 : decode cX0_weightOf 18 = .ok (.aload_n 0, 1) := by decide +kernel
theorem dX0_weightOf_19 : decode cX0_weightOf 19 = .ok (.invokevirtual 69, 3) := by decide +kernel
theorem dX0_weightOf_22 : decode cX0_weightOf 22 = .ok (.aload_n 0, 1) := by decide +kernel
theorem dX0_weightOf_23 : decode cX0_weightOf 23 = .ok (.invokevirtual 73, 3) := by decide +kernel
theorem dX0_weightOf_26 : decode cX0_weightOf 26 = .ok (.invokevirtual 89, 3) := by decide +kernel
theorem dX0_weightOf_29 : decode cX0_weightOf 29 = .ok (.lmul, 1) := by decide +kernel
theorem dX0_weightOf_30 : decode cX0_weightOf 30 = .ok (.lreturn, 1) := by decide +kernel
theorem dX0_coinWeight_0 : decode cX0_coinWeight 0 = .ok (.aload_n 0, 1) := by decide +kernel
theorem dX0_coinWeight_1 : decode cX0_coinWeight 1 = .ok (.iload_n 1, 1) := by decide +kernel
theorem dX0_coinWeight_2 : decode cX0_coinWeight 2 = .ok (.invokevirtual 58, 3) := by decide +kernel
theorem dX0_coinWeight_5 : decode cX0_coinWeight 5 = .ok (.aload_n 0, 1) := by decide +kernel
theorem dX0_coinWeight_6 : decode cX0_coinWeight 6 = .ok (.iload_n 1, 1) := by decide +kernel
theorem dX0_coinWeight_7 : decode cX0_coinWeight 7 = .ok (.aload_n 0, 1) := by decide +kernel
theorem dX0_coinWeight_8 : decode cX0_coinWeight 8 = .ok (.invokevirtual 69, 3) := by decide +kernel
theorem dX0_coinWeight_11 : decode cX0_coinWeight 11 = .ok (.aload_n 0, 1) := by decide +kernel
theorem dX0_coinWeight_12 : decode cX0_coinWeight 12 = .ok (.invokevirtual 73, 3) := by decide +kernel
theorem dX0_coinWeight_15 : decode cX0_coinWeight 15 = .ok (.invokevirtual 93, 3) := by decide +kernel
theorem dX0_coinWeight_18 : decode cX0_coinWeight 18 = .ok (.lreturn, 1) := by decide +kernel
theorem dX0_schoolWeight_0 : decode cX0_schoolWeight 0 = .ok (.aload_n 0, 1) := by decide +kernel
theorem dX0_schoolWeight_1 : decode cX0_schoolWeight 1 = .ok (.iload_n 1, 1) := by decide +kernel
theorem dX0_schoolWeight_2 : decode cX0_schoolWeight 2 = .ok (.invokevirtual 54, 3) := by decide +kernel
theorem dX0_schoolWeight_5 : decode cX0_schoolWeight 5 = .ok (.aload_n 0, 1) := by decide +kernel
theorem dX0_schoolWeight_6 : decode cX0_schoolWeight 6 = .ok (.iload_n 1, 1) := by decide +kernel
theorem dX0_schoolWeight_7 : decode cX0_schoolWeight 7 = .ok (.invokevirtual 96, 3) := by decide +kernel
theorem dX0_schoolWeight_10 : decode cX0_schoolWeight 10 = .ok (.lreturn, 1) := by decide +kernel
theorem dX0_wholeWeight_0 : decode cX0_wholeWeight 0 = .ok (.aload_n 0, 1) := by decide +kernel
theorem dX0_wholeWeight_1 : decode cX0_wholeWeight 1 = .ok (.invokevirtual 100, 3) := by decide +kernel
theorem dX0_wholeWeight_4 : decode cX0_wholeWeight 4 = .ok (.lreturn, 1) := by decide +kernel
theorem dX0_isRuledOut_0 : decode cX0_isRuledOut 0 = .ok (.aload_n 0, 1) := by decide +kernel
theorem dX0_isRuledOut_1 : decode cX0_isRuledOut 1 = .ok (.iload_n 1, 1) := by decide +kernel
theorem dX0_isRuledOut_2 : decode cX0_isRuledOut 2 = .ok (.invokevirtual 58, 3) := by decide +kernel
theorem dX0_isRuledOut_5 : decode cX0_isRuledOut 5 = .ok (.aload_n 0, 1) := by decide +kernel
theorem dX0_isRuledOut_6 : decode cX0_isRuledOut 6 = .ok (.iload_n 1, 1) := by decide +kernel
theorem dX0_isRuledOut_7 : decode cX0_isRuledOut 7 = .ok (.aload_n 0, 1) := by decide +kernel
theorem dX0_isRuledOut_8 : decode cX0_isRuledOut 8 = .ok (.invokevirtual 69, 3) := by decide +kernel
theorem dX0_isRuledOut_11 : decode cX0_isRuledOut 11 = .ok (.aload_n 0, 1) := by decide +kernel
theorem dX0_isRuledOut_12 : decode cX0_isRuledOut 12 = .ok (.invokevirtual 73, 3) := by decide +kernel
theorem dX0_isRuledOut_15 : decode cX0_isRuledOut 15 = .ok (.invokevirtual 93, 3) := by decide +kernel
theorem dX0_isRuledOut_18 : decode cX0_isRuledOut 18 = .ok (.lconst 0, 1) := by decide +kernel
theorem dX0_isRuledOut_19 : decode cX0_isRuledOut 19 = .ok (.lcmp, 1) := by decide +kernel
theorem dX0_isRuledOut_20 : decode cX0_isRuledOut 20 = .ok (.ifCond .ne 7, 3) := by decide +kernel
theorem dX0_isRuledOut_23 : decode cX0_isRuledOut 23 = .ok (.iconst 1, 1) := by decide +kernel
theorem dX0_isRuledOut_24 : decode cX0_isRuledOut 24 = .ok (.goto 4, 3) := by decide +kernel
theorem dX0_isRuledOut_27 : decode cX0_isRuledOut 27 = .ok (.iconst 0, 1) := by decide +kernel
theorem dX0_isRuledOut_28 : decode cX0_isRuledOut 28 = .ok (.ireturn, 1) := by decide +kernel
theorem dX0_ruledOut_0 : decode cX0_ruledOut 0 = .ok (.aload_n 0, 1) := by decide +kernel
theorem dX0_ruledOut_1 : decode cX0_ruledOut 1 = .ok (.invokevirtual 69, 3) := by decide +kernel
theorem dX0_ruledOut_4 : decode cX0_ruledOut 4 = .ok (.istore_n 1, 1) := by decide +kernel
theorem dX0_ruledOut_5 : decode cX0_ruledOut 5 = .ok (.aload_n 0, 1) := by decide +kernel
theorem dX0_ruledOut_6 : decode cX0_ruledOut 6 = .ok (.invokevirtual 73, 3) := by decide +kernel
theorem dX0_ruledOut_9 : decode cX0_ruledOut 9 = .ok (.istore_n 2, 1) := by decide +kernel
theorem dX0_ruledOut_10 : decode cX0_ruledOut 10 = .ok (.iconst 0, 1) := by decide +kernel
theorem dX0_ruledOut_11 : decode cX0_ruledOut 11 = .ok (.istore_n 3, 1) := by decide +kernel
theorem dX0_ruledOut_12 : decode cX0_ruledOut 12 = .ok (.iconst 0, 1) := by decide +kernel
theorem dX0_ruledOut_13 : decode cX0_ruledOut 13 = .ok (.istore 4, 2) := by decide +kernel
theorem dX0_ruledOut_15 : decode cX0_ruledOut 15 = .ok (.iload 4, 2) := by decide +kernel
theorem dX0_ruledOut_17 : decode cX0_ruledOut 17 = .ok (.aload_n 0, 1) := by decide +kernel
theorem dX0_ruledOut_18 : decode cX0_ruledOut 18 = .ok (.getfield 25, 3) := by decide +kernel
theorem dX0_ruledOut_21 : decode cX0_ruledOut 21 = .ok (.if_icmp .ge 25, 3) := by decide +kernel
theorem dX0_ruledOut_24 : decode cX0_ruledOut 24 = .ok (.aload_n 0, 1) := by decide +kernel
theorem dX0_ruledOut_25 : decode cX0_ruledOut 25 = .ok (.iload 4, 2) := by decide +kernel
theorem dX0_ruledOut_27 : decode cX0_ruledOut 27 = .ok (.iload_n 1, 1) := by decide +kernel
theorem dX0_ruledOut_28 : decode cX0_ruledOut 28 = .ok (.iload_n 2, 1) := by decide +kernel
theorem dX0_ruledOut_29 : decode cX0_ruledOut 29 = .ok (.invokevirtual 93, 3) := by decide +kernel
theorem dX0_ruledOut_32 : decode cX0_ruledOut 32 = .ok (.lconst 0, 1) := by decide +kernel
theorem dX0_ruledOut_33 : decode cX0_ruledOut 33 = .ok (.lcmp, 1) := by decide +kernel
theorem dX0_ruledOut_34 : decode cX0_ruledOut 34 = .ok (.ifCond .ne 6, 3) := by decide +kernel
theorem dX0_ruledOut_37 : decode cX0_ruledOut 37 = .ok (.iinc 3 1, 3) := by decide +kernel
theorem dX0_ruledOut_40 : decode cX0_ruledOut 40 = .ok (.iinc 4 1, 3) := by decide +kernel
theorem dX0_ruledOut_43 : decode cX0_ruledOut 43 = .ok (.goto (-28), 3) := by decide +kernel
theorem dX0_ruledOut_46 : decode cX0_ruledOut 46 = .ok (.iload_n 3, 1) := by decide +kernel
theorem dX0_ruledOut_47 : decode cX0_ruledOut 47 = .ok (.ireturn, 1) := by decide +kernel
theorem dX0_coinPercent_0 : decode cX0_coinPercent 0 = .ok (.aload_n 0, 1) := by decide +kernel
theorem dX0_coinPercent_1 : decode cX0_coinPercent 1 = .ok (.iload_n 1, 1) := by decide +kernel
theorem dX0_coinPercent_2 : decode cX0_coinPercent 2 = .ok (.invokevirtual 58, 3) := by decide +kernel
theorem dX0_coinPercent_5 : decode cX0_coinPercent 5 = .ok (.aload_n 0, 1) := by decide +kernel
theorem dX0_coinPercent_6 : decode cX0_coinPercent 6 = .ok (.iload_n 1, 1) := by decide +kernel
theorem dX0_coinPercent_7 : decode cX0_coinPercent 7 = .ok (.aload_n 0, 1) := by decide +kernel
theorem dX0_coinPercent_8 : decode cX0_coinPercent 8 = .ok (.invokevirtual 69, 3) := by decide +kernel
theorem dX0_coinPercent_11 : decode cX0_coinPercent 11 = .ok (.aload_n 0, 1) := by decide +kernel
theorem dX0_coinPercent_12 : decode cX0_coinPercent 12 = .ok (.invokevirtual 73, 3) := by decide +kernel
theorem dX0_coinPercent_15 : decode cX0_coinPercent 15 = .ok (.invokevirtual 93, 3) := by decide +kernel
theorem dX0_coinPercent_18 : decode cX0_coinPercent 18 = .ok (.aload_n 0, 1) := by decide +kernel
theorem dX0_coinPercent_19 : decode cX0_coinPercent 19 = .ok (.invokevirtual 100, 3) := by decide +kernel
theorem dX0_coinPercent_22 : decode cX0_coinPercent 22 = .ok (.invokestatic 104, 3) := by decide +kernel
theorem dX0_coinPercent_25 : decode cX0_coinPercent 25 = .ok (.ireturn, 1) := by decide +kernel
theorem dX0_schoolPercent_0 : decode cX0_schoolPercent 0 = .ok (.aload_n 0, 1) := by decide +kernel
theorem dX0_schoolPercent_1 : decode cX0_schoolPercent 1 = .ok (.iload_n 1, 1) := by decide +kernel
theorem dX0_schoolPercent_2 : decode cX0_schoolPercent 2 = .ok (.invokevirtual 54, 3) := by decide +kernel
theorem dX0_schoolPercent_5 : decode cX0_schoolPercent 5 = .ok (.aload_n 0, 1) := by decide +kernel
theorem dX0_schoolPercent_6 : decode cX0_schoolPercent 6 = .ok (.iload_n 1, 1) := by decide +kernel
theorem dX0_schoolPercent_7 : decode cX0_schoolPercent 7 = .ok (.invokevirtual 96, 3) := by decide +kernel
theorem dX0_schoolPercent_10 : decode cX0_schoolPercent 10 = .ok (.aload_n 0, 1) := by decide +kernel
theorem dX0_schoolPercent_11 : decode cX0_schoolPercent 11 = .ok (.invokevirtual 100, 3) := by decide +kernel
theorem dX0_schoolPercent_14 : decode cX0_schoolPercent 14 = .ok (.invokestatic 104, 3) := by decide +kernel
theorem dX0_schoolPercent_17 : decode cX0_schoolPercent 17 = .ok (.ireturn, 1) := by decide +kernel
theorem dX0_leadingCoin_0 : decode cX0_leadingCoin 0 = .ok (.aload_n 0, 1) := by decide +kernel
theorem dX0_leadingCoin_1 : decode cX0_leadingCoin 1 = .ok (.aload_n 0, 1) := by decide +kernel
theorem dX0_leadingCoin_2 : decode cX0_leadingCoin 2 = .ok (.invokevirtual 69, 3) := by decide +kernel
theorem dX0_leadingCoin_5 : decode cX0_leadingCoin 5 = .ok (.aload_n 0, 1) := by decide +kernel
theorem dX0_leadingCoin_6 : decode cX0_leadingCoin 6 = .ok (.invokevirtual 73, 3) := by decide +kernel
theorem dX0_leadingCoin_9 : decode cX0_leadingCoin 9 = .ok (.invokevirtual 108, 3) := by decide +kernel
theorem dX0_leadingCoin_12 : decode cX0_leadingCoin 12 = .ok (.istore_n 1, 1) := by decide +kernel
theorem dX0_leadingCoin_13 : decode cX0_leadingCoin 13 = .ok (.iload_n 1, 1) := by decide +kernel
theorem dX0_leadingCoin_14 : decode cX0_leadingCoin 14 = .ok (.iconst (-1), 1) := by decide +kernel
theorem dX0_leadingCoin_15 : decode cX0_leadingCoin 15 = .ok (.if_icmp .ne 13, 3) := by decide +kernel
theorem dX0_leadingCoin_18 : decode cX0_leadingCoin 18 = .ok (.new 42, 3) := by decide +kernel
theorem dX0_leadingCoin_21 : decode cX0_leadingCoin 21 = .ok (.dup, 1) := by decide +kernel
theorem dX0_leadingCoin_22 : decode cX0_leadingCoin 22 = .ok (.ldc 112, 2) := by decide +kernel
theorem dX0_leadingCoin_24 : decode cX0_leadingCoin 24 = .ok (.invokespecial 46, 3) := by decide +kernel
theorem dX0_leadingCoin_27 : decode cX0_leadingCoin 27 = .ok (.athrow, 1) := by decide +kernel
theorem dX0_leadingCoin_28 : decode cX0_leadingCoin 28 = .ok (.iload_n 1, 1) := by decide +kernel
theorem dX0_leadingCoin_29 : decode cX0_leadingCoin 29 = .ok (.ireturn, 1) := by decide +kernel
theorem dX0_leadingSchool_0 : decode cX0_leadingSchool 0 = .ok (.iconst (-1), 1) := by decide +kernel
theorem dX0_leadingSchool_1 : decode cX0_leadingSchool 1 = .ok (.istore_n 1, 1) := by decide +kernel
theorem dX0_leadingSchool_2 : decode cX0_leadingSchool 2 = .ok (.lconst 0, 1) := by decide +kernel
theorem dX0_leadingSchool_3 : decode cX0_leadingSchool 3 = .ok (.lstore_n 2, 1) := by decide +kernel
theorem dX0_leadingSchool_4 : decode cX0_leadingSchool 4 = .ok (.iconst 0, 1) := by decide +kernel
theorem dX0_leadingSchool_5 : decode cX0_leadingSchool 5 = .ok (.istore 4, 2) := by decide +kernel
theorem dX0_leadingSchool_7 : decode cX0_leadingSchool 7 = .ok (.iload 4, 2) := by decide +kernel
theorem dX0_leadingSchool_9 : decode cX0_leadingSchool 9 = .ok (.aload_n 0, 1) := by decide +kernel
theorem dX0_leadingSchool_10 : decode cX0_leadingSchool 10 = .ok (.getfield 29, 3) := by decide +kernel
theorem dX0_leadingSchool_13 : decode cX0_leadingSchool 13 = .ok (.if_icmp .ge 30, 3) := by decide +kernel
theorem dX0_leadingSchool_16 : decode cX0_leadingSchool 16 = .ok (.aload_n 0, 1) := by decide +kernel
theorem dX0_leadingSchool_17 : decode cX0_leadingSchool 17 = .ok (.iload 4, 2) := by decide +kernel
theorem dX0_leadingSchool_19 : decode cX0_leadingSchool 19 = .ok (.invokevirtual 96, 3) := by decide +kernel
theorem dX0_leadingSchool_22 : decode cX0_leadingSchool 22 = .ok (.lstore 5, 2) := by decide +kernel
theorem dX0_leadingSchool_24 : decode cX0_leadingSchool 24 = .ok (.lload 5, 2) := by decide +kernel
theorem dX0_leadingSchool_26 : decode cX0_leadingSchool 26 = .ok (.lload_n 2, 1) := by decide +kernel
theorem dX0_leadingSchool_27 : decode cX0_leadingSchool 27 = .ok (.lcmp, 1) := by decide +kernel
theorem dX0_leadingSchool_28 : decode cX0_leadingSchool 28 = .ok (.ifCond .le 9, 3) := by decide +kernel
theorem dX0_leadingSchool_31 : decode cX0_leadingSchool 31 = .ok (.lload 5, 2) := by decide +kernel
theorem dX0_leadingSchool_33 : decode cX0_leadingSchool 33 = .ok (.lstore_n 2, 1) := by decide +kernel
theorem dX0_leadingSchool_34 : decode cX0_leadingSchool 34 = .ok (.iload 4, 2) := by decide +kernel
theorem dX0_leadingSchool_36 : decode cX0_leadingSchool 36 = .ok (.istore_n 1, 1) := by decide +kernel
theorem dX0_leadingSchool_37 : decode cX0_leadingSchool 37 = .ok (.iinc 4 1, 3) := by decide +kernel
theorem dX0_leadingSchool_40 : decode cX0_leadingSchool 40 = .ok (.goto (-33), 3) := by decide +kernel
theorem dX0_leadingSchool_43 : decode cX0_leadingSchool 43 = .ok (.iload_n 1, 1) := by decide +kernel
theorem dX0_leadingSchool_44 : decode cX0_leadingSchool 44 = .ok (.iconst (-1), 1) := by decide +kernel
theorem dX0_leadingSchool_45 : decode cX0_leadingSchool 45 = .ok (.if_icmp .ne 13, 3) := by decide +kernel
theorem dX0_leadingSchool_48 : decode cX0_leadingSchool 48 = .ok (.new 42, 3) := by decide +kernel
theorem dX0_leadingSchool_51 : decode cX0_leadingSchool 51 = .ok (.dup, 1) := by decide +kernel
theorem dX0_leadingSchool_52 : decode cX0_leadingSchool 52 = .ok (.ldc 112, 2) := by decide +kernel
theorem dX0_leadingSchool_54 : decode cX0_leadingSchool 54 = .ok (.invokespecial 46, 3) := by decide +kernel
theorem dX0_leadingSchool_57 : decode cX0_leadingSchool 57 = .ok (.athrow, 1) := by decide +kernel
theorem dX0_leadingSchool_58 : decode cX0_leadingSchool 58 = .ok (.iload_n 1, 1) := by decide +kernel
theorem dX0_leadingSchool_59 : decode cX0_leadingSchool 59 = .ok (.ireturn, 1) := by decide +kernel
theorem dX0_oddsAgainst_0 : decode cX0_oddsAgainst 0 = .ok (.aload_n 0, 1) := by decide +kernel
theorem dX0_oddsAgainst_1 : decode cX0_oddsAgainst 1 = .ok (.iload_n 1, 1) := by decide +kernel
theorem dX0_oddsAgainst_2 : decode cX0_oddsAgainst 2 = .ok (.invokevirtual 58, 3) := by decide +kernel
theorem dX0_oddsAgainst_5 : decode cX0_oddsAgainst 5 = .ok (.aload_n 0, 1) := by decide +kernel
theorem dX0_oddsAgainst_6 : decode cX0_oddsAgainst 6 = .ok (.iload_n 2, 1) := by decide +kernel
theorem dX0_oddsAgainst_7 : decode cX0_oddsAgainst 7 = .ok (.invokevirtual 58, 3) := by decide +kernel
theorem dX0_oddsAgainst_10 : decode cX0_oddsAgainst 10 = .ok (.aload_n 0, 1) := by decide +kernel
theorem dX0_oddsAgainst_11 : decode cX0_oddsAgainst 11 = .ok (.invokevirtual 69, 3) := by decide +kernel
theorem dX0_oddsAgainst_14 : decode cX0_oddsAgainst 14 = .ok (.istore_n 3, 1) := by decide +kernel
theorem dX0_oddsAgainst_15 : decode cX0_oddsAgainst 15 = .ok (.aload_n 0, 1) := by decide +kernel
theorem dX0_oddsAgainst_16 : decode cX0_oddsAgainst 16 = .ok (.invokevirtual 73, 3) := by decide +kernel
theorem dX0_oddsAgainst_19 : decode cX0_oddsAgainst 19 = .ok (.istore 4, 2) := by decide +kernel
theorem dX0_oddsAgainst_21 : decode cX0_oddsAgainst 21 = .ok (.aload_n 0, 1) := by decide +kernel
theorem dX0_oddsAgainst_22 : decode cX0_oddsAgainst 22 = .ok (.iload_n 2, 1) := by decide +kernel
theorem dX0_oddsAgainst_23 : decode cX0_oddsAgainst 23 = .ok (.iload_n 3, 1) := by decide +kernel
theorem dX0_oddsAgainst_24 : decode cX0_oddsAgainst 24 = .ok (.iload 4, 2) := by decide +kernel
theorem dX0_oddsAgainst_26 : decode cX0_oddsAgainst 26 = .ok (.invokevirtual 93, 3) := by decide +kernel
theorem dX0_oddsAgainst_29 : decode cX0_oddsAgainst 29 = .ok (.lstore 5, 2) := by decide +kernel
theorem dX0_oddsAgainst_31 : decode cX0_oddsAgainst 31 = .ok (.lload 5, 2) := by decide +kernel
theorem dX0_oddsAgainst_33 : decode cX0_oddsAgainst 33 = .ok (.lconst 0, 1) := by decide +kernel
theorem dX0_oddsAgainst_34 : decode cX0_oddsAgainst 34 = .ok (.lcmp, 1) := by decide +kernel
theorem dX0_oddsAgainst_35 : decode cX0_oddsAgainst 35 = .ok (.ifCond .ne 13, 3) := by decide +kernel
theorem dX0_oddsAgainst_38 : decode cX0_oddsAgainst 38 = .ok (.new 42, 3) := by decide +kernel
theorem dX0_oddsAgainst_41 : decode cX0_oddsAgainst 41 = .ok (.dup, 1) := by decide +kernel
theorem dX0_oddsAgainst_42 : decode cX0_oddsAgainst 42 = .ok (.ldc 114, 2) := by decide +kernel
theorem dX0_oddsAgainst_44 : decode cX0_oddsAgainst 44 = .ok (.invokespecial 46, 3) := by decide +kernel
theorem dX0_oddsAgainst_47 : decode cX0_oddsAgainst 47 = .ok (.athrow, 1) := by decide +kernel
theorem dX0_oddsAgainst_48 : decode cX0_oddsAgainst 48 = .ok (.aload_n 0, 1) := by decide +kernel
theorem dX0_oddsAgainst_49 : decode cX0_oddsAgainst 49 = .ok (.iload_n 1, 1) := by decide +kernel
theorem dX0_oddsAgainst_50 : decode cX0_oddsAgainst 50 = .ok (.iload_n 3, 1) := by decide +kernel
theorem dX0_oddsAgainst_51 : decode cX0_oddsAgainst 51 = .ok (.iload 4, 2) := by decide +kernel
theorem dX0_oddsAgainst_53 : decode cX0_oddsAgainst 53 = .ok (.invokevirtual 93, 3) := by decide +kernel
theorem dX0_oddsAgainst_56 : decode cX0_oddsAgainst 56 = .ok (.lload 5, 2) := by decide +kernel
theorem dX0_oddsAgainst_58 : decode cX0_oddsAgainst 58 = .ok (.ldiv, 1) := by decide +kernel
theorem dX0_oddsAgainst_59 : decode cX0_oddsAgainst 59 = .ok (.lreturn, 1) := by decide +kernel
theorem dX0_surpriseOf_0 : decode cX0_surpriseOf 0 = .ok (.aload_n 0, 1) := by decide +kernel
theorem dX0_surpriseOf_1 : decode cX0_surpriseOf 1 = .ok (.iload_n 1, 1) := by decide +kernel
theorem dX0_surpriseOf_2 : decode cX0_surpriseOf 2 = .ok (.invokevirtual 82, 3) := by decide +kernel
theorem dX0_surpriseOf_5 : decode cX0_surpriseOf 5 = .ok (.aload_n 0, 1) := by decide +kernel
theorem dX0_surpriseOf_6 : decode cX0_surpriseOf 6 = .ok (.iload_n 1, 1) := by decide +kernel
theorem dX0_surpriseOf_7 : decode cX0_surpriseOf 7 = .ok (.invokevirtual 116, 3) := by decide +kernel
theorem dX0_surpriseOf_10 : decode cX0_surpriseOf 10 = .ok (.ireturn, 1) := by decide +kernel
theorem dX0_allSurprise_0 : decode cX0_allSurprise 0 = .ok (.iconst 0, 1) := by decide +kernel
theorem dX0_allSurprise_1 : decode cX0_allSurprise 1 = .ok (.istore_n 1, 1) := by decide +kernel
theorem dX0_allSurprise_2 : decode cX0_allSurprise 2 = .ok (.iconst 0, 1) := by decide +kernel
theorem dX0_allSurprise_3 : decode cX0_allSurprise 3 = .ok (.istore_n 2, 1) := by decide +kernel
theorem dX0_allSurprise_4 : decode cX0_allSurprise 4 = .ok (.iload_n 2, 1) := by decide +kernel
theorem dX0_allSurprise_5 : decode cX0_allSurprise 5 = .ok (.aload_n 0, 1) := by decide +kernel
theorem dX0_allSurprise_6 : decode cX0_allSurprise 6 = .ok (.getfield 32, 3) := by decide +kernel
theorem dX0_allSurprise_9 : decode cX0_allSurprise 9 = .ok (.if_icmp .ge 17, 3) := by decide +kernel
theorem dX0_allSurprise_12 : decode cX0_allSurprise 12 = .ok (.iload_n 1, 1) := by decide +kernel
theorem dX0_allSurprise_13 : decode cX0_allSurprise 13 = .ok (.aload_n 0, 1) := by decide +kernel
theorem dX0_allSurprise_14 : decode cX0_allSurprise 14 = .ok (.iload_n 2, 1) := by decide +kernel
theorem dX0_allSurprise_15 : decode cX0_allSurprise 15 = .ok (.invokevirtual 116, 3) := by decide +kernel
theorem dX0_allSurprise_18 : decode cX0_allSurprise 18 = .ok (.iadd, 1) := by decide +kernel
theorem dX0_allSurprise_19 : decode cX0_allSurprise 19 = .ok (.istore_n 1, 1) := by decide +kernel
theorem dX0_allSurprise_20 : decode cX0_allSurprise 20 = .ok (.iinc 2 1, 3) := by decide +kernel
theorem dX0_allSurprise_23 : decode cX0_allSurprise 23 = .ok (.goto (-19), 3) := by decide +kernel
theorem dX0_allSurprise_26 : decode cX0_allSurprise 26 = .ok (.iload_n 1, 1) := by decide +kernel
theorem dX0_allSurprise_27 : decode cX0_allSurprise 27 = .ok (.ireturn, 1) := by decide +kernel
theorem dX0_greatestSurprise_0 : decode cX0_greatestSurprise 0 = .ok (.iconst (-1), 1) := by decide +kernel
theorem dX0_greatestSurprise_1 : decode cX0_greatestSurprise 1 = .ok (.istore_n 1, 1) := by decide +kernel
theorem dX0_greatestSurprise_2 : decode cX0_greatestSurprise 2 = .ok (.iconst (-1), 1) := by decide +kernel
theorem dX0_greatestSurprise_3 : decode cX0_greatestSurprise 3 = .ok (.istore_n 2, 1) := by decide +kernel
theorem dX0_greatestSurprise_4 : decode cX0_greatestSurprise 4 = .ok (.iconst 0, 1) := by decide +kernel
theorem dX0_greatestSurprise_5 : decode cX0_greatestSurprise 5 = .ok (.istore_n 3, 1) := by decide +kernel
theorem dX0_greatestSurprise_6 : decode cX0_greatestSurprise 6 = .ok (.iload_n 3, 1) := by decide +kernel
theorem dX0_greatestSurprise_7 : decode cX0_greatestSurprise 7 = .ok (.aload_n 0, 1) := by decide +kernel
theorem dX0_greatestSurprise_8 : decode cX0_greatestSurprise 8 = .ok (.getfield 32, 3) := by decide +kernel
theorem dX0_greatestSurprise_11 : decode cX0_greatestSurprise 11 = .ok (.if_icmp .ge 27, 3) := by decide +kernel
theorem dX0_greatestSurprise_14 : decode cX0_greatestSurprise 14 = .ok (.aload_n 0, 1) := by decide +kernel
theorem dX0_greatestSurprise_15 : decode cX0_greatestSurprise 15 = .ok (.iload_n 3, 1) := by decide +kernel
theorem dX0_greatestSurprise_16 : decode cX0_greatestSurprise 16 = .ok (.invokevirtual 116, 3) := by decide +kernel
theorem dX0_greatestSurprise_19 : decode cX0_greatestSurprise 19 = .ok (.istore 4, 2) := by decide +kernel
theorem dX0_greatestSurprise_21 : decode cX0_greatestSurprise 21 = .ok (.iload 4, 2) := by decide +kernel
theorem dX0_greatestSurprise_23 : decode cX0_greatestSurprise 23 = .ok (.iload_n 2, 1) := by decide +kernel
theorem dX0_greatestSurprise_24 : decode cX0_greatestSurprise 24 = .ok (.if_icmp .le 8, 3) := by decide +kernel
theorem dX0_greatestSurprise_27 : decode cX0_greatestSurprise 27 = .ok (.iload 4, 2) := by decide +kernel
theorem dX0_greatestSurprise_29 : decode cX0_greatestSurprise 29 = .ok (.istore_n 2, 1) := by decide +kernel
theorem dX0_greatestSurprise_30 : decode cX0_greatestSurprise 30 = .ok (.iload_n 3, 1) := by decide +kernel
theorem dX0_greatestSurprise_31 : decode cX0_greatestSurprise 31 = .ok (.istore_n 1, 1) := by decide +kernel
theorem dX0_greatestSurprise_32 : decode cX0_greatestSurprise 32 = .ok (.iinc 3 1, 3) := by decide +kernel
theorem dX0_greatestSurprise_35 : decode cX0_greatestSurprise 35 = .ok (.goto (-29), 3) := by decide +kernel
theorem dX0_greatestSurprise_38 : decode cX0_greatestSurprise 38 = .ok (.iload_n 1, 1) := by decide +kernel
theorem dX0_greatestSurprise_39 : decode cX0_greatestSurprise 39 = .ok (.ireturn, 1) := by decide +kernel
theorem dX0_headsPercent_0 : decode cX0_headsPercent 0 = .ok (.aload_n 0, 1) := by decide +kernel
theorem dX0_headsPercent_1 : decode cX0_headsPercent 1 = .ok (.invokevirtual 69, 3) := by decide +kernel
theorem dX0_headsPercent_4 : decode cX0_headsPercent 4 = .ok (.istore_n 1, 1) := by decide +kernel
theorem dX0_headsPercent_5 : decode cX0_headsPercent 5 = .ok (.aload_n 0, 1) := by decide +kernel
theorem dX0_headsPercent_6 : decode cX0_headsPercent 6 = .ok (.invokevirtual 73, 3) := by decide +kernel
theorem dX0_headsPercent_9 : decode cX0_headsPercent 9 = .ok (.istore_n 2, 1) := by decide +kernel
theorem dX0_headsPercent_10 : decode cX0_headsPercent 10 = .ok (.aload_n 0, 1) := by decide +kernel
theorem dX0_headsPercent_11 : decode cX0_headsPercent 11 = .ok (.iconst 1, 1) := by decide +kernel
theorem dX0_headsPercent_12 : decode cX0_headsPercent 12 = .ok (.iload_n 1, 1) := by decide +kernel
theorem dX0_headsPercent_13 : decode cX0_headsPercent 13 = .ok (.iload_n 2, 1) := by decide +kernel
theorem dX0_headsPercent_14 : decode cX0_headsPercent 14 = .ok (.invokevirtual 120, 3) := by decide +kernel
theorem dX0_headsPercent_17 : decode cX0_headsPercent 17 = .ok (.lstore_n 3, 1) := by decide +kernel
theorem dX0_headsPercent_18 : decode cX0_headsPercent 18 = .ok (.lload_n 3, 1) := by decide +kernel
theorem dX0_headsPercent_19 : decode cX0_headsPercent 19 = .ok (.lload_n 3, 1) := by decide +kernel
theorem dX0_headsPercent_20 : decode cX0_headsPercent 20 = .ok (.aload_n 0, 1) := by decide +kernel
theorem dX0_headsPercent_21 : decode cX0_headsPercent 21 = .ok (.iconst 0, 1) := by decide +kernel
theorem dX0_headsPercent_22 : decode cX0_headsPercent 22 = .ok (.iload_n 1, 1) := by decide +kernel
theorem dX0_headsPercent_23 : decode cX0_headsPercent 23 = .ok (.iload_n 2, 1) := by decide +kernel
theorem dX0_headsPercent_24 : decode cX0_headsPercent 24 = .ok (.invokevirtual 120, 3) := by decide +kernel
theorem dX0_headsPercent_27 : decode cX0_headsPercent 27 = .ok (.ladd, 1) := by decide +kernel
theorem dX0_headsPercent_28 : decode cX0_headsPercent 28 = .ok (.invokestatic 104, 3) := by decide +kernel
theorem dX0_headsPercent_31 : decode cX0_headsPercent 31 = .ok (.ireturn, 1) := by decide +kernel
theorem dX0_wouldSurprise_0 : decode cX0_wouldSurprise 0 = .ok (.aload_n 0, 1) := by decide +kernel
theorem dX0_wouldSurprise_1 : decode cX0_wouldSurprise 1 = .ok (.iload_n 1, 1) := by decide +kernel
theorem dX0_wouldSurprise_2 : decode cX0_wouldSurprise 2 = .ok (.invokevirtual 65, 3) := by decide +kernel
theorem dX0_wouldSurprise_5 : decode cX0_wouldSurprise 5 = .ok (.aload_n 0, 1) := by decide +kernel
theorem dX0_wouldSurprise_6 : decode cX0_wouldSurprise 6 = .ok (.iload_n 1, 1) := by decide +kernel
theorem dX0_wouldSurprise_7 : decode cX0_wouldSurprise 7 = .ok (.aload_n 0, 1) := by decide +kernel
theorem dX0_wouldSurprise_8 : decode cX0_wouldSurprise 8 = .ok (.invokevirtual 69, 3) := by decide +kernel
theorem dX0_wouldSurprise_11 : decode cX0_wouldSurprise 11 = .ok (.aload_n 0, 1) := by decide +kernel
theorem dX0_wouldSurprise_12 : decode cX0_wouldSurprise 12 = .ok (.invokevirtual 73, 3) := by decide +kernel
theorem dX0_wouldSurprise_15 : decode cX0_wouldSurprise 15 = .ok (.invokevirtual 76, 3) := by decide +kernel
theorem dX0_wouldSurprise_18 : decode cX0_wouldSurprise 18 = .ok (.ireturn, 1) := by decide +kernel
theorem dX0_leaderBehind_0 : decode cX0_leaderBehind 0 = .ok (.aload_n 0, 1) := by decide +kernel
theorem dX0_leaderBehind_1 : decode cX0_leaderBehind 1 = .ok (.iload_n 1, 1) := by decide +kernel
theorem dX0_leaderBehind_2 : decode cX0_leaderBehind 2 = .ok (.invokevirtual 65, 3) := by decide +kernel
theorem dX0_leaderBehind_5 : decode cX0_leaderBehind 5 = .ok (.iload_n 1, 1) := by decide +kernel
theorem dX0_leaderBehind_6 : decode cX0_leaderBehind 6 = .ok (.ifCond .eq 20, 3) := by decide +kernel
theorem dX0_leaderBehind_9 : decode cX0_leaderBehind 9 = .ok (.aload_n 0, 1) := by decide +kernel
theorem dX0_leaderBehind_10 : decode cX0_leaderBehind 10 = .ok (.aload_n 0, 1) := by decide +kernel
theorem dX0_leaderBehind_11 : decode cX0_leaderBehind 11 = .ok (.invokevirtual 69, 3) := by decide +kernel
theorem dX0_leaderBehind_14 : decode cX0_leaderBehind 14 = .ok (.iconst 1, 1) := by decide +kernel
theorem dX0_leaderBehind_15 : decode cX0_leaderBehind 15 = .ok (.iadd, 1) := by decide +kernel
theorem dX0_leaderBehind_16 : decode cX0_leaderBehind 16 = .ok (.aload_n 0, 1) := by decide +kernel
theorem dX0_leaderBehind_17 : decode cX0_leaderBehind 17 = .ok (.invokevirtual 73, 3) := by decide +kernel
theorem dX0_leaderBehind_20 : decode cX0_leaderBehind 20 = .ok (.invokevirtual 108, 3) := by decide +kernel
theorem dX0_leaderBehind_23 : decode cX0_leaderBehind 23 = .ok (.goto 17, 3) := by decide +kernel
theorem dX0_leaderBehind_26 : decode cX0_leaderBehind 26 = .ok (.aload_n 0, 1) := by decide +kernel
theorem dX0_leaderBehind_27 : decode cX0_leaderBehind 27 = .ok (.aload_n 0, 1) := by decide +kernel
theorem dX0_leaderBehind_28 : decode cX0_leaderBehind 28 = .ok (.invokevirtual 69, 3) := by decide +kernel
theorem dX0_leaderBehind_31 : decode cX0_leaderBehind 31 = .ok (.aload_n 0, 1) := by decide +kernel
theorem dX0_leaderBehind_32 : decode cX0_leaderBehind 32 = .ok (.invokevirtual 73, 3) := by decide +kernel
theorem dX0_leaderBehind_35 : decode cX0_leaderBehind 35 = .ok (.iconst 1, 1) := by decide +kernel
theorem dX0_leaderBehind_36 : decode cX0_leaderBehind 36 = .ok (.iadd, 1) := by decide +kernel
theorem dX0_leaderBehind_37 : decode cX0_leaderBehind 37 = .ok (.invokevirtual 108, 3) := by decide +kernel
theorem dX0_leaderBehind_40 : decode cX0_leaderBehind 40 = .ok (.ireturn, 1) := by decide +kernel
theorem dX0_tossesToLead_0 : decode cX0_tossesToLead 0 = .ok (.aload_n 0, 1) := by decide +kernel
theorem dX0_tossesToLead_1 : decode cX0_tossesToLead 1 = .ok (.iload_n 1, 1) := by decide +kernel
theorem dX0_tossesToLead_2 : decode cX0_tossesToLead 2 = .ok (.invokevirtual 58, 3) := by decide +kernel
theorem dX0_tossesToLead_5 : decode cX0_tossesToLead 5 = .ok (.aload_n 0, 1) := by decide +kernel
theorem dX0_tossesToLead_6 : decode cX0_tossesToLead 6 = .ok (.invokevirtual 69, 3) := by decide +kernel
theorem dX0_tossesToLead_9 : decode cX0_tossesToLead 9 = .ok (.istore_n 2, 1) := by decide +kernel
theorem dX0_tossesToLead_10 : decode cX0_tossesToLead 10 = .ok (.aload_n 0, 1) := by decide +kernel
theorem dX0_tossesToLead_11 : decode cX0_tossesToLead 11 = .ok (.invokevirtual 73, 3) := by decide +kernel
theorem dX0_tossesToLead_14 : decode cX0_tossesToLead 14 = .ok (.istore_n 3, 1) := by decide +kernel
theorem dX0_tossesToLead_15 : decode cX0_tossesToLead 15 = .ok (.iconst 0, 1) := by decide +kernel
theorem dX0_tossesToLead_16 : decode cX0_tossesToLead 16 = .ok (.istore 4, 2) := by decide +kernel
theorem dX0_tossesToLead_18 : decode cX0_tossesToLead 18 = .ok (.iload 4, 2) := by decide +kernel
theorem dX0_tossesToLead_20 : decode cX0_tossesToLead 20 = .ok (.bipush 12, 2) := by decide +kernel
theorem dX0_tossesToLead_22 : decode cX0_tossesToLead 22 = .ok (.aload_n 0, 1) := by decide +kernel
theorem dX0_tossesToLead_23 : decode cX0_tossesToLead 23 = .ok (.getfield 32, 3) := by decide +kernel
theorem dX0_tossesToLead_26 : decode cX0_tossesToLead 26 = .ok (.isub, 1) := by decide +kernel
theorem dX0_tossesToLead_27 : decode cX0_tossesToLead 27 = .ok (.if_icmp .gt 38, 3) := by decide +kernel
theorem dX0_tossesToLead_30 : decode cX0_tossesToLead 30 = .ok (.aload_n 0, 1) := by decide +kernel
theorem dX0_tossesToLead_31 : decode cX0_tossesToLead 31 = .ok (.iload_n 2, 1) := by decide +kernel
theorem dX0_tossesToLead_32 : decode cX0_tossesToLead 32 = .ok (.iload 4, 2) := by decide +kernel
theorem dX0_tossesToLead_34 : decode cX0_tossesToLead 34 = .ok (.iadd, 1) := by decide +kernel
theorem dX0_tossesToLead_35 : decode cX0_tossesToLead 35 = .ok (.iload_n 3, 1) := by decide +kernel
theorem dX0_tossesToLead_36 : decode cX0_tossesToLead 36 = .ok (.invokevirtual 108, 3) := by decide +kernel
theorem dX0_tossesToLead_39 : decode cX0_tossesToLead 39 = .ok (.iload_n 1, 1) := by decide +kernel
theorem dX0_tossesToLead_40 : decode cX0_tossesToLead 40 = .ok (.if_icmp .eq 16, 3) := by decide +kernel
theorem dX0_tossesToLead_43 : decode cX0_tossesToLead 43 = .ok (.aload_n 0, 1) := by decide +kernel
theorem dX0_tossesToLead_44 : decode cX0_tossesToLead 44 = .ok (.iload_n 2, 1) := by decide +kernel
theorem dX0_tossesToLead_45 : decode cX0_tossesToLead 45 = .ok (.iload_n 3, 1) := by decide +kernel
theorem dX0_tossesToLead_46 : decode cX0_tossesToLead 46 = .ok (.iload 4, 2) := by decide +kernel
theorem dX0_tossesToLead_48 : decode cX0_tossesToLead 48 = .ok (.iadd, 1) := by decide +kernel
theorem dX0_tossesToLead_49 : decode cX0_tossesToLead 49 = .ok (.invokevirtual 108, 3) := by decide +kernel
theorem dX0_tossesToLead_52 : decode cX0_tossesToLead 52 = .ok (.iload_n 1, 1) := by decide +kernel
theorem dX0_tossesToLead_53 : decode cX0_tossesToLead 53 = .ok (.if_icmp .ne 6, 3) := by decide +kernel
theorem dX0_tossesToLead_56 : decode cX0_tossesToLead 56 = .ok (.iload 4, 2) := by decide +kernel
theorem dX0_tossesToLead_58 : decode cX0_tossesToLead 58 = .ok (.ireturn, 1) := by decide +kernel
theorem dX0_tossesToLead_59 : decode cX0_tossesToLead 59 = .ok (.iinc 4 1, 3) := by decide +kernel
theorem dX0_tossesToLead_62 : decode cX0_tossesToLead 62 = .ok (.goto (-44), 3) := by decide +kernel
theorem dX0_tossesToLead_65 : decode cX0_tossesToLead 65 = .ok (.iconst (-1), 1) := by decide +kernel
theorem dX0_tossesToLead_66 : decode cX0_tossesToLead 66 = .ok (.ireturn, 1) := by decide +kernel
theorem dX0_decisiveTosses_0 : decode cX0_decisiveTosses 0 = .ok (.aload_n 0, 1) := by decide +kernel
theorem dX0_decisiveTosses_1 : decode cX0_decisiveTosses 1 = .ok (.invokevirtual 69, 3) := by decide +kernel
theorem dX0_decisiveTosses_4 : decode cX0_decisiveTosses 4 = .ok (.istore_n 1, 1) := by decide +kernel
theorem dX0_decisiveTosses_5 : decode cX0_decisiveTosses 5 = .ok (.aload_n 0, 1) := by decide +kernel
theorem dX0_decisiveTosses_6 : decode cX0_decisiveTosses 6 = .ok (.invokevirtual 73, 3) := by decide +kernel
theorem dX0_decisiveTosses_9 : decode cX0_decisiveTosses 9 = .ok (.istore_n 2, 1) := by decide +kernel
theorem dX0_decisiveTosses_10 : decode cX0_decisiveTosses 10 = .ok (.aload_n 0, 1) := by decide +kernel
theorem dX0_decisiveTosses_11 : decode cX0_decisiveTosses 11 = .ok (.iload_n 1, 1) := by decide +kernel
theorem dX0_decisiveTosses_12 : decode cX0_decisiveTosses 12 = .ok (.iload_n 2, 1) := by decide +kernel
theorem dX0_decisiveTosses_13 : decode cX0_decisiveTosses 13 = .ok (.invokevirtual 108, 3) := by decide +kernel
theorem dX0_decisiveTosses_16 : decode cX0_decisiveTosses 16 = .ok (.istore_n 3, 1) := by decide +kernel
theorem dX0_decisiveTosses_17 : decode cX0_decisiveTosses 17 = .ok (.iconst 0, 1) := by decide +kernel
theorem dX0_decisiveTosses_18 : decode cX0_decisiveTosses 18 = .ok (.istore 4, 2) := by decide +kernel
theorem dX0_decisiveTosses_20 : decode cX0_decisiveTosses 20 = .ok (.iconst 0, 1) := by decide +kernel
theorem dX0_decisiveTosses_21 : decode cX0_decisiveTosses 21 = .ok (.istore 5, 2) := by decide +kernel
theorem dX0_decisiveTosses_23 : decode cX0_decisiveTosses 23 = .ok (.iload 5, 2) := by decide +kernel
theorem dX0_decisiveTosses_25 : decode cX0_decisiveTosses 25 = .ok (.aload_n 0, 1) := by decide +kernel
theorem dX0_decisiveTosses_26 : decode cX0_decisiveTosses 26 = .ok (.getfield 32, 3) := by decide +kernel
theorem dX0_decisiveTosses_29 : decode cX0_decisiveTosses 29 = .ok (.if_icmp .ge 49, 3) := by decide +kernel
theorem dX0_decisiveTosses_32 : decode cX0_decisiveTosses 32 = .ok (.aload_n 0, 1) := by decide +kernel
theorem dX0_decisiveTosses_33 : decode cX0_decisiveTosses 33 = .ok (.getfield 21, 3) := by decide +kernel
theorem dX0_decisiveTosses_36 : decode cX0_decisiveTosses 36 = .ok (.iload 5, 2) := by decide +kernel
theorem dX0_decisiveTosses_38 : decode cX0_decisiveTosses 38 = .ok (.baload, 1) := by decide +kernel
theorem dX0_decisiveTosses_39 : decode cX0_decisiveTosses 39 = .ok (.ifCond .eq 14, 3) := by decide +kernel
theorem dX0_decisiveTosses_42 : decode cX0_decisiveTosses 42 = .ok (.aload_n 0, 1) := by decide +kernel
theorem dX0_decisiveTosses_43 : decode cX0_decisiveTosses 43 = .ok (.iload_n 1, 1) := by decide +kernel
theorem dX0_decisiveTosses_44 : decode cX0_decisiveTosses 44 = .ok (.iconst 1, 1) := by decide +kernel
theorem dX0_decisiveTosses_45 : decode cX0_decisiveTosses 45 = .ok (.isub, 1) := by decide +kernel
theorem dX0_decisiveTosses_46 : decode cX0_decisiveTosses 46 = .ok (.iload_n 2, 1) := by decide +kernel
theorem dX0_decisiveTosses_47 : decode cX0_decisiveTosses 47 = .ok (.invokevirtual 108, 3) := by decide +kernel
theorem dX0_decisiveTosses_50 : decode cX0_decisiveTosses 50 = .ok (.goto 11, 3) := by decide +kernel
theorem dX0_decisiveTosses_53 : decode cX0_decisiveTosses 53 = .ok (.aload_n 0, 1) := by decide +kernel
theorem dX0_decisiveTosses_54 : decode cX0_decisiveTosses 54 = .ok (.iload_n 1, 1) := by decide +kernel
theorem dX0_decisiveTosses_55 : decode cX0_decisiveTosses 55 = .ok (.iload_n 2, 1) := by decide +kernel
theorem dX0_decisiveTosses_56 : decode cX0_decisiveTosses 56 = .ok (.iconst 1, 1) := by decide +kernel
theorem dX0_decisiveTosses_57 : decode cX0_decisiveTosses 57 = .ok (.isub, 1) := by decide +kernel
theorem dX0_decisiveTosses_58 : decode cX0_decisiveTosses 58 = .ok (.invokevirtual 108, 3) := by decide +kernel
theorem dX0_decisiveTosses_61 : decode cX0_decisiveTosses 61 = .ok (.istore 6, 2) := by decide +kernel
theorem dX0_decisiveTosses_63 : decode cX0_decisiveTosses 63 = .ok (.iload 6, 2) := by decide +kernel
theorem dX0_decisiveTosses_65 : decode cX0_decisiveTosses 65 = .ok (.iload_n 3, 1) := by decide +kernel
theorem dX0_decisiveTosses_66 : decode cX0_decisiveTosses 66 = .ok (.if_icmp .eq 6, 3) := by decide +kernel
theorem dX0_decisiveTosses_69 : decode cX0_decisiveTosses 69 = .ok (.iinc 4 1, 3) := by decide +kernel
theorem dX0_decisiveTosses_72 : decode cX0_decisiveTosses 72 = .ok (.iinc 5 1, 3) := by decide +kernel
theorem dX0_decisiveTosses_75 : decode cX0_decisiveTosses 75 = .ok (.goto (-52), 3) := by decide +kernel
theorem dX0_decisiveTosses_78 : decode cX0_decisiveTosses 78 = .ok (.iload 4, 2) := by decide +kernel
theorem dX0_decisiveTosses_80 : decode cX0_decisiveTosses 80 = .ok (.ireturn, 1) := by decide +kernel
theorem dX0_meanTenths_0 : decode cX0_meanTenths 0 = .ok (.aload_n 0, 1) := by decide +kernel
theorem dX0_meanTenths_1 : decode cX0_meanTenths 1 = .ok (.invokevirtual 100, 3) := by decide +kernel
theorem dX0_meanTenths_4 : decode cX0_meanTenths 4 = .ok (.lstore_n 1, 1) := by decide +kernel
theorem dX0_meanTenths_5 : decode cX0_meanTenths 5 = .ok (.lload_n 1, 1) := by decide +kernel
theorem dX0_meanTenths_6 : decode cX0_meanTenths 6 = .ok (.lconst 0, 1) := by decide +kernel
theorem dX0_meanTenths_7 : decode cX0_meanTenths 7 = .ok (.lcmp, 1) := by decide +kernel
theorem dX0_meanTenths_8 : decode cX0_meanTenths 8 = .ok (.ifCond .ne 13, 3) := by decide +kernel
theorem dX0_meanTenths_11 : decode cX0_meanTenths 11 = .ok (.new 42, 3) := by decide +kernel
theorem dX0_meanTenths_14 : decode cX0_meanTenths 14 = .ok (.dup, 1) := by decide +kernel
theorem dX0_meanTenths_15 : decode cX0_meanTenths 15 = .ok (.ldc 112, 2) := by decide +kernel
theorem dX0_meanTenths_17 : decode cX0_meanTenths 17 = .ok (.invokespecial 46, 3) := by decide +kernel
theorem dX0_meanTenths_20 : decode cX0_meanTenths 20 = .ok (.athrow, 1) := by decide +kernel
theorem dX0_meanTenths_21 : decode cX0_meanTenths 21 = .ok (.aload_n 0, 1) := by decide +kernel
theorem dX0_meanTenths_22 : decode cX0_meanTenths 22 = .ok (.iconst 1, 1) := by decide +kernel
theorem dX0_meanTenths_23 : decode cX0_meanTenths 23 = .ok (.aload_n 0, 1) := by decide +kernel
theorem dX0_meanTenths_24 : decode cX0_meanTenths 24 = .ok (.invokevirtual 69, 3) := by decide +kernel
theorem dX0_meanTenths_27 : decode cX0_meanTenths 27 = .ok (.aload_n 0, 1) := by decide +kernel
theorem dX0_meanTenths_28 : decode cX0_meanTenths 28 = .ok (.invokevirtual 73, 3) := by decide +kernel
theorem dX0_meanTenths_31 : decode cX0_meanTenths 31 = .ok (.invokevirtual 120, 3) := by decide +kernel
theorem dX0_meanTenths_34 : decode cX0_meanTenths 34 = .ok (.l2d, 1) := by decide +kernel
theorem dX0_meanTenths_35 : decode cX0_meanTenths 35 = .ok (.lload_n 1, 1) := by decide +kernel
theorem dX0_meanTenths_36 : decode cX0_meanTenths 36 = .ok (.l2d, 1) := by decide +kernel
theorem dX0_meanTenths_37 : decode cX0_meanTenths 37 = .ok (.ddiv, 1) := by decide +kernel
theorem dX0_meanTenths_38 : decode cX0_meanTenths 38 = .ok (.dreturn, 1) := by decide +kernel
theorem dX0_digest_0 : decode cX0_digest 0 = .ok (.ldc2_w 124, 3) := by decide +kernel
theorem dX0_digest_3 : decode cX0_digest 3 = .ok (.lstore_n 1, 1) := by decide +kernel
theorem dX0_digest_4 : decode cX0_digest 4 = .ok (.lload_n 1, 1) := by decide +kernel
theorem dX0_digest_5 : decode cX0_digest 5 = .ok (.aload_n 0, 1) := by decide +kernel
theorem dX0_digest_6 : decode cX0_digest 6 = .ok (.invokevirtual 126, 3) := by decide +kernel
theorem dX0_digest_9 : decode cX0_digest 9 = .ok (.i2l, 1) := by decide +kernel
theorem dX0_digest_10 : decode cX0_digest 10 = .ok (.invokestatic 129, 3) := by decide +kernel
theorem dX0_digest_13 : decode cX0_digest 13 = .ok (.lstore_n 1, 1) := by decide +kernel
theorem dX0_digest_14 : decode cX0_digest 14 = .ok (.lload_n 1, 1) := by decide +kernel
theorem dX0_digest_15 : decode cX0_digest 15 = .ok (.aload_n 0, 1) := by decide +kernel
theorem dX0_digest_16 : decode cX0_digest 16 = .ok (.invokevirtual 133, 3) := by decide +kernel
theorem dX0_digest_19 : decode cX0_digest 19 = .ok (.i2l, 1) := by decide +kernel
theorem dX0_digest_20 : decode cX0_digest 20 = .ok (.invokestatic 129, 3) := by decide +kernel
theorem dX0_digest_23 : decode cX0_digest 23 = .ok (.lstore_n 1, 1) := by decide +kernel
theorem dX0_digest_24 : decode cX0_digest 24 = .ok (.lload_n 1, 1) := by decide +kernel
theorem dX0_digest_25 : decode cX0_digest 25 = .ok (.aload_n 0, 1) := by decide +kernel
theorem dX0_digest_26 : decode cX0_digest 26 = .ok (.invokevirtual 136, 3) := by decide +kernel
theorem dX0_digest_29 : decode cX0_digest 29 = .ok (.i2l, 1) := by decide +kernel
theorem dX0_digest_30 : decode cX0_digest 30 = .ok (.invokestatic 129, 3) := by decide +kernel
theorem dX0_digest_33 : decode cX0_digest 33 = .ok (.lstore_n 1, 1) := by decide +kernel
theorem dX0_digest_34 : decode cX0_digest 34 = .ok (.lload_n 1, 1) := by decide +kernel
theorem dX0_digest_35 : decode cX0_digest 35 = .ok (.aload_n 0, 1) := by decide +kernel
theorem dX0_digest_36 : decode cX0_digest 36 = .ok (.invokevirtual 139, 3) := by decide +kernel
theorem dX0_digest_39 : decode cX0_digest 39 = .ok (.i2l, 1) := by decide +kernel
theorem dX0_digest_40 : decode cX0_digest 40 = .ok (.invokestatic 129, 3) := by decide +kernel
theorem dX0_digest_43 : decode cX0_digest 43 = .ok (.lstore_n 1, 1) := by decide +kernel
theorem dX0_digest_44 : decode cX0_digest 44 = .ok (.lload_n 1, 1) := by decide +kernel
theorem dX0_digest_45 : decode cX0_digest 45 = .ok (.aload_n 0, 1) := by decide +kernel
theorem dX0_digest_46 : decode cX0_digest 46 = .ok (.invokevirtual 142, 3) := by decide +kernel
theorem dX0_digest_49 : decode cX0_digest 49 = .ok (.invokestatic 129, 3) := by decide +kernel
theorem dX0_digest_52 : decode cX0_digest 52 = .ok (.lstore_n 1, 1) := by decide +kernel
theorem dX0_digest_53 : decode cX0_digest 53 = .ok (.lload_n 1, 1) := by decide +kernel
theorem dX0_digest_54 : decode cX0_digest 54 = .ok (.aload_n 0, 1) := by decide +kernel
theorem dX0_digest_55 : decode cX0_digest 55 = .ok (.invokevirtual 145, 3) := by decide +kernel
theorem dX0_digest_58 : decode cX0_digest 58 = .ok (.i2l, 1) := by decide +kernel
theorem dX0_digest_59 : decode cX0_digest 59 = .ok (.invokestatic 129, 3) := by decide +kernel
theorem dX0_digest_62 : decode cX0_digest 62 = .ok (.lstore_n 1, 1) := by decide +kernel
theorem dX0_digest_63 : decode cX0_digest 63 = .ok (.lload_n 1, 1) := by decide +kernel
theorem dX0_digest_64 : decode cX0_digest 64 = .ok (.aload_n 0, 1) := by decide +kernel
theorem dX0_digest_65 : decode cX0_digest 65 = .ok (.invokevirtual 148, 3) := by decide +kernel
theorem dX0_digest_68 : decode cX0_digest 68 = .ok (.i2l, 1) := by decide +kernel
theorem dX0_digest_69 : decode cX0_digest 69 = .ok (.invokestatic 129, 3) := by decide +kernel
theorem dX0_digest_72 : decode cX0_digest 72 = .ok (.lstore_n 1, 1) := by decide +kernel
theorem dX0_digest_73 : decode cX0_digest 73 = .ok (.lload_n 1, 1) := by decide +kernel
theorem dX0_digest_74 : decode cX0_digest 74 = .ok (.aload_n 0, 1) := by decide +kernel
theorem dX0_digest_75 : decode cX0_digest 75 = .ok (.invokevirtual 151, 3) := by decide +kernel
theorem dX0_digest_78 : decode cX0_digest 78 = .ok (.i2l, 1) := by decide +kernel
theorem dX0_digest_79 : decode cX0_digest 79 = .ok (.invokestatic 129, 3) := by decide +kernel
theorem dX0_digest_82 : decode cX0_digest 82 = .ok (.lstore_n 1, 1) := by decide +kernel
theorem dX0_digest_83 : decode cX0_digest 83 = .ok (.aload_n 0, 1) := by decide +kernel
theorem dX0_digest_84 : decode cX0_digest 84 = .ok (.lload_n 1, 1) := by decide +kernel
theorem dX0_digest_85 : decode cX0_digest 85 = .ok (.invokevirtual 154, 3) := by decide +kernel
theorem dX0_digest_88 : decode cX0_digest 88 = .ok (.lstore_n 1, 1) := by decide +kernel
theorem dX0_digest_89 : decode cX0_digest 89 = .ok (.aload_n 0, 1) := by decide +kernel
theorem dX0_digest_90 : decode cX0_digest 90 = .ok (.lload_n 1, 1) := by decide +kernel
theorem dX0_digest_91 : decode cX0_digest 91 = .ok (.invokevirtual 158, 3) := by decide +kernel
theorem dX0_digest_94 : decode cX0_digest 94 = .ok (.lstore_n 1, 1) := by decide +kernel
theorem dX0_digest_95 : decode cX0_digest 95 = .ok (.aload_n 0, 1) := by decide +kernel
theorem dX0_digest_96 : decode cX0_digest 96 = .ok (.lload_n 1, 1) := by decide +kernel
theorem dX0_digest_97 : decode cX0_digest 97 = .ok (.invokevirtual 161, 3) := by decide +kernel
theorem dX0_digest_100 : decode cX0_digest 100 = .ok (.lreturn, 1) := by decide +kernel
theorem dX0_needCoin_0 : decode cX0_needCoin 0 = .ok (.iload_n 1, 1) := by decide +kernel
theorem dX0_needCoin_1 : decode cX0_needCoin 1 = .ok (.ifCond .lt 11, 3) := by decide +kernel
theorem dX0_needCoin_4 : decode cX0_needCoin 4 = .ok (.iload_n 1, 1) := by decide +kernel
theorem dX0_needCoin_5 : decode cX0_needCoin 5 = .ok (.aload_n 0, 1) := by decide +kernel
theorem dX0_needCoin_6 : decode cX0_needCoin 6 = .ok (.getfield 25, 3) := by decide +kernel
theorem dX0_needCoin_9 : decode cX0_needCoin 9 = .ok (.if_icmp .lt 13, 3) := by decide +kernel
theorem dX0_needCoin_12 : decode cX0_needCoin 12 = .ok (.new 164, 3) := by decide +kernel
theorem dX0_needCoin_15 : decode cX0_needCoin 15 = .ok (.dup, 1) := by decide +kernel
theorem dX0_needCoin_16 : decode cX0_needCoin 16 = .ok (.ldc 166, 2) := by decide +kernel
theorem dX0_needCoin_18 : decode cX0_needCoin 18 = .ok (.invokespecial 168, 3) := by decide +kernel
theorem dX0_needCoin_21 : decode cX0_needCoin 21 = .ok (.athrow, 1) := by decide +kernel
theorem dX0_needCoin_22 : decode cX0_needCoin 22 = .ok (.return_, 1) := by decide +kernel
theorem dX0_needSchool_0 : decode cX0_needSchool 0 = .ok (.iload_n 1, 1) := by decide +kernel
theorem dX0_needSchool_1 : decode cX0_needSchool 1 = .ok (.ifCond .lt 11, 3) := by decide +kernel
theorem dX0_needSchool_4 : decode cX0_needSchool 4 = .ok (.iload_n 1, 1) := by decide +kernel
theorem dX0_needSchool_5 : decode cX0_needSchool 5 = .ok (.aload_n 0, 1) := by decide +kernel
theorem dX0_needSchool_6 : decode cX0_needSchool 6 = .ok (.getfield 29, 3) := by decide +kernel
theorem dX0_needSchool_9 : decode cX0_needSchool 9 = .ok (.if_icmp .lt 13, 3) := by decide +kernel
theorem dX0_needSchool_12 : decode cX0_needSchool 12 = .ok (.new 164, 3) := by decide +kernel
theorem dX0_needSchool_15 : decode cX0_needSchool 15 = .ok (.dup, 1) := by decide +kernel
theorem dX0_needSchool_16 : decode cX0_needSchool 16 = .ok (.ldc 169, 2) := by decide +kernel
theorem dX0_needSchool_18 : decode cX0_needSchool 18 = .ok (.invokespecial 168, 3) := by decide +kernel
theorem dX0_needSchool_21 : decode cX0_needSchool 21 = .ok (.athrow, 1) := by decide +kernel
theorem dX0_needSchool_22 : decode cX0_needSchool 22 = .ok (.return_, 1) := by decide +kernel
theorem dX0_needToss_0 : decode cX0_needToss 0 = .ok (.iload_n 1, 1) := by decide +kernel
theorem dX0_needToss_1 : decode cX0_needToss 1 = .ok (.ifCond .lt 11, 3) := by decide +kernel
theorem dX0_needToss_4 : decode cX0_needToss 4 = .ok (.iload_n 1, 1) := by decide +kernel
theorem dX0_needToss_5 : decode cX0_needToss 5 = .ok (.aload_n 0, 1) := by decide +kernel
theorem dX0_needToss_6 : decode cX0_needToss 6 = .ok (.getfield 32, 3) := by decide +kernel
theorem dX0_needToss_9 : decode cX0_needToss 9 = .ok (.if_icmp .lt 13, 3) := by decide +kernel
theorem dX0_needToss_12 : decode cX0_needToss 12 = .ok (.new 164, 3) := by decide +kernel
theorem dX0_needToss_15 : decode cX0_needToss 15 = .ok (.dup, 1) := by decide +kernel
theorem dX0_needToss_16 : decode cX0_needToss 16 = .ok (.ldc 171, 2) := by decide +kernel
theorem dX0_needToss_18 : decode cX0_needToss 18 = .ok (.invokespecial 168, 3) := by decide +kernel
theorem dX0_needToss_21 : decode cX0_needToss 21 = .ok (.athrow, 1) := by decide +kernel
theorem dX0_needToss_22 : decode cX0_needToss 22 = .ok (.return_, 1) := by decide +kernel
theorem dX0_needNoTosses_0 : decode cX0_needNoTosses 0 = .ok (.aload_n 0, 1) := by decide +kernel
theorem dX0_needNoTosses_1 : decode cX0_needNoTosses 1 = .ok (.getfield 32, 3) := by decide +kernel
theorem dX0_needNoTosses_4 : decode cX0_needNoTosses 4 = .ok (.ifCond .le 13, 3) := by decide +kernel
theorem dX0_needNoTosses_7 : decode cX0_needNoTosses 7 = .ok (.new 42, 3) := by decide +kernel
theorem dX0_needNoTosses_10 : decode cX0_needNoTosses 10 = .ok (.dup, 1) := by decide +kernel
theorem dX0_needNoTosses_11 : decode cX0_needNoTosses 11 = .ok (.ldc 173, 2) := by decide +kernel
theorem dX0_needNoTosses_13 : decode cX0_needNoTosses 13 = .ok (.invokespecial 46, 3) := by decide +kernel
theorem dX0_needNoTosses_16 : decode cX0_needNoTosses 16 = .ok (.athrow, 1) := by decide +kernel
theorem dX0_needNoTosses_17 : decode cX0_needNoTosses 17 = .ok (.return_, 1) := by decide +kernel
theorem dX0_needPossible_0 : decode cX0_needPossible 0 = .ok (.aload_n 0, 1) := by decide +kernel
theorem dX0_needPossible_1 : decode cX0_needPossible 1 = .ok (.iload_n 1, 1) := by decide +kernel
theorem dX0_needPossible_2 : decode cX0_needPossible 2 = .ok (.aload_n 0, 1) := by decide +kernel
theorem dX0_needPossible_3 : decode cX0_needPossible 3 = .ok (.invokevirtual 69, 3) := by decide +kernel
theorem dX0_needPossible_6 : decode cX0_needPossible 6 = .ok (.aload_n 0, 1) := by decide +kernel
theorem dX0_needPossible_7 : decode cX0_needPossible 7 = .ok (.invokevirtual 73, 3) := by decide +kernel
theorem dX0_needPossible_10 : decode cX0_needPossible 10 = .ok (.invokevirtual 120, 3) := by decide +kernel
theorem dX0_needPossible_13 : decode cX0_needPossible 13 = .ok (.lconst 0, 1) := by decide +kernel
theorem dX0_needPossible_14 : decode cX0_needPossible 14 = .ok (.lcmp, 1) := by decide +kernel
theorem dX0_needPossible_15 : decode cX0_needPossible 15 = .ok (.ifCond .ne 13, 3) := by decide +kernel
theorem dX0_needPossible_18 : decode cX0_needPossible 18 = .ok (.new 42, 3) := by decide +kernel
theorem dX0_needPossible_21 : decode cX0_needPossible 21 = .ok (.dup, 1) := by decide +kernel
theorem dX0_needPossible_22 : decode cX0_needPossible 22 = .ok (.ldc 175, 2) := by decide +kernel
theorem dX0_needPossible_24 : decode cX0_needPossible 24 = .ok (.invokespecial 46, 3) := by decide +kernel
theorem dX0_needPossible_27 : decode cX0_needPossible 27 = .ok (.athrow, 1) := by decide +kernel
theorem dX0_needPossible_28 : decode cX0_needPossible 28 = .ok (.return_, 1) := by decide +kernel
theorem dX0_headsAhead_0 : decode cX0_headsAhead 0 = .ok (.iconst 0, 1) := by decide +kernel
theorem dX0_headsAhead_1 : decode cX0_headsAhead 1 = .ok (.istore_n 2, 1) := by decide +kernel
theorem dX0_headsAhead_2 : decode cX0_headsAhead 2 = .ok (.iconst 0, 1) := by decide +kernel
theorem dX0_headsAhead_3 : decode cX0_headsAhead 3 = .ok (.istore_n 3, 1) := by decide +kernel
theorem dX0_headsAhead_4 : decode cX0_headsAhead 4 = .ok (.iload_n 3, 1) := by decide +kernel
theorem dX0_headsAhead_5 : decode cX0_headsAhead 5 = .ok (.iload_n 1, 1) := by decide +kernel
theorem dX0_headsAhead_6 : decode cX0_headsAhead 6 = .ok (.if_icmp .ge 21, 3) := by decide +kernel
theorem dX0_headsAhead_9 : decode cX0_headsAhead 9 = .ok (.aload_n 0, 1) := by decide +kernel
theorem dX0_headsAhead_10 : decode cX0_headsAhead 10 = .ok (.getfield 21, 3) := by decide +kernel
theorem dX0_headsAhead_13 : decode cX0_headsAhead 13 = .ok (.iload_n 3, 1) := by decide +kernel
theorem dX0_headsAhead_14 : decode cX0_headsAhead 14 = .ok (.baload, 1) := by decide +kernel
theorem dX0_headsAhead_15 : decode cX0_headsAhead 15 = .ok (.ifCond .eq 6, 3) := by decide +kernel
theorem dX0_headsAhead_18 : decode cX0_headsAhead 18 = .ok (.iinc 2 1, 3) := by decide +kernel
theorem dX0_headsAhead_21 : decode cX0_headsAhead 21 = .ok (.iinc 3 1, 3) := by decide +kernel
theorem dX0_headsAhead_24 : decode cX0_headsAhead 24 = .ok (.goto (-20), 3) := by decide +kernel
theorem dX0_headsAhead_27 : decode cX0_headsAhead 27 = .ok (.iload_n 2, 1) := by decide +kernel
theorem dX0_headsAhead_28 : decode cX0_headsAhead 28 = .ok (.ireturn, 1) := by decide +kernel
theorem dX0_headsNow_0 : decode cX0_headsNow 0 = .ok (.aload_n 0, 1) := by decide +kernel
theorem dX0_headsNow_1 : decode cX0_headsNow 1 = .ok (.aload_n 0, 1) := by decide +kernel
theorem dX0_headsNow_2 : decode cX0_headsNow 2 = .ok (.getfield 32, 3) := by decide +kernel
theorem dX0_headsNow_5 : decode cX0_headsNow 5 = .ok (.invokevirtual 177, 3) := by decide +kernel
theorem dX0_headsNow_8 : decode cX0_headsNow 8 = .ok (.ireturn, 1) := by decide +kernel
theorem dX0_tailsNow_0 : decode cX0_tailsNow 0 = .ok (.aload_n 0, 1) := by decide +kernel
theorem dX0_tailsNow_1 : decode cX0_tailsNow 1 = .ok (.getfield 32, 3) := by decide +kernel
theorem dX0_tailsNow_4 : decode cX0_tailsNow 4 = .ok (.aload_n 0, 1) := by decide +kernel
theorem dX0_tailsNow_5 : decode cX0_tailsNow 5 = .ok (.aload_n 0, 1) := by decide +kernel
theorem dX0_tailsNow_6 : decode cX0_tailsNow 6 = .ok (.getfield 32, 3) := by decide +kernel
theorem dX0_tailsNow_9 : decode cX0_tailsNow 9 = .ok (.invokevirtual 177, 3) := by decide +kernel
theorem dX0_tailsNow_12 : decode cX0_tailsNow 12 = .ok (.isub, 1) := by decide +kernel
theorem dX0_tailsNow_13 : decode cX0_tailsNow 13 = .ok (.ireturn, 1) := by decide +kernel
theorem dX0_startWeight_0 : decode cX0_startWeight 0 = .ok (.aload_n 0, 1) := by decide +kernel
theorem dX0_startWeight_1 : decode cX0_startWeight 1 = .ok (.getfield 13, 3) := by decide +kernel
theorem dX0_startWeight_4 : decode cX0_startWeight 4 = .ok (.iload_n 1, 1) := by decide +kernel
theorem dX0_startWeight_5 : decode cX0_startWeight 5 = .ok (.iaload, 1) := by decide +kernel
theorem dX0_startWeight_6 : decode cX0_startWeight 6 = .ok (.i2l, 1) := by decide +kernel
theorem dX0_startWeight_7 : decode cX0_startWeight 7 = .ok (.aload_n 0, 1) := by decide +kernel
theorem dX0_startWeight_8 : decode cX0_startWeight 8 = .ok (.getfield 18, 3) := by decide +kernel
theorem dX0_startWeight_11 : decode cX0_startWeight 11 = .ok (.iload_n 1, 1) := by decide +kernel
theorem dX0_startWeight_12 : decode cX0_startWeight 12 = .ok (.aaload, 1) := by decide +kernel
theorem dX0_startWeight_13 : decode cX0_startWeight 13 = .ok (.iload_n 2, 1) := by decide +kernel
theorem dX0_startWeight_14 : decode cX0_startWeight 14 = .ok (.iaload, 1) := by decide +kernel
theorem dX0_startWeight_15 : decode cX0_startWeight 15 = .ok (.i2l, 1) := by decide +kernel
theorem dX0_startWeight_16 : decode cX0_startWeight 16 = .ok (.lmul, 1) := by decide +kernel
theorem dX0_startWeight_17 : decode cX0_startWeight 17 = .ok (.lreturn, 1) := by decide +kernel
theorem dX0_likelihood_0 : decode cX0_likelihood 0 = .ok (.aload_n 0, 1) := by decide +kernel
theorem dX0_likelihood_1 : decode cX0_likelihood 1 = .ok (.getfield 9, 3) := by decide +kernel
theorem dX0_likelihood_4 : decode cX0_likelihood 4 = .ok (.iload_n 1, 1) := by decide +kernel
theorem dX0_likelihood_5 : decode cX0_likelihood 5 = .ok (.iaload, 1) := by decide +kernel
theorem dX0_likelihood_6 : decode cX0_likelihood 6 = .ok (.istore 4, 2) := by decide +kernel
theorem dX0_likelihood_8 : decode cX0_likelihood 8 = .ok (.lconst 1, 1) := by decide +kernel
theorem dX0_likelihood_9 : decode cX0_likelihood 9 = .ok (.lstore 5, 2) := by decide +kernel
theorem dX0_likelihood_11 : decode cX0_likelihood 11 = .ok (.iconst 0, 1) := by decide +kernel
theorem dX0_likelihood_12 : decode cX0_likelihood 12 = .ok (.istore 7, 2) := by decide +kernel
theorem dX0_likelihood_14 : decode cX0_likelihood 14 = .ok (.iload 7, 2) := by decide +kernel
theorem dX0_likelihood_16 : decode cX0_likelihood 16 = .ok (.iload_n 2, 1) := by decide +kernel
theorem dX0_likelihood_17 : decode cX0_likelihood 17 = .ok (.if_icmp .ge 17, 3) := by decide +kernel
theorem dX0_likelihood_20 : decode cX0_likelihood 20 = .ok (.lload 5, 2) := by decide +kernel
theorem dX0_likelihood_22 : decode cX0_likelihood 22 = .ok (.iload 4, 2) := by decide +kernel
theorem dX0_likelihood_24 : decode cX0_likelihood 24 = .ok (.i2l, 1) := by decide +kernel
theorem dX0_likelihood_25 : decode cX0_likelihood 25 = .ok (.lmul, 1) := by decide +kernel
theorem dX0_likelihood_26 : decode cX0_likelihood 26 = .ok (.lstore 5, 2) := by decide +kernel
theorem dX0_likelihood_28 : decode cX0_likelihood 28 = .ok (.iinc 7 1, 3) := by decide +kernel
theorem dX0_likelihood_31 : decode cX0_likelihood 31 = .ok (.goto (-17), 3) := by decide +kernel
theorem dX0_likelihood_34 : decode cX0_likelihood 34 = .ok (.iconst 0, 1) := by decide +kernel
theorem dX0_likelihood_35 : decode cX0_likelihood 35 = .ok (.istore 7, 2) := by decide +kernel
theorem dX0_likelihood_37 : decode cX0_likelihood 37 = .ok (.iload 7, 2) := by decide +kernel
theorem dX0_likelihood_39 : decode cX0_likelihood 39 = .ok (.iload_n 3, 1) := by decide +kernel
theorem dX0_likelihood_40 : decode cX0_likelihood 40 = .ok (.if_icmp .ge 20, 3) := by decide +kernel
theorem dX0_likelihood_43 : decode cX0_likelihood 43 = .ok (.lload 5, 2) := by decide +kernel
theorem dX0_likelihood_45 : decode cX0_likelihood 45 = .ok (.bipush 10, 2) := by decide +kernel
theorem dX0_likelihood_47 : decode cX0_likelihood 47 = .ok (.iload 4, 2) := by decide +kernel
theorem dX0_likelihood_49 : decode cX0_likelihood 49 = .ok (.isub, 1) := by decide +kernel
theorem dX0_likelihood_50 : decode cX0_likelihood 50 = .ok (.i2l, 1) := by decide +kernel
theorem dX0_likelihood_51 : decode cX0_likelihood 51 = .ok (.lmul, 1) := by decide +kernel
theorem dX0_likelihood_52 : decode cX0_likelihood 52 = .ok (.lstore 5, 2) := by decide +kernel
theorem dX0_likelihood_54 : decode cX0_likelihood 54 = .ok (.iinc 7 1, 3) := by decide +kernel
theorem dX0_likelihood_57 : decode cX0_likelihood 57 = .ok (.goto (-20), 3) := by decide +kernel
theorem dX0_likelihood_60 : decode cX0_likelihood 60 = .ok (.lload 5, 2) := by decide +kernel
theorem dX0_likelihood_62 : decode cX0_likelihood 62 = .ok (.lreturn, 1) := by decide +kernel
theorem dX0_coinWeightAt_0 : decode cX0_coinWeightAt 0 = .ok (.lconst 0, 1) := by decide +kernel
theorem dX0_coinWeightAt_1 : decode cX0_coinWeightAt 1 = .ok (.lstore 4, 2) := by decide +kernel
theorem dX0_coinWeightAt_3 : decode cX0_coinWeightAt 3 = .ok (.iconst 0, 1) := by decide +kernel
theorem dX0_coinWeightAt_4 : decode cX0_coinWeightAt 4 = .ok (.istore 6, 2) := by decide +kernel
theorem dX0_coinWeightAt_6 : decode cX0_coinWeightAt 6 = .ok (.iload 6, 2) := by decide +kernel
theorem dX0_coinWeightAt_8 : decode cX0_coinWeightAt 8 = .ok (.aload_n 0, 1) := by decide +kernel
theorem dX0_coinWeightAt_9 : decode cX0_coinWeightAt 9 = .ok (.getfield 29, 3) := by decide +kernel
theorem dX0_coinWeightAt_12 : decode cX0_coinWeightAt 12 = .ok (.if_icmp .ge 21, 3) := by decide +kernel
theorem dX0_coinWeightAt_15 : decode cX0_coinWeightAt 15 = .ok (.lload 4, 2) := by decide +kernel
theorem dX0_coinWeightAt_17 : decode cX0_coinWeightAt 17 = .ok (.aload_n 0, 1) := by decide +kernel
theorem dX0_coinWeightAt_18 : decode cX0_coinWeightAt 18 = .ok (.iload 6, 2) := by decide +kernel
theorem dX0_coinWeightAt_20 : decode cX0_coinWeightAt 20 = .ok (.iload_n 1, 1) := by decide +kernel
theorem dX0_coinWeightAt_21 : decode cX0_coinWeightAt 21 = .ok (.invokevirtual 85, 3) := by decide +kernel
theorem dX0_coinWeightAt_24 : decode cX0_coinWeightAt 24 = .ok (.ladd, 1) := by decide +kernel
theorem dX0_coinWeightAt_25 : decode cX0_coinWeightAt 25 = .ok (.lstore 4, 2) := by decide +kernel
theorem dX0_coinWeightAt_27 : decode cX0_coinWeightAt 27 = .ok (.iinc 6 1, 3) := by decide +kernel
theorem dX0_coinWeightAt_30 : decode cX0_coinWeightAt 30 = .ok (.goto (-24), 3) := by decide +kernel
theorem dX0_coinWeightAt_33 : decode cX0_coinWeightAt 33 = .ok (.lload 4, 2) := by decide +kernel
theorem dX0_coinWeightAt_35 : decode cX0_coinWeightAt 35 = .ok (.aload_n 0, 1) := by decide +kernel
theorem dX0_coinWeightAt_36 : decode cX0_coinWeightAt 36 = .ok (.iload_n 1, 1) := by decide +kernel
theorem dX0_coinWeightAt_37 : decode cX0_coinWeightAt 37 = .ok (.iload_n 2, 1) := by decide +kernel
theorem dX0_coinWeightAt_38 : decode cX0_coinWeightAt 38 = .ok (.iload_n 3, 1) := by decide +kernel
theorem dX0_coinWeightAt_39 : decode cX0_coinWeightAt 39 = .ok (.invokevirtual 89, 3) := by decide +kernel
theorem dX0_coinWeightAt_42 : decode cX0_coinWeightAt 42 = .ok (.lmul, 1) := by decide +kernel
theorem dX0_coinWeightAt_43 : decode cX0_coinWeightAt 43 = .ok (.lreturn, 1) := by decide +kernel
theorem dX0_schoolWeightNow_0 : decode cX0_schoolWeightNow 0 = .ok (.aload_n 0, 1) := by decide +kernel
theorem dX0_schoolWeightNow_1 : decode cX0_schoolWeightNow 1 = .ok (.invokevirtual 69, 3) := by decide +kernel
theorem dX0_schoolWeightNow_4 : decode cX0_schoolWeightNow 4 = .ok (.istore_n 2, 1) := by decide +kernel
theorem dX0_schoolWeightNow_5 : decode cX0_schoolWeightNow 5 = .ok (.aload_n 0, 1) := by decide +kernel
theorem dX0_schoolWeightNow_6 : decode cX0_schoolWeightNow 6 = .ok (.invokevirtual 73, 3) := by decide +kernel
theorem dX0_schoolWeightNow_9 : decode cX0_schoolWeightNow 9 = .ok (.istore_n 3, 1) := by decide +kernel
theorem dX0_schoolWeightNow_10 : decode cX0_schoolWeightNow 10 = .ok (.lconst 0, 1) := by decide +kernel
theorem dX0_schoolWeightNow_11 : decode cX0_schoolWeightNow 11 = .ok (.lstore 4, 2) := by decide +kernel
theorem dX0_schoolWeightNow_13 : decode cX0_schoolWeightNow 13 = .ok (.iconst 0, 1) := by decide +kernel
theorem dX0_schoolWeightNow_14 : decode cX0_schoolWeightNow 14 = .ok (.istore 6, 2) := by decide +kernel
theorem dX0_schoolWeightNow_16 : decode cX0_schoolWeightNow 16 = .ok (.iload 6, 2) := by decide +kernel
theorem dX0_schoolWeightNow_18 : decode cX0_schoolWeightNow 18 = .ok (.aload_n 0, 1) := by decide +kernel
theorem dX0_schoolWeightNow_19 : decode cX0_schoolWeightNow 19 = .ok (.getfield 25, 3) := by decide +kernel
theorem dX0_schoolWeightNow_22 : decode cX0_schoolWeightNow 22 = .ok (.if_icmp .ge 30, 3) := by decide +kernel
theorem dX0_schoolWeightNow_25 : decode cX0_schoolWeightNow 25 = .ok (.lload 4, 2) := by decide +kernel
theorem dX0_schoolWeightNow_27 : decode cX0_schoolWeightNow 27 = .ok (.aload_n 0, 1) := by decide +kernel
theorem dX0_schoolWeightNow_28 : decode cX0_schoolWeightNow 28 = .ok (.iload_n 1, 1) := by decide +kernel
theorem dX0_schoolWeightNow_29 : decode cX0_schoolWeightNow 29 = .ok (.iload 6, 2) := by decide +kernel
theorem dX0_schoolWeightNow_31 : decode cX0_schoolWeightNow 31 = .ok (.invokevirtual 85, 3) := by decide +kernel
theorem dX0_schoolWeightNow_34 : decode cX0_schoolWeightNow 34 = .ok (.aload_n 0, 1) := by decide +kernel
theorem dX0_schoolWeightNow_35 : decode cX0_schoolWeightNow 35 = .ok (.iload 6, 2) := by decide +kernel
theorem dX0_schoolWeightNow_37 : decode cX0_schoolWeightNow 37 = .ok (.iload_n 2, 1) := by decide +kernel
theorem dX0_schoolWeightNow_38 : decode cX0_schoolWeightNow 38 = .ok (.iload_n 3, 1) := by decide +kernel
theorem dX0_schoolWeightNow_39 : decode cX0_schoolWeightNow 39 = .ok (.invokevirtual 89, 3) := by decide +kernel
theorem dX0_schoolWeightNow_42 : decode cX0_schoolWeightNow 42 = .ok (.lmul, 1) := by decide +kernel
theorem dX0_schoolWeightNow_43 : decode cX0_schoolWeightNow 43 = .ok (.ladd, 1) := by decide +kernel
theorem dX0_schoolWeightNow_44 : decode cX0_schoolWeightNow 44 = .ok (.lstore 4, 2) := by decide +kernel
theorem dX0_schoolWeightNow_46 : decode cX0_schoolWeightNow 46 = .ok (.iinc 6 1, 3) := by decide +kernel
theorem dX0_schoolWeightNow_49 : decode cX0_schoolWeightNow 49 = .ok (.goto (-33), 3) := by decide +kernel
theorem dX0_schoolWeightNow_52 : decode cX0_schoolWeightNow 52 = .ok (.lload 4, 2) := by decide +kernel
theorem dX0_schoolWeightNow_54 : decode cX0_schoolWeightNow 54 = .ok (.lreturn, 1) := by decide +kernel
theorem dX0_wholeAt_0 : decode cX0_wholeAt 0 = .ok (.lconst 0, 1) := by decide +kernel
theorem dX0_wholeAt_1 : decode cX0_wholeAt 1 = .ok (.lstore_n 3, 1) := by decide +kernel
theorem dX0_wholeAt_2 : decode cX0_wholeAt 2 = .ok (.iconst 0, 1) := by decide +kernel
theorem dX0_wholeAt_3 : decode cX0_wholeAt 3 = .ok (.istore 5, 2) := by decide +kernel
theorem dX0_wholeAt_5 : decode cX0_wholeAt 5 = .ok (.iload 5, 2) := by decide +kernel
theorem dX0_wholeAt_7 : decode cX0_wholeAt 7 = .ok (.aload_n 0, 1) := by decide +kernel
theorem dX0_wholeAt_8 : decode cX0_wholeAt 8 = .ok (.getfield 25, 3) := by decide +kernel
theorem dX0_wholeAt_11 : decode cX0_wholeAt 11 = .ok (.if_icmp .ge 20, 3) := by decide +kernel
theorem dX0_wholeAt_14 : decode cX0_wholeAt 14 = .ok (.lload_n 3, 1) := by decide +kernel
theorem dX0_wholeAt_15 : decode cX0_wholeAt 15 = .ok (.aload_n 0, 1) := by decide +kernel
theorem dX0_wholeAt_16 : decode cX0_wholeAt 16 = .ok (.iload 5, 2) := by decide +kernel
theorem dX0_wholeAt_18 : decode cX0_wholeAt 18 = .ok (.iload_n 1, 1) := by decide +kernel
theorem dX0_wholeAt_19 : decode cX0_wholeAt 19 = .ok (.iload_n 2, 1) := by decide +kernel
theorem dX0_wholeAt_20 : decode cX0_wholeAt 20 = .ok (.invokevirtual 93, 3) := by decide +kernel
theorem dX0_wholeAt_23 : decode cX0_wholeAt 23 = .ok (.ladd, 1) := by decide +kernel
theorem dX0_wholeAt_24 : decode cX0_wholeAt 24 = .ok (.lstore_n 3, 1) := by decide +kernel
theorem dX0_wholeAt_25 : decode cX0_wholeAt 25 = .ok (.iinc 5 1, 3) := by decide +kernel
theorem dX0_wholeAt_28 : decode cX0_wholeAt 28 = .ok (.goto (-23), 3) := by decide +kernel
theorem dX0_wholeAt_31 : decode cX0_wholeAt 31 = .ok (.lload_n 3, 1) := by decide +kernel
theorem dX0_wholeAt_32 : decode cX0_wholeAt 32 = .ok (.lreturn, 1) := by decide +kernel
theorem dX0_wholeNow_0 : decode cX0_wholeNow 0 = .ok (.aload_n 0, 1) := by decide +kernel
theorem dX0_wholeNow_1 : decode cX0_wholeNow 1 = .ok (.aload_n 0, 1) := by decide +kernel
theorem dX0_wholeNow_2 : decode cX0_wholeNow 2 = .ok (.invokevirtual 69, 3) := by decide +kernel
theorem dX0_wholeNow_5 : decode cX0_wholeNow 5 = .ok (.aload_n 0, 1) := by decide +kernel
theorem dX0_wholeNow_6 : decode cX0_wholeNow 6 = .ok (.invokevirtual 73, 3) := by decide +kernel
theorem dX0_wholeNow_9 : decode cX0_wholeNow 9 = .ok (.invokevirtual 180, 3) := by decide +kernel
theorem dX0_wholeNow_12 : decode cX0_wholeNow 12 = .ok (.lreturn, 1) := by decide +kernel
theorem dX0_leaderAt_0 : decode cX0_leaderAt 0 = .ok (.iconst (-1), 1) := by decide +kernel
theorem dX0_leaderAt_1 : decode cX0_leaderAt 1 = .ok (.istore_n 3, 1) := by decide +kernel
theorem dX0_leaderAt_2 : decode cX0_leaderAt 2 = .ok (.lconst 0, 1) := by decide +kernel
theorem dX0_leaderAt_3 : decode cX0_leaderAt 3 = .ok (.lstore 4, 2) := by decide +kernel
theorem dX0_leaderAt_5 : decode cX0_leaderAt 5 = .ok (.iconst 0, 1) := by decide +kernel
theorem dX0_leaderAt_6 : decode cX0_leaderAt 6 = .ok (.istore 6, 2) := by decide +kernel
theorem dX0_leaderAt_8 : decode cX0_leaderAt 8 = .ok (.iload 6, 2) := by decide +kernel
theorem dX0_leaderAt_10 : decode cX0_leaderAt 10 = .ok (.aload_n 0, 1) := by decide +kernel
theorem dX0_leaderAt_11 : decode cX0_leaderAt 11 = .ok (.getfield 25, 3) := by decide +kernel
theorem dX0_leaderAt_14 : decode cX0_leaderAt 14 = .ok (.if_icmp .ge 34, 3) := by decide +kernel
theorem dX0_leaderAt_17 : decode cX0_leaderAt 17 = .ok (.aload_n 0, 1) := by decide +kernel
theorem dX0_leaderAt_18 : decode cX0_leaderAt 18 = .ok (.iload 6, 2) := by decide +kernel
theorem dX0_leaderAt_20 : decode cX0_leaderAt 20 = .ok (.iload_n 1, 1) := by decide +kernel
theorem dX0_leaderAt_21 : decode cX0_leaderAt 21 = .ok (.iload_n 2, 1) := by decide +kernel
theorem dX0_leaderAt_22 : decode cX0_leaderAt 22 = .ok (.invokevirtual 93, 3) := by decide +kernel
theorem dX0_leaderAt_25 : decode cX0_leaderAt 25 = .ok (.lstore 7, 2) := by decide +kernel
theorem dX0_leaderAt_27 : decode cX0_leaderAt 27 = .ok (.lload 7, 2) := by decide +kernel
theorem dX0_leaderAt_29 : decode cX0_leaderAt 29 = .ok (.lload 4, 2) := by decide +kernel
theorem dX0_leaderAt_31 : decode cX0_leaderAt 31 = .ok (.lcmp, 1) := by decide +kernel
theorem dX0_leaderAt_32 : decode cX0_leaderAt 32 = .ok (.ifCond .le 10, 3) := by decide +kernel
theorem dX0_leaderAt_35 : decode cX0_leaderAt 35 = .ok (.lload 7, 2) := by decide +kernel
theorem dX0_leaderAt_37 : decode cX0_leaderAt 37 = .ok (.lstore 4, 2) := by decide +kernel
theorem dX0_leaderAt_39 : decode cX0_leaderAt 39 = .ok (.iload 6, 2) := by decide +kernel
theorem dX0_leaderAt_41 : decode cX0_leaderAt 41 = .ok (.istore_n 3, 1) := by decide +kernel
theorem dX0_leaderAt_42 : decode cX0_leaderAt 42 = .ok (.iinc 6 1, 3) := by decide +kernel
theorem dX0_leaderAt_45 : decode cX0_leaderAt 45 = .ok (.goto (-37), 3) := by decide +kernel
theorem dX0_leaderAt_48 : decode cX0_leaderAt 48 = .ok (.iload_n 3, 1) := by decide +kernel
theorem dX0_leaderAt_49 : decode cX0_leaderAt 49 = .ok (.ireturn, 1) := by decide +kernel
theorem dX0_percent_0 : decode cX0_percent 0 = .ok (.lload_n 2, 1) := by decide +kernel
theorem dX0_percent_1 : decode cX0_percent 1 = .ok (.lconst 0, 1) := by decide +kernel
theorem dX0_percent_2 : decode cX0_percent 2 = .ok (.lcmp, 1) := by decide +kernel
theorem dX0_percent_3 : decode cX0_percent 3 = .ok (.ifCond .ne 13, 3) := by decide +kernel
theorem dX0_percent_6 : decode cX0_percent 6 = .ok (.new 42, 3) := by decide +kernel
theorem dX0_percent_9 : decode cX0_percent 9 = .ok (.dup, 1) := by decide +kernel
theorem dX0_percent_10 : decode cX0_percent 10 = .ok (.ldc 112, 2) := by decide +kernel
theorem dX0_percent_12 : decode cX0_percent 12 = .ok (.invokespecial 46, 3) := by decide +kernel
theorem dX0_percent_15 : decode cX0_percent 15 = .ok (.athrow, 1) := by decide +kernel
theorem dX0_percent_16 : decode cX0_percent 16 = .ok (.lload_n 0, 1) := by decide +kernel
theorem dX0_percent_17 : decode cX0_percent 17 = .ok (.ldc2_w 183, 3) := by decide +kernel
theorem dX0_percent_20 : decode cX0_percent 20 = .ok (.lmul, 1) := by decide +kernel
theorem dX0_percent_21 : decode cX0_percent 21 = .ok (.lload_n 2, 1) := by decide +kernel
theorem dX0_percent_22 : decode cX0_percent 22 = .ok (.ldiv, 1) := by decide +kernel
theorem dX0_percent_23 : decode cX0_percent 23 = .ok (.l2i, 1) := by decide +kernel
theorem dX0_percent_24 : decode cX0_percent 24 = .ok (.ireturn, 1) := by decide +kernel
theorem dX0_chance_0 : decode cX0_chance 0 = .ok (.lconst 0, 1) := by decide +kernel
theorem dX0_chance_1 : decode cX0_chance 1 = .ok (.lstore 4, 2) := by decide +kernel
theorem dX0_chance_3 : decode cX0_chance 3 = .ok (.iconst 0, 1) := by decide +kernel
theorem dX0_chance_4 : decode cX0_chance 4 = .ok (.istore 6, 2) := by decide +kernel
theorem dX0_chance_6 : decode cX0_chance 6 = .ok (.iload 6, 2) := by decide +kernel
theorem dX0_chance_8 : decode cX0_chance 8 = .ok (.aload_n 0, 1) := by decide +kernel
theorem dX0_chance_9 : decode cX0_chance 9 = .ok (.getfield 25, 3) := by decide +kernel
theorem dX0_chance_12 : decode cX0_chance 12 = .ok (.if_icmp .ge 52, 3) := by decide +kernel
theorem dX0_chance_15 : decode cX0_chance 15 = .ok (.iload_n 1, 1) := by decide +kernel
theorem dX0_chance_16 : decode cX0_chance 16 = .ok (.ifCond .eq 13, 3) := by decide +kernel
theorem dX0_chance_19 : decode cX0_chance 19 = .ok (.aload_n 0, 1) := by decide +kernel
theorem dX0_chance_20 : decode cX0_chance 20 = .ok (.getfield 9, 3) := by decide +kernel
theorem dX0_chance_23 : decode cX0_chance 23 = .ok (.iload 6, 2) := by decide +kernel
theorem dX0_chance_25 : decode cX0_chance 25 = .ok (.iaload, 1) := by decide +kernel
theorem dX0_chance_26 : decode cX0_chance 26 = .ok (.goto 13, 3) := by decide +kernel
theorem dX0_chance_29 : decode cX0_chance 29 = .ok (.bipush 10, 2) := by decide +kernel
theorem dX0_chance_31 : decode cX0_chance 31 = .ok (.aload_n 0, 1) := by decide +kernel
theorem dX0_chance_32 : decode cX0_chance 32 = .ok (.getfield 9, 3) := by decide +kernel
theorem dX0_chance_35 : decode cX0_chance 35 = .ok (.iload 6, 2) := by decide +kernel
theorem dX0_chance_37 : decode cX0_chance 37 = .ok (.iaload, 1) := by decide +kernel
theorem dX0_chance_38 : decode cX0_chance 38 = .ok (.isub, 1) := by decide +kernel
theorem dX0_chance_39 : decode cX0_chance 39 = .ok (.istore 7, 2) := by decide +kernel
theorem dX0_chance_41 : decode cX0_chance 41 = .ok (.lload 4, 2) := by decide +kernel
theorem dX0_chance_43 : decode cX0_chance 43 = .ok (.aload_n 0, 1) := by decide +kernel
theorem dX0_chance_44 : decode cX0_chance 44 = .ok (.iload 6, 2) := by decide +kernel
theorem dX0_chance_46 : decode cX0_chance 46 = .ok (.iload_n 2, 1) := by decide +kernel
theorem dX0_chance_47 : decode cX0_chance 47 = .ok (.iload_n 3, 1) := by decide +kernel
theorem dX0_chance_48 : decode cX0_chance 48 = .ok (.invokevirtual 93, 3) := by decide +kernel
theorem dX0_chance_51 : decode cX0_chance 51 = .ok (.iload 7, 2) := by decide +kernel
theorem dX0_chance_53 : decode cX0_chance 53 = .ok (.i2l, 1) := by decide +kernel
theorem dX0_chance_54 : decode cX0_chance 54 = .ok (.lmul, 1) := by decide +kernel
theorem dX0_chance_55 : decode cX0_chance 55 = .ok (.ladd, 1) := by decide +kernel
theorem dX0_chance_56 : decode cX0_chance 56 = .ok (.lstore 4, 2) := by decide +kernel
theorem dX0_chance_58 : decode cX0_chance 58 = .ok (.iinc 6 1, 3) := by decide +kernel
theorem dX0_chance_61 : decode cX0_chance 61 = .ok (.goto (-55), 3) := by decide +kernel
theorem dX0_chance_64 : decode cX0_chance 64 = .ok (.lload 4, 2) := by decide +kernel
theorem dX0_chance_66 : decode cX0_chance 66 = .ok (.lreturn, 1) := by decide +kernel
theorem dX0_surpriseAt_0 : decode cX0_surpriseAt 0 = .ok (.aload_n 0, 1) := by decide +kernel
theorem dX0_surpriseAt_1 : decode cX0_surpriseAt 1 = .ok (.iload_n 1, 1) := by decide +kernel
theorem dX0_surpriseAt_2 : decode cX0_surpriseAt 2 = .ok (.invokevirtual 177, 3) := by decide +kernel
theorem dX0_surpriseAt_5 : decode cX0_surpriseAt 5 = .ok (.istore_n 2, 1) := by decide +kernel
theorem dX0_surpriseAt_6 : decode cX0_surpriseAt 6 = .ok (.aload_n 0, 1) := by decide +kernel
theorem dX0_surpriseAt_7 : decode cX0_surpriseAt 7 = .ok (.aload_n 0, 1) := by decide +kernel
theorem dX0_surpriseAt_8 : decode cX0_surpriseAt 8 = .ok (.getfield 21, 3) := by decide +kernel
theorem dX0_surpriseAt_11 : decode cX0_surpriseAt 11 = .ok (.iload_n 1, 1) := by decide +kernel
theorem dX0_surpriseAt_12 : decode cX0_surpriseAt 12 = .ok (.baload, 1) := by decide +kernel
theorem dX0_surpriseAt_13 : decode cX0_surpriseAt 13 = .ok (.iload_n 2, 1) := by decide +kernel
theorem dX0_surpriseAt_14 : decode cX0_surpriseAt 14 = .ok (.iload_n 1, 1) := by decide +kernel
theorem dX0_surpriseAt_15 : decode cX0_surpriseAt 15 = .ok (.iload_n 2, 1) := by decide +kernel
theorem dX0_surpriseAt_16 : decode cX0_surpriseAt 16 = .ok (.isub, 1) := by decide +kernel
theorem dX0_surpriseAt_17 : decode cX0_surpriseAt 17 = .ok (.invokevirtual 76, 3) := by decide +kernel
theorem dX0_surpriseAt_20 : decode cX0_surpriseAt 20 = .ok (.ireturn, 1) := by decide +kernel
theorem dX0_surpriseBehind_0 : decode cX0_surpriseBehind 0 = .ok (.ldc2_w 185, 3) := by decide +kernel
theorem dX0_surpriseBehind_3 : decode cX0_surpriseBehind 3 = .ok (.aload_n 0, 1) := by decide +kernel
theorem dX0_surpriseBehind_4 : decode cX0_surpriseBehind 4 = .ok (.iload_n 2, 1) := by decide +kernel
theorem dX0_surpriseBehind_5 : decode cX0_surpriseBehind 5 = .ok (.iload_n 3, 1) := by decide +kernel
theorem dX0_surpriseBehind_6 : decode cX0_surpriseBehind 6 = .ok (.invokevirtual 180, 3) := by decide +kernel
theorem dX0_surpriseBehind_9 : decode cX0_surpriseBehind 9 = .ok (.lmul, 1) := by decide +kernel
theorem dX0_surpriseBehind_10 : decode cX0_surpriseBehind 10 = .ok (.lstore 4, 2) := by decide +kernel
theorem dX0_surpriseBehind_12 : decode cX0_surpriseBehind 12 = .ok (.aload_n 0, 1) := by decide +kernel
theorem dX0_surpriseBehind_13 : decode cX0_surpriseBehind 13 = .ok (.iload_n 1, 1) := by decide +kernel
theorem dX0_surpriseBehind_14 : decode cX0_surpriseBehind 14 = .ok (.iload_n 2, 1) := by decide +kernel
theorem dX0_surpriseBehind_15 : decode cX0_surpriseBehind 15 = .ok (.iload_n 3, 1) := by decide +kernel
theorem dX0_surpriseBehind_16 : decode cX0_surpriseBehind 16 = .ok (.invokevirtual 120, 3) := by decide +kernel
theorem dX0_surpriseBehind_19 : decode cX0_surpriseBehind 19 = .ok (.ldc2_w 187, 3) := by decide +kernel
theorem dX0_surpriseBehind_22 : decode cX0_surpriseBehind 22 = .ok (.lmul, 1) := by decide +kernel
theorem dX0_surpriseBehind_23 : decode cX0_surpriseBehind 23 = .ok (.lstore 6, 2) := by decide +kernel
theorem dX0_surpriseBehind_25 : decode cX0_surpriseBehind 25 = .ok (.iconst 0, 1) := by decide +kernel
theorem dX0_surpriseBehind_26 : decode cX0_surpriseBehind 26 = .ok (.istore 8, 2) := by decide +kernel
theorem dX0_surpriseBehind_28 : decode cX0_surpriseBehind 28 = .ok (.lload 6, 2) := by decide +kernel
theorem dX0_surpriseBehind_30 : decode cX0_surpriseBehind 30 = .ok (.lload 4, 2) := by decide +kernel
theorem dX0_surpriseBehind_32 : decode cX0_surpriseBehind 32 = .ok (.lcmp, 1) := by decide +kernel
theorem dX0_surpriseBehind_33 : decode cX0_surpriseBehind 33 = .ok (.ifCond .gt 24, 3) := by decide +kernel
theorem dX0_surpriseBehind_36 : decode cX0_surpriseBehind 36 = .ok (.iload 8, 2) := by decide +kernel
theorem dX0_surpriseBehind_38 : decode cX0_surpriseBehind 38 = .ok (.bipush 60, 2) := by decide +kernel
theorem dX0_surpriseBehind_40 : decode cX0_surpriseBehind 40 = .ok (.if_icmp .ge 17, 3) := by decide +kernel
theorem dX0_surpriseBehind_43 : decode cX0_surpriseBehind 43 = .ok (.lload 6, 2) := by decide +kernel
theorem dX0_surpriseBehind_45 : decode cX0_surpriseBehind 45 = .ok (.ldc2_w 187, 3) := by decide +kernel
theorem dX0_surpriseBehind_48 : decode cX0_surpriseBehind 48 = .ok (.lmul, 1) := by decide +kernel
theorem dX0_surpriseBehind_49 : decode cX0_surpriseBehind 49 = .ok (.lstore 6, 2) := by decide +kernel
theorem dX0_surpriseBehind_51 : decode cX0_surpriseBehind 51 = .ok (.iinc 8 1, 3) := by decide +kernel
theorem dX0_surpriseBehind_54 : decode cX0_surpriseBehind 54 = .ok (.goto (-26), 3) := by decide +kernel
theorem dX0_surpriseBehind_57 : decode cX0_surpriseBehind 57 = .ok (.iload 8, 2) := by decide +kernel
theorem dX0_surpriseBehind_59 : decode cX0_surpriseBehind 59 = .ok (.ireturn, 1) := by decide +kernel
theorem dX0_digestWith_0 : decode cX0_digestWith 0 = .ok (.lload_n 0, 1) := by decide +kernel
theorem dX0_digestWith_1 : decode cX0_digestWith 1 = .ok (.ldc2_w 189, 3) := by decide +kernel
theorem dX0_digestWith_4 : decode cX0_digestWith 4 = .ok (.lmul, 1) := by decide +kernel
theorem dX0_digestWith_5 : decode cX0_digestWith 5 = .ok (.lload_n 2, 1) := by decide +kernel
theorem dX0_digestWith_6 : decode cX0_digestWith 6 = .ok (.ladd, 1) := by decide +kernel
theorem dX0_digestWith_7 : decode cX0_digestWith 7 = .ok (.lreturn, 1) := by decide +kernel
theorem dX0_digestWithCoins_0 : decode cX0_digestWithCoins 0 = .ok (.aload_n 0, 1) := by decide +kernel
theorem dX0_digestWithCoins_1 : decode cX0_digestWithCoins 1 = .ok (.invokevirtual 69, 3) := by decide +kernel
theorem dX0_digestWithCoins_4 : decode cX0_digestWithCoins 4 = .ok (.istore_n 3, 1) := by decide +kernel
theorem dX0_digestWithCoins_5 : decode cX0_digestWithCoins 5 = .ok (.aload_n 0, 1) := by decide +kernel
theorem dX0_digestWithCoins_6 : decode cX0_digestWithCoins 6 = .ok (.invokevirtual 73, 3) := by decide +kernel
theorem dX0_digestWithCoins_9 : decode cX0_digestWithCoins 9 = .ok (.istore 4, 2) := by decide +kernel
theorem dX0_digestWithCoins_11 : decode cX0_digestWithCoins 11 = .ok (.lload_n 1, 1) := by decide +kernel
theorem dX0_digestWithCoins_12 : decode cX0_digestWithCoins 12 = .ok (.lstore 5, 2) := by decide +kernel
theorem dX0_digestWithCoins_14 : decode cX0_digestWithCoins 14 = .ok (.iconst 0, 1) := by decide +kernel
theorem dX0_digestWithCoins_15 : decode cX0_digestWithCoins 15 = .ok (.istore 7, 2) := by decide +kernel
theorem dX0_digestWithCoins_17 : decode cX0_digestWithCoins 17 = .ok (.iload 7, 2) := by decide +kernel
theorem dX0_digestWithCoins_19 : decode cX0_digestWithCoins 19 = .ok (.aload_n 0, 1) := by decide +kernel
theorem dX0_digestWithCoins_20 : decode cX0_digestWithCoins 20 = .ok (.getfield 25, 3) := by decide +kernel
theorem dX0_digestWithCoins_23 : decode cX0_digestWithCoins 23 = .ok (.if_icmp .ge 54, 3) := by decide +kernel
theorem dX0_digestWithCoins_26 : decode cX0_digestWithCoins 26 = .ok (.lload 5, 2) := by decide +kernel
theorem dX0_digestWithCoins_28 : decode cX0_digestWithCoins 28 = .ok (.aload_n 0, 1) := by decide +kernel
theorem dX0_digestWithCoins_29 : decode cX0_digestWithCoins 29 = .ok (.getfield 9, 3) := by decide +kernel
theorem dX0_digestWithCoins_32 : decode cX0_digestWithCoins 32 = .ok (.iload 7, 2) := by decide +kernel
theorem dX0_digestWithCoins_34 : decode cX0_digestWithCoins 34 = .ok (.iaload, 1) := by decide +kernel
theorem dX0_digestWithCoins_35 : decode cX0_digestWithCoins 35 = .ok (.i2l, 1) := by decide +kernel
theorem dX0_digestWithCoins_36 : decode cX0_digestWithCoins 36 = .ok (.invokestatic 129, 3) := by decide +kernel
theorem dX0_digestWithCoins_39 : decode cX0_digestWithCoins 39 = .ok (.lstore 5, 2) := by decide +kernel
theorem dX0_digestWithCoins_41 : decode cX0_digestWithCoins 41 = .ok (.lload 5, 2) := by decide +kernel
theorem dX0_digestWithCoins_43 : decode cX0_digestWithCoins 43 = .ok (.aload_n 0, 1) := by decide +kernel
theorem dX0_digestWithCoins_44 : decode cX0_digestWithCoins 44 = .ok (.iload 7, 2) := by decide +kernel
theorem dX0_digestWithCoins_46 : decode cX0_digestWithCoins 46 = .ok (.iload_n 3, 1) := by decide +kernel
theorem dX0_digestWithCoins_47 : decode cX0_digestWithCoins 47 = .ok (.iload 4, 2) := by decide +kernel
theorem dX0_digestWithCoins_49 : decode cX0_digestWithCoins 49 = .ok (.invokevirtual 93, 3) := by decide +kernel
theorem dX0_digestWithCoins_52 : decode cX0_digestWithCoins 52 = .ok (.invokestatic 129, 3) := by decide +kernel
theorem dX0_digestWithCoins_55 : decode cX0_digestWithCoins 55 = .ok (.lstore 5, 2) := by decide +kernel
theorem dX0_digestWithCoins_57 : decode cX0_digestWithCoins 57 = .ok (.lload 5, 2) := by decide +kernel
theorem dX0_digestWithCoins_59 : decode cX0_digestWithCoins 59 = .ok (.aload_n 0, 1) := by decide +kernel
theorem dX0_digestWithCoins_60 : decode cX0_digestWithCoins 60 = .ok (.iload 7, 2) := by decide +kernel
theorem dX0_digestWithCoins_62 : decode cX0_digestWithCoins 62 = .ok (.invokevirtual 191, 3) := by decide +kernel
theorem dX0_digestWithCoins_65 : decode cX0_digestWithCoins 65 = .ok (.i2l, 1) := by decide +kernel
theorem dX0_digestWithCoins_66 : decode cX0_digestWithCoins 66 = .ok (.invokestatic 129, 3) := by decide +kernel
theorem dX0_digestWithCoins_69 : decode cX0_digestWithCoins 69 = .ok (.lstore 5, 2) := by decide +kernel
theorem dX0_digestWithCoins_71 : decode cX0_digestWithCoins 71 = .ok (.iinc 7 1, 3) := by decide +kernel
theorem dX0_digestWithCoins_74 : decode cX0_digestWithCoins 74 = .ok (.goto (-57), 3) := by decide +kernel
theorem dX0_digestWithCoins_77 : decode cX0_digestWithCoins 77 = .ok (.lload 5, 2) := by decide +kernel
theorem dX0_digestWithCoins_79 : decode cX0_digestWithCoins 79 = .ok (.lreturn, 1) := by decide +kernel
theorem dX0_digestWithSchools_0 : decode cX0_digestWithSchools 0 = .ok (.lload_n 1, 1) := by decide +kernel
theorem dX0_digestWithSchools_1 : decode cX0_digestWithSchools 1 = .ok (.lstore_n 3, 1) := by decide +kernel
theorem dX0_digestWithSchools_2 : decode cX0_digestWithSchools 2 = .ok (.iconst 0, 1) := by decide +kernel
theorem dX0_digestWithSchools_3 : decode cX0_digestWithSchools 3 = .ok (.istore 5, 2) := by decide +kernel
theorem dX0_digestWithSchools_5 : decode cX0_digestWithSchools 5 = .ok (.iload 5, 2) := by decide +kernel
theorem dX0_digestWithSchools_7 : decode cX0_digestWithSchools 7 = .ok (.aload_n 0, 1) := by decide +kernel
theorem dX0_digestWithSchools_8 : decode cX0_digestWithSchools 8 = .ok (.getfield 29, 3) := by decide +kernel
theorem dX0_digestWithSchools_11 : decode cX0_digestWithSchools 11 = .ok (.if_icmp .ge 67, 3) := by decide +kernel
theorem dX0_digestWithSchools_14 : decode cX0_digestWithSchools 14 = .ok (.lload_n 3, 1) := by decide +kernel
theorem dX0_digestWithSchools_15 : decode cX0_digestWithSchools 15 = .ok (.aload_n 0, 1) := by decide +kernel
theorem dX0_digestWithSchools_16 : decode cX0_digestWithSchools 16 = .ok (.getfield 13, 3) := by decide +kernel
theorem dX0_digestWithSchools_19 : decode cX0_digestWithSchools 19 = .ok (.iload 5, 2) := by decide +kernel
theorem dX0_digestWithSchools_21 : decode cX0_digestWithSchools 21 = .ok (.iaload, 1) := by decide +kernel
theorem dX0_digestWithSchools_22 : decode cX0_digestWithSchools 22 = .ok (.i2l, 1) := by decide +kernel
theorem dX0_digestWithSchools_23 : decode cX0_digestWithSchools 23 = .ok (.invokestatic 129, 3) := by decide +kernel
theorem dX0_digestWithSchools_26 : decode cX0_digestWithSchools 26 = .ok (.lstore_n 3, 1) := by decide +kernel
theorem dX0_digestWithSchools_27 : decode cX0_digestWithSchools 27 = .ok (.lload_n 3, 1) := by decide +kernel
theorem dX0_digestWithSchools_28 : decode cX0_digestWithSchools 28 = .ok (.aload_n 0, 1) := by decide +kernel
theorem dX0_digestWithSchools_29 : decode cX0_digestWithSchools 29 = .ok (.iload 5, 2) := by decide +kernel
theorem dX0_digestWithSchools_31 : decode cX0_digestWithSchools 31 = .ok (.invokevirtual 96, 3) := by decide +kernel
theorem dX0_digestWithSchools_34 : decode cX0_digestWithSchools 34 = .ok (.invokestatic 129, 3) := by decide +kernel
theorem dX0_digestWithSchools_37 : decode cX0_digestWithSchools 37 = .ok (.lstore_n 3, 1) := by decide +kernel
theorem dX0_digestWithSchools_38 : decode cX0_digestWithSchools 38 = .ok (.iconst 0, 1) := by decide +kernel
theorem dX0_digestWithSchools_39 : decode cX0_digestWithSchools 39 = .ok (.istore 6, 2) := by decide +kernel
theorem dX0_digestWithSchools_41 : decode cX0_digestWithSchools 41 = .ok (.iload 6, 2) := by decide +kernel
theorem dX0_digestWithSchools_43 : decode cX0_digestWithSchools 43 = .ok (.aload_n 0, 1) := by decide +kernel
theorem dX0_digestWithSchools_44 : decode cX0_digestWithSchools 44 = .ok (.getfield 25, 3) := by decide +kernel
theorem dX0_digestWithSchools_47 : decode cX0_digestWithSchools 47 = .ok (.if_icmp .ge 25, 3) := by decide +kernel
theorem dX0_digestWithSchools_50 : decode cX0_digestWithSchools 50 = .ok (.lload_n 3, 1) := by decide +kernel
theorem dX0_digestWithSchools_51 : decode cX0_digestWithSchools 51 = .ok (.aload_n 0, 1) := by decide +kernel
theorem dX0_digestWithSchools_52 : decode cX0_digestWithSchools 52 = .ok (.getfield 18, 3) := by decide +kernel
theorem dX0_digestWithSchools_55 : decode cX0_digestWithSchools 55 = .ok (.iload 5, 2) := by decide +kernel
theorem dX0_digestWithSchools_57 : decode cX0_digestWithSchools 57 = .ok (.aaload, 1) := by decide +kernel
theorem dX0_digestWithSchools_58 : decode cX0_digestWithSchools 58 = .ok (.iload 6, 2) := by decide +kernel
theorem dX0_digestWithSchools_60 : decode cX0_digestWithSchools 60 = .ok (.iaload, 1) := by decide +kernel
theorem dX0_digestWithSchools_61 : decode cX0_digestWithSchools 61 = .ok (.i2l, 1) := by decide +kernel
theorem dX0_digestWithSchools_62 : decode cX0_digestWithSchools 62 = .ok (.invokestatic 129, 3) := by decide +kernel
theorem dX0_digestWithSchools_65 : decode cX0_digestWithSchools 65 = .ok (.lstore_n 3, 1) := by decide +kernel
theorem dX0_digestWithSchools_66 : decode cX0_digestWithSchools 66 = .ok (.iinc 6 1, 3) := by decide +kernel
theorem dX0_digestWithSchools_69 : decode cX0_digestWithSchools 69 = .ok (.goto (-28), 3) := by decide +kernel
theorem dX0_digestWithSchools_72 : decode cX0_digestWithSchools 72 = .ok (.iinc 5 1, 3) := by decide +kernel
theorem dX0_digestWithSchools_75 : decode cX0_digestWithSchools 75 = .ok (.goto (-70), 3) := by decide +kernel
theorem dX0_digestWithSchools_78 : decode cX0_digestWithSchools 78 = .ok (.lload_n 3, 1) := by decide +kernel
theorem dX0_digestWithSchools_79 : decode cX0_digestWithSchools 79 = .ok (.lreturn, 1) := by decide +kernel
theorem dX0_digestWithTosses_0 : decode cX0_digestWithTosses 0 = .ok (.lload_n 1, 1) := by decide +kernel
theorem dX0_digestWithTosses_1 : decode cX0_digestWithTosses 1 = .ok (.lstore_n 3, 1) := by decide +kernel
theorem dX0_digestWithTosses_2 : decode cX0_digestWithTosses 2 = .ok (.iconst 0, 1) := by decide +kernel
theorem dX0_digestWithTosses_3 : decode cX0_digestWithTosses 3 = .ok (.istore 5, 2) := by decide +kernel
theorem dX0_digestWithTosses_5 : decode cX0_digestWithTosses 5 = .ok (.iload 5, 2) := by decide +kernel
theorem dX0_digestWithTosses_7 : decode cX0_digestWithTosses 7 = .ok (.aload_n 0, 1) := by decide +kernel
theorem dX0_digestWithTosses_8 : decode cX0_digestWithTosses 8 = .ok (.getfield 32, 3) := by decide +kernel
theorem dX0_digestWithTosses_11 : decode cX0_digestWithTosses 11 = .ok (.if_icmp .ge 41, 3) := by decide +kernel
theorem dX0_digestWithTosses_14 : decode cX0_digestWithTosses 14 = .ok (.lload_n 3, 1) := by decide +kernel
theorem dX0_digestWithTosses_15 : decode cX0_digestWithTosses 15 = .ok (.aload_n 0, 1) := by decide +kernel
theorem dX0_digestWithTosses_16 : decode cX0_digestWithTosses 16 = .ok (.getfield 21, 3) := by decide +kernel
theorem dX0_digestWithTosses_19 : decode cX0_digestWithTosses 19 = .ok (.iload 5, 2) := by decide +kernel
theorem dX0_digestWithTosses_21 : decode cX0_digestWithTosses 21 = .ok (.baload, 1) := by decide +kernel
theorem dX0_digestWithTosses_22 : decode cX0_digestWithTosses 22 = .ok (.ifCond .eq 7, 3) := by decide +kernel
theorem dX0_digestWithTosses_25 : decode cX0_digestWithTosses 25 = .ok (.lconst 1, 1) := by decide +kernel
theorem dX0_digestWithTosses_26 : decode cX0_digestWithTosses 26 = .ok (.goto 4, 3) := by decide +kernel
theorem dX0_digestWithTosses_29 : decode cX0_digestWithTosses 29 = .ok (.lconst 0, 1) := by decide +kernel
theorem dX0_digestWithTosses_30 : decode cX0_digestWithTosses 30 = .ok (.invokestatic 129, 3) := by decide +kernel
theorem dX0_digestWithTosses_33 : decode cX0_digestWithTosses 33 = .ok (.lstore_n 3, 1) := by decide +kernel
theorem dX0_digestWithTosses_34 : decode cX0_digestWithTosses 34 = .ok (.lload_n 3, 1) := by decide +kernel
theorem dX0_digestWithTosses_35 : decode cX0_digestWithTosses 35 = .ok (.aload_n 0, 1) := by decide +kernel
theorem dX0_digestWithTosses_36 : decode cX0_digestWithTosses 36 = .ok (.iload 5, 2) := by decide +kernel
theorem dX0_digestWithTosses_38 : decode cX0_digestWithTosses 38 = .ok (.invokevirtual 116, 3) := by decide +kernel
theorem dX0_digestWithTosses_41 : decode cX0_digestWithTosses 41 = .ok (.i2l, 1) := by decide +kernel
theorem dX0_digestWithTosses_42 : decode cX0_digestWithTosses 42 = .ok (.invokestatic 129, 3) := by decide +kernel
theorem dX0_digestWithTosses_45 : decode cX0_digestWithTosses 45 = .ok (.lstore_n 3, 1) := by decide +kernel
theorem dX0_digestWithTosses_46 : decode cX0_digestWithTosses 46 = .ok (.iinc 5 1, 3) := by decide +kernel
theorem dX0_digestWithTosses_49 : decode cX0_digestWithTosses 49 = .ok (.goto (-44), 3) := by decide +kernel
theorem dX0_digestWithTosses_52 : decode cX0_digestWithTosses 52 = .ok (.lload_n 3, 1) := by decide +kernel
theorem dX0_digestWithTosses_53 : decode cX0_digestWithTosses 53 = .ok (.lreturn, 1) := by decide +kernel
theorem dX1_init_0 : decode cX1_init 0 = .ok (.aload_n 0, 1) := by decide +kernel
theorem dX1_init_1 : decode cX1_init 1 = .ok (.invokespecial 1, 3) := by decide +kernel
theorem dX1_init_4 : decode cX1_init 4 = .ok (.aload_n 0, 1) := by decide +kernel
theorem dX1_init_5 : decode cX1_init 5 = .ok (.bipush 8, 2) := by decide +kernel
theorem dX1_init_7 : decode cX1_init 7 = .ok (.newarray .int, 2) := by decide +kernel
theorem dX1_init_9 : decode cX1_init 9 = .ok (.putfield 9, 3) := by decide +kernel
theorem dX1_init_12 : decode cX1_init 12 = .ok (.aload_n 0, 1) := by decide +kernel
theorem dX1_init_13 : decode cX1_init 13 = .ok (.iconst 4, 1) := by decide +kernel
theorem dX1_init_14 : decode cX1_init 14 = .ok (.newarray .int, 2) := by decide +kernel
theorem dX1_init_16 : decode cX1_init 16 = .ok (.putfield 13, 3) := by decide +kernel
theorem dX1_init_19 : decode cX1_init 19 = .ok (.aload_n 0, 1) := by decide +kernel
theorem dX1_init_20 : decode cX1_init 20 = .ok (.bipush 32, 2) := by decide +kernel
theorem dX1_init_22 : decode cX1_init 22 = .ok (.newarray .int, 2) := by decide +kernel
theorem dX1_init_24 : decode cX1_init 24 = .ok (.putfield 16, 3) := by decide +kernel
theorem dX1_init_27 : decode cX1_init 27 = .ok (.return_, 1) := by decide +kernel
theorem dX1_thrown_0 : decode cX1_thrown 0 = .ok (.aload_n 0, 1) := by decide +kernel
theorem dX1_thrown_1 : decode cX1_thrown 1 = .ok (.getfield 19, 3) := by decide +kernel
theorem dX1_thrown_4 : decode cX1_thrown 4 = .ok (.ireturn, 1) := by decide +kernel
theorem dX1_fail_0 : decode cX1_fail 0 = .ok (.aload_n 0, 1) := by decide +kernel
theorem dX1_fail_1 : decode cX1_fail 1 = .ok (.iload_n 1, 1) := by decide +kernel
theorem dX1_fail_2 : decode cX1_fail 2 = .ok (.putfield 19, 3) := by decide +kernel
theorem dX1_fail_5 : decode cX1_fail 5 = .ok (.iconst 0, 1) := by decide +kernel
theorem dX1_fail_6 : decode cX1_fail 6 = .ok (.ireturn, 1) := by decide +kernel
theorem dX1_told_0 : decode cX1_told 0 = .ok (.aload_n 0, 1) := by decide +kernel
theorem dX1_told_1 : decode cX1_told 1 = .ok (.iconst 0, 1) := by decide +kernel
theorem dX1_told_2 : decode cX1_told 2 = .ok (.putfield 19, 3) := by decide +kernel
theorem dX1_told_5 : decode cX1_told 5 = .ok (.iload_n 1, 1) := by decide +kernel
theorem dX1_told_6 : decode cX1_told 6 = .ok (.ireturn, 1) := by decide +kernel
theorem dX1_isIn_0 : decode cX1_isIn 0 = .ok (.iload_n 0, 1) := by decide +kernel
theorem dX1_isIn_1 : decode cX1_isIn 1 = .ok (.iload_n 1, 1) := by decide +kernel
theorem dX1_isIn_2 : decode cX1_isIn 2 = .ok (.if_icmp .lt 12, 3) := by decide +kernel
theorem dX1_isIn_5 : decode cX1_isIn 5 = .ok (.iload_n 0, 1) := by decide +kernel
theorem dX1_isIn_6 : decode cX1_isIn 6 = .ok (.iload_n 2, 1) := by decide +kernel
theorem dX1_isIn_7 : decode cX1_isIn 7 = .ok (.if_icmp .gt 7, 3) := by decide +kernel
theorem dX1_isIn_10 : decode cX1_isIn 10 = .ok (.iconst 1, 1) := by decide +kernel
theorem dX1_isIn_11 : decode cX1_isIn 11 = .ok (.goto 4, 3) := by decide +kernel
theorem dX1_isIn_14 : decode cX1_isIn 14 = .ok (.iconst 0, 1) := by decide +kernel
theorem dX1_isIn_15 : decode cX1_isIn 15 = .ok (.ireturn, 1) := by decide +kernel
theorem dX1_isCoin_0 : decode cX1_isCoin 0 = .ok (.iload_n 1, 1) := by decide +kernel
theorem dX1_isCoin_1 : decode cX1_isCoin 1 = .ok (.iconst 0, 1) := by decide +kernel
theorem dX1_isCoin_2 : decode cX1_isCoin 2 = .ok (.aload_n 0, 1) := by decide +kernel
theorem dX1_isCoin_3 : decode cX1_isCoin 3 = .ok (.getfield 23, 3) := by decide +kernel
theorem dX1_isCoin_6 : decode cX1_isCoin 6 = .ok (.iconst 1, 1) := by decide +kernel
theorem dX1_isCoin_7 : decode cX1_isCoin 7 = .ok (.isub, 1) := by decide +kernel
theorem dX1_isCoin_8 : decode cX1_isCoin 8 = .ok (.invokestatic 26, 3) := by decide +kernel
theorem dX1_isCoin_11 : decode cX1_isCoin 11 = .ok (.ireturn, 1) := by decide +kernel
theorem dX1_isSchool_0 : decode cX1_isSchool 0 = .ok (.iload_n 1, 1) := by decide +kernel
theorem dX1_isSchool_1 : decode cX1_isSchool 1 = .ok (.iconst 0, 1) := by decide +kernel
theorem dX1_isSchool_2 : decode cX1_isSchool 2 = .ok (.aload_n 0, 1) := by decide +kernel
theorem dX1_isSchool_3 : decode cX1_isSchool 3 = .ok (.getfield 30, 3) := by decide +kernel
theorem dX1_isSchool_6 : decode cX1_isSchool 6 = .ok (.iconst 1, 1) := by decide +kernel
theorem dX1_isSchool_7 : decode cX1_isSchool 7 = .ok (.isub, 1) := by decide +kernel
theorem dX1_isSchool_8 : decode cX1_isSchool 8 = .ok (.invokestatic 26, 3) := by decide +kernel
theorem dX1_isSchool_11 : decode cX1_isSchool 11 = .ok (.ireturn, 1) := by decide +kernel
theorem dX1_isToss_0 : decode cX1_isToss 0 = .ok (.iload_n 1, 1) := by decide +kernel
theorem dX1_isToss_1 : decode cX1_isToss 1 = .ok (.iconst 0, 1) := by decide +kernel
theorem dX1_isToss_2 : decode cX1_isToss 2 = .ok (.aload_n 0, 1) := by decide +kernel
theorem dX1_isToss_3 : decode cX1_isToss 3 = .ok (.getfield 33, 3) := by decide +kernel
theorem dX1_isToss_6 : decode cX1_isToss 6 = .ok (.iconst 1, 1) := by decide +kernel
theorem dX1_isToss_7 : decode cX1_isToss 7 = .ok (.isub, 1) := by decide +kernel
theorem dX1_isToss_8 : decode cX1_isToss 8 = .ok (.invokestatic 26, 3) := by decide +kernel
theorem dX1_isToss_11 : decode cX1_isToss 11 = .ok (.ireturn, 1) := by decide +kernel
theorem dX1_headsIn_0 : decode cX1_headsIn 0 = .ok (.iconst 0, 1) := by decide +kernel
theorem dX1_headsIn_1 : decode cX1_headsIn 1 = .ok (.istore_n 2, 1) := by decide +kernel
theorem dX1_headsIn_2 : decode cX1_headsIn 2 = .ok (.iconst 0, 1) := by decide +kernel
theorem dX1_headsIn_3 : decode cX1_headsIn 3 = .ok (.istore_n 3, 1) := by decide +kernel
theorem dX1_headsIn_4 : decode cX1_headsIn 4 = .ok (.iload_n 3, 1) := by decide +kernel
theorem dX1_headsIn_5 : decode cX1_headsIn 5 = .ok (.iload_n 1, 1) := by decide +kernel
theorem dX1_headsIn_6 : decode cX1_headsIn 6 = .ok (.if_icmp .ge 17, 3) := by decide +kernel
theorem dX1_headsIn_9 : decode cX1_headsIn 9 = .ok (.iload_n 2, 1) := by decide +kernel
theorem dX1_headsIn_10 : decode cX1_headsIn 10 = .ok (.iload_n 0, 1) := by decide +kernel
theorem dX1_headsIn_11 : decode cX1_headsIn 11 = .ok (.iload_n 3, 1) := by decide +kernel
theorem dX1_headsIn_12 : decode cX1_headsIn 12 = .ok (.ishr, 1) := by decide +kernel
theorem dX1_headsIn_13 : decode cX1_headsIn 13 = .ok (.iconst 1, 1) := by decide +kernel
theorem dX1_headsIn_14 : decode cX1_headsIn 14 = .ok (.iand, 1) := by decide +kernel
theorem dX1_headsIn_15 : decode cX1_headsIn 15 = .ok (.iadd, 1) := by decide +kernel
theorem dX1_headsIn_16 : decode cX1_headsIn 16 = .ok (.istore_n 2, 1) := by decide +kernel
theorem dX1_headsIn_17 : decode cX1_headsIn 17 = .ok (.iinc 3 1, 3) := by decide +kernel
theorem dX1_headsIn_20 : decode cX1_headsIn 20 = .ok (.goto (-16), 3) := by decide +kernel
theorem dX1_headsIn_23 : decode cX1_headsIn 23 = .ok (.iload_n 2, 1) := by decide +kernel
theorem dX1_headsIn_24 : decode cX1_headsIn 24 = .ok (.ireturn, 1) := by decide +kernel
theorem dX1_headsNow_0 : decode cX1_headsNow 0 = .ok (.aload_n 0, 1) := by decide +kernel
theorem dX1_headsNow_1 : decode cX1_headsNow 1 = .ok (.getfield 36, 3) := by decide +kernel
theorem dX1_headsNow_4 : decode cX1_headsNow 4 = .ok (.aload_n 0, 1) := by decide +kernel
theorem dX1_headsNow_5 : decode cX1_headsNow 5 = .ok (.getfield 33, 3) := by decide +kernel
theorem dX1_headsNow_8 : decode cX1_headsNow 8 = .ok (.invokestatic 39, 3) := by decide +kernel
theorem dX1_headsNow_11 : decode cX1_headsNow 11 = .ok (.ireturn, 1) := by decide +kernel
theorem dX1_power_0 : decode cX1_power 0 = .ok (.lconst 1, 1) := by decide +kernel
theorem dX1_power_1 : decode cX1_power 1 = .ok (.lstore_n 2, 1) := by decide +kernel
theorem dX1_power_2 : decode cX1_power 2 = .ok (.iconst 0, 1) := by decide +kernel
theorem dX1_power_3 : decode cX1_power 3 = .ok (.istore 4, 2) := by decide +kernel
theorem dX1_power_5 : decode cX1_power 5 = .ok (.iload 4, 2) := by decide +kernel
theorem dX1_power_7 : decode cX1_power 7 = .ok (.iload_n 1, 1) := by decide +kernel
theorem dX1_power_8 : decode cX1_power 8 = .ok (.if_icmp .ge 14, 3) := by decide +kernel
theorem dX1_power_11 : decode cX1_power 11 = .ok (.lload_n 2, 1) := by decide +kernel
theorem dX1_power_12 : decode cX1_power 12 = .ok (.iload_n 0, 1) := by decide +kernel
theorem dX1_power_13 : decode cX1_power 13 = .ok (.i2l, 1) := by decide +kernel
theorem dX1_power_14 : decode cX1_power 14 = .ok (.lmul, 1) := by decide +kernel
theorem dX1_power_15 : decode cX1_power 15 = .ok (.lstore_n 2, 1) := by decide +kernel
theorem dX1_power_16 : decode cX1_power 16 = .ok (.iinc 4 1, 3) := by decide +kernel
theorem dX1_power_19 : decode cX1_power 19 = .ok (.goto (-14), 3) := by decide +kernel
theorem dX1_power_22 : decode cX1_power 22 = .ok (.lload_n 2, 1) := by decide +kernel
theorem dX1_power_23 : decode cX1_power 23 = .ok (.lreturn, 1) := by decide +kernel
theorem dX1_falls_0 : decode cX1_falls 0 = .ok (.aload_n 0, 1) := by decide +kernel
theorem dX1_falls_1 : decode cX1_falls 1 = .ok (.getfield 9, 3) := by decide +kernel
theorem dX1_falls_4 : decode cX1_falls 4 = .ok (.iload_n 1, 1) := by decide +kernel
theorem dX1_falls_5 : decode cX1_falls 5 = .ok (.iaload, 1) := by decide +kernel
theorem dX1_falls_6 : decode cX1_falls 6 = .ok (.iload_n 2, 1) := by decide +kernel
theorem dX1_falls_7 : decode cX1_falls 7 = .ok (.invokestatic 43, 3) := by decide +kernel
theorem dX1_falls_10 : decode cX1_falls 10 = .ok (.bipush 10, 2) := by decide +kernel
theorem dX1_falls_12 : decode cX1_falls 12 = .ok (.aload_n 0, 1) := by decide +kernel
theorem dX1_falls_13 : decode cX1_falls 13 = .ok (.getfield 9, 3) := by decide +kernel
theorem dX1_falls_16 : decode cX1_falls 16 = .ok (.iload_n 1, 1) := by decide +kernel
theorem dX1_falls_17 : decode cX1_falls 17 = .ok (.iaload, 1) := by decide +kernel
theorem dX1_falls_18 : decode cX1_falls 18 = .ok (.isub, 1) := by decide +kernel
theorem dX1_falls_19 : decode cX1_falls 19 = .ok (.iload_n 3, 1) := by decide +kernel
theorem dX1_falls_20 : decode cX1_falls 20 = .ok (.invokestatic 43, 3) := by decide +kernel
theorem dX1_falls_23 : decode cX1_falls 23 = .ok (.lmul, 1) := by decide +kernel
theorem dX1_falls_24 : decode cX1_falls 24 = .ok (.lreturn, 1) := by decide +kernel
theorem dX1_given_0 : decode cX1_given 0 = .ok (.iconst 0, 1) := by decide +kernel
theorem dX1_given_1 : decode cX1_given 1 = .ok (.istore_n 2, 1) := by decide +kernel
theorem dX1_given_2 : decode cX1_given 2 = .ok (.iconst 0, 1) := by decide +kernel
theorem dX1_given_3 : decode cX1_given 3 = .ok (.istore_n 3, 1) := by decide +kernel
theorem dX1_given_4 : decode cX1_given 4 = .ok (.iload_n 3, 1) := by decide +kernel
theorem dX1_given_5 : decode cX1_given 5 = .ok (.aload_n 0, 1) := by decide +kernel
theorem dX1_given_6 : decode cX1_given 6 = .ok (.getfield 30, 3) := by decide +kernel
theorem dX1_given_9 : decode cX1_given 9 = .ok (.if_icmp .ge 29, 3) := by decide +kernel
theorem dX1_given_12 : decode cX1_given 12 = .ok (.iload_n 2, 1) := by decide +kernel
theorem dX1_given_13 : decode cX1_given 13 = .ok (.aload_n 0, 1) := by decide +kernel
theorem dX1_given_14 : decode cX1_given 14 = .ok (.getfield 13, 3) := by decide +kernel
theorem dX1_given_17 : decode cX1_given 17 = .ok (.iload_n 3, 1) := by decide +kernel
theorem dX1_given_18 : decode cX1_given 18 = .ok (.iaload, 1) := by decide +kernel
theorem dX1_given_19 : decode cX1_given 19 = .ok (.aload_n 0, 1) := by decide +kernel
theorem dX1_given_20 : decode cX1_given 20 = .ok (.getfield 16, 3) := by decide +kernel
theorem dX1_given_23 : decode cX1_given 23 = .ok (.iconst 4, 1) := by decide +kernel
theorem dX1_given_24 : decode cX1_given 24 = .ok (.iload_n 1, 1) := by decide +kernel
theorem dX1_given_25 : decode cX1_given 25 = .ok (.imul, 1) := by decide +kernel
theorem dX1_given_26 : decode cX1_given 26 = .ok (.iload_n 3, 1) := by decide +kernel
theorem dX1_given_27 : decode cX1_given 27 = .ok (.iadd, 1) := by decide +kernel
theorem dX1_given_28 : decode cX1_given 28 = .ok (.iaload, 1) := by decide +kernel
theorem dX1_given_29 : decode cX1_given 29 = .ok (.imul, 1) := by decide +kernel
theorem dX1_given_30 : decode cX1_given 30 = .ok (.iadd, 1) := by decide +kernel
theorem dX1_given_31 : decode cX1_given 31 = .ok (.istore_n 2, 1) := by decide +kernel
theorem dX1_given_32 : decode cX1_given 32 = .ok (.iinc 3 1, 3) := by decide +kernel
theorem dX1_given_35 : decode cX1_given 35 = .ok (.goto (-31), 3) := by decide +kernel
theorem dX1_given_38 : decode cX1_given 38 = .ok (.iload_n 2, 1) := by decide +kernel
theorem dX1_given_39 : decode cX1_given 39 = .ok (.ireturn, 1) := by decide +kernel
theorem dX1_weight_0 : decode cX1_weight 0 = .ok (.aload_n 0, 1) := by decide +kernel
theorem dX1_weight_1 : decode cX1_weight 1 = .ok (.iload_n 1, 1) := by decide +kernel
theorem dX1_weight_2 : decode cX1_weight 2 = .ok (.invokevirtual 47, 3) := by decide +kernel
theorem dX1_weight_5 : decode cX1_weight 5 = .ok (.i2l, 1) := by decide +kernel
theorem dX1_weight_6 : decode cX1_weight 6 = .ok (.aload_n 0, 1) := by decide +kernel
theorem dX1_weight_7 : decode cX1_weight 7 = .ok (.iload_n 1, 1) := by decide +kernel
theorem dX1_weight_8 : decode cX1_weight 8 = .ok (.iload_n 2, 1) := by decide +kernel
theorem dX1_weight_9 : decode cX1_weight 9 = .ok (.iload_n 3, 1) := by decide +kernel
theorem dX1_weight_10 : decode cX1_weight 10 = .ok (.invokevirtual 51, 3) := by decide +kernel
theorem dX1_weight_13 : decode cX1_weight 13 = .ok (.lmul, 1) := by decide +kernel
theorem dX1_weight_14 : decode cX1_weight 14 = .ok (.lreturn, 1) := by decide +kernel
theorem dX1_whole_0 : decode cX1_whole 0 = .ok (.lconst 0, 1) := by decide +kernel
theorem dX1_whole_1 : decode cX1_whole 1 = .ok (.lstore_n 3, 1) := by decide +kernel
theorem dX1_whole_2 : decode cX1_whole 2 = .ok (.iconst 0, 1) := by decide +kernel
theorem dX1_whole_3 : decode cX1_whole 3 = .ok (.istore 5, 2) := by decide +kernel
theorem dX1_whole_5 : decode cX1_whole 5 = .ok (.iload 5, 2) := by decide +kernel
theorem dX1_whole_7 : decode cX1_whole 7 = .ok (.aload_n 0, 1) := by decide +kernel
theorem dX1_whole_8 : decode cX1_whole 8 = .ok (.getfield 23, 3) := by decide +kernel
theorem dX1_whole_11 : decode cX1_whole 11 = .ok (.if_icmp .ge 20, 3) := by decide +kernel
theorem dX1_whole_14 : decode cX1_whole 14 = .ok (.lload_n 3, 1) := by decide +kernel
theorem dX1_whole_15 : decode cX1_whole 15 = .ok (.aload_n 0, 1) := by decide +kernel
theorem dX1_whole_16 : decode cX1_whole 16 = .ok (.iload 5, 2) := by decide +kernel
theorem dX1_whole_18 : decode cX1_whole 18 = .ok (.iload_n 1, 1) := by decide +kernel
theorem dX1_whole_19 : decode cX1_whole 19 = .ok (.iload_n 2, 1) := by decide +kernel
theorem dX1_whole_20 : decode cX1_whole 20 = .ok (.invokevirtual 55, 3) := by decide +kernel
theorem dX1_whole_23 : decode cX1_whole 23 = .ok (.ladd, 1) := by decide +kernel
theorem dX1_whole_24 : decode cX1_whole 24 = .ok (.lstore_n 3, 1) := by decide +kernel
theorem dX1_whole_25 : decode cX1_whole 25 = .ok (.iinc 5 1, 3) := by decide +kernel
theorem dX1_whole_28 : decode cX1_whole 28 = .ok (.goto (-23), 3) := by decide +kernel
theorem dX1_whole_31 : decode cX1_whole 31 = .ok (.lload_n 3, 1) := by decide +kernel
theorem dX1_whole_32 : decode cX1_whole 32 = .ok (.lreturn, 1) := by decide +kernel
theorem dX1_chance_0 : decode cX1_chance 0 = .ok (.iload_n 1, 1) := by decide +kernel
theorem dX1_chance_1 : decode cX1_chance 1 = .ok (.ifCond .eq 14, 3) := by decide +kernel
theorem dX1_chance_4 : decode cX1_chance 4 = .ok (.aload_n 0, 1) := by decide +kernel
theorem dX1_chance_5 : decode cX1_chance 5 = .ok (.iload_n 2, 1) := by decide +kernel
theorem dX1_chance_6 : decode cX1_chance 6 = .ok (.iconst 1, 1) := by decide +kernel
theorem dX1_chance_7 : decode cX1_chance 7 = .ok (.iadd, 1) := by decide +kernel
theorem dX1_chance_8 : decode cX1_chance 8 = .ok (.iload_n 3, 1) := by decide +kernel
theorem dX1_chance_9 : decode cX1_chance 9 = .ok (.invokevirtual 58, 3) := by decide +kernel
theorem dX1_chance_12 : decode cX1_chance 12 = .ok (.goto 11, 3) := by decide +kernel
theorem dX1_chance_15 : decode cX1_chance 15 = .ok (.aload_n 0, 1) := by decide +kernel
theorem dX1_chance_16 : decode cX1_chance 16 = .ok (.iload_n 2, 1) := by decide +kernel
theorem dX1_chance_17 : decode cX1_chance 17 = .ok (.iload_n 3, 1) := by decide +kernel
theorem dX1_chance_18 : decode cX1_chance 18 = .ok (.iconst 1, 1) := by decide +kernel
theorem dX1_chance_19 : decode cX1_chance 19 = .ok (.iadd, 1) := by decide +kernel
theorem dX1_chance_20 : decode cX1_chance 20 = .ok (.invokevirtual 58, 3) := by decide +kernel
theorem dX1_chance_23 : decode cX1_chance 23 = .ok (.lreturn, 1) := by decide +kernel
theorem dX1_surprise_0 : decode cX1_surprise 0 = .ok (.ldc2_w 61, 3) := by decide +kernel
theorem dX1_surprise_3 : decode cX1_surprise 3 = .ok (.aload_n 0, 1) := by decide +kernel
theorem dX1_surprise_4 : decode cX1_surprise 4 = .ok (.iload_n 2, 1) := by decide +kernel
theorem dX1_surprise_5 : decode cX1_surprise 5 = .ok (.iload_n 3, 1) := by decide +kernel
theorem dX1_surprise_6 : decode cX1_surprise 6 = .ok (.invokevirtual 58, 3) := by decide +kernel
theorem dX1_surprise_9 : decode cX1_surprise 9 = .ok (.lmul, 1) := by decide +kernel
theorem dX1_surprise_10 : decode cX1_surprise 10 = .ok (.lstore 4, 2) := by decide +kernel
theorem dX1_surprise_12 : decode cX1_surprise 12 = .ok (.iconst 0, 1) := by decide +kernel
theorem dX1_surprise_13 : decode cX1_surprise 13 = .ok (.istore 6, 2) := by decide +kernel
theorem dX1_surprise_15 : decode cX1_surprise 15 = .ok (.ldc2_w 63, 3) := by decide +kernel
theorem dX1_surprise_18 : decode cX1_surprise 18 = .ok (.aload_n 0, 1) := by decide +kernel
theorem dX1_surprise_19 : decode cX1_surprise 19 = .ok (.iload_n 1, 1) := by decide +kernel
theorem dX1_surprise_20 : decode cX1_surprise 20 = .ok (.iload_n 2, 1) := by decide +kernel
theorem dX1_surprise_21 : decode cX1_surprise 21 = .ok (.iload_n 3, 1) := by decide +kernel
theorem dX1_surprise_22 : decode cX1_surprise 22 = .ok (.invokevirtual 65, 3) := by decide +kernel
theorem dX1_surprise_25 : decode cX1_surprise 25 = .ok (.lmul, 1) := by decide +kernel
theorem dX1_surprise_26 : decode cX1_surprise 26 = .ok (.lstore 7, 2) := by decide +kernel
theorem dX1_surprise_28 : decode cX1_surprise 28 = .ok (.lload 7, 2) := by decide +kernel
theorem dX1_surprise_30 : decode cX1_surprise 30 = .ok (.lload 4, 2) := by decide +kernel
theorem dX1_surprise_32 : decode cX1_surprise 32 = .ok (.lcmp, 1) := by decide +kernel
theorem dX1_surprise_33 : decode cX1_surprise 33 = .ok (.ifCond .gt 17, 3) := by decide +kernel
theorem dX1_surprise_36 : decode cX1_surprise 36 = .ok (.iinc 6 1, 3) := by decide +kernel
theorem dX1_surprise_39 : decode cX1_surprise 39 = .ok (.lload 7, 2) := by decide +kernel
theorem dX1_surprise_41 : decode cX1_surprise 41 = .ok (.ldc2_w 63, 3) := by decide +kernel
theorem dX1_surprise_44 : decode cX1_surprise 44 = .ok (.lmul, 1) := by decide +kernel
theorem dX1_surprise_45 : decode cX1_surprise 45 = .ok (.lstore 7, 2) := by decide +kernel
theorem dX1_surprise_47 : decode cX1_surprise 47 = .ok (.goto (-19), 3) := by decide +kernel
theorem dX1_surprise_50 : decode cX1_surprise 50 = .ok (.iload 6, 2) := by decide +kernel
theorem dX1_surprise_52 : decode cX1_surprise 52 = .ok (.ireturn, 1) := by decide +kernel
theorem dX1_leader_0 : decode cX1_leader 0 = .ok (.iconst 0, 1) := by decide +kernel
theorem dX1_leader_1 : decode cX1_leader 1 = .ok (.istore_n 3, 1) := by decide +kernel
theorem dX1_leader_2 : decode cX1_leader 2 = .ok (.iconst 1, 1) := by decide +kernel
theorem dX1_leader_3 : decode cX1_leader 3 = .ok (.istore 4, 2) := by decide +kernel
theorem dX1_leader_5 : decode cX1_leader 5 = .ok (.iload 4, 2) := by decide +kernel
theorem dX1_leader_7 : decode cX1_leader 7 = .ok (.aload_n 0, 1) := by decide +kernel
theorem dX1_leader_8 : decode cX1_leader 8 = .ok (.getfield 23, 3) := by decide +kernel
theorem dX1_leader_11 : decode cX1_leader 11 = .ok (.if_icmp .ge 31, 3) := by decide +kernel
theorem dX1_leader_14 : decode cX1_leader 14 = .ok (.aload_n 0, 1) := by decide +kernel
theorem dX1_leader_15 : decode cX1_leader 15 = .ok (.iload 4, 2) := by decide +kernel
theorem dX1_leader_17 : decode cX1_leader 17 = .ok (.iload_n 1, 1) := by decide +kernel
theorem dX1_leader_18 : decode cX1_leader 18 = .ok (.iload_n 2, 1) := by decide +kernel
theorem dX1_leader_19 : decode cX1_leader 19 = .ok (.invokevirtual 55, 3) := by decide +kernel
theorem dX1_leader_22 : decode cX1_leader 22 = .ok (.aload_n 0, 1) := by decide +kernel
theorem dX1_leader_23 : decode cX1_leader 23 = .ok (.iload_n 3, 1) := by decide +kernel
theorem dX1_leader_24 : decode cX1_leader 24 = .ok (.iload_n 1, 1) := by decide +kernel
theorem dX1_leader_25 : decode cX1_leader 25 = .ok (.iload_n 2, 1) := by decide +kernel
theorem dX1_leader_26 : decode cX1_leader 26 = .ok (.invokevirtual 55, 3) := by decide +kernel
theorem dX1_leader_29 : decode cX1_leader 29 = .ok (.lcmp, 1) := by decide +kernel
theorem dX1_leader_30 : decode cX1_leader 30 = .ok (.ifCond .le 6, 3) := by decide +kernel
theorem dX1_leader_33 : decode cX1_leader 33 = .ok (.iload 4, 2) := by decide +kernel
theorem dX1_leader_35 : decode cX1_leader 35 = .ok (.istore_n 3, 1) := by decide +kernel
theorem dX1_leader_36 : decode cX1_leader 36 = .ok (.iinc 4 1, 3) := by decide +kernel
theorem dX1_leader_39 : decode cX1_leader 39 = .ok (.goto (-34), 3) := by decide +kernel
theorem dX1_leader_42 : decode cX1_leader 42 = .ok (.iload_n 3, 1) := by decide +kernel
theorem dX1_leader_43 : decode cX1_leader 43 = .ok (.ireturn, 1) := by decide +kernel
theorem dX1_here_0 : decode cX1_here 0 = .ok (.aload_n 0, 1) := by decide +kernel
theorem dX1_here_1 : decode cX1_here 1 = .ok (.iload_n 1, 1) := by decide +kernel
theorem dX1_here_2 : decode cX1_here 2 = .ok (.aload_n 0, 1) := by decide +kernel
theorem dX1_here_3 : decode cX1_here 3 = .ok (.invokevirtual 69, 3) := by decide +kernel
theorem dX1_here_6 : decode cX1_here 6 = .ok (.aload_n 0, 1) := by decide +kernel
theorem dX1_here_7 : decode cX1_here 7 = .ok (.getfield 33, 3) := by decide +kernel
theorem dX1_here_10 : decode cX1_here 10 = .ok (.aload_n 0, 1) := by decide +kernel
theorem dX1_here_11 : decode cX1_here 11 = .ok (.invokevirtual 69, 3) := by decide +kernel
theorem dX1_here_14 : decode cX1_here 14 = .ok (.isub, 1) := by decide +kernel
theorem dX1_here_15 : decode cX1_here 15 = .ok (.invokevirtual 55, 3) := by decide +kernel
theorem dX1_here_18 : decode cX1_here 18 = .ok (.lreturn, 1) := by decide +kernel
theorem dX1_all_0 : decode cX1_all 0 = .ok (.aload_n 0, 1) := by decide +kernel
theorem dX1_all_1 : decode cX1_all 1 = .ok (.aload_n 0, 1) := by decide +kernel
theorem dX1_all_2 : decode cX1_all 2 = .ok (.invokevirtual 69, 3) := by decide +kernel
theorem dX1_all_5 : decode cX1_all 5 = .ok (.aload_n 0, 1) := by decide +kernel
theorem dX1_all_6 : decode cX1_all 6 = .ok (.getfield 33, 3) := by decide +kernel
theorem dX1_all_9 : decode cX1_all 9 = .ok (.aload_n 0, 1) := by decide +kernel
theorem dX1_all_10 : decode cX1_all 10 = .ok (.invokevirtual 69, 3) := by decide +kernel
theorem dX1_all_13 : decode cX1_all 13 = .ok (.isub, 1) := by decide +kernel
theorem dX1_all_14 : decode cX1_all 14 = .ok (.invokevirtual 58, 3) := by decide +kernel
theorem dX1_all_17 : decode cX1_all 17 = .ok (.lreturn, 1) := by decide +kernel
theorem dX1_addCoin_0 : decode cX1_addCoin 0 = .ok (.aload_n 0, 1) := by decide +kernel
theorem dX1_addCoin_1 : decode cX1_addCoin 1 = .ok (.iconst 0, 1) := by decide +kernel
theorem dX1_addCoin_2 : decode cX1_addCoin 2 = .ok (.putfield 19, 3) := by decide +kernel
theorem dX1_addCoin_5 : decode cX1_addCoin 5 = .ok (.iload_n 1, 1) := by decide +kernel
theorem dX1_addCoin_6 : decode cX1_addCoin 6 = .ok (.iconst 0, 1) := by decide +kernel
theorem dX1_addCoin_7 : decode cX1_addCoin 7 = .ok (.bipush 10, 2) := by decide +kernel
theorem dX1_addCoin_9 : decode cX1_addCoin 9 = .ok (.invokestatic 26, 3) := by decide +kernel
theorem dX1_addCoin_12 : decode cX1_addCoin 12 = .ok (.ifCond .ne 9, 3) := by decide +kernel
theorem dX1_addCoin_15 : decode cX1_addCoin 15 = .ok (.aload_n 0, 1) := by decide +kernel
theorem dX1_addCoin_16 : decode cX1_addCoin 16 = .ok (.iconst 1, 1) := by decide +kernel
theorem dX1_addCoin_17 : decode cX1_addCoin 17 = .ok (.invokevirtual 73, 3) := by decide +kernel
theorem dX1_addCoin_20 : decode cX1_addCoin 20 = .ok (.ireturn, 1) := by decide +kernel
theorem dX1_addCoin_21 : decode cX1_addCoin 21 = .ok (.aload_n 0, 1) := by decide +kernel
theorem dX1_addCoin_22 : decode cX1_addCoin 22 = .ok (.getfield 23, 3) := by decide +kernel
theorem dX1_addCoin_25 : decode cX1_addCoin 25 = .ok (.bipush 8, 2) := by decide +kernel
theorem dX1_addCoin_27 : decode cX1_addCoin 27 = .ok (.if_icmp .eq 10, 3) := by decide +kernel
theorem dX1_addCoin_30 : decode cX1_addCoin 30 = .ok (.aload_n 0, 1) := by decide +kernel
theorem dX1_addCoin_31 : decode cX1_addCoin 31 = .ok (.getfield 33, 3) := by decide +kernel
theorem dX1_addCoin_34 : decode cX1_addCoin 34 = .ok (.ifCond .le 9, 3) := by decide +kernel
theorem dX1_addCoin_37 : decode cX1_addCoin 37 = .ok (.aload_n 0, 1) := by decide +kernel
theorem dX1_addCoin_38 : decode cX1_addCoin 38 = .ok (.iconst 2, 1) := by decide +kernel
theorem dX1_addCoin_39 : decode cX1_addCoin 39 = .ok (.invokevirtual 73, 3) := by decide +kernel
theorem dX1_addCoin_42 : decode cX1_addCoin 42 = .ok (.ireturn, 1) := by decide +kernel
theorem dX1_addCoin_43 : decode cX1_addCoin 43 = .ok (.aload_n 0, 1) := by decide +kernel
theorem dX1_addCoin_44 : decode cX1_addCoin 44 = .ok (.getfield 9, 3) := by decide +kernel
theorem dX1_addCoin_47 : decode cX1_addCoin 47 = .ok (.aload_n 0, 1) := by decide +kernel
theorem dX1_addCoin_48 : decode cX1_addCoin 48 = .ok (.getfield 23, 3) := by decide +kernel
theorem dX1_addCoin_51 : decode cX1_addCoin 51 = .ok (.iload_n 1, 1) := by decide +kernel
theorem dX1_addCoin_52 : decode cX1_addCoin 52 = .ok (.iastore, 1) := by decide +kernel
theorem dX1_addCoin_53 : decode cX1_addCoin 53 = .ok (.iconst 0, 1) := by decide +kernel
theorem dX1_addCoin_54 : decode cX1_addCoin 54 = .ok (.istore_n 2, 1) := by decide +kernel
theorem dX1_addCoin_55 : decode cX1_addCoin 55 = .ok (.iload_n 2, 1) := by decide +kernel
theorem dX1_addCoin_56 : decode cX1_addCoin 56 = .ok (.aload_n 0, 1) := by decide +kernel
theorem dX1_addCoin_57 : decode cX1_addCoin 57 = .ok (.getfield 30, 3) := by decide +kernel
theorem dX1_addCoin_60 : decode cX1_addCoin 60 = .ok (.if_icmp .ge 23, 3) := by decide +kernel
theorem dX1_addCoin_63 : decode cX1_addCoin 63 = .ok (.aload_n 0, 1) := by decide +kernel
theorem dX1_addCoin_64 : decode cX1_addCoin 64 = .ok (.getfield 16, 3) := by decide +kernel
theorem dX1_addCoin_67 : decode cX1_addCoin 67 = .ok (.iconst 4, 1) := by decide +kernel
theorem dX1_addCoin_68 : decode cX1_addCoin 68 = .ok (.aload_n 0, 1) := by decide +kernel
theorem dX1_addCoin_69 : decode cX1_addCoin 69 = .ok (.getfield 23, 3) := by decide +kernel
theorem dX1_addCoin_72 : decode cX1_addCoin 72 = .ok (.imul, 1) := by decide +kernel
theorem dX1_addCoin_73 : decode cX1_addCoin 73 = .ok (.iload_n 2, 1) := by decide +kernel
theorem dX1_addCoin_74 : decode cX1_addCoin 74 = .ok (.iadd, 1) := by decide +kernel
theorem dX1_addCoin_75 : decode cX1_addCoin 75 = .ok (.iconst 1, 1) := by decide +kernel
theorem dX1_addCoin_76 : decode cX1_addCoin 76 = .ok (.iastore, 1) := by decide +kernel
theorem dX1_addCoin_77 : decode cX1_addCoin 77 = .ok (.iinc 2 1, 3) := by decide +kernel
theorem dX1_addCoin_80 : decode cX1_addCoin 80 = .ok (.goto (-25), 3) := by decide +kernel
theorem dX1_addCoin_83 : decode cX1_addCoin 83 = .ok (.aload_n 0, 1) := by decide +kernel
theorem dX1_addCoin_84 : decode cX1_addCoin 84 = .ok (.dup, 1) := by decide +kernel
theorem dX1_addCoin_85 : decode cX1_addCoin 85 = .ok (.getfield 23, 3) := by decide +kernel
theorem dX1_addCoin_88 : decode cX1_addCoin 88 = .ok (.iconst 1, 1) := by decide +kernel
theorem dX1_addCoin_89 : decode cX1_addCoin 89 = .ok (.iadd, 1) := by decide +kernel
theorem dX1_addCoin_90 : decode cX1_addCoin 90 = .ok (.putfield 23, 3) := by decide +kernel
theorem dX1_addCoin_93 : decode cX1_addCoin 93 = .ok (.aload_n 0, 1) := by decide +kernel
theorem dX1_addCoin_94 : decode cX1_addCoin 94 = .ok (.getfield 23, 3) := by decide +kernel
theorem dX1_addCoin_97 : decode cX1_addCoin 97 = .ok (.iconst 1, 1) := by decide +kernel
theorem dX1_addCoin_98 : decode cX1_addCoin 98 = .ok (.isub, 1) := by decide +kernel
theorem dX1_addCoin_99 : decode cX1_addCoin 99 = .ok (.ireturn, 1) := by decide +kernel
theorem dX1_addSchool_0 : decode cX1_addSchool 0 = .ok (.aload_n 0, 1) := by decide +kernel
theorem dX1_addSchool_1 : decode cX1_addSchool 1 = .ok (.iconst 0, 1) := by decide +kernel
theorem dX1_addSchool_2 : decode cX1_addSchool 2 = .ok (.putfield 19, 3) := by decide +kernel
theorem dX1_addSchool_5 : decode cX1_addSchool 5 = .ok (.iload_n 1, 1) := by decide +kernel
theorem dX1_addSchool_6 : decode cX1_addSchool 6 = .ok (.iconst 1, 1) := by decide +kernel
theorem dX1_addSchool_7 : decode cX1_addSchool 7 = .ok (.bipush 9, 2) := by decide +kernel
theorem dX1_addSchool_9 : decode cX1_addSchool 9 = .ok (.invokestatic 26, 3) := by decide +kernel
theorem dX1_addSchool_12 : decode cX1_addSchool 12 = .ok (.ifCond .ne 9, 3) := by decide +kernel
theorem dX1_addSchool_15 : decode cX1_addSchool 15 = .ok (.aload_n 0, 1) := by decide +kernel
theorem dX1_addSchool_16 : decode cX1_addSchool 16 = .ok (.iconst 1, 1) := by decide +kernel
theorem dX1_addSchool_17 : decode cX1_addSchool 17 = .ok (.invokevirtual 73, 3) := by decide +kernel
theorem dX1_addSchool_20 : decode cX1_addSchool 20 = .ok (.ireturn, 1) := by decide +kernel
theorem dX1_addSchool_21 : decode cX1_addSchool 21 = .ok (.aload_n 0, 1) := by decide +kernel
theorem dX1_addSchool_22 : decode cX1_addSchool 22 = .ok (.getfield 30, 3) := by decide +kernel
theorem dX1_addSchool_25 : decode cX1_addSchool 25 = .ok (.iconst 4, 1) := by decide +kernel
theorem dX1_addSchool_26 : decode cX1_addSchool 26 = .ok (.if_icmp .eq 10, 3) := by decide +kernel
theorem dX1_addSchool_29 : decode cX1_addSchool 29 = .ok (.aload_n 0, 1) := by decide +kernel
theorem dX1_addSchool_30 : decode cX1_addSchool 30 = .ok (.getfield 33, 3) := by decide +kernel
theorem dX1_addSchool_33 : decode cX1_addSchool 33 = .ok (.ifCond .le 9, 3) := by decide +kernel
theorem dX1_addSchool_36 : decode cX1_addSchool 36 = .ok (.aload_n 0, 1) := by decide +kernel
theorem dX1_addSchool_37 : decode cX1_addSchool 37 = .ok (.iconst 2, 1) := by decide +kernel
theorem dX1_addSchool_38 : decode cX1_addSchool 38 = .ok (.invokevirtual 73, 3) := by decide +kernel
theorem dX1_addSchool_41 : decode cX1_addSchool 41 = .ok (.ireturn, 1) := by decide +kernel
theorem dX1_addSchool_42 : decode cX1_addSchool 42 = .ok (.aload_n 0, 1) := by decide +kernel
theorem dX1_addSchool_43 : decode cX1_addSchool 43 = .ok (.getfield 13, 3) := by decide +kernel
theorem dX1_addSchool_46 : decode cX1_addSchool 46 = .ok (.aload_n 0, 1) := by decide +kernel
theorem dX1_addSchool_47 : decode cX1_addSchool 47 = .ok (.getfield 30, 3) := by decide +kernel
theorem dX1_addSchool_50 : decode cX1_addSchool 50 = .ok (.iload_n 1, 1) := by decide +kernel
theorem dX1_addSchool_51 : decode cX1_addSchool 51 = .ok (.iastore, 1) := by decide +kernel
theorem dX1_addSchool_52 : decode cX1_addSchool 52 = .ok (.iconst 0, 1) := by decide +kernel
theorem dX1_addSchool_53 : decode cX1_addSchool 53 = .ok (.istore_n 2, 1) := by decide +kernel
theorem dX1_addSchool_54 : decode cX1_addSchool 54 = .ok (.iload_n 2, 1) := by decide +kernel
theorem dX1_addSchool_55 : decode cX1_addSchool 55 = .ok (.aload_n 0, 1) := by decide +kernel
theorem dX1_addSchool_56 : decode cX1_addSchool 56 = .ok (.getfield 23, 3) := by decide +kernel
theorem dX1_addSchool_59 : decode cX1_addSchool 59 = .ok (.if_icmp .ge 23, 3) := by decide +kernel
theorem dX1_addSchool_62 : decode cX1_addSchool 62 = .ok (.aload_n 0, 1) := by decide +kernel
theorem dX1_addSchool_63 : decode cX1_addSchool 63 = .ok (.getfield 16, 3) := by decide +kernel
theorem dX1_addSchool_66 : decode cX1_addSchool 66 = .ok (.iconst 4, 1) := by decide +kernel
theorem dX1_addSchool_67 : decode cX1_addSchool 67 = .ok (.iload_n 2, 1) := by decide +kernel
theorem dX1_addSchool_68 : decode cX1_addSchool 68 = .ok (.imul, 1) := by decide +kernel
theorem dX1_addSchool_69 : decode cX1_addSchool 69 = .ok (.aload_n 0, 1) := by decide +kernel
theorem dX1_addSchool_70 : decode cX1_addSchool 70 = .ok (.getfield 30, 3) := by decide +kernel
theorem dX1_addSchool_73 : decode cX1_addSchool 73 = .ok (.iadd, 1) := by decide +kernel
theorem dX1_addSchool_74 : decode cX1_addSchool 74 = .ok (.iconst 1, 1) := by decide +kernel
theorem dX1_addSchool_75 : decode cX1_addSchool 75 = .ok (.iastore, 1) := by decide +kernel
theorem dX1_addSchool_76 : decode cX1_addSchool 76 = .ok (.iinc 2 1, 3) := by decide +kernel
theorem dX1_addSchool_79 : decode cX1_addSchool 79 = .ok (.goto (-25), 3) := by decide +kernel
theorem dX1_addSchool_82 : decode cX1_addSchool 82 = .ok (.aload_n 0, 1) := by decide +kernel
theorem dX1_addSchool_83 : decode cX1_addSchool 83 = .ok (.dup, 1) := by decide +kernel
theorem dX1_addSchool_84 : decode cX1_addSchool 84 = .ok (.getfield 30, 3) := by decide +kernel
theorem dX1_addSchool_87 : decode cX1_addSchool 87 = .ok (.iconst 1, 1) := by decide +kernel
theorem dX1_addSchool_88 : decode cX1_addSchool 88 = .ok (.iadd, 1) := by decide +kernel
theorem dX1_addSchool_89 : decode cX1_addSchool 89 = .ok (.putfield 30, 3) := by decide +kernel
theorem dX1_addSchool_92 : decode cX1_addSchool 92 = .ok (.aload_n 0, 1) := by decide +kernel
theorem dX1_addSchool_93 : decode cX1_addSchool 93 = .ok (.getfield 30, 3) := by decide +kernel
theorem dX1_addSchool_96 : decode cX1_addSchool 96 = .ok (.iconst 1, 1) := by decide +kernel
theorem dX1_addSchool_97 : decode cX1_addSchool 97 = .ok (.isub, 1) := by decide +kernel
theorem dX1_addSchool_98 : decode cX1_addSchool 98 = .ok (.ireturn, 1) := by decide +kernel
theorem dX1_setShare_0 : decode cX1_setShare 0 = .ok (.aload_n 0, 1) := by decide +kernel
theorem dX1_setShare_1 : decode cX1_setShare 1 = .ok (.iconst 0, 1) := by decide +kernel
theorem dX1_setShare_2 : decode cX1_setShare 2 = .ok (.putfield 19, 3) := by decide +kernel
theorem dX1_setShare_5 : decode cX1_setShare 5 = .ok (.aload_n 0, 1) := by decide +kernel
theorem dX1_setShare_6 : decode cX1_setShare 6 = .ok (.iload_n 1, 1) := by decide +kernel
theorem dX1_setShare_7 : decode cX1_setShare 7 = .ok (.invokevirtual 76, 3) := by decide +kernel
theorem dX1_setShare_10 : decode cX1_setShare 10 = .ok (.ifCond .eq 11, 3) := by decide +kernel
theorem dX1_setShare_13 : decode cX1_setShare 13 = .ok (.aload_n 0, 1) := by decide +kernel
theorem dX1_setShare_14 : decode cX1_setShare 14 = .ok (.iload_n 2, 1) := by decide +kernel
theorem dX1_setShare_15 : decode cX1_setShare 15 = .ok (.invokevirtual 80, 3) := by decide +kernel
theorem dX1_setShare_18 : decode cX1_setShare 18 = .ok (.ifCond .ne 9, 3) := by decide +kernel
theorem dX1_setShare_21 : decode cX1_setShare 21 = .ok (.aload_n 0, 1) := by decide +kernel
theorem dX1_setShare_22 : decode cX1_setShare 22 = .ok (.iconst 1, 1) := by decide +kernel
theorem dX1_setShare_23 : decode cX1_setShare 23 = .ok (.invokevirtual 73, 3) := by decide +kernel
theorem dX1_setShare_26 : decode cX1_setShare 26 = .ok (.ireturn, 1) := by decide +kernel
theorem dX1_setShare_27 : decode cX1_setShare 27 = .ok (.iload_n 3, 1) := by decide +kernel
theorem dX1_setShare_28 : decode cX1_setShare 28 = .ok (.iconst 0, 1) := by decide +kernel
theorem dX1_setShare_29 : decode cX1_setShare 29 = .ok (.bipush 9, 2) := by decide +kernel
theorem dX1_setShare_31 : decode cX1_setShare 31 = .ok (.invokestatic 26, 3) := by decide +kernel
theorem dX1_setShare_34 : decode cX1_setShare 34 = .ok (.ifCond .ne 9, 3) := by decide +kernel
theorem dX1_setShare_37 : decode cX1_setShare 37 = .ok (.aload_n 0, 1) := by decide +kernel
theorem dX1_setShare_38 : decode cX1_setShare 38 = .ok (.iconst 2, 1) := by decide +kernel
theorem dX1_setShare_39 : decode cX1_setShare 39 = .ok (.invokevirtual 73, 3) := by decide +kernel
theorem dX1_setShare_42 : decode cX1_setShare 42 = .ok (.ireturn, 1) := by decide +kernel
theorem dX1_setShare_43 : decode cX1_setShare 43 = .ok (.aload_n 0, 1) := by decide +kernel
theorem dX1_setShare_44 : decode cX1_setShare 44 = .ok (.getfield 33, 3) := by decide +kernel
theorem dX1_setShare_47 : decode cX1_setShare 47 = .ok (.ifCond .le 9, 3) := by decide +kernel
theorem dX1_setShare_50 : decode cX1_setShare 50 = .ok (.aload_n 0, 1) := by decide +kernel
theorem dX1_setShare_51 : decode cX1_setShare 51 = .ok (.iconst 3, 1) := by decide +kernel
theorem dX1_setShare_52 : decode cX1_setShare 52 = .ok (.invokevirtual 73, 3) := by decide +kernel
theorem dX1_setShare_55 : decode cX1_setShare 55 = .ok (.ireturn, 1) := by decide +kernel
theorem dX1_setShare_56 : decode cX1_setShare 56 = .ok (.aload_n 0, 1) := by decide +kernel
theorem dX1_setShare_57 : decode cX1_setShare 57 = .ok (.getfield 16, 3) := by decide +kernel
theorem dX1_setShare_60 : decode cX1_setShare 60 = .ok (.iconst 4, 1) := by decide +kernel
theorem dX1_setShare_61 : decode cX1_setShare 61 = .ok (.iload_n 2, 1) := by decide +kernel
theorem dX1_setShare_62 : decode cX1_setShare 62 = .ok (.imul, 1) := by decide +kernel
theorem dX1_setShare_63 : decode cX1_setShare 63 = .ok (.iload_n 1, 1) := by decide +kernel
theorem dX1_setShare_64 : decode cX1_setShare 64 = .ok (.iadd, 1) := by decide +kernel
theorem dX1_setShare_65 : decode cX1_setShare 65 = .ok (.iaload, 1) := by decide +kernel
theorem dX1_setShare_66 : decode cX1_setShare 66 = .ok (.istore 4, 2) := by decide +kernel
theorem dX1_setShare_68 : decode cX1_setShare 68 = .ok (.aload_n 0, 1) := by decide +kernel
theorem dX1_setShare_69 : decode cX1_setShare 69 = .ok (.getfield 16, 3) := by decide +kernel
theorem dX1_setShare_72 : decode cX1_setShare 72 = .ok (.iconst 4, 1) := by decide +kernel
theorem dX1_setShare_73 : decode cX1_setShare 73 = .ok (.iload_n 2, 1) := by decide +kernel
theorem dX1_setShare_74 : decode cX1_setShare 74 = .ok (.imul, 1) := by decide +kernel
theorem dX1_setShare_75 : decode cX1_setShare 75 = .ok (.iload_n 1, 1) := by decide +kernel
theorem dX1_setShare_76 : decode cX1_setShare 76 = .ok (.iadd, 1) := by decide +kernel
theorem dX1_setShare_77 : decode cX1_setShare 77 = .ok (.iload_n 3, 1) := by decide +kernel
theorem dX1_setShare_78 : decode cX1_setShare 78 = .ok (.iastore, 1) := by decide +kernel
theorem dX1_setShare_79 : decode cX1_setShare 79 = .ok (.iload 4, 2) := by decide +kernel
theorem dX1_setShare_81 : decode cX1_setShare 81 = .ok (.ireturn, 1) := by decide +kernel
theorem dX1_canBe_0 : decode cX1_canBe 0 = .ok (.aload_n 0, 1) := by decide +kernel
theorem dX1_canBe_1 : decode cX1_canBe 1 = .ok (.iload_n 1, 1) := by decide +kernel
theorem dX1_canBe_2 : decode cX1_canBe 2 = .ok (.aload_n 0, 1) := by decide +kernel
theorem dX1_canBe_3 : decode cX1_canBe 3 = .ok (.invokevirtual 69, 3) := by decide +kernel
theorem dX1_canBe_6 : decode cX1_canBe 6 = .ok (.aload_n 0, 1) := by decide +kernel
theorem dX1_canBe_7 : decode cX1_canBe 7 = .ok (.getfield 33, 3) := by decide +kernel
theorem dX1_canBe_10 : decode cX1_canBe 10 = .ok (.aload_n 0, 1) := by decide +kernel
theorem dX1_canBe_11 : decode cX1_canBe 11 = .ok (.invokevirtual 69, 3) := by decide +kernel
theorem dX1_canBe_14 : decode cX1_canBe 14 = .ok (.isub, 1) := by decide +kernel
theorem dX1_canBe_15 : decode cX1_canBe 15 = .ok (.invokevirtual 65, 3) := by decide +kernel
theorem dX1_canBe_18 : decode cX1_canBe 18 = .ok (.lconst 0, 1) := by decide +kernel
theorem dX1_canBe_19 : decode cX1_canBe 19 = .ok (.lcmp, 1) := by decide +kernel
theorem dX1_canBe_20 : decode cX1_canBe 20 = .ok (.ifCond .le 7, 3) := by decide +kernel
theorem dX1_canBe_23 : decode cX1_canBe 23 = .ok (.iconst 1, 1) := by decide +kernel
theorem dX1_canBe_24 : decode cX1_canBe 24 = .ok (.goto 4, 3) := by decide +kernel
theorem dX1_canBe_27 : decode cX1_canBe 27 = .ok (.iconst 0, 1) := by decide +kernel
theorem dX1_canBe_28 : decode cX1_canBe 28 = .ok (.ireturn, 1) := by decide +kernel
theorem dX1_toss_0 : decode cX1_toss 0 = .ok (.aload_n 0, 1) := by decide +kernel
theorem dX1_toss_1 : decode cX1_toss 1 = .ok (.iconst 0, 1) := by decide +kernel
theorem dX1_toss_2 : decode cX1_toss 2 = .ok (.putfield 19, 3) := by decide +kernel
theorem dX1_toss_5 : decode cX1_toss 5 = .ok (.aload_n 0, 1) := by decide +kernel
theorem dX1_toss_6 : decode cX1_toss 6 = .ok (.getfield 33, 3) := by decide +kernel
theorem dX1_toss_9 : decode cX1_toss 9 = .ok (.bipush 12, 2) := by decide +kernel
theorem dX1_toss_11 : decode cX1_toss 11 = .ok (.if_icmp .eq 11, 3) := by decide +kernel
theorem dX1_toss_14 : decode cX1_toss 14 = .ok (.aload_n 0, 1) := by decide +kernel
theorem dX1_toss_15 : decode cX1_toss 15 = .ok (.iload_n 1, 1) := by decide +kernel
theorem dX1_toss_16 : decode cX1_toss 16 = .ok (.invokevirtual 83, 3) := by decide +kernel
theorem dX1_toss_19 : decode cX1_toss 19 = .ok (.ifCond .ne 9, 3) := by decide +kernel
theorem dX1_toss_22 : decode cX1_toss 22 = .ok (.aload_n 0, 1) := by decide +kernel
theorem dX1_toss_23 : decode cX1_toss 23 = .ok (.iconst 1, 1) := by decide +kernel
theorem dX1_toss_24 : decode cX1_toss 24 = .ok (.invokevirtual 73, 3) := by decide +kernel
theorem dX1_toss_27 : decode cX1_toss 27 = .ok (.ireturn, 1) := by decide +kernel
theorem dX1_toss_28 : decode cX1_toss 28 = .ok (.aload_n 0, 1) := by decide +kernel
theorem dX1_toss_29 : decode cX1_toss 29 = .ok (.iload_n 1, 1) := by decide +kernel
theorem dX1_toss_30 : decode cX1_toss 30 = .ok (.aload_n 0, 1) := by decide +kernel
theorem dX1_toss_31 : decode cX1_toss 31 = .ok (.invokevirtual 69, 3) := by decide +kernel
theorem dX1_toss_34 : decode cX1_toss 34 = .ok (.aload_n 0, 1) := by decide +kernel
theorem dX1_toss_35 : decode cX1_toss 35 = .ok (.getfield 33, 3) := by decide +kernel
theorem dX1_toss_38 : decode cX1_toss 38 = .ok (.aload_n 0, 1) := by decide +kernel
theorem dX1_toss_39 : decode cX1_toss 39 = .ok (.invokevirtual 69, 3) := by decide +kernel
theorem dX1_toss_42 : decode cX1_toss 42 = .ok (.isub, 1) := by decide +kernel
theorem dX1_toss_43 : decode cX1_toss 43 = .ok (.invokevirtual 87, 3) := by decide +kernel
theorem dX1_toss_46 : decode cX1_toss 46 = .ok (.istore_n 2, 1) := by decide +kernel
theorem dX1_toss_47 : decode cX1_toss 47 = .ok (.aload_n 0, 1) := by decide +kernel
theorem dX1_toss_48 : decode cX1_toss 48 = .ok (.dup, 1) := by decide +kernel
theorem dX1_toss_49 : decode cX1_toss 49 = .ok (.getfield 36, 3) := by decide +kernel
theorem dX1_toss_52 : decode cX1_toss 52 = .ok (.iload_n 1, 1) := by decide +kernel
theorem dX1_toss_53 : decode cX1_toss 53 = .ok (.ifCond .eq 7, 3) := by decide +kernel
theorem dX1_toss_56 : decode cX1_toss 56 = .ok (.iconst 1, 1) := by decide +kernel
theorem dX1_toss_57 : decode cX1_toss 57 = .ok (.goto 4, 3) := by decide +kernel
theorem dX1_toss_60 : decode cX1_toss 60 = .ok (.iconst 0, 1) := by decide +kernel
theorem dX1_toss_61 : decode cX1_toss 61 = .ok (.aload_n 0, 1) := by decide +kernel
theorem dX1_toss_62 : decode cX1_toss 62 = .ok (.getfield 33, 3) := by decide +kernel
theorem dX1_toss_65 : decode cX1_toss 65 = .ok (.ishl, 1) := by decide +kernel
theorem dX1_toss_66 : decode cX1_toss 66 = .ok (.ior, 1) := by decide +kernel
theorem dX1_toss_67 : decode cX1_toss 67 = .ok (.putfield 36, 3) := by decide +kernel
theorem dX1_toss_70 : decode cX1_toss 70 = .ok (.aload_n 0, 1) := by decide +kernel
theorem dX1_toss_71 : decode cX1_toss 71 = .ok (.dup, 1) := by decide +kernel
theorem dX1_toss_72 : decode cX1_toss 72 = .ok (.getfield 33, 3) := by decide +kernel
theorem dX1_toss_75 : decode cX1_toss 75 = .ok (.iconst 1, 1) := by decide +kernel
theorem dX1_toss_76 : decode cX1_toss 76 = .ok (.iadd, 1) := by decide +kernel
theorem dX1_toss_77 : decode cX1_toss 77 = .ok (.putfield 33, 3) := by decide +kernel
theorem dX1_toss_80 : decode cX1_toss 80 = .ok (.iload_n 2, 1) := by decide +kernel
theorem dX1_toss_81 : decode cX1_toss 81 = .ok (.ireturn, 1) := by decide +kernel
theorem dX1_without_0 : decode cX1_without 0 = .ok (.iload_n 0, 1) := by decide +kernel
theorem dX1_without_1 : decode cX1_without 1 = .ok (.iconst 1, 1) := by decide +kernel
theorem dX1_without_2 : decode cX1_without 2 = .ok (.iload_n 1, 1) := by decide +kernel
theorem dX1_without_3 : decode cX1_without 3 = .ok (.ishl, 1) := by decide +kernel
theorem dX1_without_4 : decode cX1_without 4 = .ok (.iconst 1, 1) := by decide +kernel
theorem dX1_without_5 : decode cX1_without 5 = .ok (.isub, 1) := by decide +kernel
theorem dX1_without_6 : decode cX1_without 6 = .ok (.iand, 1) := by decide +kernel
theorem dX1_without_7 : decode cX1_without 7 = .ok (.iload_n 0, 1) := by decide +kernel
theorem dX1_without_8 : decode cX1_without 8 = .ok (.iload_n 1, 1) := by decide +kernel
theorem dX1_without_9 : decode cX1_without 9 = .ok (.iconst 1, 1) := by decide +kernel
theorem dX1_without_10 : decode cX1_without 10 = .ok (.iadd, 1) := by decide +kernel
theorem dX1_without_11 : decode cX1_without 11 = .ok (.ishr, 1) := by decide +kernel
theorem dX1_without_12 : decode cX1_without 12 = .ok (.iload_n 1, 1) := by decide +kernel
theorem dX1_without_13 : decode cX1_without 13 = .ok (.ishl, 1) := by decide +kernel
theorem dX1_without_14 : decode cX1_without 14 = .ok (.ior, 1) := by decide +kernel
theorem dX1_without_15 : decode cX1_without 15 = .ok (.ireturn, 1) := by decide +kernel
theorem dX1_undo_0 : decode cX1_undo 0 = .ok (.aload_n 0, 1) := by decide +kernel
theorem dX1_undo_1 : decode cX1_undo 1 = .ok (.aload_n 0, 1) := by decide +kernel
theorem dX1_undo_2 : decode cX1_undo 2 = .ok (.getfield 33, 3) := by decide +kernel
theorem dX1_undo_5 : decode cX1_undo 5 = .ok (.ifCond .ne 7, 3) := by decide +kernel
theorem dX1_undo_8 : decode cX1_undo 8 = .ok (.iconst 1, 1) := by decide +kernel
theorem dX1_undo_9 : decode cX1_undo 9 = .ok (.goto 4, 3) := by decide +kernel
theorem dX1_undo_12 : decode cX1_undo 12 = .ok (.iconst 0, 1) := by decide +kernel
theorem dX1_undo_13 : decode cX1_undo 13 = .ok (.putfield 19, 3) := by decide +kernel
theorem dX1_undo_16 : decode cX1_undo 16 = .ok (.aload_n 0, 1) := by decide +kernel
theorem dX1_undo_17 : decode cX1_undo 17 = .ok (.getfield 19, 3) := by decide +kernel
theorem dX1_undo_20 : decode cX1_undo 20 = .ok (.ifCond .le 5, 3) := by decide +kernel
theorem dX1_undo_23 : decode cX1_undo 23 = .ok (.iconst 0, 1) := by decide +kernel
theorem dX1_undo_24 : decode cX1_undo 24 = .ok (.ireturn, 1) := by decide +kernel
theorem dX1_undo_25 : decode cX1_undo 25 = .ok (.aload_n 0, 1) := by decide +kernel
theorem dX1_undo_26 : decode cX1_undo 26 = .ok (.dup, 1) := by decide +kernel
theorem dX1_undo_27 : decode cX1_undo 27 = .ok (.getfield 33, 3) := by decide +kernel
theorem dX1_undo_30 : decode cX1_undo 30 = .ok (.iconst 1, 1) := by decide +kernel
theorem dX1_undo_31 : decode cX1_undo 31 = .ok (.isub, 1) := by decide +kernel
theorem dX1_undo_32 : decode cX1_undo 32 = .ok (.putfield 33, 3) := by decide +kernel
theorem dX1_undo_35 : decode cX1_undo 35 = .ok (.aload_n 0, 1) := by decide +kernel
theorem dX1_undo_36 : decode cX1_undo 36 = .ok (.getfield 36, 3) := by decide +kernel
theorem dX1_undo_39 : decode cX1_undo 39 = .ok (.aload_n 0, 1) := by decide +kernel
theorem dX1_undo_40 : decode cX1_undo 40 = .ok (.getfield 33, 3) := by decide +kernel
theorem dX1_undo_43 : decode cX1_undo 43 = .ok (.ishr, 1) := by decide +kernel
theorem dX1_undo_44 : decode cX1_undo 44 = .ok (.iconst 1, 1) := by decide +kernel
theorem dX1_undo_45 : decode cX1_undo 45 = .ok (.iand, 1) := by decide +kernel
theorem dX1_undo_46 : decode cX1_undo 46 = .ok (.iconst 1, 1) := by decide +kernel
theorem dX1_undo_47 : decode cX1_undo 47 = .ok (.if_icmp .ne 7, 3) := by decide +kernel
theorem dX1_undo_50 : decode cX1_undo 50 = .ok (.iconst 1, 1) := by decide +kernel
theorem dX1_undo_51 : decode cX1_undo 51 = .ok (.goto 4, 3) := by decide +kernel
theorem dX1_undo_54 : decode cX1_undo 54 = .ok (.iconst 0, 1) := by decide +kernel
theorem dX1_undo_55 : decode cX1_undo 55 = .ok (.istore_n 1, 1) := by decide +kernel
theorem dX1_undo_56 : decode cX1_undo 56 = .ok (.aload_n 0, 1) := by decide +kernel
theorem dX1_undo_57 : decode cX1_undo 57 = .ok (.aload_n 0, 1) := by decide +kernel
theorem dX1_undo_58 : decode cX1_undo 58 = .ok (.getfield 36, 3) := by decide +kernel
theorem dX1_undo_61 : decode cX1_undo 61 = .ok (.aload_n 0, 1) := by decide +kernel
theorem dX1_undo_62 : decode cX1_undo 62 = .ok (.getfield 33, 3) := by decide +kernel
theorem dX1_undo_65 : decode cX1_undo 65 = .ok (.invokestatic 91, 3) := by decide +kernel
theorem dX1_undo_68 : decode cX1_undo 68 = .ok (.putfield 36, 3) := by decide +kernel
theorem dX1_undo_71 : decode cX1_undo 71 = .ok (.iload_n 1, 1) := by decide +kernel
theorem dX1_undo_72 : decode cX1_undo 72 = .ok (.ireturn, 1) := by decide +kernel
theorem dX1_strike_0 : decode cX1_strike 0 = .ok (.aload_n 0, 1) := by decide +kernel
theorem dX1_strike_1 : decode cX1_strike 1 = .ok (.iconst 0, 1) := by decide +kernel
theorem dX1_strike_2 : decode cX1_strike 2 = .ok (.putfield 19, 3) := by decide +kernel
theorem dX1_strike_5 : decode cX1_strike 5 = .ok (.aload_n 0, 1) := by decide +kernel
theorem dX1_strike_6 : decode cX1_strike 6 = .ok (.iload_n 1, 1) := by decide +kernel
theorem dX1_strike_7 : decode cX1_strike 7 = .ok (.invokevirtual 94, 3) := by decide +kernel
theorem dX1_strike_10 : decode cX1_strike 10 = .ok (.ifCond .ne 9, 3) := by decide +kernel
theorem dX1_strike_13 : decode cX1_strike 13 = .ok (.aload_n 0, 1) := by decide +kernel
theorem dX1_strike_14 : decode cX1_strike 14 = .ok (.iconst 1, 1) := by decide +kernel
theorem dX1_strike_15 : decode cX1_strike 15 = .ok (.invokevirtual 73, 3) := by decide +kernel
theorem dX1_strike_18 : decode cX1_strike 18 = .ok (.ireturn, 1) := by decide +kernel
theorem dX1_strike_19 : decode cX1_strike 19 = .ok (.aload_n 0, 1) := by decide +kernel
theorem dX1_strike_20 : decode cX1_strike 20 = .ok (.aload_n 0, 1) := by decide +kernel
theorem dX1_strike_21 : decode cX1_strike 21 = .ok (.getfield 36, 3) := by decide +kernel
theorem dX1_strike_24 : decode cX1_strike 24 = .ok (.iload_n 1, 1) := by decide +kernel
theorem dX1_strike_25 : decode cX1_strike 25 = .ok (.invokestatic 91, 3) := by decide +kernel
theorem dX1_strike_28 : decode cX1_strike 28 = .ok (.putfield 36, 3) := by decide +kernel
theorem dX1_strike_31 : decode cX1_strike 31 = .ok (.aload_n 0, 1) := by decide +kernel
theorem dX1_strike_32 : decode cX1_strike 32 = .ok (.dup, 1) := by decide +kernel
theorem dX1_strike_33 : decode cX1_strike 33 = .ok (.getfield 33, 3) := by decide +kernel
theorem dX1_strike_36 : decode cX1_strike 36 = .ok (.iconst 1, 1) := by decide +kernel
theorem dX1_strike_37 : decode cX1_strike 37 = .ok (.isub, 1) := by decide +kernel
theorem dX1_strike_38 : decode cX1_strike 38 = .ok (.putfield 33, 3) := by decide +kernel
theorem dX1_strike_41 : decode cX1_strike 41 = .ok (.aload_n 0, 1) := by decide +kernel
theorem dX1_strike_42 : decode cX1_strike 42 = .ok (.getfield 33, 3) := by decide +kernel
theorem dX1_strike_45 : decode cX1_strike 45 = .ok (.ireturn, 1) := by decide +kernel
theorem dX1_coins_0 : decode cX1_coins 0 = .ok (.aload_n 0, 1) := by decide +kernel
theorem dX1_coins_1 : decode cX1_coins 1 = .ok (.aload_n 0, 1) := by decide +kernel
theorem dX1_coins_2 : decode cX1_coins 2 = .ok (.getfield 23, 3) := by decide +kernel
theorem dX1_coins_5 : decode cX1_coins 5 = .ok (.invokevirtual 97, 3) := by decide +kernel
theorem dX1_coins_8 : decode cX1_coins 8 = .ok (.ireturn, 1) := by decide +kernel
theorem dX1_schools_0 : decode cX1_schools 0 = .ok (.aload_n 0, 1) := by decide +kernel
theorem dX1_schools_1 : decode cX1_schools 1 = .ok (.aload_n 0, 1) := by decide +kernel
theorem dX1_schools_2 : decode cX1_schools 2 = .ok (.getfield 30, 3) := by decide +kernel
theorem dX1_schools_5 : decode cX1_schools 5 = .ok (.invokevirtual 97, 3) := by decide +kernel
theorem dX1_schools_8 : decode cX1_schools 8 = .ok (.ireturn, 1) := by decide +kernel
theorem dX1_tosses_0 : decode cX1_tosses 0 = .ok (.aload_n 0, 1) := by decide +kernel
theorem dX1_tosses_1 : decode cX1_tosses 1 = .ok (.aload_n 0, 1) := by decide +kernel
theorem dX1_tosses_2 : decode cX1_tosses 2 = .ok (.getfield 33, 3) := by decide +kernel
theorem dX1_tosses_5 : decode cX1_tosses 5 = .ok (.invokevirtual 97, 3) := by decide +kernel
theorem dX1_tosses_8 : decode cX1_tosses 8 = .ok (.ireturn, 1) := by decide +kernel
theorem dX1_heads_0 : decode cX1_heads 0 = .ok (.aload_n 0, 1) := by decide +kernel
theorem dX1_heads_1 : decode cX1_heads 1 = .ok (.aload_n 0, 1) := by decide +kernel
theorem dX1_heads_2 : decode cX1_heads 2 = .ok (.invokevirtual 69, 3) := by decide +kernel
theorem dX1_heads_5 : decode cX1_heads 5 = .ok (.invokevirtual 97, 3) := by decide +kernel
theorem dX1_heads_8 : decode cX1_heads 8 = .ok (.ireturn, 1) := by decide +kernel
theorem dX1_isUp_0 : decode cX1_isUp 0 = .ok (.aload_n 0, 1) := by decide +kernel
theorem dX1_isUp_1 : decode cX1_isUp 1 = .ok (.getfield 36, 3) := by decide +kernel
theorem dX1_isUp_4 : decode cX1_isUp 4 = .ok (.iload_n 1, 1) := by decide +kernel
theorem dX1_isUp_5 : decode cX1_isUp 5 = .ok (.ishr, 1) := by decide +kernel
theorem dX1_isUp_6 : decode cX1_isUp 6 = .ok (.iconst 1, 1) := by decide +kernel
theorem dX1_isUp_7 : decode cX1_isUp 7 = .ok (.iand, 1) := by decide +kernel
theorem dX1_isUp_8 : decode cX1_isUp 8 = .ok (.iconst 1, 1) := by decide +kernel
theorem dX1_isUp_9 : decode cX1_isUp 9 = .ok (.if_icmp .ne 7, 3) := by decide +kernel
theorem dX1_isUp_12 : decode cX1_isUp 12 = .ok (.iconst 1, 1) := by decide +kernel
theorem dX1_isUp_13 : decode cX1_isUp 13 = .ok (.goto 4, 3) := by decide +kernel
theorem dX1_isUp_16 : decode cX1_isUp 16 = .ok (.iconst 0, 1) := by decide +kernel
theorem dX1_isUp_17 : decode cX1_isUp 17 = .ok (.ireturn, 1) := by decide +kernel
theorem dX1_isHeads_0 : decode cX1_isHeads 0 = .ok (.aload_n 0, 1) := by decide +kernel
theorem dX1_isHeads_1 : decode cX1_isHeads 1 = .ok (.aload_n 0, 1) := by decide +kernel
theorem dX1_isHeads_2 : decode cX1_isHeads 2 = .ok (.iload_n 1, 1) := by decide +kernel
theorem dX1_isHeads_3 : decode cX1_isHeads 3 = .ok (.invokevirtual 94, 3) := by decide +kernel
theorem dX1_isHeads_6 : decode cX1_isHeads 6 = .ok (.ifCond .eq 7, 3) := by decide +kernel
theorem dX1_isHeads_9 : decode cX1_isHeads 9 = .ok (.iconst 0, 1) := by decide +kernel
theorem dX1_isHeads_10 : decode cX1_isHeads 10 = .ok (.goto 4, 3) := by decide +kernel
theorem dX1_isHeads_13 : decode cX1_isHeads 13 = .ok (.iconst 1, 1) := by decide +kernel
theorem dX1_isHeads_14 : decode cX1_isHeads 14 = .ok (.putfield 19, 3) := by decide +kernel
theorem dX1_isHeads_17 : decode cX1_isHeads 17 = .ok (.aload_n 0, 1) := by decide +kernel
theorem dX1_isHeads_18 : decode cX1_isHeads 18 = .ok (.getfield 19, 3) := by decide +kernel
theorem dX1_isHeads_21 : decode cX1_isHeads 21 = .ok (.ifCond .ne 15, 3) := by decide +kernel
theorem dX1_isHeads_24 : decode cX1_isHeads 24 = .ok (.aload_n 0, 1) := by decide +kernel
theorem dX1_isHeads_25 : decode cX1_isHeads 25 = .ok (.iload_n 1, 1) := by decide +kernel
theorem dX1_isHeads_26 : decode cX1_isHeads 26 = .ok (.invokevirtual 100, 3) := by decide +kernel
theorem dX1_isHeads_29 : decode cX1_isHeads 29 = .ok (.ifCond .eq 7, 3) := by decide +kernel
theorem dX1_isHeads_32 : decode cX1_isHeads 32 = .ok (.iconst 1, 1) := by decide +kernel
theorem dX1_isHeads_33 : decode cX1_isHeads 33 = .ok (.goto 4, 3) := by decide +kernel
theorem dX1_isHeads_36 : decode cX1_isHeads 36 = .ok (.iconst 0, 1) := by decide +kernel
theorem dX1_isHeads_37 : decode cX1_isHeads 37 = .ok (.ireturn, 1) := by decide +kernel
theorem dX1_tenthsOf_0 : decode cX1_tenthsOf 0 = .ok (.aload_n 0, 1) := by decide +kernel
theorem dX1_tenthsOf_1 : decode cX1_tenthsOf 1 = .ok (.iconst 0, 1) := by decide +kernel
theorem dX1_tenthsOf_2 : decode cX1_tenthsOf 2 = .ok (.putfield 19, 3) := by decide +kernel
theorem dX1_tenthsOf_5 : decode cX1_tenthsOf 5 = .ok (.aload_n 0, 1) := by decide +kernel
theorem dX1_tenthsOf_6 : decode cX1_tenthsOf 6 = .ok (.iload_n 1, 1) := by decide +kernel
theorem dX1_tenthsOf_7 : decode cX1_tenthsOf 7 = .ok (.invokevirtual 80, 3) := by decide +kernel
theorem dX1_tenthsOf_10 : decode cX1_tenthsOf 10 = .ok (.ifCond .eq 12, 3) := by decide +kernel
theorem dX1_tenthsOf_13 : decode cX1_tenthsOf 13 = .ok (.aload_n 0, 1) := by decide +kernel
theorem dX1_tenthsOf_14 : decode cX1_tenthsOf 14 = .ok (.getfield 9, 3) := by decide +kernel
theorem dX1_tenthsOf_17 : decode cX1_tenthsOf 17 = .ok (.iload_n 1, 1) := by decide +kernel
theorem dX1_tenthsOf_18 : decode cX1_tenthsOf 18 = .ok (.iaload, 1) := by decide +kernel
theorem dX1_tenthsOf_19 : decode cX1_tenthsOf 19 = .ok (.goto 8, 3) := by decide +kernel
theorem dX1_tenthsOf_22 : decode cX1_tenthsOf 22 = .ok (.aload_n 0, 1) := by decide +kernel
theorem dX1_tenthsOf_23 : decode cX1_tenthsOf 23 = .ok (.iconst 1, 1) := by decide +kernel
theorem dX1_tenthsOf_24 : decode cX1_tenthsOf 24 = .ok (.invokevirtual 73, 3) := by decide +kernel
theorem dX1_tenthsOf_27 : decode cX1_tenthsOf 27 = .ok (.ireturn, 1) := by decide +kernel
theorem dX1_oddsOf_0 : decode cX1_oddsOf 0 = .ok (.aload_n 0, 1) := by decide +kernel
theorem dX1_oddsOf_1 : decode cX1_oddsOf 1 = .ok (.iconst 0, 1) := by decide +kernel
theorem dX1_oddsOf_2 : decode cX1_oddsOf 2 = .ok (.putfield 19, 3) := by decide +kernel
theorem dX1_oddsOf_5 : decode cX1_oddsOf 5 = .ok (.aload_n 0, 1) := by decide +kernel
theorem dX1_oddsOf_6 : decode cX1_oddsOf 6 = .ok (.iload_n 1, 1) := by decide +kernel
theorem dX1_oddsOf_7 : decode cX1_oddsOf 7 = .ok (.invokevirtual 76, 3) := by decide +kernel
theorem dX1_oddsOf_10 : decode cX1_oddsOf 10 = .ok (.ifCond .eq 12, 3) := by decide +kernel
theorem dX1_oddsOf_13 : decode cX1_oddsOf 13 = .ok (.aload_n 0, 1) := by decide +kernel
theorem dX1_oddsOf_14 : decode cX1_oddsOf 14 = .ok (.getfield 13, 3) := by decide +kernel
theorem dX1_oddsOf_17 : decode cX1_oddsOf 17 = .ok (.iload_n 1, 1) := by decide +kernel
theorem dX1_oddsOf_18 : decode cX1_oddsOf 18 = .ok (.iaload, 1) := by decide +kernel
theorem dX1_oddsOf_19 : decode cX1_oddsOf 19 = .ok (.goto 8, 3) := by decide +kernel
theorem dX1_oddsOf_22 : decode cX1_oddsOf 22 = .ok (.aload_n 0, 1) := by decide +kernel
theorem dX1_oddsOf_23 : decode cX1_oddsOf 23 = .ok (.iconst 1, 1) := by decide +kernel
theorem dX1_oddsOf_24 : decode cX1_oddsOf 24 = .ok (.invokevirtual 73, 3) := by decide +kernel
theorem dX1_oddsOf_27 : decode cX1_oddsOf 27 = .ok (.ireturn, 1) := by decide +kernel
theorem dX1_shareOf_0 : decode cX1_shareOf 0 = .ok (.aload_n 0, 1) := by decide +kernel
theorem dX1_shareOf_1 : decode cX1_shareOf 1 = .ok (.iconst 0, 1) := by decide +kernel
theorem dX1_shareOf_2 : decode cX1_shareOf 2 = .ok (.putfield 19, 3) := by decide +kernel
theorem dX1_shareOf_5 : decode cX1_shareOf 5 = .ok (.aload_n 0, 1) := by decide +kernel
theorem dX1_shareOf_6 : decode cX1_shareOf 6 = .ok (.iload_n 1, 1) := by decide +kernel
theorem dX1_shareOf_7 : decode cX1_shareOf 7 = .ok (.invokevirtual 76, 3) := by decide +kernel
theorem dX1_shareOf_10 : decode cX1_shareOf 10 = .ok (.ifCond .eq 24, 3) := by decide +kernel
theorem dX1_shareOf_13 : decode cX1_shareOf 13 = .ok (.aload_n 0, 1) := by decide +kernel
theorem dX1_shareOf_14 : decode cX1_shareOf 14 = .ok (.iload_n 2, 1) := by decide +kernel
theorem dX1_shareOf_15 : decode cX1_shareOf 15 = .ok (.invokevirtual 80, 3) := by decide +kernel
theorem dX1_shareOf_18 : decode cX1_shareOf 18 = .ok (.ifCond .eq 16, 3) := by decide +kernel
theorem dX1_shareOf_21 : decode cX1_shareOf 21 = .ok (.aload_n 0, 1) := by decide +kernel
theorem dX1_shareOf_22 : decode cX1_shareOf 22 = .ok (.getfield 16, 3) := by decide +kernel
theorem dX1_shareOf_25 : decode cX1_shareOf 25 = .ok (.iconst 4, 1) := by decide +kernel
theorem dX1_shareOf_26 : decode cX1_shareOf 26 = .ok (.iload_n 2, 1) := by decide +kernel
theorem dX1_shareOf_27 : decode cX1_shareOf 27 = .ok (.imul, 1) := by decide +kernel
theorem dX1_shareOf_28 : decode cX1_shareOf 28 = .ok (.iload_n 1, 1) := by decide +kernel
theorem dX1_shareOf_29 : decode cX1_shareOf 29 = .ok (.iadd, 1) := by decide +kernel
theorem dX1_shareOf_30 : decode cX1_shareOf 30 = .ok (.iaload, 1) := by decide +kernel
theorem dX1_shareOf_31 : decode cX1_shareOf 31 = .ok (.goto 8, 3) := by decide +kernel
theorem dX1_shareOf_34 : decode cX1_shareOf 34 = .ok (.aload_n 0, 1) := by decide +kernel
theorem dX1_shareOf_35 : decode cX1_shareOf 35 = .ok (.iconst 1, 1) := by decide +kernel
theorem dX1_shareOf_36 : decode cX1_shareOf 36 = .ok (.invokevirtual 73, 3) := by decide +kernel
theorem dX1_shareOf_39 : decode cX1_shareOf 39 = .ok (.ireturn, 1) := by decide +kernel
theorem dX1_pair_0 : decode cX1_pair 0 = .ok (.aload_n 0, 1) := by decide +kernel
theorem dX1_pair_1 : decode cX1_pair 1 = .ok (.getfield 13, 3) := by decide +kernel
theorem dX1_pair_4 : decode cX1_pair 4 = .ok (.iload_n 1, 1) := by decide +kernel
theorem dX1_pair_5 : decode cX1_pair 5 = .ok (.iaload, 1) := by decide +kernel
theorem dX1_pair_6 : decode cX1_pair 6 = .ok (.aload_n 0, 1) := by decide +kernel
theorem dX1_pair_7 : decode cX1_pair 7 = .ok (.getfield 16, 3) := by decide +kernel
theorem dX1_pair_10 : decode cX1_pair 10 = .ok (.iconst 4, 1) := by decide +kernel
theorem dX1_pair_11 : decode cX1_pair 11 = .ok (.iload_n 2, 1) := by decide +kernel
theorem dX1_pair_12 : decode cX1_pair 12 = .ok (.imul, 1) := by decide +kernel
theorem dX1_pair_13 : decode cX1_pair 13 = .ok (.iload_n 1, 1) := by decide +kernel
theorem dX1_pair_14 : decode cX1_pair 14 = .ok (.iadd, 1) := by decide +kernel
theorem dX1_pair_15 : decode cX1_pair 15 = .ok (.iaload, 1) := by decide +kernel
theorem dX1_pair_16 : decode cX1_pair 16 = .ok (.imul, 1) := by decide +kernel
theorem dX1_pair_17 : decode cX1_pair 17 = .ok (.i2l, 1) := by decide +kernel
theorem dX1_pair_18 : decode cX1_pair 18 = .ok (.aload_n 0, 1) := by decide +kernel
theorem dX1_pair_19 : decode cX1_pair 19 = .ok (.iload_n 2, 1) := by decide +kernel
theorem dX1_pair_20 : decode cX1_pair 20 = .ok (.aload_n 0, 1) := by decide +kernel
theorem dX1_pair_21 : decode cX1_pair 21 = .ok (.invokevirtual 69, 3) := by decide +kernel
theorem dX1_pair_24 : decode cX1_pair 24 = .ok (.aload_n 0, 1) := by decide +kernel
theorem dX1_pair_25 : decode cX1_pair 25 = .ok (.getfield 33, 3) := by decide +kernel
theorem dX1_pair_28 : decode cX1_pair 28 = .ok (.aload_n 0, 1) := by decide +kernel
theorem dX1_pair_29 : decode cX1_pair 29 = .ok (.invokevirtual 69, 3) := by decide +kernel
theorem dX1_pair_32 : decode cX1_pair 32 = .ok (.isub, 1) := by decide +kernel
theorem dX1_pair_33 : decode cX1_pair 33 = .ok (.invokevirtual 51, 3) := by decide +kernel
theorem dX1_pair_36 : decode cX1_pair 36 = .ok (.lmul, 1) := by decide +kernel
theorem dX1_pair_37 : decode cX1_pair 37 = .ok (.lreturn, 1) := by decide +kernel
theorem dX1_schoolHere_0 : decode cX1_schoolHere 0 = .ok (.lconst 0, 1) := by decide +kernel
theorem dX1_schoolHere_1 : decode cX1_schoolHere 1 = .ok (.lstore_n 2, 1) := by decide +kernel
theorem dX1_schoolHere_2 : decode cX1_schoolHere 2 = .ok (.iconst 0, 1) := by decide +kernel
theorem dX1_schoolHere_3 : decode cX1_schoolHere 3 = .ok (.istore 4, 2) := by decide +kernel
theorem dX1_schoolHere_5 : decode cX1_schoolHere 5 = .ok (.iload 4, 2) := by decide +kernel
theorem dX1_schoolHere_7 : decode cX1_schoolHere 7 = .ok (.aload_n 0, 1) := by decide +kernel
theorem dX1_schoolHere_8 : decode cX1_schoolHere 8 = .ok (.getfield 23, 3) := by decide +kernel
theorem dX1_schoolHere_11 : decode cX1_schoolHere 11 = .ok (.if_icmp .ge 19, 3) := by decide +kernel
theorem dX1_schoolHere_14 : decode cX1_schoolHere 14 = .ok (.lload_n 2, 1) := by decide +kernel
theorem dX1_schoolHere_15 : decode cX1_schoolHere 15 = .ok (.aload_n 0, 1) := by decide +kernel
theorem dX1_schoolHere_16 : decode cX1_schoolHere 16 = .ok (.iload_n 1, 1) := by decide +kernel
theorem dX1_schoolHere_17 : decode cX1_schoolHere 17 = .ok (.iload 4, 2) := by decide +kernel
theorem dX1_schoolHere_19 : decode cX1_schoolHere 19 = .ok (.invokevirtual 103, 3) := by decide +kernel
theorem dX1_schoolHere_22 : decode cX1_schoolHere 22 = .ok (.ladd, 1) := by decide +kernel
theorem dX1_schoolHere_23 : decode cX1_schoolHere 23 = .ok (.lstore_n 2, 1) := by decide +kernel
theorem dX1_schoolHere_24 : decode cX1_schoolHere 24 = .ok (.iinc 4 1, 3) := by decide +kernel
theorem dX1_schoolHere_27 : decode cX1_schoolHere 27 = .ok (.goto (-22), 3) := by decide +kernel
theorem dX1_schoolHere_30 : decode cX1_schoolHere 30 = .ok (.lload_n 2, 1) := by decide +kernel
theorem dX1_schoolHere_31 : decode cX1_schoolHere 31 = .ok (.lreturn, 1) := by decide +kernel
theorem dX1_weightOf_0 : decode cX1_weightOf 0 = .ok (.aload_n 0, 1) := by decide +kernel
theorem dX1_weightOf_1 : decode cX1_weightOf 1 = .ok (.iconst 0, 1) := by decide +kernel
theorem dX1_weightOf_2 : decode cX1_weightOf 2 = .ok (.putfield 19, 3) := by decide +kernel
theorem dX1_weightOf_5 : decode cX1_weightOf 5 = .ok (.aload_n 0, 1) := by decide +kernel
theorem dX1_weightOf_6 : decode cX1_weightOf 6 = .ok (.iload_n 1, 1) := by decide +kernel
theorem dX1_weightOf_7 : decode cX1_weightOf 7 = .ok (.invokevirtual 76, 3) := by decide +kernel
theorem dX1_weightOf_10 : decode cX1_weightOf 10 = .ok (.ifCond .eq 20, 3) := by decide +kernel
theorem dX1_weightOf_13 : decode cX1_weightOf 13 = .ok (.aload_n 0, 1) := by decide +kernel
theorem dX1_weightOf_14 : decode cX1_weightOf 14 = .ok (.iload_n 2, 1) := by decide +kernel
theorem dX1_weightOf_15 : decode cX1_weightOf 15 = .ok (.invokevirtual 80, 3) := by decide +kernel
theorem dX1_weightOf_18 : decode cX1_weightOf 18 = .ok (.ifCond .eq 12, 3) := by decide +kernel
theorem dX1_weightOf_21 : decode cX1_weightOf 21 = .ok (.aload_n 0, 1) := by decide +kernel
theorem dX1_weightOf_22 : decode cX1_weightOf 22 = .ok (.iload_n 1, 1) := by decide +kernel
theorem dX1_weightOf_23 : decode cX1_weightOf 23 = .ok (.iload_n 2, 1) := by decide +kernel
theorem dX1_weightOf_24 : decode cX1_weightOf 24 = .ok (.invokevirtual 103, 3) := by decide +kernel
theorem dX1_weightOf_27 : decode cX1_weightOf 27 = .ok (.goto 9, 3) := by decide +kernel
theorem dX1_weightOf_30 : decode cX1_weightOf 30 = .ok (.aload_n 0, 1) := by decide +kernel
theorem dX1_weightOf_31 : decode cX1_weightOf 31 = .ok (.iconst 1, 1) := by decide +kernel
theorem dX1_weightOf_32 : decode cX1_weightOf 32 = .ok (.invokevirtual 73, 3) := by decide +kernel
theorem dX1_weightOf_35 : decode cX1_weightOf 35 = .ok (.i2l, 1) := by decide +kernel
theorem dX1_weightOf_36 : decode cX1_weightOf 36 = .ok (.lreturn, 1) := by decide +kernel
theorem dX1_coinWeight_0 : decode cX1_coinWeight 0 = .ok (.aload_n 0, 1) := by decide +kernel
theorem dX1_coinWeight_1 : decode cX1_coinWeight 1 = .ok (.iconst 0, 1) := by decide +kernel
theorem dX1_coinWeight_2 : decode cX1_coinWeight 2 = .ok (.putfield 19, 3) := by decide +kernel
theorem dX1_coinWeight_5 : decode cX1_coinWeight 5 = .ok (.aload_n 0, 1) := by decide +kernel
theorem dX1_coinWeight_6 : decode cX1_coinWeight 6 = .ok (.iload_n 1, 1) := by decide +kernel
theorem dX1_coinWeight_7 : decode cX1_coinWeight 7 = .ok (.invokevirtual 80, 3) := by decide +kernel
theorem dX1_coinWeight_10 : decode cX1_coinWeight 10 = .ok (.ifCond .eq 11, 3) := by decide +kernel
theorem dX1_coinWeight_13 : decode cX1_coinWeight 13 = .ok (.aload_n 0, 1) := by decide +kernel
theorem dX1_coinWeight_14 : decode cX1_coinWeight 14 = .ok (.iload_n 1, 1) := by decide +kernel
theorem dX1_coinWeight_15 : decode cX1_coinWeight 15 = .ok (.invokevirtual 106, 3) := by decide +kernel
theorem dX1_coinWeight_18 : decode cX1_coinWeight 18 = .ok (.goto 9, 3) := by decide +kernel
theorem dX1_coinWeight_21 : decode cX1_coinWeight 21 = .ok (.aload_n 0, 1) := by decide +kernel
theorem dX1_coinWeight_22 : decode cX1_coinWeight 22 = .ok (.iconst 1, 1) := by decide +kernel
theorem dX1_coinWeight_23 : decode cX1_coinWeight 23 = .ok (.invokevirtual 73, 3) := by decide +kernel
theorem dX1_coinWeight_26 : decode cX1_coinWeight 26 = .ok (.i2l, 1) := by decide +kernel
theorem dX1_coinWeight_27 : decode cX1_coinWeight 27 = .ok (.lreturn, 1) := by decide +kernel
theorem dX1_schoolWeight_0 : decode cX1_schoolWeight 0 = .ok (.aload_n 0, 1) := by decide +kernel
theorem dX1_schoolWeight_1 : decode cX1_schoolWeight 1 = .ok (.iconst 0, 1) := by decide +kernel
theorem dX1_schoolWeight_2 : decode cX1_schoolWeight 2 = .ok (.putfield 19, 3) := by decide +kernel
theorem dX1_schoolWeight_5 : decode cX1_schoolWeight 5 = .ok (.aload_n 0, 1) := by decide +kernel
theorem dX1_schoolWeight_6 : decode cX1_schoolWeight 6 = .ok (.iload_n 1, 1) := by decide +kernel
theorem dX1_schoolWeight_7 : decode cX1_schoolWeight 7 = .ok (.invokevirtual 76, 3) := by decide +kernel
theorem dX1_schoolWeight_10 : decode cX1_schoolWeight 10 = .ok (.ifCond .eq 11, 3) := by decide +kernel
theorem dX1_schoolWeight_13 : decode cX1_schoolWeight 13 = .ok (.aload_n 0, 1) := by decide +kernel
theorem dX1_schoolWeight_14 : decode cX1_schoolWeight 14 = .ok (.iload_n 1, 1) := by decide +kernel
theorem dX1_schoolWeight_15 : decode cX1_schoolWeight 15 = .ok (.invokevirtual 110, 3) := by decide +kernel
theorem dX1_schoolWeight_18 : decode cX1_schoolWeight 18 = .ok (.goto 9, 3) := by decide +kernel
theorem dX1_schoolWeight_21 : decode cX1_schoolWeight 21 = .ok (.aload_n 0, 1) := by decide +kernel
theorem dX1_schoolWeight_22 : decode cX1_schoolWeight 22 = .ok (.iconst 1, 1) := by decide +kernel
theorem dX1_schoolWeight_23 : decode cX1_schoolWeight 23 = .ok (.invokevirtual 73, 3) := by decide +kernel
theorem dX1_schoolWeight_26 : decode cX1_schoolWeight 26 = .ok (.i2l, 1) := by decide +kernel
theorem dX1_schoolWeight_27 : decode cX1_schoolWeight 27 = .ok (.lreturn, 1) := by decide +kernel
theorem dX1_wholeWeight_0 : decode cX1_wholeWeight 0 = .ok (.aload_n 0, 1) := by decide +kernel
theorem dX1_wholeWeight_1 : decode cX1_wholeWeight 1 = .ok (.iconst 0, 1) := by decide +kernel
theorem dX1_wholeWeight_2 : decode cX1_wholeWeight 2 = .ok (.putfield 19, 3) := by decide +kernel
theorem dX1_wholeWeight_5 : decode cX1_wholeWeight 5 = .ok (.aload_n 0, 1) := by decide +kernel
theorem dX1_wholeWeight_6 : decode cX1_wholeWeight 6 = .ok (.invokevirtual 113, 3) := by decide +kernel
theorem dX1_wholeWeight_9 : decode cX1_wholeWeight 9 = .ok (.lreturn, 1) := by decide +kernel
theorem dX1_isRuledOut_0 : decode cX1_isRuledOut 0 = .ok (.aload_n 0, 1) := by decide +kernel
theorem dX1_isRuledOut_1 : decode cX1_isRuledOut 1 = .ok (.aload_n 0, 1) := by decide +kernel
theorem dX1_isRuledOut_2 : decode cX1_isRuledOut 2 = .ok (.iload_n 1, 1) := by decide +kernel
theorem dX1_isRuledOut_3 : decode cX1_isRuledOut 3 = .ok (.invokevirtual 80, 3) := by decide +kernel
theorem dX1_isRuledOut_6 : decode cX1_isRuledOut 6 = .ok (.ifCond .eq 7, 3) := by decide +kernel
theorem dX1_isRuledOut_9 : decode cX1_isRuledOut 9 = .ok (.iconst 0, 1) := by decide +kernel
theorem dX1_isRuledOut_10 : decode cX1_isRuledOut 10 = .ok (.goto 4, 3) := by decide +kernel
theorem dX1_isRuledOut_13 : decode cX1_isRuledOut 13 = .ok (.iconst 1, 1) := by decide +kernel
theorem dX1_isRuledOut_14 : decode cX1_isRuledOut 14 = .ok (.putfield 19, 3) := by decide +kernel
theorem dX1_isRuledOut_17 : decode cX1_isRuledOut 17 = .ok (.aload_n 0, 1) := by decide +kernel
theorem dX1_isRuledOut_18 : decode cX1_isRuledOut 18 = .ok (.getfield 19, 3) := by decide +kernel
theorem dX1_isRuledOut_21 : decode cX1_isRuledOut 21 = .ok (.ifCond .ne 17, 3) := by decide +kernel
theorem dX1_isRuledOut_24 : decode cX1_isRuledOut 24 = .ok (.aload_n 0, 1) := by decide +kernel
theorem dX1_isRuledOut_25 : decode cX1_isRuledOut 25 = .ok (.iload_n 1, 1) := by decide +kernel
theorem dX1_isRuledOut_26 : decode cX1_isRuledOut 26 = .ok (.invokevirtual 106, 3) := by decide +kernel
theorem dX1_isRuledOut_29 : decode cX1_isRuledOut 29 = .ok (.lconst 0, 1) := by decide +kernel
theorem dX1_isRuledOut_30 : decode cX1_isRuledOut 30 = .ok (.lcmp, 1) := by decide +kernel
theorem dX1_isRuledOut_31 : decode cX1_isRuledOut 31 = .ok (.ifCond .ne 7, 3) := by decide +kernel
theorem dX1_isRuledOut_34 : decode cX1_isRuledOut 34 = .ok (.iconst 1, 1) := by decide +kernel
theorem dX1_isRuledOut_35 : decode cX1_isRuledOut 35 = .ok (.goto 4, 3) := by decide +kernel
theorem dX1_isRuledOut_38 : decode cX1_isRuledOut 38 = .ok (.iconst 0, 1) := by decide +kernel
theorem dX1_isRuledOut_39 : decode cX1_isRuledOut 39 = .ok (.ireturn, 1) := by decide +kernel
theorem dX1_gone_0 : decode cX1_gone 0 = .ok (.iconst 0, 1) := by decide +kernel
theorem dX1_gone_1 : decode cX1_gone 1 = .ok (.istore_n 1, 1) := by decide +kernel
theorem dX1_gone_2 : decode cX1_gone 2 = .ok (.iconst 0, 1) := by decide +kernel
theorem dX1_gone_3 : decode cX1_gone 3 = .ok (.istore_n 2, 1) := by decide +kernel
theorem dX1_gone_4 : decode cX1_gone 4 = .ok (.iload_n 2, 1) := by decide +kernel
theorem dX1_gone_5 : decode cX1_gone 5 = .ok (.aload_n 0, 1) := by decide +kernel
theorem dX1_gone_6 : decode cX1_gone 6 = .ok (.getfield 23, 3) := by decide +kernel
theorem dX1_gone_9 : decode cX1_gone 9 = .ok (.if_icmp .ge 27, 3) := by decide +kernel
theorem dX1_gone_12 : decode cX1_gone 12 = .ok (.iload_n 1, 1) := by decide +kernel
theorem dX1_gone_13 : decode cX1_gone 13 = .ok (.aload_n 0, 1) := by decide +kernel
theorem dX1_gone_14 : decode cX1_gone 14 = .ok (.iload_n 2, 1) := by decide +kernel
theorem dX1_gone_15 : decode cX1_gone 15 = .ok (.invokevirtual 106, 3) := by decide +kernel
theorem dX1_gone_18 : decode cX1_gone 18 = .ok (.lconst 0, 1) := by decide +kernel
theorem dX1_gone_19 : decode cX1_gone 19 = .ok (.lcmp, 1) := by decide +kernel
theorem dX1_gone_20 : decode cX1_gone 20 = .ok (.ifCond .ne 7, 3) := by decide +kernel
theorem dX1_gone_23 : decode cX1_gone 23 = .ok (.iconst 1, 1) := by decide +kernel
theorem dX1_gone_24 : decode cX1_gone 24 = .ok (.goto 4, 3) := by decide +kernel
theorem dX1_gone_27 : decode cX1_gone 27 = .ok (.iconst 0, 1) := by decide +kernel
theorem dX1_gone_28 : decode cX1_gone 28 = .ok (.iadd, 1) := by decide +kernel
theorem dX1_gone_29 : decode cX1_gone 29 = .ok (.istore_n 1, 1) := by decide +kernel
theorem dX1_gone_30 : decode cX1_gone 30 = .ok (.iinc 2 1, 3) := by decide +kernel
theorem dX1_gone_33 : decode cX1_gone 33 = .ok (.goto (-29), 3) := by decide +kernel
theorem dX1_gone_36 : decode cX1_gone 36 = .ok (.iload_n 1, 1) := by decide +kernel
theorem dX1_gone_37 : decode cX1_gone 37 = .ok (.ireturn, 1) := by decide +kernel
theorem dX1_ruledOut_0 : decode cX1_ruledOut 0 = .ok (.aload_n 0, 1) := by decide +kernel
theorem dX1_ruledOut_1 : decode cX1_ruledOut 1 = .ok (.aload_n 0, 1) := by decide +kernel
theorem dX1_ruledOut_2 : decode cX1_ruledOut 2 = .ok (.invokevirtual 117, 3) := by decide +kernel
theorem dX1_ruledOut_5 : decode cX1_ruledOut 5 = .ok (.invokevirtual 97, 3) := by decide +kernel
theorem dX1_ruledOut_8 : decode cX1_ruledOut 8 = .ok (.ireturn, 1) := by decide +kernel
theorem dX1_coinPercent_0 : decode cX1_coinPercent 0 = .ok (.aload_n 0, 1) := by decide +kernel
theorem dX1_coinPercent_1 : decode cX1_coinPercent 1 = .ok (.iconst 0, 1) := by decide +kernel
theorem dX1_coinPercent_2 : decode cX1_coinPercent 2 = .ok (.putfield 19, 3) := by decide +kernel
theorem dX1_coinPercent_5 : decode cX1_coinPercent 5 = .ok (.aload_n 0, 1) := by decide +kernel
theorem dX1_coinPercent_6 : decode cX1_coinPercent 6 = .ok (.iload_n 1, 1) := by decide +kernel
theorem dX1_coinPercent_7 : decode cX1_coinPercent 7 = .ok (.invokevirtual 80, 3) := by decide +kernel
theorem dX1_coinPercent_10 : decode cX1_coinPercent 10 = .ok (.ifCond .ne 9, 3) := by decide +kernel
theorem dX1_coinPercent_13 : decode cX1_coinPercent 13 = .ok (.aload_n 0, 1) := by decide +kernel
theorem dX1_coinPercent_14 : decode cX1_coinPercent 14 = .ok (.iconst 1, 1) := by decide +kernel
theorem dX1_coinPercent_15 : decode cX1_coinPercent 15 = .ok (.invokevirtual 73, 3) := by decide +kernel
theorem dX1_coinPercent_18 : decode cX1_coinPercent 18 = .ok (.ireturn, 1) := by decide +kernel
theorem dX1_coinPercent_19 : decode cX1_coinPercent 19 = .ok (.aload_n 0, 1) := by decide +kernel
theorem dX1_coinPercent_20 : decode cX1_coinPercent 20 = .ok (.invokevirtual 113, 3) := by decide +kernel
theorem dX1_coinPercent_23 : decode cX1_coinPercent 23 = .ok (.lconst 0, 1) := by decide +kernel
theorem dX1_coinPercent_24 : decode cX1_coinPercent 24 = .ok (.lcmp, 1) := by decide +kernel
theorem dX1_coinPercent_25 : decode cX1_coinPercent 25 = .ok (.ifCond .ne 11, 3) := by decide +kernel
theorem dX1_coinPercent_28 : decode cX1_coinPercent 28 = .ok (.aload_n 0, 1) := by decide +kernel
theorem dX1_coinPercent_29 : decode cX1_coinPercent 29 = .ok (.iconst 2, 1) := by decide +kernel
theorem dX1_coinPercent_30 : decode cX1_coinPercent 30 = .ok (.invokevirtual 73, 3) := by decide +kernel
theorem dX1_coinPercent_33 : decode cX1_coinPercent 33 = .ok (.goto 18, 3) := by decide +kernel
theorem dX1_coinPercent_36 : decode cX1_coinPercent 36 = .ok (.aload_n 0, 1) := by decide +kernel
theorem dX1_coinPercent_37 : decode cX1_coinPercent 37 = .ok (.iload_n 1, 1) := by decide +kernel
theorem dX1_coinPercent_38 : decode cX1_coinPercent 38 = .ok (.invokevirtual 106, 3) := by decide +kernel
theorem dX1_coinPercent_41 : decode cX1_coinPercent 41 = .ok (.ldc2_w 120, 3) := by decide +kernel
theorem dX1_coinPercent_44 : decode cX1_coinPercent 44 = .ok (.lmul, 1) := by decide +kernel
theorem dX1_coinPercent_45 : decode cX1_coinPercent 45 = .ok (.aload_n 0, 1) := by decide +kernel
theorem dX1_coinPercent_46 : decode cX1_coinPercent 46 = .ok (.invokevirtual 113, 3) := by decide +kernel
theorem dX1_coinPercent_49 : decode cX1_coinPercent 49 = .ok (.ldiv, 1) := by decide +kernel
theorem dX1_coinPercent_50 : decode cX1_coinPercent 50 = .ok (.l2i, 1) := by decide +kernel
theorem dX1_coinPercent_51 : decode cX1_coinPercent 51 = .ok (.ireturn, 1) := by decide +kernel
theorem dX1_schoolPercent_0 : decode cX1_schoolPercent 0 = .ok (.aload_n 0, 1) := by decide +kernel
theorem dX1_schoolPercent_1 : decode cX1_schoolPercent 1 = .ok (.iconst 0, 1) := by decide +kernel
theorem dX1_schoolPercent_2 : decode cX1_schoolPercent 2 = .ok (.putfield 19, 3) := by decide +kernel
theorem dX1_schoolPercent_5 : decode cX1_schoolPercent 5 = .ok (.aload_n 0, 1) := by decide +kernel
theorem dX1_schoolPercent_6 : decode cX1_schoolPercent 6 = .ok (.iload_n 1, 1) := by decide +kernel
theorem dX1_schoolPercent_7 : decode cX1_schoolPercent 7 = .ok (.invokevirtual 76, 3) := by decide +kernel
theorem dX1_schoolPercent_10 : decode cX1_schoolPercent 10 = .ok (.ifCond .ne 9, 3) := by decide +kernel
theorem dX1_schoolPercent_13 : decode cX1_schoolPercent 13 = .ok (.aload_n 0, 1) := by decide +kernel
theorem dX1_schoolPercent_14 : decode cX1_schoolPercent 14 = .ok (.iconst 1, 1) := by decide +kernel
theorem dX1_schoolPercent_15 : decode cX1_schoolPercent 15 = .ok (.invokevirtual 73, 3) := by decide +kernel
theorem dX1_schoolPercent_18 : decode cX1_schoolPercent 18 = .ok (.ireturn, 1) := by decide +kernel
theorem dX1_schoolPercent_19 : decode cX1_schoolPercent 19 = .ok (.aload_n 0, 1) := by decide +kernel
theorem dX1_schoolPercent_20 : decode cX1_schoolPercent 20 = .ok (.invokevirtual 113, 3) := by decide +kernel
theorem dX1_schoolPercent_23 : decode cX1_schoolPercent 23 = .ok (.lconst 0, 1) := by decide +kernel
theorem dX1_schoolPercent_24 : decode cX1_schoolPercent 24 = .ok (.lcmp, 1) := by decide +kernel
theorem dX1_schoolPercent_25 : decode cX1_schoolPercent 25 = .ok (.ifCond .ne 11, 3) := by decide +kernel
theorem dX1_schoolPercent_28 : decode cX1_schoolPercent 28 = .ok (.aload_n 0, 1) := by decide +kernel
theorem dX1_schoolPercent_29 : decode cX1_schoolPercent 29 = .ok (.iconst 2, 1) := by decide +kernel
theorem dX1_schoolPercent_30 : decode cX1_schoolPercent 30 = .ok (.invokevirtual 73, 3) := by decide +kernel
theorem dX1_schoolPercent_33 : decode cX1_schoolPercent 33 = .ok (.goto 18, 3) := by decide +kernel
theorem dX1_schoolPercent_36 : decode cX1_schoolPercent 36 = .ok (.aload_n 0, 1) := by decide +kernel
theorem dX1_schoolPercent_37 : decode cX1_schoolPercent 37 = .ok (.iload_n 1, 1) := by decide +kernel
theorem dX1_schoolPercent_38 : decode cX1_schoolPercent 38 = .ok (.invokevirtual 110, 3) := by decide +kernel
theorem dX1_schoolPercent_41 : decode cX1_schoolPercent 41 = .ok (.ldc2_w 120, 3) := by decide +kernel
theorem dX1_schoolPercent_44 : decode cX1_schoolPercent 44 = .ok (.lmul, 1) := by decide +kernel
theorem dX1_schoolPercent_45 : decode cX1_schoolPercent 45 = .ok (.aload_n 0, 1) := by decide +kernel
theorem dX1_schoolPercent_46 : decode cX1_schoolPercent 46 = .ok (.invokevirtual 113, 3) := by decide +kernel
theorem dX1_schoolPercent_49 : decode cX1_schoolPercent 49 = .ok (.ldiv, 1) := by decide +kernel
theorem dX1_schoolPercent_50 : decode cX1_schoolPercent 50 = .ok (.l2i, 1) := by decide +kernel
theorem dX1_schoolPercent_51 : decode cX1_schoolPercent 51 = .ok (.ireturn, 1) := by decide +kernel
theorem dX1_leads_0 : decode cX1_leads 0 = .ok (.aload_n 0, 1) := by decide +kernel
theorem dX1_leads_1 : decode cX1_leads 1 = .ok (.aload_n 0, 1) := by decide +kernel
theorem dX1_leads_2 : decode cX1_leads 2 = .ok (.invokevirtual 69, 3) := by decide +kernel
theorem dX1_leads_5 : decode cX1_leads 5 = .ok (.aload_n 0, 1) := by decide +kernel
theorem dX1_leads_6 : decode cX1_leads 6 = .ok (.getfield 33, 3) := by decide +kernel
theorem dX1_leads_9 : decode cX1_leads 9 = .ok (.aload_n 0, 1) := by decide +kernel
theorem dX1_leads_10 : decode cX1_leads 10 = .ok (.invokevirtual 69, 3) := by decide +kernel
theorem dX1_leads_13 : decode cX1_leads 13 = .ok (.isub, 1) := by decide +kernel
theorem dX1_leads_14 : decode cX1_leads 14 = .ok (.invokevirtual 122, 3) := by decide +kernel
theorem dX1_leads_17 : decode cX1_leads 17 = .ok (.ireturn, 1) := by decide +kernel
theorem dX1_leadingCoin_0 : decode cX1_leadingCoin 0 = .ok (.aload_n 0, 1) := by decide +kernel
theorem dX1_leadingCoin_1 : decode cX1_leadingCoin 1 = .ok (.iconst 0, 1) := by decide +kernel
theorem dX1_leadingCoin_2 : decode cX1_leadingCoin 2 = .ok (.putfield 19, 3) := by decide +kernel
theorem dX1_leadingCoin_5 : decode cX1_leadingCoin 5 = .ok (.aload_n 0, 1) := by decide +kernel
theorem dX1_leadingCoin_6 : decode cX1_leadingCoin 6 = .ok (.invokevirtual 113, 3) := by decide +kernel
theorem dX1_leadingCoin_9 : decode cX1_leadingCoin 9 = .ok (.lconst 0, 1) := by decide +kernel
theorem dX1_leadingCoin_10 : decode cX1_leadingCoin 10 = .ok (.lcmp, 1) := by decide +kernel
theorem dX1_leadingCoin_11 : decode cX1_leadingCoin 11 = .ok (.ifCond .ne 11, 3) := by decide +kernel
theorem dX1_leadingCoin_14 : decode cX1_leadingCoin 14 = .ok (.aload_n 0, 1) := by decide +kernel
theorem dX1_leadingCoin_15 : decode cX1_leadingCoin 15 = .ok (.iconst 1, 1) := by decide +kernel
theorem dX1_leadingCoin_16 : decode cX1_leadingCoin 16 = .ok (.invokevirtual 73, 3) := by decide +kernel
theorem dX1_leadingCoin_19 : decode cX1_leadingCoin 19 = .ok (.goto 7, 3) := by decide +kernel
theorem dX1_leadingCoin_22 : decode cX1_leadingCoin 22 = .ok (.aload_n 0, 1) := by decide +kernel
theorem dX1_leadingCoin_23 : decode cX1_leadingCoin 23 = .ok (.invokevirtual 125, 3) := by decide +kernel
theorem dX1_leadingCoin_26 : decode cX1_leadingCoin 26 = .ok (.ireturn, 1) := by decide +kernel
theorem dX1_leadingSchool_0 : decode cX1_leadingSchool 0 = .ok (.aload_n 0, 1) := by decide +kernel
theorem dX1_leadingSchool_1 : decode cX1_leadingSchool 1 = .ok (.iconst 0, 1) := by decide +kernel
theorem dX1_leadingSchool_2 : decode cX1_leadingSchool 2 = .ok (.putfield 19, 3) := by decide +kernel
theorem dX1_leadingSchool_5 : decode cX1_leadingSchool 5 = .ok (.aload_n 0, 1) := by decide +kernel
theorem dX1_leadingSchool_6 : decode cX1_leadingSchool 6 = .ok (.invokevirtual 113, 3) := by decide +kernel
theorem dX1_leadingSchool_9 : decode cX1_leadingSchool 9 = .ok (.lconst 0, 1) := by decide +kernel
theorem dX1_leadingSchool_10 : decode cX1_leadingSchool 10 = .ok (.lcmp, 1) := by decide +kernel
theorem dX1_leadingSchool_11 : decode cX1_leadingSchool 11 = .ok (.ifCond .ne 9, 3) := by decide +kernel
theorem dX1_leadingSchool_14 : decode cX1_leadingSchool 14 = .ok (.aload_n 0, 1) := by decide +kernel
theorem dX1_leadingSchool_15 : decode cX1_leadingSchool 15 = .ok (.iconst 1, 1) := by decide +kernel
theorem dX1_leadingSchool_16 : decode cX1_leadingSchool 16 = .ok (.invokevirtual 73, 3) := by decide +kernel
theorem dX1_leadingSchool_19 : decode cX1_leadingSchool 19 = .ok (.ireturn, 1) := by decide +kernel
theorem dX1_leadingSchool_20 : decode cX1_leadingSchool 20 = .ok (.iconst 0, 1) := by decide +kernel
theorem dX1_leadingSchool_21 : decode cX1_leadingSchool 21 = .ok (.istore_n 1, 1) := by decide +kernel
theorem dX1_leadingSchool_22 : decode cX1_leadingSchool 22 = .ok (.iconst 1, 1) := by decide +kernel
theorem dX1_leadingSchool_23 : decode cX1_leadingSchool 23 = .ok (.istore_n 2, 1) := by decide +kernel
theorem dX1_leadingSchool_24 : decode cX1_leadingSchool 24 = .ok (.iload_n 2, 1) := by decide +kernel
theorem dX1_leadingSchool_25 : decode cX1_leadingSchool 25 = .ok (.aload_n 0, 1) := by decide +kernel
theorem dX1_leadingSchool_26 : decode cX1_leadingSchool 26 = .ok (.getfield 30, 3) := by decide +kernel
theorem dX1_leadingSchool_29 : decode cX1_leadingSchool 29 = .ok (.if_icmp .ge 25, 3) := by decide +kernel
theorem dX1_leadingSchool_32 : decode cX1_leadingSchool 32 = .ok (.aload_n 0, 1) := by decide +kernel
theorem dX1_leadingSchool_33 : decode cX1_leadingSchool 33 = .ok (.iload_n 2, 1) := by decide +kernel
theorem dX1_leadingSchool_34 : decode cX1_leadingSchool 34 = .ok (.invokevirtual 110, 3) := by decide +kernel
theorem dX1_leadingSchool_37 : decode cX1_leadingSchool 37 = .ok (.aload_n 0, 1) := by decide +kernel
theorem dX1_leadingSchool_38 : decode cX1_leadingSchool 38 = .ok (.iload_n 1, 1) := by decide +kernel
theorem dX1_leadingSchool_39 : decode cX1_leadingSchool 39 = .ok (.invokevirtual 110, 3) := by decide +kernel
theorem dX1_leadingSchool_42 : decode cX1_leadingSchool 42 = .ok (.lcmp, 1) := by decide +kernel
theorem dX1_leadingSchool_43 : decode cX1_leadingSchool 43 = .ok (.ifCond .le 5, 3) := by decide +kernel
theorem dX1_leadingSchool_46 : decode cX1_leadingSchool 46 = .ok (.iload_n 2, 1) := by decide +kernel
theorem dX1_leadingSchool_47 : decode cX1_leadingSchool 47 = .ok (.istore_n 1, 1) := by decide +kernel
theorem dX1_leadingSchool_48 : decode cX1_leadingSchool 48 = .ok (.iinc 2 1, 3) := by decide +kernel
theorem dX1_leadingSchool_51 : decode cX1_leadingSchool 51 = .ok (.goto (-27), 3) := by decide +kernel
theorem dX1_leadingSchool_54 : decode cX1_leadingSchool 54 = .ok (.iload_n 1, 1) := by decide +kernel
theorem dX1_leadingSchool_55 : decode cX1_leadingSchool 55 = .ok (.ireturn, 1) := by decide +kernel
theorem dX1_oddsAgainst_0 : decode cX1_oddsAgainst 0 = .ok (.aload_n 0, 1) := by decide +kernel
theorem dX1_oddsAgainst_1 : decode cX1_oddsAgainst 1 = .ok (.iconst 0, 1) := by decide +kernel
theorem dX1_oddsAgainst_2 : decode cX1_oddsAgainst 2 = .ok (.putfield 19, 3) := by decide +kernel
theorem dX1_oddsAgainst_5 : decode cX1_oddsAgainst 5 = .ok (.aload_n 0, 1) := by decide +kernel
theorem dX1_oddsAgainst_6 : decode cX1_oddsAgainst 6 = .ok (.iload_n 1, 1) := by decide +kernel
theorem dX1_oddsAgainst_7 : decode cX1_oddsAgainst 7 = .ok (.invokevirtual 80, 3) := by decide +kernel
theorem dX1_oddsAgainst_10 : decode cX1_oddsAgainst 10 = .ok (.ifCond .eq 11, 3) := by decide +kernel
theorem dX1_oddsAgainst_13 : decode cX1_oddsAgainst 13 = .ok (.aload_n 0, 1) := by decide +kernel
theorem dX1_oddsAgainst_14 : decode cX1_oddsAgainst 14 = .ok (.iload_n 2, 1) := by decide +kernel
theorem dX1_oddsAgainst_15 : decode cX1_oddsAgainst 15 = .ok (.invokevirtual 80, 3) := by decide +kernel
theorem dX1_oddsAgainst_18 : decode cX1_oddsAgainst 18 = .ok (.ifCond .ne 10, 3) := by decide +kernel
theorem dX1_oddsAgainst_21 : decode cX1_oddsAgainst 21 = .ok (.aload_n 0, 1) := by decide +kernel
theorem dX1_oddsAgainst_22 : decode cX1_oddsAgainst 22 = .ok (.iconst 1, 1) := by decide +kernel
theorem dX1_oddsAgainst_23 : decode cX1_oddsAgainst 23 = .ok (.invokevirtual 73, 3) := by decide +kernel
theorem dX1_oddsAgainst_26 : decode cX1_oddsAgainst 26 = .ok (.i2l, 1) := by decide +kernel
theorem dX1_oddsAgainst_27 : decode cX1_oddsAgainst 27 = .ok (.lreturn, 1) := by decide +kernel
theorem dX1_oddsAgainst_28 : decode cX1_oddsAgainst 28 = .ok (.aload_n 0, 1) := by decide +kernel
theorem dX1_oddsAgainst_29 : decode cX1_oddsAgainst 29 = .ok (.iload_n 2, 1) := by decide +kernel
theorem dX1_oddsAgainst_30 : decode cX1_oddsAgainst 30 = .ok (.invokevirtual 106, 3) := by decide +kernel
theorem dX1_oddsAgainst_33 : decode cX1_oddsAgainst 33 = .ok (.lconst 0, 1) := by decide +kernel
theorem dX1_oddsAgainst_34 : decode cX1_oddsAgainst 34 = .ok (.lcmp, 1) := by decide +kernel
theorem dX1_oddsAgainst_35 : decode cX1_oddsAgainst 35 = .ok (.ifCond .ne 12, 3) := by decide +kernel
theorem dX1_oddsAgainst_38 : decode cX1_oddsAgainst 38 = .ok (.aload_n 0, 1) := by decide +kernel
theorem dX1_oddsAgainst_39 : decode cX1_oddsAgainst 39 = .ok (.iconst 2, 1) := by decide +kernel
theorem dX1_oddsAgainst_40 : decode cX1_oddsAgainst 40 = .ok (.invokevirtual 73, 3) := by decide +kernel
theorem dX1_oddsAgainst_43 : decode cX1_oddsAgainst 43 = .ok (.i2l, 1) := by decide +kernel
theorem dX1_oddsAgainst_44 : decode cX1_oddsAgainst 44 = .ok (.goto 14, 3) := by decide +kernel
theorem dX1_oddsAgainst_47 : decode cX1_oddsAgainst 47 = .ok (.aload_n 0, 1) := by decide +kernel
theorem dX1_oddsAgainst_48 : decode cX1_oddsAgainst 48 = .ok (.iload_n 1, 1) := by decide +kernel
theorem dX1_oddsAgainst_49 : decode cX1_oddsAgainst 49 = .ok (.invokevirtual 106, 3) := by decide +kernel
theorem dX1_oddsAgainst_52 : decode cX1_oddsAgainst 52 = .ok (.aload_n 0, 1) := by decide +kernel
theorem dX1_oddsAgainst_53 : decode cX1_oddsAgainst 53 = .ok (.iload_n 2, 1) := by decide +kernel
theorem dX1_oddsAgainst_54 : decode cX1_oddsAgainst 54 = .ok (.invokevirtual 106, 3) := by decide +kernel
theorem dX1_oddsAgainst_57 : decode cX1_oddsAgainst 57 = .ok (.ldiv, 1) := by decide +kernel
theorem dX1_oddsAgainst_58 : decode cX1_oddsAgainst 58 = .ok (.lreturn, 1) := by decide +kernel
theorem dX1_surprise__0 : decode cX1_surprise_ 0 = .ok (.aload_n 0, 1) := by decide +kernel
theorem dX1_surprise__1 : decode cX1_surprise_ 1 = .ok (.getfield 36, 3) := by decide +kernel
theorem dX1_surprise__4 : decode cX1_surprise_ 4 = .ok (.iload_n 1, 1) := by decide +kernel
theorem dX1_surprise__5 : decode cX1_surprise_ 5 = .ok (.invokestatic 39, 3) := by decide +kernel
theorem dX1_surprise__8 : decode cX1_surprise_ 8 = .ok (.istore_n 2, 1) := by decide +kernel
theorem dX1_surprise__9 : decode cX1_surprise_ 9 = .ok (.aload_n 0, 1) := by decide +kernel
theorem dX1_surprise__10 : decode cX1_surprise_ 10 = .ok (.aload_n 0, 1) := by decide +kernel
theorem dX1_surprise__11 : decode cX1_surprise_ 11 = .ok (.iload_n 1, 1) := by decide +kernel
theorem dX1_surprise__12 : decode cX1_surprise_ 12 = .ok (.invokevirtual 100, 3) := by decide +kernel
theorem dX1_surprise__15 : decode cX1_surprise_ 15 = .ok (.iload_n 2, 1) := by decide +kernel
theorem dX1_surprise__16 : decode cX1_surprise_ 16 = .ok (.iload_n 1, 1) := by decide +kernel
theorem dX1_surprise__17 : decode cX1_surprise_ 17 = .ok (.iload_n 2, 1) := by decide +kernel
theorem dX1_surprise__18 : decode cX1_surprise_ 18 = .ok (.isub, 1) := by decide +kernel
theorem dX1_surprise__19 : decode cX1_surprise_ 19 = .ok (.invokevirtual 87, 3) := by decide +kernel
theorem dX1_surprise__22 : decode cX1_surprise_ 22 = .ok (.ireturn, 1) := by decide +kernel
theorem dX1_surpriseOf_0 : decode cX1_surpriseOf 0 = .ok (.aload_n 0, 1) := by decide +kernel
theorem dX1_surpriseOf_1 : decode cX1_surpriseOf 1 = .ok (.iconst 0, 1) := by decide +kernel
theorem dX1_surpriseOf_2 : decode cX1_surpriseOf 2 = .ok (.putfield 19, 3) := by decide +kernel
theorem dX1_surpriseOf_5 : decode cX1_surpriseOf 5 = .ok (.aload_n 0, 1) := by decide +kernel
theorem dX1_surpriseOf_6 : decode cX1_surpriseOf 6 = .ok (.iload_n 1, 1) := by decide +kernel
theorem dX1_surpriseOf_7 : decode cX1_surpriseOf 7 = .ok (.invokevirtual 94, 3) := by decide +kernel
theorem dX1_surpriseOf_10 : decode cX1_surpriseOf 10 = .ok (.ifCond .eq 11, 3) := by decide +kernel
theorem dX1_surpriseOf_13 : decode cX1_surpriseOf 13 = .ok (.aload_n 0, 1) := by decide +kernel
theorem dX1_surpriseOf_14 : decode cX1_surpriseOf 14 = .ok (.iload_n 1, 1) := by decide +kernel
theorem dX1_surpriseOf_15 : decode cX1_surpriseOf 15 = .ok (.invokevirtual 128, 3) := by decide +kernel
theorem dX1_surpriseOf_18 : decode cX1_surpriseOf 18 = .ok (.goto 8, 3) := by decide +kernel
theorem dX1_surpriseOf_21 : decode cX1_surpriseOf 21 = .ok (.aload_n 0, 1) := by decide +kernel
theorem dX1_surpriseOf_22 : decode cX1_surpriseOf 22 = .ok (.iconst 1, 1) := by decide +kernel
theorem dX1_surpriseOf_23 : decode cX1_surpriseOf 23 = .ok (.invokevirtual 73, 3) := by decide +kernel
theorem dX1_surpriseOf_26 : decode cX1_surpriseOf 26 = .ok (.ireturn, 1) := by decide +kernel
theorem dX1_surprises_0 : decode cX1_surprises 0 = .ok (.iconst 0, 1) := by decide +kernel
theorem dX1_surprises_1 : decode cX1_surprises 1 = .ok (.istore_n 1, 1) := by decide +kernel
theorem dX1_surprises_2 : decode cX1_surprises 2 = .ok (.iconst 0, 1) := by decide +kernel
theorem dX1_surprises_3 : decode cX1_surprises 3 = .ok (.istore_n 2, 1) := by decide +kernel
theorem dX1_surprises_4 : decode cX1_surprises 4 = .ok (.iload_n 2, 1) := by decide +kernel
theorem dX1_surprises_5 : decode cX1_surprises 5 = .ok (.aload_n 0, 1) := by decide +kernel
theorem dX1_surprises_6 : decode cX1_surprises 6 = .ok (.getfield 33, 3) := by decide +kernel
theorem dX1_surprises_9 : decode cX1_surprises 9 = .ok (.if_icmp .ge 17, 3) := by decide +kernel
theorem dX1_surprises_12 : decode cX1_surprises 12 = .ok (.iload_n 1, 1) := by decide +kernel
theorem dX1_surprises_13 : decode cX1_surprises 13 = .ok (.aload_n 0, 1) := by decide +kernel
theorem dX1_surprises_14 : decode cX1_surprises 14 = .ok (.iload_n 2, 1) := by decide +kernel
theorem dX1_surprises_15 : decode cX1_surprises 15 = .ok (.invokevirtual 128, 3) := by decide +kernel
theorem dX1_surprises_18 : decode cX1_surprises 18 = .ok (.iadd, 1) := by decide +kernel
theorem dX1_surprises_19 : decode cX1_surprises 19 = .ok (.istore_n 1, 1) := by decide +kernel
theorem dX1_surprises_20 : decode cX1_surprises 20 = .ok (.iinc 2 1, 3) := by decide +kernel
theorem dX1_surprises_23 : decode cX1_surprises 23 = .ok (.goto (-19), 3) := by decide +kernel
theorem dX1_surprises_26 : decode cX1_surprises 26 = .ok (.iload_n 1, 1) := by decide +kernel
theorem dX1_surprises_27 : decode cX1_surprises 27 = .ok (.ireturn, 1) := by decide +kernel
theorem dX1_allSurprise_0 : decode cX1_allSurprise 0 = .ok (.aload_n 0, 1) := by decide +kernel
theorem dX1_allSurprise_1 : decode cX1_allSurprise 1 = .ok (.aload_n 0, 1) := by decide +kernel
theorem dX1_allSurprise_2 : decode cX1_allSurprise 2 = .ok (.invokevirtual 130, 3) := by decide +kernel
theorem dX1_allSurprise_5 : decode cX1_allSurprise 5 = .ok (.invokevirtual 97, 3) := by decide +kernel
theorem dX1_allSurprise_8 : decode cX1_allSurprise 8 = .ok (.ireturn, 1) := by decide +kernel
theorem dX1_greatestSurprise_0 : decode cX1_greatestSurprise 0 = .ok (.aload_n 0, 1) := by decide +kernel
theorem dX1_greatestSurprise_1 : decode cX1_greatestSurprise 1 = .ok (.iconst 0, 1) := by decide +kernel
theorem dX1_greatestSurprise_2 : decode cX1_greatestSurprise 2 = .ok (.putfield 19, 3) := by decide +kernel
theorem dX1_greatestSurprise_5 : decode cX1_greatestSurprise 5 = .ok (.iconst (-1), 1) := by decide +kernel
theorem dX1_greatestSurprise_6 : decode cX1_greatestSurprise 6 = .ok (.istore_n 1, 1) := by decide +kernel
theorem dX1_greatestSurprise_7 : decode cX1_greatestSurprise 7 = .ok (.iconst 0, 1) := by decide +kernel
theorem dX1_greatestSurprise_8 : decode cX1_greatestSurprise 8 = .ok (.istore_n 2, 1) := by decide +kernel
theorem dX1_greatestSurprise_9 : decode cX1_greatestSurprise 9 = .ok (.iload_n 2, 1) := by decide +kernel
theorem dX1_greatestSurprise_10 : decode cX1_greatestSurprise 10 = .ok (.aload_n 0, 1) := by decide +kernel
theorem dX1_greatestSurprise_11 : decode cX1_greatestSurprise 11 = .ok (.getfield 33, 3) := by decide +kernel
theorem dX1_greatestSurprise_14 : decode cX1_greatestSurprise 14 = .ok (.if_icmp .ge 29, 3) := by decide +kernel
theorem dX1_greatestSurprise_17 : decode cX1_greatestSurprise 17 = .ok (.iload_n 1, 1) := by decide +kernel
theorem dX1_greatestSurprise_18 : decode cX1_greatestSurprise 18 = .ok (.iconst (-1), 1) := by decide +kernel
theorem dX1_greatestSurprise_19 : decode cX1_greatestSurprise 19 = .ok (.if_icmp .eq 16, 3) := by decide +kernel
theorem dX1_greatestSurprise_22 : decode cX1_greatestSurprise 22 = .ok (.aload_n 0, 1) := by decide +kernel
theorem dX1_greatestSurprise_23 : decode cX1_greatestSurprise 23 = .ok (.iload_n 2, 1) := by decide +kernel
theorem dX1_greatestSurprise_24 : decode cX1_greatestSurprise 24 = .ok (.invokevirtual 128, 3) := by decide +kernel
theorem dX1_greatestSurprise_27 : decode cX1_greatestSurprise 27 = .ok (.aload_n 0, 1) := by decide +kernel
theorem dX1_greatestSurprise_28 : decode cX1_greatestSurprise 28 = .ok (.iload_n 1, 1) := by decide +kernel
theorem dX1_greatestSurprise_29 : decode cX1_greatestSurprise 29 = .ok (.invokevirtual 128, 3) := by decide +kernel
theorem dX1_greatestSurprise_32 : decode cX1_greatestSurprise 32 = .ok (.if_icmp .le 5, 3) := by decide +kernel
theorem dX1_greatestSurprise_35 : decode cX1_greatestSurprise 35 = .ok (.iload_n 2, 1) := by decide +kernel
theorem dX1_greatestSurprise_36 : decode cX1_greatestSurprise 36 = .ok (.istore_n 1, 1) := by decide +kernel
theorem dX1_greatestSurprise_37 : decode cX1_greatestSurprise 37 = .ok (.iinc 2 1, 3) := by decide +kernel
theorem dX1_greatestSurprise_40 : decode cX1_greatestSurprise 40 = .ok (.goto (-31), 3) := by decide +kernel
theorem dX1_greatestSurprise_43 : decode cX1_greatestSurprise 43 = .ok (.iload_n 1, 1) := by decide +kernel
theorem dX1_greatestSurprise_44 : decode cX1_greatestSurprise 44 = .ok (.ireturn, 1) := by decide +kernel
theorem dX1_headsPercent_0 : decode cX1_headsPercent 0 = .ok (.aload_n 0, 1) := by decide +kernel
theorem dX1_headsPercent_1 : decode cX1_headsPercent 1 = .ok (.iconst 0, 1) := by decide +kernel
theorem dX1_headsPercent_2 : decode cX1_headsPercent 2 = .ok (.putfield 19, 3) := by decide +kernel
theorem dX1_headsPercent_5 : decode cX1_headsPercent 5 = .ok (.aload_n 0, 1) := by decide +kernel
theorem dX1_headsPercent_6 : decode cX1_headsPercent 6 = .ok (.invokevirtual 113, 3) := by decide +kernel
theorem dX1_headsPercent_9 : decode cX1_headsPercent 9 = .ok (.lstore_n 1, 1) := by decide +kernel
theorem dX1_headsPercent_10 : decode cX1_headsPercent 10 = .ok (.lload_n 1, 1) := by decide +kernel
theorem dX1_headsPercent_11 : decode cX1_headsPercent 11 = .ok (.lconst 0, 1) := by decide +kernel
theorem dX1_headsPercent_12 : decode cX1_headsPercent 12 = .ok (.lcmp, 1) := by decide +kernel
theorem dX1_headsPercent_13 : decode cX1_headsPercent 13 = .ok (.ifCond .ne 9, 3) := by decide +kernel
theorem dX1_headsPercent_16 : decode cX1_headsPercent 16 = .ok (.aload_n 0, 1) := by decide +kernel
theorem dX1_headsPercent_17 : decode cX1_headsPercent 17 = .ok (.iconst 1, 1) := by decide +kernel
theorem dX1_headsPercent_18 : decode cX1_headsPercent 18 = .ok (.invokevirtual 73, 3) := by decide +kernel
theorem dX1_headsPercent_21 : decode cX1_headsPercent 21 = .ok (.ireturn, 1) := by decide +kernel
theorem dX1_headsPercent_22 : decode cX1_headsPercent 22 = .ok (.aload_n 0, 1) := by decide +kernel
theorem dX1_headsPercent_23 : decode cX1_headsPercent 23 = .ok (.iconst 1, 1) := by decide +kernel
theorem dX1_headsPercent_24 : decode cX1_headsPercent 24 = .ok (.aload_n 0, 1) := by decide +kernel
theorem dX1_headsPercent_25 : decode cX1_headsPercent 25 = .ok (.invokevirtual 69, 3) := by decide +kernel
theorem dX1_headsPercent_28 : decode cX1_headsPercent 28 = .ok (.aload_n 0, 1) := by decide +kernel
theorem dX1_headsPercent_29 : decode cX1_headsPercent 29 = .ok (.getfield 33, 3) := by decide +kernel
theorem dX1_headsPercent_32 : decode cX1_headsPercent 32 = .ok (.aload_n 0, 1) := by decide +kernel
theorem dX1_headsPercent_33 : decode cX1_headsPercent 33 = .ok (.invokevirtual 69, 3) := by decide +kernel
theorem dX1_headsPercent_36 : decode cX1_headsPercent 36 = .ok (.isub, 1) := by decide +kernel
theorem dX1_headsPercent_37 : decode cX1_headsPercent 37 = .ok (.invokevirtual 65, 3) := by decide +kernel
theorem dX1_headsPercent_40 : decode cX1_headsPercent 40 = .ok (.ldc2_w 120, 3) := by decide +kernel
theorem dX1_headsPercent_43 : decode cX1_headsPercent 43 = .ok (.lmul, 1) := by decide +kernel
theorem dX1_headsPercent_44 : decode cX1_headsPercent 44 = .ok (.ldc2_w 61, 3) := by decide +kernel
theorem dX1_headsPercent_47 : decode cX1_headsPercent 47 = .ok (.lload_n 1, 1) := by decide +kernel
theorem dX1_headsPercent_48 : decode cX1_headsPercent 48 = .ok (.lmul, 1) := by decide +kernel
theorem dX1_headsPercent_49 : decode cX1_headsPercent 49 = .ok (.ldiv, 1) := by decide +kernel
theorem dX1_headsPercent_50 : decode cX1_headsPercent 50 = .ok (.l2i, 1) := by decide +kernel
theorem dX1_headsPercent_51 : decode cX1_headsPercent 51 = .ok (.ireturn, 1) := by decide +kernel
theorem dX1_wouldSurprise_0 : decode cX1_wouldSurprise 0 = .ok (.aload_n 0, 1) := by decide +kernel
theorem dX1_wouldSurprise_1 : decode cX1_wouldSurprise 1 = .ok (.iconst 0, 1) := by decide +kernel
theorem dX1_wouldSurprise_2 : decode cX1_wouldSurprise 2 = .ok (.putfield 19, 3) := by decide +kernel
theorem dX1_wouldSurprise_5 : decode cX1_wouldSurprise 5 = .ok (.aload_n 0, 1) := by decide +kernel
theorem dX1_wouldSurprise_6 : decode cX1_wouldSurprise 6 = .ok (.iload_n 1, 1) := by decide +kernel
theorem dX1_wouldSurprise_7 : decode cX1_wouldSurprise 7 = .ok (.invokevirtual 83, 3) := by decide +kernel
theorem dX1_wouldSurprise_10 : decode cX1_wouldSurprise 10 = .ok (.ifCond .eq 24, 3) := by decide +kernel
theorem dX1_wouldSurprise_13 : decode cX1_wouldSurprise 13 = .ok (.aload_n 0, 1) := by decide +kernel
theorem dX1_wouldSurprise_14 : decode cX1_wouldSurprise 14 = .ok (.iload_n 1, 1) := by decide +kernel
theorem dX1_wouldSurprise_15 : decode cX1_wouldSurprise 15 = .ok (.aload_n 0, 1) := by decide +kernel
theorem dX1_wouldSurprise_16 : decode cX1_wouldSurprise 16 = .ok (.invokevirtual 69, 3) := by decide +kernel
theorem dX1_wouldSurprise_19 : decode cX1_wouldSurprise 19 = .ok (.aload_n 0, 1) := by decide +kernel
theorem dX1_wouldSurprise_20 : decode cX1_wouldSurprise 20 = .ok (.getfield 33, 3) := by decide +kernel
theorem dX1_wouldSurprise_23 : decode cX1_wouldSurprise 23 = .ok (.aload_n 0, 1) := by decide +kernel
theorem dX1_wouldSurprise_24 : decode cX1_wouldSurprise 24 = .ok (.invokevirtual 69, 3) := by decide +kernel
theorem dX1_wouldSurprise_27 : decode cX1_wouldSurprise 27 = .ok (.isub, 1) := by decide +kernel
theorem dX1_wouldSurprise_28 : decode cX1_wouldSurprise 28 = .ok (.invokevirtual 87, 3) := by decide +kernel
theorem dX1_wouldSurprise_31 : decode cX1_wouldSurprise 31 = .ok (.goto 8, 3) := by decide +kernel
theorem dX1_wouldSurprise_34 : decode cX1_wouldSurprise 34 = .ok (.aload_n 0, 1) := by decide +kernel
theorem dX1_wouldSurprise_35 : decode cX1_wouldSurprise 35 = .ok (.iconst 1, 1) := by decide +kernel
theorem dX1_wouldSurprise_36 : decode cX1_wouldSurprise 36 = .ok (.invokevirtual 73, 3) := by decide +kernel
theorem dX1_wouldSurprise_39 : decode cX1_wouldSurprise 39 = .ok (.ireturn, 1) := by decide +kernel
theorem dX1_leaderBehind_0 : decode cX1_leaderBehind 0 = .ok (.aload_n 0, 1) := by decide +kernel
theorem dX1_leaderBehind_1 : decode cX1_leaderBehind 1 = .ok (.iconst 0, 1) := by decide +kernel
theorem dX1_leaderBehind_2 : decode cX1_leaderBehind 2 = .ok (.putfield 19, 3) := by decide +kernel
theorem dX1_leaderBehind_5 : decode cX1_leaderBehind 5 = .ok (.aload_n 0, 1) := by decide +kernel
theorem dX1_leaderBehind_6 : decode cX1_leaderBehind 6 = .ok (.iload_n 1, 1) := by decide +kernel
theorem dX1_leaderBehind_7 : decode cX1_leaderBehind 7 = .ok (.invokevirtual 83, 3) := by decide +kernel
theorem dX1_leaderBehind_10 : decode cX1_leaderBehind 10 = .ok (.ifCond .ne 9, 3) := by decide +kernel
theorem dX1_leaderBehind_13 : decode cX1_leaderBehind 13 = .ok (.aload_n 0, 1) := by decide +kernel
theorem dX1_leaderBehind_14 : decode cX1_leaderBehind 14 = .ok (.iconst 1, 1) := by decide +kernel
theorem dX1_leaderBehind_15 : decode cX1_leaderBehind 15 = .ok (.invokevirtual 73, 3) := by decide +kernel
theorem dX1_leaderBehind_18 : decode cX1_leaderBehind 18 = .ok (.ireturn, 1) := by decide +kernel
theorem dX1_leaderBehind_19 : decode cX1_leaderBehind 19 = .ok (.aload_n 0, 1) := by decide +kernel
theorem dX1_leaderBehind_20 : decode cX1_leaderBehind 20 = .ok (.invokevirtual 69, 3) := by decide +kernel
theorem dX1_leaderBehind_23 : decode cX1_leaderBehind 23 = .ok (.iload_n 1, 1) := by decide +kernel
theorem dX1_leaderBehind_24 : decode cX1_leaderBehind 24 = .ok (.ifCond .eq 7, 3) := by decide +kernel
theorem dX1_leaderBehind_27 : decode cX1_leaderBehind 27 = .ok (.iconst 1, 1) := by decide +kernel
theorem dX1_leaderBehind_28 : decode cX1_leaderBehind 28 = .ok (.goto 4, 3) := by decide +kernel
theorem dX1_leaderBehind_31 : decode cX1_leaderBehind 31 = .ok (.iconst 0, 1) := by decide +kernel
theorem dX1_leaderBehind_32 : decode cX1_leaderBehind 32 = .ok (.iadd, 1) := by decide +kernel
theorem dX1_leaderBehind_33 : decode cX1_leaderBehind 33 = .ok (.istore_n 2, 1) := by decide +kernel
theorem dX1_leaderBehind_34 : decode cX1_leaderBehind 34 = .ok (.aload_n 0, 1) := by decide +kernel
theorem dX1_leaderBehind_35 : decode cX1_leaderBehind 35 = .ok (.iload_n 2, 1) := by decide +kernel
theorem dX1_leaderBehind_36 : decode cX1_leaderBehind 36 = .ok (.aload_n 0, 1) := by decide +kernel
theorem dX1_leaderBehind_37 : decode cX1_leaderBehind 37 = .ok (.getfield 33, 3) := by decide +kernel
theorem dX1_leaderBehind_40 : decode cX1_leaderBehind 40 = .ok (.iconst 1, 1) := by decide +kernel
theorem dX1_leaderBehind_41 : decode cX1_leaderBehind 41 = .ok (.iadd, 1) := by decide +kernel
theorem dX1_leaderBehind_42 : decode cX1_leaderBehind 42 = .ok (.iload_n 2, 1) := by decide +kernel
theorem dX1_leaderBehind_43 : decode cX1_leaderBehind 43 = .ok (.isub, 1) := by decide +kernel
theorem dX1_leaderBehind_44 : decode cX1_leaderBehind 44 = .ok (.invokevirtual 122, 3) := by decide +kernel
theorem dX1_leaderBehind_47 : decode cX1_leaderBehind 47 = .ok (.ireturn, 1) := by decide +kernel
theorem dX1_isFirst_0 : decode cX1_isFirst 0 = .ok (.aload_n 0, 1) := by decide +kernel
theorem dX1_isFirst_1 : decode cX1_isFirst 1 = .ok (.iload_n 1, 1) := by decide +kernel
theorem dX1_isFirst_2 : decode cX1_isFirst 2 = .ok (.iload_n 2, 1) := by decide +kernel
theorem dX1_isFirst_3 : decode cX1_isFirst 3 = .ok (.iload_n 3, 1) := by decide +kernel
theorem dX1_isFirst_4 : decode cX1_isFirst 4 = .ok (.invokevirtual 55, 3) := by decide +kernel
theorem dX1_isFirst_7 : decode cX1_isFirst 7 = .ok (.lconst 0, 1) := by decide +kernel
theorem dX1_isFirst_8 : decode cX1_isFirst 8 = .ok (.lcmp, 1) := by decide +kernel
theorem dX1_isFirst_9 : decode cX1_isFirst 9 = .ok (.ifCond .le 17, 3) := by decide +kernel
theorem dX1_isFirst_12 : decode cX1_isFirst 12 = .ok (.aload_n 0, 1) := by decide +kernel
theorem dX1_isFirst_13 : decode cX1_isFirst 13 = .ok (.iload_n 2, 1) := by decide +kernel
theorem dX1_isFirst_14 : decode cX1_isFirst 14 = .ok (.iload_n 3, 1) := by decide +kernel
theorem dX1_isFirst_15 : decode cX1_isFirst 15 = .ok (.invokevirtual 122, 3) := by decide +kernel
theorem dX1_isFirst_18 : decode cX1_isFirst 18 = .ok (.iload_n 1, 1) := by decide +kernel
theorem dX1_isFirst_19 : decode cX1_isFirst 19 = .ok (.if_icmp .ne 7, 3) := by decide +kernel
theorem dX1_isFirst_22 : decode cX1_isFirst 22 = .ok (.iconst 1, 1) := by decide +kernel
theorem dX1_isFirst_23 : decode cX1_isFirst 23 = .ok (.goto 4, 3) := by decide +kernel
theorem dX1_isFirst_26 : decode cX1_isFirst 26 = .ok (.iconst 0, 1) := by decide +kernel
theorem dX1_isFirst_27 : decode cX1_isFirst 27 = .ok (.ireturn, 1) := by decide +kernel
theorem dX1_toLead_0 : decode cX1_toLead 0 = .ok (.aload_n 0, 1) := by decide +kernel
theorem dX1_toLead_1 : decode cX1_toLead 1 = .ok (.invokevirtual 69, 3) := by decide +kernel
theorem dX1_toLead_4 : decode cX1_toLead 4 = .ok (.istore_n 2, 1) := by decide +kernel
theorem dX1_toLead_5 : decode cX1_toLead 5 = .ok (.aload_n 0, 1) := by decide +kernel
theorem dX1_toLead_6 : decode cX1_toLead 6 = .ok (.getfield 33, 3) := by decide +kernel
theorem dX1_toLead_9 : decode cX1_toLead 9 = .ok (.iload_n 2, 1) := by decide +kernel
theorem dX1_toLead_10 : decode cX1_toLead 10 = .ok (.isub, 1) := by decide +kernel
theorem dX1_toLead_11 : decode cX1_toLead 11 = .ok (.istore_n 3, 1) := by decide +kernel
theorem dX1_toLead_12 : decode cX1_toLead 12 = .ok (.iconst 0, 1) := by decide +kernel
theorem dX1_toLead_13 : decode cX1_toLead 13 = .ok (.istore 4, 2) := by decide +kernel
theorem dX1_toLead_15 : decode cX1_toLead 15 = .ok (.aload_n 0, 1) := by decide +kernel
theorem dX1_toLead_16 : decode cX1_toLead 16 = .ok (.getfield 33, 3) := by decide +kernel
theorem dX1_toLead_19 : decode cX1_toLead 19 = .ok (.iload 4, 2) := by decide +kernel
theorem dX1_toLead_21 : decode cX1_toLead 21 = .ok (.iadd, 1) := by decide +kernel
theorem dX1_toLead_22 : decode cX1_toLead 22 = .ok (.bipush 12, 2) := by decide +kernel
theorem dX1_toLead_24 : decode cX1_toLead 24 = .ok (.if_icmp .gt 38, 3) := by decide +kernel
theorem dX1_toLead_27 : decode cX1_toLead 27 = .ok (.aload_n 0, 1) := by decide +kernel
theorem dX1_toLead_28 : decode cX1_toLead 28 = .ok (.iload_n 1, 1) := by decide +kernel
theorem dX1_toLead_29 : decode cX1_toLead 29 = .ok (.iload_n 2, 1) := by decide +kernel
theorem dX1_toLead_30 : decode cX1_toLead 30 = .ok (.iload 4, 2) := by decide +kernel
theorem dX1_toLead_32 : decode cX1_toLead 32 = .ok (.iadd, 1) := by decide +kernel
theorem dX1_toLead_33 : decode cX1_toLead 33 = .ok (.iload_n 3, 1) := by decide +kernel
theorem dX1_toLead_34 : decode cX1_toLead 34 = .ok (.invokevirtual 133, 3) := by decide +kernel
theorem dX1_toLead_37 : decode cX1_toLead 37 = .ok (.ifCond .ne 16, 3) := by decide +kernel
theorem dX1_toLead_40 : decode cX1_toLead 40 = .ok (.aload_n 0, 1) := by decide +kernel
theorem dX1_toLead_41 : decode cX1_toLead 41 = .ok (.iload_n 1, 1) := by decide +kernel
theorem dX1_toLead_42 : decode cX1_toLead 42 = .ok (.iload_n 2, 1) := by decide +kernel
theorem dX1_toLead_43 : decode cX1_toLead 43 = .ok (.iload_n 3, 1) := by decide +kernel
theorem dX1_toLead_44 : decode cX1_toLead 44 = .ok (.iload 4, 2) := by decide +kernel
theorem dX1_toLead_46 : decode cX1_toLead 46 = .ok (.iadd, 1) := by decide +kernel
theorem dX1_toLead_47 : decode cX1_toLead 47 = .ok (.invokevirtual 133, 3) := by decide +kernel
theorem dX1_toLead_50 : decode cX1_toLead 50 = .ok (.ifCond .eq 6, 3) := by decide +kernel
theorem dX1_toLead_53 : decode cX1_toLead 53 = .ok (.iload 4, 2) := by decide +kernel
theorem dX1_toLead_55 : decode cX1_toLead 55 = .ok (.ireturn, 1) := by decide +kernel
theorem dX1_toLead_56 : decode cX1_toLead 56 = .ok (.iinc 4 1, 3) := by decide +kernel
theorem dX1_toLead_59 : decode cX1_toLead 59 = .ok (.goto (-44), 3) := by decide +kernel
theorem dX1_toLead_62 : decode cX1_toLead 62 = .ok (.iconst (-1), 1) := by decide +kernel
theorem dX1_toLead_63 : decode cX1_toLead 63 = .ok (.ireturn, 1) := by decide +kernel
theorem dX1_tossesToLead_0 : decode cX1_tossesToLead 0 = .ok (.aload_n 0, 1) := by decide +kernel
theorem dX1_tossesToLead_1 : decode cX1_tossesToLead 1 = .ok (.iconst 0, 1) := by decide +kernel
theorem dX1_tossesToLead_2 : decode cX1_tossesToLead 2 = .ok (.putfield 19, 3) := by decide +kernel
theorem dX1_tossesToLead_5 : decode cX1_tossesToLead 5 = .ok (.aload_n 0, 1) := by decide +kernel
theorem dX1_tossesToLead_6 : decode cX1_tossesToLead 6 = .ok (.iload_n 1, 1) := by decide +kernel
theorem dX1_tossesToLead_7 : decode cX1_tossesToLead 7 = .ok (.invokevirtual 80, 3) := by decide +kernel
theorem dX1_tossesToLead_10 : decode cX1_tossesToLead 10 = .ok (.ifCond .eq 11, 3) := by decide +kernel
theorem dX1_tossesToLead_13 : decode cX1_tossesToLead 13 = .ok (.aload_n 0, 1) := by decide +kernel
theorem dX1_tossesToLead_14 : decode cX1_tossesToLead 14 = .ok (.iload_n 1, 1) := by decide +kernel
theorem dX1_tossesToLead_15 : decode cX1_tossesToLead 15 = .ok (.invokevirtual 136, 3) := by decide +kernel
theorem dX1_tossesToLead_18 : decode cX1_tossesToLead 18 = .ok (.goto 8, 3) := by decide +kernel
theorem dX1_tossesToLead_21 : decode cX1_tossesToLead 21 = .ok (.aload_n 0, 1) := by decide +kernel
theorem dX1_tossesToLead_22 : decode cX1_tossesToLead 22 = .ok (.iconst 1, 1) := by decide +kernel
theorem dX1_tossesToLead_23 : decode cX1_tossesToLead 23 = .ok (.invokevirtual 73, 3) := by decide +kernel
theorem dX1_tossesToLead_26 : decode cX1_tossesToLead 26 = .ok (.ireturn, 1) := by decide +kernel
theorem dX1_decisive_0 : decode cX1_decisive 0 = .ok (.aload_n 0, 1) := by decide +kernel
theorem dX1_decisive_1 : decode cX1_decisive 1 = .ok (.invokevirtual 69, 3) := by decide +kernel
theorem dX1_decisive_4 : decode cX1_decisive 4 = .ok (.istore_n 1, 1) := by decide +kernel
theorem dX1_decisive_5 : decode cX1_decisive 5 = .ok (.aload_n 0, 1) := by decide +kernel
theorem dX1_decisive_6 : decode cX1_decisive 6 = .ok (.getfield 33, 3) := by decide +kernel
theorem dX1_decisive_9 : decode cX1_decisive 9 = .ok (.iload_n 1, 1) := by decide +kernel
theorem dX1_decisive_10 : decode cX1_decisive 10 = .ok (.isub, 1) := by decide +kernel
theorem dX1_decisive_11 : decode cX1_decisive 11 = .ok (.istore_n 2, 1) := by decide +kernel
theorem dX1_decisive_12 : decode cX1_decisive 12 = .ok (.aload_n 0, 1) := by decide +kernel
theorem dX1_decisive_13 : decode cX1_decisive 13 = .ok (.invokevirtual 125, 3) := by decide +kernel
theorem dX1_decisive_16 : decode cX1_decisive 16 = .ok (.istore_n 3, 1) := by decide +kernel
theorem dX1_decisive_17 : decode cX1_decisive 17 = .ok (.iconst 0, 1) := by decide +kernel
theorem dX1_decisive_18 : decode cX1_decisive 18 = .ok (.istore 4, 2) := by decide +kernel
theorem dX1_decisive_20 : decode cX1_decisive 20 = .ok (.iconst 0, 1) := by decide +kernel
theorem dX1_decisive_21 : decode cX1_decisive 21 = .ok (.istore 5, 2) := by decide +kernel
theorem dX1_decisive_23 : decode cX1_decisive 23 = .ok (.iload 5, 2) := by decide +kernel
theorem dX1_decisive_25 : decode cX1_decisive 25 = .ok (.aload_n 0, 1) := by decide +kernel
theorem dX1_decisive_26 : decode cX1_decisive 26 = .ok (.getfield 33, 3) := by decide +kernel
theorem dX1_decisive_29 : decode cX1_decisive 29 = .ok (.if_icmp .ge 51, 3) := by decide +kernel
theorem dX1_decisive_32 : decode cX1_decisive 32 = .ok (.iload 4, 2) := by decide +kernel
theorem dX1_decisive_34 : decode cX1_decisive 34 = .ok (.aload_n 0, 1) := by decide +kernel
theorem dX1_decisive_35 : decode cX1_decisive 35 = .ok (.iload 5, 2) := by decide +kernel
theorem dX1_decisive_37 : decode cX1_decisive 37 = .ok (.invokevirtual 100, 3) := by decide +kernel
theorem dX1_decisive_40 : decode cX1_decisive 40 = .ok (.ifCond .eq 14, 3) := by decide +kernel
theorem dX1_decisive_43 : decode cX1_decisive 43 = .ok (.aload_n 0, 1) := by decide +kernel
theorem dX1_decisive_44 : decode cX1_decisive 44 = .ok (.iload_n 1, 1) := by decide +kernel
theorem dX1_decisive_45 : decode cX1_decisive 45 = .ok (.iconst 1, 1) := by decide +kernel
theorem dX1_decisive_46 : decode cX1_decisive 46 = .ok (.isub, 1) := by decide +kernel
theorem dX1_decisive_47 : decode cX1_decisive 47 = .ok (.iload_n 2, 1) := by decide +kernel
theorem dX1_decisive_48 : decode cX1_decisive 48 = .ok (.invokevirtual 122, 3) := by decide +kernel
theorem dX1_decisive_51 : decode cX1_decisive 51 = .ok (.goto 11, 3) := by decide +kernel
theorem dX1_decisive_54 : decode cX1_decisive 54 = .ok (.aload_n 0, 1) := by decide +kernel
theorem dX1_decisive_55 : decode cX1_decisive 55 = .ok (.iload_n 1, 1) := by decide +kernel
theorem dX1_decisive_56 : decode cX1_decisive 56 = .ok (.iload_n 2, 1) := by decide +kernel
theorem dX1_decisive_57 : decode cX1_decisive 57 = .ok (.iconst 1, 1) := by decide +kernel
theorem dX1_decisive_58 : decode cX1_decisive 58 = .ok (.isub, 1) := by decide +kernel
theorem dX1_decisive_59 : decode cX1_decisive 59 = .ok (.invokevirtual 122, 3) := by decide +kernel
theorem dX1_decisive_62 : decode cX1_decisive 62 = .ok (.iload_n 3, 1) := by decide +kernel
theorem dX1_decisive_63 : decode cX1_decisive 63 = .ok (.if_icmp .eq 7, 3) := by decide +kernel
theorem dX1_decisive_66 : decode cX1_decisive 66 = .ok (.iconst 1, 1) := by decide +kernel
theorem dX1_decisive_67 : decode cX1_decisive 67 = .ok (.goto 4, 3) := by decide +kernel
theorem dX1_decisive_70 : decode cX1_decisive 70 = .ok (.iconst 0, 1) := by decide +kernel
theorem dX1_decisive_71 : decode cX1_decisive 71 = .ok (.iadd, 1) := by decide +kernel
theorem dX1_decisive_72 : decode cX1_decisive 72 = .ok (.istore 4, 2) := by decide +kernel
theorem dX1_decisive_74 : decode cX1_decisive 74 = .ok (.iinc 5 1, 3) := by decide +kernel
theorem dX1_decisive_77 : decode cX1_decisive 77 = .ok (.goto (-54), 3) := by decide +kernel
theorem dX1_decisive_80 : decode cX1_decisive 80 = .ok (.iload 4, 2) := by decide +kernel
theorem dX1_decisive_82 : decode cX1_decisive 82 = .ok (.ireturn, 1) := by decide +kernel
theorem dX1_decisiveTosses_0 : decode cX1_decisiveTosses 0 = .ok (.aload_n 0, 1) := by decide +kernel
theorem dX1_decisiveTosses_1 : decode cX1_decisiveTosses 1 = .ok (.aload_n 0, 1) := by decide +kernel
theorem dX1_decisiveTosses_2 : decode cX1_decisiveTosses 2 = .ok (.invokevirtual 139, 3) := by decide +kernel
theorem dX1_decisiveTosses_5 : decode cX1_decisiveTosses 5 = .ok (.invokevirtual 97, 3) := by decide +kernel
theorem dX1_decisiveTosses_8 : decode cX1_decisiveTosses 8 = .ok (.ireturn, 1) := by decide +kernel
theorem dX1_meanTenths_0 : decode cX1_meanTenths 0 = .ok (.aload_n 0, 1) := by decide +kernel
theorem dX1_meanTenths_1 : decode cX1_meanTenths 1 = .ok (.iconst 0, 1) := by decide +kernel
theorem dX1_meanTenths_2 : decode cX1_meanTenths 2 = .ok (.putfield 19, 3) := by decide +kernel
theorem dX1_meanTenths_5 : decode cX1_meanTenths 5 = .ok (.aload_n 0, 1) := by decide +kernel
theorem dX1_meanTenths_6 : decode cX1_meanTenths 6 = .ok (.invokevirtual 113, 3) := by decide +kernel
theorem dX1_meanTenths_9 : decode cX1_meanTenths 9 = .ok (.lstore_n 1, 1) := by decide +kernel
theorem dX1_meanTenths_10 : decode cX1_meanTenths 10 = .ok (.lload_n 1, 1) := by decide +kernel
theorem dX1_meanTenths_11 : decode cX1_meanTenths 11 = .ok (.lconst 0, 1) := by decide +kernel
theorem dX1_meanTenths_12 : decode cX1_meanTenths 12 = .ok (.lcmp, 1) := by decide +kernel
theorem dX1_meanTenths_13 : decode cX1_meanTenths 13 = .ok (.ifCond .ne 10, 3) := by decide +kernel
theorem dX1_meanTenths_16 : decode cX1_meanTenths 16 = .ok (.aload_n 0, 1) := by decide +kernel
theorem dX1_meanTenths_17 : decode cX1_meanTenths 17 = .ok (.iconst 1, 1) := by decide +kernel
theorem dX1_meanTenths_18 : decode cX1_meanTenths 18 = .ok (.invokevirtual 73, 3) := by decide +kernel
theorem dX1_meanTenths_21 : decode cX1_meanTenths 21 = .ok (.i2d, 1) := by decide +kernel
theorem dX1_meanTenths_22 : decode cX1_meanTenths 22 = .ok (.dreturn, 1) := by decide +kernel
theorem dX1_meanTenths_23 : decode cX1_meanTenths 23 = .ok (.aload_n 0, 1) := by decide +kernel
theorem dX1_meanTenths_24 : decode cX1_meanTenths 24 = .ok (.iconst 1, 1) := by decide +kernel
theorem dX1_meanTenths_25 : decode cX1_meanTenths 25 = .ok (.aload_n 0, 1) := by decide +kernel
theorem dX1_meanTenths_26 : decode cX1_meanTenths 26 = .ok (.invokevirtual 69, 3) := by decide +kernel
theorem dX1_meanTenths_29 : decode cX1_meanTenths 29 = .ok (.aload_n 0, 1) := by decide +kernel
theorem dX1_meanTenths_30 : decode cX1_meanTenths 30 = .ok (.getfield 33, 3) := by decide +kernel
theorem dX1_meanTenths_33 : decode cX1_meanTenths 33 = .ok (.aload_n 0, 1) := by decide +kernel
theorem dX1_meanTenths_34 : decode cX1_meanTenths 34 = .ok (.invokevirtual 69, 3) := by decide +kernel
theorem dX1_meanTenths_37 : decode cX1_meanTenths 37 = .ok (.isub, 1) := by decide +kernel
theorem dX1_meanTenths_38 : decode cX1_meanTenths 38 = .ok (.invokevirtual 65, 3) := by decide +kernel
theorem dX1_meanTenths_41 : decode cX1_meanTenths 41 = .ok (.l2d, 1) := by decide +kernel
theorem dX1_meanTenths_42 : decode cX1_meanTenths 42 = .ok (.lload_n 1, 1) := by decide +kernel
theorem dX1_meanTenths_43 : decode cX1_meanTenths 43 = .ok (.l2d, 1) := by decide +kernel
theorem dX1_meanTenths_44 : decode cX1_meanTenths 44 = .ok (.ddiv, 1) := by decide +kernel
theorem dX1_meanTenths_45 : decode cX1_meanTenths 45 = .ok (.dreturn, 1) := by decide +kernel
theorem dX1_digest_0 : decode cX1_digest 0 = .ok (.aload_n 0, 1) := by decide +kernel
theorem dX1_digest_1 : decode cX1_digest 1 = .ok (.iconst 0, 1) := by decide +kernel
theorem dX1_digest_2 : decode cX1_digest 2 = .ok (.putfield 19, 3) := by decide +kernel
theorem dX1_digest_5 : decode cX1_digest 5 = .ok (.ldc2_w 142, 3) := by decide +kernel
theorem dX1_digest_8 : decode cX1_digest 8 = .ok (.lstore_n 1, 1) := by decide +kernel
theorem dX1_digest_9 : decode cX1_digest 9 = .ok (.lload_n 1, 1) := by decide +kernel
theorem dX1_digest_10 : decode cX1_digest 10 = .ok (.ldc2_w 144, 3) := by decide +kernel
theorem dX1_digest_13 : decode cX1_digest 13 = .ok (.lmul, 1) := by decide +kernel
theorem dX1_digest_14 : decode cX1_digest 14 = .ok (.aload_n 0, 1) := by decide +kernel
theorem dX1_digest_15 : decode cX1_digest 15 = .ok (.getfield 23, 3) := by decide +kernel
theorem dX1_digest_18 : decode cX1_digest 18 = .ok (.i2l, 1) := by decide +kernel
theorem dX1_digest_19 : decode cX1_digest 19 = .ok (.ladd, 1) := by decide +kernel
theorem dX1_digest_20 : decode cX1_digest 20 = .ok (.lstore_n 1, 1) := by decide +kernel
theorem dX1_digest_21 : decode cX1_digest 21 = .ok (.lload_n 1, 1) := by decide +kernel
theorem dX1_digest_22 : decode cX1_digest 22 = .ok (.ldc2_w 144, 3) := by decide +kernel
theorem dX1_digest_25 : decode cX1_digest 25 = .ok (.lmul, 1) := by decide +kernel
theorem dX1_digest_26 : decode cX1_digest 26 = .ok (.aload_n 0, 1) := by decide +kernel
theorem dX1_digest_27 : decode cX1_digest 27 = .ok (.getfield 30, 3) := by decide +kernel
theorem dX1_digest_30 : decode cX1_digest 30 = .ok (.i2l, 1) := by decide +kernel
theorem dX1_digest_31 : decode cX1_digest 31 = .ok (.ladd, 1) := by decide +kernel
theorem dX1_digest_32 : decode cX1_digest 32 = .ok (.lstore_n 1, 1) := by decide +kernel
theorem dX1_digest_33 : decode cX1_digest 33 = .ok (.lload_n 1, 1) := by decide +kernel
theorem dX1_digest_34 : decode cX1_digest 34 = .ok (.ldc2_w 144, 3) := by decide +kernel
theorem dX1_digest_37 : decode cX1_digest 37 = .ok (.lmul, 1) := by decide +kernel
theorem dX1_digest_38 : decode cX1_digest 38 = .ok (.aload_n 0, 1) := by decide +kernel
theorem dX1_digest_39 : decode cX1_digest 39 = .ok (.getfield 33, 3) := by decide +kernel
theorem dX1_digest_42 : decode cX1_digest 42 = .ok (.i2l, 1) := by decide +kernel
theorem dX1_digest_43 : decode cX1_digest 43 = .ok (.ladd, 1) := by decide +kernel
theorem dX1_digest_44 : decode cX1_digest 44 = .ok (.lstore_n 1, 1) := by decide +kernel
theorem dX1_digest_45 : decode cX1_digest 45 = .ok (.lload_n 1, 1) := by decide +kernel
theorem dX1_digest_46 : decode cX1_digest 46 = .ok (.ldc2_w 144, 3) := by decide +kernel
theorem dX1_digest_49 : decode cX1_digest 49 = .ok (.lmul, 1) := by decide +kernel
theorem dX1_digest_50 : decode cX1_digest 50 = .ok (.aload_n 0, 1) := by decide +kernel
theorem dX1_digest_51 : decode cX1_digest 51 = .ok (.invokevirtual 69, 3) := by decide +kernel
theorem dX1_digest_54 : decode cX1_digest 54 = .ok (.i2l, 1) := by decide +kernel
theorem dX1_digest_55 : decode cX1_digest 55 = .ok (.ladd, 1) := by decide +kernel
theorem dX1_digest_56 : decode cX1_digest 56 = .ok (.lstore_n 1, 1) := by decide +kernel
theorem dX1_digest_57 : decode cX1_digest 57 = .ok (.lload_n 1, 1) := by decide +kernel
theorem dX1_digest_58 : decode cX1_digest 58 = .ok (.ldc2_w 144, 3) := by decide +kernel
theorem dX1_digest_61 : decode cX1_digest 61 = .ok (.lmul, 1) := by decide +kernel
theorem dX1_digest_62 : decode cX1_digest 62 = .ok (.aload_n 0, 1) := by decide +kernel
theorem dX1_digest_63 : decode cX1_digest 63 = .ok (.invokevirtual 113, 3) := by decide +kernel
theorem dX1_digest_66 : decode cX1_digest 66 = .ok (.ladd, 1) := by decide +kernel
theorem dX1_digest_67 : decode cX1_digest 67 = .ok (.lstore_n 1, 1) := by decide +kernel
theorem dX1_digest_68 : decode cX1_digest 68 = .ok (.lload_n 1, 1) := by decide +kernel
theorem dX1_digest_69 : decode cX1_digest 69 = .ok (.ldc2_w 144, 3) := by decide +kernel
theorem dX1_digest_72 : decode cX1_digest 72 = .ok (.lmul, 1) := by decide +kernel
theorem dX1_digest_73 : decode cX1_digest 73 = .ok (.aload_n 0, 1) := by decide +kernel
theorem dX1_digest_74 : decode cX1_digest 74 = .ok (.invokevirtual 117, 3) := by decide +kernel
theorem dX1_digest_77 : decode cX1_digest 77 = .ok (.i2l, 1) := by decide +kernel
theorem dX1_digest_78 : decode cX1_digest 78 = .ok (.ladd, 1) := by decide +kernel
theorem dX1_digest_79 : decode cX1_digest 79 = .ok (.lstore_n 1, 1) := by decide +kernel
theorem dX1_digest_80 : decode cX1_digest 80 = .ok (.lload_n 1, 1) := by decide +kernel
theorem dX1_digest_81 : decode cX1_digest 81 = .ok (.ldc2_w 144, 3) := by decide +kernel
theorem dX1_digest_84 : decode cX1_digest 84 = .ok (.lmul, 1) := by decide +kernel
theorem dX1_digest_85 : decode cX1_digest 85 = .ok (.aload_n 0, 1) := by decide +kernel
theorem dX1_digest_86 : decode cX1_digest 86 = .ok (.invokevirtual 130, 3) := by decide +kernel
theorem dX1_digest_89 : decode cX1_digest 89 = .ok (.i2l, 1) := by decide +kernel
theorem dX1_digest_90 : decode cX1_digest 90 = .ok (.ladd, 1) := by decide +kernel
theorem dX1_digest_91 : decode cX1_digest 91 = .ok (.lstore_n 1, 1) := by decide +kernel
theorem dX1_digest_92 : decode cX1_digest 92 = .ok (.lload_n 1, 1) := by decide +kernel
theorem dX1_digest_93 : decode cX1_digest 93 = .ok (.ldc2_w 144, 3) := by decide +kernel
theorem dX1_digest_96 : decode cX1_digest 96 = .ok (.lmul, 1) := by decide +kernel
theorem dX1_digest_97 : decode cX1_digest 97 = .ok (.aload_n 0, 1) := by decide +kernel
theorem dX1_digest_98 : decode cX1_digest 98 = .ok (.invokevirtual 139, 3) := by decide +kernel
theorem dX1_digest_101 : decode cX1_digest 101 = .ok (.i2l, 1) := by decide +kernel
theorem dX1_digest_102 : decode cX1_digest 102 = .ok (.ladd, 1) := by decide +kernel
theorem dX1_digest_103 : decode cX1_digest 103 = .ok (.lstore_n 1, 1) := by decide +kernel
theorem dX1_digest_104 : decode cX1_digest 104 = .ok (.iconst 0, 1) := by decide +kernel
theorem dX1_digest_105 : decode cX1_digest 105 = .ok (.istore_n 3, 1) := by decide +kernel
theorem dX1_digest_106 : decode cX1_digest 106 = .ok (.iload_n 3, 1) := by decide +kernel
theorem dX1_digest_107 : decode cX1_digest 107 = .ok (.aload_n 0, 1) := by decide +kernel
theorem dX1_digest_108 : decode cX1_digest 108 = .ok (.getfield 23, 3) := by decide +kernel
theorem dX1_digest_111 : decode cX1_digest 111 = .ok (.if_icmp .ge 48, 3) := by decide +kernel
theorem dX1_digest_114 : decode cX1_digest 114 = .ok (.lload_n 1, 1) := by decide +kernel
theorem dX1_digest_115 : decode cX1_digest 115 = .ok (.ldc2_w 144, 3) := by decide +kernel
theorem dX1_digest_118 : decode cX1_digest 118 = .ok (.lmul, 1) := by decide +kernel
theorem dX1_digest_119 : decode cX1_digest 119 = .ok (.aload_n 0, 1) := by decide +kernel
theorem dX1_digest_120 : decode cX1_digest 120 = .ok (.getfield 9, 3) := by decide +kernel
theorem dX1_digest_123 : decode cX1_digest 123 = .ok (.iload_n 3, 1) := by decide +kernel
theorem dX1_digest_124 : decode cX1_digest 124 = .ok (.iaload, 1) := by decide +kernel
theorem dX1_digest_125 : decode cX1_digest 125 = .ok (.i2l, 1) := by decide +kernel
theorem dX1_digest_126 : decode cX1_digest 126 = .ok (.ladd, 1) := by decide +kernel
theorem dX1_digest_127 : decode cX1_digest 127 = .ok (.lstore_n 1, 1) := by decide +kernel
theorem dX1_digest_128 : decode cX1_digest 128 = .ok (.lload_n 1, 1) := by decide +kernel
theorem dX1_digest_129 : decode cX1_digest 129 = .ok (.ldc2_w 144, 3) := by decide +kernel
theorem dX1_digest_132 : decode cX1_digest 132 = .ok (.lmul, 1) := by decide +kernel
theorem dX1_digest_133 : decode cX1_digest 133 = .ok (.aload_n 0, 1) := by decide +kernel
theorem dX1_digest_134 : decode cX1_digest 134 = .ok (.iload_n 3, 1) := by decide +kernel
theorem dX1_digest_135 : decode cX1_digest 135 = .ok (.invokevirtual 106, 3) := by decide +kernel
theorem dX1_digest_138 : decode cX1_digest 138 = .ok (.ladd, 1) := by decide +kernel
theorem dX1_digest_139 : decode cX1_digest 139 = .ok (.lstore_n 1, 1) := by decide +kernel
theorem dX1_digest_140 : decode cX1_digest 140 = .ok (.lload_n 1, 1) := by decide +kernel
theorem dX1_digest_141 : decode cX1_digest 141 = .ok (.ldc2_w 144, 3) := by decide +kernel
theorem dX1_digest_144 : decode cX1_digest 144 = .ok (.lmul, 1) := by decide +kernel
theorem dX1_digest_145 : decode cX1_digest 145 = .ok (.aload_n 0, 1) := by decide +kernel
theorem dX1_digest_146 : decode cX1_digest 146 = .ok (.iload_n 3, 1) := by decide +kernel
theorem dX1_digest_147 : decode cX1_digest 147 = .ok (.invokevirtual 136, 3) := by decide +kernel
theorem dX1_digest_150 : decode cX1_digest 150 = .ok (.i2l, 1) := by decide +kernel
theorem dX1_digest_151 : decode cX1_digest 151 = .ok (.ladd, 1) := by decide +kernel
theorem dX1_digest_152 : decode cX1_digest 152 = .ok (.lstore_n 1, 1) := by decide +kernel
theorem dX1_digest_153 : decode cX1_digest 153 = .ok (.iinc 3 1, 3) := by decide +kernel
theorem dX1_digest_156 : decode cX1_digest 156 = .ok (.goto (-50), 3) := by decide +kernel
theorem dX1_digest_159 : decode cX1_digest 159 = .ok (.iconst 0, 1) := by decide +kernel
theorem dX1_digest_160 : decode cX1_digest 160 = .ok (.istore_n 3, 1) := by decide +kernel
theorem dX1_digest_161 : decode cX1_digest 161 = .ok (.iload_n 3, 1) := by decide +kernel
theorem dX1_digest_162 : decode cX1_digest 162 = .ok (.aload_n 0, 1) := by decide +kernel
theorem dX1_digest_163 : decode cX1_digest 163 = .ok (.getfield 30, 3) := by decide +kernel
theorem dX1_digest_166 : decode cX1_digest 166 = .ok (.if_icmp .ge 72, 3) := by decide +kernel
theorem dX1_digest_169 : decode cX1_digest 169 = .ok (.lload_n 1, 1) := by decide +kernel
theorem dX1_digest_170 : decode cX1_digest 170 = .ok (.ldc2_w 144, 3) := by decide +kernel
theorem dX1_digest_173 : decode cX1_digest 173 = .ok (.lmul, 1) := by decide +kernel
theorem dX1_digest_174 : decode cX1_digest 174 = .ok (.aload_n 0, 1) := by decide +kernel
theorem dX1_digest_175 : decode cX1_digest 175 = .ok (.getfield 13, 3) := by decide +kernel
theorem dX1_digest_178 : decode cX1_digest 178 = .ok (.iload_n 3, 1) := by decide +kernel
theorem dX1_digest_179 : decode cX1_digest 179 = .ok (.iaload, 1) := by decide +kernel
theorem dX1_digest_180 : decode cX1_digest 180 = .ok (.i2l, 1) := by decide +kernel
theorem dX1_digest_181 : decode cX1_digest 181 = .ok (.ladd, 1) := by decide +kernel
theorem dX1_digest_182 : decode cX1_digest 182 = .ok (.lstore_n 1, 1) := by decide +kernel
theorem dX1_digest_183 : decode cX1_digest 183 = .ok (.lload_n 1, 1) := by decide +kernel
theorem dX1_digest_184 : decode cX1_digest 184 = .ok (.ldc2_w 144, 3) := by decide +kernel
theorem dX1_digest_187 : decode cX1_digest 187 = .ok (.lmul, 1) := by decide +kernel
theorem dX1_digest_188 : decode cX1_digest 188 = .ok (.aload_n 0, 1) := by decide +kernel
theorem dX1_digest_189 : decode cX1_digest 189 = .ok (.iload_n 3, 1) := by decide +kernel
theorem dX1_digest_190 : decode cX1_digest 190 = .ok (.invokevirtual 110, 3) := by decide +kernel
theorem dX1_digest_193 : decode cX1_digest 193 = .ok (.ladd, 1) := by decide +kernel
theorem dX1_digest_194 : decode cX1_digest 194 = .ok (.lstore_n 1, 1) := by decide +kernel
theorem dX1_digest_195 : decode cX1_digest 195 = .ok (.iconst 0, 1) := by decide +kernel
theorem dX1_digest_196 : decode cX1_digest 196 = .ok (.istore 4, 2) := by decide +kernel
theorem dX1_digest_198 : decode cX1_digest 198 = .ok (.iload 4, 2) := by decide +kernel
theorem dX1_digest_200 : decode cX1_digest 200 = .ok (.aload_n 0, 1) := by decide +kernel
theorem dX1_digest_201 : decode cX1_digest 201 = .ok (.getfield 23, 3) := by decide +kernel
theorem dX1_digest_204 : decode cX1_digest 204 = .ok (.if_icmp .ge 28, 3) := by decide +kernel
theorem dX1_digest_207 : decode cX1_digest 207 = .ok (.lload_n 1, 1) := by decide +kernel
theorem dX1_digest_208 : decode cX1_digest 208 = .ok (.ldc2_w 144, 3) := by decide +kernel
theorem dX1_digest_211 : decode cX1_digest 211 = .ok (.lmul, 1) := by decide +kernel
theorem dX1_digest_212 : decode cX1_digest 212 = .ok (.aload_n 0, 1) := by decide +kernel
theorem dX1_digest_213 : decode cX1_digest 213 = .ok (.getfield 16, 3) := by decide +kernel
theorem dX1_digest_216 : decode cX1_digest 216 = .ok (.iconst 4, 1) := by decide +kernel
theorem dX1_digest_217 : decode cX1_digest 217 = .ok (.iload 4, 2) := by decide +kernel
theorem dX1_digest_219 : decode cX1_digest 219 = .ok (.imul, 1) := by decide +kernel
theorem dX1_digest_220 : decode cX1_digest 220 = .ok (.iload_n 3, 1) := by decide +kernel
theorem dX1_digest_221 : decode cX1_digest 221 = .ok (.iadd, 1) := by decide +kernel
theorem dX1_digest_222 : decode cX1_digest 222 = .ok (.iaload, 1) := by decide +kernel
theorem dX1_digest_223 : decode cX1_digest 223 = .ok (.i2l, 1) := by decide +kernel
theorem dX1_digest_224 : decode cX1_digest 224 = .ok (.ladd, 1) := by decide +kernel
theorem dX1_digest_225 : decode cX1_digest 225 = .ok (.lstore_n 1, 1) := by decide +kernel
theorem dX1_digest_226 : decode cX1_digest 226 = .ok (.iinc 4 1, 3) := by decide +kernel
theorem dX1_digest_229 : decode cX1_digest 229 = .ok (.goto (-31), 3) := by decide +kernel
theorem dX1_digest_232 : decode cX1_digest 232 = .ok (.iinc 3 1, 3) := by decide +kernel
theorem dX1_digest_235 : decode cX1_digest 235 = .ok (.goto (-74), 3) := by decide +kernel
theorem dX1_digest_238 : decode cX1_digest 238 = .ok (.iconst 0, 1) := by decide +kernel
theorem dX1_digest_239 : decode cX1_digest 239 = .ok (.istore_n 3, 1) := by decide +kernel
theorem dX1_digest_240 : decode cX1_digest 240 = .ok (.iload_n 3, 1) := by decide +kernel
theorem dX1_digest_241 : decode cX1_digest 241 = .ok (.aload_n 0, 1) := by decide +kernel
theorem dX1_digest_242 : decode cX1_digest 242 = .ok (.getfield 33, 3) := by decide +kernel
theorem dX1_digest_245 : decode cX1_digest 245 = .ok (.if_icmp .ge 43, 3) := by decide +kernel
theorem dX1_digest_248 : decode cX1_digest 248 = .ok (.lload_n 1, 1) := by decide +kernel
theorem dX1_digest_249 : decode cX1_digest 249 = .ok (.ldc2_w 144, 3) := by decide +kernel
theorem dX1_digest_252 : decode cX1_digest 252 = .ok (.lmul, 1) := by decide +kernel
theorem dX1_digest_253 : decode cX1_digest 253 = .ok (.aload_n 0, 1) := by decide +kernel
theorem dX1_digest_254 : decode cX1_digest 254 = .ok (.iload_n 3, 1) := by decide +kernel
theorem dX1_digest_255 : decode cX1_digest 255 = .ok (.invokevirtual 100, 3) := by decide +kernel
theorem dX1_digest_258 : decode cX1_digest 258 = .ok (.ifCond .eq 7, 3) := by decide +kernel
theorem dX1_digest_261 : decode cX1_digest 261 = .ok (.iconst 1, 1) := by decide +kernel
theorem dX1_digest_262 : decode cX1_digest 262 = .ok (.goto 4, 3) := by decide +kernel
theorem dX1_digest_265 : decode cX1_digest 265 = .ok (.iconst 0, 1) := by decide +kernel
theorem dX1_digest_266 : decode cX1_digest 266 = .ok (.i2l, 1) := by decide +kernel
theorem dX1_digest_267 : decode cX1_digest 267 = .ok (.ladd, 1) := by decide +kernel
theorem dX1_digest_268 : decode cX1_digest 268 = .ok (.lstore_n 1, 1) := by decide +kernel
theorem dX1_digest_269 : decode cX1_digest 269 = .ok (.lload_n 1, 1) := by decide +kernel
theorem dX1_digest_270 : decode cX1_digest 270 = .ok (.ldc2_w 144, 3) := by decide +kernel
theorem dX1_digest_273 : decode cX1_digest 273 = .ok (.lmul, 1) := by decide +kernel
theorem dX1_digest_274 : decode cX1_digest 274 = .ok (.aload_n 0, 1) := by decide +kernel
theorem dX1_digest_275 : decode cX1_digest 275 = .ok (.iload_n 3, 1) := by decide +kernel
theorem dX1_digest_276 : decode cX1_digest 276 = .ok (.invokevirtual 128, 3) := by decide +kernel
theorem dX1_digest_279 : decode cX1_digest 279 = .ok (.i2l, 1) := by decide +kernel
theorem dX1_digest_280 : decode cX1_digest 280 = .ok (.ladd, 1) := by decide +kernel
theorem dX1_digest_281 : decode cX1_digest 281 = .ok (.lstore_n 1, 1) := by decide +kernel
theorem dX1_digest_282 : decode cX1_digest 282 = .ok (.iinc 3 1, 3) := by decide +kernel
theorem dX1_digest_285 : decode cX1_digest 285 = .ok (.goto (-45), 3) := by decide +kernel
theorem dX1_digest_288 : decode cX1_digest 288 = .ok (.lload_n 1, 1) := by decide +kernel
theorem dX1_digest_289 : decode cX1_digest 289 = .ok (.lreturn, 1) := by decide +kernel
abbrev vwCl : List vw_C := [(RX0, TX0, 7), (RX1, TX1, 8)]
end
section
theorem dL_addCoin_0 : decode cL_addCoin 0 = .ok (.aload_n 2, 1) := by decide +kernel
theorem dL_addCoin_1 : decode cL_addCoin 1 = .ok (.iconst 0, 1) := by decide +kernel
theorem dL_addCoin_2 : decode cL_addCoin 2 = .ok (.aload_n 0, 1) := by decide +kernel
theorem dL_addCoin_3 : decode cL_addCoin 3 = .ok (.iload_n 1, 1) := by decide +kernel
theorem dL_addCoin_4 : decode cL_addCoin 4 = .ok (.invokevirtual 7, 3) := by decide +kernel
theorem dL_addCoin_7 : decode cL_addCoin 7 = .ok (.i2l, 1) := by decide +kernel
theorem dL_addCoin_8 : decode cL_addCoin 8 = .ok (.lastore, 1) := by decide +kernel
theorem dL_addCoin_9 : decode cL_addCoin 9 = .ok (.goto 9, 3) := by decide +kernel
theorem dL_addCoin_12 : decode cL_addCoin 12 = .ok (.astore_n 3, 1) := by decide +kernel
theorem dL_addCoin_13 : decode cL_addCoin 13 = .ok (.iconst 1, 1) := by decide +kernel
theorem dL_addCoin_14 : decode cL_addCoin 14 = .ok (.ireturn, 1) := by decide +kernel
theorem dL_addCoin_15 : decode cL_addCoin 15 = .ok (.astore_n 3, 1) := by decide +kernel
theorem dL_addCoin_16 : decode cL_addCoin 16 = .ok (.iconst 2, 1) := by decide +kernel
theorem dL_addCoin_17 : decode cL_addCoin 17 = .ok (.ireturn, 1) := by decide +kernel
theorem dL_addCoin_18 : decode cL_addCoin 18 = .ok (.iconst 0, 1) := by decide +kernel
theorem dL_addCoin_19 : decode cL_addCoin 19 = .ok (.ireturn, 1) := by decide +kernel
theorem dL_addSchool_0 : decode cL_addSchool 0 = .ok (.aload_n 2, 1) := by decide +kernel
theorem dL_addSchool_1 : decode cL_addSchool 1 = .ok (.iconst 0, 1) := by decide +kernel
theorem dL_addSchool_2 : decode cL_addSchool 2 = .ok (.aload_n 0, 1) := by decide +kernel
theorem dL_addSchool_3 : decode cL_addSchool 3 = .ok (.iload_n 1, 1) := by decide +kernel
theorem dL_addSchool_4 : decode cL_addSchool 4 = .ok (.invokevirtual 17, 3) := by decide +kernel
theorem dL_addSchool_7 : decode cL_addSchool 7 = .ok (.i2l, 1) := by decide +kernel
theorem dL_addSchool_8 : decode cL_addSchool 8 = .ok (.lastore, 1) := by decide +kernel
theorem dL_addSchool_9 : decode cL_addSchool 9 = .ok (.goto 9, 3) := by decide +kernel
theorem dL_addSchool_12 : decode cL_addSchool 12 = .ok (.astore_n 3, 1) := by decide +kernel
theorem dL_addSchool_13 : decode cL_addSchool 13 = .ok (.iconst 1, 1) := by decide +kernel
theorem dL_addSchool_14 : decode cL_addSchool 14 = .ok (.ireturn, 1) := by decide +kernel
theorem dL_addSchool_15 : decode cL_addSchool 15 = .ok (.astore_n 3, 1) := by decide +kernel
theorem dL_addSchool_16 : decode cL_addSchool 16 = .ok (.iconst 2, 1) := by decide +kernel
theorem dL_addSchool_17 : decode cL_addSchool 17 = .ok (.ireturn, 1) := by decide +kernel
theorem dL_addSchool_18 : decode cL_addSchool 18 = .ok (.iconst 0, 1) := by decide +kernel
theorem dL_addSchool_19 : decode cL_addSchool 19 = .ok (.ireturn, 1) := by decide +kernel
theorem dL_setShare_0 : decode cL_setShare 0 = .ok (.aload 4, 2) := by decide +kernel
theorem dL_setShare_2 : decode cL_setShare 2 = .ok (.iconst 0, 1) := by decide +kernel
theorem dL_setShare_3 : decode cL_setShare 3 = .ok (.aload_n 0, 1) := by decide +kernel
theorem dL_setShare_4 : decode cL_setShare 4 = .ok (.iload_n 1, 1) := by decide +kernel
theorem dL_setShare_5 : decode cL_setShare 5 = .ok (.iload_n 2, 1) := by decide +kernel
theorem dL_setShare_6 : decode cL_setShare 6 = .ok (.iload_n 3, 1) := by decide +kernel
theorem dL_setShare_7 : decode cL_setShare 7 = .ok (.invokevirtual 20, 3) := by decide +kernel
theorem dL_setShare_10 : decode cL_setShare 10 = .ok (.i2l, 1) := by decide +kernel
theorem dL_setShare_11 : decode cL_setShare 11 = .ok (.lastore, 1) := by decide +kernel
theorem dL_setShare_12 : decode cL_setShare 12 = .ok (.goto 15, 3) := by decide +kernel
theorem dL_setShare_15 : decode cL_setShare 15 = .ok (.astore 5, 2) := by decide +kernel
theorem dL_setShare_17 : decode cL_setShare 17 = .ok (.iconst 1, 1) := by decide +kernel
theorem dL_setShare_18 : decode cL_setShare 18 = .ok (.ireturn, 1) := by decide +kernel
theorem dL_setShare_19 : decode cL_setShare 19 = .ok (.astore 5, 2) := by decide +kernel
theorem dL_setShare_21 : decode cL_setShare 21 = .ok (.iconst 2, 1) := by decide +kernel
theorem dL_setShare_22 : decode cL_setShare 22 = .ok (.ireturn, 1) := by decide +kernel
theorem dL_setShare_23 : decode cL_setShare 23 = .ok (.astore 5, 2) := by decide +kernel
theorem dL_setShare_25 : decode cL_setShare 25 = .ok (.iconst 3, 1) := by decide +kernel
theorem dL_setShare_26 : decode cL_setShare 26 = .ok (.ireturn, 1) := by decide +kernel
theorem dL_setShare_27 : decode cL_setShare 27 = .ok (.iconst 0, 1) := by decide +kernel
theorem dL_setShare_28 : decode cL_setShare 28 = .ok (.ireturn, 1) := by decide +kernel
theorem dL_toss_0 : decode cL_toss 0 = .ok (.aload_n 2, 1) := by decide +kernel
theorem dL_toss_1 : decode cL_toss 1 = .ok (.iconst 0, 1) := by decide +kernel
theorem dL_toss_2 : decode cL_toss 2 = .ok (.aload_n 0, 1) := by decide +kernel
theorem dL_toss_3 : decode cL_toss 3 = .ok (.iload_n 1, 1) := by decide +kernel
theorem dL_toss_4 : decode cL_toss 4 = .ok (.invokevirtual 26, 3) := by decide +kernel
theorem dL_toss_7 : decode cL_toss 7 = .ok (.i2l, 1) := by decide +kernel
theorem dL_toss_8 : decode cL_toss 8 = .ok (.lastore, 1) := by decide +kernel
theorem dL_toss_9 : decode cL_toss 9 = .ok (.goto 6, 3) := by decide +kernel
theorem dL_toss_12 : decode cL_toss 12 = .ok (.astore_n 3, 1) := by decide +kernel
theorem dL_toss_13 : decode cL_toss 13 = .ok (.iconst 1, 1) := by decide +kernel
theorem dL_toss_14 : decode cL_toss 14 = .ok (.ireturn, 1) := by decide +kernel
theorem dL_toss_15 : decode cL_toss 15 = .ok (.iconst 0, 1) := by decide +kernel
theorem dL_toss_16 : decode cL_toss 16 = .ok (.ireturn, 1) := by decide +kernel
theorem dL_undo_0 : decode cL_undo 0 = .ok (.aload_n 1, 1) := by decide +kernel
theorem dL_undo_1 : decode cL_undo 1 = .ok (.iconst 0, 1) := by decide +kernel
theorem dL_undo_2 : decode cL_undo 2 = .ok (.aload_n 0, 1) := by decide +kernel
theorem dL_undo_3 : decode cL_undo 3 = .ok (.invokevirtual 30, 3) := by decide +kernel
theorem dL_undo_6 : decode cL_undo 6 = .ok (.ifCond .eq 7, 3) := by decide +kernel
theorem dL_undo_9 : decode cL_undo 9 = .ok (.lconst 1, 1) := by decide +kernel
theorem dL_undo_10 : decode cL_undo 10 = .ok (.goto 4, 3) := by decide +kernel
theorem dL_undo_13 : decode cL_undo 13 = .ok (.lconst 0, 1) := by decide +kernel
theorem dL_undo_14 : decode cL_undo 14 = .ok (.lastore, 1) := by decide +kernel
theorem dL_undo_15 : decode cL_undo 15 = .ok (.goto 6, 3) := by decide +kernel
theorem dL_undo_18 : decode cL_undo 18 = .ok (.astore_n 2, 1) := by decide +kernel
theorem dL_undo_19 : decode cL_undo 19 = .ok (.iconst 1, 1) := by decide +kernel
theorem dL_undo_20 : decode cL_undo 20 = .ok (.ireturn, 1) := by decide +kernel
theorem dL_undo_21 : decode cL_undo 21 = .ok (.iconst 0, 1) := by decide +kernel
theorem dL_undo_22 : decode cL_undo 22 = .ok (.ireturn, 1) := by decide +kernel
theorem dL_strike_0 : decode cL_strike 0 = .ok (.aload_n 2, 1) := by decide +kernel
theorem dL_strike_1 : decode cL_strike 1 = .ok (.iconst 0, 1) := by decide +kernel
theorem dL_strike_2 : decode cL_strike 2 = .ok (.aload_n 0, 1) := by decide +kernel
theorem dL_strike_3 : decode cL_strike 3 = .ok (.iload_n 1, 1) := by decide +kernel
theorem dL_strike_4 : decode cL_strike 4 = .ok (.invokevirtual 34, 3) := by decide +kernel
theorem dL_strike_7 : decode cL_strike 7 = .ok (.i2l, 1) := by decide +kernel
theorem dL_strike_8 : decode cL_strike 8 = .ok (.lastore, 1) := by decide +kernel
theorem dL_strike_9 : decode cL_strike 9 = .ok (.goto 6, 3) := by decide +kernel
theorem dL_strike_12 : decode cL_strike 12 = .ok (.astore_n 3, 1) := by decide +kernel
theorem dL_strike_13 : decode cL_strike 13 = .ok (.iconst 1, 1) := by decide +kernel
theorem dL_strike_14 : decode cL_strike 14 = .ok (.ireturn, 1) := by decide +kernel
theorem dL_strike_15 : decode cL_strike 15 = .ok (.iconst 0, 1) := by decide +kernel
theorem dL_strike_16 : decode cL_strike 16 = .ok (.ireturn, 1) := by decide +kernel
theorem dL_isHeads_0 : decode cL_isHeads 0 = .ok (.aload_n 2, 1) := by decide +kernel
theorem dL_isHeads_1 : decode cL_isHeads 1 = .ok (.iconst 0, 1) := by decide +kernel
theorem dL_isHeads_2 : decode cL_isHeads 2 = .ok (.aload_n 0, 1) := by decide +kernel
theorem dL_isHeads_3 : decode cL_isHeads 3 = .ok (.iload_n 1, 1) := by decide +kernel
theorem dL_isHeads_4 : decode cL_isHeads 4 = .ok (.invokevirtual 37, 3) := by decide +kernel
theorem dL_isHeads_7 : decode cL_isHeads 7 = .ok (.ifCond .eq 7, 3) := by decide +kernel
theorem dL_isHeads_10 : decode cL_isHeads 10 = .ok (.lconst 1, 1) := by decide +kernel
theorem dL_isHeads_11 : decode cL_isHeads 11 = .ok (.goto 4, 3) := by decide +kernel
theorem dL_isHeads_14 : decode cL_isHeads 14 = .ok (.lconst 0, 1) := by decide +kernel
theorem dL_isHeads_15 : decode cL_isHeads 15 = .ok (.lastore, 1) := by decide +kernel
theorem dL_isHeads_16 : decode cL_isHeads 16 = .ok (.goto 6, 3) := by decide +kernel
theorem dL_isHeads_19 : decode cL_isHeads 19 = .ok (.astore_n 3, 1) := by decide +kernel
theorem dL_isHeads_20 : decode cL_isHeads 20 = .ok (.iconst 1, 1) := by decide +kernel
theorem dL_isHeads_21 : decode cL_isHeads 21 = .ok (.ireturn, 1) := by decide +kernel
theorem dL_isHeads_22 : decode cL_isHeads 22 = .ok (.iconst 0, 1) := by decide +kernel
theorem dL_isHeads_23 : decode cL_isHeads 23 = .ok (.ireturn, 1) := by decide +kernel
theorem dL_tenthsOf_0 : decode cL_tenthsOf 0 = .ok (.aload_n 2, 1) := by decide +kernel
theorem dL_tenthsOf_1 : decode cL_tenthsOf 1 = .ok (.iconst 0, 1) := by decide +kernel
theorem dL_tenthsOf_2 : decode cL_tenthsOf 2 = .ok (.aload_n 0, 1) := by decide +kernel
theorem dL_tenthsOf_3 : decode cL_tenthsOf 3 = .ok (.iload_n 1, 1) := by decide +kernel
theorem dL_tenthsOf_4 : decode cL_tenthsOf 4 = .ok (.invokevirtual 41, 3) := by decide +kernel
theorem dL_tenthsOf_7 : decode cL_tenthsOf 7 = .ok (.i2l, 1) := by decide +kernel
theorem dL_tenthsOf_8 : decode cL_tenthsOf 8 = .ok (.lastore, 1) := by decide +kernel
theorem dL_tenthsOf_9 : decode cL_tenthsOf 9 = .ok (.goto 6, 3) := by decide +kernel
theorem dL_tenthsOf_12 : decode cL_tenthsOf 12 = .ok (.astore_n 3, 1) := by decide +kernel
theorem dL_tenthsOf_13 : decode cL_tenthsOf 13 = .ok (.iconst 1, 1) := by decide +kernel
theorem dL_tenthsOf_14 : decode cL_tenthsOf 14 = .ok (.ireturn, 1) := by decide +kernel
theorem dL_tenthsOf_15 : decode cL_tenthsOf 15 = .ok (.iconst 0, 1) := by decide +kernel
theorem dL_tenthsOf_16 : decode cL_tenthsOf 16 = .ok (.ireturn, 1) := by decide +kernel
theorem dL_oddsOf_0 : decode cL_oddsOf 0 = .ok (.aload_n 2, 1) := by decide +kernel
theorem dL_oddsOf_1 : decode cL_oddsOf 1 = .ok (.iconst 0, 1) := by decide +kernel
theorem dL_oddsOf_2 : decode cL_oddsOf 2 = .ok (.aload_n 0, 1) := by decide +kernel
theorem dL_oddsOf_3 : decode cL_oddsOf 3 = .ok (.iload_n 1, 1) := by decide +kernel
theorem dL_oddsOf_4 : decode cL_oddsOf 4 = .ok (.invokevirtual 44, 3) := by decide +kernel
theorem dL_oddsOf_7 : decode cL_oddsOf 7 = .ok (.i2l, 1) := by decide +kernel
theorem dL_oddsOf_8 : decode cL_oddsOf 8 = .ok (.lastore, 1) := by decide +kernel
theorem dL_oddsOf_9 : decode cL_oddsOf 9 = .ok (.goto 6, 3) := by decide +kernel
theorem dL_oddsOf_12 : decode cL_oddsOf 12 = .ok (.astore_n 3, 1) := by decide +kernel
theorem dL_oddsOf_13 : decode cL_oddsOf 13 = .ok (.iconst 1, 1) := by decide +kernel
theorem dL_oddsOf_14 : decode cL_oddsOf 14 = .ok (.ireturn, 1) := by decide +kernel
theorem dL_oddsOf_15 : decode cL_oddsOf 15 = .ok (.iconst 0, 1) := by decide +kernel
theorem dL_oddsOf_16 : decode cL_oddsOf 16 = .ok (.ireturn, 1) := by decide +kernel
theorem dL_shareOf_0 : decode cL_shareOf 0 = .ok (.aload_n 3, 1) := by decide +kernel
theorem dL_shareOf_1 : decode cL_shareOf 1 = .ok (.iconst 0, 1) := by decide +kernel
theorem dL_shareOf_2 : decode cL_shareOf 2 = .ok (.aload_n 0, 1) := by decide +kernel
theorem dL_shareOf_3 : decode cL_shareOf 3 = .ok (.iload_n 1, 1) := by decide +kernel
theorem dL_shareOf_4 : decode cL_shareOf 4 = .ok (.iload_n 2, 1) := by decide +kernel
theorem dL_shareOf_5 : decode cL_shareOf 5 = .ok (.invokevirtual 47, 3) := by decide +kernel
theorem dL_shareOf_8 : decode cL_shareOf 8 = .ok (.i2l, 1) := by decide +kernel
theorem dL_shareOf_9 : decode cL_shareOf 9 = .ok (.lastore, 1) := by decide +kernel
theorem dL_shareOf_10 : decode cL_shareOf 10 = .ok (.goto 7, 3) := by decide +kernel
theorem dL_shareOf_13 : decode cL_shareOf 13 = .ok (.astore 4, 2) := by decide +kernel
theorem dL_shareOf_15 : decode cL_shareOf 15 = .ok (.iconst 1, 1) := by decide +kernel
theorem dL_shareOf_16 : decode cL_shareOf 16 = .ok (.ireturn, 1) := by decide +kernel
theorem dL_shareOf_17 : decode cL_shareOf 17 = .ok (.iconst 0, 1) := by decide +kernel
theorem dL_shareOf_18 : decode cL_shareOf 18 = .ok (.ireturn, 1) := by decide +kernel
theorem dL_weightOf_0 : decode cL_weightOf 0 = .ok (.aload_n 3, 1) := by decide +kernel
theorem dL_weightOf_1 : decode cL_weightOf 1 = .ok (.iconst 0, 1) := by decide +kernel
theorem dL_weightOf_2 : decode cL_weightOf 2 = .ok (.aload_n 0, 1) := by decide +kernel
theorem dL_weightOf_3 : decode cL_weightOf 3 = .ok (.iload_n 1, 1) := by decide +kernel
theorem dL_weightOf_4 : decode cL_weightOf 4 = .ok (.iload_n 2, 1) := by decide +kernel
theorem dL_weightOf_5 : decode cL_weightOf 5 = .ok (.invokevirtual 51, 3) := by decide +kernel
theorem dL_weightOf_8 : decode cL_weightOf 8 = .ok (.lastore, 1) := by decide +kernel
theorem dL_weightOf_9 : decode cL_weightOf 9 = .ok (.goto 7, 3) := by decide +kernel
theorem dL_weightOf_12 : decode cL_weightOf 12 = .ok (.astore 4, 2) := by decide +kernel
theorem dL_weightOf_14 : decode cL_weightOf 14 = .ok (.iconst 1, 1) := by decide +kernel
theorem dL_weightOf_15 : decode cL_weightOf 15 = .ok (.ireturn, 1) := by decide +kernel
theorem dL_weightOf_16 : decode cL_weightOf 16 = .ok (.iconst 0, 1) := by decide +kernel
theorem dL_weightOf_17 : decode cL_weightOf 17 = .ok (.ireturn, 1) := by decide +kernel
theorem dL_coinWeight_0 : decode cL_coinWeight 0 = .ok (.aload_n 2, 1) := by decide +kernel
theorem dL_coinWeight_1 : decode cL_coinWeight 1 = .ok (.iconst 0, 1) := by decide +kernel
theorem dL_coinWeight_2 : decode cL_coinWeight 2 = .ok (.aload_n 0, 1) := by decide +kernel
theorem dL_coinWeight_3 : decode cL_coinWeight 3 = .ok (.iload_n 1, 1) := by decide +kernel
theorem dL_coinWeight_4 : decode cL_coinWeight 4 = .ok (.invokevirtual 55, 3) := by decide +kernel
theorem dL_coinWeight_7 : decode cL_coinWeight 7 = .ok (.lastore, 1) := by decide +kernel
theorem dL_coinWeight_8 : decode cL_coinWeight 8 = .ok (.goto 6, 3) := by decide +kernel
theorem dL_coinWeight_11 : decode cL_coinWeight 11 = .ok (.astore_n 3, 1) := by decide +kernel
theorem dL_coinWeight_12 : decode cL_coinWeight 12 = .ok (.iconst 1, 1) := by decide +kernel
theorem dL_coinWeight_13 : decode cL_coinWeight 13 = .ok (.ireturn, 1) := by decide +kernel
theorem dL_coinWeight_14 : decode cL_coinWeight 14 = .ok (.iconst 0, 1) := by decide +kernel
theorem dL_coinWeight_15 : decode cL_coinWeight 15 = .ok (.ireturn, 1) := by decide +kernel
theorem dL_schoolWeight_0 : decode cL_schoolWeight 0 = .ok (.aload_n 2, 1) := by decide +kernel
theorem dL_schoolWeight_1 : decode cL_schoolWeight 1 = .ok (.iconst 0, 1) := by decide +kernel
theorem dL_schoolWeight_2 : decode cL_schoolWeight 2 = .ok (.aload_n 0, 1) := by decide +kernel
theorem dL_schoolWeight_3 : decode cL_schoolWeight 3 = .ok (.iload_n 1, 1) := by decide +kernel
theorem dL_schoolWeight_4 : decode cL_schoolWeight 4 = .ok (.invokevirtual 59, 3) := by decide +kernel
theorem dL_schoolWeight_7 : decode cL_schoolWeight 7 = .ok (.lastore, 1) := by decide +kernel
theorem dL_schoolWeight_8 : decode cL_schoolWeight 8 = .ok (.goto 6, 3) := by decide +kernel
theorem dL_schoolWeight_11 : decode cL_schoolWeight 11 = .ok (.astore_n 3, 1) := by decide +kernel
theorem dL_schoolWeight_12 : decode cL_schoolWeight 12 = .ok (.iconst 1, 1) := by decide +kernel
theorem dL_schoolWeight_13 : decode cL_schoolWeight 13 = .ok (.ireturn, 1) := by decide +kernel
theorem dL_schoolWeight_14 : decode cL_schoolWeight 14 = .ok (.iconst 0, 1) := by decide +kernel
theorem dL_schoolWeight_15 : decode cL_schoolWeight 15 = .ok (.ireturn, 1) := by decide +kernel
theorem dL_isRuledOut_0 : decode cL_isRuledOut 0 = .ok (.aload_n 2, 1) := by decide +kernel
theorem dL_isRuledOut_1 : decode cL_isRuledOut 1 = .ok (.iconst 0, 1) := by decide +kernel
theorem dL_isRuledOut_2 : decode cL_isRuledOut 2 = .ok (.aload_n 0, 1) := by decide +kernel
theorem dL_isRuledOut_3 : decode cL_isRuledOut 3 = .ok (.iload_n 1, 1) := by decide +kernel
theorem dL_isRuledOut_4 : decode cL_isRuledOut 4 = .ok (.invokevirtual 62, 3) := by decide +kernel
theorem dL_isRuledOut_7 : decode cL_isRuledOut 7 = .ok (.ifCond .eq 7, 3) := by decide +kernel
theorem dL_isRuledOut_10 : decode cL_isRuledOut 10 = .ok (.lconst 1, 1) := by decide +kernel
theorem dL_isRuledOut_11 : decode cL_isRuledOut 11 = .ok (.goto 4, 3) := by decide +kernel
theorem dL_isRuledOut_14 : decode cL_isRuledOut 14 = .ok (.lconst 0, 1) := by decide +kernel
theorem dL_isRuledOut_15 : decode cL_isRuledOut 15 = .ok (.lastore, 1) := by decide +kernel
theorem dL_isRuledOut_16 : decode cL_isRuledOut 16 = .ok (.goto 6, 3) := by decide +kernel
theorem dL_isRuledOut_19 : decode cL_isRuledOut 19 = .ok (.astore_n 3, 1) := by decide +kernel
theorem dL_isRuledOut_20 : decode cL_isRuledOut 20 = .ok (.iconst 1, 1) := by decide +kernel
theorem dL_isRuledOut_21 : decode cL_isRuledOut 21 = .ok (.ireturn, 1) := by decide +kernel
theorem dL_isRuledOut_22 : decode cL_isRuledOut 22 = .ok (.iconst 0, 1) := by decide +kernel
theorem dL_isRuledOut_23 : decode cL_isRuledOut 23 = .ok (.ireturn, 1) := by decide +kernel
theorem dL_coinPercent_0 : decode cL_coinPercent 0 = .ok (.aload_n 2, 1) := by decide +kernel
theorem dL_coinPercent_1 : decode cL_coinPercent 1 = .ok (.iconst 0, 1) := by decide +kernel
theorem dL_coinPercent_2 : decode cL_coinPercent 2 = .ok (.aload_n 0, 1) := by decide +kernel
theorem dL_coinPercent_3 : decode cL_coinPercent 3 = .ok (.iload_n 1, 1) := by decide +kernel
theorem dL_coinPercent_4 : decode cL_coinPercent 4 = .ok (.invokevirtual 65, 3) := by decide +kernel
theorem dL_coinPercent_7 : decode cL_coinPercent 7 = .ok (.i2l, 1) := by decide +kernel
theorem dL_coinPercent_8 : decode cL_coinPercent 8 = .ok (.lastore, 1) := by decide +kernel
theorem dL_coinPercent_9 : decode cL_coinPercent 9 = .ok (.goto 9, 3) := by decide +kernel
theorem dL_coinPercent_12 : decode cL_coinPercent 12 = .ok (.astore_n 3, 1) := by decide +kernel
theorem dL_coinPercent_13 : decode cL_coinPercent 13 = .ok (.iconst 1, 1) := by decide +kernel
theorem dL_coinPercent_14 : decode cL_coinPercent 14 = .ok (.ireturn, 1) := by decide +kernel
theorem dL_coinPercent_15 : decode cL_coinPercent 15 = .ok (.astore_n 3, 1) := by decide +kernel
theorem dL_coinPercent_16 : decode cL_coinPercent 16 = .ok (.iconst 2, 1) := by decide +kernel
theorem dL_coinPercent_17 : decode cL_coinPercent 17 = .ok (.ireturn, 1) := by decide +kernel
theorem dL_coinPercent_18 : decode cL_coinPercent 18 = .ok (.iconst 0, 1) := by decide +kernel
theorem dL_coinPercent_19 : decode cL_coinPercent 19 = .ok (.ireturn, 1) := by decide +kernel
theorem dL_schoolPercent_0 : decode cL_schoolPercent 0 = .ok (.aload_n 2, 1) := by decide +kernel
theorem dL_schoolPercent_1 : decode cL_schoolPercent 1 = .ok (.iconst 0, 1) := by decide +kernel
theorem dL_schoolPercent_2 : decode cL_schoolPercent 2 = .ok (.aload_n 0, 1) := by decide +kernel
theorem dL_schoolPercent_3 : decode cL_schoolPercent 3 = .ok (.iload_n 1, 1) := by decide +kernel
theorem dL_schoolPercent_4 : decode cL_schoolPercent 4 = .ok (.invokevirtual 68, 3) := by decide +kernel
theorem dL_schoolPercent_7 : decode cL_schoolPercent 7 = .ok (.i2l, 1) := by decide +kernel
theorem dL_schoolPercent_8 : decode cL_schoolPercent 8 = .ok (.lastore, 1) := by decide +kernel
theorem dL_schoolPercent_9 : decode cL_schoolPercent 9 = .ok (.goto 9, 3) := by decide +kernel
theorem dL_schoolPercent_12 : decode cL_schoolPercent 12 = .ok (.astore_n 3, 1) := by decide +kernel
theorem dL_schoolPercent_13 : decode cL_schoolPercent 13 = .ok (.iconst 1, 1) := by decide +kernel
theorem dL_schoolPercent_14 : decode cL_schoolPercent 14 = .ok (.ireturn, 1) := by decide +kernel
theorem dL_schoolPercent_15 : decode cL_schoolPercent 15 = .ok (.astore_n 3, 1) := by decide +kernel
theorem dL_schoolPercent_16 : decode cL_schoolPercent 16 = .ok (.iconst 2, 1) := by decide +kernel
theorem dL_schoolPercent_17 : decode cL_schoolPercent 17 = .ok (.ireturn, 1) := by decide +kernel
theorem dL_schoolPercent_18 : decode cL_schoolPercent 18 = .ok (.iconst 0, 1) := by decide +kernel
theorem dL_schoolPercent_19 : decode cL_schoolPercent 19 = .ok (.ireturn, 1) := by decide +kernel
theorem dL_leadingCoin_0 : decode cL_leadingCoin 0 = .ok (.aload_n 1, 1) := by decide +kernel
theorem dL_leadingCoin_1 : decode cL_leadingCoin 1 = .ok (.iconst 0, 1) := by decide +kernel
theorem dL_leadingCoin_2 : decode cL_leadingCoin 2 = .ok (.aload_n 0, 1) := by decide +kernel
theorem dL_leadingCoin_3 : decode cL_leadingCoin 3 = .ok (.invokevirtual 71, 3) := by decide +kernel
theorem dL_leadingCoin_6 : decode cL_leadingCoin 6 = .ok (.i2l, 1) := by decide +kernel
theorem dL_leadingCoin_7 : decode cL_leadingCoin 7 = .ok (.lastore, 1) := by decide +kernel
theorem dL_leadingCoin_8 : decode cL_leadingCoin 8 = .ok (.goto 6, 3) := by decide +kernel
theorem dL_leadingCoin_11 : decode cL_leadingCoin 11 = .ok (.astore_n 2, 1) := by decide +kernel
theorem dL_leadingCoin_12 : decode cL_leadingCoin 12 = .ok (.iconst 1, 1) := by decide +kernel
theorem dL_leadingCoin_13 : decode cL_leadingCoin 13 = .ok (.ireturn, 1) := by decide +kernel
theorem dL_leadingCoin_14 : decode cL_leadingCoin 14 = .ok (.iconst 0, 1) := by decide +kernel
theorem dL_leadingCoin_15 : decode cL_leadingCoin 15 = .ok (.ireturn, 1) := by decide +kernel
theorem dL_leadingSchool_0 : decode cL_leadingSchool 0 = .ok (.aload_n 1, 1) := by decide +kernel
theorem dL_leadingSchool_1 : decode cL_leadingSchool 1 = .ok (.iconst 0, 1) := by decide +kernel
theorem dL_leadingSchool_2 : decode cL_leadingSchool 2 = .ok (.aload_n 0, 1) := by decide +kernel
theorem dL_leadingSchool_3 : decode cL_leadingSchool 3 = .ok (.invokevirtual 75, 3) := by decide +kernel
theorem dL_leadingSchool_6 : decode cL_leadingSchool 6 = .ok (.i2l, 1) := by decide +kernel
theorem dL_leadingSchool_7 : decode cL_leadingSchool 7 = .ok (.lastore, 1) := by decide +kernel
theorem dL_leadingSchool_8 : decode cL_leadingSchool 8 = .ok (.goto 6, 3) := by decide +kernel
theorem dL_leadingSchool_11 : decode cL_leadingSchool 11 = .ok (.astore_n 2, 1) := by decide +kernel
theorem dL_leadingSchool_12 : decode cL_leadingSchool 12 = .ok (.iconst 1, 1) := by decide +kernel
theorem dL_leadingSchool_13 : decode cL_leadingSchool 13 = .ok (.ireturn, 1) := by decide +kernel
theorem dL_leadingSchool_14 : decode cL_leadingSchool 14 = .ok (.iconst 0, 1) := by decide +kernel
theorem dL_leadingSchool_15 : decode cL_leadingSchool 15 = .ok (.ireturn, 1) := by decide +kernel
theorem dL_oddsAgainst_0 : decode cL_oddsAgainst 0 = .ok (.aload_n 3, 1) := by decide +kernel
theorem dL_oddsAgainst_1 : decode cL_oddsAgainst 1 = .ok (.iconst 0, 1) := by decide +kernel
theorem dL_oddsAgainst_2 : decode cL_oddsAgainst 2 = .ok (.aload_n 0, 1) := by decide +kernel
theorem dL_oddsAgainst_3 : decode cL_oddsAgainst 3 = .ok (.iload_n 1, 1) := by decide +kernel
theorem dL_oddsAgainst_4 : decode cL_oddsAgainst 4 = .ok (.iload_n 2, 1) := by decide +kernel
theorem dL_oddsAgainst_5 : decode cL_oddsAgainst 5 = .ok (.invokevirtual 78, 3) := by decide +kernel
theorem dL_oddsAgainst_8 : decode cL_oddsAgainst 8 = .ok (.lastore, 1) := by decide +kernel
theorem dL_oddsAgainst_9 : decode cL_oddsAgainst 9 = .ok (.goto 11, 3) := by decide +kernel
theorem dL_oddsAgainst_12 : decode cL_oddsAgainst 12 = .ok (.astore 4, 2) := by decide +kernel
theorem dL_oddsAgainst_14 : decode cL_oddsAgainst 14 = .ok (.iconst 1, 1) := by decide +kernel
theorem dL_oddsAgainst_15 : decode cL_oddsAgainst 15 = .ok (.ireturn, 1) := by decide +kernel
theorem dL_oddsAgainst_16 : decode cL_oddsAgainst 16 = .ok (.astore 4, 2) := by decide +kernel
theorem dL_oddsAgainst_18 : decode cL_oddsAgainst 18 = .ok (.iconst 2, 1) := by decide +kernel
theorem dL_oddsAgainst_19 : decode cL_oddsAgainst 19 = .ok (.ireturn, 1) := by decide +kernel
theorem dL_oddsAgainst_20 : decode cL_oddsAgainst 20 = .ok (.iconst 0, 1) := by decide +kernel
theorem dL_oddsAgainst_21 : decode cL_oddsAgainst 21 = .ok (.ireturn, 1) := by decide +kernel
theorem dL_surpriseOf_0 : decode cL_surpriseOf 0 = .ok (.aload_n 2, 1) := by decide +kernel
theorem dL_surpriseOf_1 : decode cL_surpriseOf 1 = .ok (.iconst 0, 1) := by decide +kernel
theorem dL_surpriseOf_2 : decode cL_surpriseOf 2 = .ok (.aload_n 0, 1) := by decide +kernel
theorem dL_surpriseOf_3 : decode cL_surpriseOf 3 = .ok (.iload_n 1, 1) := by decide +kernel
theorem dL_surpriseOf_4 : decode cL_surpriseOf 4 = .ok (.invokevirtual 81, 3) := by decide +kernel
theorem dL_surpriseOf_7 : decode cL_surpriseOf 7 = .ok (.i2l, 1) := by decide +kernel
theorem dL_surpriseOf_8 : decode cL_surpriseOf 8 = .ok (.lastore, 1) := by decide +kernel
theorem dL_surpriseOf_9 : decode cL_surpriseOf 9 = .ok (.goto 6, 3) := by decide +kernel
theorem dL_surpriseOf_12 : decode cL_surpriseOf 12 = .ok (.astore_n 3, 1) := by decide +kernel
theorem dL_surpriseOf_13 : decode cL_surpriseOf 13 = .ok (.iconst 1, 1) := by decide +kernel
theorem dL_surpriseOf_14 : decode cL_surpriseOf 14 = .ok (.ireturn, 1) := by decide +kernel
theorem dL_surpriseOf_15 : decode cL_surpriseOf 15 = .ok (.iconst 0, 1) := by decide +kernel
theorem dL_surpriseOf_16 : decode cL_surpriseOf 16 = .ok (.ireturn, 1) := by decide +kernel
theorem dL_headsPercent_0 : decode cL_headsPercent 0 = .ok (.aload_n 1, 1) := by decide +kernel
theorem dL_headsPercent_1 : decode cL_headsPercent 1 = .ok (.iconst 0, 1) := by decide +kernel
theorem dL_headsPercent_2 : decode cL_headsPercent 2 = .ok (.aload_n 0, 1) := by decide +kernel
theorem dL_headsPercent_3 : decode cL_headsPercent 3 = .ok (.invokevirtual 84, 3) := by decide +kernel
theorem dL_headsPercent_6 : decode cL_headsPercent 6 = .ok (.i2l, 1) := by decide +kernel
theorem dL_headsPercent_7 : decode cL_headsPercent 7 = .ok (.lastore, 1) := by decide +kernel
theorem dL_headsPercent_8 : decode cL_headsPercent 8 = .ok (.goto 6, 3) := by decide +kernel
theorem dL_headsPercent_11 : decode cL_headsPercent 11 = .ok (.astore_n 2, 1) := by decide +kernel
theorem dL_headsPercent_12 : decode cL_headsPercent 12 = .ok (.iconst 1, 1) := by decide +kernel
theorem dL_headsPercent_13 : decode cL_headsPercent 13 = .ok (.ireturn, 1) := by decide +kernel
theorem dL_headsPercent_14 : decode cL_headsPercent 14 = .ok (.iconst 0, 1) := by decide +kernel
theorem dL_headsPercent_15 : decode cL_headsPercent 15 = .ok (.ireturn, 1) := by decide +kernel
theorem dL_wouldSurprise_0 : decode cL_wouldSurprise 0 = .ok (.aload_n 2, 1) := by decide +kernel
theorem dL_wouldSurprise_1 : decode cL_wouldSurprise 1 = .ok (.iconst 0, 1) := by decide +kernel
theorem dL_wouldSurprise_2 : decode cL_wouldSurprise 2 = .ok (.aload_n 0, 1) := by decide +kernel
theorem dL_wouldSurprise_3 : decode cL_wouldSurprise 3 = .ok (.iload_n 1, 1) := by decide +kernel
theorem dL_wouldSurprise_4 : decode cL_wouldSurprise 4 = .ok (.invokevirtual 87, 3) := by decide +kernel
theorem dL_wouldSurprise_7 : decode cL_wouldSurprise 7 = .ok (.i2l, 1) := by decide +kernel
theorem dL_wouldSurprise_8 : decode cL_wouldSurprise 8 = .ok (.lastore, 1) := by decide +kernel
theorem dL_wouldSurprise_9 : decode cL_wouldSurprise 9 = .ok (.goto 6, 3) := by decide +kernel
theorem dL_wouldSurprise_12 : decode cL_wouldSurprise 12 = .ok (.astore_n 3, 1) := by decide +kernel
theorem dL_wouldSurprise_13 : decode cL_wouldSurprise 13 = .ok (.iconst 1, 1) := by decide +kernel
theorem dL_wouldSurprise_14 : decode cL_wouldSurprise 14 = .ok (.ireturn, 1) := by decide +kernel
theorem dL_wouldSurprise_15 : decode cL_wouldSurprise 15 = .ok (.iconst 0, 1) := by decide +kernel
theorem dL_wouldSurprise_16 : decode cL_wouldSurprise 16 = .ok (.ireturn, 1) := by decide +kernel
theorem dL_leaderBehind_0 : decode cL_leaderBehind 0 = .ok (.aload_n 2, 1) := by decide +kernel
theorem dL_leaderBehind_1 : decode cL_leaderBehind 1 = .ok (.iconst 0, 1) := by decide +kernel
theorem dL_leaderBehind_2 : decode cL_leaderBehind 2 = .ok (.aload_n 0, 1) := by decide +kernel
theorem dL_leaderBehind_3 : decode cL_leaderBehind 3 = .ok (.iload_n 1, 1) := by decide +kernel
theorem dL_leaderBehind_4 : decode cL_leaderBehind 4 = .ok (.invokevirtual 90, 3) := by decide +kernel
theorem dL_leaderBehind_7 : decode cL_leaderBehind 7 = .ok (.i2l, 1) := by decide +kernel
theorem dL_leaderBehind_8 : decode cL_leaderBehind 8 = .ok (.lastore, 1) := by decide +kernel
theorem dL_leaderBehind_9 : decode cL_leaderBehind 9 = .ok (.goto 6, 3) := by decide +kernel
theorem dL_leaderBehind_12 : decode cL_leaderBehind 12 = .ok (.astore_n 3, 1) := by decide +kernel
theorem dL_leaderBehind_13 : decode cL_leaderBehind 13 = .ok (.iconst 1, 1) := by decide +kernel
theorem dL_leaderBehind_14 : decode cL_leaderBehind 14 = .ok (.ireturn, 1) := by decide +kernel
theorem dL_leaderBehind_15 : decode cL_leaderBehind 15 = .ok (.iconst 0, 1) := by decide +kernel
theorem dL_leaderBehind_16 : decode cL_leaderBehind 16 = .ok (.ireturn, 1) := by decide +kernel
theorem dL_tossesToLead_0 : decode cL_tossesToLead 0 = .ok (.aload_n 2, 1) := by decide +kernel
theorem dL_tossesToLead_1 : decode cL_tossesToLead 1 = .ok (.iconst 0, 1) := by decide +kernel
theorem dL_tossesToLead_2 : decode cL_tossesToLead 2 = .ok (.aload_n 0, 1) := by decide +kernel
theorem dL_tossesToLead_3 : decode cL_tossesToLead 3 = .ok (.iload_n 1, 1) := by decide +kernel
theorem dL_tossesToLead_4 : decode cL_tossesToLead 4 = .ok (.invokevirtual 93, 3) := by decide +kernel
theorem dL_tossesToLead_7 : decode cL_tossesToLead 7 = .ok (.i2l, 1) := by decide +kernel
theorem dL_tossesToLead_8 : decode cL_tossesToLead 8 = .ok (.lastore, 1) := by decide +kernel
theorem dL_tossesToLead_9 : decode cL_tossesToLead 9 = .ok (.goto 6, 3) := by decide +kernel
theorem dL_tossesToLead_12 : decode cL_tossesToLead 12 = .ok (.astore_n 3, 1) := by decide +kernel
theorem dL_tossesToLead_13 : decode cL_tossesToLead 13 = .ok (.iconst 1, 1) := by decide +kernel
theorem dL_tossesToLead_14 : decode cL_tossesToLead 14 = .ok (.ireturn, 1) := by decide +kernel
theorem dL_tossesToLead_15 : decode cL_tossesToLead 15 = .ok (.iconst 0, 1) := by decide +kernel
theorem dL_tossesToLead_16 : decode cL_tossesToLead 16 = .ok (.ireturn, 1) := by decide +kernel
theorem dL_meanTenths_0 : decode cL_meanTenths 0 = .ok (.aload_n 1, 1) := by decide +kernel
theorem dL_meanTenths_1 : decode cL_meanTenths 1 = .ok (.iconst 0, 1) := by decide +kernel
theorem dL_meanTenths_2 : decode cL_meanTenths 2 = .ok (.aload_n 0, 1) := by decide +kernel
theorem dL_meanTenths_3 : decode cL_meanTenths 3 = .ok (.invokevirtual 96, 3) := by decide +kernel
theorem dL_meanTenths_6 : decode cL_meanTenths 6 = .ok (.dastore, 1) := by decide +kernel
theorem dL_meanTenths_7 : decode cL_meanTenths 7 = .ok (.goto 6, 3) := by decide +kernel
theorem dL_meanTenths_10 : decode cL_meanTenths 10 = .ok (.astore_n 2, 1) := by decide +kernel
theorem dL_meanTenths_11 : decode cL_meanTenths 11 = .ok (.iconst 1, 1) := by decide +kernel
theorem dL_meanTenths_12 : decode cL_meanTenths 12 = .ok (.ireturn, 1) := by decide +kernel
theorem dL_meanTenths_13 : decode cL_meanTenths 13 = .ok (.iconst 0, 1) := by decide +kernel
theorem dL_meanTenths_14 : decode cL_meanTenths 14 = .ok (.ireturn, 1) := by decide +kernel
theorem dL_law_0 : decode cL_law 0 = .ok (.new 8, 3) := by decide +kernel
theorem dL_law_3 : decode cL_law 3 = .ok (.dup, 1) := by decide +kernel
theorem dL_law_4 : decode cL_law 4 = .ok (.invokespecial 100, 3) := by decide +kernel
theorem dL_law_7 : decode cL_law 7 = .ok (.astore_n 1, 1) := by decide +kernel
theorem dL_law_8 : decode cL_law 8 = .ok (.new 101, 3) := by decide +kernel
theorem dL_law_11 : decode cL_law 11 = .ok (.dup, 1) := by decide +kernel
theorem dL_law_12 : decode cL_law 12 = .ok (.invokespecial 103, 3) := by decide +kernel
theorem dL_law_15 : decode cL_law 15 = .ok (.astore_n 2, 1) := by decide +kernel
theorem dL_law_16 : decode cL_law 16 = .ok (.iconst 1, 1) := by decide +kernel
theorem dL_law_17 : decode cL_law 17 = .ok (.newarray .long, 2) := by decide +kernel
theorem dL_law_19 : decode cL_law 19 = .ok (.astore_n 3, 1) := by decide +kernel
theorem dL_law_20 : decode cL_law 20 = .ok (.iconst 1, 1) := by decide +kernel
theorem dL_law_21 : decode cL_law 21 = .ok (.newarray .double, 2) := by decide +kernel
theorem dL_law_23 : decode cL_law 23 = .ok (.astore 4, 2) := by decide +kernel
theorem dL_law_25 : decode cL_law 25 = .ok (.iconst 0, 1) := by decide +kernel
theorem dL_law_26 : decode cL_law 26 = .ok (.istore 5, 2) := by decide +kernel
theorem dL_law_28 : decode cL_law 28 = .ok (.iload 5, 2) := by decide +kernel
theorem dL_law_30 : decode cL_law 30 = .ok (.aload_n 0, 1) := by decide +kernel
theorem dL_law_31 : decode cL_law 31 = .ok (.arraylength, 1) := by decide +kernel
theorem dL_law_32 : decode cL_law 32 = .ok (.iconst 4, 1) := by decide +kernel
theorem dL_law_33 : decode cL_law 33 = .ok (.isub, 1) := by decide +kernel
theorem dL_law_34 : decode cL_law 34 = .ok (.if_icmp .gt 1790, 3) := by decide +kernel
theorem dL_law_37 : decode cL_law 37 = .ok (.aload_n 0, 1) := by decide +kernel
theorem dL_law_38 : decode cL_law 38 = .ok (.iload 5, 2) := by decide +kernel
theorem dL_law_40 : decode cL_law 40 = .ok (.iaload, 1) := by decide +kernel
theorem dL_law_41 : decode cL_law 41 = .ok (.bipush 63, 2) := by decide +kernel
theorem dL_law_43 : decode cL_law 43 = .ok (.iand, 1) := by decide +kernel
theorem dL_law_44 : decode cL_law 44 = .ok (.tableswitch 1774 0 34 #[156, 212, 268, 348, 420, 471, 527, 540, 553, 566, 579, 642, 698, 754, 822, 889, 944, 999, 1013, 1076, 1089, 1145, 1201, 1245, 1289, 1356, 1412, 1425, 1438, 1482, 1554, 1626, 1682, 1695, 1760], 156) := by decide +kernel
theorem dL_law_200 : decode cL_law 200 = .ok (.aload_n 1, 1) := by decide +kernel
theorem dL_law_201 : decode cL_law 201 = .ok (.aload_n 0, 1) := by decide +kernel
theorem dL_law_202 : decode cL_law 202 = .ok (.iload 5, 2) := by decide +kernel
theorem dL_law_204 : decode cL_law 204 = .ok (.iconst 1, 1) := by decide +kernel
theorem dL_law_205 : decode cL_law 205 = .ok (.iadd, 1) := by decide +kernel
theorem dL_law_206 : decode cL_law 206 = .ok (.iaload, 1) := by decide +kernel
theorem dL_law_207 : decode cL_law 207 = .ok (.aload_n 3, 1) := by decide +kernel
theorem dL_law_208 : decode cL_law 208 = .ok (.invokestatic 104, 3) := by decide +kernel
theorem dL_law_211 : decode cL_law 211 = .ok (.istore 6, 2) := by decide +kernel
theorem dL_law_213 : decode cL_law 213 = .ok (.aload_n 2, 1) := by decide +kernel
theorem dL_law_214 : decode cL_law 214 = .ok (.aload_n 0, 1) := by decide +kernel
theorem dL_law_215 : decode cL_law 215 = .ok (.iload 5, 2) := by decide +kernel
theorem dL_law_217 : decode cL_law 217 = .ok (.iconst 1, 1) := by decide +kernel
theorem dL_law_218 : decode cL_law 218 = .ok (.iadd, 1) := by decide +kernel
theorem dL_law_219 : decode cL_law 219 = .ok (.iaload, 1) := by decide +kernel
theorem dL_law_220 : decode cL_law 220 = .ok (.invokevirtual 109, 3) := by decide +kernel
theorem dL_law_223 : decode cL_law 223 = .ok (.istore 7, 2) := by decide +kernel
theorem dL_law_225 : decode cL_law 225 = .ok (.aload_n 2, 1) := by decide +kernel
theorem dL_law_226 : decode cL_law 226 = .ok (.invokevirtual 110, 3) := by decide +kernel
theorem dL_law_229 : decode cL_law 229 = .ok (.iload 6, 2) := by decide +kernel
theorem dL_law_231 : decode cL_law 231 = .ok (.if_icmp .eq 5, 3) := by decide +kernel
theorem dL_law_234 : decode cL_law 234 = .ok (.iconst 0, 1) := by decide +kernel
theorem dL_law_235 : decode cL_law 235 = .ok (.ireturn, 1) := by decide +kernel
theorem dL_law_236 : decode cL_law 236 = .ok (.iload 6, 2) := by decide +kernel
theorem dL_law_238 : decode cL_law 238 = .ok (.ifCond .ne 15, 3) := by decide +kernel
theorem dL_law_241 : decode cL_law 241 = .ok (.aload_n 3, 1) := by decide +kernel
theorem dL_law_242 : decode cL_law 242 = .ok (.iconst 0, 1) := by decide +kernel
theorem dL_law_243 : decode cL_law 243 = .ok (.laload, 1) := by decide +kernel
theorem dL_law_244 : decode cL_law 244 = .ok (.iload 7, 2) := by decide +kernel
theorem dL_law_246 : decode cL_law 246 = .ok (.i2l, 1) := by decide +kernel
theorem dL_law_247 : decode cL_law 247 = .ok (.lcmp, 1) := by decide +kernel
theorem dL_law_248 : decode cL_law 248 = .ok (.ifCond .eq 5, 3) := by decide +kernel
theorem dL_law_251 : decode cL_law 251 = .ok (.iconst 0, 1) := by decide +kernel
theorem dL_law_252 : decode cL_law 252 = .ok (.ireturn, 1) := by decide +kernel
theorem dL_law_253 : decode cL_law 253 = .ok (.goto 1565, 3) := by decide +kernel
theorem dL_law_256 : decode cL_law 256 = .ok (.aload_n 1, 1) := by decide +kernel
theorem dL_law_257 : decode cL_law 257 = .ok (.aload_n 0, 1) := by decide +kernel
theorem dL_law_258 : decode cL_law 258 = .ok (.iload 5, 2) := by decide +kernel
theorem dL_law_260 : decode cL_law 260 = .ok (.iconst 1, 1) := by decide +kernel
theorem dL_law_261 : decode cL_law 261 = .ok (.iadd, 1) := by decide +kernel
theorem dL_law_262 : decode cL_law 262 = .ok (.iaload, 1) := by decide +kernel
theorem dL_law_263 : decode cL_law 263 = .ok (.aload_n 3, 1) := by decide +kernel
theorem dL_law_264 : decode cL_law 264 = .ok (.invokestatic 113, 3) := by decide +kernel
theorem dL_law_267 : decode cL_law 267 = .ok (.istore 6, 2) := by decide +kernel
theorem dL_law_269 : decode cL_law 269 = .ok (.aload_n 2, 1) := by decide +kernel
theorem dL_law_270 : decode cL_law 270 = .ok (.aload_n 0, 1) := by decide +kernel
theorem dL_law_271 : decode cL_law 271 = .ok (.iload 5, 2) := by decide +kernel
theorem dL_law_273 : decode cL_law 273 = .ok (.iconst 1, 1) := by decide +kernel
theorem dL_law_274 : decode cL_law 274 = .ok (.iadd, 1) := by decide +kernel
theorem dL_law_275 : decode cL_law 275 = .ok (.iaload, 1) := by decide +kernel
theorem dL_law_276 : decode cL_law 276 = .ok (.invokevirtual 115, 3) := by decide +kernel
theorem dL_law_279 : decode cL_law 279 = .ok (.istore 7, 2) := by decide +kernel
theorem dL_law_281 : decode cL_law 281 = .ok (.aload_n 2, 1) := by decide +kernel
theorem dL_law_282 : decode cL_law 282 = .ok (.invokevirtual 110, 3) := by decide +kernel
theorem dL_law_285 : decode cL_law 285 = .ok (.iload 6, 2) := by decide +kernel
theorem dL_law_287 : decode cL_law 287 = .ok (.if_icmp .eq 5, 3) := by decide +kernel
theorem dL_law_290 : decode cL_law 290 = .ok (.iconst 0, 1) := by decide +kernel
theorem dL_law_291 : decode cL_law 291 = .ok (.ireturn, 1) := by decide +kernel
theorem dL_law_292 : decode cL_law 292 = .ok (.iload 6, 2) := by decide +kernel
theorem dL_law_294 : decode cL_law 294 = .ok (.ifCond .ne 15, 3) := by decide +kernel
theorem dL_law_297 : decode cL_law 297 = .ok (.aload_n 3, 1) := by decide +kernel
theorem dL_law_298 : decode cL_law 298 = .ok (.iconst 0, 1) := by decide +kernel
theorem dL_law_299 : decode cL_law 299 = .ok (.laload, 1) := by decide +kernel
theorem dL_law_300 : decode cL_law 300 = .ok (.iload 7, 2) := by decide +kernel
theorem dL_law_302 : decode cL_law 302 = .ok (.i2l, 1) := by decide +kernel
theorem dL_law_303 : decode cL_law 303 = .ok (.lcmp, 1) := by decide +kernel
theorem dL_law_304 : decode cL_law 304 = .ok (.ifCond .eq 5, 3) := by decide +kernel
theorem dL_law_307 : decode cL_law 307 = .ok (.iconst 0, 1) := by decide +kernel
theorem dL_law_308 : decode cL_law 308 = .ok (.ireturn, 1) := by decide +kernel
theorem dL_law_309 : decode cL_law 309 = .ok (.goto 1509, 3) := by decide +kernel
theorem dL_law_312 : decode cL_law 312 = .ok (.aload_n 1, 1) := by decide +kernel
theorem dL_law_313 : decode cL_law 313 = .ok (.aload_n 0, 1) := by decide +kernel
theorem dL_law_314 : decode cL_law 314 = .ok (.iload 5, 2) := by decide +kernel
theorem dL_law_316 : decode cL_law 316 = .ok (.iconst 1, 1) := by decide +kernel
theorem dL_law_317 : decode cL_law 317 = .ok (.iadd, 1) := by decide +kernel
theorem dL_law_318 : decode cL_law 318 = .ok (.iaload, 1) := by decide +kernel
theorem dL_law_319 : decode cL_law 319 = .ok (.aload_n 0, 1) := by decide +kernel
theorem dL_law_320 : decode cL_law 320 = .ok (.iload 5, 2) := by decide +kernel
theorem dL_law_322 : decode cL_law 322 = .ok (.iconst 2, 1) := by decide +kernel
theorem dL_law_323 : decode cL_law 323 = .ok (.iadd, 1) := by decide +kernel
theorem dL_law_324 : decode cL_law 324 = .ok (.iaload, 1) := by decide +kernel
theorem dL_law_325 : decode cL_law 325 = .ok (.aload_n 0, 1) := by decide +kernel
theorem dL_law_326 : decode cL_law 326 = .ok (.iload 5, 2) := by decide +kernel
theorem dL_law_328 : decode cL_law 328 = .ok (.iconst 3, 1) := by decide +kernel
theorem dL_law_329 : decode cL_law 329 = .ok (.iadd, 1) := by decide +kernel
theorem dL_law_330 : decode cL_law 330 = .ok (.iaload, 1) := by decide +kernel
theorem dL_law_331 : decode cL_law 331 = .ok (.aload_n 3, 1) := by decide +kernel
theorem dL_law_332 : decode cL_law 332 = .ok (.invokestatic 116, 3) := by decide +kernel
theorem dL_law_335 : decode cL_law 335 = .ok (.istore 6, 2) := by decide +kernel
theorem dL_law_337 : decode cL_law 337 = .ok (.aload_n 2, 1) := by decide +kernel
theorem dL_law_338 : decode cL_law 338 = .ok (.aload_n 0, 1) := by decide +kernel
theorem dL_law_339 : decode cL_law 339 = .ok (.iload 5, 2) := by decide +kernel
theorem dL_law_341 : decode cL_law 341 = .ok (.iconst 1, 1) := by decide +kernel
theorem dL_law_342 : decode cL_law 342 = .ok (.iadd, 1) := by decide +kernel
theorem dL_law_343 : decode cL_law 343 = .ok (.iaload, 1) := by decide +kernel
theorem dL_law_344 : decode cL_law 344 = .ok (.aload_n 0, 1) := by decide +kernel
theorem dL_law_345 : decode cL_law 345 = .ok (.iload 5, 2) := by decide +kernel
theorem dL_law_347 : decode cL_law 347 = .ok (.iconst 2, 1) := by decide +kernel
theorem dL_law_348 : decode cL_law 348 = .ok (.iadd, 1) := by decide +kernel
theorem dL_law_349 : decode cL_law 349 = .ok (.iaload, 1) := by decide +kernel
theorem dL_law_350 : decode cL_law 350 = .ok (.aload_n 0, 1) := by decide +kernel
theorem dL_law_351 : decode cL_law 351 = .ok (.iload 5, 2) := by decide +kernel
theorem dL_law_353 : decode cL_law 353 = .ok (.iconst 3, 1) := by decide +kernel
theorem dL_law_354 : decode cL_law 354 = .ok (.iadd, 1) := by decide +kernel
theorem dL_law_355 : decode cL_law 355 = .ok (.iaload, 1) := by decide +kernel
theorem dL_law_356 : decode cL_law 356 = .ok (.invokevirtual 119, 3) := by decide +kernel
theorem dL_law_359 : decode cL_law 359 = .ok (.istore 7, 2) := by decide +kernel
theorem dL_law_361 : decode cL_law 361 = .ok (.aload_n 2, 1) := by decide +kernel
theorem dL_law_362 : decode cL_law 362 = .ok (.invokevirtual 110, 3) := by decide +kernel
theorem dL_law_365 : decode cL_law 365 = .ok (.iload 6, 2) := by decide +kernel
theorem dL_law_367 : decode cL_law 367 = .ok (.if_icmp .eq 5, 3) := by decide +kernel
theorem dL_law_370 : decode cL_law 370 = .ok (.iconst 0, 1) := by decide +kernel
theorem dL_law_371 : decode cL_law 371 = .ok (.ireturn, 1) := by decide +kernel
theorem dL_law_372 : decode cL_law 372 = .ok (.iload 6, 2) := by decide +kernel
theorem dL_law_374 : decode cL_law 374 = .ok (.ifCond .ne 15, 3) := by decide +kernel
theorem dL_law_377 : decode cL_law 377 = .ok (.aload_n 3, 1) := by decide +kernel
theorem dL_law_378 : decode cL_law 378 = .ok (.iconst 0, 1) := by decide +kernel
theorem dL_law_379 : decode cL_law 379 = .ok (.laload, 1) := by decide +kernel
theorem dL_law_380 : decode cL_law 380 = .ok (.iload 7, 2) := by decide +kernel
theorem dL_law_382 : decode cL_law 382 = .ok (.i2l, 1) := by decide +kernel
theorem dL_law_383 : decode cL_law 383 = .ok (.lcmp, 1) := by decide +kernel
theorem dL_law_384 : decode cL_law 384 = .ok (.ifCond .eq 5, 3) := by decide +kernel
theorem dL_law_387 : decode cL_law 387 = .ok (.iconst 0, 1) := by decide +kernel
theorem dL_law_388 : decode cL_law 388 = .ok (.ireturn, 1) := by decide +kernel
theorem dL_law_389 : decode cL_law 389 = .ok (.goto 1429, 3) := by decide +kernel
theorem dL_law_392 : decode cL_law 392 = .ok (.aload_n 1, 1) := by decide +kernel
theorem dL_law_393 : decode cL_law 393 = .ok (.aload_n 0, 1) := by decide +kernel
theorem dL_law_394 : decode cL_law 394 = .ok (.iload 5, 2) := by decide +kernel
theorem dL_law_396 : decode cL_law 396 = .ok (.iconst 1, 1) := by decide +kernel
theorem dL_law_397 : decode cL_law 397 = .ok (.iadd, 1) := by decide +kernel
theorem dL_law_398 : decode cL_law 398 = .ok (.iaload, 1) := by decide +kernel
theorem dL_law_399 : decode cL_law 399 = .ok (.ifCond .eq 7, 3) := by decide +kernel
theorem dL_law_402 : decode cL_law 402 = .ok (.iconst 1, 1) := by decide +kernel
theorem dL_law_403 : decode cL_law 403 = .ok (.goto 4, 3) := by decide +kernel
theorem dL_law_406 : decode cL_law 406 = .ok (.iconst 0, 1) := by decide +kernel
theorem dL_law_407 : decode cL_law 407 = .ok (.aload_n 3, 1) := by decide +kernel
theorem dL_law_408 : decode cL_law 408 = .ok (.invokestatic 120, 3) := by decide +kernel
theorem dL_law_411 : decode cL_law 411 = .ok (.istore 6, 2) := by decide +kernel
theorem dL_law_413 : decode cL_law 413 = .ok (.aload_n 2, 1) := by decide +kernel
theorem dL_law_414 : decode cL_law 414 = .ok (.aload_n 0, 1) := by decide +kernel
theorem dL_law_415 : decode cL_law 415 = .ok (.iload 5, 2) := by decide +kernel
theorem dL_law_417 : decode cL_law 417 = .ok (.iconst 1, 1) := by decide +kernel
theorem dL_law_418 : decode cL_law 418 = .ok (.iadd, 1) := by decide +kernel
theorem dL_law_419 : decode cL_law 419 = .ok (.iaload, 1) := by decide +kernel
theorem dL_law_420 : decode cL_law 420 = .ok (.ifCond .eq 7, 3) := by decide +kernel
theorem dL_law_423 : decode cL_law 423 = .ok (.iconst 1, 1) := by decide +kernel
theorem dL_law_424 : decode cL_law 424 = .ok (.goto 4, 3) := by decide +kernel
theorem dL_law_427 : decode cL_law 427 = .ok (.iconst 0, 1) := by decide +kernel
theorem dL_law_428 : decode cL_law 428 = .ok (.invokevirtual 123, 3) := by decide +kernel
theorem dL_law_431 : decode cL_law 431 = .ok (.istore 7, 2) := by decide +kernel
theorem dL_law_433 : decode cL_law 433 = .ok (.aload_n 2, 1) := by decide +kernel
theorem dL_law_434 : decode cL_law 434 = .ok (.invokevirtual 110, 3) := by decide +kernel
theorem dL_law_437 : decode cL_law 437 = .ok (.iload 6, 2) := by decide +kernel
theorem dL_law_439 : decode cL_law 439 = .ok (.if_icmp .eq 5, 3) := by decide +kernel
theorem dL_law_442 : decode cL_law 442 = .ok (.iconst 0, 1) := by decide +kernel
theorem dL_law_443 : decode cL_law 443 = .ok (.ireturn, 1) := by decide +kernel
theorem dL_law_444 : decode cL_law 444 = .ok (.iload 6, 2) := by decide +kernel
theorem dL_law_446 : decode cL_law 446 = .ok (.ifCond .ne 15, 3) := by decide +kernel
theorem dL_law_449 : decode cL_law 449 = .ok (.aload_n 3, 1) := by decide +kernel
theorem dL_law_450 : decode cL_law 450 = .ok (.iconst 0, 1) := by decide +kernel
theorem dL_law_451 : decode cL_law 451 = .ok (.laload, 1) := by decide +kernel
theorem dL_law_452 : decode cL_law 452 = .ok (.iload 7, 2) := by decide +kernel
theorem dL_law_454 : decode cL_law 454 = .ok (.i2l, 1) := by decide +kernel
theorem dL_law_455 : decode cL_law 455 = .ok (.lcmp, 1) := by decide +kernel
theorem dL_law_456 : decode cL_law 456 = .ok (.ifCond .eq 5, 3) := by decide +kernel
theorem dL_law_459 : decode cL_law 459 = .ok (.iconst 0, 1) := by decide +kernel
theorem dL_law_460 : decode cL_law 460 = .ok (.ireturn, 1) := by decide +kernel
theorem dL_law_461 : decode cL_law 461 = .ok (.goto 1357, 3) := by decide +kernel
theorem dL_law_464 : decode cL_law 464 = .ok (.aload_n 1, 1) := by decide +kernel
theorem dL_law_465 : decode cL_law 465 = .ok (.aload_n 3, 1) := by decide +kernel
theorem dL_law_466 : decode cL_law 466 = .ok (.invokestatic 124, 3) := by decide +kernel
theorem dL_law_469 : decode cL_law 469 = .ok (.istore 6, 2) := by decide +kernel
theorem dL_law_471 : decode cL_law 471 = .ok (.aload_n 2, 1) := by decide +kernel
theorem dL_law_472 : decode cL_law 472 = .ok (.invokevirtual 127, 3) := by decide +kernel
theorem dL_law_475 : decode cL_law 475 = .ok (.istore 7, 2) := by decide +kernel
theorem dL_law_477 : decode cL_law 477 = .ok (.aload_n 2, 1) := by decide +kernel
theorem dL_law_478 : decode cL_law 478 = .ok (.invokevirtual 110, 3) := by decide +kernel
theorem dL_law_481 : decode cL_law 481 = .ok (.iload 6, 2) := by decide +kernel
theorem dL_law_483 : decode cL_law 483 = .ok (.if_icmp .eq 5, 3) := by decide +kernel
theorem dL_law_486 : decode cL_law 486 = .ok (.iconst 0, 1) := by decide +kernel
theorem dL_law_487 : decode cL_law 487 = .ok (.ireturn, 1) := by decide +kernel
theorem dL_law_488 : decode cL_law 488 = .ok (.iload 6, 2) := by decide +kernel
theorem dL_law_490 : decode cL_law 490 = .ok (.ifCond .ne 22, 3) := by decide +kernel
theorem dL_law_493 : decode cL_law 493 = .ok (.aload_n 3, 1) := by decide +kernel
theorem dL_law_494 : decode cL_law 494 = .ok (.iconst 0, 1) := by decide +kernel
theorem dL_law_495 : decode cL_law 495 = .ok (.laload, 1) := by decide +kernel
theorem dL_law_496 : decode cL_law 496 = .ok (.iload 7, 2) := by decide +kernel
theorem dL_law_498 : decode cL_law 498 = .ok (.ifCond .eq 7, 3) := by decide +kernel
theorem dL_law_501 : decode cL_law 501 = .ok (.lconst 1, 1) := by decide +kernel
theorem dL_law_502 : decode cL_law 502 = .ok (.goto 4, 3) := by decide +kernel
theorem dL_law_505 : decode cL_law 505 = .ok (.lconst 0, 1) := by decide +kernel
theorem dL_law_506 : decode cL_law 506 = .ok (.lcmp, 1) := by decide +kernel
theorem dL_law_507 : decode cL_law 507 = .ok (.ifCond .eq 5, 3) := by decide +kernel
theorem dL_law_510 : decode cL_law 510 = .ok (.iconst 0, 1) := by decide +kernel
theorem dL_law_511 : decode cL_law 511 = .ok (.ireturn, 1) := by decide +kernel
theorem dL_law_512 : decode cL_law 512 = .ok (.goto 1306, 3) := by decide +kernel
theorem dL_law_515 : decode cL_law 515 = .ok (.aload_n 1, 1) := by decide +kernel
theorem dL_law_516 : decode cL_law 516 = .ok (.aload_n 0, 1) := by decide +kernel
theorem dL_law_517 : decode cL_law 517 = .ok (.iload 5, 2) := by decide +kernel
theorem dL_law_519 : decode cL_law 519 = .ok (.iconst 1, 1) := by decide +kernel
theorem dL_law_520 : decode cL_law 520 = .ok (.iadd, 1) := by decide +kernel
theorem dL_law_521 : decode cL_law 521 = .ok (.iaload, 1) := by decide +kernel
theorem dL_law_522 : decode cL_law 522 = .ok (.aload_n 3, 1) := by decide +kernel
theorem dL_law_523 : decode cL_law 523 = .ok (.invokestatic 128, 3) := by decide +kernel
theorem dL_law_526 : decode cL_law 526 = .ok (.istore 6, 2) := by decide +kernel
theorem dL_law_528 : decode cL_law 528 = .ok (.aload_n 2, 1) := by decide +kernel
theorem dL_law_529 : decode cL_law 529 = .ok (.aload_n 0, 1) := by decide +kernel
theorem dL_law_530 : decode cL_law 530 = .ok (.iload 5, 2) := by decide +kernel
theorem dL_law_532 : decode cL_law 532 = .ok (.iconst 1, 1) := by decide +kernel
theorem dL_law_533 : decode cL_law 533 = .ok (.iadd, 1) := by decide +kernel
theorem dL_law_534 : decode cL_law 534 = .ok (.iaload, 1) := by decide +kernel
theorem dL_law_535 : decode cL_law 535 = .ok (.invokevirtual 130, 3) := by decide +kernel
theorem dL_law_538 : decode cL_law 538 = .ok (.istore 7, 2) := by decide +kernel
theorem dL_law_540 : decode cL_law 540 = .ok (.aload_n 2, 1) := by decide +kernel
theorem dL_law_541 : decode cL_law 541 = .ok (.invokevirtual 110, 3) := by decide +kernel
theorem dL_law_544 : decode cL_law 544 = .ok (.iload 6, 2) := by decide +kernel
theorem dL_law_546 : decode cL_law 546 = .ok (.if_icmp .eq 5, 3) := by decide +kernel
theorem dL_law_549 : decode cL_law 549 = .ok (.iconst 0, 1) := by decide +kernel
theorem dL_law_550 : decode cL_law 550 = .ok (.ireturn, 1) := by decide +kernel
theorem dL_law_551 : decode cL_law 551 = .ok (.iload 6, 2) := by decide +kernel
theorem dL_law_553 : decode cL_law 553 = .ok (.ifCond .ne 15, 3) := by decide +kernel
theorem dL_law_556 : decode cL_law 556 = .ok (.aload_n 3, 1) := by decide +kernel
theorem dL_law_557 : decode cL_law 557 = .ok (.iconst 0, 1) := by decide +kernel
theorem dL_law_558 : decode cL_law 558 = .ok (.laload, 1) := by decide +kernel
theorem dL_law_559 : decode cL_law 559 = .ok (.iload 7, 2) := by decide +kernel
theorem dL_law_561 : decode cL_law 561 = .ok (.i2l, 1) := by decide +kernel
theorem dL_law_562 : decode cL_law 562 = .ok (.lcmp, 1) := by decide +kernel
theorem dL_law_563 : decode cL_law 563 = .ok (.ifCond .eq 5, 3) := by decide +kernel
theorem dL_law_566 : decode cL_law 566 = .ok (.iconst 0, 1) := by decide +kernel
theorem dL_law_567 : decode cL_law 567 = .ok (.ireturn, 1) := by decide +kernel
theorem dL_law_568 : decode cL_law 568 = .ok (.goto 1250, 3) := by decide +kernel
theorem dL_law_571 : decode cL_law 571 = .ok (.aload_n 1, 1) := by decide +kernel
theorem dL_law_572 : decode cL_law 572 = .ok (.invokevirtual 131, 3) := by decide +kernel
theorem dL_law_575 : decode cL_law 575 = .ok (.aload_n 2, 1) := by decide +kernel
theorem dL_law_576 : decode cL_law 576 = .ok (.invokevirtual 134, 3) := by decide +kernel
theorem dL_law_579 : decode cL_law 579 = .ok (.if_icmp .eq 1239, 3) := by decide +kernel
theorem dL_law_582 : decode cL_law 582 = .ok (.iconst 0, 1) := by decide +kernel
theorem dL_law_583 : decode cL_law 583 = .ok (.ireturn, 1) := by decide +kernel
theorem dL_law_584 : decode cL_law 584 = .ok (.aload_n 1, 1) := by decide +kernel
theorem dL_law_585 : decode cL_law 585 = .ok (.invokevirtual 135, 3) := by decide +kernel
theorem dL_law_588 : decode cL_law 588 = .ok (.aload_n 2, 1) := by decide +kernel
theorem dL_law_589 : decode cL_law 589 = .ok (.invokevirtual 138, 3) := by decide +kernel
theorem dL_law_592 : decode cL_law 592 = .ok (.if_icmp .eq 1226, 3) := by decide +kernel
theorem dL_law_595 : decode cL_law 595 = .ok (.iconst 0, 1) := by decide +kernel
theorem dL_law_596 : decode cL_law 596 = .ok (.ireturn, 1) := by decide +kernel
theorem dL_law_597 : decode cL_law 597 = .ok (.aload_n 1, 1) := by decide +kernel
theorem dL_law_598 : decode cL_law 598 = .ok (.invokevirtual 139, 3) := by decide +kernel
theorem dL_law_601 : decode cL_law 601 = .ok (.aload_n 2, 1) := by decide +kernel
theorem dL_law_602 : decode cL_law 602 = .ok (.invokevirtual 142, 3) := by decide +kernel
theorem dL_law_605 : decode cL_law 605 = .ok (.if_icmp .eq 1213, 3) := by decide +kernel
theorem dL_law_608 : decode cL_law 608 = .ok (.iconst 0, 1) := by decide +kernel
theorem dL_law_609 : decode cL_law 609 = .ok (.ireturn, 1) := by decide +kernel
theorem dL_law_610 : decode cL_law 610 = .ok (.aload_n 1, 1) := by decide +kernel
theorem dL_law_611 : decode cL_law 611 = .ok (.invokevirtual 143, 3) := by decide +kernel
theorem dL_law_614 : decode cL_law 614 = .ok (.aload_n 2, 1) := by decide +kernel
theorem dL_law_615 : decode cL_law 615 = .ok (.invokevirtual 146, 3) := by decide +kernel
theorem dL_law_618 : decode cL_law 618 = .ok (.if_icmp .eq 1200, 3) := by decide +kernel
theorem dL_law_621 : decode cL_law 621 = .ok (.iconst 0, 1) := by decide +kernel
theorem dL_law_622 : decode cL_law 622 = .ok (.ireturn, 1) := by decide +kernel
theorem dL_law_623 : decode cL_law 623 = .ok (.aload_n 1, 1) := by decide +kernel
theorem dL_law_624 : decode cL_law 624 = .ok (.aload_n 0, 1) := by decide +kernel
theorem dL_law_625 : decode cL_law 625 = .ok (.iload 5, 2) := by decide +kernel
theorem dL_law_627 : decode cL_law 627 = .ok (.iconst 1, 1) := by decide +kernel
theorem dL_law_628 : decode cL_law 628 = .ok (.iadd, 1) := by decide +kernel
theorem dL_law_629 : decode cL_law 629 = .ok (.iaload, 1) := by decide +kernel
theorem dL_law_630 : decode cL_law 630 = .ok (.aload_n 3, 1) := by decide +kernel
theorem dL_law_631 : decode cL_law 631 = .ok (.invokestatic 147, 3) := by decide +kernel
theorem dL_law_634 : decode cL_law 634 = .ok (.istore 6, 2) := by decide +kernel
theorem dL_law_636 : decode cL_law 636 = .ok (.aload_n 2, 1) := by decide +kernel
theorem dL_law_637 : decode cL_law 637 = .ok (.aload_n 0, 1) := by decide +kernel
theorem dL_law_638 : decode cL_law 638 = .ok (.iload 5, 2) := by decide +kernel
theorem dL_law_640 : decode cL_law 640 = .ok (.iconst 1, 1) := by decide +kernel
theorem dL_law_641 : decode cL_law 641 = .ok (.iadd, 1) := by decide +kernel
theorem dL_law_642 : decode cL_law 642 = .ok (.iaload, 1) := by decide +kernel
theorem dL_law_643 : decode cL_law 643 = .ok (.invokevirtual 149, 3) := by decide +kernel
theorem dL_law_646 : decode cL_law 646 = .ok (.istore 7, 2) := by decide +kernel
theorem dL_law_648 : decode cL_law 648 = .ok (.aload_n 2, 1) := by decide +kernel
theorem dL_law_649 : decode cL_law 649 = .ok (.invokevirtual 110, 3) := by decide +kernel
theorem dL_law_652 : decode cL_law 652 = .ok (.iload 6, 2) := by decide +kernel
theorem dL_law_654 : decode cL_law 654 = .ok (.if_icmp .eq 5, 3) := by decide +kernel
theorem dL_law_657 : decode cL_law 657 = .ok (.iconst 0, 1) := by decide +kernel
theorem dL_law_658 : decode cL_law 658 = .ok (.ireturn, 1) := by decide +kernel
theorem dL_law_659 : decode cL_law 659 = .ok (.iload 6, 2) := by decide +kernel
theorem dL_law_661 : decode cL_law 661 = .ok (.ifCond .ne 22, 3) := by decide +kernel
theorem dL_law_664 : decode cL_law 664 = .ok (.aload_n 3, 1) := by decide +kernel
theorem dL_law_665 : decode cL_law 665 = .ok (.iconst 0, 1) := by decide +kernel
theorem dL_law_666 : decode cL_law 666 = .ok (.laload, 1) := by decide +kernel
theorem dL_law_667 : decode cL_law 667 = .ok (.iload 7, 2) := by decide +kernel
theorem dL_law_669 : decode cL_law 669 = .ok (.ifCond .eq 7, 3) := by decide +kernel
theorem dL_law_672 : decode cL_law 672 = .ok (.lconst 1, 1) := by decide +kernel
theorem dL_law_673 : decode cL_law 673 = .ok (.goto 4, 3) := by decide +kernel
theorem dL_law_676 : decode cL_law 676 = .ok (.lconst 0, 1) := by decide +kernel
theorem dL_law_677 : decode cL_law 677 = .ok (.lcmp, 1) := by decide +kernel
theorem dL_law_678 : decode cL_law 678 = .ok (.ifCond .eq 5, 3) := by decide +kernel
theorem dL_law_681 : decode cL_law 681 = .ok (.iconst 0, 1) := by decide +kernel
theorem dL_law_682 : decode cL_law 682 = .ok (.ireturn, 1) := by decide +kernel
theorem dL_law_683 : decode cL_law 683 = .ok (.goto 1135, 3) := by decide +kernel
theorem dL_law_686 : decode cL_law 686 = .ok (.aload_n 1, 1) := by decide +kernel
theorem dL_law_687 : decode cL_law 687 = .ok (.aload_n 0, 1) := by decide +kernel
theorem dL_law_688 : decode cL_law 688 = .ok (.iload 5, 2) := by decide +kernel
theorem dL_law_690 : decode cL_law 690 = .ok (.iconst 1, 1) := by decide +kernel
theorem dL_law_691 : decode cL_law 691 = .ok (.iadd, 1) := by decide +kernel
theorem dL_law_692 : decode cL_law 692 = .ok (.iaload, 1) := by decide +kernel
theorem dL_law_693 : decode cL_law 693 = .ok (.aload_n 3, 1) := by decide +kernel
theorem dL_law_694 : decode cL_law 694 = .ok (.invokestatic 150, 3) := by decide +kernel
theorem dL_law_697 : decode cL_law 697 = .ok (.istore 6, 2) := by decide +kernel
theorem dL_law_699 : decode cL_law 699 = .ok (.aload_n 2, 1) := by decide +kernel
theorem dL_law_700 : decode cL_law 700 = .ok (.aload_n 0, 1) := by decide +kernel
theorem dL_law_701 : decode cL_law 701 = .ok (.iload 5, 2) := by decide +kernel
theorem dL_law_703 : decode cL_law 703 = .ok (.iconst 1, 1) := by decide +kernel
theorem dL_law_704 : decode cL_law 704 = .ok (.iadd, 1) := by decide +kernel
theorem dL_law_705 : decode cL_law 705 = .ok (.iaload, 1) := by decide +kernel
theorem dL_law_706 : decode cL_law 706 = .ok (.invokevirtual 152, 3) := by decide +kernel
theorem dL_law_709 : decode cL_law 709 = .ok (.istore 7, 2) := by decide +kernel
theorem dL_law_711 : decode cL_law 711 = .ok (.aload_n 2, 1) := by decide +kernel
theorem dL_law_712 : decode cL_law 712 = .ok (.invokevirtual 110, 3) := by decide +kernel
theorem dL_law_715 : decode cL_law 715 = .ok (.iload 6, 2) := by decide +kernel
theorem dL_law_717 : decode cL_law 717 = .ok (.if_icmp .eq 5, 3) := by decide +kernel
theorem dL_law_720 : decode cL_law 720 = .ok (.iconst 0, 1) := by decide +kernel
theorem dL_law_721 : decode cL_law 721 = .ok (.ireturn, 1) := by decide +kernel
theorem dL_law_722 : decode cL_law 722 = .ok (.iload 6, 2) := by decide +kernel
theorem dL_law_724 : decode cL_law 724 = .ok (.ifCond .ne 15, 3) := by decide +kernel
theorem dL_law_727 : decode cL_law 727 = .ok (.aload_n 3, 1) := by decide +kernel
theorem dL_law_728 : decode cL_law 728 = .ok (.iconst 0, 1) := by decide +kernel
theorem dL_law_729 : decode cL_law 729 = .ok (.laload, 1) := by decide +kernel
theorem dL_law_730 : decode cL_law 730 = .ok (.iload 7, 2) := by decide +kernel
theorem dL_law_732 : decode cL_law 732 = .ok (.i2l, 1) := by decide +kernel
theorem dL_law_733 : decode cL_law 733 = .ok (.lcmp, 1) := by decide +kernel
theorem dL_law_734 : decode cL_law 734 = .ok (.ifCond .eq 5, 3) := by decide +kernel
theorem dL_law_737 : decode cL_law 737 = .ok (.iconst 0, 1) := by decide +kernel
theorem dL_law_738 : decode cL_law 738 = .ok (.ireturn, 1) := by decide +kernel
theorem dL_law_739 : decode cL_law 739 = .ok (.goto 1079, 3) := by decide +kernel
theorem dL_law_742 : decode cL_law 742 = .ok (.aload_n 1, 1) := by decide +kernel
theorem dL_law_743 : decode cL_law 743 = .ok (.aload_n 0, 1) := by decide +kernel
theorem dL_law_744 : decode cL_law 744 = .ok (.iload 5, 2) := by decide +kernel
theorem dL_law_746 : decode cL_law 746 = .ok (.iconst 1, 1) := by decide +kernel
theorem dL_law_747 : decode cL_law 747 = .ok (.iadd, 1) := by decide +kernel
theorem dL_law_748 : decode cL_law 748 = .ok (.iaload, 1) := by decide +kernel
theorem dL_law_749 : decode cL_law 749 = .ok (.aload_n 3, 1) := by decide +kernel
theorem dL_law_750 : decode cL_law 750 = .ok (.invokestatic 153, 3) := by decide +kernel
theorem dL_law_753 : decode cL_law 753 = .ok (.istore 6, 2) := by decide +kernel
theorem dL_law_755 : decode cL_law 755 = .ok (.aload_n 2, 1) := by decide +kernel
theorem dL_law_756 : decode cL_law 756 = .ok (.aload_n 0, 1) := by decide +kernel
theorem dL_law_757 : decode cL_law 757 = .ok (.iload 5, 2) := by decide +kernel
theorem dL_law_759 : decode cL_law 759 = .ok (.iconst 1, 1) := by decide +kernel
theorem dL_law_760 : decode cL_law 760 = .ok (.iadd, 1) := by decide +kernel
theorem dL_law_761 : decode cL_law 761 = .ok (.iaload, 1) := by decide +kernel
theorem dL_law_762 : decode cL_law 762 = .ok (.invokevirtual 155, 3) := by decide +kernel
theorem dL_law_765 : decode cL_law 765 = .ok (.istore 7, 2) := by decide +kernel
theorem dL_law_767 : decode cL_law 767 = .ok (.aload_n 2, 1) := by decide +kernel
theorem dL_law_768 : decode cL_law 768 = .ok (.invokevirtual 110, 3) := by decide +kernel
theorem dL_law_771 : decode cL_law 771 = .ok (.iload 6, 2) := by decide +kernel
theorem dL_law_773 : decode cL_law 773 = .ok (.if_icmp .eq 5, 3) := by decide +kernel
theorem dL_law_776 : decode cL_law 776 = .ok (.iconst 0, 1) := by decide +kernel
theorem dL_law_777 : decode cL_law 777 = .ok (.ireturn, 1) := by decide +kernel
theorem dL_law_778 : decode cL_law 778 = .ok (.iload 6, 2) := by decide +kernel
theorem dL_law_780 : decode cL_law 780 = .ok (.ifCond .ne 15, 3) := by decide +kernel
theorem dL_law_783 : decode cL_law 783 = .ok (.aload_n 3, 1) := by decide +kernel
theorem dL_law_784 : decode cL_law 784 = .ok (.iconst 0, 1) := by decide +kernel
theorem dL_law_785 : decode cL_law 785 = .ok (.laload, 1) := by decide +kernel
theorem dL_law_786 : decode cL_law 786 = .ok (.iload 7, 2) := by decide +kernel
theorem dL_law_788 : decode cL_law 788 = .ok (.i2l, 1) := by decide +kernel
theorem dL_law_789 : decode cL_law 789 = .ok (.lcmp, 1) := by decide +kernel
theorem dL_law_790 : decode cL_law 790 = .ok (.ifCond .eq 5, 3) := by decide +kernel
theorem dL_law_793 : decode cL_law 793 = .ok (.iconst 0, 1) := by decide +kernel
theorem dL_law_794 : decode cL_law 794 = .ok (.ireturn, 1) := by decide +kernel
theorem dL_law_795 : decode cL_law 795 = .ok (.goto 1023, 3) := by decide +kernel
theorem dL_law_798 : decode cL_law 798 = .ok (.aload_n 1, 1) := by decide +kernel
theorem dL_law_799 : decode cL_law 799 = .ok (.aload_n 0, 1) := by decide +kernel
theorem dL_law_800 : decode cL_law 800 = .ok (.iload 5, 2) := by decide +kernel
theorem dL_law_802 : decode cL_law 802 = .ok (.iconst 1, 1) := by decide +kernel
theorem dL_law_803 : decode cL_law 803 = .ok (.iadd, 1) := by decide +kernel
theorem dL_law_804 : decode cL_law 804 = .ok (.iaload, 1) := by decide +kernel
theorem dL_law_805 : decode cL_law 805 = .ok (.aload_n 0, 1) := by decide +kernel
theorem dL_law_806 : decode cL_law 806 = .ok (.iload 5, 2) := by decide +kernel
theorem dL_law_808 : decode cL_law 808 = .ok (.iconst 2, 1) := by decide +kernel
theorem dL_law_809 : decode cL_law 809 = .ok (.iadd, 1) := by decide +kernel
theorem dL_law_810 : decode cL_law 810 = .ok (.iaload, 1) := by decide +kernel
theorem dL_law_811 : decode cL_law 811 = .ok (.aload_n 3, 1) := by decide +kernel
theorem dL_law_812 : decode cL_law 812 = .ok (.invokestatic 156, 3) := by decide +kernel
theorem dL_law_815 : decode cL_law 815 = .ok (.istore 6, 2) := by decide +kernel
theorem dL_law_817 : decode cL_law 817 = .ok (.aload_n 2, 1) := by decide +kernel
theorem dL_law_818 : decode cL_law 818 = .ok (.aload_n 0, 1) := by decide +kernel
theorem dL_law_819 : decode cL_law 819 = .ok (.iload 5, 2) := by decide +kernel
theorem dL_law_821 : decode cL_law 821 = .ok (.iconst 1, 1) := by decide +kernel
theorem dL_law_822 : decode cL_law 822 = .ok (.iadd, 1) := by decide +kernel
theorem dL_law_823 : decode cL_law 823 = .ok (.iaload, 1) := by decide +kernel
theorem dL_law_824 : decode cL_law 824 = .ok (.aload_n 0, 1) := by decide +kernel
theorem dL_law_825 : decode cL_law 825 = .ok (.iload 5, 2) := by decide +kernel
theorem dL_law_827 : decode cL_law 827 = .ok (.iconst 2, 1) := by decide +kernel
theorem dL_law_828 : decode cL_law 828 = .ok (.iadd, 1) := by decide +kernel
theorem dL_law_829 : decode cL_law 829 = .ok (.iaload, 1) := by decide +kernel
theorem dL_law_830 : decode cL_law 830 = .ok (.invokevirtual 159, 3) := by decide +kernel
theorem dL_law_833 : decode cL_law 833 = .ok (.istore 7, 2) := by decide +kernel
theorem dL_law_835 : decode cL_law 835 = .ok (.aload_n 2, 1) := by decide +kernel
theorem dL_law_836 : decode cL_law 836 = .ok (.invokevirtual 110, 3) := by decide +kernel
theorem dL_law_839 : decode cL_law 839 = .ok (.iload 6, 2) := by decide +kernel
theorem dL_law_841 : decode cL_law 841 = .ok (.if_icmp .eq 5, 3) := by decide +kernel
theorem dL_law_844 : decode cL_law 844 = .ok (.iconst 0, 1) := by decide +kernel
theorem dL_law_845 : decode cL_law 845 = .ok (.ireturn, 1) := by decide +kernel
theorem dL_law_846 : decode cL_law 846 = .ok (.iload 6, 2) := by decide +kernel
theorem dL_law_848 : decode cL_law 848 = .ok (.ifCond .ne 15, 3) := by decide +kernel
theorem dL_law_851 : decode cL_law 851 = .ok (.aload_n 3, 1) := by decide +kernel
theorem dL_law_852 : decode cL_law 852 = .ok (.iconst 0, 1) := by decide +kernel
theorem dL_law_853 : decode cL_law 853 = .ok (.laload, 1) := by decide +kernel
theorem dL_law_854 : decode cL_law 854 = .ok (.iload 7, 2) := by decide +kernel
theorem dL_law_856 : decode cL_law 856 = .ok (.i2l, 1) := by decide +kernel
theorem dL_law_857 : decode cL_law 857 = .ok (.lcmp, 1) := by decide +kernel
theorem dL_law_858 : decode cL_law 858 = .ok (.ifCond .eq 5, 3) := by decide +kernel
theorem dL_law_861 : decode cL_law 861 = .ok (.iconst 0, 1) := by decide +kernel
theorem dL_law_862 : decode cL_law 862 = .ok (.ireturn, 1) := by decide +kernel
theorem dL_law_863 : decode cL_law 863 = .ok (.goto 955, 3) := by decide +kernel
theorem dL_law_866 : decode cL_law 866 = .ok (.aload_n 1, 1) := by decide +kernel
theorem dL_law_867 : decode cL_law 867 = .ok (.aload_n 0, 1) := by decide +kernel
theorem dL_law_868 : decode cL_law 868 = .ok (.iload 5, 2) := by decide +kernel
theorem dL_law_870 : decode cL_law 870 = .ok (.iconst 1, 1) := by decide +kernel
theorem dL_law_871 : decode cL_law 871 = .ok (.iadd, 1) := by decide +kernel
theorem dL_law_872 : decode cL_law 872 = .ok (.iaload, 1) := by decide +kernel
theorem dL_law_873 : decode cL_law 873 = .ok (.aload_n 0, 1) := by decide +kernel
theorem dL_law_874 : decode cL_law 874 = .ok (.iload 5, 2) := by decide +kernel
theorem dL_law_876 : decode cL_law 876 = .ok (.iconst 2, 1) := by decide +kernel
theorem dL_law_877 : decode cL_law 877 = .ok (.iadd, 1) := by decide +kernel
theorem dL_law_878 : decode cL_law 878 = .ok (.iaload, 1) := by decide +kernel
theorem dL_law_879 : decode cL_law 879 = .ok (.aload_n 3, 1) := by decide +kernel
theorem dL_law_880 : decode cL_law 880 = .ok (.invokestatic 160, 3) := by decide +kernel
theorem dL_law_883 : decode cL_law 883 = .ok (.istore 6, 2) := by decide +kernel
theorem dL_law_885 : decode cL_law 885 = .ok (.aload_n 2, 1) := by decide +kernel
theorem dL_law_886 : decode cL_law 886 = .ok (.aload_n 0, 1) := by decide +kernel
theorem dL_law_887 : decode cL_law 887 = .ok (.iload 5, 2) := by decide +kernel
theorem dL_law_889 : decode cL_law 889 = .ok (.iconst 1, 1) := by decide +kernel
theorem dL_law_890 : decode cL_law 890 = .ok (.iadd, 1) := by decide +kernel
theorem dL_law_891 : decode cL_law 891 = .ok (.iaload, 1) := by decide +kernel
theorem dL_law_892 : decode cL_law 892 = .ok (.aload_n 0, 1) := by decide +kernel
theorem dL_law_893 : decode cL_law 893 = .ok (.iload 5, 2) := by decide +kernel
theorem dL_law_895 : decode cL_law 895 = .ok (.iconst 2, 1) := by decide +kernel
theorem dL_law_896 : decode cL_law 896 = .ok (.iadd, 1) := by decide +kernel
theorem dL_law_897 : decode cL_law 897 = .ok (.iaload, 1) := by decide +kernel
theorem dL_law_898 : decode cL_law 898 = .ok (.invokevirtual 162, 3) := by decide +kernel
theorem dL_law_901 : decode cL_law 901 = .ok (.lstore 7, 2) := by decide +kernel
theorem dL_law_903 : decode cL_law 903 = .ok (.aload_n 2, 1) := by decide +kernel
theorem dL_law_904 : decode cL_law 904 = .ok (.invokevirtual 110, 3) := by decide +kernel
theorem dL_law_907 : decode cL_law 907 = .ok (.iload 6, 2) := by decide +kernel
theorem dL_law_909 : decode cL_law 909 = .ok (.if_icmp .eq 5, 3) := by decide +kernel
theorem dL_law_912 : decode cL_law 912 = .ok (.iconst 0, 1) := by decide +kernel
theorem dL_law_913 : decode cL_law 913 = .ok (.ireturn, 1) := by decide +kernel
theorem dL_law_914 : decode cL_law 914 = .ok (.iload 6, 2) := by decide +kernel
theorem dL_law_916 : decode cL_law 916 = .ok (.ifCond .ne 14, 3) := by decide +kernel
theorem dL_law_919 : decode cL_law 919 = .ok (.aload_n 3, 1) := by decide +kernel
theorem dL_law_920 : decode cL_law 920 = .ok (.iconst 0, 1) := by decide +kernel
theorem dL_law_921 : decode cL_law 921 = .ok (.laload, 1) := by decide +kernel
theorem dL_law_922 : decode cL_law 922 = .ok (.lload 7, 2) := by decide +kernel
theorem dL_law_924 : decode cL_law 924 = .ok (.lcmp, 1) := by decide +kernel
theorem dL_law_925 : decode cL_law 925 = .ok (.ifCond .eq 5, 3) := by decide +kernel
theorem dL_law_928 : decode cL_law 928 = .ok (.iconst 0, 1) := by decide +kernel
theorem dL_law_929 : decode cL_law 929 = .ok (.ireturn, 1) := by decide +kernel
theorem dL_law_930 : decode cL_law 930 = .ok (.goto 888, 3) := by decide +kernel
theorem dL_law_933 : decode cL_law 933 = .ok (.aload_n 1, 1) := by decide +kernel
theorem dL_law_934 : decode cL_law 934 = .ok (.aload_n 0, 1) := by decide +kernel
theorem dL_law_935 : decode cL_law 935 = .ok (.iload 5, 2) := by decide +kernel
theorem dL_law_937 : decode cL_law 937 = .ok (.iconst 1, 1) := by decide +kernel
theorem dL_law_938 : decode cL_law 938 = .ok (.iadd, 1) := by decide +kernel
theorem dL_law_939 : decode cL_law 939 = .ok (.iaload, 1) := by decide +kernel
theorem dL_law_940 : decode cL_law 940 = .ok (.aload_n 3, 1) := by decide +kernel
theorem dL_law_941 : decode cL_law 941 = .ok (.invokestatic 163, 3) := by decide +kernel
theorem dL_law_944 : decode cL_law 944 = .ok (.istore 6, 2) := by decide +kernel
theorem dL_law_946 : decode cL_law 946 = .ok (.aload_n 2, 1) := by decide +kernel
theorem dL_law_947 : decode cL_law 947 = .ok (.aload_n 0, 1) := by decide +kernel
theorem dL_law_948 : decode cL_law 948 = .ok (.iload 5, 2) := by decide +kernel
theorem dL_law_950 : decode cL_law 950 = .ok (.iconst 1, 1) := by decide +kernel
theorem dL_law_951 : decode cL_law 951 = .ok (.iadd, 1) := by decide +kernel
theorem dL_law_952 : decode cL_law 952 = .ok (.iaload, 1) := by decide +kernel
theorem dL_law_953 : decode cL_law 953 = .ok (.invokevirtual 165, 3) := by decide +kernel
theorem dL_law_956 : decode cL_law 956 = .ok (.lstore 7, 2) := by decide +kernel
theorem dL_law_958 : decode cL_law 958 = .ok (.aload_n 2, 1) := by decide +kernel
theorem dL_law_959 : decode cL_law 959 = .ok (.invokevirtual 110, 3) := by decide +kernel
theorem dL_law_962 : decode cL_law 962 = .ok (.iload 6, 2) := by decide +kernel
theorem dL_law_964 : decode cL_law 964 = .ok (.if_icmp .eq 5, 3) := by decide +kernel
theorem dL_law_967 : decode cL_law 967 = .ok (.iconst 0, 1) := by decide +kernel
theorem dL_law_968 : decode cL_law 968 = .ok (.ireturn, 1) := by decide +kernel
theorem dL_law_969 : decode cL_law 969 = .ok (.iload 6, 2) := by decide +kernel
theorem dL_law_971 : decode cL_law 971 = .ok (.ifCond .ne 14, 3) := by decide +kernel
theorem dL_law_974 : decode cL_law 974 = .ok (.aload_n 3, 1) := by decide +kernel
theorem dL_law_975 : decode cL_law 975 = .ok (.iconst 0, 1) := by decide +kernel
theorem dL_law_976 : decode cL_law 976 = .ok (.laload, 1) := by decide +kernel
theorem dL_law_977 : decode cL_law 977 = .ok (.lload 7, 2) := by decide +kernel
theorem dL_law_979 : decode cL_law 979 = .ok (.lcmp, 1) := by decide +kernel
theorem dL_law_980 : decode cL_law 980 = .ok (.ifCond .eq 5, 3) := by decide +kernel
theorem dL_law_983 : decode cL_law 983 = .ok (.iconst 0, 1) := by decide +kernel
theorem dL_law_984 : decode cL_law 984 = .ok (.ireturn, 1) := by decide +kernel
theorem dL_law_985 : decode cL_law 985 = .ok (.goto 833, 3) := by decide +kernel
theorem dL_law_988 : decode cL_law 988 = .ok (.aload_n 1, 1) := by decide +kernel
theorem dL_law_989 : decode cL_law 989 = .ok (.aload_n 0, 1) := by decide +kernel
theorem dL_law_990 : decode cL_law 990 = .ok (.iload 5, 2) := by decide +kernel
theorem dL_law_992 : decode cL_law 992 = .ok (.iconst 1, 1) := by decide +kernel
theorem dL_law_993 : decode cL_law 993 = .ok (.iadd, 1) := by decide +kernel
theorem dL_law_994 : decode cL_law 994 = .ok (.iaload, 1) := by decide +kernel
theorem dL_law_995 : decode cL_law 995 = .ok (.aload_n 3, 1) := by decide +kernel
theorem dL_law_996 : decode cL_law 996 = .ok (.invokestatic 166, 3) := by decide +kernel
theorem dL_law_999 : decode cL_law 999 = .ok (.istore 6, 2) := by decide +kernel
theorem dL_law_1001 : decode cL_law 1001 = .ok (.aload_n 2, 1) := by decide +kernel
theorem dL_law_1002 : decode cL_law 1002 = .ok (.aload_n 0, 1) := by decide +kernel
theorem dL_law_1003 : decode cL_law 1003 = .ok (.iload 5, 2) := by decide +kernel
theorem dL_law_1005 : decode cL_law 1005 = .ok (.iconst 1, 1) := by decide +kernel
theorem dL_law_1006 : decode cL_law 1006 = .ok (.iadd, 1) := by decide +kernel
theorem dL_law_1007 : decode cL_law 1007 = .ok (.iaload, 1) := by decide +kernel
theorem dL_law_1008 : decode cL_law 1008 = .ok (.invokevirtual 168, 3) := by decide +kernel
theorem dL_law_1011 : decode cL_law 1011 = .ok (.lstore 7, 2) := by decide +kernel
theorem dL_law_1013 : decode cL_law 1013 = .ok (.aload_n 2, 1) := by decide +kernel
theorem dL_law_1014 : decode cL_law 1014 = .ok (.invokevirtual 110, 3) := by decide +kernel
theorem dL_law_1017 : decode cL_law 1017 = .ok (.iload 6, 2) := by decide +kernel
theorem dL_law_1019 : decode cL_law 1019 = .ok (.if_icmp .eq 5, 3) := by decide +kernel
theorem dL_law_1022 : decode cL_law 1022 = .ok (.iconst 0, 1) := by decide +kernel
theorem dL_law_1023 : decode cL_law 1023 = .ok (.ireturn, 1) := by decide +kernel
theorem dL_law_1024 : decode cL_law 1024 = .ok (.iload 6, 2) := by decide +kernel
theorem dL_law_1026 : decode cL_law 1026 = .ok (.ifCond .ne 14, 3) := by decide +kernel
theorem dL_law_1029 : decode cL_law 1029 = .ok (.aload_n 3, 1) := by decide +kernel
theorem dL_law_1030 : decode cL_law 1030 = .ok (.iconst 0, 1) := by decide +kernel
theorem dL_law_1031 : decode cL_law 1031 = .ok (.laload, 1) := by decide +kernel
theorem dL_law_1032 : decode cL_law 1032 = .ok (.lload 7, 2) := by decide +kernel
theorem dL_law_1034 : decode cL_law 1034 = .ok (.lcmp, 1) := by decide +kernel
theorem dL_law_1035 : decode cL_law 1035 = .ok (.ifCond .eq 5, 3) := by decide +kernel
theorem dL_law_1038 : decode cL_law 1038 = .ok (.iconst 0, 1) := by decide +kernel
theorem dL_law_1039 : decode cL_law 1039 = .ok (.ireturn, 1) := by decide +kernel
theorem dL_law_1040 : decode cL_law 1040 = .ok (.goto 778, 3) := by decide +kernel
theorem dL_law_1043 : decode cL_law 1043 = .ok (.aload_n 1, 1) := by decide +kernel
theorem dL_law_1044 : decode cL_law 1044 = .ok (.invokevirtual 169, 3) := by decide +kernel
theorem dL_law_1047 : decode cL_law 1047 = .ok (.aload_n 2, 1) := by decide +kernel
theorem dL_law_1048 : decode cL_law 1048 = .ok (.invokevirtual 173, 3) := by decide +kernel
theorem dL_law_1051 : decode cL_law 1051 = .ok (.lcmp, 1) := by decide +kernel
theorem dL_law_1052 : decode cL_law 1052 = .ok (.ifCond .eq 766, 3) := by decide +kernel
theorem dL_law_1055 : decode cL_law 1055 = .ok (.iconst 0, 1) := by decide +kernel
theorem dL_law_1056 : decode cL_law 1056 = .ok (.ireturn, 1) := by decide +kernel
theorem dL_law_1057 : decode cL_law 1057 = .ok (.aload_n 1, 1) := by decide +kernel
theorem dL_law_1058 : decode cL_law 1058 = .ok (.aload_n 0, 1) := by decide +kernel
theorem dL_law_1059 : decode cL_law 1059 = .ok (.iload 5, 2) := by decide +kernel
theorem dL_law_1061 : decode cL_law 1061 = .ok (.iconst 1, 1) := by decide +kernel
theorem dL_law_1062 : decode cL_law 1062 = .ok (.iadd, 1) := by decide +kernel
theorem dL_law_1063 : decode cL_law 1063 = .ok (.iaload, 1) := by decide +kernel
theorem dL_law_1064 : decode cL_law 1064 = .ok (.aload_n 3, 1) := by decide +kernel
theorem dL_law_1065 : decode cL_law 1065 = .ok (.invokestatic 174, 3) := by decide +kernel
theorem dL_law_1068 : decode cL_law 1068 = .ok (.istore 6, 2) := by decide +kernel
theorem dL_law_1070 : decode cL_law 1070 = .ok (.aload_n 2, 1) := by decide +kernel
theorem dL_law_1071 : decode cL_law 1071 = .ok (.aload_n 0, 1) := by decide +kernel
theorem dL_law_1072 : decode cL_law 1072 = .ok (.iload 5, 2) := by decide +kernel
theorem dL_law_1074 : decode cL_law 1074 = .ok (.iconst 1, 1) := by decide +kernel
theorem dL_law_1075 : decode cL_law 1075 = .ok (.iadd, 1) := by decide +kernel
theorem dL_law_1076 : decode cL_law 1076 = .ok (.iaload, 1) := by decide +kernel
theorem dL_law_1077 : decode cL_law 1077 = .ok (.invokevirtual 176, 3) := by decide +kernel
theorem dL_law_1080 : decode cL_law 1080 = .ok (.istore 7, 2) := by decide +kernel
theorem dL_law_1082 : decode cL_law 1082 = .ok (.aload_n 2, 1) := by decide +kernel
theorem dL_law_1083 : decode cL_law 1083 = .ok (.invokevirtual 110, 3) := by decide +kernel
theorem dL_law_1086 : decode cL_law 1086 = .ok (.iload 6, 2) := by decide +kernel
theorem dL_law_1088 : decode cL_law 1088 = .ok (.if_icmp .eq 5, 3) := by decide +kernel
theorem dL_law_1091 : decode cL_law 1091 = .ok (.iconst 0, 1) := by decide +kernel
theorem dL_law_1092 : decode cL_law 1092 = .ok (.ireturn, 1) := by decide +kernel
theorem dL_law_1093 : decode cL_law 1093 = .ok (.iload 6, 2) := by decide +kernel
theorem dL_law_1095 : decode cL_law 1095 = .ok (.ifCond .ne 22, 3) := by decide +kernel
theorem dL_law_1098 : decode cL_law 1098 = .ok (.aload_n 3, 1) := by decide +kernel
theorem dL_law_1099 : decode cL_law 1099 = .ok (.iconst 0, 1) := by decide +kernel
theorem dL_law_1100 : decode cL_law 1100 = .ok (.laload, 1) := by decide +kernel
theorem dL_law_1101 : decode cL_law 1101 = .ok (.iload 7, 2) := by decide +kernel
theorem dL_law_1103 : decode cL_law 1103 = .ok (.ifCond .eq 7, 3) := by decide +kernel
theorem dL_law_1106 : decode cL_law 1106 = .ok (.lconst 1, 1) := by decide +kernel
theorem dL_law_1107 : decode cL_law 1107 = .ok (.goto 4, 3) := by decide +kernel
theorem dL_law_1110 : decode cL_law 1110 = .ok (.lconst 0, 1) := by decide +kernel
theorem dL_law_1111 : decode cL_law 1111 = .ok (.lcmp, 1) := by decide +kernel
theorem dL_law_1112 : decode cL_law 1112 = .ok (.ifCond .eq 5, 3) := by decide +kernel
theorem dL_law_1115 : decode cL_law 1115 = .ok (.iconst 0, 1) := by decide +kernel
theorem dL_law_1116 : decode cL_law 1116 = .ok (.ireturn, 1) := by decide +kernel
theorem dL_law_1117 : decode cL_law 1117 = .ok (.goto 701, 3) := by decide +kernel
theorem dL_law_1120 : decode cL_law 1120 = .ok (.aload_n 1, 1) := by decide +kernel
theorem dL_law_1121 : decode cL_law 1121 = .ok (.invokevirtual 177, 3) := by decide +kernel
theorem dL_law_1124 : decode cL_law 1124 = .ok (.aload_n 2, 1) := by decide +kernel
theorem dL_law_1125 : decode cL_law 1125 = .ok (.invokevirtual 180, 3) := by decide +kernel
theorem dL_law_1128 : decode cL_law 1128 = .ok (.if_icmp .eq 690, 3) := by decide +kernel
theorem dL_law_1131 : decode cL_law 1131 = .ok (.iconst 0, 1) := by decide +kernel
theorem dL_law_1132 : decode cL_law 1132 = .ok (.ireturn, 1) := by decide +kernel
theorem dL_law_1133 : decode cL_law 1133 = .ok (.aload_n 1, 1) := by decide +kernel
theorem dL_law_1134 : decode cL_law 1134 = .ok (.aload_n 0, 1) := by decide +kernel
theorem dL_law_1135 : decode cL_law 1135 = .ok (.iload 5, 2) := by decide +kernel
theorem dL_law_1137 : decode cL_law 1137 = .ok (.iconst 1, 1) := by decide +kernel
theorem dL_law_1138 : decode cL_law 1138 = .ok (.iadd, 1) := by decide +kernel
theorem dL_law_1139 : decode cL_law 1139 = .ok (.iaload, 1) := by decide +kernel
theorem dL_law_1140 : decode cL_law 1140 = .ok (.aload_n 3, 1) := by decide +kernel
theorem dL_law_1141 : decode cL_law 1141 = .ok (.invokestatic 181, 3) := by decide +kernel
theorem dL_law_1144 : decode cL_law 1144 = .ok (.istore 6, 2) := by decide +kernel
theorem dL_law_1146 : decode cL_law 1146 = .ok (.aload_n 2, 1) := by decide +kernel
theorem dL_law_1147 : decode cL_law 1147 = .ok (.aload_n 0, 1) := by decide +kernel
theorem dL_law_1148 : decode cL_law 1148 = .ok (.iload 5, 2) := by decide +kernel
theorem dL_law_1150 : decode cL_law 1150 = .ok (.iconst 1, 1) := by decide +kernel
theorem dL_law_1151 : decode cL_law 1151 = .ok (.iadd, 1) := by decide +kernel
theorem dL_law_1152 : decode cL_law 1152 = .ok (.iaload, 1) := by decide +kernel
theorem dL_law_1153 : decode cL_law 1153 = .ok (.invokevirtual 183, 3) := by decide +kernel
theorem dL_law_1156 : decode cL_law 1156 = .ok (.istore 7, 2) := by decide +kernel
theorem dL_law_1158 : decode cL_law 1158 = .ok (.aload_n 2, 1) := by decide +kernel
theorem dL_law_1159 : decode cL_law 1159 = .ok (.invokevirtual 110, 3) := by decide +kernel
theorem dL_law_1162 : decode cL_law 1162 = .ok (.iload 6, 2) := by decide +kernel
theorem dL_law_1164 : decode cL_law 1164 = .ok (.if_icmp .eq 5, 3) := by decide +kernel
theorem dL_law_1167 : decode cL_law 1167 = .ok (.iconst 0, 1) := by decide +kernel
theorem dL_law_1168 : decode cL_law 1168 = .ok (.ireturn, 1) := by decide +kernel
theorem dL_law_1169 : decode cL_law 1169 = .ok (.iload 6, 2) := by decide +kernel
theorem dL_law_1171 : decode cL_law 1171 = .ok (.ifCond .ne 15, 3) := by decide +kernel
theorem dL_law_1174 : decode cL_law 1174 = .ok (.aload_n 3, 1) := by decide +kernel
theorem dL_law_1175 : decode cL_law 1175 = .ok (.iconst 0, 1) := by decide +kernel
theorem dL_law_1176 : decode cL_law 1176 = .ok (.laload, 1) := by decide +kernel
theorem dL_law_1177 : decode cL_law 1177 = .ok (.iload 7, 2) := by decide +kernel
theorem dL_law_1179 : decode cL_law 1179 = .ok (.i2l, 1) := by decide +kernel
theorem dL_law_1180 : decode cL_law 1180 = .ok (.lcmp, 1) := by decide +kernel
theorem dL_law_1181 : decode cL_law 1181 = .ok (.ifCond .eq 5, 3) := by decide +kernel
theorem dL_law_1184 : decode cL_law 1184 = .ok (.iconst 0, 1) := by decide +kernel
theorem dL_law_1185 : decode cL_law 1185 = .ok (.ireturn, 1) := by decide +kernel
theorem dL_law_1186 : decode cL_law 1186 = .ok (.goto 632, 3) := by decide +kernel
theorem dL_law_1189 : decode cL_law 1189 = .ok (.aload_n 1, 1) := by decide +kernel
theorem dL_law_1190 : decode cL_law 1190 = .ok (.aload_n 0, 1) := by decide +kernel
theorem dL_law_1191 : decode cL_law 1191 = .ok (.iload 5, 2) := by decide +kernel
theorem dL_law_1193 : decode cL_law 1193 = .ok (.iconst 1, 1) := by decide +kernel
theorem dL_law_1194 : decode cL_law 1194 = .ok (.iadd, 1) := by decide +kernel
theorem dL_law_1195 : decode cL_law 1195 = .ok (.iaload, 1) := by decide +kernel
theorem dL_law_1196 : decode cL_law 1196 = .ok (.aload_n 3, 1) := by decide +kernel
theorem dL_law_1197 : decode cL_law 1197 = .ok (.invokestatic 184, 3) := by decide +kernel
theorem dL_law_1200 : decode cL_law 1200 = .ok (.istore 6, 2) := by decide +kernel
theorem dL_law_1202 : decode cL_law 1202 = .ok (.aload_n 2, 1) := by decide +kernel
theorem dL_law_1203 : decode cL_law 1203 = .ok (.aload_n 0, 1) := by decide +kernel
theorem dL_law_1204 : decode cL_law 1204 = .ok (.iload 5, 2) := by decide +kernel
theorem dL_law_1206 : decode cL_law 1206 = .ok (.iconst 1, 1) := by decide +kernel
theorem dL_law_1207 : decode cL_law 1207 = .ok (.iadd, 1) := by decide +kernel
theorem dL_law_1208 : decode cL_law 1208 = .ok (.iaload, 1) := by decide +kernel
theorem dL_law_1209 : decode cL_law 1209 = .ok (.invokevirtual 186, 3) := by decide +kernel
theorem dL_law_1212 : decode cL_law 1212 = .ok (.istore 7, 2) := by decide +kernel
theorem dL_law_1214 : decode cL_law 1214 = .ok (.aload_n 2, 1) := by decide +kernel
theorem dL_law_1215 : decode cL_law 1215 = .ok (.invokevirtual 110, 3) := by decide +kernel
theorem dL_law_1218 : decode cL_law 1218 = .ok (.iload 6, 2) := by decide +kernel
theorem dL_law_1220 : decode cL_law 1220 = .ok (.if_icmp .eq 5, 3) := by decide +kernel
theorem dL_law_1223 : decode cL_law 1223 = .ok (.iconst 0, 1) := by decide +kernel
theorem dL_law_1224 : decode cL_law 1224 = .ok (.ireturn, 1) := by decide +kernel
theorem dL_law_1225 : decode cL_law 1225 = .ok (.iload 6, 2) := by decide +kernel
theorem dL_law_1227 : decode cL_law 1227 = .ok (.ifCond .ne 15, 3) := by decide +kernel
theorem dL_law_1230 : decode cL_law 1230 = .ok (.aload_n 3, 1) := by decide +kernel
theorem dL_law_1231 : decode cL_law 1231 = .ok (.iconst 0, 1) := by decide +kernel
theorem dL_law_1232 : decode cL_law 1232 = .ok (.laload, 1) := by decide +kernel
theorem dL_law_1233 : decode cL_law 1233 = .ok (.iload 7, 2) := by decide +kernel
theorem dL_law_1235 : decode cL_law 1235 = .ok (.i2l, 1) := by decide +kernel
theorem dL_law_1236 : decode cL_law 1236 = .ok (.lcmp, 1) := by decide +kernel
theorem dL_law_1237 : decode cL_law 1237 = .ok (.ifCond .eq 5, 3) := by decide +kernel
theorem dL_law_1240 : decode cL_law 1240 = .ok (.iconst 0, 1) := by decide +kernel
theorem dL_law_1241 : decode cL_law 1241 = .ok (.ireturn, 1) := by decide +kernel
theorem dL_law_1242 : decode cL_law 1242 = .ok (.goto 576, 3) := by decide +kernel
theorem dL_law_1245 : decode cL_law 1245 = .ok (.aload_n 1, 1) := by decide +kernel
theorem dL_law_1246 : decode cL_law 1246 = .ok (.aload_n 3, 1) := by decide +kernel
theorem dL_law_1247 : decode cL_law 1247 = .ok (.invokestatic 187, 3) := by decide +kernel
theorem dL_law_1250 : decode cL_law 1250 = .ok (.istore 6, 2) := by decide +kernel
theorem dL_law_1252 : decode cL_law 1252 = .ok (.aload_n 2, 1) := by decide +kernel
theorem dL_law_1253 : decode cL_law 1253 = .ok (.invokevirtual 189, 3) := by decide +kernel
theorem dL_law_1256 : decode cL_law 1256 = .ok (.istore 7, 2) := by decide +kernel
theorem dL_law_1258 : decode cL_law 1258 = .ok (.aload_n 2, 1) := by decide +kernel
theorem dL_law_1259 : decode cL_law 1259 = .ok (.invokevirtual 110, 3) := by decide +kernel
theorem dL_law_1262 : decode cL_law 1262 = .ok (.iload 6, 2) := by decide +kernel
theorem dL_law_1264 : decode cL_law 1264 = .ok (.if_icmp .eq 5, 3) := by decide +kernel
theorem dL_law_1267 : decode cL_law 1267 = .ok (.iconst 0, 1) := by decide +kernel
theorem dL_law_1268 : decode cL_law 1268 = .ok (.ireturn, 1) := by decide +kernel
theorem dL_law_1269 : decode cL_law 1269 = .ok (.iload 6, 2) := by decide +kernel
theorem dL_law_1271 : decode cL_law 1271 = .ok (.ifCond .ne 15, 3) := by decide +kernel
theorem dL_law_1274 : decode cL_law 1274 = .ok (.aload_n 3, 1) := by decide +kernel
theorem dL_law_1275 : decode cL_law 1275 = .ok (.iconst 0, 1) := by decide +kernel
theorem dL_law_1276 : decode cL_law 1276 = .ok (.laload, 1) := by decide +kernel
theorem dL_law_1277 : decode cL_law 1277 = .ok (.iload 7, 2) := by decide +kernel
theorem dL_law_1279 : decode cL_law 1279 = .ok (.i2l, 1) := by decide +kernel
theorem dL_law_1280 : decode cL_law 1280 = .ok (.lcmp, 1) := by decide +kernel
theorem dL_law_1281 : decode cL_law 1281 = .ok (.ifCond .eq 5, 3) := by decide +kernel
theorem dL_law_1284 : decode cL_law 1284 = .ok (.iconst 0, 1) := by decide +kernel
theorem dL_law_1285 : decode cL_law 1285 = .ok (.ireturn, 1) := by decide +kernel
theorem dL_law_1286 : decode cL_law 1286 = .ok (.goto 532, 3) := by decide +kernel
theorem dL_law_1289 : decode cL_law 1289 = .ok (.aload_n 1, 1) := by decide +kernel
theorem dL_law_1290 : decode cL_law 1290 = .ok (.aload_n 3, 1) := by decide +kernel
theorem dL_law_1291 : decode cL_law 1291 = .ok (.invokestatic 190, 3) := by decide +kernel
theorem dL_law_1294 : decode cL_law 1294 = .ok (.istore 6, 2) := by decide +kernel
theorem dL_law_1296 : decode cL_law 1296 = .ok (.aload_n 2, 1) := by decide +kernel
theorem dL_law_1297 : decode cL_law 1297 = .ok (.invokevirtual 192, 3) := by decide +kernel
theorem dL_law_1300 : decode cL_law 1300 = .ok (.istore 7, 2) := by decide +kernel
theorem dL_law_1302 : decode cL_law 1302 = .ok (.aload_n 2, 1) := by decide +kernel
theorem dL_law_1303 : decode cL_law 1303 = .ok (.invokevirtual 110, 3) := by decide +kernel
theorem dL_law_1306 : decode cL_law 1306 = .ok (.iload 6, 2) := by decide +kernel
theorem dL_law_1308 : decode cL_law 1308 = .ok (.if_icmp .eq 5, 3) := by decide +kernel
theorem dL_law_1311 : decode cL_law 1311 = .ok (.iconst 0, 1) := by decide +kernel
theorem dL_law_1312 : decode cL_law 1312 = .ok (.ireturn, 1) := by decide +kernel
theorem dL_law_1313 : decode cL_law 1313 = .ok (.iload 6, 2) := by decide +kernel
theorem dL_law_1315 : decode cL_law 1315 = .ok (.ifCond .ne 15, 3) := by decide +kernel
theorem dL_law_1318 : decode cL_law 1318 = .ok (.aload_n 3, 1) := by decide +kernel
theorem dL_law_1319 : decode cL_law 1319 = .ok (.iconst 0, 1) := by decide +kernel
theorem dL_law_1320 : decode cL_law 1320 = .ok (.laload, 1) := by decide +kernel
theorem dL_law_1321 : decode cL_law 1321 = .ok (.iload 7, 2) := by decide +kernel
theorem dL_law_1323 : decode cL_law 1323 = .ok (.i2l, 1) := by decide +kernel
theorem dL_law_1324 : decode cL_law 1324 = .ok (.lcmp, 1) := by decide +kernel
theorem dL_law_1325 : decode cL_law 1325 = .ok (.ifCond .eq 5, 3) := by decide +kernel
theorem dL_law_1328 : decode cL_law 1328 = .ok (.iconst 0, 1) := by decide +kernel
theorem dL_law_1329 : decode cL_law 1329 = .ok (.ireturn, 1) := by decide +kernel
theorem dL_law_1330 : decode cL_law 1330 = .ok (.goto 488, 3) := by decide +kernel
theorem dL_law_1333 : decode cL_law 1333 = .ok (.aload_n 1, 1) := by decide +kernel
theorem dL_law_1334 : decode cL_law 1334 = .ok (.aload_n 0, 1) := by decide +kernel
theorem dL_law_1335 : decode cL_law 1335 = .ok (.iload 5, 2) := by decide +kernel
theorem dL_law_1337 : decode cL_law 1337 = .ok (.iconst 1, 1) := by decide +kernel
theorem dL_law_1338 : decode cL_law 1338 = .ok (.iadd, 1) := by decide +kernel
theorem dL_law_1339 : decode cL_law 1339 = .ok (.iaload, 1) := by decide +kernel
theorem dL_law_1340 : decode cL_law 1340 = .ok (.aload_n 0, 1) := by decide +kernel
theorem dL_law_1341 : decode cL_law 1341 = .ok (.iload 5, 2) := by decide +kernel
theorem dL_law_1343 : decode cL_law 1343 = .ok (.iconst 2, 1) := by decide +kernel
theorem dL_law_1344 : decode cL_law 1344 = .ok (.iadd, 1) := by decide +kernel
theorem dL_law_1345 : decode cL_law 1345 = .ok (.iaload, 1) := by decide +kernel
theorem dL_law_1346 : decode cL_law 1346 = .ok (.aload_n 3, 1) := by decide +kernel
theorem dL_law_1347 : decode cL_law 1347 = .ok (.invokestatic 193, 3) := by decide +kernel
theorem dL_law_1350 : decode cL_law 1350 = .ok (.istore 6, 2) := by decide +kernel
theorem dL_law_1352 : decode cL_law 1352 = .ok (.aload_n 2, 1) := by decide +kernel
theorem dL_law_1353 : decode cL_law 1353 = .ok (.aload_n 0, 1) := by decide +kernel
theorem dL_law_1354 : decode cL_law 1354 = .ok (.iload 5, 2) := by decide +kernel
theorem dL_law_1356 : decode cL_law 1356 = .ok (.iconst 1, 1) := by decide +kernel
theorem dL_law_1357 : decode cL_law 1357 = .ok (.iadd, 1) := by decide +kernel
theorem dL_law_1358 : decode cL_law 1358 = .ok (.iaload, 1) := by decide +kernel
theorem dL_law_1359 : decode cL_law 1359 = .ok (.aload_n 0, 1) := by decide +kernel
theorem dL_law_1360 : decode cL_law 1360 = .ok (.iload 5, 2) := by decide +kernel
theorem dL_law_1362 : decode cL_law 1362 = .ok (.iconst 2, 1) := by decide +kernel
theorem dL_law_1363 : decode cL_law 1363 = .ok (.iadd, 1) := by decide +kernel
theorem dL_law_1364 : decode cL_law 1364 = .ok (.iaload, 1) := by decide +kernel
theorem dL_law_1365 : decode cL_law 1365 = .ok (.invokevirtual 195, 3) := by decide +kernel
theorem dL_law_1368 : decode cL_law 1368 = .ok (.lstore 7, 2) := by decide +kernel
theorem dL_law_1370 : decode cL_law 1370 = .ok (.aload_n 2, 1) := by decide +kernel
theorem dL_law_1371 : decode cL_law 1371 = .ok (.invokevirtual 110, 3) := by decide +kernel
theorem dL_law_1374 : decode cL_law 1374 = .ok (.iload 6, 2) := by decide +kernel
theorem dL_law_1376 : decode cL_law 1376 = .ok (.if_icmp .eq 5, 3) := by decide +kernel
theorem dL_law_1379 : decode cL_law 1379 = .ok (.iconst 0, 1) := by decide +kernel
theorem dL_law_1380 : decode cL_law 1380 = .ok (.ireturn, 1) := by decide +kernel
theorem dL_law_1381 : decode cL_law 1381 = .ok (.iload 6, 2) := by decide +kernel
theorem dL_law_1383 : decode cL_law 1383 = .ok (.ifCond .ne 14, 3) := by decide +kernel
theorem dL_law_1386 : decode cL_law 1386 = .ok (.aload_n 3, 1) := by decide +kernel
theorem dL_law_1387 : decode cL_law 1387 = .ok (.iconst 0, 1) := by decide +kernel
theorem dL_law_1388 : decode cL_law 1388 = .ok (.laload, 1) := by decide +kernel
theorem dL_law_1389 : decode cL_law 1389 = .ok (.lload 7, 2) := by decide +kernel
theorem dL_law_1391 : decode cL_law 1391 = .ok (.lcmp, 1) := by decide +kernel
theorem dL_law_1392 : decode cL_law 1392 = .ok (.ifCond .eq 5, 3) := by decide +kernel
theorem dL_law_1395 : decode cL_law 1395 = .ok (.iconst 0, 1) := by decide +kernel
theorem dL_law_1396 : decode cL_law 1396 = .ok (.ireturn, 1) := by decide +kernel
theorem dL_law_1397 : decode cL_law 1397 = .ok (.goto 421, 3) := by decide +kernel
theorem dL_law_1400 : decode cL_law 1400 = .ok (.aload_n 1, 1) := by decide +kernel
theorem dL_law_1401 : decode cL_law 1401 = .ok (.aload_n 0, 1) := by decide +kernel
theorem dL_law_1402 : decode cL_law 1402 = .ok (.iload 5, 2) := by decide +kernel
theorem dL_law_1404 : decode cL_law 1404 = .ok (.iconst 1, 1) := by decide +kernel
theorem dL_law_1405 : decode cL_law 1405 = .ok (.iadd, 1) := by decide +kernel
theorem dL_law_1406 : decode cL_law 1406 = .ok (.iaload, 1) := by decide +kernel
theorem dL_law_1407 : decode cL_law 1407 = .ok (.aload_n 3, 1) := by decide +kernel
theorem dL_law_1408 : decode cL_law 1408 = .ok (.invokestatic 196, 3) := by decide +kernel
theorem dL_law_1411 : decode cL_law 1411 = .ok (.istore 6, 2) := by decide +kernel
theorem dL_law_1413 : decode cL_law 1413 = .ok (.aload_n 2, 1) := by decide +kernel
theorem dL_law_1414 : decode cL_law 1414 = .ok (.aload_n 0, 1) := by decide +kernel
theorem dL_law_1415 : decode cL_law 1415 = .ok (.iload 5, 2) := by decide +kernel
theorem dL_law_1417 : decode cL_law 1417 = .ok (.iconst 1, 1) := by decide +kernel
theorem dL_law_1418 : decode cL_law 1418 = .ok (.iadd, 1) := by decide +kernel
theorem dL_law_1419 : decode cL_law 1419 = .ok (.iaload, 1) := by decide +kernel
theorem dL_law_1420 : decode cL_law 1420 = .ok (.invokevirtual 198, 3) := by decide +kernel
theorem dL_law_1423 : decode cL_law 1423 = .ok (.istore 7, 2) := by decide +kernel
theorem dL_law_1425 : decode cL_law 1425 = .ok (.aload_n 2, 1) := by decide +kernel
theorem dL_law_1426 : decode cL_law 1426 = .ok (.invokevirtual 110, 3) := by decide +kernel
theorem dL_law_1429 : decode cL_law 1429 = .ok (.iload 6, 2) := by decide +kernel
theorem dL_law_1431 : decode cL_law 1431 = .ok (.if_icmp .eq 5, 3) := by decide +kernel
theorem dL_law_1434 : decode cL_law 1434 = .ok (.iconst 0, 1) := by decide +kernel
theorem dL_law_1435 : decode cL_law 1435 = .ok (.ireturn, 1) := by decide +kernel
theorem dL_law_1436 : decode cL_law 1436 = .ok (.iload 6, 2) := by decide +kernel
theorem dL_law_1438 : decode cL_law 1438 = .ok (.ifCond .ne 15, 3) := by decide +kernel
theorem dL_law_1441 : decode cL_law 1441 = .ok (.aload_n 3, 1) := by decide +kernel
theorem dL_law_1442 : decode cL_law 1442 = .ok (.iconst 0, 1) := by decide +kernel
theorem dL_law_1443 : decode cL_law 1443 = .ok (.laload, 1) := by decide +kernel
theorem dL_law_1444 : decode cL_law 1444 = .ok (.iload 7, 2) := by decide +kernel
theorem dL_law_1446 : decode cL_law 1446 = .ok (.i2l, 1) := by decide +kernel
theorem dL_law_1447 : decode cL_law 1447 = .ok (.lcmp, 1) := by decide +kernel
theorem dL_law_1448 : decode cL_law 1448 = .ok (.ifCond .eq 5, 3) := by decide +kernel
theorem dL_law_1451 : decode cL_law 1451 = .ok (.iconst 0, 1) := by decide +kernel
theorem dL_law_1452 : decode cL_law 1452 = .ok (.ireturn, 1) := by decide +kernel
theorem dL_law_1453 : decode cL_law 1453 = .ok (.goto 365, 3) := by decide +kernel
theorem dL_law_1456 : decode cL_law 1456 = .ok (.aload_n 1, 1) := by decide +kernel
theorem dL_law_1457 : decode cL_law 1457 = .ok (.invokevirtual 199, 3) := by decide +kernel
theorem dL_law_1460 : decode cL_law 1460 = .ok (.aload_n 2, 1) := by decide +kernel
theorem dL_law_1461 : decode cL_law 1461 = .ok (.invokevirtual 202, 3) := by decide +kernel
theorem dL_law_1464 : decode cL_law 1464 = .ok (.if_icmp .eq 354, 3) := by decide +kernel
theorem dL_law_1467 : decode cL_law 1467 = .ok (.iconst 0, 1) := by decide +kernel
theorem dL_law_1468 : decode cL_law 1468 = .ok (.ireturn, 1) := by decide +kernel
theorem dL_law_1469 : decode cL_law 1469 = .ok (.aload_n 1, 1) := by decide +kernel
theorem dL_law_1470 : decode cL_law 1470 = .ok (.invokevirtual 203, 3) := by decide +kernel
theorem dL_law_1473 : decode cL_law 1473 = .ok (.aload_n 2, 1) := by decide +kernel
theorem dL_law_1474 : decode cL_law 1474 = .ok (.invokevirtual 206, 3) := by decide +kernel
theorem dL_law_1477 : decode cL_law 1477 = .ok (.if_icmp .eq 341, 3) := by decide +kernel
theorem dL_law_1480 : decode cL_law 1480 = .ok (.iconst 0, 1) := by decide +kernel
theorem dL_law_1481 : decode cL_law 1481 = .ok (.ireturn, 1) := by decide +kernel
theorem dL_law_1482 : decode cL_law 1482 = .ok (.aload_n 1, 1) := by decide +kernel
theorem dL_law_1483 : decode cL_law 1483 = .ok (.aload_n 3, 1) := by decide +kernel
theorem dL_law_1484 : decode cL_law 1484 = .ok (.invokestatic 207, 3) := by decide +kernel
theorem dL_law_1487 : decode cL_law 1487 = .ok (.istore 6, 2) := by decide +kernel
theorem dL_law_1489 : decode cL_law 1489 = .ok (.aload_n 2, 1) := by decide +kernel
theorem dL_law_1490 : decode cL_law 1490 = .ok (.invokevirtual 209, 3) := by decide +kernel
theorem dL_law_1493 : decode cL_law 1493 = .ok (.istore 7, 2) := by decide +kernel
theorem dL_law_1495 : decode cL_law 1495 = .ok (.aload_n 2, 1) := by decide +kernel
theorem dL_law_1496 : decode cL_law 1496 = .ok (.invokevirtual 110, 3) := by decide +kernel
theorem dL_law_1499 : decode cL_law 1499 = .ok (.iload 6, 2) := by decide +kernel
theorem dL_law_1501 : decode cL_law 1501 = .ok (.if_icmp .eq 5, 3) := by decide +kernel
theorem dL_law_1504 : decode cL_law 1504 = .ok (.iconst 0, 1) := by decide +kernel
theorem dL_law_1505 : decode cL_law 1505 = .ok (.ireturn, 1) := by decide +kernel
theorem dL_law_1506 : decode cL_law 1506 = .ok (.iload 6, 2) := by decide +kernel
theorem dL_law_1508 : decode cL_law 1508 = .ok (.ifCond .ne 15, 3) := by decide +kernel
theorem dL_law_1511 : decode cL_law 1511 = .ok (.aload_n 3, 1) := by decide +kernel
theorem dL_law_1512 : decode cL_law 1512 = .ok (.iconst 0, 1) := by decide +kernel
theorem dL_law_1513 : decode cL_law 1513 = .ok (.laload, 1) := by decide +kernel
theorem dL_law_1514 : decode cL_law 1514 = .ok (.iload 7, 2) := by decide +kernel
theorem dL_law_1516 : decode cL_law 1516 = .ok (.i2l, 1) := by decide +kernel
theorem dL_law_1517 : decode cL_law 1517 = .ok (.lcmp, 1) := by decide +kernel
theorem dL_law_1518 : decode cL_law 1518 = .ok (.ifCond .eq 5, 3) := by decide +kernel
theorem dL_law_1521 : decode cL_law 1521 = .ok (.iconst 0, 1) := by decide +kernel
theorem dL_law_1522 : decode cL_law 1522 = .ok (.ireturn, 1) := by decide +kernel
theorem dL_law_1523 : decode cL_law 1523 = .ok (.goto 295, 3) := by decide +kernel
theorem dL_law_1526 : decode cL_law 1526 = .ok (.aload_n 1, 1) := by decide +kernel
theorem dL_law_1527 : decode cL_law 1527 = .ok (.aload_n 0, 1) := by decide +kernel
theorem dL_law_1528 : decode cL_law 1528 = .ok (.iload 5, 2) := by decide +kernel
theorem dL_law_1530 : decode cL_law 1530 = .ok (.iconst 1, 1) := by decide +kernel
theorem dL_law_1531 : decode cL_law 1531 = .ok (.iadd, 1) := by decide +kernel
theorem dL_law_1532 : decode cL_law 1532 = .ok (.iaload, 1) := by decide +kernel
theorem dL_law_1533 : decode cL_law 1533 = .ok (.ifCond .eq 7, 3) := by decide +kernel
theorem dL_law_1536 : decode cL_law 1536 = .ok (.iconst 1, 1) := by decide +kernel
theorem dL_law_1537 : decode cL_law 1537 = .ok (.goto 4, 3) := by decide +kernel
theorem dL_law_1540 : decode cL_law 1540 = .ok (.iconst 0, 1) := by decide +kernel
theorem dL_law_1541 : decode cL_law 1541 = .ok (.aload_n 3, 1) := by decide +kernel
theorem dL_law_1542 : decode cL_law 1542 = .ok (.invokestatic 210, 3) := by decide +kernel
theorem dL_law_1545 : decode cL_law 1545 = .ok (.istore 6, 2) := by decide +kernel
theorem dL_law_1547 : decode cL_law 1547 = .ok (.aload_n 2, 1) := by decide +kernel
theorem dL_law_1548 : decode cL_law 1548 = .ok (.aload_n 0, 1) := by decide +kernel
theorem dL_law_1549 : decode cL_law 1549 = .ok (.iload 5, 2) := by decide +kernel
theorem dL_law_1551 : decode cL_law 1551 = .ok (.iconst 1, 1) := by decide +kernel
theorem dL_law_1552 : decode cL_law 1552 = .ok (.iadd, 1) := by decide +kernel
theorem dL_law_1553 : decode cL_law 1553 = .ok (.iaload, 1) := by decide +kernel
theorem dL_law_1554 : decode cL_law 1554 = .ok (.ifCond .eq 7, 3) := by decide +kernel
theorem dL_law_1557 : decode cL_law 1557 = .ok (.iconst 1, 1) := by decide +kernel
theorem dL_law_1558 : decode cL_law 1558 = .ok (.goto 4, 3) := by decide +kernel
theorem dL_law_1561 : decode cL_law 1561 = .ok (.iconst 0, 1) := by decide +kernel
theorem dL_law_1562 : decode cL_law 1562 = .ok (.invokevirtual 212, 3) := by decide +kernel
theorem dL_law_1565 : decode cL_law 1565 = .ok (.istore 7, 2) := by decide +kernel
theorem dL_law_1567 : decode cL_law 1567 = .ok (.aload_n 2, 1) := by decide +kernel
theorem dL_law_1568 : decode cL_law 1568 = .ok (.invokevirtual 110, 3) := by decide +kernel
theorem dL_law_1571 : decode cL_law 1571 = .ok (.iload 6, 2) := by decide +kernel
theorem dL_law_1573 : decode cL_law 1573 = .ok (.if_icmp .eq 5, 3) := by decide +kernel
theorem dL_law_1576 : decode cL_law 1576 = .ok (.iconst 0, 1) := by decide +kernel
theorem dL_law_1577 : decode cL_law 1577 = .ok (.ireturn, 1) := by decide +kernel
theorem dL_law_1578 : decode cL_law 1578 = .ok (.iload 6, 2) := by decide +kernel
theorem dL_law_1580 : decode cL_law 1580 = .ok (.ifCond .ne 15, 3) := by decide +kernel
theorem dL_law_1583 : decode cL_law 1583 = .ok (.aload_n 3, 1) := by decide +kernel
theorem dL_law_1584 : decode cL_law 1584 = .ok (.iconst 0, 1) := by decide +kernel
theorem dL_law_1585 : decode cL_law 1585 = .ok (.laload, 1) := by decide +kernel
theorem dL_law_1586 : decode cL_law 1586 = .ok (.iload 7, 2) := by decide +kernel
theorem dL_law_1588 : decode cL_law 1588 = .ok (.i2l, 1) := by decide +kernel
theorem dL_law_1589 : decode cL_law 1589 = .ok (.lcmp, 1) := by decide +kernel
theorem dL_law_1590 : decode cL_law 1590 = .ok (.ifCond .eq 5, 3) := by decide +kernel
theorem dL_law_1593 : decode cL_law 1593 = .ok (.iconst 0, 1) := by decide +kernel
theorem dL_law_1594 : decode cL_law 1594 = .ok (.ireturn, 1) := by decide +kernel
theorem dL_law_1595 : decode cL_law 1595 = .ok (.goto 223, 3) := by decide +kernel
theorem dL_law_1598 : decode cL_law 1598 = .ok (.aload_n 1, 1) := by decide +kernel
theorem dL_law_1599 : decode cL_law 1599 = .ok (.aload_n 0, 1) := by decide +kernel
theorem dL_law_1600 : decode cL_law 1600 = .ok (.iload 5, 2) := by decide +kernel
theorem dL_law_1602 : decode cL_law 1602 = .ok (.iconst 1, 1) := by decide +kernel
theorem dL_law_1603 : decode cL_law 1603 = .ok (.iadd, 1) := by decide +kernel
theorem dL_law_1604 : decode cL_law 1604 = .ok (.iaload, 1) := by decide +kernel
theorem dL_law_1605 : decode cL_law 1605 = .ok (.ifCond .eq 7, 3) := by decide +kernel
theorem dL_law_1608 : decode cL_law 1608 = .ok (.iconst 1, 1) := by decide +kernel
theorem dL_law_1609 : decode cL_law 1609 = .ok (.goto 4, 3) := by decide +kernel
theorem dL_law_1612 : decode cL_law 1612 = .ok (.iconst 0, 1) := by decide +kernel
theorem dL_law_1613 : decode cL_law 1613 = .ok (.aload_n 3, 1) := by decide +kernel
theorem dL_law_1614 : decode cL_law 1614 = .ok (.invokestatic 213, 3) := by decide +kernel
theorem dL_law_1617 : decode cL_law 1617 = .ok (.istore 6, 2) := by decide +kernel
theorem dL_law_1619 : decode cL_law 1619 = .ok (.aload_n 2, 1) := by decide +kernel
theorem dL_law_1620 : decode cL_law 1620 = .ok (.aload_n 0, 1) := by decide +kernel
theorem dL_law_1621 : decode cL_law 1621 = .ok (.iload 5, 2) := by decide +kernel
theorem dL_law_1623 : decode cL_law 1623 = .ok (.iconst 1, 1) := by decide +kernel
theorem dL_law_1624 : decode cL_law 1624 = .ok (.iadd, 1) := by decide +kernel
theorem dL_law_1625 : decode cL_law 1625 = .ok (.iaload, 1) := by decide +kernel
theorem dL_law_1626 : decode cL_law 1626 = .ok (.ifCond .eq 7, 3) := by decide +kernel
theorem dL_law_1629 : decode cL_law 1629 = .ok (.iconst 1, 1) := by decide +kernel
theorem dL_law_1630 : decode cL_law 1630 = .ok (.goto 4, 3) := by decide +kernel
theorem dL_law_1633 : decode cL_law 1633 = .ok (.iconst 0, 1) := by decide +kernel
theorem dL_law_1634 : decode cL_law 1634 = .ok (.invokevirtual 215, 3) := by decide +kernel
theorem dL_law_1637 : decode cL_law 1637 = .ok (.istore 7, 2) := by decide +kernel
theorem dL_law_1639 : decode cL_law 1639 = .ok (.aload_n 2, 1) := by decide +kernel
theorem dL_law_1640 : decode cL_law 1640 = .ok (.invokevirtual 110, 3) := by decide +kernel
theorem dL_law_1643 : decode cL_law 1643 = .ok (.iload 6, 2) := by decide +kernel
theorem dL_law_1645 : decode cL_law 1645 = .ok (.if_icmp .eq 5, 3) := by decide +kernel
theorem dL_law_1648 : decode cL_law 1648 = .ok (.iconst 0, 1) := by decide +kernel
theorem dL_law_1649 : decode cL_law 1649 = .ok (.ireturn, 1) := by decide +kernel
theorem dL_law_1650 : decode cL_law 1650 = .ok (.iload 6, 2) := by decide +kernel
theorem dL_law_1652 : decode cL_law 1652 = .ok (.ifCond .ne 15, 3) := by decide +kernel
theorem dL_law_1655 : decode cL_law 1655 = .ok (.aload_n 3, 1) := by decide +kernel
theorem dL_law_1656 : decode cL_law 1656 = .ok (.iconst 0, 1) := by decide +kernel
theorem dL_law_1657 : decode cL_law 1657 = .ok (.laload, 1) := by decide +kernel
theorem dL_law_1658 : decode cL_law 1658 = .ok (.iload 7, 2) := by decide +kernel
theorem dL_law_1660 : decode cL_law 1660 = .ok (.i2l, 1) := by decide +kernel
theorem dL_law_1661 : decode cL_law 1661 = .ok (.lcmp, 1) := by decide +kernel
theorem dL_law_1662 : decode cL_law 1662 = .ok (.ifCond .eq 5, 3) := by decide +kernel
theorem dL_law_1665 : decode cL_law 1665 = .ok (.iconst 0, 1) := by decide +kernel
theorem dL_law_1666 : decode cL_law 1666 = .ok (.ireturn, 1) := by decide +kernel
theorem dL_law_1667 : decode cL_law 1667 = .ok (.goto 151, 3) := by decide +kernel
theorem dL_law_1670 : decode cL_law 1670 = .ok (.aload_n 1, 1) := by decide +kernel
theorem dL_law_1671 : decode cL_law 1671 = .ok (.aload_n 0, 1) := by decide +kernel
theorem dL_law_1672 : decode cL_law 1672 = .ok (.iload 5, 2) := by decide +kernel
theorem dL_law_1674 : decode cL_law 1674 = .ok (.iconst 1, 1) := by decide +kernel
theorem dL_law_1675 : decode cL_law 1675 = .ok (.iadd, 1) := by decide +kernel
theorem dL_law_1676 : decode cL_law 1676 = .ok (.iaload, 1) := by decide +kernel
theorem dL_law_1677 : decode cL_law 1677 = .ok (.aload_n 3, 1) := by decide +kernel
theorem dL_law_1678 : decode cL_law 1678 = .ok (.invokestatic 216, 3) := by decide +kernel
theorem dL_law_1681 : decode cL_law 1681 = .ok (.istore 6, 2) := by decide +kernel
theorem dL_law_1683 : decode cL_law 1683 = .ok (.aload_n 2, 1) := by decide +kernel
theorem dL_law_1684 : decode cL_law 1684 = .ok (.aload_n 0, 1) := by decide +kernel
theorem dL_law_1685 : decode cL_law 1685 = .ok (.iload 5, 2) := by decide +kernel
theorem dL_law_1687 : decode cL_law 1687 = .ok (.iconst 1, 1) := by decide +kernel
theorem dL_law_1688 : decode cL_law 1688 = .ok (.iadd, 1) := by decide +kernel
theorem dL_law_1689 : decode cL_law 1689 = .ok (.iaload, 1) := by decide +kernel
theorem dL_law_1690 : decode cL_law 1690 = .ok (.invokevirtual 218, 3) := by decide +kernel
theorem dL_law_1693 : decode cL_law 1693 = .ok (.istore 7, 2) := by decide +kernel
theorem dL_law_1695 : decode cL_law 1695 = .ok (.aload_n 2, 1) := by decide +kernel
theorem dL_law_1696 : decode cL_law 1696 = .ok (.invokevirtual 110, 3) := by decide +kernel
theorem dL_law_1699 : decode cL_law 1699 = .ok (.iload 6, 2) := by decide +kernel
theorem dL_law_1701 : decode cL_law 1701 = .ok (.if_icmp .eq 5, 3) := by decide +kernel
theorem dL_law_1704 : decode cL_law 1704 = .ok (.iconst 0, 1) := by decide +kernel
theorem dL_law_1705 : decode cL_law 1705 = .ok (.ireturn, 1) := by decide +kernel
theorem dL_law_1706 : decode cL_law 1706 = .ok (.iload 6, 2) := by decide +kernel
theorem dL_law_1708 : decode cL_law 1708 = .ok (.ifCond .ne 15, 3) := by decide +kernel
theorem dL_law_1711 : decode cL_law 1711 = .ok (.aload_n 3, 1) := by decide +kernel
theorem dL_law_1712 : decode cL_law 1712 = .ok (.iconst 0, 1) := by decide +kernel
theorem dL_law_1713 : decode cL_law 1713 = .ok (.laload, 1) := by decide +kernel
theorem dL_law_1714 : decode cL_law 1714 = .ok (.iload 7, 2) := by decide +kernel
theorem dL_law_1716 : decode cL_law 1716 = .ok (.i2l, 1) := by decide +kernel
theorem dL_law_1717 : decode cL_law 1717 = .ok (.lcmp, 1) := by decide +kernel
theorem dL_law_1718 : decode cL_law 1718 = .ok (.ifCond .eq 5, 3) := by decide +kernel
theorem dL_law_1721 : decode cL_law 1721 = .ok (.iconst 0, 1) := by decide +kernel
theorem dL_law_1722 : decode cL_law 1722 = .ok (.ireturn, 1) := by decide +kernel
theorem dL_law_1723 : decode cL_law 1723 = .ok (.goto 95, 3) := by decide +kernel
theorem dL_law_1726 : decode cL_law 1726 = .ok (.aload_n 1, 1) := by decide +kernel
theorem dL_law_1727 : decode cL_law 1727 = .ok (.invokevirtual 219, 3) := by decide +kernel
theorem dL_law_1730 : decode cL_law 1730 = .ok (.aload_n 2, 1) := by decide +kernel
theorem dL_law_1731 : decode cL_law 1731 = .ok (.invokevirtual 222, 3) := by decide +kernel
theorem dL_law_1734 : decode cL_law 1734 = .ok (.if_icmp .eq 84, 3) := by decide +kernel
theorem dL_law_1737 : decode cL_law 1737 = .ok (.iconst 0, 1) := by decide +kernel
theorem dL_law_1738 : decode cL_law 1738 = .ok (.ireturn, 1) := by decide +kernel
theorem dL_law_1739 : decode cL_law 1739 = .ok (.aload_n 1, 1) := by decide +kernel
theorem dL_law_1740 : decode cL_law 1740 = .ok (.aload 4, 2) := by decide +kernel
theorem dL_law_1742 : decode cL_law 1742 = .ok (.invokestatic 223, 3) := by decide +kernel
theorem dL_law_1745 : decode cL_law 1745 = .ok (.istore 6, 2) := by decide +kernel
theorem dL_law_1747 : decode cL_law 1747 = .ok (.aload_n 2, 1) := by decide +kernel
theorem dL_law_1748 : decode cL_law 1748 = .ok (.invokevirtual 226, 3) := by decide +kernel
theorem dL_law_1751 : decode cL_law 1751 = .ok (.dstore 7, 2) := by decide +kernel
theorem dL_law_1753 : decode cL_law 1753 = .ok (.aload_n 2, 1) := by decide +kernel
theorem dL_law_1754 : decode cL_law 1754 = .ok (.invokevirtual 110, 3) := by decide +kernel
theorem dL_law_1757 : decode cL_law 1757 = .ok (.iload 6, 2) := by decide +kernel
theorem dL_law_1759 : decode cL_law 1759 = .ok (.if_icmp .eq 5, 3) := by decide +kernel
theorem dL_law_1762 : decode cL_law 1762 = .ok (.iconst 0, 1) := by decide +kernel
theorem dL_law_1763 : decode cL_law 1763 = .ok (.ireturn, 1) := by decide +kernel
theorem dL_law_1764 : decode cL_law 1764 = .ok (.iload 6, 2) := by decide +kernel
theorem dL_law_1766 : decode cL_law 1766 = .ok (.ifCond .ne 35, 3) := by decide +kernel
theorem dL_law_1769 : decode cL_law 1769 = .ok (.aload 4, 2) := by decide +kernel
theorem dL_law_1771 : decode cL_law 1771 = .ok (.iconst 0, 1) := by decide +kernel
theorem dL_law_1772 : decode cL_law 1772 = .ok (.daload, 1) := by decide +kernel
theorem dL_law_1773 : decode cL_law 1773 = .ok (.dload 7, 2) := by decide +kernel
theorem dL_law_1775 : decode cL_law 1775 = .ok (.dcmp .l, 1) := by decide +kernel
theorem dL_law_1776 : decode cL_law 1776 = .ok (.ifCond .eq 25, 3) := by decide +kernel
theorem dL_law_1779 : decode cL_law 1779 = .ok (.aload 4, 2) := by decide +kernel
theorem dL_law_1781 : decode cL_law 1781 = .ok (.iconst 0, 1) := by decide +kernel
theorem dL_law_1782 : decode cL_law 1782 = .ok (.daload, 1) := by decide +kernel
theorem dL_law_1783 : decode cL_law 1783 = .ok (.aload 4, 2) := by decide +kernel
theorem dL_law_1785 : decode cL_law 1785 = .ok (.iconst 0, 1) := by decide +kernel
theorem dL_law_1786 : decode cL_law 1786 = .ok (.daload, 1) := by decide +kernel
theorem dL_law_1787 : decode cL_law 1787 = .ok (.dcmp .l, 1) := by decide +kernel
theorem dL_law_1788 : decode cL_law 1788 = .ok (.ifCond .eq 11, 3) := by decide +kernel
theorem dL_law_1791 : decode cL_law 1791 = .ok (.dload 7, 2) := by decide +kernel
theorem dL_law_1793 : decode cL_law 1793 = .ok (.dload 7, 2) := by decide +kernel
theorem dL_law_1795 : decode cL_law 1795 = .ok (.dcmp .l, 1) := by decide +kernel
theorem dL_law_1796 : decode cL_law 1796 = .ok (.ifCond .ne 5, 3) := by decide +kernel
theorem dL_law_1799 : decode cL_law 1799 = .ok (.iconst 0, 1) := by decide +kernel
theorem dL_law_1800 : decode cL_law 1800 = .ok (.ireturn, 1) := by decide +kernel
theorem dL_law_1801 : decode cL_law 1801 = .ok (.goto 17, 3) := by decide +kernel
theorem dL_law_1804 : decode cL_law 1804 = .ok (.aload_n 1, 1) := by decide +kernel
theorem dL_law_1805 : decode cL_law 1805 = .ok (.invokevirtual 227, 3) := by decide +kernel
theorem dL_law_1808 : decode cL_law 1808 = .ok (.aload_n 2, 1) := by decide +kernel
theorem dL_law_1809 : decode cL_law 1809 = .ok (.invokevirtual 230, 3) := by decide +kernel
theorem dL_law_1812 : decode cL_law 1812 = .ok (.lcmp, 1) := by decide +kernel
theorem dL_law_1813 : decode cL_law 1813 = .ok (.ifCond .eq 5, 3) := by decide +kernel
theorem dL_law_1816 : decode cL_law 1816 = .ok (.iconst 0, 1) := by decide +kernel
theorem dL_law_1817 : decode cL_law 1817 = .ok (.ireturn, 1) := by decide +kernel
theorem dL_law_1818 : decode cL_law 1818 = .ok (.iinc 5 4, 3) := by decide +kernel
theorem dL_law_1821 : decode cL_law 1821 = .ok (.goto (-1793), 3) := by decide +kernel
theorem dL_law_1824 : decode cL_law 1824 = .ok (.iconst 1, 1) := by decide +kernel
theorem dL_law_1825 : decode cL_law 1825 = .ok (.ireturn, 1) := by decide +kernel
end
section
/-! ===== one list of words for all methods: every word of the tables that every reader carries ===== -/
def lw_all : List Cond := lw_tbl.filter goodWord
theorem lw_in {w : Cond} (i : Nat) (h : lw_tbl[i]? = some w) (hg : goodWord w = true) : w ∈ lw_all := List.mem_filter.mpr ⟨List.mem_of_getElem? h, hg⟩
theorem lw_of {w : Cond} (h : w ∈ lw_all) : w ∈ lw_tbl := (List.mem_filter.mp h).1
theorem lw_gd {w : Cond} (h : w ∈ lw_all) : (w.onTables && w.keeps) = true ∨ ∃ ty, w = .arrayClass ty := good_of_word (List.mem_filter.mp h).2
theorem lw_sub {ws : List Cond} (h1 : ∀ w ∈ ws, w ∈ lw_tbl) (h2 : ∀ w ∈ ws, goodWord w = true) : ∀ w ∈ ws, w ∈ lw_all := fun w h => List.mem_filter.mpr ⟨h1 w h, h2 w h⟩
abbrev ws_ (y : MethodName) (b : ByteArray) (n : Nat) (r : Option FieldType) : List Cond := .code y b n r :: lw_all
abbrev wh_ (y : MethodName) (b : ByteArray) (n : Nat) (r : Option FieldType) (hh : List (Nat × Nat × Nat × Nat)) : List Cond := .codeWith y b n r hh :: lw_all
theorem lw_G {c : Cond} (h : c ∈ lw_all) : GoodIn lw_all (c :: lw_all) := fun w hw => by
  rcases List.mem_cons.mp hw with e | h2
  · subst e
    exact ⟨h, lw_gd h⟩
  · exact ⟨h2, lw_gd h2⟩
theorem lw_V {own C : String} {idx : Nat} {y : MethodName} {c : Cond} (h1 : Cond.methodLink own idx y ∈ lw_all) (h2 : Cond.instanceMethod y ∈ lw_all) (h3 : Cond.selects C y y ∈ lw_all) (h4 : Cond.initialized C ∈ lw_all) (h5 : c ∈ lw_all) : GoodIn lw_all (wsV own idx C y (c :: lw_all)) := by
  intro w hw
  rcases List.mem_append.mp hw with h | h
  · simp only [List.mem_cons, List.not_mem_nil, or_false] at h
    rcases h with e | e | e | e <;> subst e
    · exact ⟨h1, lw_gd h1⟩
    · exact ⟨h2, lw_gd h2⟩
    · exact ⟨h3, lw_gd h3⟩
    · exact ⟨h4, lw_gd h4⟩
  · exact lw_G h5 w h
theorem lw_S {own : String} {idx : Nat} {y : MethodName} {c : Cond} (h1 : Cond.methodLink own idx y ∈ lw_all) (h2 : Cond.static y ∈ lw_all) (h4 : Cond.initialized y.cls ∈ lw_all) (h5 : c ∈ lw_all) : GoodIn lw_all (va_wsS own idx y (c :: lw_all)) := by
  intro w hw
  rcases List.mem_append.mp hw with h | h
  · simp only [List.mem_cons, List.not_mem_nil, or_false] at h
    rcases h with e | e | e <;> subst e
    · exact ⟨h1, lw_gd h1⟩
    · exact ⟨h2, lw_gd h2⟩
    · exact ⟨h4, lw_gd h4⟩
  · exact lw_G h5 w h
theorem i_X0 : ∀ w ∈ u_ws RX0 TX0 7, w ∈ lw_all := lw_sub (by decide +kernel) (by decide +kernel)
theorem i_X1 : ∀ w ∈ u_ws RX1 TX1 8, w ∈ lw_all := lw_sub (by decide +kernel) (by decide +kernel)
/-! ===== contracts ===== -/
/-- a start: the arguments, a world -/
def Pw (D : va_G) (tys : List (ClassId × FieldType)) (ws : va_W) (As : List Value) : Array Value → State → Prop := va_Pc As (fun U => va_P D vwCl ws U.heap ∧ va_K D vwCl tys U)
theorem Pw_blind {D : va_G} {tys : List (ClassId × FieldType)} {ws : va_W} {As : List Value} : FrameBlind (Pw D tys ws As) := fun a U g mk q => ⟨q.1, q.2.1, va_K.moved (u := U) (U := U.calling g mk a) (Vm.Alike.refl U.vm) q.2.2⟩
/-- a start that asks nothing but its arguments -/
def Pn (As : List Value) : Array Value → State → Prop := fun a _ => a = As.toArray
theorem Pn_blind {As : List Value} : FrameBlind (Pn As) := fun _ _ _ _ q => q
/-- an end: the answer, the heap as it was -/
def Qr (v : Value) : Array Value → State → Outcome → State → Prop := fun _ st o t => o = .returned (some v) ∧ t.heap = st.heap
/-- an end without an answer, the heap as it was -/
def Qn : Array Value → State → Outcome → State → Prop := fun _ st o t => o = .returned none ∧ t.heap = st.heap
/-- an end: the answer, the world as it is then, nothing else changed -/
def Qx (D : va_G) (ws : va_W) (A : Nat → Prop) (v : Option Value) : Array Value → State → Outcome → State → Prop := fun _ st o t => o = .returned v ∧ va_P D vwCl ws t.heap ∧ va_F A st t
abbrev rm_ (fr lo : Nat) : Room := { frames := fr, cells := 0, slots := 0, locals := lo }
abbrev rx_ (fr lo : Nat) : Room := { frames := fr, cells := 1, slots := 6, locals := lo }
abbrev Rd (l : Launch) (y : MethodName) (b : ByteArray) (n : Nat) (r : Option FieldType) (fr lo : Nat) (P : Array Value → State → Prop) (v : Value) : Prop := Met l y (ws_ y b n r) (rm_ fr lo) P (Qr v) 0 0 (fun _ => False)
abbrev Rn (l : Launch) (y : MethodName) (b : ByteArray) (n : Nat) (r : Option FieldType) (fr lo : Nat) (P : Array Value → State → Prop) : Prop := Met l y (ws_ y b n r) (rm_ fr lo) P Qn 0 0 (fun _ => False)
abbrev Wr (l : Launch) (y : MethodName) (b : ByteArray) (n : Nat) (r : Option FieldType) (fr lo : Nat) (P : Array Value → State → Prop) (D : va_G) (ws : va_W) (A : Nat → Prop) (v : Option Value) : Prop := Met l y (ws_ y b n r) (rm_ fr lo) P (Qx D ws A v) 0 0 A
def XE (E0 : String) : String → State → State → Prop := fun E st t => E = E0 ∧ va_F (fun _ => False) st t
def Qf : Array Value → State → Outcome → State → Prop := fun _ _ _ _ => False
abbrev Tx (l : Launch) (y : MethodName) (b : ByteArray) (n : Nat) (r : Option FieldType) (fr lo : Nat) (P : Array Value → State → Prop) (E : String) : Prop := vx_Met l y (ws_ y b n r) (rx_ fr lo) P Qf (XE E) 1 6 (fun _ => False)
/-! ===== what a throw asks: words that aren't carried by every reader, the two statics, the texts ===== -/
def lw_face : List Cond := lw_tbl.filter (fun w => w.onTables && w.keepsFace)
def lw_strs : List (Nat × String) := [(166, "there is no such coin"), (37, "tenths are 0 to 10"), (44, "there are 8 coins"), (173, "there are tosses"), (50, "odds are 1 to 9"), (52, "there are 4 schools"), (169, "there is no such school"), (61, "a share is 0 to 9"), (63, "there are 12 tosses"), (175, "such a toss cannot be"), (80, "there are no tosses"), (171, "there is no such toss"), (112, "the whole weight is 0"), (114, "the second coin is ruled out")]
def ThA (A : Nat → Prop) (U : State) : Prop := (∀ w ∈ lw_face, w.before #[] U = true) ∧ vx_Zq Bundle.tN "UNASSIGNED_STACK" Bundle.steD A U U.heap ∧ vx_Zq Bundle.tN "SUPPRESSED_SENTINEL" Bundle.listD A U U.heap ∧ ∀ q ∈ lw_strs, ∃ sa, vk_R RX0 q.1 q.2 sa U
abbrev Thr (U : State) : Prop := ThA (fun _ => False) U
theorem face_at {args a' : Array Value} {s U : State} {w : Cond} (hW : s.WarmedH U.vm) (hg : (w.onTables && w.keepsFace) = true) (h : w.before args s = true) : w.before a' U = true := by
  simp only [Bool.and_eq_true] at hg
  have h1 := Cond.before_shiftedFace (State.Shifted.of_warmed hW) w hg.2 h
  rw [Cond.onTables_vm (A' := a') (U' := U) U.vm w hg.1, State.setVm_self] at h1
  exact h1
theorem ThA.to {A : Nat → Prop} {s U : State} {H : Heap} {locs : List Loc} (h : ThA A s) (hW : s.WarmedH U.vm) (hU : U.heap = H) (hS : va_S A s.heap H locs) : Thr U := by
  obtain ⟨h1, h2, h3, h4⟩ := h
  have hk : ∀ a : Nat, a < s.heap.size → ¬ A a → U.heap[a]? = s.heap[a]? := fun a ha hA => by rw [hU]; exact hS.2.1 a ha hA
  exact ⟨fun w hw => face_at hW (List.mem_filter.mp hw).2 (h1 w hw), ((vx_Zq.moved hW.alike h2).kept hk).narrow (fun _ z => z.elim), ((vx_Zq.moved hW.alike h3).kept hk).narrow (fun _ z => z.elim), fun q hq => by
    obtain ⟨sa, hs⟩ := h4 q hq
    exact ⟨sa, hs.warm hW⟩⟩
theorem Thr.blind {a : Array Value} {U : State} {g : JFrame} {mk : MethodId} (h : Thr U) : Thr (U.calling g mk a) := by
  obtain ⟨h1, h2, h3, h4⟩ := h
  refine ⟨fun w hw => va_tabs (by have := (List.mem_filter.mp hw).2; simp only [Bool.and_eq_true] at this; exact this.1) (show U.vm = (U.calling g mk a).vm from rfl) (h1 w hw), vx_Zq.moved (u := U) (Vm.Alike.refl U.vm) h2, vx_Zq.moved (u := U) (Vm.Alike.refl U.vm) h3, fun q hq => ?_⟩
  obtain ⟨sa, hs⟩ := h4 q hq
  exact ⟨sa, vk_R.same (u := U) rfl hs⟩
/-- a start of a method that may throw -/
def Pt_ (D : va_G) (tys : List (ClassId × FieldType)) (ws : va_W) (As : List Value) : Array Value → State → Prop := va_Pc As (fun U => va_P D vwCl ws U.heap ∧ va_K D vwCl tys U ∧ Thr U)
theorem Pt_blind {D : va_G} {tys : List (ClassId × FieldType)} {ws : va_W} {As : List Value} : FrameBlind (Pt_ D tys ws As) := fun a U g mk q => ⟨q.1, q.2.1, va_K.moved (u := U) (U := U.calling g mk a) (Vm.Alike.refl U.vm) q.2.2.1, q.2.2.2.blind⟩
def Pnt (As : List Value) : Array Value → State → Prop := va_Pc As Thr
theorem Pnt_blind {As : List Value} : FrameBlind (Pnt As) := fun _ _ _ _ q => ⟨q.1, q.2.blind⟩
/-! ===== calls ===== -/
section LCALL
variable {p : Program} {l : Launch} {e : Env} {R : Room} {s : State} {m : MethodId} {args : Array Value} {below : List Frame} {meth : Method} {c : Code} {H : Heap} {locs : List Loc} {cells slots : Nat} {Q : State → Prop}
variable {D : va_G} {tys : List (ClassId × FieldType)} {ws : va_W} {own : String} {y : MethodName} {bytes cc : ByteArray} {maxL nL index fr lo b ci n pc : Nat} {ret : Option FieldType} {fs As rest st0 : List Value} {q : vw_C} {v : Value} {ls : Array Slot} {P : Array Value → State → Prop} {A : Nat → Prop} {E : String}
theorem lc_go {a : Array Value} (hr : CallRun p l e R s m args below meth c H locs cells slots 0 0 (F0 m pc ls st0) rest (Qr v a) (fun _ => False))
    (kk : W p l e R s m args below meth c H locs cells slots Q (F0 m (pc + 3) ls (v :: rest))) : W p l e R s m args below meth c H locs cells slots Q (F0 m pc ls st0) := by
  intro T hT X
  obtain ⟨w, st₀, t, T', L, h0, X', hL, e1, ⟨hv, hh⟩, st⟩ := hr T hT X
  cases hv
  obtain ⟨t2, a1, b1⟩ := kk T' (by rw [e1, hh, h0]) (Stand.forget X' (fun q h => (hL q h).elim))
  exact ⟨t2, st t2 a1, b1⟩
theorem lc_goN {a : Array Value} (hr : CallRun p l e R s m args below meth c H locs cells slots 0 0 (F0 m pc ls st0) rest (Qn a) (fun _ => False))
    (kk : W p l e R s m args below meth c H locs cells slots Q (F0 m (pc + 3) ls rest)) : W p l e R s m args below meth c H locs cells slots Q (F0 m pc ls st0) := by
  intro T hT X
  obtain ⟨w, st₀, t, T', L, h0, X', hL, e1, ⟨hv, hh⟩, st⟩ := hr T hT X
  cases hv
  obtain ⟨t2, a1, b1⟩ := kk T' (by rw [e1, hh, h0]) (Stand.forget X' (fun q h => (hL q h).elim))
  exact ⟨t2, st t2 a1, b1⟩
theorem Pw_V (hK : va_K D vwCl tys s) (hP : va_P D vwCl ws H) (hc : vwCl[ci]? = some q) (he : ws[0]? = some (b, .inr (ci, fs))) : PreV s H q.1 b (Pw D tys ws (.ref b :: As)) As :=
  ⟨Pw_blind, va_recv hK hP hc he, fun U hU hW => ⟨rfl, by rw [hU]; exact hP, va_K.moved hW.alike hK⟩⟩
/-- an instance method that only reads -/
theorem rd_V (S : CallFix p m c cc nL s args lw_all own) (hM : Rd l y bytes maxL ret fr lo (Pw D tys ws (.ref b :: As)) v) (hG : GoodIn lw_all (wsV own index q.1 y (ws_ y bytes maxL ret)))
    (hd : y.cls = q.1 ∧ y.cls ≠ "java/lang/invoke/MethodHandle" ∧ y.cls ≠ "java/lang/invoke/VarHandle" ∧ (parseMethodDescriptor y.desc).map (fun d => d.parameters.length) = some n) (hR : fr + 1 ≤ R.frames ∧ 8 + (maxL + 11) + lo ≤ R.locals)
    (hK : va_K D vwCl tys s) (hP : va_P D vwCl ws H) (hc : vwCl[ci]? = some q) (he : ws[0]? = some (b, .inr (ci, fs))) (hn : As.length = n) (hsize : ls.size = nL) (hstack : st0 = As.reverse ++ .ref b :: rest) (hW : (rest.map fun v => v.category).sum ≤ 8)
    (hdg : decode cc pc = .ok (.invokevirtual index, 3)) (hf : cells ≤ R.cells ∧ slots ≤ R.slots)
    (kk : W p l e R s m args below meth c H locs cells slots Q (F0 m (pc + 3) ls (v :: rest))) : W p l e R s m args below meth c H locs cells slots Q (F0 m pc ls st0) :=
  lc_go (W.runV S hM (cwV n S.2.2.2.2 hG rfl rfl rfl hd hR) (Pw_V hK hP hc he) rfl hn hsize hstack (lv_room hW) hdg hf) kk
/-- .. without an answer -/
theorem rd_VN (S : CallFix p m c cc nL s args lw_all own) (hM : Rn l y bytes maxL ret fr lo (Pw D tys ws (.ref b :: As))) (hG : GoodIn lw_all (wsV own index q.1 y (ws_ y bytes maxL ret)))
    (hd : y.cls = q.1 ∧ y.cls ≠ "java/lang/invoke/MethodHandle" ∧ y.cls ≠ "java/lang/invoke/VarHandle" ∧ (parseMethodDescriptor y.desc).map (fun d => d.parameters.length) = some n) (hR : fr + 1 ≤ R.frames ∧ 8 + (maxL + 11) + lo ≤ R.locals)
    (hK : va_K D vwCl tys s) (hP : va_P D vwCl ws H) (hc : vwCl[ci]? = some q) (he : ws[0]? = some (b, .inr (ci, fs))) (hn : As.length = n) (hsize : ls.size = nL) (hstack : st0 = As.reverse ++ .ref b :: rest) (hW : (rest.map fun v => v.category).sum ≤ 8)
    (hdg : decode cc pc = .ok (.invokevirtual index, 3)) (hf : cells ≤ R.cells ∧ slots ≤ R.slots)
    (kk : W p l e R s m args below meth c H locs cells slots Q (F0 m (pc + 3) ls rest)) : W p l e R s m args below meth c H locs cells slots Q (F0 m pc ls st0) :=
  lc_goN (W.runV S hM (cwV n S.2.2.2.2 hG rfl rfl rfl hd hR) (Pw_V hK hP hc he) rfl hn hsize hstack (lv_room hW) hdg hf) kk
/-- a static method that asks nothing but its arguments -/
theorem rd_S (S : CallFix p m c cc nL s args lw_all own) (hM : Rd l y bytes maxL ret fr lo (Pn As) v) (hG : GoodIn lw_all (va_wsS own index y (ws_ y bytes maxL ret)))
    (hd : y.cls ≠ "java/lang/invoke/MethodHandle" ∧ y.cls ≠ "java/lang/invoke/VarHandle" ∧ (parseMethodDescriptor y.desc).map (fun d => d.parameters.length) = some n) (hR : fr + 1 ≤ R.frames ∧ 8 + (maxL + 11) + lo ≤ R.locals)
    (hn : As.length = n) (hsize : ls.size = nL) (hstack : st0 = As.reverse ++ rest) (hW : (rest.map fun v => v.category).sum ≤ 8)
    (hdg : decode cc pc = .ok (.invokestatic index, 3)) (hf : cells ≤ R.cells ∧ slots ≤ R.slots)
    (kk : W p l e R s m args below meth c H locs cells slots Q (F0 m (pc + 3) ls (v :: rest))) : W p l e R s m args below meth c H locs cells slots Q (F0 m pc ls st0) :=
  lc_go (W.runS S hM (va_cwS n S.2.2.2.2 hG rfl rfl rfl hd hR) ⟨Pn_blind, fun _ _ _ => rfl⟩ rfl hn hsize hstack (lv_room hW) hdg hf) kk
/-- behind a run that may have written -/
theorem va_S.step {A0 A1 : Nat → Prop} {H0 H : Heap} {locs L : List Loc} {st t : State} (hS : va_S A0 H0 H locs) (h0 : st.heap = H) (hF : va_F A1 st t) (hA : ∀ q, A1 q → A0 q) (hL : ∀ q ∈ L, A1 q.base) : va_S A0 H0 t.heap (locs ++ L) := by
  obtain ⟨z, k⟩ := hF
  rw [h0] at z k
  refine ⟨Nat.le_trans hS.1 z, fun q h1 h2 => ?_, fun q hq => ?_⟩
  · rw [k q (Nat.lt_of_lt_of_le h1 hS.1) (fun h => h2 (hA q h))]
    exact hS.2.1 q h1 h2
  · rcases List.mem_append.mp hq with h | h
    · exact hS.2.2 q h
    · exact hA _ (hL q h)
theorem wr_go {ws' : va_W} {A0 : Nat → Prop} {H0 : Heap} {rv : Option Value} {a : Array Value} (hr : va_Run p l e R s m args below meth c H locs cells slots 0 0 (F0 m pc ls st0) rest (Qx D ws' A rv a) A) (hS : va_S A0 H0 H locs) (hA : ∀ q, A q → A0 q)
    (kk : ∀ (H1 : Heap) (locs1 : List Loc), va_P D vwCl ws' H1 → va_S A0 H0 H1 locs1 → H.size ≤ H1.size → (∀ q : Nat, q < H.size → ¬ A q → H1[q]? = H[q]?) → W p l e R s m args below meth c H1 locs1 cells slots Q (F0 m (pc + 3) ls (rv.toList ++ rest))) : W p l e R s m args below meth c H locs cells slots Q (F0 m pc ls st0) := by
  intro T hT X
  obtain ⟨w, st₀, t, T', L, h0, X', hL, e1, e2, ⟨hv, hp, hF⟩, st⟩ := hr T hT X
  cases hv
  obtain ⟨t2, a1, b1⟩ := kk t.heap (locs ++ L) hp (hS.step h0 hF hA hL) (by rw [← h0]; exact hF.1) (by rw [← h0]; exact hF.2) T' e1 X'
  exact ⟨t2, st t2 a1, b1⟩
/-- an instance method that writes its own world alone -/
theorem wr_V {ws' : va_W} {A0 : Nat → Prop} {H0 : Heap} {rv : Option Value} (S : CallFix p m c cc nL s args lw_all own) (hM : Wr l y bytes maxL ret fr lo (Pw D tys ws (.ref b :: As)) D ws' A rv) (hG : GoodIn lw_all (wsV own index q.1 y (ws_ y bytes maxL ret)))
    (hd : y.cls = q.1 ∧ y.cls ≠ "java/lang/invoke/MethodHandle" ∧ y.cls ≠ "java/lang/invoke/VarHandle" ∧ (parseMethodDescriptor y.desc).map (fun d => d.parameters.length) = some n) (hR : fr + 1 ≤ R.frames ∧ 8 + (maxL + 11) + lo ≤ R.locals)
    (hK : va_K D vwCl tys s) (hP : va_P D vwCl ws H) (hc : vwCl[ci]? = some q) (he : ws[0]? = some (b, .inr (ci, fs))) (hn : As.length = n) (hsize : ls.size = nL) (hstack : st0 = As.reverse ++ .ref b :: rest) (hW : (rest.map fun v => v.category).sum ≤ 8)
    (hdg : decode cc pc = .ok (.invokevirtual index, 3)) (hf : cells ≤ R.cells ∧ slots ≤ R.slots) (hS : va_S A0 H0 H locs) (hA : ∀ q, A q → A0 q)
    (kk : ∀ (H1 : Heap) (locs1 : List Loc), va_P D vwCl ws' H1 → va_S A0 H0 H1 locs1 → H.size ≤ H1.size → (∀ q : Nat, q < H.size → ¬ A q → H1[q]? = H[q]?) → W p l e R s m args below meth c H1 locs1 cells slots Q (F0 m (pc + 3) ls (rv.toList ++ rest))) : W p l e R s m args below meth c H locs cells slots Q (F0 m pc ls st0) :=
  wr_go (va_runV S hM (cwV n S.2.2.2.2 hG rfl rfl rfl hd hR) (Pw_V hK hP hc he) rfl hn hsize hstack (lv_room hW) hdg hf) hS hA kk
/-! throws -/
theorem Pt_V {A0 : Nat → Prop} (hK : va_K D vwCl tys s) (hP : va_P D vwCl ws H) (hT : ThA A0 s) (hS : va_S A0 s.heap H locs) (hc : vwCl[ci]? = some q) (he : ws[0]? = some (b, .inr (ci, fs))) : PreV s H q.1 b (Pt_ D tys ws (.ref b :: As)) As :=
  ⟨Pt_blind, va_recv hK hP hc he, fun U hU hW => ⟨rfl, by rw [hU]; exact hP, va_K.moved hW.alike hK, hT.to hW hU hS⟩⟩
/-- behind a run that has thrown -/
theorem tx_end {a : Array Value} (hr : vx_Run p l e R s m args below meth c s.heap [] 0 0 1 6 (F0 m pc ls st0) rest (Qf a) (XE E) (fun _ => False)) (ht : ∀ x ∈ c.exceptionTable.toList, False) (hlocks : meth.locks = false) :
    W p l e R s m args below meth c s.heap [] 0 0 (vx_MQ below Qf (XE E) args s 1 6 (fun _ => False)) (F0 m pc ls st0) := by
  intro T hT X
  rcases hr T hT X with ⟨w, st₀, t, T', L, h0, X', hL, e1, e2, hq, st⟩ | ⟨q9, st₀, t, T', L, E', ce, h0, X', hL, e1, e2, ⟨hE, hF⟩, hce, hcv, hcl, st⟩
  · exact hq.elim
  · subst hE
    have hF' : va_F (fun _ => False) s t := ⟨by rw [← h0]; exact hF.1, by rw [← h0]; exact hF.2⟩
    obtain ⟨t2, a1, b1⟩ := vx_out (p := p) (l := l) (e := e) (R := R) (s := s) (m := m) (args := args) (below := below) (meth := meth) (c := c) (H := t.heap) (locs := [] ++ L) (cells := 0 + 1) (slots := 0 + 6) (ls := ls) (rest := rest) (pc := pc) (Qc := Qf) (XC := XE E') (free := fun _ => False) (mc := 1) (ms := 6) (fun x hx => (ht x hx).elim) hlocks hce hcv hcl (fun t' ht' _ => ⟨rfl, by
      refine ⟨by rw [ht']; exact hF'.1, fun q h1 h2 => by rw [ht']; exact hF'.2 q h1 h2⟩⟩) (fun z hz => hL z (by simpa using hz)) (Nat.le_refl _) (Nat.le_refl _) T' e1 X'
    exact ⟨t2, st.trans a1, b1⟩
/-- the call of a method that throws: it goes on to the caller -/
theorem tx_V (S : CallFix p m c cc nL s args lw_all own) (hM : Tx l y bytes maxL ret fr lo (Pt_ D tys ws (.ref b :: As)) E) (hG : GoodIn lw_all (wsV own index q.1 y (ws_ y bytes maxL ret)))
    (hd : y.cls = q.1 ∧ y.cls ≠ "java/lang/invoke/MethodHandle" ∧ y.cls ≠ "java/lang/invoke/VarHandle" ∧ (parseMethodDescriptor y.desc).map (fun d => d.parameters.length) = some n) (hR : fr + 1 ≤ R.frames ∧ 8 + (maxL + 11) + lo ≤ R.locals)
    (hK : va_K D vwCl tys s) (hP : va_P D vwCl ws s.heap) (hT : Thr s) (hc : vwCl[ci]? = some q) (he : ws[0]? = some (b, .inr (ci, fs))) (hn : As.length = n) (hsize : ls.size = nL) (hstack : st0 = As.reverse ++ .ref b :: rest) (hW : (rest.map fun v => v.category).sum ≤ 8)
    (hdg : decode cc pc = .ok (.invokevirtual index, 3)) (hf : 0 + 1 ≤ R.cells ∧ 0 + 6 ≤ R.slots) (ht : ∀ x ∈ c.exceptionTable.toList, False) (hlocks : meth.locks = false) :
    W p l e R s m args below meth c s.heap [] 0 0 (vx_MQ below Qf (XE E) args s 1 6 (fun _ => False)) (F0 m pc ls st0) :=
  tx_end (vx_runV S hM (cwV n S.2.2.2.2 hG rfl rfl rfl hd hR) (Pt_V hK hP hT va_S.rf hc he) rfl hn hsize hstack (lv_room hW) hdg hf) ht hlocks
/-- .. a static one -/
theorem tx_S (S : CallFix p m c cc nL s args lw_all own) (hM : Tx l y bytes maxL ret fr lo (Pnt As) E) (hG : GoodIn lw_all (va_wsS own index y (ws_ y bytes maxL ret)))
    (hd : y.cls ≠ "java/lang/invoke/MethodHandle" ∧ y.cls ≠ "java/lang/invoke/VarHandle" ∧ (parseMethodDescriptor y.desc).map (fun d => d.parameters.length) = some n) (hR : fr + 1 ≤ R.frames ∧ 8 + (maxL + 11) + lo ≤ R.locals)
    (hT : Thr s) (hn : As.length = n) (hsize : ls.size = nL) (hstack : st0 = As.reverse ++ rest) (hW : (rest.map fun v => v.category).sum ≤ 8)
    (hdg : decode cc pc = .ok (.invokestatic index, 3)) (hf : 0 + 1 ≤ R.cells ∧ 0 + 6 ≤ R.slots) (ht : ∀ x ∈ c.exceptionTable.toList, False) (hlocks : meth.locks = false) :
    W p l e R s m args below meth c s.heap [] 0 0 (vx_MQ below Qf (XE E) args s 1 6 (fun _ => False)) (F0 m pc ls st0) :=
  tx_end (vx_runS S hM (va_cwS n S.2.2.2.2 hG rfl rfl rfl hd hR) ⟨Pnt_blind, fun U hU hW => ⟨rfl, hT.to hW hU va_S.rf⟩⟩ rfl hn hsize hstack (lv_room hW) hdg hf) ht hlocks
/-- 'throw new E("text")' of the class: kd is the class's word number, ic its constructor's, is the text's -/
theorem tx_throw {cls text : String} {ik is ic : Nat} (hx : p.tables.exec = Jvm.exec) (hb : c.code = cc) (hl : l.stackTraces = false) (hown : s.vm.findClass RX0 = some m.cls) (hts : ∀ w ∈ lw_all, w.before args s = true) (hT : Thr s)
    (hcls : Bundle.fit cls = true) (hk : Cond.classLink RX0 ik cls ∈ lw_all) (hini : Cond.initialized cls ∈ lw_all) (hstr : (is, text) ∈ lw_strs)
    (hg1 : ∀ w ∈ (vx_atS RX0 ic cls ["java/lang/RuntimeException", "java/lang/Exception"]).filter goodWord, w ∈ lw_all) (hg2 : ∀ w ∈ (vx_atS RX0 ic cls ["java/lang/RuntimeException", "java/lang/Exception"]).filter (fun w => !goodWord w), w ∈ lw_face)
    (hgood : ∀ w ∈ Cond.classLink RX0 ik cls :: Cond.initialized cls :: vx_atS RX0 ic cls ["java/lang/RuntimeException", "java/lang/Exception"], vx_ot w = true) (hsize : ls.size = c.maxLocals)
    (d0 : decode cc pc = .ok (.new ik, 3)) (d3 : decode cc (pc + 3) = .ok (.dup, 1)) (d4 : decode cc (pc + 4) = .ok (.ldc is, 2)) (d6 : decode cc (pc + 6) = .ok (.invokespecial ic, 3)) (d9 : decode cc (pc + 9) = .ok (.athrow, 1))
    (ht : ∀ x ∈ c.exceptionTable.toList, False) (hRf : 6 ≤ R.frames) (hRl : (rest.map fun v => v.category).sum + 82 ≤ R.locals) (hRc : 1 ≤ R.cells) (hRs : 6 ≤ R.slots) (hlocks : meth.locks = false) :
    W p l e R s m args below meth c s.heap [] 0 0 (vx_MQ below Qf (XE cls) args s 1 6 (fun _ => False)) (F0 m pc ls rest) := by
  obtain ⟨sa, hsa⟩ := hT.2.2.2 _ hstr
  have hface : ∀ w ∈ lw_face, w.before args s = true := fun w hw => va_tabs (by have := (List.mem_filter.mp hw).2; simp only [Bool.and_eq_true] at this; exact this.1) rfl (hT.1 w hw)
  exact vx_throwS (A := fun _ => False) (free := fun _ => False) (names := ["java/lang/RuntimeException", "java/lang/Exception"]) hx hb hl hown hcls (by decide +kernel) (hts _ hk) (hts _ hini) hsa (vx_hat (B := lw_face) (fun w hw => hts w (hg1 w hw)) hg2 hface) hgood hT.2.1 hT.2.2.1 va_S.rf hsize d0 d3 d4 d6 d9 (fun x hx' => (ht x hx').elim) hRf hRl (by omega) (by omega) hlocks
    (fun t _ h1 h2 => ⟨rfl, h1, fun q hq _ => h2 q hq⟩) (fun z hz => absurd hz List.not_mem_nil) (by omega) (by omega)
end LCALL
end
section
/-! ===== rows over natural numbers: what stands on the stack is nI or lN of a number ===== -/
/-- a truth value as an int -/
def bI (b : Bool) : Int32 := if b then 1 else 0
theorem bI_t : bI true = 1 := rfl
theorem bI_f : bI false = 0 := rfl
theorem bI_nI (b : Bool) : bI b = nI (if b then 1 else 0) := by cases b <;> rfl
theorem bI_zero {b : Bool} : bI b = 0 ↔ b = false := by cases b <;> simp [bI]
theorem nar_z (b : Bool) : narrow .boolean (.int (bI b)) = .int (bI b) := by cases b <;> rfl
theorem nar_vz (b : Bool) : vp_nar .boolean (bI b) = bI b := by cases b <;> rfl
theorem bI_long (b : Bool) : (bI b).toInt64 = if b then 1 else 0 := by cases b <;> rfl
section NV
variable {p : Program} {l : Launch} {e : Env} {R : Room} {s : State} {m : MethodId} {args : Array Value} {below : List Frame} {meth : Method} {c : Code} {H : Heap} {locs : List Loc} {cells slots : Nat} {Q : State → Prop}
variable {cc : ByteArray} {pc : Nat} {ls : Array Slot} {rest : List Value}
/-- what stands on the stack is as well named otherwise -/
theorem nv_top {v v' : Value} (h : v = v') (k : W p l e R s m args below meth c H locs cells slots Q (F0 m pc ls (v' :: rest))) : W p l e R s m args below meth c H locs cells slots Q (F0 m pc ls (v :: rest)) := h ▸ k
theorem nv_topi {x x' : Int32} (h : x = x') (k : W p l e R s m args below meth c H locs cells slots Q (F0 m pc ls (.int x' :: rest))) : W p l e R s m args below meth c H locs cells slots Q (F0 m pc ls (.int x :: rest)) := h ▸ k
theorem nv_topl {x x' : Int64} (h : x = x') (k : W p l e R s m args below meth c H locs cells slots Q (F0 m pc ls (.long x' :: rest))) : W p l e R s m args below meth c H locs cells slots Q (F0 m pc ls (.long x :: rest)) := h ▸ k
theorem nv_iadd (hx : p.tables.exec = Jvm.exec) (hb : c.code = cc) {a b r : Nat} (hdg : decode cc pc = .ok (.iadd, 1)) (hr : a + b = r) (k : W p l e R s m args below meth c H locs cells slots Q (F0 m (pc + 1) ls (.int (nI r) :: rest))) : W p l e R s m args below meth c H locs cells slots Q (F0 m pc ls (.int (nI b) :: .int (nI a) :: rest)) :=
  lv_iadd hx hb hdg (by rw [nI_add, hr]; exact k)
theorem nv_isub (hx : p.tables.exec = Jvm.exec) (hb : c.code = cc) {a b r : Nat} (hdg : decode cc pc = .ok (.isub, 1)) (hr : b + r = a) (k : W p l e R s m args below meth c H locs cells slots Q (F0 m (pc + 1) ls (.int (nI r) :: rest))) : W p l e R s m args below meth c H locs cells slots Q (F0 m pc ls (.int (nI b) :: .int (nI a) :: rest)) :=
  lv_isub hx hb hdg (by rw [pk_sub (by omega), show a - b = r by omega]; exact k)
theorem nv_imul (hx : p.tables.exec = Jvm.exec) (hb : c.code = cc) {a b r : Nat} (hdg : decode cc pc = .ok (.imul, 1)) (hr : a * b = r) (k : W p l e R s m args below meth c H locs cells slots Q (F0 m (pc + 1) ls (.int (nI r) :: rest))) : W p l e R s m args below meth c H locs cells slots Q (F0 m pc ls (.int (nI b) :: .int (nI a) :: rest)) :=
  lv_imul hx hb hdg (by rw [pk_mul, hr]; exact k)
theorem nv_ladd (hx : p.tables.exec = Jvm.exec) (hb : c.code = cc) {a b r : Nat} (hdg : decode cc pc = .ok (.ladd, 1)) (hr : a + b = r) (k : W p l e R s m args below meth c H locs cells slots Q (F0 m (pc + 1) ls (.long (lN r) :: rest))) : W p l e R s m args below meth c H locs cells slots Q (F0 m pc ls (.long (lN b) :: .long (lN a) :: rest)) :=
  lv_ladd hx hb hdg (by rw [lN_add, hr]; exact k)
theorem nv_lmul (hx : p.tables.exec = Jvm.exec) (hb : c.code = cc) {a b r : Nat} (hdg : decode cc pc = .ok (.lmul, 1)) (hr : a * b = r) (k : W p l e R s m args below meth c H locs cells slots Q (F0 m (pc + 1) ls (.long (lN r) :: rest))) : W p l e R s m args below meth c H locs cells slots Q (F0 m pc ls (.long (lN b) :: .long (lN a) :: rest)) :=
  lv_lmul hx hb hdg (by rw [lN_mul, hr]; exact k)
theorem nv_ldiv (hx : p.tables.exec = Jvm.exec) (hb : c.code = cc) {a b r : Nat} (hdg : decode cc pc = .ok (.ldiv, 1)) (ha : a < 2 ^ 63) (h0 : 0 < b) (hb2 : b < 2 ^ 63) (hr : a / b = r) (k : W p l e R s m args below meth c H locs cells slots Q (F0 m (pc + 1) ls (.long (lN r) :: rest))) : W p l e R s m args below meth c H locs cells slots Q (F0 m pc ls (.long (lN b) :: .long (lN a) :: rest)) :=
  lv_ldiv hx hb hdg (fun h => by have h2 : lN b = lN 0 := h; rw [pk_lEQ hb2 (by omega)] at h2; omega) (by rw [pk_lDiv ha h0 hb2, hr]; exact k)
theorem nv_i2l (hx : p.tables.exec = Jvm.exec) (hb : c.code = cc) {a : Nat} (hdg : decode cc pc = .ok (.i2l, 1)) (ha : a < 2 ^ 31) (k : W p l e R s m args below meth c H locs cells slots Q (F0 m (pc + 1) ls (.long (lN a) :: rest))) : W p l e R s m args below meth c H locs cells slots Q (F0 m pc ls (.int (nI a) :: rest)) :=
  lv_i2l hx hb hdg (nI_l ha) k
theorem nv_l2i (hx : p.tables.exec = Jvm.exec) (hb : c.code = cc) {a : Nat} (hdg : decode cc pc = .ok (.l2i, 1)) (k : W p l e R s m args below meth c H locs cells slots Q (F0 m (pc + 1) ls (.int (nI a) :: rest))) : W p l e R s m args below meth c H locs cells slots Q (F0 m pc ls (.long (lN a) :: rest)) :=
  lv_l2i hx hb hdg (lN_i a) k
/-! compares of ints -/
theorem nv_icmp_ge (hx : p.tables.exec = Jvm.exec) (hb : c.code = cc) {a b : Nat} {off : Int} {tgt : Nat} (hdg : decode cc pc = .ok (.if_icmp .ge off, 3)) (ht : (pc : Int) + off = (tgt : Int)) (ha : a < 2 ^ 31) (hb2 : b < 2 ^ 31)
    (kt : b ≤ a → W p l e R s m args below meth c H locs cells slots Q (F0 m tgt ls rest)) (kf : a < b → W p l e R s m args below meth c H locs cells slots Q (F0 m (pc + 3) ls rest)) : W p l e R s m args below meth c H locs cells slots Q (F0 m pc ls (.int (nI b) :: .int (nI a) :: rest)) :=
  lv_icmp_ge hx hb hdg ht (fun h => kt ((nI_leI hb2 ha).mp h)) (fun h => kf (by rw [nI_leI hb2 ha] at h; omega))
theorem nv_icmp_lt (hx : p.tables.exec = Jvm.exec) (hb : c.code = cc) {a b : Nat} {off : Int} {tgt : Nat} (hdg : decode cc pc = .ok (.if_icmp .lt off, 3)) (ht : (pc : Int) + off = (tgt : Int)) (ha : a < 2 ^ 31) (hb2 : b < 2 ^ 31)
    (kt : a < b → W p l e R s m args below meth c H locs cells slots Q (F0 m tgt ls rest)) (kf : b ≤ a → W p l e R s m args below meth c H locs cells slots Q (F0 m (pc + 3) ls rest)) : W p l e R s m args below meth c H locs cells slots Q (F0 m pc ls (.int (nI b) :: .int (nI a) :: rest)) :=
  lv_icmp_lt hx hb hdg ht (fun h => kt ((nI_ltI ha hb2).mp h)) (fun h => kf (by rw [nI_ltI ha hb2] at h; omega))
theorem nv_icmp_le (hx : p.tables.exec = Jvm.exec) (hb : c.code = cc) {a b : Nat} {off : Int} {tgt : Nat} (hdg : decode cc pc = .ok (.if_icmp .le off, 3)) (ht : (pc : Int) + off = (tgt : Int)) (ha : a < 2 ^ 31) (hb2 : b < 2 ^ 31)
    (kt : a ≤ b → W p l e R s m args below meth c H locs cells slots Q (F0 m tgt ls rest)) (kf : b < a → W p l e R s m args below meth c H locs cells slots Q (F0 m (pc + 3) ls rest)) : W p l e R s m args below meth c H locs cells slots Q (F0 m pc ls (.int (nI b) :: .int (nI a) :: rest)) :=
  lv_icmp_le hx hb hdg ht (fun h => kt ((nI_leI ha hb2).mp h)) (fun h => kf (by rw [nI_leI ha hb2] at h; omega))
theorem nv_icmp_gt (hx : p.tables.exec = Jvm.exec) (hb : c.code = cc) {a b : Nat} {off : Int} {tgt : Nat} (hdg : decode cc pc = .ok (.if_icmp .gt off, 3)) (ht : (pc : Int) + off = (tgt : Int)) (ha : a < 2 ^ 31) (hb2 : b < 2 ^ 31)
    (kt : b < a → W p l e R s m args below meth c H locs cells slots Q (F0 m tgt ls rest)) (kf : a ≤ b → W p l e R s m args below meth c H locs cells slots Q (F0 m (pc + 3) ls rest)) : W p l e R s m args below meth c H locs cells slots Q (F0 m pc ls (.int (nI b) :: .int (nI a) :: rest)) :=
  lv_icmp_gt hx hb hdg ht (fun h => kt ((nI_ltI hb2 ha).mp h)) (fun h => kf (by rw [nI_ltI hb2 ha] at h; omega))
theorem nv_icmp_eq (hx : p.tables.exec = Jvm.exec) (hb : c.code = cc) {a b : Nat} {off : Int} {tgt : Nat} (hdg : decode cc pc = .ok (.if_icmp .eq off, 3)) (ht : (pc : Int) + off = (tgt : Int)) (ha : a < 2 ^ 31) (hb2 : b < 2 ^ 31)
    (kt : a = b → W p l e R s m args below meth c H locs cells slots Q (F0 m tgt ls rest)) (kf : a ≠ b → W p l e R s m args below meth c H locs cells slots Q (F0 m (pc + 3) ls rest)) : W p l e R s m args below meth c H locs cells slots Q (F0 m pc ls (.int (nI b) :: .int (nI a) :: rest)) :=
  lv_icmp_eq hx hb hdg ht (fun h => kt ((nI_eq ha hb2).mp h)) (fun h => kf (fun h2 => h ((nI_eq ha hb2).mpr h2)))
theorem nv_icmp_ne (hx : p.tables.exec = Jvm.exec) (hb : c.code = cc) {a b : Nat} {off : Int} {tgt : Nat} (hdg : decode cc pc = .ok (.if_icmp .ne off, 3)) (ht : (pc : Int) + off = (tgt : Int)) (ha : a < 2 ^ 31) (hb2 : b < 2 ^ 31)
    (kt : a ≠ b → W p l e R s m args below meth c H locs cells slots Q (F0 m tgt ls rest)) (kf : a = b → W p l e R s m args below meth c H locs cells slots Q (F0 m (pc + 3) ls rest)) : W p l e R s m args below meth c H locs cells slots Q (F0 m pc ls (.int (nI b) :: .int (nI a) :: rest)) :=
  lv_icmp_ne hx hb hdg ht (fun h => kt (fun h2 => h ((nI_eq ha hb2).mpr h2))) (fun h => kf ((nI_eq ha hb2).mp (h)))
theorem nv_if_eq (hx : p.tables.exec = Jvm.exec) (hb : c.code = cc) {a : Nat} {off : Int} {tgt : Nat} (hdg : decode cc pc = .ok (.ifCond .eq off, 3)) (ht : (pc : Int) + off = (tgt : Int)) (ha : a < 2 ^ 31)
    (kt : a = 0 → W p l e R s m args below meth c H locs cells slots Q (F0 m tgt ls rest)) (kf : 0 < a → W p l e R s m args below meth c H locs cells slots Q (F0 m (pc + 3) ls rest)) : W p l e R s m args below meth c H locs cells slots Q (F0 m pc ls (.int (nI a) :: rest)) :=
  lv_if_eq hx hb hdg ht (fun h => kt ((nI_eq ha (by omega)).mp (h.trans nI_0.symm))) (fun h => kf (by rcases Nat.eq_zero_or_pos a with z | z; exact absurd (by rw [z]; exact nI_0) h; exact z))
theorem nv_if_ne (hx : p.tables.exec = Jvm.exec) (hb : c.code = cc) {a : Nat} {off : Int} {tgt : Nat} (hdg : decode cc pc = .ok (.ifCond .ne off, 3)) (ht : (pc : Int) + off = (tgt : Int)) (ha : a < 2 ^ 31)
    (kt : 0 < a → W p l e R s m args below meth c H locs cells slots Q (F0 m tgt ls rest)) (kf : a = 0 → W p l e R s m args below meth c H locs cells slots Q (F0 m (pc + 3) ls rest)) : W p l e R s m args below meth c H locs cells slots Q (F0 m pc ls (.int (nI a) :: rest)) :=
  lv_if_ne hx hb hdg ht (fun h => kt (by rcases Nat.eq_zero_or_pos a with z | z; exact absurd (by rw [z]; exact nI_0) h; exact z)) (fun h => kf ((nI_eq ha (by omega)).mp (h.trans nI_0.symm)))
theorem nv_if_le (hx : p.tables.exec = Jvm.exec) (hb : c.code = cc) {a : Nat} {off : Int} {tgt : Nat} (hdg : decode cc pc = .ok (.ifCond .le off, 3)) (ht : (pc : Int) + off = (tgt : Int)) (ha : a < 2 ^ 31)
    (kt : a = 0 → W p l e R s m args below meth c H locs cells slots Q (F0 m tgt ls rest)) (kf : 0 < a → W p l e R s m args below meth c H locs cells slots Q (F0 m (pc + 3) ls rest)) : W p l e R s m args below meth c H locs cells slots Q (F0 m pc ls (.int (nI a) :: rest)) :=
  lv_if_le hx hb hdg ht (fun h => kt (by rcases Nat.eq_zero_or_pos a with z | z; exact z; exact absurd h (nI_nle z ha))) (fun h => kf (by rcases Nat.eq_zero_or_pos a with z | z; exact absurd (by rw [z, nI_0]; exact Int32.le_refl 0) h; exact z))
theorem nv_if_gt (hx : p.tables.exec = Jvm.exec) (hb : c.code = cc) {a : Nat} {off : Int} {tgt : Nat} (hdg : decode cc pc = .ok (.ifCond .gt off, 3)) (ht : (pc : Int) + off = (tgt : Int)) (ha : a < 2 ^ 31)
    (kt : 0 < a → W p l e R s m args below meth c H locs cells slots Q (F0 m tgt ls rest)) (kf : a = 0 → W p l e R s m args below meth c H locs cells slots Q (F0 m (pc + 3) ls rest)) : W p l e R s m args below meth c H locs cells slots Q (F0 m pc ls (.int (nI a) :: rest)) :=
  lv_if_gt hx hb hdg ht (fun h => kt (by rcases Nat.eq_zero_or_pos a with z | z; exact absurd h (by rw [z, nI_0]; decide); exact z)) (fun h => kf (by rcases Nat.eq_zero_or_pos a with z | z; exact z; exact absurd ((nI_ltI (by omega) ha).mpr z) (by rw [nI_0]; exact h)))
theorem nv_if_lt (hx : p.tables.exec = Jvm.exec) (hb : c.code = cc) {a : Nat} {off : Int} {tgt : Nat} (hdg : decode cc pc = .ok (.ifCond .lt off, 3)) (ht : (pc : Int) + off = (tgt : Int)) (ha : a < 2 ^ 31)
    (kf : W p l e R s m args below meth c H locs cells slots Q (F0 m (pc + 3) ls rest)) : W p l e R s m args below meth c H locs cells slots Q (F0 m pc ls (.int (nI a) :: rest)) :=
  lv_if_lt hx hb hdg ht (fun h => absurd h (nI_pos ha)) (fun _ => kf)
/-! truth values -/
theorem bv_if_eq (hx : p.tables.exec = Jvm.exec) (hb : c.code = cc) {b : Bool} {off : Int} {tgt : Nat} (hdg : decode cc pc = .ok (.ifCond .eq off, 3)) (ht : (pc : Int) + off = (tgt : Int))
    (kt : b = false → W p l e R s m args below meth c H locs cells slots Q (F0 m tgt ls rest)) (kf : b = true → W p l e R s m args below meth c H locs cells slots Q (F0 m (pc + 3) ls rest)) : W p l e R s m args below meth c H locs cells slots Q (F0 m pc ls (.int (bI b) :: rest)) :=
  lv_if_eq hx hb hdg ht (fun h => kt (bI_zero.mp h)) (fun h => kf (by cases b; exact absurd rfl h; rfl))
theorem bv_if_ne (hx : p.tables.exec = Jvm.exec) (hb : c.code = cc) {b : Bool} {off : Int} {tgt : Nat} (hdg : decode cc pc = .ok (.ifCond .ne off, 3)) (ht : (pc : Int) + off = (tgt : Int))
    (kt : b = true → W p l e R s m args below meth c H locs cells slots Q (F0 m tgt ls rest)) (kf : b = false → W p l e R s m args below meth c H locs cells slots Q (F0 m (pc + 3) ls rest)) : W p l e R s m args below meth c H locs cells slots Q (F0 m pc ls (.int (bI b) :: rest)) :=
  lv_if_ne hx hb hdg ht (fun h => kt (by cases b; exact absurd rfl h; rfl)) (fun h => kf (bI_zero.mp (h)))
/-! compares of longs: lcmp and the branch behind it -/
theorem nv_lc_le (hx : p.tables.exec = Jvm.exec) (hb : c.code = cc) {a b : Nat} {off : Int} {tgt : Nat} (h1 : decode cc pc = .ok (.lcmp, 1)) (hdg : decode cc (pc + 1) = .ok (.ifCond .le off, 3)) (ht : ((pc + 1 : Nat) : Int) + off = (tgt : Int)) (ha : a < 2 ^ 63) (hb2 : b < 2 ^ 63)
    (kt : a ≤ b → W p l e R s m args below meth c H locs cells slots Q (F0 m tgt ls rest)) (kf : b < a → W p l e R s m args below meth c H locs cells slots Q (F0 m (pc + 1 + 3) ls rest)) : W p l e R s m args below meth c H locs cells slots Q (F0 m pc ls (.long (lN b) :: .long (lN a) :: rest)) :=
  W.lcmp hx hb h1 (lv_if_le hx hb hdg ht (fun h => kt ((pk_lLE ha hb2).mp ((lg_cmp_le _ _).mp h))) (fun h => kf (by rw [lg_cmp_le, pk_lLE ha hb2] at h; omega)))
theorem nv_lc_gt (hx : p.tables.exec = Jvm.exec) (hb : c.code = cc) {a b : Nat} {off : Int} {tgt : Nat} (h1 : decode cc pc = .ok (.lcmp, 1)) (hdg : decode cc (pc + 1) = .ok (.ifCond .gt off, 3)) (ht : ((pc + 1 : Nat) : Int) + off = (tgt : Int)) (ha : a < 2 ^ 63) (hb2 : b < 2 ^ 63)
    (kt : b < a → W p l e R s m args below meth c H locs cells slots Q (F0 m tgt ls rest)) (kf : a ≤ b → W p l e R s m args below meth c H locs cells slots Q (F0 m (pc + 1 + 3) ls rest)) : W p l e R s m args below meth c H locs cells slots Q (F0 m pc ls (.long (lN b) :: .long (lN a) :: rest)) :=
  W.lcmp hx hb h1 (lv_if_gt hx hb hdg ht (fun h => kt ((pk_lLT hb2 ha).mp ((lg_cmp_gt _ _).mp h))) (fun h => kf (by rw [lg_cmp_gt, pk_lLT hb2 ha] at h; omega)))
theorem nv_lc_eq (hx : p.tables.exec = Jvm.exec) (hb : c.code = cc) {a b : Nat} {off : Int} {tgt : Nat} (h1 : decode cc pc = .ok (.lcmp, 1)) (hdg : decode cc (pc + 1) = .ok (.ifCond .eq off, 3)) (ht : ((pc + 1 : Nat) : Int) + off = (tgt : Int)) (ha : a < 2 ^ 63) (hb2 : b < 2 ^ 63)
    (kt : a = b → W p l e R s m args below meth c H locs cells slots Q (F0 m tgt ls rest)) (kf : a ≠ b → W p l e R s m args below meth c H locs cells slots Q (F0 m (pc + 1 + 3) ls rest)) : W p l e R s m args below meth c H locs cells slots Q (F0 m pc ls (.long (lN b) :: .long (lN a) :: rest)) :=
  W.lcmp hx hb h1 (lv_if_eq hx hb hdg ht (fun h => kt ((pk_lEQ ha hb2).mp ((lg_cmp_eq _ _).mp h))) (fun h => kf (by rw [lg_cmp_eq, pk_lEQ ha hb2] at h; exact h)))
theorem nv_lc_ne (hx : p.tables.exec = Jvm.exec) (hb : c.code = cc) {a b : Nat} {off : Int} {tgt : Nat} (h1 : decode cc pc = .ok (.lcmp, 1)) (hdg : decode cc (pc + 1) = .ok (.ifCond .ne off, 3)) (ht : ((pc + 1 : Nat) : Int) + off = (tgt : Int)) (ha : a < 2 ^ 63) (hb2 : b < 2 ^ 63)
    (kt : a ≠ b → W p l e R s m args below meth c H locs cells slots Q (F0 m tgt ls rest)) (kf : a = b → W p l e R s m args below meth c H locs cells slots Q (F0 m (pc + 1 + 3) ls rest)) : W p l e R s m args below meth c H locs cells slots Q (F0 m pc ls (.long (lN b) :: .long (lN a) :: rest)) :=
  W.lcmp hx hb h1 (lv_if_ne hx hb hdg ht (fun h => kt (by rw [lg_cmp_eq, pk_lEQ ha hb2] at h; exact h)) (fun h => kf ((pk_lEQ ha hb2).mp ((lg_cmp_eq _ _).mp (h)))))
/-! arrays: an index that is a number, what is read has a name -/
section NVA
variable {D : va_G} {cl : List vw_C} {tys : List (ClassId × FieldType)} {ws : va_W} {a : Nat} {A : Nat → Prop} {H0 : Heap}
theorem nv_iald (hx : p.tables.exec = Jvm.exec) (hb : c.code = cc) (hK : va_K D cl tys s) (hP : va_P D cl ws H) (q0 t0 : Nat) {cA : ClassId} {n j : Nat} {f : Nat → Int32} {v : Int32} (ha : ws[q0]? = some (a, .inl (cA, n, .inl f))) (ht : tys[t0]? = some (cA, .int)) (hj : j < n) (hn : n < 2 ^ 31) (hv : f j = v) (hdg : decode cc pc = .ok (.iaload, 1))
    (kk : W p l e R s m args below meth c H locs cells slots Q (F0 m (pc + 1) ls (.int v :: rest))) : W p l e R s m args below meth c H locs cells slots Q (F0 m pc ls (.int (nI j) :: .ref a :: rest)) :=
  va_iald hx hb hK hP q0 t0 ha ht (vp_in_nI hj hn) hdg (by rw [nI_clamp (by omega), hv]; exact kk)
theorem nv_zald (hx : p.tables.exec = Jvm.exec) (hb : c.code = cc) (hK : va_K D cl tys s) (hP : va_P D cl ws H) (q0 t0 : Nat) {cA : ClassId} {n j : Nat} {f : Nat → Int32} {v : Int32} (ha : ws[q0]? = some (a, .inl (cA, n, .inl f))) (ht : tys[t0]? = some (cA, .boolean)) (hj : j < n) (hn : n < 2 ^ 31) (hv : f j = v) (hdg : decode cc pc = .ok (.baload, 1))
    (kk : W p l e R s m args below meth c H locs cells slots Q (F0 m (pc + 1) ls (.int v :: rest))) : W p l e R s m args below meth c H locs cells slots Q (F0 m pc ls (.int (nI j) :: .ref a :: rest)) :=
  va_zald hx hb hK hP q0 t0 ha ht (vp_in_nI hj hn) hdg (by rw [nI_clamp (by omega), hv]; exact kk)
theorem nv_aald (hx : p.tables.exec = Jvm.exec) (hb : c.code = cc) (hK : va_K D cl tys s) (hP : va_P D cl ws H) (q0 t0 : Nat) {cA : ClassId} {t : FieldType} {n j r : Nat} {f : Nat → Option Nat} (ha : ws[q0]? = some (a, .inl (cA, n, .inr (.inr (.inr (.inr f)))))) (ht : tys[t0]? = some (cA, .array t)) (hj : j < n) (hn : n < 2 ^ 31) (hv : f j = some r) (hdg : decode cc pc = .ok (.aaload, 1))
    (kk : W p l e R s m args below meth c H locs cells slots Q (F0 m (pc + 1) ls (.ref r :: rest))) : W p l e R s m args below meth c H locs cells slots Q (F0 m pc ls (.int (nI j) :: .ref a :: rest)) := by
  have hin : vp_in (nI j) n := vp_in_nI hj hn
  have hc : (nI j).toNatClampNeg = j := nI_clamp (by omega)
  refine W.aald (v := .ref r) (ty := .array t) hx hb (hP q0 _ ha) ((hK.2 t0 _ ht).1 n (fun j => va_rf (f j))) rfl (fun q => by cases q) (by show ¬ (nI j < 0 ∨ (arrV _ _ _).slots.size ≤ _); rw [arrV_size]; exact hin) (by show (arrV _ _ _).slots[_]? = _; rw [arrV_read _ _ (by rw [hc]; exact hj), hc]; simp only [hv]; rfl) rfl rfl hdg kk
end NVA
end NV
end
section
/-! ===== the ladder as numbers: (coins, schools, tosses), tenths, odds, shares (school, coin), tosses (heads?) ===== -/
abbrev VS : Type := (Nat × Nat × Nat) × (Nat → Nat) × (Nat → Nat) × (Nat → Nat → Nat) × (Nat → Bool)
def vs_c (v : VS) : Nat := v.1.1
def vs_n (v : VS) : Nat := v.1.2.1
def vs_t (v : VS) : Nat := v.1.2.2
def vs_ct (v : VS) : Nat → Nat := v.2.1
def vs_so (v : VS) : Nat → Nat := v.2.2.1
def vs_sh (v : VS) : Nat → Nat → Nat := v.2.2.2.1
def vs_th (v : VS) : Nat → Bool := v.2.2.2.2
def ok_v (v : VS) : Prop := vs_c v ≤ 8 ∧ vs_n v ≤ 4 ∧ vs_t v ≤ 12 ∧ (∀ c, vs_ct v c ≤ 10) ∧ (∀ s, vs_so v s ≤ 9) ∧ (∀ s c, vs_sh v s c ≤ 9)
/-- a sum -/
def sm_ (f : Nat → Nat) : Nat → Nat
  | 0 => 0
  | n + 1 => sm_ f n + f n
/-- how many of the first are heads -/
def hd_ (f : Nat → Bool) : Nat → Nat
  | 0 => 0
  | n + 1 => hd_ f n + (if f n then 1 else 0)
def lk_ (v : VS) (c a b : Nat) : Nat := vs_ct v c ^ a * (10 - vs_ct v c) ^ b
def sw_ (v : VS) (s c : Nat) : Nat := vs_so v s * vs_sh v s c
def gv_ (v : VS) (c : Nat) : Nat := sm_ (fun s => sw_ v s c) (vs_n v)
/-- the weight of a coin behind a heads and b tails -/
def wt_ (v : VS) (c a b : Nat) : Nat := gv_ v c * lk_ v c a b
/-- the whole weight -/
def wl_ (v : VS) (a b : Nat) : Nat := sm_ (fun c => wt_ v c a b) (vs_c v)
def pr_ (v : VS) (s c a b : Nat) : Nat := sw_ v s c * lk_ v c a b
def sc_ (v : VS) (s a b : Nat) : Nat := sm_ (fun c => pr_ v s c a b) (vs_c v)
def ch_ (v : VS) (h : Bool) (a b : Nat) : Nat := if h then wl_ v (a + 1) b else wl_ v a (b + 1)
/-- the leading coin among the first -/
def ld_ (v : VS) (a b : Nat) : Nat → Nat
  | 0 => 0
  | n + 1 => if wt_ v (ld_ v a b n) a b < wt_ v n a b then n else ld_ v a b n
/-- doublings -/
def sd_ (d L : Nat) : Nat → Nat
  | 0 => 0
  | f + 1 => if d ≤ L then sd_ (2 * d) L f + 1 else 0
def su_ (v : VS) (h : Bool) (a b : Nat) : Nat := sd_ (2 * ch_ v h a b) (10 * wl_ v a b) 60
def hh_ (v : VS) : Nat := hd_ (vs_th v) (vs_t v)
def tt_ (v : VS) : Nat := vs_t v - hh_ v
/-- the surprise of a noted toss -/
def sa_ (v : VS) (t : Nat) : Nat := su_ v (vs_th v t) (hd_ (vs_th v) t) (t - hd_ (vs_th v) t)
def as_ (v : VS) : Nat := sm_ (sa_ v) (vs_t v)
def gs_ (v : VS) : Nat → Nat
  | 0 => 0
  | n + 1 => if sa_ v (gs_ v n) < sa_ v n then n else gs_ v n
def la_ (v : VS) (a b : Nat) : Int32 := if wl_ v a b = 0 then -1 else nI (ld_ v a b (vs_c v))
def fi_ (v : VS) (c a b : Nat) : Bool := decide (0 < wt_ v c a b) && decide (ld_ v a b (vs_c v) = c)
def tp_ (v : VS) (c k : Nat) : Bool := fi_ v c (hh_ v + k) (tt_ v) || fi_ v c (hh_ v) (tt_ v + k)
def sr_ (P : Nat → Bool) : Nat → Nat → Int32
  | 0, _ => -1
  | n + 1, i => if P i then nI i else sr_ P n (i + 1)
def tl_ (v : VS) (c : Nat) : Int32 := sr_ (tp_ v c) (13 - vs_t v) 0
/-- the leader without the toss t -/
def lw_ (v : VS) (t : Nat) : Nat := if vs_th v t then ld_ v (hh_ v - 1) (tt_ v) (vs_c v) else ld_ v (hh_ v) (tt_ v - 1) (vs_c v)
def dc_ (v : VS) : Nat := sm_ (fun t => if lw_ v t = ld_ v (hh_ v) (tt_ v) (vs_c v) then 0 else 1) (vs_t v)
def go_ (v : VS) : Nat := sm_ (fun c => if wt_ v c (hh_ v) (tt_ v) = 0 then 1 else 0) (vs_c v)
/-- the leading school among the first -/
def lsc_ (v : VS) (a b : Nat) : Nat → Nat
  | 0 => 0
  | n + 1 => if sc_ v (lsc_ v a b n) a b < sc_ v n a b then n else lsc_ v a b n
/-! the digest -/
def dg_ (d x : Int64) : Int64 := d * 31 + x
def dC_ (v : VS) (d : Int64) : Nat → Int64
  | 0 => d
  | n + 1 => dg_ (dg_ (dg_ (dC_ v d n) (lN (vs_ct v n))) (lN (wt_ v n (hh_ v) (tt_ v)))) (tl_ v n).toInt64
def dI_ (v : VS) (s : Nat) (d : Int64) : Nat → Int64
  | 0 => d
  | n + 1 => dg_ (dI_ v s d n) (lN (vs_sh v s n))
def dS_ (v : VS) (d : Int64) : Nat → Int64
  | 0 => d
  | n + 1 => dI_ v n (dg_ (dg_ (dS_ v d n) (lN (vs_so v n))) (lN (sc_ v n (hh_ v) (tt_ v)))) (vs_c v)
def dT_ (v : VS) (d : Int64) : Nat → Int64
  | 0 => d
  | n + 1 => dg_ (dg_ (dT_ v d n) (lN (if vs_th v n then 1 else 0))) (lN (sa_ v n))
def dH_ (v : VS) : Int64 := dg_ (dg_ (dg_ (dg_ (dg_ (dg_ (dg_ (dg_ 1913 (lN (vs_c v))) (lN (vs_n v))) (lN (vs_t v))) (lN (hh_ v))) (lN (wl_ v (hh_ v) (tt_ v)))) (lN (go_ v))) (lN (as_ v))) (lN (dc_ v))
def di_ (v : VS) : Int64 := dT_ v (dS_ v (dC_ v (dH_ v) (vs_c v)) (vs_n v)) (vs_t v)
/-! ===== facts ===== -/
theorem hd_le (f : Nat → Bool) : ∀ n, hd_ f n ≤ n
  | 0 => Nat.le_refl 0
  | n + 1 => by
    have := hd_le f n
    simp only [hd_]
    split <;> omega
theorem hd_mono (f : Nat → Bool) : ∀ n k, hd_ f n ≤ hd_ f (n + k)
  | _, 0 => Nat.le_refl _
  | n, k + 1 => by
    have := hd_mono f n k
    show hd_ f n ≤ hd_ f (n + k) + _
    omega
theorem hd_tmono (f : Nat → Bool) : ∀ n k, n - hd_ f n ≤ (n + k) - hd_ f (n + k)
  | n, 0 => Nat.le_refl _
  | n, k + 1 => by
    have h := hd_tmono f n k
    have h2 := hd_le f (n + k)
    show n - hd_ f n ≤ (n + k + 1) - (hd_ f (n + k) + _)
    split <;> omega
theorem hh_le (v : VS) : hh_ v ≤ vs_t v := hd_le _ _
theorem hh_tt (v : VS) : hh_ v + tt_ v = vs_t v := by have := hh_le v; unfold tt_; omega
theorem sm_le {f : Nat → Nat} {B : Nat} (h : ∀ i, f i ≤ B) : ∀ n, sm_ f n ≤ n * B
  | 0 => by simp [sm_]
  | n + 1 => by
    have h1 := sm_le h n
    have h2 := h n
    simp only [sm_, Nat.succ_mul]
    omega
theorem sm_congr {f g : Nat → Nat} : ∀ n, (∀ i, i < n → f i = g i) → sm_ f n = sm_ g n
  | 0, _ => rfl
  | n + 1, h => by simp only [sm_]; rw [sm_congr n (fun i hi => h i (by omega)), h n (by omega)]
theorem sm_le1 {f : Nat → Nat} : ∀ n i, i < n → f i ≤ sm_ f n
  | n + 1, i, h => by
    simp only [sm_]
    rcases Nat.lt_or_ge i n with q | q
    · have := sm_le1 (f := f) n i q; omega
    · have : i = n := by omega
      subst this; omega
theorem sm_pos {f : Nat → Nat} : ∀ n, 0 < sm_ f n → ∃ i, i < n ∧ 0 < f i
  | 0, h => absurd h (by simp [sm_])
  | n + 1, h => by
    rcases Nat.eq_zero_or_pos (f n) with q | q
    · simp only [sm_, q] at h
      obtain ⟨i, h1, h2⟩ := sm_pos n h
      exact ⟨i, by omega, h2⟩
    · exact ⟨n, by omega, q⟩
theorem sm_zero {f : Nat → Nat} {n : Nat} (h : sm_ f n = 0) {i : Nat} (hi : i < n) : f i = 0 := by
  have := sm_le1 (f := f) n i hi
  omega
theorem sm_add (f g : Nat → Nat) : ∀ n, sm_ f n + sm_ g n = sm_ (fun i => f i + g i) n
  | 0 => rfl
  | n + 1 => by simp only [sm_]; rw [← sm_add f g n]; omega
theorem sm_mul (f : Nat → Nat) (k : Nat) : ∀ n, k * sm_ f n = sm_ (fun i => k * f i) n
  | 0 => rfl
  | n + 1 => by simp only [sm_]; rw [← sm_mul f k n, Nat.mul_add]
theorem pow_le10 {x : Nat} (h : x ≤ 10) (n : Nat) : x ^ n ≤ 10 ^ n := Nat.pow_le_pow_left h n
theorem lk_le {v : VS} (hv : ok_v v) (c a b : Nat) : lk_ v c a b ≤ 10 ^ (a + b) := by
  rw [Nat.pow_add]
  exact Nat.mul_le_mul (pow_le10 (hv.2.2.2.1 c) a) (pow_le10 (by omega) b)
theorem sw_le {v : VS} (hv : ok_v v) (s c : Nat) : sw_ v s c ≤ 81 := by
  have h1 := hv.2.2.2.2.1 s
  have h2 := hv.2.2.2.2.2 s c
  exact Nat.le_trans (Nat.mul_le_mul h1 h2) (by decide)
theorem gv_le {v : VS} (hv : ok_v v) (c : Nat) : gv_ v c ≤ 324 := by
  have h1 := sm_le (f := fun s => sw_ v s c) (B := 81) (fun s => sw_le hv s c) (vs_n v)
  have h2 := hv.2.1
  unfold gv_
  omega
theorem wt_le {v : VS} (hv : ok_v v) (c a b : Nat) : wt_ v c a b ≤ 324 * 10 ^ (a + b) := Nat.mul_le_mul (gv_le hv c) (lk_le hv c a b)
theorem wl_le {v : VS} (hv : ok_v v) (a b : Nat) : wl_ v a b ≤ 2592 * 10 ^ (a + b) := by
  have h1 := sm_le (f := fun c => wt_ v c a b) (B := 324 * 10 ^ (a + b)) (fun c => wt_le hv c a b) (vs_c v)
  have h2 : vs_c v * (324 * 10 ^ (a + b)) ≤ 8 * (324 * 10 ^ (a + b)) := Nat.mul_le_mul_right _ hv.1
  unfold wl_
  omega
theorem pr_le {v : VS} (hv : ok_v v) (s c a b : Nat) : pr_ v s c a b ≤ 81 * 10 ^ (a + b) := Nat.mul_le_mul (sw_le hv s c) (lk_le hv c a b)
theorem sc_le {v : VS} (hv : ok_v v) (s a b : Nat) : sc_ v s a b ≤ 648 * 10 ^ (a + b) := by
  have h1 := sm_le (f := fun c => pr_ v s c a b) (B := 81 * 10 ^ (a + b)) (fun c => pr_le hv s c a b) (vs_c v)
  have h2 : vs_c v * (81 * 10 ^ (a + b)) ≤ 8 * (81 * 10 ^ (a + b)) := Nat.mul_le_mul_right _ hv.1
  unfold sc_
  omega
theorem p10_le {n : Nat} (h : n ≤ 13) : 10 ^ n ≤ 10000000000000 := Nat.le_trans (Nat.pow_le_pow_right (by decide) h) (by decide)
theorem p10_le12 {n : Nat} (h : n ≤ 12) : 10 ^ n ≤ 1000000000000 := Nat.le_trans (Nat.pow_le_pow_right (by decide) h) (by decide)
theorem wt_b {v : VS} (hv : ok_v v) (c : Nat) {a b : Nat} (h : a + b ≤ 13) : wt_ v c a b ≤ 3240000000000000 := by have h1 := wt_le hv c a b; have h2 := p10_le h; omega
theorem wl_b {v : VS} (hv : ok_v v) {a b : Nat} (h : a + b ≤ 13) : wl_ v a b ≤ 25920000000000000 := by have h1 := wl_le hv a b; have h2 := p10_le h; omega
theorem wl_b12 {v : VS} (hv : ok_v v) {a b : Nat} (h : a + b ≤ 12) : wl_ v a b ≤ 2592000000000000 := by have h1 := wl_le hv a b; have h2 := p10_le12 h; omega
theorem sc_b {v : VS} (hv : ok_v v) (s : Nat) {a b : Nat} (h : a + b ≤ 13) : sc_ v s a b ≤ 6480000000000000 := by have h1 := sc_le hv s a b; have h2 := p10_le h; omega
theorem ch_b {v : VS} (hv : ok_v v) (h : Bool) {a b : Nat} (hab : a + b ≤ 12) : ch_ v h a b ≤ 25920000000000000 := by
  unfold ch_
  split
  · exact wl_b hv (by omega)
  · exact wl_b hv (by omega)
theorem wt_up (v : VS) (c a b : Nat) : wt_ v c (a + 1) b = wt_ v c a b * vs_ct v c := by
  unfold wt_ lk_
  rw [Nat.pow_succ]
  simp only [Nat.mul_assoc, Nat.mul_comm, Nat.mul_left_comm]
theorem wt_dn (v : VS) (c a b : Nat) : wt_ v c a (b + 1) = wt_ v c a b * (10 - vs_ct v c) := by
  unfold wt_ lk_
  rw [Nat.pow_succ]
  simp only [Nat.mul_assoc]
/-- the chance, coin by coin -/
theorem ch_sum (v : VS) (h : Bool) (a b : Nat) : sm_ (fun c => wt_ v c a b * (if h then vs_ct v c else 10 - vs_ct v c)) (vs_c v) = ch_ v h a b := by
  unfold ch_
  cases h
  · exact sm_congr _ (fun c _ => (wt_dn v c a b).symm)
  · exact sm_congr _ (fun c _ => (wt_up v c a b).symm)
theorem ch_both {v : VS} (hv : ok_v v) (a b : Nat) : ch_ v true a b + ch_ v false a b = 10 * wl_ v a b := by
  rw [← ch_sum, ← ch_sum, sm_add]
  unfold wl_
  rw [sm_mul]
  refine sm_congr _ (fun c _ => ?_)
  have h := hv.2.2.2.1 c
  show wt_ v c a b * vs_ct v c + wt_ v c a b * (10 - vs_ct v c) = 10 * wt_ v c a b
  rw [← Nat.mul_add, show vs_ct v c + (10 - vs_ct v c) = 10 by omega, Nat.mul_comm]
/-! fewer tosses, no smaller support -/
theorem wt_pos_up {v : VS} {c a b : Nat} (h : 0 < wt_ v c (a + 1) b) : 0 < wt_ v c a b := by
  rw [wt_up] at h
  exact Nat.pos_of_mul_pos_right h
theorem wt_pos_dn {v : VS} {c a b : Nat} (h : 0 < wt_ v c a (b + 1)) : 0 < wt_ v c a b := by
  rw [wt_dn] at h
  exact Nat.pos_of_mul_pos_right h
theorem wl_pos {v : VS} {a b : Nat} : 0 < wl_ v a b ↔ ∃ c, c < vs_c v ∧ 0 < wt_ v c a b := by
  constructor
  · exact fun h => sm_pos _ h
  · rintro ⟨c, h1, h2⟩
    exact Nat.lt_of_lt_of_le h2 (sm_le1 (f := fun c => wt_ v c a b) _ c h1)
theorem wl_pos_up {v : VS} {a b : Nat} (h : 0 < wl_ v (a + 1) b) : 0 < wl_ v a b := by
  obtain ⟨c, h1, h2⟩ := wl_pos.mp h
  exact wl_pos.mpr ⟨c, h1, wt_pos_up h2⟩
theorem wl_pos_dn {v : VS} {a b : Nat} (h : 0 < wl_ v a (b + 1)) : 0 < wl_ v a b := by
  obtain ⟨c, h1, h2⟩ := wl_pos.mp h
  exact wl_pos.mpr ⟨c, h1, wt_pos_dn h2⟩
theorem wl_pos_le {v : VS} {a b : Nat} : ∀ i j, 0 < wl_ v (a + i) (b + j) → 0 < wl_ v a b
  | 0, 0, h => h
  | i + 1, j, h => wl_pos_le i j (wl_pos_up (a := a + i) h)
  | 0, j + 1, h => wl_pos_le 0 j (wl_pos_dn (b := b + j) h)
theorem wl_pos_of_le {v : VS} {a b a' b' : Nat} (ha : a ≤ a') (hb : b ≤ b') (h : 0 < wl_ v a' b') : 0 < wl_ v a b :=
  wl_pos_le (a' - a) (b' - b) (by rw [show a + (a' - a) = a' by omega, show b + (b' - b) = b' by omega]; exact h)
/-! the leader -/
theorem ld_lt (v : VS) (a b : Nat) : ∀ n, 0 < n → ld_ v a b n < n
  | n + 1, _ => by
    simp only [ld_]
    split
    · omega
    · rcases Nat.eq_zero_or_pos n with q | q
      · subst q; simp [ld_]
      · have := ld_lt v a b n q; omega
theorem ld_max (v : VS) (a b : Nat) : ∀ n i, i < n → wt_ v i a b ≤ wt_ v (ld_ v a b n) a b
  | n + 1, i, h => by
    simp only [ld_]
    rcases Nat.lt_or_ge i n with q | q
    · have h1 := ld_max v a b n i q
      split
      · omega
      · exact h1
    · have e : i = n := by omega
      subst e
      split
      · exact Nat.le_refl _
      · omega
theorem ld_pos {v : VS} {a b : Nat} (h : 0 < wl_ v a b) : 0 < wt_ v (ld_ v a b (vs_c v)) a b := by
  obtain ⟨c, h1, h2⟩ := wl_pos.mp h
  have := ld_max v a b _ c h1
  omega
theorem ld_posc {v : VS} {a b : Nat} (h : 0 < wl_ v a b) : ld_ v a b (vs_c v) < vs_c v := by
  obtain ⟨c, h1, h2⟩ := wl_pos.mp h
  exact ld_lt v a b _ (by omega)
theorem la_eq (v : VS) {a b c : Nat} (hv : ok_v v) (hc : c < vs_c v) : (la_ v a b = nI c) ↔ fi_ v c a b = true := by
  have hc8 := hv.1
  unfold la_ fi_
  simp only [Bool.and_eq_true, decide_eq_true_eq]
  split
  · rename_i h0
    constructor
    · intro h
      exact absurd h (by
        have : nI c ≠ -1 := by
          intro h
          have h2 := congrArg Int32.toInt h
          rw [nI_toInt (by omega)] at h2
          have h3 : (-1 : Int32).toInt = -1 := by decide
          omega
        exact fun z => this z.symm)
    · rintro ⟨h1, -⟩
      exact absurd (sm_zero h0 hc) (by omega)
  · rename_i h0
    have hp : 0 < wl_ v a b := by omega
    have hl := ld_posc hp
    rw [nI_eq (by omega) (by omega)]
    constructor
    · intro h
      exact ⟨by rw [← h]; exact ld_pos hp, h⟩
    · exact fun h => h.2
/-! doublings -/
theorem sd_le (d L : Nat) : ∀ f, sd_ d L f ≤ f
  | 0 => Nat.le_refl 0
  | f + 1 => by
    simp only [sd_]
    split
    · have := sd_le (2 * d) L f; omega
    · omega
theorem sd_stop {d L : Nat} (h : L < d) (f : Nat) : sd_ d L f = 0 := by
  cases f with
  | zero => rfl
  | succ f => simp only [sd_]; rw [if_neg (by omega)]
/-- more fuel says the same, where the number grows beyond the limit -/
theorem sd_fuel : ∀ (f g d L : Nat), L < 2 ^ f * d → sd_ d L (f + g) = sd_ d L f
  | 0, g, d, L, h => by
    rw [Nat.zero_add, sd_stop (by simpa using h)]
    rfl
  | f + 1, g, d, L, h => by
    rw [show f + 1 + g = (f + g) + 1 by omega]
    simp only [sd_]
    split
    · rw [sd_fuel f g (2 * d) L (by rw [Nat.pow_succ] at h; rw [show 2 ^ f * (2 * d) = 2 ^ f * 2 * d by rw [Nat.mul_assoc]]; exact h)]
    · rfl
theorem sa_le (v : VS) (t : Nat) : sa_ v t ≤ 60 := sd_le _ _ _
theorem su_le (v : VS) (h : Bool) (a b : Nat) : su_ v h a b ≤ 60 := sd_le _ _ _
theorem gs_lt (v : VS) : ∀ n, 0 < n → gs_ v n < n
  | n + 1, _ => by
    simp only [gs_]
    split
    · omega
    · rcases Nat.eq_zero_or_pos n with q | q
      · subst q; simp [gs_]
      · have := gs_lt v n q; omega
theorem lsc_lt (v : VS) (a b : Nat) : ∀ n, 0 < n → lsc_ v a b n < n
  | n + 1, _ => by
    simp only [lsc_]
    split
    · omega
    · rcases Nat.eq_zero_or_pos n with q | q
      · subst q; simp [lsc_]
      · have := lsc_lt v a b n q; omega
end
section
theorem q_in_X0 : Cond.initialized RX0 ∈ lw_all := lw_in 49 (by decide +kernel) (by decide +kernel)
theorem q_in_X1 : Cond.initialized RX1 ∈ lw_all := lw_in 50 (by decide +kernel) (by decide +kernel)
theorem q_in_L : Cond.initialized RL ∈ lw_all := lw_in 48 (by decide +kernel) (by decide +kernel)
theorem q_c_X0_init : Cond.code yX0_init cX0_init 3 none ∈ lw_all := lw_in 61 (by decide +kernel) (by decide +kernel)
theorem q_im_X0_init : Cond.instanceMethod yX0_init ∈ lw_all := lw_in 60 (by decide +kernel) (by decide +kernel)
theorem n_X0_init : yX0_init.cls = RX0 ∧ yX0_init.cls ≠ "java/lang/invoke/MethodHandle" ∧ yX0_init.cls ≠ "java/lang/invoke/VarHandle" ∧ (parseMethodDescriptor yX0_init.desc).map (fun d => d.parameters.length) = some 0 := by decide +kernel
theorem q_c_X0_addCoin : Cond.code yX0_addCoin cX0_addCoin 2 (some .int) ∈ lw_all := lw_in 294 (by decide +kernel) (by decide +kernel)
theorem q_im_X0_addCoin : Cond.instanceMethod yX0_addCoin ∈ lw_all := lw_in 292 (by decide +kernel) (by decide +kernel)
theorem q_se_X0_addCoin : Cond.selects RX0 yX0_addCoin yX0_addCoin ∈ lw_all := lw_in 293 (by decide +kernel) (by decide +kernel)
theorem n_X0_addCoin : yX0_addCoin.cls = RX0 ∧ yX0_addCoin.cls ≠ "java/lang/invoke/MethodHandle" ∧ yX0_addCoin.cls ≠ "java/lang/invoke/VarHandle" ∧ (parseMethodDescriptor yX0_addCoin.desc).map (fun d => d.parameters.length) = some 1 := by decide +kernel
theorem q_c_X0_addSchool : Cond.code yX0_addSchool cX0_addSchool 2 (some .int) ∈ lw_all := lw_in 338 (by decide +kernel) (by decide +kernel)
theorem q_im_X0_addSchool : Cond.instanceMethod yX0_addSchool ∈ lw_all := lw_in 336 (by decide +kernel) (by decide +kernel)
theorem q_se_X0_addSchool : Cond.selects RX0 yX0_addSchool yX0_addSchool ∈ lw_all := lw_in 337 (by decide +kernel) (by decide +kernel)
theorem n_X0_addSchool : yX0_addSchool.cls = RX0 ∧ yX0_addSchool.cls ≠ "java/lang/invoke/MethodHandle" ∧ yX0_addSchool.cls ≠ "java/lang/invoke/VarHandle" ∧ (parseMethodDescriptor yX0_addSchool.desc).map (fun d => d.parameters.length) = some 1 := by decide +kernel
theorem q_c_X0_setShare : Cond.code yX0_setShare cX0_setShare 5 (some .int) ∈ lw_all := lw_in 348 (by decide +kernel) (by decide +kernel)
theorem q_im_X0_setShare : Cond.instanceMethod yX0_setShare ∈ lw_all := lw_in 346 (by decide +kernel) (by decide +kernel)
theorem q_se_X0_setShare : Cond.selects RX0 yX0_setShare yX0_setShare ∈ lw_all := lw_in 347 (by decide +kernel) (by decide +kernel)
theorem n_X0_setShare : yX0_setShare.cls = RX0 ∧ yX0_setShare.cls ≠ "java/lang/invoke/MethodHandle" ∧ yX0_setShare.cls ≠ "java/lang/invoke/VarHandle" ∧ (parseMethodDescriptor yX0_setShare.desc).map (fun d => d.parameters.length) = some 3 := by decide +kernel
theorem q_c_X0_toss : Cond.code yX0_toss cX0_toss 3 (some .int) ∈ lw_all := lw_in 361 (by decide +kernel) (by decide +kernel)
theorem q_im_X0_toss : Cond.instanceMethod yX0_toss ∈ lw_all := lw_in 359 (by decide +kernel) (by decide +kernel)
theorem q_se_X0_toss : Cond.selects RX0 yX0_toss yX0_toss ∈ lw_all := lw_in 360 (by decide +kernel) (by decide +kernel)
theorem n_X0_toss : yX0_toss.cls = RX0 ∧ yX0_toss.cls ≠ "java/lang/invoke/MethodHandle" ∧ yX0_toss.cls ≠ "java/lang/invoke/VarHandle" ∧ (parseMethodDescriptor yX0_toss.desc).map (fun d => d.parameters.length) = some 1 := by decide +kernel
theorem q_c_X0_undo : Cond.code yX0_undo cX0_undo 1 (some .boolean) ∈ lw_all := lw_in 374 (by decide +kernel) (by decide +kernel)
theorem q_im_X0_undo : Cond.instanceMethod yX0_undo ∈ lw_all := lw_in 372 (by decide +kernel) (by decide +kernel)
theorem q_se_X0_undo : Cond.selects RX0 yX0_undo yX0_undo ∈ lw_all := lw_in 373 (by decide +kernel) (by decide +kernel)
theorem n_X0_undo : yX0_undo.cls = RX0 ∧ yX0_undo.cls ≠ "java/lang/invoke/MethodHandle" ∧ yX0_undo.cls ≠ "java/lang/invoke/VarHandle" ∧ (parseMethodDescriptor yX0_undo.desc).map (fun d => d.parameters.length) = some 0 := by decide +kernel
theorem q_c_X0_strike : Cond.code yX0_strike cX0_strike 3 (some .int) ∈ lw_all := lw_in 382 (by decide +kernel) (by decide +kernel)
theorem q_im_X0_strike : Cond.instanceMethod yX0_strike ∈ lw_all := lw_in 380 (by decide +kernel) (by decide +kernel)
theorem q_se_X0_strike : Cond.selects RX0 yX0_strike yX0_strike ∈ lw_all := lw_in 381 (by decide +kernel) (by decide +kernel)
theorem n_X0_strike : yX0_strike.cls = RX0 ∧ yX0_strike.cls ≠ "java/lang/invoke/MethodHandle" ∧ yX0_strike.cls ≠ "java/lang/invoke/VarHandle" ∧ (parseMethodDescriptor yX0_strike.desc).map (fun d => d.parameters.length) = some 1 := by decide +kernel
theorem q_c_X0_coins : Cond.code yX0_coins cX0_coins 1 (some .int) ∈ lw_all := lw_in 94 (by decide +kernel) (by decide +kernel)
theorem q_im_X0_coins : Cond.instanceMethod yX0_coins ∈ lw_all := lw_in 92 (by decide +kernel) (by decide +kernel)
theorem q_se_X0_coins : Cond.selects RX0 yX0_coins yX0_coins ∈ lw_all := lw_in 93 (by decide +kernel) (by decide +kernel)
theorem n_X0_coins : yX0_coins.cls = RX0 ∧ yX0_coins.cls ≠ "java/lang/invoke/MethodHandle" ∧ yX0_coins.cls ≠ "java/lang/invoke/VarHandle" ∧ (parseMethodDescriptor yX0_coins.desc).map (fun d => d.parameters.length) = some 0 := by decide +kernel
theorem q_c_X0_schools : Cond.code yX0_schools cX0_schools 1 (some .int) ∈ lw_all := lw_in 98 (by decide +kernel) (by decide +kernel)
theorem q_im_X0_schools : Cond.instanceMethod yX0_schools ∈ lw_all := lw_in 96 (by decide +kernel) (by decide +kernel)
theorem q_se_X0_schools : Cond.selects RX0 yX0_schools yX0_schools ∈ lw_all := lw_in 97 (by decide +kernel) (by decide +kernel)
theorem n_X0_schools : yX0_schools.cls = RX0 ∧ yX0_schools.cls ≠ "java/lang/invoke/MethodHandle" ∧ yX0_schools.cls ≠ "java/lang/invoke/VarHandle" ∧ (parseMethodDescriptor yX0_schools.desc).map (fun d => d.parameters.length) = some 0 := by decide +kernel
theorem q_c_X0_tosses : Cond.code yX0_tosses cX0_tosses 1 (some .int) ∈ lw_all := lw_in 102 (by decide +kernel) (by decide +kernel)
theorem q_im_X0_tosses : Cond.instanceMethod yX0_tosses ∈ lw_all := lw_in 100 (by decide +kernel) (by decide +kernel)
theorem q_se_X0_tosses : Cond.selects RX0 yX0_tosses yX0_tosses ∈ lw_all := lw_in 101 (by decide +kernel) (by decide +kernel)
theorem n_X0_tosses : yX0_tosses.cls = RX0 ∧ yX0_tosses.cls ≠ "java/lang/invoke/MethodHandle" ∧ yX0_tosses.cls ≠ "java/lang/invoke/VarHandle" ∧ (parseMethodDescriptor yX0_tosses.desc).map (fun d => d.parameters.length) = some 0 := by decide +kernel
theorem q_c_X0_heads : Cond.code yX0_heads cX0_heads 1 (some .int) ∈ lw_all := lw_in 106 (by decide +kernel) (by decide +kernel)
theorem q_im_X0_heads : Cond.instanceMethod yX0_heads ∈ lw_all := lw_in 104 (by decide +kernel) (by decide +kernel)
theorem q_se_X0_heads : Cond.selects RX0 yX0_heads yX0_heads ∈ lw_all := lw_in 105 (by decide +kernel) (by decide +kernel)
theorem n_X0_heads : yX0_heads.cls = RX0 ∧ yX0_heads.cls ≠ "java/lang/invoke/MethodHandle" ∧ yX0_heads.cls ≠ "java/lang/invoke/VarHandle" ∧ (parseMethodDescriptor yX0_heads.desc).map (fun d => d.parameters.length) = some 0 := by decide +kernel
theorem q_c_X0_isHeads : Cond.code yX0_isHeads cX0_isHeads 2 (some .boolean) ∈ lw_all := lw_in 394 (by decide +kernel) (by decide +kernel)
theorem q_im_X0_isHeads : Cond.instanceMethod yX0_isHeads ∈ lw_all := lw_in 392 (by decide +kernel) (by decide +kernel)
theorem q_se_X0_isHeads : Cond.selects RX0 yX0_isHeads yX0_isHeads ∈ lw_all := lw_in 393 (by decide +kernel) (by decide +kernel)
theorem n_X0_isHeads : yX0_isHeads.cls = RX0 ∧ yX0_isHeads.cls ≠ "java/lang/invoke/MethodHandle" ∧ yX0_isHeads.cls ≠ "java/lang/invoke/VarHandle" ∧ (parseMethodDescriptor yX0_isHeads.desc).map (fun d => d.parameters.length) = some 1 := by decide +kernel
theorem q_c_X0_tenthsOf : Cond.code yX0_tenthsOf cX0_tenthsOf 2 (some .int) ∈ lw_all := lw_in 401 (by decide +kernel) (by decide +kernel)
theorem q_im_X0_tenthsOf : Cond.instanceMethod yX0_tenthsOf ∈ lw_all := lw_in 399 (by decide +kernel) (by decide +kernel)
theorem q_se_X0_tenthsOf : Cond.selects RX0 yX0_tenthsOf yX0_tenthsOf ∈ lw_all := lw_in 400 (by decide +kernel) (by decide +kernel)
theorem n_X0_tenthsOf : yX0_tenthsOf.cls = RX0 ∧ yX0_tenthsOf.cls ≠ "java/lang/invoke/MethodHandle" ∧ yX0_tenthsOf.cls ≠ "java/lang/invoke/VarHandle" ∧ (parseMethodDescriptor yX0_tenthsOf.desc).map (fun d => d.parameters.length) = some 1 := by decide +kernel
theorem q_c_X0_oddsOf : Cond.code yX0_oddsOf cX0_oddsOf 2 (some .int) ∈ lw_all := lw_in 408 (by decide +kernel) (by decide +kernel)
theorem q_im_X0_oddsOf : Cond.instanceMethod yX0_oddsOf ∈ lw_all := lw_in 406 (by decide +kernel) (by decide +kernel)
theorem q_se_X0_oddsOf : Cond.selects RX0 yX0_oddsOf yX0_oddsOf ∈ lw_all := lw_in 407 (by decide +kernel) (by decide +kernel)
theorem n_X0_oddsOf : yX0_oddsOf.cls = RX0 ∧ yX0_oddsOf.cls ≠ "java/lang/invoke/MethodHandle" ∧ yX0_oddsOf.cls ≠ "java/lang/invoke/VarHandle" ∧ (parseMethodDescriptor yX0_oddsOf.desc).map (fun d => d.parameters.length) = some 1 := by decide +kernel
theorem q_c_X0_shareOf : Cond.code yX0_shareOf cX0_shareOf 3 (some .int) ∈ lw_all := lw_in 415 (by decide +kernel) (by decide +kernel)
theorem q_im_X0_shareOf : Cond.instanceMethod yX0_shareOf ∈ lw_all := lw_in 413 (by decide +kernel) (by decide +kernel)
theorem q_se_X0_shareOf : Cond.selects RX0 yX0_shareOf yX0_shareOf ∈ lw_all := lw_in 414 (by decide +kernel) (by decide +kernel)
theorem n_X0_shareOf : yX0_shareOf.cls = RX0 ∧ yX0_shareOf.cls ≠ "java/lang/invoke/MethodHandle" ∧ yX0_shareOf.cls ≠ "java/lang/invoke/VarHandle" ∧ (parseMethodDescriptor yX0_shareOf.desc).map (fun d => d.parameters.length) = some 2 := by decide +kernel
theorem q_c_X0_weightOf : Cond.code yX0_weightOf cX0_weightOf 3 (some .long) ∈ lw_all := lw_in 422 (by decide +kernel) (by decide +kernel)
theorem q_im_X0_weightOf : Cond.instanceMethod yX0_weightOf ∈ lw_all := lw_in 420 (by decide +kernel) (by decide +kernel)
theorem q_se_X0_weightOf : Cond.selects RX0 yX0_weightOf yX0_weightOf ∈ lw_all := lw_in 421 (by decide +kernel) (by decide +kernel)
theorem n_X0_weightOf : yX0_weightOf.cls = RX0 ∧ yX0_weightOf.cls ≠ "java/lang/invoke/MethodHandle" ∧ yX0_weightOf.cls ≠ "java/lang/invoke/VarHandle" ∧ (parseMethodDescriptor yX0_weightOf.desc).map (fun d => d.parameters.length) = some 2 := by decide +kernel
theorem q_c_X0_coinWeight : Cond.code yX0_coinWeight cX0_coinWeight 2 (some .long) ∈ lw_all := lw_in 429 (by decide +kernel) (by decide +kernel)
theorem q_im_X0_coinWeight : Cond.instanceMethod yX0_coinWeight ∈ lw_all := lw_in 427 (by decide +kernel) (by decide +kernel)
theorem q_se_X0_coinWeight : Cond.selects RX0 yX0_coinWeight yX0_coinWeight ∈ lw_all := lw_in 428 (by decide +kernel) (by decide +kernel)
theorem n_X0_coinWeight : yX0_coinWeight.cls = RX0 ∧ yX0_coinWeight.cls ≠ "java/lang/invoke/MethodHandle" ∧ yX0_coinWeight.cls ≠ "java/lang/invoke/VarHandle" ∧ (parseMethodDescriptor yX0_coinWeight.desc).map (fun d => d.parameters.length) = some 1 := by decide +kernel
theorem q_c_X0_schoolWeight : Cond.code yX0_schoolWeight cX0_schoolWeight 2 (some .long) ∈ lw_all := lw_in 436 (by decide +kernel) (by decide +kernel)
theorem q_im_X0_schoolWeight : Cond.instanceMethod yX0_schoolWeight ∈ lw_all := lw_in 434 (by decide +kernel) (by decide +kernel)
theorem q_se_X0_schoolWeight : Cond.selects RX0 yX0_schoolWeight yX0_schoolWeight ∈ lw_all := lw_in 435 (by decide +kernel) (by decide +kernel)
theorem n_X0_schoolWeight : yX0_schoolWeight.cls = RX0 ∧ yX0_schoolWeight.cls ≠ "java/lang/invoke/MethodHandle" ∧ yX0_schoolWeight.cls ≠ "java/lang/invoke/VarHandle" ∧ (parseMethodDescriptor yX0_schoolWeight.desc).map (fun d => d.parameters.length) = some 1 := by decide +kernel
theorem q_c_X0_wholeWeight : Cond.code yX0_wholeWeight cX0_wholeWeight 1 (some .long) ∈ lw_all := lw_in 118 (by decide +kernel) (by decide +kernel)
theorem q_im_X0_wholeWeight : Cond.instanceMethod yX0_wholeWeight ∈ lw_all := lw_in 116 (by decide +kernel) (by decide +kernel)
theorem q_se_X0_wholeWeight : Cond.selects RX0 yX0_wholeWeight yX0_wholeWeight ∈ lw_all := lw_in 117 (by decide +kernel) (by decide +kernel)
theorem n_X0_wholeWeight : yX0_wholeWeight.cls = RX0 ∧ yX0_wholeWeight.cls ≠ "java/lang/invoke/MethodHandle" ∧ yX0_wholeWeight.cls ≠ "java/lang/invoke/VarHandle" ∧ (parseMethodDescriptor yX0_wholeWeight.desc).map (fun d => d.parameters.length) = some 0 := by decide +kernel
theorem q_c_X0_isRuledOut : Cond.code yX0_isRuledOut cX0_isRuledOut 2 (some .boolean) ∈ lw_all := lw_in 443 (by decide +kernel) (by decide +kernel)
theorem q_im_X0_isRuledOut : Cond.instanceMethod yX0_isRuledOut ∈ lw_all := lw_in 441 (by decide +kernel) (by decide +kernel)
theorem q_se_X0_isRuledOut : Cond.selects RX0 yX0_isRuledOut yX0_isRuledOut ∈ lw_all := lw_in 442 (by decide +kernel) (by decide +kernel)
theorem n_X0_isRuledOut : yX0_isRuledOut.cls = RX0 ∧ yX0_isRuledOut.cls ≠ "java/lang/invoke/MethodHandle" ∧ yX0_isRuledOut.cls ≠ "java/lang/invoke/VarHandle" ∧ (parseMethodDescriptor yX0_isRuledOut.desc).map (fun d => d.parameters.length) = some 1 := by decide +kernel
theorem q_c_X0_ruledOut : Cond.code yX0_ruledOut cX0_ruledOut 5 (some .int) ∈ lw_all := lw_in 146 (by decide +kernel) (by decide +kernel)
theorem q_im_X0_ruledOut : Cond.instanceMethod yX0_ruledOut ∈ lw_all := lw_in 144 (by decide +kernel) (by decide +kernel)
theorem q_se_X0_ruledOut : Cond.selects RX0 yX0_ruledOut yX0_ruledOut ∈ lw_all := lw_in 145 (by decide +kernel) (by decide +kernel)
theorem n_X0_ruledOut : yX0_ruledOut.cls = RX0 ∧ yX0_ruledOut.cls ≠ "java/lang/invoke/MethodHandle" ∧ yX0_ruledOut.cls ≠ "java/lang/invoke/VarHandle" ∧ (parseMethodDescriptor yX0_ruledOut.desc).map (fun d => d.parameters.length) = some 0 := by decide +kernel
theorem q_c_X0_coinPercent : Cond.code yX0_coinPercent cX0_coinPercent 2 (some .int) ∈ lw_all := lw_in 450 (by decide +kernel) (by decide +kernel)
theorem q_im_X0_coinPercent : Cond.instanceMethod yX0_coinPercent ∈ lw_all := lw_in 448 (by decide +kernel) (by decide +kernel)
theorem q_se_X0_coinPercent : Cond.selects RX0 yX0_coinPercent yX0_coinPercent ∈ lw_all := lw_in 449 (by decide +kernel) (by decide +kernel)
theorem n_X0_coinPercent : yX0_coinPercent.cls = RX0 ∧ yX0_coinPercent.cls ≠ "java/lang/invoke/MethodHandle" ∧ yX0_coinPercent.cls ≠ "java/lang/invoke/VarHandle" ∧ (parseMethodDescriptor yX0_coinPercent.desc).map (fun d => d.parameters.length) = some 1 := by decide +kernel
theorem q_c_X0_schoolPercent : Cond.code yX0_schoolPercent cX0_schoolPercent 2 (some .int) ∈ lw_all := lw_in 462 (by decide +kernel) (by decide +kernel)
theorem q_im_X0_schoolPercent : Cond.instanceMethod yX0_schoolPercent ∈ lw_all := lw_in 460 (by decide +kernel) (by decide +kernel)
theorem q_se_X0_schoolPercent : Cond.selects RX0 yX0_schoolPercent yX0_schoolPercent ∈ lw_all := lw_in 461 (by decide +kernel) (by decide +kernel)
theorem n_X0_schoolPercent : yX0_schoolPercent.cls = RX0 ∧ yX0_schoolPercent.cls ≠ "java/lang/invoke/MethodHandle" ∧ yX0_schoolPercent.cls ≠ "java/lang/invoke/VarHandle" ∧ (parseMethodDescriptor yX0_schoolPercent.desc).map (fun d => d.parameters.length) = some 1 := by decide +kernel
theorem q_c_X0_leadingCoin : Cond.code yX0_leadingCoin cX0_leadingCoin 2 (some .int) ∈ lw_all := lw_in 469 (by decide +kernel) (by decide +kernel)
theorem q_im_X0_leadingCoin : Cond.instanceMethod yX0_leadingCoin ∈ lw_all := lw_in 467 (by decide +kernel) (by decide +kernel)
theorem q_se_X0_leadingCoin : Cond.selects RX0 yX0_leadingCoin yX0_leadingCoin ∈ lw_all := lw_in 468 (by decide +kernel) (by decide +kernel)
theorem n_X0_leadingCoin : yX0_leadingCoin.cls = RX0 ∧ yX0_leadingCoin.cls ≠ "java/lang/invoke/MethodHandle" ∧ yX0_leadingCoin.cls ≠ "java/lang/invoke/VarHandle" ∧ (parseMethodDescriptor yX0_leadingCoin.desc).map (fun d => d.parameters.length) = some 0 := by decide +kernel
theorem q_c_X0_leadingSchool : Cond.code yX0_leadingSchool cX0_leadingSchool 7 (some .int) ∈ lw_all := lw_in 476 (by decide +kernel) (by decide +kernel)
theorem q_im_X0_leadingSchool : Cond.instanceMethod yX0_leadingSchool ∈ lw_all := lw_in 474 (by decide +kernel) (by decide +kernel)
theorem q_se_X0_leadingSchool : Cond.selects RX0 yX0_leadingSchool yX0_leadingSchool ∈ lw_all := lw_in 475 (by decide +kernel) (by decide +kernel)
theorem n_X0_leadingSchool : yX0_leadingSchool.cls = RX0 ∧ yX0_leadingSchool.cls ≠ "java/lang/invoke/MethodHandle" ∧ yX0_leadingSchool.cls ≠ "java/lang/invoke/VarHandle" ∧ (parseMethodDescriptor yX0_leadingSchool.desc).map (fun d => d.parameters.length) = some 0 := by decide +kernel
theorem q_c_X0_oddsAgainst : Cond.code yX0_oddsAgainst cX0_oddsAgainst 7 (some .long) ∈ lw_all := lw_in 483 (by decide +kernel) (by decide +kernel)
theorem q_im_X0_oddsAgainst : Cond.instanceMethod yX0_oddsAgainst ∈ lw_all := lw_in 481 (by decide +kernel) (by decide +kernel)
theorem q_se_X0_oddsAgainst : Cond.selects RX0 yX0_oddsAgainst yX0_oddsAgainst ∈ lw_all := lw_in 482 (by decide +kernel) (by decide +kernel)
theorem n_X0_oddsAgainst : yX0_oddsAgainst.cls = RX0 ∧ yX0_oddsAgainst.cls ≠ "java/lang/invoke/MethodHandle" ∧ yX0_oddsAgainst.cls ≠ "java/lang/invoke/VarHandle" ∧ (parseMethodDescriptor yX0_oddsAgainst.desc).map (fun d => d.parameters.length) = some 2 := by decide +kernel
theorem q_c_X0_surpriseOf : Cond.code yX0_surpriseOf cX0_surpriseOf 2 (some .int) ∈ lw_all := lw_in 491 (by decide +kernel) (by decide +kernel)
theorem q_im_X0_surpriseOf : Cond.instanceMethod yX0_surpriseOf ∈ lw_all := lw_in 489 (by decide +kernel) (by decide +kernel)
theorem q_se_X0_surpriseOf : Cond.selects RX0 yX0_surpriseOf yX0_surpriseOf ∈ lw_all := lw_in 490 (by decide +kernel) (by decide +kernel)
theorem n_X0_surpriseOf : yX0_surpriseOf.cls = RX0 ∧ yX0_surpriseOf.cls ≠ "java/lang/invoke/MethodHandle" ∧ yX0_surpriseOf.cls ≠ "java/lang/invoke/VarHandle" ∧ (parseMethodDescriptor yX0_surpriseOf.desc).map (fun d => d.parameters.length) = some 1 := by decide +kernel
theorem q_c_X0_allSurprise : Cond.code yX0_allSurprise cX0_allSurprise 3 (some .int) ∈ lw_all := lw_in 150 (by decide +kernel) (by decide +kernel)
theorem q_im_X0_allSurprise : Cond.instanceMethod yX0_allSurprise ∈ lw_all := lw_in 148 (by decide +kernel) (by decide +kernel)
theorem q_se_X0_allSurprise : Cond.selects RX0 yX0_allSurprise yX0_allSurprise ∈ lw_all := lw_in 149 (by decide +kernel) (by decide +kernel)
theorem n_X0_allSurprise : yX0_allSurprise.cls = RX0 ∧ yX0_allSurprise.cls ≠ "java/lang/invoke/MethodHandle" ∧ yX0_allSurprise.cls ≠ "java/lang/invoke/VarHandle" ∧ (parseMethodDescriptor yX0_allSurprise.desc).map (fun d => d.parameters.length) = some 0 := by decide +kernel
theorem q_c_X0_greatestSurprise : Cond.code yX0_greatestSurprise cX0_greatestSurprise 5 (some .int) ∈ lw_all := lw_in 168 (by decide +kernel) (by decide +kernel)
theorem q_im_X0_greatestSurprise : Cond.instanceMethod yX0_greatestSurprise ∈ lw_all := lw_in 166 (by decide +kernel) (by decide +kernel)
theorem q_se_X0_greatestSurprise : Cond.selects RX0 yX0_greatestSurprise yX0_greatestSurprise ∈ lw_all := lw_in 167 (by decide +kernel) (by decide +kernel)
theorem n_X0_greatestSurprise : yX0_greatestSurprise.cls = RX0 ∧ yX0_greatestSurprise.cls ≠ "java/lang/invoke/MethodHandle" ∧ yX0_greatestSurprise.cls ≠ "java/lang/invoke/VarHandle" ∧ (parseMethodDescriptor yX0_greatestSurprise.desc).map (fun d => d.parameters.length) = some 0 := by decide +kernel
theorem q_c_X0_headsPercent : Cond.code yX0_headsPercent cX0_headsPercent 5 (some .int) ∈ lw_all := lw_in 498 (by decide +kernel) (by decide +kernel)
theorem q_im_X0_headsPercent : Cond.instanceMethod yX0_headsPercent ∈ lw_all := lw_in 496 (by decide +kernel) (by decide +kernel)
theorem q_se_X0_headsPercent : Cond.selects RX0 yX0_headsPercent yX0_headsPercent ∈ lw_all := lw_in 497 (by decide +kernel) (by decide +kernel)
theorem n_X0_headsPercent : yX0_headsPercent.cls = RX0 ∧ yX0_headsPercent.cls ≠ "java/lang/invoke/MethodHandle" ∧ yX0_headsPercent.cls ≠ "java/lang/invoke/VarHandle" ∧ (parseMethodDescriptor yX0_headsPercent.desc).map (fun d => d.parameters.length) = some 0 := by decide +kernel
theorem q_c_X0_wouldSurprise : Cond.code yX0_wouldSurprise cX0_wouldSurprise 2 (some .int) ∈ lw_all := lw_in 505 (by decide +kernel) (by decide +kernel)
theorem q_im_X0_wouldSurprise : Cond.instanceMethod yX0_wouldSurprise ∈ lw_all := lw_in 503 (by decide +kernel) (by decide +kernel)
theorem q_se_X0_wouldSurprise : Cond.selects RX0 yX0_wouldSurprise yX0_wouldSurprise ∈ lw_all := lw_in 504 (by decide +kernel) (by decide +kernel)
theorem n_X0_wouldSurprise : yX0_wouldSurprise.cls = RX0 ∧ yX0_wouldSurprise.cls ≠ "java/lang/invoke/MethodHandle" ∧ yX0_wouldSurprise.cls ≠ "java/lang/invoke/VarHandle" ∧ (parseMethodDescriptor yX0_wouldSurprise.desc).map (fun d => d.parameters.length) = some 1 := by decide +kernel
theorem q_c_X0_leaderBehind : Cond.code yX0_leaderBehind cX0_leaderBehind 2 (some .int) ∈ lw_all := lw_in 512 (by decide +kernel) (by decide +kernel)
theorem q_im_X0_leaderBehind : Cond.instanceMethod yX0_leaderBehind ∈ lw_all := lw_in 510 (by decide +kernel) (by decide +kernel)
theorem q_se_X0_leaderBehind : Cond.selects RX0 yX0_leaderBehind yX0_leaderBehind ∈ lw_all := lw_in 511 (by decide +kernel) (by decide +kernel)
theorem n_X0_leaderBehind : yX0_leaderBehind.cls = RX0 ∧ yX0_leaderBehind.cls ≠ "java/lang/invoke/MethodHandle" ∧ yX0_leaderBehind.cls ≠ "java/lang/invoke/VarHandle" ∧ (parseMethodDescriptor yX0_leaderBehind.desc).map (fun d => d.parameters.length) = some 1 := by decide +kernel
theorem q_c_X0_tossesToLead : Cond.code yX0_tossesToLead cX0_tossesToLead 5 (some .int) ∈ lw_all := lw_in 201 (by decide +kernel) (by decide +kernel)
theorem q_im_X0_tossesToLead : Cond.instanceMethod yX0_tossesToLead ∈ lw_all := lw_in 199 (by decide +kernel) (by decide +kernel)
theorem q_se_X0_tossesToLead : Cond.selects RX0 yX0_tossesToLead yX0_tossesToLead ∈ lw_all := lw_in 200 (by decide +kernel) (by decide +kernel)
theorem n_X0_tossesToLead : yX0_tossesToLead.cls = RX0 ∧ yX0_tossesToLead.cls ≠ "java/lang/invoke/MethodHandle" ∧ yX0_tossesToLead.cls ≠ "java/lang/invoke/VarHandle" ∧ (parseMethodDescriptor yX0_tossesToLead.desc).map (fun d => d.parameters.length) = some 1 := by decide +kernel
theorem q_c_X0_decisiveTosses : Cond.code yX0_decisiveTosses cX0_decisiveTosses 7 (some .int) ∈ lw_all := lw_in 172 (by decide +kernel) (by decide +kernel)
theorem q_im_X0_decisiveTosses : Cond.instanceMethod yX0_decisiveTosses ∈ lw_all := lw_in 170 (by decide +kernel) (by decide +kernel)
theorem q_se_X0_decisiveTosses : Cond.selects RX0 yX0_decisiveTosses yX0_decisiveTosses ∈ lw_all := lw_in 171 (by decide +kernel) (by decide +kernel)
theorem n_X0_decisiveTosses : yX0_decisiveTosses.cls = RX0 ∧ yX0_decisiveTosses.cls ≠ "java/lang/invoke/MethodHandle" ∧ yX0_decisiveTosses.cls ≠ "java/lang/invoke/VarHandle" ∧ (parseMethodDescriptor yX0_decisiveTosses.desc).map (fun d => d.parameters.length) = some 0 := by decide +kernel
theorem q_c_X0_meanTenths : Cond.code yX0_meanTenths cX0_meanTenths 3 (some .double) ∈ lw_all := lw_in 523 (by decide +kernel) (by decide +kernel)
theorem q_im_X0_meanTenths : Cond.instanceMethod yX0_meanTenths ∈ lw_all := lw_in 521 (by decide +kernel) (by decide +kernel)
theorem q_se_X0_meanTenths : Cond.selects RX0 yX0_meanTenths yX0_meanTenths ∈ lw_all := lw_in 522 (by decide +kernel) (by decide +kernel)
theorem n_X0_meanTenths : yX0_meanTenths.cls = RX0 ∧ yX0_meanTenths.cls ≠ "java/lang/invoke/MethodHandle" ∧ yX0_meanTenths.cls ≠ "java/lang/invoke/VarHandle" ∧ (parseMethodDescriptor yX0_meanTenths.desc).map (fun d => d.parameters.length) = some 0 := by decide +kernel
theorem q_c_X0_digest : Cond.code yX0_digest cX0_digest 3 (some .long) ∈ lw_all := lw_in 180 (by decide +kernel) (by decide +kernel)
theorem q_im_X0_digest : Cond.instanceMethod yX0_digest ∈ lw_all := lw_in 178 (by decide +kernel) (by decide +kernel)
theorem q_se_X0_digest : Cond.selects RX0 yX0_digest yX0_digest ∈ lw_all := lw_in 179 (by decide +kernel) (by decide +kernel)
theorem n_X0_digest : yX0_digest.cls = RX0 ∧ yX0_digest.cls ≠ "java/lang/invoke/MethodHandle" ∧ yX0_digest.cls ≠ "java/lang/invoke/VarHandle" ∧ (parseMethodDescriptor yX0_digest.desc).map (fun d => d.parameters.length) = some 0 := by decide +kernel
theorem q_c_X0_needCoin : Cond.code yX0_needCoin cX0_needCoin 2 none ∈ lw_all := lw_in 205 (by decide +kernel) (by decide +kernel)
theorem q_im_X0_needCoin : Cond.instanceMethod yX0_needCoin ∈ lw_all := lw_in 204 (by decide +kernel) (by decide +kernel)
theorem q_se_X0_needCoin : Cond.selects RX0 yX0_needCoin yX0_needCoin ∈ lw_all := lw_in 13 (by decide +kernel) (by decide +kernel)
theorem n_X0_needCoin : yX0_needCoin.cls = RX0 ∧ yX0_needCoin.cls ≠ "java/lang/invoke/MethodHandle" ∧ yX0_needCoin.cls ≠ "java/lang/invoke/VarHandle" ∧ (parseMethodDescriptor yX0_needCoin.desc).map (fun d => d.parameters.length) = some 1 := by decide +kernel
theorem q_c_X0_needSchool : Cond.code yX0_needSchool cX0_needSchool 2 none ∈ lw_all := lw_in 352 (by decide +kernel) (by decide +kernel)
theorem q_im_X0_needSchool : Cond.instanceMethod yX0_needSchool ∈ lw_all := lw_in 351 (by decide +kernel) (by decide +kernel)
theorem q_se_X0_needSchool : Cond.selects RX0 yX0_needSchool yX0_needSchool ∈ lw_all := lw_in 19 (by decide +kernel) (by decide +kernel)
theorem n_X0_needSchool : yX0_needSchool.cls = RX0 ∧ yX0_needSchool.cls ≠ "java/lang/invoke/MethodHandle" ∧ yX0_needSchool.cls ≠ "java/lang/invoke/VarHandle" ∧ (parseMethodDescriptor yX0_needSchool.desc).map (fun d => d.parameters.length) = some 1 := by decide +kernel
theorem q_c_X0_needToss : Cond.code yX0_needToss cX0_needToss 2 none ∈ lw_all := lw_in 386 (by decide +kernel) (by decide +kernel)
theorem q_im_X0_needToss : Cond.instanceMethod yX0_needToss ∈ lw_all := lw_in 385 (by decide +kernel) (by decide +kernel)
theorem q_se_X0_needToss : Cond.selects RX0 yX0_needToss yX0_needToss ∈ lw_all := lw_in 21 (by decide +kernel) (by decide +kernel)
theorem n_X0_needToss : yX0_needToss.cls = RX0 ∧ yX0_needToss.cls ≠ "java/lang/invoke/MethodHandle" ∧ yX0_needToss.cls ≠ "java/lang/invoke/VarHandle" ∧ (parseMethodDescriptor yX0_needToss.desc).map (fun d => d.parameters.length) = some 1 := by decide +kernel
theorem q_c_X0_needNoTosses : Cond.code yX0_needNoTosses cX0_needNoTosses 1 none ∈ lw_all := lw_in 330 (by decide +kernel) (by decide +kernel)
theorem q_im_X0_needNoTosses : Cond.instanceMethod yX0_needNoTosses ∈ lw_all := lw_in 329 (by decide +kernel) (by decide +kernel)
theorem q_se_X0_needNoTosses : Cond.selects RX0 yX0_needNoTosses yX0_needNoTosses ∈ lw_all := lw_in 18 (by decide +kernel) (by decide +kernel)
theorem n_X0_needNoTosses : yX0_needNoTosses.cls = RX0 ∧ yX0_needNoTosses.cls ≠ "java/lang/invoke/MethodHandle" ∧ yX0_needNoTosses.cls ≠ "java/lang/invoke/VarHandle" ∧ (parseMethodDescriptor yX0_needNoTosses.desc).map (fun d => d.parameters.length) = some 0 := by decide +kernel
theorem q_c_X0_needPossible : Cond.code yX0_needPossible cX0_needPossible 2 none ∈ lw_all := lw_in 366 (by decide +kernel) (by decide +kernel)
theorem q_im_X0_needPossible : Cond.instanceMethod yX0_needPossible ∈ lw_all := lw_in 365 (by decide +kernel) (by decide +kernel)
theorem q_se_X0_needPossible : Cond.selects RX0 yX0_needPossible yX0_needPossible ∈ lw_all := lw_in 20 (by decide +kernel) (by decide +kernel)
theorem n_X0_needPossible : yX0_needPossible.cls = RX0 ∧ yX0_needPossible.cls ≠ "java/lang/invoke/MethodHandle" ∧ yX0_needPossible.cls ≠ "java/lang/invoke/VarHandle" ∧ (parseMethodDescriptor yX0_needPossible.desc).map (fun d => d.parameters.length) = some 1 := by decide +kernel
theorem q_c_X0_headsAhead : Cond.code yX0_headsAhead cX0_headsAhead 4 (some .int) ∈ lw_all := lw_in 114 (by decide +kernel) (by decide +kernel)
theorem q_im_X0_headsAhead : Cond.instanceMethod yX0_headsAhead ∈ lw_all := lw_in 113 (by decide +kernel) (by decide +kernel)
theorem q_se_X0_headsAhead : Cond.selects RX0 yX0_headsAhead yX0_headsAhead ∈ lw_all := lw_in 1 (by decide +kernel) (by decide +kernel)
theorem n_X0_headsAhead : yX0_headsAhead.cls = RX0 ∧ yX0_headsAhead.cls ≠ "java/lang/invoke/MethodHandle" ∧ yX0_headsAhead.cls ≠ "java/lang/invoke/VarHandle" ∧ (parseMethodDescriptor yX0_headsAhead.desc).map (fun d => d.parameters.length) = some 1 := by decide +kernel
theorem q_c_X0_headsNow : Cond.code yX0_headsNow cX0_headsNow 1 (some .int) ∈ lw_all := lw_in 110 (by decide +kernel) (by decide +kernel)
theorem q_im_X0_headsNow : Cond.instanceMethod yX0_headsNow ∈ lw_all := lw_in 109 (by decide +kernel) (by decide +kernel)
theorem q_se_X0_headsNow : Cond.selects RX0 yX0_headsNow yX0_headsNow ∈ lw_all := lw_in 0 (by decide +kernel) (by decide +kernel)
theorem n_X0_headsNow : yX0_headsNow.cls = RX0 ∧ yX0_headsNow.cls ≠ "java/lang/invoke/MethodHandle" ∧ yX0_headsNow.cls ≠ "java/lang/invoke/VarHandle" ∧ (parseMethodDescriptor yX0_headsNow.desc).map (fun d => d.parameters.length) = some 0 := by decide +kernel
theorem q_c_X0_tailsNow : Cond.code yX0_tailsNow cX0_tailsNow 1 (some .int) ∈ lw_all := lw_in 126 (by decide +kernel) (by decide +kernel)
theorem q_im_X0_tailsNow : Cond.instanceMethod yX0_tailsNow ∈ lw_all := lw_in 125 (by decide +kernel) (by decide +kernel)
theorem q_se_X0_tailsNow : Cond.selects RX0 yX0_tailsNow yX0_tailsNow ∈ lw_all := lw_in 3 (by decide +kernel) (by decide +kernel)
theorem n_X0_tailsNow : yX0_tailsNow.cls = RX0 ∧ yX0_tailsNow.cls ≠ "java/lang/invoke/MethodHandle" ∧ yX0_tailsNow.cls ≠ "java/lang/invoke/VarHandle" ∧ (parseMethodDescriptor yX0_tailsNow.desc).map (fun d => d.parameters.length) = some 0 := by decide +kernel
theorem q_c_X0_startWeight : Cond.code yX0_startWeight cX0_startWeight 3 (some .long) ∈ lw_all := lw_in 138 (by decide +kernel) (by decide +kernel)
theorem q_im_X0_startWeight : Cond.instanceMethod yX0_startWeight ∈ lw_all := lw_in 137 (by decide +kernel) (by decide +kernel)
theorem q_se_X0_startWeight : Cond.selects RX0 yX0_startWeight yX0_startWeight ∈ lw_all := lw_in 6 (by decide +kernel) (by decide +kernel)
theorem n_X0_startWeight : yX0_startWeight.cls = RX0 ∧ yX0_startWeight.cls ≠ "java/lang/invoke/MethodHandle" ∧ yX0_startWeight.cls ≠ "java/lang/invoke/VarHandle" ∧ (parseMethodDescriptor yX0_startWeight.desc).map (fun d => d.parameters.length) = some 2 := by decide +kernel
theorem q_c_X0_likelihood : Cond.code yX0_likelihood cX0_likelihood 8 (some .long) ∈ lw_all := lw_in 142 (by decide +kernel) (by decide +kernel)
theorem q_im_X0_likelihood : Cond.instanceMethod yX0_likelihood ∈ lw_all := lw_in 141 (by decide +kernel) (by decide +kernel)
theorem q_se_X0_likelihood : Cond.selects RX0 yX0_likelihood yX0_likelihood ∈ lw_all := lw_in 7 (by decide +kernel) (by decide +kernel)
theorem n_X0_likelihood : yX0_likelihood.cls = RX0 ∧ yX0_likelihood.cls ≠ "java/lang/invoke/MethodHandle" ∧ yX0_likelihood.cls ≠ "java/lang/invoke/VarHandle" ∧ (parseMethodDescriptor yX0_likelihood.desc).map (fun d => d.parameters.length) = some 3 := by decide +kernel
theorem q_c_X0_coinWeightAt : Cond.code yX0_coinWeightAt cX0_coinWeightAt 7 (some .long) ∈ lw_all := lw_in 134 (by decide +kernel) (by decide +kernel)
theorem q_im_X0_coinWeightAt : Cond.instanceMethod yX0_coinWeightAt ∈ lw_all := lw_in 133 (by decide +kernel) (by decide +kernel)
theorem q_se_X0_coinWeightAt : Cond.selects RX0 yX0_coinWeightAt yX0_coinWeightAt ∈ lw_all := lw_in 5 (by decide +kernel) (by decide +kernel)
theorem n_X0_coinWeightAt : yX0_coinWeightAt.cls = RX0 ∧ yX0_coinWeightAt.cls ≠ "java/lang/invoke/MethodHandle" ∧ yX0_coinWeightAt.cls ≠ "java/lang/invoke/VarHandle" ∧ (parseMethodDescriptor yX0_coinWeightAt.desc).map (fun d => d.parameters.length) = some 3 := by decide +kernel
theorem q_c_X0_schoolWeightNow : Cond.code yX0_schoolWeightNow cX0_schoolWeightNow 7 (some .long) ∈ lw_all := lw_in 281 (by decide +kernel) (by decide +kernel)
theorem q_im_X0_schoolWeightNow : Cond.instanceMethod yX0_schoolWeightNow ∈ lw_all := lw_in 280 (by decide +kernel) (by decide +kernel)
theorem q_se_X0_schoolWeightNow : Cond.selects RX0 yX0_schoolWeightNow yX0_schoolWeightNow ∈ lw_all := lw_in 16 (by decide +kernel) (by decide +kernel)
theorem n_X0_schoolWeightNow : yX0_schoolWeightNow.cls = RX0 ∧ yX0_schoolWeightNow.cls ≠ "java/lang/invoke/MethodHandle" ∧ yX0_schoolWeightNow.cls ≠ "java/lang/invoke/VarHandle" ∧ (parseMethodDescriptor yX0_schoolWeightNow.desc).map (fun d => d.parameters.length) = some 1 := by decide +kernel
theorem q_c_X0_wholeAt : Cond.code yX0_wholeAt cX0_wholeAt 6 (some .long) ∈ lw_all := lw_in 130 (by decide +kernel) (by decide +kernel)
theorem q_im_X0_wholeAt : Cond.instanceMethod yX0_wholeAt ∈ lw_all := lw_in 129 (by decide +kernel) (by decide +kernel)
theorem q_se_X0_wholeAt : Cond.selects RX0 yX0_wholeAt yX0_wholeAt ∈ lw_all := lw_in 4 (by decide +kernel) (by decide +kernel)
theorem n_X0_wholeAt : yX0_wholeAt.cls = RX0 ∧ yX0_wholeAt.cls ≠ "java/lang/invoke/MethodHandle" ∧ yX0_wholeAt.cls ≠ "java/lang/invoke/VarHandle" ∧ (parseMethodDescriptor yX0_wholeAt.desc).map (fun d => d.parameters.length) = some 2 := by decide +kernel
theorem q_c_X0_wholeNow : Cond.code yX0_wholeNow cX0_wholeNow 1 (some .long) ∈ lw_all := lw_in 122 (by decide +kernel) (by decide +kernel)
theorem q_im_X0_wholeNow : Cond.instanceMethod yX0_wholeNow ∈ lw_all := lw_in 121 (by decide +kernel) (by decide +kernel)
theorem q_se_X0_wholeNow : Cond.selects RX0 yX0_wholeNow yX0_wholeNow ∈ lw_all := lw_in 2 (by decide +kernel) (by decide +kernel)
theorem n_X0_wholeNow : yX0_wholeNow.cls = RX0 ∧ yX0_wholeNow.cls ≠ "java/lang/invoke/MethodHandle" ∧ yX0_wholeNow.cls ≠ "java/lang/invoke/VarHandle" ∧ (parseMethodDescriptor yX0_wholeNow.desc).map (fun d => d.parameters.length) = some 0 := by decide +kernel
theorem q_c_X0_leaderAt : Cond.code yX0_leaderAt cX0_leaderAt 9 (some .int) ∈ lw_all := lw_in 176 (by decide +kernel) (by decide +kernel)
theorem q_im_X0_leaderAt : Cond.instanceMethod yX0_leaderAt ∈ lw_all := lw_in 175 (by decide +kernel) (by decide +kernel)
theorem q_se_X0_leaderAt : Cond.selects RX0 yX0_leaderAt yX0_leaderAt ∈ lw_all := lw_in 11 (by decide +kernel) (by decide +kernel)
theorem n_X0_leaderAt : yX0_leaderAt.cls = RX0 ∧ yX0_leaderAt.cls ≠ "java/lang/invoke/MethodHandle" ∧ yX0_leaderAt.cls ≠ "java/lang/invoke/VarHandle" ∧ (parseMethodDescriptor yX0_leaderAt.desc).map (fun d => d.parameters.length) = some 2 := by decide +kernel
theorem q_c_X0_percent : Cond.code yX0_percent cX0_percent 4 (some .int) ∈ lw_all := lw_in 453 (by decide +kernel) (by decide +kernel)
theorem q_st_X0_percent : Cond.static yX0_percent ∈ lw_all := lw_in 452 (by decide +kernel) (by decide +kernel)
theorem n_X0_percent : yX0_percent.cls ≠ "java/lang/invoke/MethodHandle" ∧ yX0_percent.cls ≠ "java/lang/invoke/VarHandle" ∧ (parseMethodDescriptor yX0_percent.desc).map (fun d => d.parameters.length) = some 2 := by decide +kernel
theorem q_c_X0_chance : Cond.code yX0_chance cX0_chance 8 (some .long) ∈ lw_all := lw_in 163 (by decide +kernel) (by decide +kernel)
theorem q_im_X0_chance : Cond.instanceMethod yX0_chance ∈ lw_all := lw_in 162 (by decide +kernel) (by decide +kernel)
theorem q_se_X0_chance : Cond.selects RX0 yX0_chance yX0_chance ∈ lw_all := lw_in 10 (by decide +kernel) (by decide +kernel)
theorem n_X0_chance : yX0_chance.cls = RX0 ∧ yX0_chance.cls ≠ "java/lang/invoke/MethodHandle" ∧ yX0_chance.cls ≠ "java/lang/invoke/VarHandle" ∧ (parseMethodDescriptor yX0_chance.desc).map (fun d => d.parameters.length) = some 3 := by decide +kernel
theorem q_c_X0_surpriseAt : Cond.code yX0_surpriseAt cX0_surpriseAt 3 (some .int) ∈ lw_all := lw_in 154 (by decide +kernel) (by decide +kernel)
theorem q_im_X0_surpriseAt : Cond.instanceMethod yX0_surpriseAt ∈ lw_all := lw_in 153 (by decide +kernel) (by decide +kernel)
theorem q_se_X0_surpriseAt : Cond.selects RX0 yX0_surpriseAt yX0_surpriseAt ∈ lw_all := lw_in 8 (by decide +kernel) (by decide +kernel)
theorem n_X0_surpriseAt : yX0_surpriseAt.cls = RX0 ∧ yX0_surpriseAt.cls ≠ "java/lang/invoke/MethodHandle" ∧ yX0_surpriseAt.cls ≠ "java/lang/invoke/VarHandle" ∧ (parseMethodDescriptor yX0_surpriseAt.desc).map (fun d => d.parameters.length) = some 1 := by decide +kernel
theorem q_c_X0_surpriseBehind : Cond.code yX0_surpriseBehind cX0_surpriseBehind 9 (some .int) ∈ lw_all := lw_in 158 (by decide +kernel) (by decide +kernel)
theorem q_im_X0_surpriseBehind : Cond.instanceMethod yX0_surpriseBehind ∈ lw_all := lw_in 157 (by decide +kernel) (by decide +kernel)
theorem q_se_X0_surpriseBehind : Cond.selects RX0 yX0_surpriseBehind yX0_surpriseBehind ∈ lw_all := lw_in 9 (by decide +kernel) (by decide +kernel)
theorem n_X0_surpriseBehind : yX0_surpriseBehind.cls = RX0 ∧ yX0_surpriseBehind.cls ≠ "java/lang/invoke/MethodHandle" ∧ yX0_surpriseBehind.cls ≠ "java/lang/invoke/VarHandle" ∧ (parseMethodDescriptor yX0_surpriseBehind.desc).map (fun d => d.parameters.length) = some 3 := by decide +kernel
theorem q_c_X0_digestWith : Cond.code yX0_digestWith cX0_digestWith 4 (some .long) ∈ lw_all := lw_in 185 (by decide +kernel) (by decide +kernel)
theorem q_st_X0_digestWith : Cond.static yX0_digestWith ∈ lw_all := lw_in 184 (by decide +kernel) (by decide +kernel)
theorem n_X0_digestWith : yX0_digestWith.cls ≠ "java/lang/invoke/MethodHandle" ∧ yX0_digestWith.cls ≠ "java/lang/invoke/VarHandle" ∧ (parseMethodDescriptor yX0_digestWith.desc).map (fun d => d.parameters.length) = some 2 := by decide +kernel
theorem q_c_X0_digestWithCoins : Cond.code yX0_digestWithCoins cX0_digestWithCoins 8 (some .long) ∈ lw_all := lw_in 197 (by decide +kernel) (by decide +kernel)
theorem q_im_X0_digestWithCoins : Cond.instanceMethod yX0_digestWithCoins ∈ lw_all := lw_in 196 (by decide +kernel) (by decide +kernel)
theorem q_se_X0_digestWithCoins : Cond.selects RX0 yX0_digestWithCoins yX0_digestWithCoins ∈ lw_all := lw_in 12 (by decide +kernel) (by decide +kernel)
theorem n_X0_digestWithCoins : yX0_digestWithCoins.cls = RX0 ∧ yX0_digestWithCoins.cls ≠ "java/lang/invoke/MethodHandle" ∧ yX0_digestWithCoins.cls ≠ "java/lang/invoke/VarHandle" ∧ (parseMethodDescriptor yX0_digestWithCoins.desc).map (fun d => d.parameters.length) = some 1 := by decide +kernel
theorem q_c_X0_digestWithSchools : Cond.code yX0_digestWithSchools cX0_digestWithSchools 7 (some .long) ∈ lw_all := lw_in 277 (by decide +kernel) (by decide +kernel)
theorem q_im_X0_digestWithSchools : Cond.instanceMethod yX0_digestWithSchools ∈ lw_all := lw_in 276 (by decide +kernel) (by decide +kernel)
theorem q_se_X0_digestWithSchools : Cond.selects RX0 yX0_digestWithSchools yX0_digestWithSchools ∈ lw_all := lw_in 15 (by decide +kernel) (by decide +kernel)
theorem n_X0_digestWithSchools : yX0_digestWithSchools.cls = RX0 ∧ yX0_digestWithSchools.cls ≠ "java/lang/invoke/MethodHandle" ∧ yX0_digestWithSchools.cls ≠ "java/lang/invoke/VarHandle" ∧ (parseMethodDescriptor yX0_digestWithSchools.desc).map (fun d => d.parameters.length) = some 1 := by decide +kernel
theorem q_c_X0_digestWithTosses : Cond.code yX0_digestWithTosses cX0_digestWithTosses 6 (some .long) ∈ lw_all := lw_in 285 (by decide +kernel) (by decide +kernel)
theorem q_im_X0_digestWithTosses : Cond.instanceMethod yX0_digestWithTosses ∈ lw_all := lw_in 284 (by decide +kernel) (by decide +kernel)
theorem q_se_X0_digestWithTosses : Cond.selects RX0 yX0_digestWithTosses yX0_digestWithTosses ∈ lw_all := lw_in 17 (by decide +kernel) (by decide +kernel)
theorem n_X0_digestWithTosses : yX0_digestWithTosses.cls = RX0 ∧ yX0_digestWithTosses.cls ≠ "java/lang/invoke/MethodHandle" ∧ yX0_digestWithTosses.cls ≠ "java/lang/invoke/VarHandle" ∧ (parseMethodDescriptor yX0_digestWithTosses.desc).map (fun d => d.parameters.length) = some 1 := by decide +kernel
theorem q_c_X1_init : Cond.code yX1_init cX1_init 1 none ∈ lw_all := lw_in 528 (by decide +kernel) (by decide +kernel)
theorem q_im_X1_init : Cond.instanceMethod yX1_init ∈ lw_all := lw_in 527 (by decide +kernel) (by decide +kernel)
theorem n_X1_init : yX1_init.cls = RX1 ∧ yX1_init.cls ≠ "java/lang/invoke/MethodHandle" ∧ yX1_init.cls ≠ "java/lang/invoke/VarHandle" ∧ (parseMethodDescriptor yX1_init.desc).map (fun d => d.parameters.length) = some 0 := by decide +kernel
theorem q_c_X1_thrown : Cond.code yX1_thrown cX1_thrown 1 (some .int) ∈ lw_all := lw_in 558 (by decide +kernel) (by decide +kernel)
theorem q_im_X1_thrown : Cond.instanceMethod yX1_thrown ∈ lw_all := lw_in 556 (by decide +kernel) (by decide +kernel)
theorem q_se_X1_thrown : Cond.selects RX1 yX1_thrown yX1_thrown ∈ lw_all := lw_in 557 (by decide +kernel) (by decide +kernel)
theorem n_X1_thrown : yX1_thrown.cls = RX1 ∧ yX1_thrown.cls ≠ "java/lang/invoke/MethodHandle" ∧ yX1_thrown.cls ≠ "java/lang/invoke/VarHandle" ∧ (parseMethodDescriptor yX1_thrown.desc).map (fun d => d.parameters.length) = some 0 := by decide +kernel
theorem q_c_X1_fail : Cond.code yX1_fail cX1_fail 2 (some .int) ∈ lw_all := lw_in 569 (by decide +kernel) (by decide +kernel)
theorem q_im_X1_fail : Cond.instanceMethod yX1_fail ∈ lw_all := lw_in 568 (by decide +kernel) (by decide +kernel)
theorem q_se_X1_fail : Cond.selects RX1 yX1_fail yX1_fail ∈ lw_all := lw_in 22 (by decide +kernel) (by decide +kernel)
theorem n_X1_fail : yX1_fail.cls = RX1 ∧ yX1_fail.cls ≠ "java/lang/invoke/MethodHandle" ∧ yX1_fail.cls ≠ "java/lang/invoke/VarHandle" ∧ (parseMethodDescriptor yX1_fail.desc).map (fun d => d.parameters.length) = some 1 := by decide +kernel
theorem q_c_X1_told : Cond.code yX1_told cX1_told 2 (some .int) ∈ lw_all := lw_in 652 (by decide +kernel) (by decide +kernel)
theorem q_im_X1_told : Cond.instanceMethod yX1_told ∈ lw_all := lw_in 651 (by decide +kernel) (by decide +kernel)
theorem q_se_X1_told : Cond.selects RX1 yX1_told yX1_told ∈ lw_all := lw_in 34 (by decide +kernel) (by decide +kernel)
theorem n_X1_told : yX1_told.cls = RX1 ∧ yX1_told.cls ≠ "java/lang/invoke/MethodHandle" ∧ yX1_told.cls ≠ "java/lang/invoke/VarHandle" ∧ (parseMethodDescriptor yX1_told.desc).map (fun d => d.parameters.length) = some 1 := by decide +kernel
theorem q_c_X1_isIn : Cond.code yX1_isIn cX1_isIn 3 (some .boolean) ∈ lw_all := lw_in 565 (by decide +kernel) (by decide +kernel)
theorem q_st_X1_isIn : Cond.static yX1_isIn ∈ lw_all := lw_in 564 (by decide +kernel) (by decide +kernel)
theorem n_X1_isIn : yX1_isIn.cls ≠ "java/lang/invoke/MethodHandle" ∧ yX1_isIn.cls ≠ "java/lang/invoke/VarHandle" ∧ (parseMethodDescriptor yX1_isIn.desc).map (fun d => d.parameters.length) = some 3 := by decide +kernel
theorem q_c_X1_isCoin : Cond.code yX1_isCoin cX1_isCoin 2 (some .boolean) ∈ lw_all := lw_in 585 (by decide +kernel) (by decide +kernel)
theorem q_im_X1_isCoin : Cond.instanceMethod yX1_isCoin ∈ lw_all := lw_in 584 (by decide +kernel) (by decide +kernel)
theorem q_se_X1_isCoin : Cond.selects RX1 yX1_isCoin yX1_isCoin ∈ lw_all := lw_in 24 (by decide +kernel) (by decide +kernel)
theorem n_X1_isCoin : yX1_isCoin.cls = RX1 ∧ yX1_isCoin.cls ≠ "java/lang/invoke/MethodHandle" ∧ yX1_isCoin.cls ≠ "java/lang/invoke/VarHandle" ∧ (parseMethodDescriptor yX1_isCoin.desc).map (fun d => d.parameters.length) = some 1 := by decide +kernel
theorem q_c_X1_isSchool : Cond.code yX1_isSchool cX1_isSchool 2 (some .boolean) ∈ lw_all := lw_in 581 (by decide +kernel) (by decide +kernel)
theorem q_im_X1_isSchool : Cond.instanceMethod yX1_isSchool ∈ lw_all := lw_in 580 (by decide +kernel) (by decide +kernel)
theorem q_se_X1_isSchool : Cond.selects RX1 yX1_isSchool yX1_isSchool ∈ lw_all := lw_in 23 (by decide +kernel) (by decide +kernel)
theorem n_X1_isSchool : yX1_isSchool.cls = RX1 ∧ yX1_isSchool.cls ≠ "java/lang/invoke/MethodHandle" ∧ yX1_isSchool.cls ≠ "java/lang/invoke/VarHandle" ∧ (parseMethodDescriptor yX1_isSchool.desc).map (fun d => d.parameters.length) = some 1 := by decide +kernel
theorem q_c_X1_isToss : Cond.code yX1_isToss cX1_isToss 2 (some .boolean) ∈ lw_all := lw_in 644 (by decide +kernel) (by decide +kernel)
theorem q_im_X1_isToss : Cond.instanceMethod yX1_isToss ∈ lw_all := lw_in 643 (by decide +kernel) (by decide +kernel)
theorem q_se_X1_isToss : Cond.selects RX1 yX1_isToss yX1_isToss ∈ lw_all := lw_in 33 (by decide +kernel) (by decide +kernel)
theorem n_X1_isToss : yX1_isToss.cls = RX1 ∧ yX1_isToss.cls ≠ "java/lang/invoke/MethodHandle" ∧ yX1_isToss.cls ≠ "java/lang/invoke/VarHandle" ∧ (parseMethodDescriptor yX1_isToss.desc).map (fun d => d.parameters.length) = some 1 := by decide +kernel
theorem q_c_X1_headsIn : Cond.code yX1_headsIn cX1_headsIn 4 (some .int) ∈ lw_all := lw_in 600 (by decide +kernel) (by decide +kernel)
theorem q_st_X1_headsIn : Cond.static yX1_headsIn ∈ lw_all := lw_in 599 (by decide +kernel) (by decide +kernel)
theorem n_X1_headsIn : yX1_headsIn.cls ≠ "java/lang/invoke/MethodHandle" ∧ yX1_headsIn.cls ≠ "java/lang/invoke/VarHandle" ∧ (parseMethodDescriptor yX1_headsIn.desc).map (fun d => d.parameters.length) = some 2 := by decide +kernel
theorem q_c_X1_headsNow : Cond.code yX1_headsNow cX1_headsNow 1 (some .int) ∈ lw_all := lw_in 597 (by decide +kernel) (by decide +kernel)
theorem q_im_X1_headsNow : Cond.instanceMethod yX1_headsNow ∈ lw_all := lw_in 596 (by decide +kernel) (by decide +kernel)
theorem q_se_X1_headsNow : Cond.selects RX1 yX1_headsNow yX1_headsNow ∈ lw_all := lw_in 26 (by decide +kernel) (by decide +kernel)
theorem n_X1_headsNow : yX1_headsNow.cls = RX1 ∧ yX1_headsNow.cls ≠ "java/lang/invoke/MethodHandle" ∧ yX1_headsNow.cls ≠ "java/lang/invoke/VarHandle" ∧ (parseMethodDescriptor yX1_headsNow.desc).map (fun d => d.parameters.length) = some 0 := by decide +kernel
theorem q_c_X1_power : Cond.code yX1_power cX1_power 5 (some .long) ∈ lw_all := lw_in 623 (by decide +kernel) (by decide +kernel)
theorem q_st_X1_power : Cond.static yX1_power ∈ lw_all := lw_in 622 (by decide +kernel) (by decide +kernel)
theorem n_X1_power : yX1_power.cls ≠ "java/lang/invoke/MethodHandle" ∧ yX1_power.cls ≠ "java/lang/invoke/VarHandle" ∧ (parseMethodDescriptor yX1_power.desc).map (fun d => d.parameters.length) = some 2 := by decide +kernel
theorem q_c_X1_falls : Cond.code yX1_falls cX1_falls 4 (some .long) ∈ lw_all := lw_in 620 (by decide +kernel) (by decide +kernel)
theorem q_im_X1_falls : Cond.instanceMethod yX1_falls ∈ lw_all := lw_in 619 (by decide +kernel) (by decide +kernel)
theorem q_se_X1_falls : Cond.selects RX1 yX1_falls yX1_falls ∈ lw_all := lw_in 31 (by decide +kernel) (by decide +kernel)
theorem n_X1_falls : yX1_falls.cls = RX1 ∧ yX1_falls.cls ≠ "java/lang/invoke/MethodHandle" ∧ yX1_falls.cls ≠ "java/lang/invoke/VarHandle" ∧ (parseMethodDescriptor yX1_falls.desc).map (fun d => d.parameters.length) = some 3 := by decide +kernel
theorem q_c_X1_given : Cond.code yX1_given cX1_given 4 (some .int) ∈ lw_all := lw_in 616 (by decide +kernel) (by decide +kernel)
theorem q_im_X1_given : Cond.instanceMethod yX1_given ∈ lw_all := lw_in 615 (by decide +kernel) (by decide +kernel)
theorem q_se_X1_given : Cond.selects RX1 yX1_given yX1_given ∈ lw_all := lw_in 30 (by decide +kernel) (by decide +kernel)
theorem n_X1_given : yX1_given.cls = RX1 ∧ yX1_given.cls ≠ "java/lang/invoke/MethodHandle" ∧ yX1_given.cls ≠ "java/lang/invoke/VarHandle" ∧ (parseMethodDescriptor yX1_given.desc).map (fun d => d.parameters.length) = some 1 := by decide +kernel
theorem q_c_X1_weight : Cond.code yX1_weight cX1_weight 4 (some .long) ∈ lw_all := lw_in 612 (by decide +kernel) (by decide +kernel)
theorem q_im_X1_weight : Cond.instanceMethod yX1_weight ∈ lw_all := lw_in 611 (by decide +kernel) (by decide +kernel)
theorem q_se_X1_weight : Cond.selects RX1 yX1_weight yX1_weight ∈ lw_all := lw_in 29 (by decide +kernel) (by decide +kernel)
theorem n_X1_weight : yX1_weight.cls = RX1 ∧ yX1_weight.cls ≠ "java/lang/invoke/MethodHandle" ∧ yX1_weight.cls ≠ "java/lang/invoke/VarHandle" ∧ (parseMethodDescriptor yX1_weight.desc).map (fun d => d.parameters.length) = some 3 := by decide +kernel
theorem q_c_X1_whole : Cond.code yX1_whole cX1_whole 6 (some .long) ∈ lw_all := lw_in 608 (by decide +kernel) (by decide +kernel)
theorem q_im_X1_whole : Cond.instanceMethod yX1_whole ∈ lw_all := lw_in 607 (by decide +kernel) (by decide +kernel)
theorem q_se_X1_whole : Cond.selects RX1 yX1_whole yX1_whole ∈ lw_all := lw_in 28 (by decide +kernel) (by decide +kernel)
theorem n_X1_whole : yX1_whole.cls = RX1 ∧ yX1_whole.cls ≠ "java/lang/invoke/MethodHandle" ∧ yX1_whole.cls ≠ "java/lang/invoke/VarHandle" ∧ (parseMethodDescriptor yX1_whole.desc).map (fun d => d.parameters.length) = some 2 := by decide +kernel
theorem q_c_X1_chance : Cond.code yX1_chance cX1_chance 4 (some .long) ∈ lw_all := lw_in 604 (by decide +kernel) (by decide +kernel)
theorem q_im_X1_chance : Cond.instanceMethod yX1_chance ∈ lw_all := lw_in 603 (by decide +kernel) (by decide +kernel)
theorem q_se_X1_chance : Cond.selects RX1 yX1_chance yX1_chance ∈ lw_all := lw_in 27 (by decide +kernel) (by decide +kernel)
theorem n_X1_chance : yX1_chance.cls = RX1 ∧ yX1_chance.cls ≠ "java/lang/invoke/MethodHandle" ∧ yX1_chance.cls ≠ "java/lang/invoke/VarHandle" ∧ (parseMethodDescriptor yX1_chance.desc).map (fun d => d.parameters.length) = some 3 := by decide +kernel
theorem q_c_X1_surprise : Cond.code yX1_surprise cX1_surprise 9 (some .int) ∈ lw_all := lw_in 627 (by decide +kernel) (by decide +kernel)
theorem q_im_X1_surprise : Cond.instanceMethod yX1_surprise ∈ lw_all := lw_in 626 (by decide +kernel) (by decide +kernel)
theorem q_se_X1_surprise : Cond.selects RX1 yX1_surprise yX1_surprise ∈ lw_all := lw_in 32 (by decide +kernel) (by decide +kernel)
theorem n_X1_surprise : yX1_surprise.cls = RX1 ∧ yX1_surprise.cls ≠ "java/lang/invoke/MethodHandle" ∧ yX1_surprise.cls ≠ "java/lang/invoke/VarHandle" ∧ (parseMethodDescriptor yX1_surprise.desc).map (fun d => d.parameters.length) = some 3 := by decide +kernel
theorem q_c_X1_leader : Cond.code yX1_leader cX1_leader 5 (some .int) ∈ lw_all := lw_in 749 (by decide +kernel) (by decide +kernel)
theorem q_im_X1_leader : Cond.instanceMethod yX1_leader ∈ lw_all := lw_in 748 (by decide +kernel) (by decide +kernel)
theorem q_se_X1_leader : Cond.selects RX1 yX1_leader yX1_leader ∈ lw_all := lw_in 42 (by decide +kernel) (by decide +kernel)
theorem n_X1_leader : yX1_leader.cls = RX1 ∧ yX1_leader.cls ≠ "java/lang/invoke/MethodHandle" ∧ yX1_leader.cls ≠ "java/lang/invoke/VarHandle" ∧ (parseMethodDescriptor yX1_leader.desc).map (fun d => d.parameters.length) = some 2 := by decide +kernel
theorem q_c_X1_here : Cond.code yX1_here cX1_here 2 (some .long) ∈ lw_all := lw_in 700 (by decide +kernel) (by decide +kernel)
theorem q_im_X1_here : Cond.instanceMethod yX1_here ∈ lw_all := lw_in 699 (by decide +kernel) (by decide +kernel)
theorem q_se_X1_here : Cond.selects RX1 yX1_here yX1_here ∈ lw_all := lw_in 37 (by decide +kernel) (by decide +kernel)
theorem n_X1_here : yX1_here.cls = RX1 ∧ yX1_here.cls ≠ "java/lang/invoke/MethodHandle" ∧ yX1_here.cls ≠ "java/lang/invoke/VarHandle" ∧ (parseMethodDescriptor yX1_here.desc).map (fun d => d.parameters.length) = some 1 := by decide +kernel
theorem q_c_X1_all : Cond.code yX1_all cX1_all 1 (some .long) ∈ lw_all := lw_in 716 (by decide +kernel) (by decide +kernel)
theorem q_im_X1_all : Cond.instanceMethod yX1_all ∈ lw_all := lw_in 715 (by decide +kernel) (by decide +kernel)
theorem q_se_X1_all : Cond.selects RX1 yX1_all yX1_all ∈ lw_all := lw_in 39 (by decide +kernel) (by decide +kernel)
theorem n_X1_all : yX1_all.cls = RX1 ∧ yX1_all.cls ≠ "java/lang/invoke/MethodHandle" ∧ yX1_all.cls ≠ "java/lang/invoke/VarHandle" ∧ (parseMethodDescriptor yX1_all.desc).map (fun d => d.parameters.length) = some 0 := by decide +kernel
theorem q_c_X1_addCoin : Cond.code yX1_addCoin cX1_addCoin 3 (some .int) ∈ lw_all := lw_in 562 (by decide +kernel) (by decide +kernel)
theorem q_im_X1_addCoin : Cond.instanceMethod yX1_addCoin ∈ lw_all := lw_in 560 (by decide +kernel) (by decide +kernel)
theorem q_se_X1_addCoin : Cond.selects RX1 yX1_addCoin yX1_addCoin ∈ lw_all := lw_in 561 (by decide +kernel) (by decide +kernel)
theorem n_X1_addCoin : yX1_addCoin.cls = RX1 ∧ yX1_addCoin.cls ≠ "java/lang/invoke/MethodHandle" ∧ yX1_addCoin.cls ≠ "java/lang/invoke/VarHandle" ∧ (parseMethodDescriptor yX1_addCoin.desc).map (fun d => d.parameters.length) = some 1 := by decide +kernel
theorem q_c_X1_addSchool : Cond.code yX1_addSchool cX1_addSchool 3 (some .int) ∈ lw_all := lw_in 573 (by decide +kernel) (by decide +kernel)
theorem q_im_X1_addSchool : Cond.instanceMethod yX1_addSchool ∈ lw_all := lw_in 571 (by decide +kernel) (by decide +kernel)
theorem q_se_X1_addSchool : Cond.selects RX1 yX1_addSchool yX1_addSchool ∈ lw_all := lw_in 572 (by decide +kernel) (by decide +kernel)
theorem n_X1_addSchool : yX1_addSchool.cls = RX1 ∧ yX1_addSchool.cls ≠ "java/lang/invoke/MethodHandle" ∧ yX1_addSchool.cls ≠ "java/lang/invoke/VarHandle" ∧ (parseMethodDescriptor yX1_addSchool.desc).map (fun d => d.parameters.length) = some 1 := by decide +kernel
theorem q_c_X1_setShare : Cond.code yX1_setShare cX1_setShare 5 (some .int) ∈ lw_all := lw_in 577 (by decide +kernel) (by decide +kernel)
theorem q_im_X1_setShare : Cond.instanceMethod yX1_setShare ∈ lw_all := lw_in 575 (by decide +kernel) (by decide +kernel)
theorem q_se_X1_setShare : Cond.selects RX1 yX1_setShare yX1_setShare ∈ lw_all := lw_in 576 (by decide +kernel) (by decide +kernel)
theorem n_X1_setShare : yX1_setShare.cls = RX1 ∧ yX1_setShare.cls ≠ "java/lang/invoke/MethodHandle" ∧ yX1_setShare.cls ≠ "java/lang/invoke/VarHandle" ∧ (parseMethodDescriptor yX1_setShare.desc).map (fun d => d.parameters.length) = some 3 := by decide +kernel
theorem q_c_X1_canBe : Cond.code yX1_canBe cX1_canBe 2 (some .boolean) ∈ lw_all := lw_in 593 (by decide +kernel) (by decide +kernel)
theorem q_im_X1_canBe : Cond.instanceMethod yX1_canBe ∈ lw_all := lw_in 592 (by decide +kernel) (by decide +kernel)
theorem q_se_X1_canBe : Cond.selects RX1 yX1_canBe yX1_canBe ∈ lw_all := lw_in 25 (by decide +kernel) (by decide +kernel)
theorem n_X1_canBe : yX1_canBe.cls = RX1 ∧ yX1_canBe.cls ≠ "java/lang/invoke/MethodHandle" ∧ yX1_canBe.cls ≠ "java/lang/invoke/VarHandle" ∧ (parseMethodDescriptor yX1_canBe.desc).map (fun d => d.parameters.length) = some 1 := by decide +kernel
theorem q_c_X1_toss : Cond.code yX1_toss cX1_toss 3 (some .int) ∈ lw_all := lw_in 589 (by decide +kernel) (by decide +kernel)
theorem q_im_X1_toss : Cond.instanceMethod yX1_toss ∈ lw_all := lw_in 587 (by decide +kernel) (by decide +kernel)
theorem q_se_X1_toss : Cond.selects RX1 yX1_toss yX1_toss ∈ lw_all := lw_in 588 (by decide +kernel) (by decide +kernel)
theorem n_X1_toss : yX1_toss.cls = RX1 ∧ yX1_toss.cls ≠ "java/lang/invoke/MethodHandle" ∧ yX1_toss.cls ≠ "java/lang/invoke/VarHandle" ∧ (parseMethodDescriptor yX1_toss.desc).map (fun d => d.parameters.length) = some 1 := by decide +kernel
theorem q_c_X1_without : Cond.code yX1_without cX1_without 2 (some .int) ∈ lw_all := lw_in 636 (by decide +kernel) (by decide +kernel)
theorem q_st_X1_without : Cond.static yX1_without ∈ lw_all := lw_in 635 (by decide +kernel) (by decide +kernel)
theorem n_X1_without : yX1_without.cls ≠ "java/lang/invoke/MethodHandle" ∧ yX1_without.cls ≠ "java/lang/invoke/VarHandle" ∧ (parseMethodDescriptor yX1_without.desc).map (fun d => d.parameters.length) = some 2 := by decide +kernel
theorem q_c_X1_undo : Cond.code yX1_undo cX1_undo 2 (some .boolean) ∈ lw_all := lw_in 633 (by decide +kernel) (by decide +kernel)
theorem q_im_X1_undo : Cond.instanceMethod yX1_undo ∈ lw_all := lw_in 631 (by decide +kernel) (by decide +kernel)
theorem q_se_X1_undo : Cond.selects RX1 yX1_undo yX1_undo ∈ lw_all := lw_in 632 (by decide +kernel) (by decide +kernel)
theorem n_X1_undo : yX1_undo.cls = RX1 ∧ yX1_undo.cls ≠ "java/lang/invoke/MethodHandle" ∧ yX1_undo.cls ≠ "java/lang/invoke/VarHandle" ∧ (parseMethodDescriptor yX1_undo.desc).map (fun d => d.parameters.length) = some 0 := by decide +kernel
theorem q_c_X1_strike : Cond.code yX1_strike cX1_strike 2 (some .int) ∈ lw_all := lw_in 640 (by decide +kernel) (by decide +kernel)
theorem q_im_X1_strike : Cond.instanceMethod yX1_strike ∈ lw_all := lw_in 638 (by decide +kernel) (by decide +kernel)
theorem q_se_X1_strike : Cond.selects RX1 yX1_strike yX1_strike ∈ lw_all := lw_in 639 (by decide +kernel) (by decide +kernel)
theorem n_X1_strike : yX1_strike.cls = RX1 ∧ yX1_strike.cls ≠ "java/lang/invoke/MethodHandle" ∧ yX1_strike.cls ≠ "java/lang/invoke/VarHandle" ∧ (parseMethodDescriptor yX1_strike.desc).map (fun d => d.parameters.length) = some 1 := by decide +kernel
theorem q_c_X1_coins : Cond.code yX1_coins cX1_coins 1 (some .int) ∈ lw_all := lw_in 648 (by decide +kernel) (by decide +kernel)
theorem q_im_X1_coins : Cond.instanceMethod yX1_coins ∈ lw_all := lw_in 646 (by decide +kernel) (by decide +kernel)
theorem q_se_X1_coins : Cond.selects RX1 yX1_coins yX1_coins ∈ lw_all := lw_in 647 (by decide +kernel) (by decide +kernel)
theorem n_X1_coins : yX1_coins.cls = RX1 ∧ yX1_coins.cls ≠ "java/lang/invoke/MethodHandle" ∧ yX1_coins.cls ≠ "java/lang/invoke/VarHandle" ∧ (parseMethodDescriptor yX1_coins.desc).map (fun d => d.parameters.length) = some 0 := by decide +kernel
theorem q_c_X1_schools : Cond.code yX1_schools cX1_schools 1 (some .int) ∈ lw_all := lw_in 656 (by decide +kernel) (by decide +kernel)
theorem q_im_X1_schools : Cond.instanceMethod yX1_schools ∈ lw_all := lw_in 654 (by decide +kernel) (by decide +kernel)
theorem q_se_X1_schools : Cond.selects RX1 yX1_schools yX1_schools ∈ lw_all := lw_in 655 (by decide +kernel) (by decide +kernel)
theorem n_X1_schools : yX1_schools.cls = RX1 ∧ yX1_schools.cls ≠ "java/lang/invoke/MethodHandle" ∧ yX1_schools.cls ≠ "java/lang/invoke/VarHandle" ∧ (parseMethodDescriptor yX1_schools.desc).map (fun d => d.parameters.length) = some 0 := by decide +kernel
theorem q_c_X1_tosses : Cond.code yX1_tosses cX1_tosses 1 (some .int) ∈ lw_all := lw_in 660 (by decide +kernel) (by decide +kernel)
theorem q_im_X1_tosses : Cond.instanceMethod yX1_tosses ∈ lw_all := lw_in 658 (by decide +kernel) (by decide +kernel)
theorem q_se_X1_tosses : Cond.selects RX1 yX1_tosses yX1_tosses ∈ lw_all := lw_in 659 (by decide +kernel) (by decide +kernel)
theorem n_X1_tosses : yX1_tosses.cls = RX1 ∧ yX1_tosses.cls ≠ "java/lang/invoke/MethodHandle" ∧ yX1_tosses.cls ≠ "java/lang/invoke/VarHandle" ∧ (parseMethodDescriptor yX1_tosses.desc).map (fun d => d.parameters.length) = some 0 := by decide +kernel
theorem q_c_X1_heads : Cond.code yX1_heads cX1_heads 1 (some .int) ∈ lw_all := lw_in 664 (by decide +kernel) (by decide +kernel)
theorem q_im_X1_heads : Cond.instanceMethod yX1_heads ∈ lw_all := lw_in 662 (by decide +kernel) (by decide +kernel)
theorem q_se_X1_heads : Cond.selects RX1 yX1_heads yX1_heads ∈ lw_all := lw_in 663 (by decide +kernel) (by decide +kernel)
theorem n_X1_heads : yX1_heads.cls = RX1 ∧ yX1_heads.cls ≠ "java/lang/invoke/MethodHandle" ∧ yX1_heads.cls ≠ "java/lang/invoke/VarHandle" ∧ (parseMethodDescriptor yX1_heads.desc).map (fun d => d.parameters.length) = some 0 := by decide +kernel
theorem q_c_X1_isUp : Cond.code yX1_isUp cX1_isUp 2 (some .boolean) ∈ lw_all := lw_in 672 (by decide +kernel) (by decide +kernel)
theorem q_im_X1_isUp : Cond.instanceMethod yX1_isUp ∈ lw_all := lw_in 671 (by decide +kernel) (by decide +kernel)
theorem q_se_X1_isUp : Cond.selects RX1 yX1_isUp yX1_isUp ∈ lw_all := lw_in 35 (by decide +kernel) (by decide +kernel)
theorem n_X1_isUp : yX1_isUp.cls = RX1 ∧ yX1_isUp.cls ≠ "java/lang/invoke/MethodHandle" ∧ yX1_isUp.cls ≠ "java/lang/invoke/VarHandle" ∧ (parseMethodDescriptor yX1_isUp.desc).map (fun d => d.parameters.length) = some 1 := by decide +kernel
theorem q_c_X1_isHeads : Cond.code yX1_isHeads cX1_isHeads 2 (some .boolean) ∈ lw_all := lw_in 668 (by decide +kernel) (by decide +kernel)
theorem q_im_X1_isHeads : Cond.instanceMethod yX1_isHeads ∈ lw_all := lw_in 666 (by decide +kernel) (by decide +kernel)
theorem q_se_X1_isHeads : Cond.selects RX1 yX1_isHeads yX1_isHeads ∈ lw_all := lw_in 667 (by decide +kernel) (by decide +kernel)
theorem n_X1_isHeads : yX1_isHeads.cls = RX1 ∧ yX1_isHeads.cls ≠ "java/lang/invoke/MethodHandle" ∧ yX1_isHeads.cls ≠ "java/lang/invoke/VarHandle" ∧ (parseMethodDescriptor yX1_isHeads.desc).map (fun d => d.parameters.length) = some 1 := by decide +kernel
theorem q_c_X1_tenthsOf : Cond.code yX1_tenthsOf cX1_tenthsOf 2 (some .int) ∈ lw_all := lw_in 676 (by decide +kernel) (by decide +kernel)
theorem q_im_X1_tenthsOf : Cond.instanceMethod yX1_tenthsOf ∈ lw_all := lw_in 674 (by decide +kernel) (by decide +kernel)
theorem q_se_X1_tenthsOf : Cond.selects RX1 yX1_tenthsOf yX1_tenthsOf ∈ lw_all := lw_in 675 (by decide +kernel) (by decide +kernel)
theorem n_X1_tenthsOf : yX1_tenthsOf.cls = RX1 ∧ yX1_tenthsOf.cls ≠ "java/lang/invoke/MethodHandle" ∧ yX1_tenthsOf.cls ≠ "java/lang/invoke/VarHandle" ∧ (parseMethodDescriptor yX1_tenthsOf.desc).map (fun d => d.parameters.length) = some 1 := by decide +kernel
theorem q_c_X1_oddsOf : Cond.code yX1_oddsOf cX1_oddsOf 2 (some .int) ∈ lw_all := lw_in 680 (by decide +kernel) (by decide +kernel)
theorem q_im_X1_oddsOf : Cond.instanceMethod yX1_oddsOf ∈ lw_all := lw_in 678 (by decide +kernel) (by decide +kernel)
theorem q_se_X1_oddsOf : Cond.selects RX1 yX1_oddsOf yX1_oddsOf ∈ lw_all := lw_in 679 (by decide +kernel) (by decide +kernel)
theorem n_X1_oddsOf : yX1_oddsOf.cls = RX1 ∧ yX1_oddsOf.cls ≠ "java/lang/invoke/MethodHandle" ∧ yX1_oddsOf.cls ≠ "java/lang/invoke/VarHandle" ∧ (parseMethodDescriptor yX1_oddsOf.desc).map (fun d => d.parameters.length) = some 1 := by decide +kernel
theorem q_c_X1_shareOf : Cond.code yX1_shareOf cX1_shareOf 3 (some .int) ∈ lw_all := lw_in 684 (by decide +kernel) (by decide +kernel)
theorem q_im_X1_shareOf : Cond.instanceMethod yX1_shareOf ∈ lw_all := lw_in 682 (by decide +kernel) (by decide +kernel)
theorem q_se_X1_shareOf : Cond.selects RX1 yX1_shareOf yX1_shareOf ∈ lw_all := lw_in 683 (by decide +kernel) (by decide +kernel)
theorem n_X1_shareOf : yX1_shareOf.cls = RX1 ∧ yX1_shareOf.cls ≠ "java/lang/invoke/MethodHandle" ∧ yX1_shareOf.cls ≠ "java/lang/invoke/VarHandle" ∧ (parseMethodDescriptor yX1_shareOf.desc).map (fun d => d.parameters.length) = some 2 := by decide +kernel
theorem q_c_X1_pair : Cond.code yX1_pair cX1_pair 3 (some .long) ∈ lw_all := lw_in 692 (by decide +kernel) (by decide +kernel)
theorem q_im_X1_pair : Cond.instanceMethod yX1_pair ∈ lw_all := lw_in 691 (by decide +kernel) (by decide +kernel)
theorem q_se_X1_pair : Cond.selects RX1 yX1_pair yX1_pair ∈ lw_all := lw_in 36 (by decide +kernel) (by decide +kernel)
theorem n_X1_pair : yX1_pair.cls = RX1 ∧ yX1_pair.cls ≠ "java/lang/invoke/MethodHandle" ∧ yX1_pair.cls ≠ "java/lang/invoke/VarHandle" ∧ (parseMethodDescriptor yX1_pair.desc).map (fun d => d.parameters.length) = some 2 := by decide +kernel
theorem q_c_X1_schoolHere : Cond.code yX1_schoolHere cX1_schoolHere 5 (some .long) ∈ lw_all := lw_in 708 (by decide +kernel) (by decide +kernel)
theorem q_im_X1_schoolHere : Cond.instanceMethod yX1_schoolHere ∈ lw_all := lw_in 707 (by decide +kernel) (by decide +kernel)
theorem q_se_X1_schoolHere : Cond.selects RX1 yX1_schoolHere yX1_schoolHere ∈ lw_all := lw_in 38 (by decide +kernel) (by decide +kernel)
theorem n_X1_schoolHere : yX1_schoolHere.cls = RX1 ∧ yX1_schoolHere.cls ≠ "java/lang/invoke/MethodHandle" ∧ yX1_schoolHere.cls ≠ "java/lang/invoke/VarHandle" ∧ (parseMethodDescriptor yX1_schoolHere.desc).map (fun d => d.parameters.length) = some 1 := by decide +kernel
theorem q_c_X1_weightOf : Cond.code yX1_weightOf cX1_weightOf 3 (some .long) ∈ lw_all := lw_in 688 (by decide +kernel) (by decide +kernel)
theorem q_im_X1_weightOf : Cond.instanceMethod yX1_weightOf ∈ lw_all := lw_in 686 (by decide +kernel) (by decide +kernel)
theorem q_se_X1_weightOf : Cond.selects RX1 yX1_weightOf yX1_weightOf ∈ lw_all := lw_in 687 (by decide +kernel) (by decide +kernel)
theorem n_X1_weightOf : yX1_weightOf.cls = RX1 ∧ yX1_weightOf.cls ≠ "java/lang/invoke/MethodHandle" ∧ yX1_weightOf.cls ≠ "java/lang/invoke/VarHandle" ∧ (parseMethodDescriptor yX1_weightOf.desc).map (fun d => d.parameters.length) = some 2 := by decide +kernel
theorem q_c_X1_coinWeight : Cond.code yX1_coinWeight cX1_coinWeight 2 (some .long) ∈ lw_all := lw_in 696 (by decide +kernel) (by decide +kernel)
theorem q_im_X1_coinWeight : Cond.instanceMethod yX1_coinWeight ∈ lw_all := lw_in 694 (by decide +kernel) (by decide +kernel)
theorem q_se_X1_coinWeight : Cond.selects RX1 yX1_coinWeight yX1_coinWeight ∈ lw_all := lw_in 695 (by decide +kernel) (by decide +kernel)
theorem n_X1_coinWeight : yX1_coinWeight.cls = RX1 ∧ yX1_coinWeight.cls ≠ "java/lang/invoke/MethodHandle" ∧ yX1_coinWeight.cls ≠ "java/lang/invoke/VarHandle" ∧ (parseMethodDescriptor yX1_coinWeight.desc).map (fun d => d.parameters.length) = some 1 := by decide +kernel
theorem q_c_X1_schoolWeight : Cond.code yX1_schoolWeight cX1_schoolWeight 2 (some .long) ∈ lw_all := lw_in 704 (by decide +kernel) (by decide +kernel)
theorem q_im_X1_schoolWeight : Cond.instanceMethod yX1_schoolWeight ∈ lw_all := lw_in 702 (by decide +kernel) (by decide +kernel)
theorem q_se_X1_schoolWeight : Cond.selects RX1 yX1_schoolWeight yX1_schoolWeight ∈ lw_all := lw_in 703 (by decide +kernel) (by decide +kernel)
theorem n_X1_schoolWeight : yX1_schoolWeight.cls = RX1 ∧ yX1_schoolWeight.cls ≠ "java/lang/invoke/MethodHandle" ∧ yX1_schoolWeight.cls ≠ "java/lang/invoke/VarHandle" ∧ (parseMethodDescriptor yX1_schoolWeight.desc).map (fun d => d.parameters.length) = some 1 := by decide +kernel
theorem q_c_X1_wholeWeight : Cond.code yX1_wholeWeight cX1_wholeWeight 1 (some .long) ∈ lw_all := lw_in 712 (by decide +kernel) (by decide +kernel)
theorem q_im_X1_wholeWeight : Cond.instanceMethod yX1_wholeWeight ∈ lw_all := lw_in 710 (by decide +kernel) (by decide +kernel)
theorem q_se_X1_wholeWeight : Cond.selects RX1 yX1_wholeWeight yX1_wholeWeight ∈ lw_all := lw_in 711 (by decide +kernel) (by decide +kernel)
theorem n_X1_wholeWeight : yX1_wholeWeight.cls = RX1 ∧ yX1_wholeWeight.cls ≠ "java/lang/invoke/MethodHandle" ∧ yX1_wholeWeight.cls ≠ "java/lang/invoke/VarHandle" ∧ (parseMethodDescriptor yX1_wholeWeight.desc).map (fun d => d.parameters.length) = some 0 := by decide +kernel
theorem q_c_X1_isRuledOut : Cond.code yX1_isRuledOut cX1_isRuledOut 2 (some .boolean) ∈ lw_all := lw_in 720 (by decide +kernel) (by decide +kernel)
theorem q_im_X1_isRuledOut : Cond.instanceMethod yX1_isRuledOut ∈ lw_all := lw_in 718 (by decide +kernel) (by decide +kernel)
theorem q_se_X1_isRuledOut : Cond.selects RX1 yX1_isRuledOut yX1_isRuledOut ∈ lw_all := lw_in 719 (by decide +kernel) (by decide +kernel)
theorem n_X1_isRuledOut : yX1_isRuledOut.cls = RX1 ∧ yX1_isRuledOut.cls ≠ "java/lang/invoke/MethodHandle" ∧ yX1_isRuledOut.cls ≠ "java/lang/invoke/VarHandle" ∧ (parseMethodDescriptor yX1_isRuledOut.desc).map (fun d => d.parameters.length) = some 1 := by decide +kernel
theorem q_c_X1_gone : Cond.code yX1_gone cX1_gone 3 (some .int) ∈ lw_all := lw_in 728 (by decide +kernel) (by decide +kernel)
theorem q_im_X1_gone : Cond.instanceMethod yX1_gone ∈ lw_all := lw_in 727 (by decide +kernel) (by decide +kernel)
theorem q_se_X1_gone : Cond.selects RX1 yX1_gone yX1_gone ∈ lw_all := lw_in 40 (by decide +kernel) (by decide +kernel)
theorem n_X1_gone : yX1_gone.cls = RX1 ∧ yX1_gone.cls ≠ "java/lang/invoke/MethodHandle" ∧ yX1_gone.cls ≠ "java/lang/invoke/VarHandle" ∧ (parseMethodDescriptor yX1_gone.desc).map (fun d => d.parameters.length) = some 0 := by decide +kernel
theorem q_c_X1_ruledOut : Cond.code yX1_ruledOut cX1_ruledOut 1 (some .int) ∈ lw_all := lw_in 724 (by decide +kernel) (by decide +kernel)
theorem q_im_X1_ruledOut : Cond.instanceMethod yX1_ruledOut ∈ lw_all := lw_in 722 (by decide +kernel) (by decide +kernel)
theorem q_se_X1_ruledOut : Cond.selects RX1 yX1_ruledOut yX1_ruledOut ∈ lw_all := lw_in 723 (by decide +kernel) (by decide +kernel)
theorem n_X1_ruledOut : yX1_ruledOut.cls = RX1 ∧ yX1_ruledOut.cls ≠ "java/lang/invoke/MethodHandle" ∧ yX1_ruledOut.cls ≠ "java/lang/invoke/VarHandle" ∧ (parseMethodDescriptor yX1_ruledOut.desc).map (fun d => d.parameters.length) = some 0 := by decide +kernel
theorem q_c_X1_coinPercent : Cond.code yX1_coinPercent cX1_coinPercent 2 (some .int) ∈ lw_all := lw_in 732 (by decide +kernel) (by decide +kernel)
theorem q_im_X1_coinPercent : Cond.instanceMethod yX1_coinPercent ∈ lw_all := lw_in 730 (by decide +kernel) (by decide +kernel)
theorem q_se_X1_coinPercent : Cond.selects RX1 yX1_coinPercent yX1_coinPercent ∈ lw_all := lw_in 731 (by decide +kernel) (by decide +kernel)
theorem n_X1_coinPercent : yX1_coinPercent.cls = RX1 ∧ yX1_coinPercent.cls ≠ "java/lang/invoke/MethodHandle" ∧ yX1_coinPercent.cls ≠ "java/lang/invoke/VarHandle" ∧ (parseMethodDescriptor yX1_coinPercent.desc).map (fun d => d.parameters.length) = some 1 := by decide +kernel
theorem q_c_X1_schoolPercent : Cond.code yX1_schoolPercent cX1_schoolPercent 2 (some .int) ∈ lw_all := lw_in 737 (by decide +kernel) (by decide +kernel)
theorem q_im_X1_schoolPercent : Cond.instanceMethod yX1_schoolPercent ∈ lw_all := lw_in 735 (by decide +kernel) (by decide +kernel)
theorem q_se_X1_schoolPercent : Cond.selects RX1 yX1_schoolPercent yX1_schoolPercent ∈ lw_all := lw_in 736 (by decide +kernel) (by decide +kernel)
theorem n_X1_schoolPercent : yX1_schoolPercent.cls = RX1 ∧ yX1_schoolPercent.cls ≠ "java/lang/invoke/MethodHandle" ∧ yX1_schoolPercent.cls ≠ "java/lang/invoke/VarHandle" ∧ (parseMethodDescriptor yX1_schoolPercent.desc).map (fun d => d.parameters.length) = some 1 := by decide +kernel
theorem q_c_X1_leads : Cond.code yX1_leads cX1_leads 1 (some .int) ∈ lw_all := lw_in 745 (by decide +kernel) (by decide +kernel)
theorem q_im_X1_leads : Cond.instanceMethod yX1_leads ∈ lw_all := lw_in 744 (by decide +kernel) (by decide +kernel)
theorem q_se_X1_leads : Cond.selects RX1 yX1_leads yX1_leads ∈ lw_all := lw_in 41 (by decide +kernel) (by decide +kernel)
theorem n_X1_leads : yX1_leads.cls = RX1 ∧ yX1_leads.cls ≠ "java/lang/invoke/MethodHandle" ∧ yX1_leads.cls ≠ "java/lang/invoke/VarHandle" ∧ (parseMethodDescriptor yX1_leads.desc).map (fun d => d.parameters.length) = some 0 := by decide +kernel
theorem q_c_X1_leadingCoin : Cond.code yX1_leadingCoin cX1_leadingCoin 1 (some .int) ∈ lw_all := lw_in 741 (by decide +kernel) (by decide +kernel)
theorem q_im_X1_leadingCoin : Cond.instanceMethod yX1_leadingCoin ∈ lw_all := lw_in 739 (by decide +kernel) (by decide +kernel)
theorem q_se_X1_leadingCoin : Cond.selects RX1 yX1_leadingCoin yX1_leadingCoin ∈ lw_all := lw_in 740 (by decide +kernel) (by decide +kernel)
theorem n_X1_leadingCoin : yX1_leadingCoin.cls = RX1 ∧ yX1_leadingCoin.cls ≠ "java/lang/invoke/MethodHandle" ∧ yX1_leadingCoin.cls ≠ "java/lang/invoke/VarHandle" ∧ (parseMethodDescriptor yX1_leadingCoin.desc).map (fun d => d.parameters.length) = some 0 := by decide +kernel
theorem q_c_X1_leadingSchool : Cond.code yX1_leadingSchool cX1_leadingSchool 3 (some .int) ∈ lw_all := lw_in 753 (by decide +kernel) (by decide +kernel)
theorem q_im_X1_leadingSchool : Cond.instanceMethod yX1_leadingSchool ∈ lw_all := lw_in 751 (by decide +kernel) (by decide +kernel)
theorem q_se_X1_leadingSchool : Cond.selects RX1 yX1_leadingSchool yX1_leadingSchool ∈ lw_all := lw_in 752 (by decide +kernel) (by decide +kernel)
theorem n_X1_leadingSchool : yX1_leadingSchool.cls = RX1 ∧ yX1_leadingSchool.cls ≠ "java/lang/invoke/MethodHandle" ∧ yX1_leadingSchool.cls ≠ "java/lang/invoke/VarHandle" ∧ (parseMethodDescriptor yX1_leadingSchool.desc).map (fun d => d.parameters.length) = some 0 := by decide +kernel
theorem q_c_X1_oddsAgainst : Cond.code yX1_oddsAgainst cX1_oddsAgainst 3 (some .long) ∈ lw_all := lw_in 757 (by decide +kernel) (by decide +kernel)
theorem q_im_X1_oddsAgainst : Cond.instanceMethod yX1_oddsAgainst ∈ lw_all := lw_in 755 (by decide +kernel) (by decide +kernel)
theorem q_se_X1_oddsAgainst : Cond.selects RX1 yX1_oddsAgainst yX1_oddsAgainst ∈ lw_all := lw_in 756 (by decide +kernel) (by decide +kernel)
theorem n_X1_oddsAgainst : yX1_oddsAgainst.cls = RX1 ∧ yX1_oddsAgainst.cls ≠ "java/lang/invoke/MethodHandle" ∧ yX1_oddsAgainst.cls ≠ "java/lang/invoke/VarHandle" ∧ (parseMethodDescriptor yX1_oddsAgainst.desc).map (fun d => d.parameters.length) = some 2 := by decide +kernel
theorem q_c_X1_surprise_ : Cond.code yX1_surprise_ cX1_surprise_ 3 (some .int) ∈ lw_all := lw_in 765 (by decide +kernel) (by decide +kernel)
theorem q_im_X1_surprise_ : Cond.instanceMethod yX1_surprise_ ∈ lw_all := lw_in 764 (by decide +kernel) (by decide +kernel)
theorem q_se_X1_surprise_ : Cond.selects RX1 yX1_surprise_ yX1_surprise_ ∈ lw_all := lw_in 43 (by decide +kernel) (by decide +kernel)
theorem n_X1_surprise_ : yX1_surprise_.cls = RX1 ∧ yX1_surprise_.cls ≠ "java/lang/invoke/MethodHandle" ∧ yX1_surprise_.cls ≠ "java/lang/invoke/VarHandle" ∧ (parseMethodDescriptor yX1_surprise_.desc).map (fun d => d.parameters.length) = some 1 := by decide +kernel
theorem q_c_X1_surpriseOf : Cond.code yX1_surpriseOf cX1_surpriseOf 2 (some .int) ∈ lw_all := lw_in 761 (by decide +kernel) (by decide +kernel)
theorem q_im_X1_surpriseOf : Cond.instanceMethod yX1_surpriseOf ∈ lw_all := lw_in 759 (by decide +kernel) (by decide +kernel)
theorem q_se_X1_surpriseOf : Cond.selects RX1 yX1_surpriseOf yX1_surpriseOf ∈ lw_all := lw_in 760 (by decide +kernel) (by decide +kernel)
theorem n_X1_surpriseOf : yX1_surpriseOf.cls = RX1 ∧ yX1_surpriseOf.cls ≠ "java/lang/invoke/MethodHandle" ∧ yX1_surpriseOf.cls ≠ "java/lang/invoke/VarHandle" ∧ (parseMethodDescriptor yX1_surpriseOf.desc).map (fun d => d.parameters.length) = some 1 := by decide +kernel
theorem q_c_X1_surprises : Cond.code yX1_surprises cX1_surprises 3 (some .int) ∈ lw_all := lw_in 773 (by decide +kernel) (by decide +kernel)
theorem q_im_X1_surprises : Cond.instanceMethod yX1_surprises ∈ lw_all := lw_in 772 (by decide +kernel) (by decide +kernel)
theorem q_se_X1_surprises : Cond.selects RX1 yX1_surprises yX1_surprises ∈ lw_all := lw_in 44 (by decide +kernel) (by decide +kernel)
theorem n_X1_surprises : yX1_surprises.cls = RX1 ∧ yX1_surprises.cls ≠ "java/lang/invoke/MethodHandle" ∧ yX1_surprises.cls ≠ "java/lang/invoke/VarHandle" ∧ (parseMethodDescriptor yX1_surprises.desc).map (fun d => d.parameters.length) = some 0 := by decide +kernel
theorem q_c_X1_allSurprise : Cond.code yX1_allSurprise cX1_allSurprise 1 (some .int) ∈ lw_all := lw_in 769 (by decide +kernel) (by decide +kernel)
theorem q_im_X1_allSurprise : Cond.instanceMethod yX1_allSurprise ∈ lw_all := lw_in 767 (by decide +kernel) (by decide +kernel)
theorem q_se_X1_allSurprise : Cond.selects RX1 yX1_allSurprise yX1_allSurprise ∈ lw_all := lw_in 768 (by decide +kernel) (by decide +kernel)
theorem n_X1_allSurprise : yX1_allSurprise.cls = RX1 ∧ yX1_allSurprise.cls ≠ "java/lang/invoke/MethodHandle" ∧ yX1_allSurprise.cls ≠ "java/lang/invoke/VarHandle" ∧ (parseMethodDescriptor yX1_allSurprise.desc).map (fun d => d.parameters.length) = some 0 := by decide +kernel
theorem q_c_X1_greatestSurprise : Cond.code yX1_greatestSurprise cX1_greatestSurprise 3 (some .int) ∈ lw_all := lw_in 777 (by decide +kernel) (by decide +kernel)
theorem q_im_X1_greatestSurprise : Cond.instanceMethod yX1_greatestSurprise ∈ lw_all := lw_in 775 (by decide +kernel) (by decide +kernel)
theorem q_se_X1_greatestSurprise : Cond.selects RX1 yX1_greatestSurprise yX1_greatestSurprise ∈ lw_all := lw_in 776 (by decide +kernel) (by decide +kernel)
theorem n_X1_greatestSurprise : yX1_greatestSurprise.cls = RX1 ∧ yX1_greatestSurprise.cls ≠ "java/lang/invoke/MethodHandle" ∧ yX1_greatestSurprise.cls ≠ "java/lang/invoke/VarHandle" ∧ (parseMethodDescriptor yX1_greatestSurprise.desc).map (fun d => d.parameters.length) = some 0 := by decide +kernel
theorem q_c_X1_headsPercent : Cond.code yX1_headsPercent cX1_headsPercent 3 (some .int) ∈ lw_all := lw_in 781 (by decide +kernel) (by decide +kernel)
theorem q_im_X1_headsPercent : Cond.instanceMethod yX1_headsPercent ∈ lw_all := lw_in 779 (by decide +kernel) (by decide +kernel)
theorem q_se_X1_headsPercent : Cond.selects RX1 yX1_headsPercent yX1_headsPercent ∈ lw_all := lw_in 780 (by decide +kernel) (by decide +kernel)
theorem n_X1_headsPercent : yX1_headsPercent.cls = RX1 ∧ yX1_headsPercent.cls ≠ "java/lang/invoke/MethodHandle" ∧ yX1_headsPercent.cls ≠ "java/lang/invoke/VarHandle" ∧ (parseMethodDescriptor yX1_headsPercent.desc).map (fun d => d.parameters.length) = some 0 := by decide +kernel
theorem q_c_X1_wouldSurprise : Cond.code yX1_wouldSurprise cX1_wouldSurprise 2 (some .int) ∈ lw_all := lw_in 785 (by decide +kernel) (by decide +kernel)
theorem q_im_X1_wouldSurprise : Cond.instanceMethod yX1_wouldSurprise ∈ lw_all := lw_in 783 (by decide +kernel) (by decide +kernel)
theorem q_se_X1_wouldSurprise : Cond.selects RX1 yX1_wouldSurprise yX1_wouldSurprise ∈ lw_all := lw_in 784 (by decide +kernel) (by decide +kernel)
theorem n_X1_wouldSurprise : yX1_wouldSurprise.cls = RX1 ∧ yX1_wouldSurprise.cls ≠ "java/lang/invoke/MethodHandle" ∧ yX1_wouldSurprise.cls ≠ "java/lang/invoke/VarHandle" ∧ (parseMethodDescriptor yX1_wouldSurprise.desc).map (fun d => d.parameters.length) = some 1 := by decide +kernel
theorem q_c_X1_leaderBehind : Cond.code yX1_leaderBehind cX1_leaderBehind 3 (some .int) ∈ lw_all := lw_in 789 (by decide +kernel) (by decide +kernel)
theorem q_im_X1_leaderBehind : Cond.instanceMethod yX1_leaderBehind ∈ lw_all := lw_in 787 (by decide +kernel) (by decide +kernel)
theorem q_se_X1_leaderBehind : Cond.selects RX1 yX1_leaderBehind yX1_leaderBehind ∈ lw_all := lw_in 788 (by decide +kernel) (by decide +kernel)
theorem n_X1_leaderBehind : yX1_leaderBehind.cls = RX1 ∧ yX1_leaderBehind.cls ≠ "java/lang/invoke/MethodHandle" ∧ yX1_leaderBehind.cls ≠ "java/lang/invoke/VarHandle" ∧ (parseMethodDescriptor yX1_leaderBehind.desc).map (fun d => d.parameters.length) = some 1 := by decide +kernel
theorem q_c_X1_isFirst : Cond.code yX1_isFirst cX1_isFirst 4 (some .boolean) ∈ lw_all := lw_in 801 (by decide +kernel) (by decide +kernel)
theorem q_im_X1_isFirst : Cond.instanceMethod yX1_isFirst ∈ lw_all := lw_in 800 (by decide +kernel) (by decide +kernel)
theorem q_se_X1_isFirst : Cond.selects RX1 yX1_isFirst yX1_isFirst ∈ lw_all := lw_in 46 (by decide +kernel) (by decide +kernel)
theorem n_X1_isFirst : yX1_isFirst.cls = RX1 ∧ yX1_isFirst.cls ≠ "java/lang/invoke/MethodHandle" ∧ yX1_isFirst.cls ≠ "java/lang/invoke/VarHandle" ∧ (parseMethodDescriptor yX1_isFirst.desc).map (fun d => d.parameters.length) = some 3 := by decide +kernel
theorem q_c_X1_toLead : Cond.code yX1_toLead cX1_toLead 5 (some .int) ∈ lw_all := lw_in 797 (by decide +kernel) (by decide +kernel)
theorem q_im_X1_toLead : Cond.instanceMethod yX1_toLead ∈ lw_all := lw_in 796 (by decide +kernel) (by decide +kernel)
theorem q_se_X1_toLead : Cond.selects RX1 yX1_toLead yX1_toLead ∈ lw_all := lw_in 45 (by decide +kernel) (by decide +kernel)
theorem n_X1_toLead : yX1_toLead.cls = RX1 ∧ yX1_toLead.cls ≠ "java/lang/invoke/MethodHandle" ∧ yX1_toLead.cls ≠ "java/lang/invoke/VarHandle" ∧ (parseMethodDescriptor yX1_toLead.desc).map (fun d => d.parameters.length) = some 1 := by decide +kernel
theorem q_c_X1_tossesToLead : Cond.code yX1_tossesToLead cX1_tossesToLead 2 (some .int) ∈ lw_all := lw_in 793 (by decide +kernel) (by decide +kernel)
theorem q_im_X1_tossesToLead : Cond.instanceMethod yX1_tossesToLead ∈ lw_all := lw_in 791 (by decide +kernel) (by decide +kernel)
theorem q_se_X1_tossesToLead : Cond.selects RX1 yX1_tossesToLead yX1_tossesToLead ∈ lw_all := lw_in 792 (by decide +kernel) (by decide +kernel)
theorem n_X1_tossesToLead : yX1_tossesToLead.cls = RX1 ∧ yX1_tossesToLead.cls ≠ "java/lang/invoke/MethodHandle" ∧ yX1_tossesToLead.cls ≠ "java/lang/invoke/VarHandle" ∧ (parseMethodDescriptor yX1_tossesToLead.desc).map (fun d => d.parameters.length) = some 1 := by decide +kernel
theorem q_c_X1_decisive : Cond.code yX1_decisive cX1_decisive 6 (some .int) ∈ lw_all := lw_in 809 (by decide +kernel) (by decide +kernel)
theorem q_im_X1_decisive : Cond.instanceMethod yX1_decisive ∈ lw_all := lw_in 808 (by decide +kernel) (by decide +kernel)
theorem q_se_X1_decisive : Cond.selects RX1 yX1_decisive yX1_decisive ∈ lw_all := lw_in 47 (by decide +kernel) (by decide +kernel)
theorem n_X1_decisive : yX1_decisive.cls = RX1 ∧ yX1_decisive.cls ≠ "java/lang/invoke/MethodHandle" ∧ yX1_decisive.cls ≠ "java/lang/invoke/VarHandle" ∧ (parseMethodDescriptor yX1_decisive.desc).map (fun d => d.parameters.length) = some 0 := by decide +kernel
theorem q_c_X1_decisiveTosses : Cond.code yX1_decisiveTosses cX1_decisiveTosses 1 (some .int) ∈ lw_all := lw_in 805 (by decide +kernel) (by decide +kernel)
theorem q_im_X1_decisiveTosses : Cond.instanceMethod yX1_decisiveTosses ∈ lw_all := lw_in 803 (by decide +kernel) (by decide +kernel)
theorem q_se_X1_decisiveTosses : Cond.selects RX1 yX1_decisiveTosses yX1_decisiveTosses ∈ lw_all := lw_in 804 (by decide +kernel) (by decide +kernel)
theorem n_X1_decisiveTosses : yX1_decisiveTosses.cls = RX1 ∧ yX1_decisiveTosses.cls ≠ "java/lang/invoke/MethodHandle" ∧ yX1_decisiveTosses.cls ≠ "java/lang/invoke/VarHandle" ∧ (parseMethodDescriptor yX1_decisiveTosses.desc).map (fun d => d.parameters.length) = some 0 := by decide +kernel
theorem q_c_X1_meanTenths : Cond.code yX1_meanTenths cX1_meanTenths 3 (some .double) ∈ lw_all := lw_in 813 (by decide +kernel) (by decide +kernel)
theorem q_im_X1_meanTenths : Cond.instanceMethod yX1_meanTenths ∈ lw_all := lw_in 811 (by decide +kernel) (by decide +kernel)
theorem q_se_X1_meanTenths : Cond.selects RX1 yX1_meanTenths yX1_meanTenths ∈ lw_all := lw_in 812 (by decide +kernel) (by decide +kernel)
theorem n_X1_meanTenths : yX1_meanTenths.cls = RX1 ∧ yX1_meanTenths.cls ≠ "java/lang/invoke/MethodHandle" ∧ yX1_meanTenths.cls ≠ "java/lang/invoke/VarHandle" ∧ (parseMethodDescriptor yX1_meanTenths.desc).map (fun d => d.parameters.length) = some 0 := by decide +kernel
theorem q_c_X1_digest : Cond.code yX1_digest cX1_digest 5 (some .long) ∈ lw_all := lw_in 817 (by decide +kernel) (by decide +kernel)
theorem q_im_X1_digest : Cond.instanceMethod yX1_digest ∈ lw_all := lw_in 815 (by decide +kernel) (by decide +kernel)
theorem q_se_X1_digest : Cond.selects RX1 yX1_digest yX1_digest ∈ lw_all := lw_in 816 (by decide +kernel) (by decide +kernel)
theorem n_X1_digest : yX1_digest.cls = RX1 ∧ yX1_digest.cls ≠ "java/lang/invoke/MethodHandle" ∧ yX1_digest.cls ≠ "java/lang/invoke/VarHandle" ∧ (parseMethodDescriptor yX1_digest.desc).map (fun d => d.parameters.length) = some 0 := by decide +kernel
theorem q_c_L_addCoin : Cond.codeWith yL_addCoin cL_addCoin 4 (some .int) [(0, 9, 12, 13), (0, 9, 15, 15)] ∈ lw_all := lw_in 288 (by decide +kernel) (by decide +kernel)
theorem q_st_L_addCoin : Cond.static yL_addCoin ∈ lw_all := lw_in 287 (by decide +kernel) (by decide +kernel)
theorem n_L_addCoin : yL_addCoin.cls ≠ "java/lang/invoke/MethodHandle" ∧ yL_addCoin.cls ≠ "java/lang/invoke/VarHandle" ∧ (parseMethodDescriptor yL_addCoin.desc).map (fun d => d.parameters.length) = some 3 := by decide +kernel
theorem q_c_L_addSchool : Cond.codeWith yL_addSchool cL_addSchool 4 (some .int) [(0, 9, 12, 13), (0, 9, 15, 15)] ∈ lw_all := lw_in 334 (by decide +kernel) (by decide +kernel)
theorem q_st_L_addSchool : Cond.static yL_addSchool ∈ lw_all := lw_in 333 (by decide +kernel) (by decide +kernel)
theorem n_L_addSchool : yL_addSchool.cls ≠ "java/lang/invoke/MethodHandle" ∧ yL_addSchool.cls ≠ "java/lang/invoke/VarHandle" ∧ (parseMethodDescriptor yL_addSchool.desc).map (fun d => d.parameters.length) = some 3 := by decide +kernel
theorem q_c_L_setShare : Cond.codeWith yL_setShare cL_setShare 6 (some .int) [(0, 12, 15, 24), (0, 12, 19, 13), (0, 12, 23, 15)] ∈ lw_all := lw_in 343 (by decide +kernel) (by decide +kernel)
theorem q_st_L_setShare : Cond.static yL_setShare ∈ lw_all := lw_in 342 (by decide +kernel) (by decide +kernel)
theorem n_L_setShare : yL_setShare.cls ≠ "java/lang/invoke/MethodHandle" ∧ yL_setShare.cls ≠ "java/lang/invoke/VarHandle" ∧ (parseMethodDescriptor yL_setShare.desc).map (fun d => d.parameters.length) = some 5 := by decide +kernel
theorem q_c_L_toss : Cond.codeWith yL_toss cL_toss 4 (some .int) [(0, 9, 12, 15)] ∈ lw_all := lw_in 357 (by decide +kernel) (by decide +kernel)
theorem q_st_L_toss : Cond.static yL_toss ∈ lw_all := lw_in 356 (by decide +kernel) (by decide +kernel)
theorem n_L_toss : yL_toss.cls ≠ "java/lang/invoke/MethodHandle" ∧ yL_toss.cls ≠ "java/lang/invoke/VarHandle" ∧ (parseMethodDescriptor yL_toss.desc).map (fun d => d.parameters.length) = some 3 := by decide +kernel
theorem q_c_L_undo : Cond.codeWith yL_undo cL_undo 3 (some .int) [(0, 15, 18, 15)] ∈ lw_all := lw_in 370 (by decide +kernel) (by decide +kernel)
theorem q_st_L_undo : Cond.static yL_undo ∈ lw_all := lw_in 369 (by decide +kernel) (by decide +kernel)
theorem n_L_undo : yL_undo.cls ≠ "java/lang/invoke/MethodHandle" ∧ yL_undo.cls ≠ "java/lang/invoke/VarHandle" ∧ (parseMethodDescriptor yL_undo.desc).map (fun d => d.parameters.length) = some 2 := by decide +kernel
theorem q_c_L_strike : Cond.codeWith yL_strike cL_strike 4 (some .int) [(0, 9, 12, 24)] ∈ lw_all := lw_in 378 (by decide +kernel) (by decide +kernel)
theorem q_st_L_strike : Cond.static yL_strike ∈ lw_all := lw_in 377 (by decide +kernel) (by decide +kernel)
theorem n_L_strike : yL_strike.cls ≠ "java/lang/invoke/MethodHandle" ∧ yL_strike.cls ≠ "java/lang/invoke/VarHandle" ∧ (parseMethodDescriptor yL_strike.desc).map (fun d => d.parameters.length) = some 3 := by decide +kernel
theorem q_c_L_isHeads : Cond.codeWith yL_isHeads cL_isHeads 4 (some .int) [(0, 16, 19, 24)] ∈ lw_all := lw_in 390 (by decide +kernel) (by decide +kernel)
theorem q_st_L_isHeads : Cond.static yL_isHeads ∈ lw_all := lw_in 389 (by decide +kernel) (by decide +kernel)
theorem n_L_isHeads : yL_isHeads.cls ≠ "java/lang/invoke/MethodHandle" ∧ yL_isHeads.cls ≠ "java/lang/invoke/VarHandle" ∧ (parseMethodDescriptor yL_isHeads.desc).map (fun d => d.parameters.length) = some 3 := by decide +kernel
theorem q_c_L_tenthsOf : Cond.codeWith yL_tenthsOf cL_tenthsOf 4 (some .int) [(0, 9, 12, 24)] ∈ lw_all := lw_in 397 (by decide +kernel) (by decide +kernel)
theorem q_st_L_tenthsOf : Cond.static yL_tenthsOf ∈ lw_all := lw_in 396 (by decide +kernel) (by decide +kernel)
theorem n_L_tenthsOf : yL_tenthsOf.cls ≠ "java/lang/invoke/MethodHandle" ∧ yL_tenthsOf.cls ≠ "java/lang/invoke/VarHandle" ∧ (parseMethodDescriptor yL_tenthsOf.desc).map (fun d => d.parameters.length) = some 3 := by decide +kernel
theorem q_c_L_oddsOf : Cond.codeWith yL_oddsOf cL_oddsOf 4 (some .int) [(0, 9, 12, 24)] ∈ lw_all := lw_in 404 (by decide +kernel) (by decide +kernel)
theorem q_st_L_oddsOf : Cond.static yL_oddsOf ∈ lw_all := lw_in 403 (by decide +kernel) (by decide +kernel)
theorem n_L_oddsOf : yL_oddsOf.cls ≠ "java/lang/invoke/MethodHandle" ∧ yL_oddsOf.cls ≠ "java/lang/invoke/VarHandle" ∧ (parseMethodDescriptor yL_oddsOf.desc).map (fun d => d.parameters.length) = some 3 := by decide +kernel
theorem q_c_L_shareOf : Cond.codeWith yL_shareOf cL_shareOf 5 (some .int) [(0, 10, 13, 24)] ∈ lw_all := lw_in 411 (by decide +kernel) (by decide +kernel)
theorem q_st_L_shareOf : Cond.static yL_shareOf ∈ lw_all := lw_in 410 (by decide +kernel) (by decide +kernel)
theorem n_L_shareOf : yL_shareOf.cls ≠ "java/lang/invoke/MethodHandle" ∧ yL_shareOf.cls ≠ "java/lang/invoke/VarHandle" ∧ (parseMethodDescriptor yL_shareOf.desc).map (fun d => d.parameters.length) = some 4 := by decide +kernel
theorem q_c_L_weightOf : Cond.codeWith yL_weightOf cL_weightOf 5 (some .int) [(0, 9, 12, 24)] ∈ lw_all := lw_in 418 (by decide +kernel) (by decide +kernel)
theorem q_st_L_weightOf : Cond.static yL_weightOf ∈ lw_all := lw_in 417 (by decide +kernel) (by decide +kernel)
theorem n_L_weightOf : yL_weightOf.cls ≠ "java/lang/invoke/MethodHandle" ∧ yL_weightOf.cls ≠ "java/lang/invoke/VarHandle" ∧ (parseMethodDescriptor yL_weightOf.desc).map (fun d => d.parameters.length) = some 4 := by decide +kernel
theorem q_c_L_coinWeight : Cond.codeWith yL_coinWeight cL_coinWeight 4 (some .int) [(0, 8, 11, 24)] ∈ lw_all := lw_in 425 (by decide +kernel) (by decide +kernel)
theorem q_st_L_coinWeight : Cond.static yL_coinWeight ∈ lw_all := lw_in 424 (by decide +kernel) (by decide +kernel)
theorem n_L_coinWeight : yL_coinWeight.cls ≠ "java/lang/invoke/MethodHandle" ∧ yL_coinWeight.cls ≠ "java/lang/invoke/VarHandle" ∧ (parseMethodDescriptor yL_coinWeight.desc).map (fun d => d.parameters.length) = some 3 := by decide +kernel
theorem q_c_L_schoolWeight : Cond.codeWith yL_schoolWeight cL_schoolWeight 4 (some .int) [(0, 8, 11, 24)] ∈ lw_all := lw_in 432 (by decide +kernel) (by decide +kernel)
theorem q_st_L_schoolWeight : Cond.static yL_schoolWeight ∈ lw_all := lw_in 431 (by decide +kernel) (by decide +kernel)
theorem n_L_schoolWeight : yL_schoolWeight.cls ≠ "java/lang/invoke/MethodHandle" ∧ yL_schoolWeight.cls ≠ "java/lang/invoke/VarHandle" ∧ (parseMethodDescriptor yL_schoolWeight.desc).map (fun d => d.parameters.length) = some 3 := by decide +kernel
theorem q_c_L_isRuledOut : Cond.codeWith yL_isRuledOut cL_isRuledOut 4 (some .int) [(0, 16, 19, 24)] ∈ lw_all := lw_in 439 (by decide +kernel) (by decide +kernel)
theorem q_st_L_isRuledOut : Cond.static yL_isRuledOut ∈ lw_all := lw_in 438 (by decide +kernel) (by decide +kernel)
theorem n_L_isRuledOut : yL_isRuledOut.cls ≠ "java/lang/invoke/MethodHandle" ∧ yL_isRuledOut.cls ≠ "java/lang/invoke/VarHandle" ∧ (parseMethodDescriptor yL_isRuledOut.desc).map (fun d => d.parameters.length) = some 3 := by decide +kernel
theorem q_c_L_coinPercent : Cond.codeWith yL_coinPercent cL_coinPercent 4 (some .int) [(0, 9, 12, 24), (0, 9, 15, 15)] ∈ lw_all := lw_in 446 (by decide +kernel) (by decide +kernel)
theorem q_st_L_coinPercent : Cond.static yL_coinPercent ∈ lw_all := lw_in 445 (by decide +kernel) (by decide +kernel)
theorem n_L_coinPercent : yL_coinPercent.cls ≠ "java/lang/invoke/MethodHandle" ∧ yL_coinPercent.cls ≠ "java/lang/invoke/VarHandle" ∧ (parseMethodDescriptor yL_coinPercent.desc).map (fun d => d.parameters.length) = some 3 := by decide +kernel
theorem q_c_L_schoolPercent : Cond.codeWith yL_schoolPercent cL_schoolPercent 4 (some .int) [(0, 9, 12, 24), (0, 9, 15, 15)] ∈ lw_all := lw_in 458 (by decide +kernel) (by decide +kernel)
theorem q_st_L_schoolPercent : Cond.static yL_schoolPercent ∈ lw_all := lw_in 457 (by decide +kernel) (by decide +kernel)
theorem n_L_schoolPercent : yL_schoolPercent.cls ≠ "java/lang/invoke/MethodHandle" ∧ yL_schoolPercent.cls ≠ "java/lang/invoke/VarHandle" ∧ (parseMethodDescriptor yL_schoolPercent.desc).map (fun d => d.parameters.length) = some 3 := by decide +kernel
theorem q_c_L_leadingCoin : Cond.codeWith yL_leadingCoin cL_leadingCoin 3 (some .int) [(0, 8, 11, 15)] ∈ lw_all := lw_in 465 (by decide +kernel) (by decide +kernel)
theorem q_st_L_leadingCoin : Cond.static yL_leadingCoin ∈ lw_all := lw_in 464 (by decide +kernel) (by decide +kernel)
theorem n_L_leadingCoin : yL_leadingCoin.cls ≠ "java/lang/invoke/MethodHandle" ∧ yL_leadingCoin.cls ≠ "java/lang/invoke/VarHandle" ∧ (parseMethodDescriptor yL_leadingCoin.desc).map (fun d => d.parameters.length) = some 2 := by decide +kernel
theorem q_c_L_leadingSchool : Cond.codeWith yL_leadingSchool cL_leadingSchool 3 (some .int) [(0, 8, 11, 15)] ∈ lw_all := lw_in 472 (by decide +kernel) (by decide +kernel)
theorem q_st_L_leadingSchool : Cond.static yL_leadingSchool ∈ lw_all := lw_in 471 (by decide +kernel) (by decide +kernel)
theorem n_L_leadingSchool : yL_leadingSchool.cls ≠ "java/lang/invoke/MethodHandle" ∧ yL_leadingSchool.cls ≠ "java/lang/invoke/VarHandle" ∧ (parseMethodDescriptor yL_leadingSchool.desc).map (fun d => d.parameters.length) = some 2 := by decide +kernel
theorem q_c_L_oddsAgainst : Cond.codeWith yL_oddsAgainst cL_oddsAgainst 5 (some .int) [(0, 9, 12, 24), (0, 9, 16, 15)] ∈ lw_all := lw_in 479 (by decide +kernel) (by decide +kernel)
theorem q_st_L_oddsAgainst : Cond.static yL_oddsAgainst ∈ lw_all := lw_in 478 (by decide +kernel) (by decide +kernel)
theorem n_L_oddsAgainst : yL_oddsAgainst.cls ≠ "java/lang/invoke/MethodHandle" ∧ yL_oddsAgainst.cls ≠ "java/lang/invoke/VarHandle" ∧ (parseMethodDescriptor yL_oddsAgainst.desc).map (fun d => d.parameters.length) = some 4 := by decide +kernel
theorem q_c_L_surpriseOf : Cond.codeWith yL_surpriseOf cL_surpriseOf 4 (some .int) [(0, 9, 12, 24)] ∈ lw_all := lw_in 487 (by decide +kernel) (by decide +kernel)
theorem q_st_L_surpriseOf : Cond.static yL_surpriseOf ∈ lw_all := lw_in 486 (by decide +kernel) (by decide +kernel)
theorem n_L_surpriseOf : yL_surpriseOf.cls ≠ "java/lang/invoke/MethodHandle" ∧ yL_surpriseOf.cls ≠ "java/lang/invoke/VarHandle" ∧ (parseMethodDescriptor yL_surpriseOf.desc).map (fun d => d.parameters.length) = some 3 := by decide +kernel
theorem q_c_L_headsPercent : Cond.codeWith yL_headsPercent cL_headsPercent 3 (some .int) [(0, 8, 11, 15)] ∈ lw_all := lw_in 494 (by decide +kernel) (by decide +kernel)
theorem q_st_L_headsPercent : Cond.static yL_headsPercent ∈ lw_all := lw_in 493 (by decide +kernel) (by decide +kernel)
theorem n_L_headsPercent : yL_headsPercent.cls ≠ "java/lang/invoke/MethodHandle" ∧ yL_headsPercent.cls ≠ "java/lang/invoke/VarHandle" ∧ (parseMethodDescriptor yL_headsPercent.desc).map (fun d => d.parameters.length) = some 2 := by decide +kernel
theorem q_c_L_wouldSurprise : Cond.codeWith yL_wouldSurprise cL_wouldSurprise 4 (some .int) [(0, 9, 12, 15)] ∈ lw_all := lw_in 501 (by decide +kernel) (by decide +kernel)
theorem q_st_L_wouldSurprise : Cond.static yL_wouldSurprise ∈ lw_all := lw_in 500 (by decide +kernel) (by decide +kernel)
theorem n_L_wouldSurprise : yL_wouldSurprise.cls ≠ "java/lang/invoke/MethodHandle" ∧ yL_wouldSurprise.cls ≠ "java/lang/invoke/VarHandle" ∧ (parseMethodDescriptor yL_wouldSurprise.desc).map (fun d => d.parameters.length) = some 3 := by decide +kernel
theorem q_c_L_leaderBehind : Cond.codeWith yL_leaderBehind cL_leaderBehind 4 (some .int) [(0, 9, 12, 15)] ∈ lw_all := lw_in 508 (by decide +kernel) (by decide +kernel)
theorem q_st_L_leaderBehind : Cond.static yL_leaderBehind ∈ lw_all := lw_in 507 (by decide +kernel) (by decide +kernel)
theorem n_L_leaderBehind : yL_leaderBehind.cls ≠ "java/lang/invoke/MethodHandle" ∧ yL_leaderBehind.cls ≠ "java/lang/invoke/VarHandle" ∧ (parseMethodDescriptor yL_leaderBehind.desc).map (fun d => d.parameters.length) = some 3 := by decide +kernel
theorem q_c_L_tossesToLead : Cond.codeWith yL_tossesToLead cL_tossesToLead 4 (some .int) [(0, 9, 12, 24)] ∈ lw_all := lw_in 515 (by decide +kernel) (by decide +kernel)
theorem q_st_L_tossesToLead : Cond.static yL_tossesToLead ∈ lw_all := lw_in 514 (by decide +kernel) (by decide +kernel)
theorem n_L_tossesToLead : yL_tossesToLead.cls ≠ "java/lang/invoke/MethodHandle" ∧ yL_tossesToLead.cls ≠ "java/lang/invoke/VarHandle" ∧ (parseMethodDescriptor yL_tossesToLead.desc).map (fun d => d.parameters.length) = some 3 := by decide +kernel
theorem q_c_L_meanTenths : Cond.codeWith yL_meanTenths cL_meanTenths 3 (some .int) [(0, 7, 10, 15)] ∈ lw_all := lw_in 519 (by decide +kernel) (by decide +kernel)
theorem q_st_L_meanTenths : Cond.static yL_meanTenths ∈ lw_all := lw_in 518 (by decide +kernel) (by decide +kernel)
theorem n_L_meanTenths : yL_meanTenths.cls ≠ "java/lang/invoke/MethodHandle" ∧ yL_meanTenths.cls ≠ "java/lang/invoke/VarHandle" ∧ (parseMethodDescriptor yL_meanTenths.desc).map (fun d => d.parameters.length) = some 2 := by decide +kernel
theorem q_cl_L_8 : Cond.classLink RL 8 "OddsLadder" ∈ lw_all := lw_in 57 (by decide +kernel) (by decide +kernel)
theorem q_ml_L_100 : Cond.methodLink RL 100 yX0_init ∈ lw_all := lw_in 59 (by decide +kernel) (by decide +kernel)
theorem q_cl_X0_16 : Cond.classLink RX0 16 "[[I" ∈ lw_all := lw_in 65 (by decide +kernel) (by decide +kernel)
theorem q_f_X0_9 : Cond.fieldLink RX0 9 "OddsLadder" "coinTenths" "[I" ∈ lw_all := lw_in 67 (by decide +kernel) (by decide +kernel)
theorem q_f_X0_13 : Cond.fieldLink RX0 13 "OddsLadder" "schoolOdds" "[I" ∈ lw_all := lw_in 68 (by decide +kernel) (by decide +kernel)
theorem q_f_X0_18 : Cond.fieldLink RX0 18 "OddsLadder" "shares" "[[I" ∈ lw_all := lw_in 69 (by decide +kernel) (by decide +kernel)
theorem q_f_X0_21 : Cond.fieldLink RX0 21 "OddsLadder" "tossHeads" "[Z" ∈ lw_all := lw_in 70 (by decide +kernel) (by decide +kernel)
theorem q_f_X0_25 : Cond.fieldLink RX0 25 "OddsLadder" "coinCount" "I" ∈ lw_all := lw_in 71 (by decide +kernel) (by decide +kernel)
theorem q_f_X0_29 : Cond.fieldLink RX0 29 "OddsLadder" "schoolCount" "I" ∈ lw_all := lw_in 72 (by decide +kernel) (by decide +kernel)
theorem q_f_X0_32 : Cond.fieldLink RX0 32 "OddsLadder" "tossCount" "I" ∈ lw_all := lw_in 73 (by decide +kernel) (by decide +kernel)
theorem q_ml_L_131 : Cond.methodLink RL 131 yX0_coins ∈ lw_all := lw_in 91 (by decide +kernel) (by decide +kernel)
theorem g_L_131 : GoodIn lw_all (wsV RL 131 RX0 yX0_coins (ws_ yX0_coins cX0_coins 1 (some .int))) := lw_V q_ml_L_131 q_im_X0_coins q_se_X0_coins q_in_X0 q_c_X0_coins
theorem q_ml_L_135 : Cond.methodLink RL 135 yX0_schools ∈ lw_all := lw_in 95 (by decide +kernel) (by decide +kernel)
theorem g_L_135 : GoodIn lw_all (wsV RL 135 RX0 yX0_schools (ws_ yX0_schools cX0_schools 1 (some .int))) := lw_V q_ml_L_135 q_im_X0_schools q_se_X0_schools q_in_X0 q_c_X0_schools
theorem q_ml_L_139 : Cond.methodLink RL 139 yX0_tosses ∈ lw_all := lw_in 99 (by decide +kernel) (by decide +kernel)
theorem g_L_139 : GoodIn lw_all (wsV RL 139 RX0 yX0_tosses (ws_ yX0_tosses cX0_tosses 1 (some .int))) := lw_V q_ml_L_139 q_im_X0_tosses q_se_X0_tosses q_in_X0 q_c_X0_tosses
theorem q_ml_L_143 : Cond.methodLink RL 143 yX0_heads ∈ lw_all := lw_in 103 (by decide +kernel) (by decide +kernel)
theorem g_L_143 : GoodIn lw_all (wsV RL 143 RX0 yX0_heads (ws_ yX0_heads cX0_heads 1 (some .int))) := lw_V q_ml_L_143 q_im_X0_heads q_se_X0_heads q_in_X0 q_c_X0_heads
theorem q_ml_X0_69 : Cond.methodLink RX0 69 yX0_headsNow ∈ lw_all := lw_in 107 (by decide +kernel) (by decide +kernel)
theorem g_X0_69 : GoodIn lw_all (wsV RX0 69 RX0 yX0_headsNow (ws_ yX0_headsNow cX0_headsNow 1 (some .int))) := lw_V q_ml_X0_69 q_im_X0_headsNow q_se_X0_headsNow q_in_X0 q_c_X0_headsNow
theorem q_ml_X0_177 : Cond.methodLink RX0 177 yX0_headsAhead ∈ lw_all := lw_in 111 (by decide +kernel) (by decide +kernel)
theorem g_X0_177 : GoodIn lw_all (wsV RX0 177 RX0 yX0_headsAhead (ws_ yX0_headsAhead cX0_headsAhead 4 (some .int))) := lw_V q_ml_X0_177 q_im_X0_headsAhead q_se_X0_headsAhead q_in_X0 q_c_X0_headsAhead
theorem q_ml_L_169 : Cond.methodLink RL 169 yX0_wholeWeight ∈ lw_all := lw_in 115 (by decide +kernel) (by decide +kernel)
theorem g_L_169 : GoodIn lw_all (wsV RL 169 RX0 yX0_wholeWeight (ws_ yX0_wholeWeight cX0_wholeWeight 1 (some .long))) := lw_V q_ml_L_169 q_im_X0_wholeWeight q_se_X0_wholeWeight q_in_X0 q_c_X0_wholeWeight
theorem q_ml_X0_100 : Cond.methodLink RX0 100 yX0_wholeNow ∈ lw_all := lw_in 119 (by decide +kernel) (by decide +kernel)
theorem g_X0_100 : GoodIn lw_all (wsV RX0 100 RX0 yX0_wholeNow (ws_ yX0_wholeNow cX0_wholeNow 1 (some .long))) := lw_V q_ml_X0_100 q_im_X0_wholeNow q_se_X0_wholeNow q_in_X0 q_c_X0_wholeNow
theorem q_ml_X0_73 : Cond.methodLink RX0 73 yX0_tailsNow ∈ lw_all := lw_in 123 (by decide +kernel) (by decide +kernel)
theorem g_X0_73 : GoodIn lw_all (wsV RX0 73 RX0 yX0_tailsNow (ws_ yX0_tailsNow cX0_tailsNow 1 (some .int))) := lw_V q_ml_X0_73 q_im_X0_tailsNow q_se_X0_tailsNow q_in_X0 q_c_X0_tailsNow
theorem q_ml_X0_180 : Cond.methodLink RX0 180 yX0_wholeAt ∈ lw_all := lw_in 127 (by decide +kernel) (by decide +kernel)
theorem g_X0_180 : GoodIn lw_all (wsV RX0 180 RX0 yX0_wholeAt (ws_ yX0_wholeAt cX0_wholeAt 6 (some .long))) := lw_V q_ml_X0_180 q_im_X0_wholeAt q_se_X0_wholeAt q_in_X0 q_c_X0_wholeAt
theorem q_ml_X0_93 : Cond.methodLink RX0 93 yX0_coinWeightAt ∈ lw_all := lw_in 131 (by decide +kernel) (by decide +kernel)
theorem g_X0_93 : GoodIn lw_all (wsV RX0 93 RX0 yX0_coinWeightAt (ws_ yX0_coinWeightAt cX0_coinWeightAt 7 (some .long))) := lw_V q_ml_X0_93 q_im_X0_coinWeightAt q_se_X0_coinWeightAt q_in_X0 q_c_X0_coinWeightAt
theorem q_ml_X0_85 : Cond.methodLink RX0 85 yX0_startWeight ∈ lw_all := lw_in 135 (by decide +kernel) (by decide +kernel)
theorem g_X0_85 : GoodIn lw_all (wsV RX0 85 RX0 yX0_startWeight (ws_ yX0_startWeight cX0_startWeight 3 (some .long))) := lw_V q_ml_X0_85 q_im_X0_startWeight q_se_X0_startWeight q_in_X0 q_c_X0_startWeight
theorem q_ml_X0_89 : Cond.methodLink RX0 89 yX0_likelihood ∈ lw_all := lw_in 139 (by decide +kernel) (by decide +kernel)
theorem g_X0_89 : GoodIn lw_all (wsV RX0 89 RX0 yX0_likelihood (ws_ yX0_likelihood cX0_likelihood 8 (some .long))) := lw_V q_ml_X0_89 q_im_X0_likelihood q_se_X0_likelihood q_in_X0 q_c_X0_likelihood
theorem q_ml_L_177 : Cond.methodLink RL 177 yX0_ruledOut ∈ lw_all := lw_in 143 (by decide +kernel) (by decide +kernel)
theorem g_L_177 : GoodIn lw_all (wsV RL 177 RX0 yX0_ruledOut (ws_ yX0_ruledOut cX0_ruledOut 5 (some .int))) := lw_V q_ml_L_177 q_im_X0_ruledOut q_se_X0_ruledOut q_in_X0 q_c_X0_ruledOut
theorem q_ml_L_199 : Cond.methodLink RL 199 yX0_allSurprise ∈ lw_all := lw_in 147 (by decide +kernel) (by decide +kernel)
theorem g_L_199 : GoodIn lw_all (wsV RL 199 RX0 yX0_allSurprise (ws_ yX0_allSurprise cX0_allSurprise 3 (some .int))) := lw_V q_ml_L_199 q_im_X0_allSurprise q_se_X0_allSurprise q_in_X0 q_c_X0_allSurprise
theorem q_ml_X0_116 : Cond.methodLink RX0 116 yX0_surpriseAt ∈ lw_all := lw_in 151 (by decide +kernel) (by decide +kernel)
theorem g_X0_116 : GoodIn lw_all (wsV RX0 116 RX0 yX0_surpriseAt (ws_ yX0_surpriseAt cX0_surpriseAt 3 (some .int))) := lw_V q_ml_X0_116 q_im_X0_surpriseAt q_se_X0_surpriseAt q_in_X0 q_c_X0_surpriseAt
theorem q_ml_X0_76 : Cond.methodLink RX0 76 yX0_surpriseBehind ∈ lw_all := lw_in 155 (by decide +kernel) (by decide +kernel)
theorem g_X0_76 : GoodIn lw_all (wsV RX0 76 RX0 yX0_surpriseBehind (ws_ yX0_surpriseBehind cX0_surpriseBehind 9 (some .int))) := lw_V q_ml_X0_76 q_im_X0_surpriseBehind q_se_X0_surpriseBehind q_in_X0 q_c_X0_surpriseBehind
theorem q_k_X0_185 : Cond.constantLong RX0 185 (lN 10) ∈ lw_all := lw_in 159 (by decide +kernel) (by decide +kernel)
theorem q_ml_X0_120 : Cond.methodLink RX0 120 yX0_chance ∈ lw_all := lw_in 160 (by decide +kernel) (by decide +kernel)
theorem g_X0_120 : GoodIn lw_all (wsV RX0 120 RX0 yX0_chance (ws_ yX0_chance cX0_chance 8 (some .long))) := lw_V q_ml_X0_120 q_im_X0_chance q_se_X0_chance q_in_X0 q_c_X0_chance
theorem q_k_X0_187 : Cond.constantLong RX0 187 (lN 2) ∈ lw_all := lw_in 164 (by decide +kernel) (by decide +kernel)
theorem q_ml_L_203 : Cond.methodLink RL 203 yX0_greatestSurprise ∈ lw_all := lw_in 165 (by decide +kernel) (by decide +kernel)
theorem g_L_203 : GoodIn lw_all (wsV RL 203 RX0 yX0_greatestSurprise (ws_ yX0_greatestSurprise cX0_greatestSurprise 5 (some .int))) := lw_V q_ml_L_203 q_im_X0_greatestSurprise q_se_X0_greatestSurprise q_in_X0 q_c_X0_greatestSurprise
theorem q_ml_L_219 : Cond.methodLink RL 219 yX0_decisiveTosses ∈ lw_all := lw_in 169 (by decide +kernel) (by decide +kernel)
theorem g_L_219 : GoodIn lw_all (wsV RL 219 RX0 yX0_decisiveTosses (ws_ yX0_decisiveTosses cX0_decisiveTosses 7 (some .int))) := lw_V q_ml_L_219 q_im_X0_decisiveTosses q_se_X0_decisiveTosses q_in_X0 q_c_X0_decisiveTosses
theorem q_ml_X0_108 : Cond.methodLink RX0 108 yX0_leaderAt ∈ lw_all := lw_in 173 (by decide +kernel) (by decide +kernel)
theorem g_X0_108 : GoodIn lw_all (wsV RX0 108 RX0 yX0_leaderAt (ws_ yX0_leaderAt cX0_leaderAt 9 (some .int))) := lw_V q_ml_X0_108 q_im_X0_leaderAt q_se_X0_leaderAt q_in_X0 q_c_X0_leaderAt
theorem q_ml_L_227 : Cond.methodLink RL 227 yX0_digest ∈ lw_all := lw_in 177 (by decide +kernel) (by decide +kernel)
theorem g_L_227 : GoodIn lw_all (wsV RL 227 RX0 yX0_digest (ws_ yX0_digest cX0_digest 3 (some .long))) := lw_V q_ml_L_227 q_im_X0_digest q_se_X0_digest q_in_X0 q_c_X0_digest
theorem q_k_X0_124 : Cond.constantLong RX0 124 (lN 1913) ∈ lw_all := lw_in 181 (by decide +kernel) (by decide +kernel)
theorem q_ml_X0_126 : Cond.methodLink RX0 126 yX0_coins ∈ lw_all := lw_in 182 (by decide +kernel) (by decide +kernel)
theorem g_X0_126 : GoodIn lw_all (wsV RX0 126 RX0 yX0_coins (ws_ yX0_coins cX0_coins 1 (some .int))) := lw_V q_ml_X0_126 q_im_X0_coins q_se_X0_coins q_in_X0 q_c_X0_coins
theorem q_ml_X0_129 : Cond.methodLink RX0 129 yX0_digestWith ∈ lw_all := lw_in 183 (by decide +kernel) (by decide +kernel)
theorem g_X0_129 : GoodIn lw_all (va_wsS RX0 129 yX0_digestWith (ws_ yX0_digestWith cX0_digestWith 4 (some .long))) := lw_S q_ml_X0_129 q_st_X0_digestWith q_in_X0 q_c_X0_digestWith
theorem q_k_X0_189 : Cond.constantLong RX0 189 (lN 31) ∈ lw_all := lw_in 186 (by decide +kernel) (by decide +kernel)
theorem q_ml_X0_133 : Cond.methodLink RX0 133 yX0_schools ∈ lw_all := lw_in 187 (by decide +kernel) (by decide +kernel)
theorem g_X0_133 : GoodIn lw_all (wsV RX0 133 RX0 yX0_schools (ws_ yX0_schools cX0_schools 1 (some .int))) := lw_V q_ml_X0_133 q_im_X0_schools q_se_X0_schools q_in_X0 q_c_X0_schools
theorem q_ml_X0_136 : Cond.methodLink RX0 136 yX0_tosses ∈ lw_all := lw_in 188 (by decide +kernel) (by decide +kernel)
theorem g_X0_136 : GoodIn lw_all (wsV RX0 136 RX0 yX0_tosses (ws_ yX0_tosses cX0_tosses 1 (some .int))) := lw_V q_ml_X0_136 q_im_X0_tosses q_se_X0_tosses q_in_X0 q_c_X0_tosses
theorem q_ml_X0_139 : Cond.methodLink RX0 139 yX0_heads ∈ lw_all := lw_in 189 (by decide +kernel) (by decide +kernel)
theorem g_X0_139 : GoodIn lw_all (wsV RX0 139 RX0 yX0_heads (ws_ yX0_heads cX0_heads 1 (some .int))) := lw_V q_ml_X0_139 q_im_X0_heads q_se_X0_heads q_in_X0 q_c_X0_heads
theorem q_ml_X0_142 : Cond.methodLink RX0 142 yX0_wholeWeight ∈ lw_all := lw_in 190 (by decide +kernel) (by decide +kernel)
theorem g_X0_142 : GoodIn lw_all (wsV RX0 142 RX0 yX0_wholeWeight (ws_ yX0_wholeWeight cX0_wholeWeight 1 (some .long))) := lw_V q_ml_X0_142 q_im_X0_wholeWeight q_se_X0_wholeWeight q_in_X0 q_c_X0_wholeWeight
theorem q_ml_X0_145 : Cond.methodLink RX0 145 yX0_ruledOut ∈ lw_all := lw_in 191 (by decide +kernel) (by decide +kernel)
theorem g_X0_145 : GoodIn lw_all (wsV RX0 145 RX0 yX0_ruledOut (ws_ yX0_ruledOut cX0_ruledOut 5 (some .int))) := lw_V q_ml_X0_145 q_im_X0_ruledOut q_se_X0_ruledOut q_in_X0 q_c_X0_ruledOut
theorem q_ml_X0_148 : Cond.methodLink RX0 148 yX0_allSurprise ∈ lw_all := lw_in 192 (by decide +kernel) (by decide +kernel)
theorem g_X0_148 : GoodIn lw_all (wsV RX0 148 RX0 yX0_allSurprise (ws_ yX0_allSurprise cX0_allSurprise 3 (some .int))) := lw_V q_ml_X0_148 q_im_X0_allSurprise q_se_X0_allSurprise q_in_X0 q_c_X0_allSurprise
theorem q_ml_X0_151 : Cond.methodLink RX0 151 yX0_decisiveTosses ∈ lw_all := lw_in 193 (by decide +kernel) (by decide +kernel)
theorem g_X0_151 : GoodIn lw_all (wsV RX0 151 RX0 yX0_decisiveTosses (ws_ yX0_decisiveTosses cX0_decisiveTosses 7 (some .int))) := lw_V q_ml_X0_151 q_im_X0_decisiveTosses q_se_X0_decisiveTosses q_in_X0 q_c_X0_decisiveTosses
theorem q_ml_X0_154 : Cond.methodLink RX0 154 yX0_digestWithCoins ∈ lw_all := lw_in 194 (by decide +kernel) (by decide +kernel)
theorem g_X0_154 : GoodIn lw_all (wsV RX0 154 RX0 yX0_digestWithCoins (ws_ yX0_digestWithCoins cX0_digestWithCoins 8 (some .long))) := lw_V q_ml_X0_154 q_im_X0_digestWithCoins q_se_X0_digestWithCoins q_in_X0 q_c_X0_digestWithCoins
theorem q_ml_X0_191 : Cond.methodLink RX0 191 yX0_tossesToLead ∈ lw_all := lw_in 198 (by decide +kernel) (by decide +kernel)
theorem g_X0_191 : GoodIn lw_all (wsV RX0 191 RX0 yX0_tossesToLead (ws_ yX0_tossesToLead cX0_tossesToLead 5 (some .int))) := lw_V q_ml_X0_191 q_im_X0_tossesToLead q_se_X0_tossesToLead q_in_X0 q_c_X0_tossesToLead
theorem q_ml_X0_58 : Cond.methodLink RX0 58 yX0_needCoin ∈ lw_all := lw_in 202 (by decide +kernel) (by decide +kernel)
theorem g_X0_58 : GoodIn lw_all (wsV RX0 58 RX0 yX0_needCoin (ws_ yX0_needCoin cX0_needCoin 2 none)) := lw_V q_ml_X0_58 q_im_X0_needCoin q_se_X0_needCoin q_in_X0 q_c_X0_needCoin
theorem q_cl_X0_164 : Cond.classLink RX0 164 "java/lang/IndexOutOfBoundsException" ∈ lw_all := lw_in 206 (by decide +kernel) (by decide +kernel)
theorem q_ml_X0_158 : Cond.methodLink RX0 158 yX0_digestWithSchools ∈ lw_all := lw_in 274 (by decide +kernel) (by decide +kernel)
theorem g_X0_158 : GoodIn lw_all (wsV RX0 158 RX0 yX0_digestWithSchools (ws_ yX0_digestWithSchools cX0_digestWithSchools 7 (some .long))) := lw_V q_ml_X0_158 q_im_X0_digestWithSchools q_se_X0_digestWithSchools q_in_X0 q_c_X0_digestWithSchools
theorem q_ml_X0_96 : Cond.methodLink RX0 96 yX0_schoolWeightNow ∈ lw_all := lw_in 278 (by decide +kernel) (by decide +kernel)
theorem g_X0_96 : GoodIn lw_all (wsV RX0 96 RX0 yX0_schoolWeightNow (ws_ yX0_schoolWeightNow cX0_schoolWeightNow 7 (some .long))) := lw_V q_ml_X0_96 q_im_X0_schoolWeightNow q_se_X0_schoolWeightNow q_in_X0 q_c_X0_schoolWeightNow
theorem q_ml_X0_161 : Cond.methodLink RX0 161 yX0_digestWithTosses ∈ lw_all := lw_in 282 (by decide +kernel) (by decide +kernel)
theorem g_X0_161 : GoodIn lw_all (wsV RX0 161 RX0 yX0_digestWithTosses (ws_ yX0_digestWithTosses cX0_digestWithTosses 6 (some .long))) := lw_V q_ml_X0_161 q_im_X0_digestWithTosses q_se_X0_digestWithTosses q_in_X0 q_c_X0_digestWithTosses
theorem q_ml_L_104 : Cond.methodLink RL 104 yL_addCoin ∈ lw_all := lw_in 286 (by decide +kernel) (by decide +kernel)
theorem g_L_104 : GoodIn lw_all (va_wsS RL 104 yL_addCoin (wh_ yL_addCoin cL_addCoin 4 (some .int) [(0, 9, 12, 13), (0, 9, 15, 15)])) := lw_S q_ml_L_104 q_st_L_addCoin q_in_L q_c_L_addCoin
theorem q_cl_L_13 : Cond.classLink RL 13 "java/lang/IllegalArgumentException" ∈ lw_all := lw_in 289 (by decide +kernel) (by decide +kernel)
theorem q_cl_L_15 : Cond.classLink RL 15 "java/lang/IllegalStateException" ∈ lw_all := lw_in 290 (by decide +kernel) (by decide +kernel)
theorem q_ml_L_7 : Cond.methodLink RL 7 yX0_addCoin ∈ lw_all := lw_in 291 (by decide +kernel) (by decide +kernel)
theorem g_L_7 : GoodIn lw_all (wsV RL 7 RX0 yX0_addCoin (ws_ yX0_addCoin cX0_addCoin 2 (some .int))) := lw_V q_ml_L_7 q_im_X0_addCoin q_se_X0_addCoin q_in_X0 q_c_X0_addCoin
theorem q_cl_X0_35 : Cond.classLink RX0 35 "java/lang/IllegalArgumentException" ∈ lw_all := lw_in 295 (by decide +kernel) (by decide +kernel)
theorem q_cl_X0_42 : Cond.classLink RX0 42 "java/lang/IllegalStateException" ∈ lw_all := lw_in 311 (by decide +kernel) (by decide +kernel)
theorem q_ml_X0_47 : Cond.methodLink RX0 47 yX0_needNoTosses ∈ lw_all := lw_in 327 (by decide +kernel) (by decide +kernel)
theorem g_X0_47 : GoodIn lw_all (wsV RX0 47 RX0 yX0_needNoTosses (ws_ yX0_needNoTosses cX0_needNoTosses 1 none)) := lw_V q_ml_X0_47 q_im_X0_needNoTosses q_se_X0_needNoTosses q_in_X0 q_c_X0_needNoTosses
theorem q_ml_L_113 : Cond.methodLink RL 113 yL_addSchool ∈ lw_all := lw_in 332 (by decide +kernel) (by decide +kernel)
theorem g_L_113 : GoodIn lw_all (va_wsS RL 113 yL_addSchool (wh_ yL_addSchool cL_addSchool 4 (some .int) [(0, 9, 12, 13), (0, 9, 15, 15)])) := lw_S q_ml_L_113 q_st_L_addSchool q_in_L q_c_L_addSchool
theorem q_ml_L_17 : Cond.methodLink RL 17 yX0_addSchool ∈ lw_all := lw_in 335 (by decide +kernel) (by decide +kernel)
theorem g_L_17 : GoodIn lw_all (wsV RL 17 RX0 yX0_addSchool (ws_ yX0_addSchool cX0_addSchool 2 (some .int))) := lw_V q_ml_L_17 q_im_X0_addSchool q_se_X0_addSchool q_in_X0 q_c_X0_addSchool
theorem q_ml_L_116 : Cond.methodLink RL 116 yL_setShare ∈ lw_all := lw_in 341 (by decide +kernel) (by decide +kernel)
theorem g_L_116 : GoodIn lw_all (va_wsS RL 116 yL_setShare (wh_ yL_setShare cL_setShare 6 (some .int) [(0, 12, 15, 24), (0, 12, 19, 13), (0, 12, 23, 15)])) := lw_S q_ml_L_116 q_st_L_setShare q_in_L q_c_L_setShare
theorem q_cl_L_24 : Cond.classLink RL 24 "java/lang/IndexOutOfBoundsException" ∈ lw_all := lw_in 344 (by decide +kernel) (by decide +kernel)
theorem q_ml_L_20 : Cond.methodLink RL 20 yX0_setShare ∈ lw_all := lw_in 345 (by decide +kernel) (by decide +kernel)
theorem g_L_20 : GoodIn lw_all (wsV RL 20 RX0 yX0_setShare (ws_ yX0_setShare cX0_setShare 5 (some .int))) := lw_V q_ml_L_20 q_im_X0_setShare q_se_X0_setShare q_in_X0 q_c_X0_setShare
theorem q_ml_X0_54 : Cond.methodLink RX0 54 yX0_needSchool ∈ lw_all := lw_in 349 (by decide +kernel) (by decide +kernel)
theorem g_X0_54 : GoodIn lw_all (wsV RX0 54 RX0 yX0_needSchool (ws_ yX0_needSchool cX0_needSchool 2 none)) := lw_V q_ml_X0_54 q_im_X0_needSchool q_se_X0_needSchool q_in_X0 q_c_X0_needSchool
theorem q_ml_L_120 : Cond.methodLink RL 120 yL_toss ∈ lw_all := lw_in 355 (by decide +kernel) (by decide +kernel)
theorem g_L_120 : GoodIn lw_all (va_wsS RL 120 yL_toss (wh_ yL_toss cL_toss 4 (some .int) [(0, 9, 12, 15)])) := lw_S q_ml_L_120 q_st_L_toss q_in_L q_c_L_toss
theorem q_ml_L_26 : Cond.methodLink RL 26 yX0_toss ∈ lw_all := lw_in 358 (by decide +kernel) (by decide +kernel)
theorem g_L_26 : GoodIn lw_all (wsV RL 26 RX0 yX0_toss (ws_ yX0_toss cX0_toss 3 (some .int))) := lw_V q_ml_L_26 q_im_X0_toss q_se_X0_toss q_in_X0 q_c_X0_toss
theorem q_ml_X0_65 : Cond.methodLink RX0 65 yX0_needPossible ∈ lw_all := lw_in 363 (by decide +kernel) (by decide +kernel)
theorem g_X0_65 : GoodIn lw_all (wsV RX0 65 RX0 yX0_needPossible (ws_ yX0_needPossible cX0_needPossible 2 none)) := lw_V q_ml_X0_65 q_im_X0_needPossible q_se_X0_needPossible q_in_X0 q_c_X0_needPossible
theorem q_ml_L_124 : Cond.methodLink RL 124 yL_undo ∈ lw_all := lw_in 368 (by decide +kernel) (by decide +kernel)
theorem g_L_124 : GoodIn lw_all (va_wsS RL 124 yL_undo (wh_ yL_undo cL_undo 3 (some .int) [(0, 15, 18, 15)])) := lw_S q_ml_L_124 q_st_L_undo q_in_L q_c_L_undo
theorem q_ml_L_30 : Cond.methodLink RL 30 yX0_undo ∈ lw_all := lw_in 371 (by decide +kernel) (by decide +kernel)
theorem g_L_30 : GoodIn lw_all (wsV RL 30 RX0 yX0_undo (ws_ yX0_undo cX0_undo 1 (some .boolean))) := lw_V q_ml_L_30 q_im_X0_undo q_se_X0_undo q_in_X0 q_c_X0_undo
theorem q_ml_L_128 : Cond.methodLink RL 128 yL_strike ∈ lw_all := lw_in 376 (by decide +kernel) (by decide +kernel)
theorem g_L_128 : GoodIn lw_all (va_wsS RL 128 yL_strike (wh_ yL_strike cL_strike 4 (some .int) [(0, 9, 12, 24)])) := lw_S q_ml_L_128 q_st_L_strike q_in_L q_c_L_strike
theorem q_ml_L_34 : Cond.methodLink RL 34 yX0_strike ∈ lw_all := lw_in 379 (by decide +kernel) (by decide +kernel)
theorem g_L_34 : GoodIn lw_all (wsV RL 34 RX0 yX0_strike (ws_ yX0_strike cX0_strike 3 (some .int))) := lw_V q_ml_L_34 q_im_X0_strike q_se_X0_strike q_in_X0 q_c_X0_strike
theorem q_ml_X0_82 : Cond.methodLink RX0 82 yX0_needToss ∈ lw_all := lw_in 383 (by decide +kernel) (by decide +kernel)
theorem g_X0_82 : GoodIn lw_all (wsV RX0 82 RX0 yX0_needToss (ws_ yX0_needToss cX0_needToss 2 none)) := lw_V q_ml_X0_82 q_im_X0_needToss q_se_X0_needToss q_in_X0 q_c_X0_needToss
theorem q_ml_L_147 : Cond.methodLink RL 147 yL_isHeads ∈ lw_all := lw_in 388 (by decide +kernel) (by decide +kernel)
theorem g_L_147 : GoodIn lw_all (va_wsS RL 147 yL_isHeads (wh_ yL_isHeads cL_isHeads 4 (some .int) [(0, 16, 19, 24)])) := lw_S q_ml_L_147 q_st_L_isHeads q_in_L q_c_L_isHeads
theorem q_ml_L_37 : Cond.methodLink RL 37 yX0_isHeads ∈ lw_all := lw_in 391 (by decide +kernel) (by decide +kernel)
theorem g_L_37 : GoodIn lw_all (wsV RL 37 RX0 yX0_isHeads (ws_ yX0_isHeads cX0_isHeads 2 (some .boolean))) := lw_V q_ml_L_37 q_im_X0_isHeads q_se_X0_isHeads q_in_X0 q_c_X0_isHeads
theorem q_ml_L_150 : Cond.methodLink RL 150 yL_tenthsOf ∈ lw_all := lw_in 395 (by decide +kernel) (by decide +kernel)
theorem g_L_150 : GoodIn lw_all (va_wsS RL 150 yL_tenthsOf (wh_ yL_tenthsOf cL_tenthsOf 4 (some .int) [(0, 9, 12, 24)])) := lw_S q_ml_L_150 q_st_L_tenthsOf q_in_L q_c_L_tenthsOf
theorem q_ml_L_41 : Cond.methodLink RL 41 yX0_tenthsOf ∈ lw_all := lw_in 398 (by decide +kernel) (by decide +kernel)
theorem g_L_41 : GoodIn lw_all (wsV RL 41 RX0 yX0_tenthsOf (ws_ yX0_tenthsOf cX0_tenthsOf 2 (some .int))) := lw_V q_ml_L_41 q_im_X0_tenthsOf q_se_X0_tenthsOf q_in_X0 q_c_X0_tenthsOf
theorem q_ml_L_153 : Cond.methodLink RL 153 yL_oddsOf ∈ lw_all := lw_in 402 (by decide +kernel) (by decide +kernel)
theorem g_L_153 : GoodIn lw_all (va_wsS RL 153 yL_oddsOf (wh_ yL_oddsOf cL_oddsOf 4 (some .int) [(0, 9, 12, 24)])) := lw_S q_ml_L_153 q_st_L_oddsOf q_in_L q_c_L_oddsOf
theorem q_ml_L_44 : Cond.methodLink RL 44 yX0_oddsOf ∈ lw_all := lw_in 405 (by decide +kernel) (by decide +kernel)
theorem g_L_44 : GoodIn lw_all (wsV RL 44 RX0 yX0_oddsOf (ws_ yX0_oddsOf cX0_oddsOf 2 (some .int))) := lw_V q_ml_L_44 q_im_X0_oddsOf q_se_X0_oddsOf q_in_X0 q_c_X0_oddsOf
theorem q_ml_L_156 : Cond.methodLink RL 156 yL_shareOf ∈ lw_all := lw_in 409 (by decide +kernel) (by decide +kernel)
theorem g_L_156 : GoodIn lw_all (va_wsS RL 156 yL_shareOf (wh_ yL_shareOf cL_shareOf 5 (some .int) [(0, 10, 13, 24)])) := lw_S q_ml_L_156 q_st_L_shareOf q_in_L q_c_L_shareOf
theorem q_ml_L_47 : Cond.methodLink RL 47 yX0_shareOf ∈ lw_all := lw_in 412 (by decide +kernel) (by decide +kernel)
theorem g_L_47 : GoodIn lw_all (wsV RL 47 RX0 yX0_shareOf (ws_ yX0_shareOf cX0_shareOf 3 (some .int))) := lw_V q_ml_L_47 q_im_X0_shareOf q_se_X0_shareOf q_in_X0 q_c_X0_shareOf
theorem q_ml_L_160 : Cond.methodLink RL 160 yL_weightOf ∈ lw_all := lw_in 416 (by decide +kernel) (by decide +kernel)
theorem g_L_160 : GoodIn lw_all (va_wsS RL 160 yL_weightOf (wh_ yL_weightOf cL_weightOf 5 (some .int) [(0, 9, 12, 24)])) := lw_S q_ml_L_160 q_st_L_weightOf q_in_L q_c_L_weightOf
theorem q_ml_L_51 : Cond.methodLink RL 51 yX0_weightOf ∈ lw_all := lw_in 419 (by decide +kernel) (by decide +kernel)
theorem g_L_51 : GoodIn lw_all (wsV RL 51 RX0 yX0_weightOf (ws_ yX0_weightOf cX0_weightOf 3 (some .long))) := lw_V q_ml_L_51 q_im_X0_weightOf q_se_X0_weightOf q_in_X0 q_c_X0_weightOf
theorem q_ml_L_163 : Cond.methodLink RL 163 yL_coinWeight ∈ lw_all := lw_in 423 (by decide +kernel) (by decide +kernel)
theorem g_L_163 : GoodIn lw_all (va_wsS RL 163 yL_coinWeight (wh_ yL_coinWeight cL_coinWeight 4 (some .int) [(0, 8, 11, 24)])) := lw_S q_ml_L_163 q_st_L_coinWeight q_in_L q_c_L_coinWeight
theorem q_ml_L_55 : Cond.methodLink RL 55 yX0_coinWeight ∈ lw_all := lw_in 426 (by decide +kernel) (by decide +kernel)
theorem g_L_55 : GoodIn lw_all (wsV RL 55 RX0 yX0_coinWeight (ws_ yX0_coinWeight cX0_coinWeight 2 (some .long))) := lw_V q_ml_L_55 q_im_X0_coinWeight q_se_X0_coinWeight q_in_X0 q_c_X0_coinWeight
theorem q_ml_L_166 : Cond.methodLink RL 166 yL_schoolWeight ∈ lw_all := lw_in 430 (by decide +kernel) (by decide +kernel)
theorem g_L_166 : GoodIn lw_all (va_wsS RL 166 yL_schoolWeight (wh_ yL_schoolWeight cL_schoolWeight 4 (some .int) [(0, 8, 11, 24)])) := lw_S q_ml_L_166 q_st_L_schoolWeight q_in_L q_c_L_schoolWeight
theorem q_ml_L_59 : Cond.methodLink RL 59 yX0_schoolWeight ∈ lw_all := lw_in 433 (by decide +kernel) (by decide +kernel)
theorem g_L_59 : GoodIn lw_all (wsV RL 59 RX0 yX0_schoolWeight (ws_ yX0_schoolWeight cX0_schoolWeight 2 (some .long))) := lw_V q_ml_L_59 q_im_X0_schoolWeight q_se_X0_schoolWeight q_in_X0 q_c_X0_schoolWeight
theorem q_ml_L_174 : Cond.methodLink RL 174 yL_isRuledOut ∈ lw_all := lw_in 437 (by decide +kernel) (by decide +kernel)
theorem g_L_174 : GoodIn lw_all (va_wsS RL 174 yL_isRuledOut (wh_ yL_isRuledOut cL_isRuledOut 4 (some .int) [(0, 16, 19, 24)])) := lw_S q_ml_L_174 q_st_L_isRuledOut q_in_L q_c_L_isRuledOut
theorem q_ml_L_62 : Cond.methodLink RL 62 yX0_isRuledOut ∈ lw_all := lw_in 440 (by decide +kernel) (by decide +kernel)
theorem g_L_62 : GoodIn lw_all (wsV RL 62 RX0 yX0_isRuledOut (ws_ yX0_isRuledOut cX0_isRuledOut 2 (some .boolean))) := lw_V q_ml_L_62 q_im_X0_isRuledOut q_se_X0_isRuledOut q_in_X0 q_c_X0_isRuledOut
theorem q_ml_L_181 : Cond.methodLink RL 181 yL_coinPercent ∈ lw_all := lw_in 444 (by decide +kernel) (by decide +kernel)
theorem g_L_181 : GoodIn lw_all (va_wsS RL 181 yL_coinPercent (wh_ yL_coinPercent cL_coinPercent 4 (some .int) [(0, 9, 12, 24), (0, 9, 15, 15)])) := lw_S q_ml_L_181 q_st_L_coinPercent q_in_L q_c_L_coinPercent
theorem q_ml_L_65 : Cond.methodLink RL 65 yX0_coinPercent ∈ lw_all := lw_in 447 (by decide +kernel) (by decide +kernel)
theorem g_L_65 : GoodIn lw_all (wsV RL 65 RX0 yX0_coinPercent (ws_ yX0_coinPercent cX0_coinPercent 2 (some .int))) := lw_V q_ml_L_65 q_im_X0_coinPercent q_se_X0_coinPercent q_in_X0 q_c_X0_coinPercent
theorem q_ml_X0_104 : Cond.methodLink RX0 104 yX0_percent ∈ lw_all := lw_in 451 (by decide +kernel) (by decide +kernel)
theorem g_X0_104 : GoodIn lw_all (va_wsS RX0 104 yX0_percent (ws_ yX0_percent cX0_percent 4 (some .int))) := lw_S q_ml_X0_104 q_st_X0_percent q_in_X0 q_c_X0_percent
theorem q_k_X0_183 : Cond.constantLong RX0 183 (lN 100) ∈ lw_all := lw_in 455 (by decide +kernel) (by decide +kernel)
theorem q_ml_L_184 : Cond.methodLink RL 184 yL_schoolPercent ∈ lw_all := lw_in 456 (by decide +kernel) (by decide +kernel)
theorem g_L_184 : GoodIn lw_all (va_wsS RL 184 yL_schoolPercent (wh_ yL_schoolPercent cL_schoolPercent 4 (some .int) [(0, 9, 12, 24), (0, 9, 15, 15)])) := lw_S q_ml_L_184 q_st_L_schoolPercent q_in_L q_c_L_schoolPercent
theorem q_ml_L_68 : Cond.methodLink RL 68 yX0_schoolPercent ∈ lw_all := lw_in 459 (by decide +kernel) (by decide +kernel)
theorem g_L_68 : GoodIn lw_all (wsV RL 68 RX0 yX0_schoolPercent (ws_ yX0_schoolPercent cX0_schoolPercent 2 (some .int))) := lw_V q_ml_L_68 q_im_X0_schoolPercent q_se_X0_schoolPercent q_in_X0 q_c_X0_schoolPercent
theorem q_ml_L_187 : Cond.methodLink RL 187 yL_leadingCoin ∈ lw_all := lw_in 463 (by decide +kernel) (by decide +kernel)
theorem g_L_187 : GoodIn lw_all (va_wsS RL 187 yL_leadingCoin (wh_ yL_leadingCoin cL_leadingCoin 3 (some .int) [(0, 8, 11, 15)])) := lw_S q_ml_L_187 q_st_L_leadingCoin q_in_L q_c_L_leadingCoin
theorem q_ml_L_71 : Cond.methodLink RL 71 yX0_leadingCoin ∈ lw_all := lw_in 466 (by decide +kernel) (by decide +kernel)
theorem g_L_71 : GoodIn lw_all (wsV RL 71 RX0 yX0_leadingCoin (ws_ yX0_leadingCoin cX0_leadingCoin 2 (some .int))) := lw_V q_ml_L_71 q_im_X0_leadingCoin q_se_X0_leadingCoin q_in_X0 q_c_X0_leadingCoin
theorem q_ml_L_190 : Cond.methodLink RL 190 yL_leadingSchool ∈ lw_all := lw_in 470 (by decide +kernel) (by decide +kernel)
theorem g_L_190 : GoodIn lw_all (va_wsS RL 190 yL_leadingSchool (wh_ yL_leadingSchool cL_leadingSchool 3 (some .int) [(0, 8, 11, 15)])) := lw_S q_ml_L_190 q_st_L_leadingSchool q_in_L q_c_L_leadingSchool
theorem q_ml_L_75 : Cond.methodLink RL 75 yX0_leadingSchool ∈ lw_all := lw_in 473 (by decide +kernel) (by decide +kernel)
theorem g_L_75 : GoodIn lw_all (wsV RL 75 RX0 yX0_leadingSchool (ws_ yX0_leadingSchool cX0_leadingSchool 7 (some .int))) := lw_V q_ml_L_75 q_im_X0_leadingSchool q_se_X0_leadingSchool q_in_X0 q_c_X0_leadingSchool
theorem q_ml_L_193 : Cond.methodLink RL 193 yL_oddsAgainst ∈ lw_all := lw_in 477 (by decide +kernel) (by decide +kernel)
theorem g_L_193 : GoodIn lw_all (va_wsS RL 193 yL_oddsAgainst (wh_ yL_oddsAgainst cL_oddsAgainst 5 (some .int) [(0, 9, 12, 24), (0, 9, 16, 15)])) := lw_S q_ml_L_193 q_st_L_oddsAgainst q_in_L q_c_L_oddsAgainst
theorem q_ml_L_78 : Cond.methodLink RL 78 yX0_oddsAgainst ∈ lw_all := lw_in 480 (by decide +kernel) (by decide +kernel)
theorem g_L_78 : GoodIn lw_all (wsV RL 78 RX0 yX0_oddsAgainst (ws_ yX0_oddsAgainst cX0_oddsAgainst 7 (some .long))) := lw_V q_ml_L_78 q_im_X0_oddsAgainst q_se_X0_oddsAgainst q_in_X0 q_c_X0_oddsAgainst
theorem q_ml_L_196 : Cond.methodLink RL 196 yL_surpriseOf ∈ lw_all := lw_in 485 (by decide +kernel) (by decide +kernel)
theorem g_L_196 : GoodIn lw_all (va_wsS RL 196 yL_surpriseOf (wh_ yL_surpriseOf cL_surpriseOf 4 (some .int) [(0, 9, 12, 24)])) := lw_S q_ml_L_196 q_st_L_surpriseOf q_in_L q_c_L_surpriseOf
theorem q_ml_L_81 : Cond.methodLink RL 81 yX0_surpriseOf ∈ lw_all := lw_in 488 (by decide +kernel) (by decide +kernel)
theorem g_L_81 : GoodIn lw_all (wsV RL 81 RX0 yX0_surpriseOf (ws_ yX0_surpriseOf cX0_surpriseOf 2 (some .int))) := lw_V q_ml_L_81 q_im_X0_surpriseOf q_se_X0_surpriseOf q_in_X0 q_c_X0_surpriseOf
theorem q_ml_L_207 : Cond.methodLink RL 207 yL_headsPercent ∈ lw_all := lw_in 492 (by decide +kernel) (by decide +kernel)
theorem g_L_207 : GoodIn lw_all (va_wsS RL 207 yL_headsPercent (wh_ yL_headsPercent cL_headsPercent 3 (some .int) [(0, 8, 11, 15)])) := lw_S q_ml_L_207 q_st_L_headsPercent q_in_L q_c_L_headsPercent
theorem q_ml_L_84 : Cond.methodLink RL 84 yX0_headsPercent ∈ lw_all := lw_in 495 (by decide +kernel) (by decide +kernel)
theorem g_L_84 : GoodIn lw_all (wsV RL 84 RX0 yX0_headsPercent (ws_ yX0_headsPercent cX0_headsPercent 5 (some .int))) := lw_V q_ml_L_84 q_im_X0_headsPercent q_se_X0_headsPercent q_in_X0 q_c_X0_headsPercent
theorem q_ml_L_210 : Cond.methodLink RL 210 yL_wouldSurprise ∈ lw_all := lw_in 499 (by decide +kernel) (by decide +kernel)
theorem g_L_210 : GoodIn lw_all (va_wsS RL 210 yL_wouldSurprise (wh_ yL_wouldSurprise cL_wouldSurprise 4 (some .int) [(0, 9, 12, 15)])) := lw_S q_ml_L_210 q_st_L_wouldSurprise q_in_L q_c_L_wouldSurprise
theorem q_ml_L_87 : Cond.methodLink RL 87 yX0_wouldSurprise ∈ lw_all := lw_in 502 (by decide +kernel) (by decide +kernel)
theorem g_L_87 : GoodIn lw_all (wsV RL 87 RX0 yX0_wouldSurprise (ws_ yX0_wouldSurprise cX0_wouldSurprise 2 (some .int))) := lw_V q_ml_L_87 q_im_X0_wouldSurprise q_se_X0_wouldSurprise q_in_X0 q_c_X0_wouldSurprise
theorem q_ml_L_213 : Cond.methodLink RL 213 yL_leaderBehind ∈ lw_all := lw_in 506 (by decide +kernel) (by decide +kernel)
theorem g_L_213 : GoodIn lw_all (va_wsS RL 213 yL_leaderBehind (wh_ yL_leaderBehind cL_leaderBehind 4 (some .int) [(0, 9, 12, 15)])) := lw_S q_ml_L_213 q_st_L_leaderBehind q_in_L q_c_L_leaderBehind
theorem q_ml_L_90 : Cond.methodLink RL 90 yX0_leaderBehind ∈ lw_all := lw_in 509 (by decide +kernel) (by decide +kernel)
theorem g_L_90 : GoodIn lw_all (wsV RL 90 RX0 yX0_leaderBehind (ws_ yX0_leaderBehind cX0_leaderBehind 2 (some .int))) := lw_V q_ml_L_90 q_im_X0_leaderBehind q_se_X0_leaderBehind q_in_X0 q_c_X0_leaderBehind
theorem q_ml_L_216 : Cond.methodLink RL 216 yL_tossesToLead ∈ lw_all := lw_in 513 (by decide +kernel) (by decide +kernel)
theorem g_L_216 : GoodIn lw_all (va_wsS RL 216 yL_tossesToLead (wh_ yL_tossesToLead cL_tossesToLead 4 (some .int) [(0, 9, 12, 24)])) := lw_S q_ml_L_216 q_st_L_tossesToLead q_in_L q_c_L_tossesToLead
theorem q_ml_L_93 : Cond.methodLink RL 93 yX0_tossesToLead ∈ lw_all := lw_in 516 (by decide +kernel) (by decide +kernel)
theorem g_L_93 : GoodIn lw_all (wsV RL 93 RX0 yX0_tossesToLead (ws_ yX0_tossesToLead cX0_tossesToLead 5 (some .int))) := lw_V q_ml_L_93 q_im_X0_tossesToLead q_se_X0_tossesToLead q_in_X0 q_c_X0_tossesToLead
theorem q_ml_L_223 : Cond.methodLink RL 223 yL_meanTenths ∈ lw_all := lw_in 517 (by decide +kernel) (by decide +kernel)
theorem g_L_223 : GoodIn lw_all (va_wsS RL 223 yL_meanTenths (wh_ yL_meanTenths cL_meanTenths 3 (some .int) [(0, 7, 10, 15)])) := lw_S q_ml_L_223 q_st_L_meanTenths q_in_L q_c_L_meanTenths
theorem q_ml_L_96 : Cond.methodLink RL 96 yX0_meanTenths ∈ lw_all := lw_in 520 (by decide +kernel) (by decide +kernel)
theorem g_L_96 : GoodIn lw_all (wsV RL 96 RX0 yX0_meanTenths (ws_ yX0_meanTenths cX0_meanTenths 3 (some .double))) := lw_V q_ml_L_96 q_im_X0_meanTenths q_se_X0_meanTenths q_in_X0 q_c_X0_meanTenths
theorem q_cl_L_101 : Cond.classLink RL 101 "OddsLadderModel" ∈ lw_all := lw_in 524 (by decide +kernel) (by decide +kernel)
theorem q_ml_L_103 : Cond.methodLink RL 103 yX1_init ∈ lw_all := lw_in 526 (by decide +kernel) (by decide +kernel)
theorem q_f_X1_19 : Cond.fieldLink RX1 19 "OddsLadderModel" "thrown" "I" ∈ lw_all := lw_in 530 (by decide +kernel) (by decide +kernel)
theorem q_f_X1_23 : Cond.fieldLink RX1 23 "OddsLadderModel" "coins" "I" ∈ lw_all := lw_in 531 (by decide +kernel) (by decide +kernel)
theorem q_f_X1_30 : Cond.fieldLink RX1 30 "OddsLadderModel" "schools" "I" ∈ lw_all := lw_in 532 (by decide +kernel) (by decide +kernel)
theorem q_f_X1_33 : Cond.fieldLink RX1 33 "OddsLadderModel" "tosses" "I" ∈ lw_all := lw_in 533 (by decide +kernel) (by decide +kernel)
theorem q_f_X1_36 : Cond.fieldLink RX1 36 "OddsLadderModel" "row" "I" ∈ lw_all := lw_in 534 (by decide +kernel) (by decide +kernel)
theorem q_f_X1_9 : Cond.fieldLink RX1 9 "OddsLadderModel" "tenths" "[I" ∈ lw_all := lw_in 535 (by decide +kernel) (by decide +kernel)
theorem q_f_X1_13 : Cond.fieldLink RX1 13 "OddsLadderModel" "odds" "[I" ∈ lw_all := lw_in 536 (by decide +kernel) (by decide +kernel)
theorem q_f_X1_16 : Cond.fieldLink RX1 16 "OddsLadderModel" "share" "[I" ∈ lw_all := lw_in 537 (by decide +kernel) (by decide +kernel)
theorem q_ml_L_110 : Cond.methodLink RL 110 yX1_thrown ∈ lw_all := lw_in 555 (by decide +kernel) (by decide +kernel)
theorem g_L_110 : GoodIn lw_all (wsV RL 110 RX1 yX1_thrown (ws_ yX1_thrown cX1_thrown 1 (some .int))) := lw_V q_ml_L_110 q_im_X1_thrown q_se_X1_thrown q_in_X1 q_c_X1_thrown
theorem q_ml_L_109 : Cond.methodLink RL 109 yX1_addCoin ∈ lw_all := lw_in 559 (by decide +kernel) (by decide +kernel)
theorem g_L_109 : GoodIn lw_all (wsV RL 109 RX1 yX1_addCoin (ws_ yX1_addCoin cX1_addCoin 3 (some .int))) := lw_V q_ml_L_109 q_im_X1_addCoin q_se_X1_addCoin q_in_X1 q_c_X1_addCoin
theorem q_ml_X1_26 : Cond.methodLink RX1 26 yX1_isIn ∈ lw_all := lw_in 563 (by decide +kernel) (by decide +kernel)
theorem g_X1_26 : GoodIn lw_all (va_wsS RX1 26 yX1_isIn (ws_ yX1_isIn cX1_isIn 3 (some .boolean))) := lw_S q_ml_X1_26 q_st_X1_isIn q_in_X1 q_c_X1_isIn
theorem q_ml_X1_73 : Cond.methodLink RX1 73 yX1_fail ∈ lw_all := lw_in 566 (by decide +kernel) (by decide +kernel)
theorem g_X1_73 : GoodIn lw_all (wsV RX1 73 RX1 yX1_fail (ws_ yX1_fail cX1_fail 2 (some .int))) := lw_V q_ml_X1_73 q_im_X1_fail q_se_X1_fail q_in_X1 q_c_X1_fail
theorem q_ml_L_115 : Cond.methodLink RL 115 yX1_addSchool ∈ lw_all := lw_in 570 (by decide +kernel) (by decide +kernel)
theorem g_L_115 : GoodIn lw_all (wsV RL 115 RX1 yX1_addSchool (ws_ yX1_addSchool cX1_addSchool 3 (some .int))) := lw_V q_ml_L_115 q_im_X1_addSchool q_se_X1_addSchool q_in_X1 q_c_X1_addSchool
theorem q_ml_L_119 : Cond.methodLink RL 119 yX1_setShare ∈ lw_all := lw_in 574 (by decide +kernel) (by decide +kernel)
theorem g_L_119 : GoodIn lw_all (wsV RL 119 RX1 yX1_setShare (ws_ yX1_setShare cX1_setShare 5 (some .int))) := lw_V q_ml_L_119 q_im_X1_setShare q_se_X1_setShare q_in_X1 q_c_X1_setShare
theorem q_ml_X1_76 : Cond.methodLink RX1 76 yX1_isSchool ∈ lw_all := lw_in 578 (by decide +kernel) (by decide +kernel)
theorem g_X1_76 : GoodIn lw_all (wsV RX1 76 RX1 yX1_isSchool (ws_ yX1_isSchool cX1_isSchool 2 (some .boolean))) := lw_V q_ml_X1_76 q_im_X1_isSchool q_se_X1_isSchool q_in_X1 q_c_X1_isSchool
theorem q_ml_X1_80 : Cond.methodLink RX1 80 yX1_isCoin ∈ lw_all := lw_in 582 (by decide +kernel) (by decide +kernel)
theorem g_X1_80 : GoodIn lw_all (wsV RX1 80 RX1 yX1_isCoin (ws_ yX1_isCoin cX1_isCoin 2 (some .boolean))) := lw_V q_ml_X1_80 q_im_X1_isCoin q_se_X1_isCoin q_in_X1 q_c_X1_isCoin
theorem q_ml_L_123 : Cond.methodLink RL 123 yX1_toss ∈ lw_all := lw_in 586 (by decide +kernel) (by decide +kernel)
theorem g_L_123 : GoodIn lw_all (wsV RL 123 RX1 yX1_toss (ws_ yX1_toss cX1_toss 3 (some .int))) := lw_V q_ml_L_123 q_im_X1_toss q_se_X1_toss q_in_X1 q_c_X1_toss
theorem q_ml_X1_83 : Cond.methodLink RX1 83 yX1_canBe ∈ lw_all := lw_in 590 (by decide +kernel) (by decide +kernel)
theorem g_X1_83 : GoodIn lw_all (wsV RX1 83 RX1 yX1_canBe (ws_ yX1_canBe cX1_canBe 2 (some .boolean))) := lw_V q_ml_X1_83 q_im_X1_canBe q_se_X1_canBe q_in_X1 q_c_X1_canBe
theorem q_ml_X1_69 : Cond.methodLink RX1 69 yX1_headsNow ∈ lw_all := lw_in 594 (by decide +kernel) (by decide +kernel)
theorem g_X1_69 : GoodIn lw_all (wsV RX1 69 RX1 yX1_headsNow (ws_ yX1_headsNow cX1_headsNow 1 (some .int))) := lw_V q_ml_X1_69 q_im_X1_headsNow q_se_X1_headsNow q_in_X1 q_c_X1_headsNow
theorem q_ml_X1_39 : Cond.methodLink RX1 39 yX1_headsIn ∈ lw_all := lw_in 598 (by decide +kernel) (by decide +kernel)
theorem g_X1_39 : GoodIn lw_all (va_wsS RX1 39 yX1_headsIn (ws_ yX1_headsIn cX1_headsIn 4 (some .int))) := lw_S q_ml_X1_39 q_st_X1_headsIn q_in_X1 q_c_X1_headsIn
theorem q_ml_X1_65 : Cond.methodLink RX1 65 yX1_chance ∈ lw_all := lw_in 601 (by decide +kernel) (by decide +kernel)
theorem g_X1_65 : GoodIn lw_all (wsV RX1 65 RX1 yX1_chance (ws_ yX1_chance cX1_chance 4 (some .long))) := lw_V q_ml_X1_65 q_im_X1_chance q_se_X1_chance q_in_X1 q_c_X1_chance
theorem q_ml_X1_58 : Cond.methodLink RX1 58 yX1_whole ∈ lw_all := lw_in 605 (by decide +kernel) (by decide +kernel)
theorem g_X1_58 : GoodIn lw_all (wsV RX1 58 RX1 yX1_whole (ws_ yX1_whole cX1_whole 6 (some .long))) := lw_V q_ml_X1_58 q_im_X1_whole q_se_X1_whole q_in_X1 q_c_X1_whole
theorem q_ml_X1_55 : Cond.methodLink RX1 55 yX1_weight ∈ lw_all := lw_in 609 (by decide +kernel) (by decide +kernel)
theorem g_X1_55 : GoodIn lw_all (wsV RX1 55 RX1 yX1_weight (ws_ yX1_weight cX1_weight 4 (some .long))) := lw_V q_ml_X1_55 q_im_X1_weight q_se_X1_weight q_in_X1 q_c_X1_weight
theorem q_ml_X1_47 : Cond.methodLink RX1 47 yX1_given ∈ lw_all := lw_in 613 (by decide +kernel) (by decide +kernel)
theorem g_X1_47 : GoodIn lw_all (wsV RX1 47 RX1 yX1_given (ws_ yX1_given cX1_given 4 (some .int))) := lw_V q_ml_X1_47 q_im_X1_given q_se_X1_given q_in_X1 q_c_X1_given
theorem q_ml_X1_51 : Cond.methodLink RX1 51 yX1_falls ∈ lw_all := lw_in 617 (by decide +kernel) (by decide +kernel)
theorem g_X1_51 : GoodIn lw_all (wsV RX1 51 RX1 yX1_falls (ws_ yX1_falls cX1_falls 4 (some .long))) := lw_V q_ml_X1_51 q_im_X1_falls q_se_X1_falls q_in_X1 q_c_X1_falls
theorem q_ml_X1_43 : Cond.methodLink RX1 43 yX1_power ∈ lw_all := lw_in 621 (by decide +kernel) (by decide +kernel)
theorem g_X1_43 : GoodIn lw_all (va_wsS RX1 43 yX1_power (ws_ yX1_power cX1_power 5 (some .long))) := lw_S q_ml_X1_43 q_st_X1_power q_in_X1 q_c_X1_power
theorem q_ml_X1_87 : Cond.methodLink RX1 87 yX1_surprise ∈ lw_all := lw_in 624 (by decide +kernel) (by decide +kernel)
theorem g_X1_87 : GoodIn lw_all (wsV RX1 87 RX1 yX1_surprise (ws_ yX1_surprise cX1_surprise 9 (some .int))) := lw_V q_ml_X1_87 q_im_X1_surprise q_se_X1_surprise q_in_X1 q_c_X1_surprise
theorem q_k_X1_61 : Cond.constantLong RX1 61 (lN 10) ∈ lw_all := lw_in 628 (by decide +kernel) (by decide +kernel)
theorem q_k_X1_63 : Cond.constantLong RX1 63 (lN 2) ∈ lw_all := lw_in 629 (by decide +kernel) (by decide +kernel)
theorem q_ml_L_127 : Cond.methodLink RL 127 yX1_undo ∈ lw_all := lw_in 630 (by decide +kernel) (by decide +kernel)
theorem g_L_127 : GoodIn lw_all (wsV RL 127 RX1 yX1_undo (ws_ yX1_undo cX1_undo 2 (some .boolean))) := lw_V q_ml_L_127 q_im_X1_undo q_se_X1_undo q_in_X1 q_c_X1_undo
theorem q_ml_X1_91 : Cond.methodLink RX1 91 yX1_without ∈ lw_all := lw_in 634 (by decide +kernel) (by decide +kernel)
theorem g_X1_91 : GoodIn lw_all (va_wsS RX1 91 yX1_without (ws_ yX1_without cX1_without 2 (some .int))) := lw_S q_ml_X1_91 q_st_X1_without q_in_X1 q_c_X1_without
theorem q_ml_L_130 : Cond.methodLink RL 130 yX1_strike ∈ lw_all := lw_in 637 (by decide +kernel) (by decide +kernel)
theorem g_L_130 : GoodIn lw_all (wsV RL 130 RX1 yX1_strike (ws_ yX1_strike cX1_strike 2 (some .int))) := lw_V q_ml_L_130 q_im_X1_strike q_se_X1_strike q_in_X1 q_c_X1_strike
theorem q_ml_X1_94 : Cond.methodLink RX1 94 yX1_isToss ∈ lw_all := lw_in 641 (by decide +kernel) (by decide +kernel)
theorem g_X1_94 : GoodIn lw_all (wsV RX1 94 RX1 yX1_isToss (ws_ yX1_isToss cX1_isToss 2 (some .boolean))) := lw_V q_ml_X1_94 q_im_X1_isToss q_se_X1_isToss q_in_X1 q_c_X1_isToss
theorem q_ml_L_134 : Cond.methodLink RL 134 yX1_coins ∈ lw_all := lw_in 645 (by decide +kernel) (by decide +kernel)
theorem g_L_134 : GoodIn lw_all (wsV RL 134 RX1 yX1_coins (ws_ yX1_coins cX1_coins 1 (some .int))) := lw_V q_ml_L_134 q_im_X1_coins q_se_X1_coins q_in_X1 q_c_X1_coins
theorem q_ml_X1_97 : Cond.methodLink RX1 97 yX1_told ∈ lw_all := lw_in 649 (by decide +kernel) (by decide +kernel)
theorem g_X1_97 : GoodIn lw_all (wsV RX1 97 RX1 yX1_told (ws_ yX1_told cX1_told 2 (some .int))) := lw_V q_ml_X1_97 q_im_X1_told q_se_X1_told q_in_X1 q_c_X1_told
theorem q_ml_L_138 : Cond.methodLink RL 138 yX1_schools ∈ lw_all := lw_in 653 (by decide +kernel) (by decide +kernel)
theorem g_L_138 : GoodIn lw_all (wsV RL 138 RX1 yX1_schools (ws_ yX1_schools cX1_schools 1 (some .int))) := lw_V q_ml_L_138 q_im_X1_schools q_se_X1_schools q_in_X1 q_c_X1_schools
theorem q_ml_L_142 : Cond.methodLink RL 142 yX1_tosses ∈ lw_all := lw_in 657 (by decide +kernel) (by decide +kernel)
theorem g_L_142 : GoodIn lw_all (wsV RL 142 RX1 yX1_tosses (ws_ yX1_tosses cX1_tosses 1 (some .int))) := lw_V q_ml_L_142 q_im_X1_tosses q_se_X1_tosses q_in_X1 q_c_X1_tosses
theorem q_ml_L_146 : Cond.methodLink RL 146 yX1_heads ∈ lw_all := lw_in 661 (by decide +kernel) (by decide +kernel)
theorem g_L_146 : GoodIn lw_all (wsV RL 146 RX1 yX1_heads (ws_ yX1_heads cX1_heads 1 (some .int))) := lw_V q_ml_L_146 q_im_X1_heads q_se_X1_heads q_in_X1 q_c_X1_heads
theorem q_ml_L_149 : Cond.methodLink RL 149 yX1_isHeads ∈ lw_all := lw_in 665 (by decide +kernel) (by decide +kernel)
theorem g_L_149 : GoodIn lw_all (wsV RL 149 RX1 yX1_isHeads (ws_ yX1_isHeads cX1_isHeads 2 (some .boolean))) := lw_V q_ml_L_149 q_im_X1_isHeads q_se_X1_isHeads q_in_X1 q_c_X1_isHeads
theorem q_ml_X1_100 : Cond.methodLink RX1 100 yX1_isUp ∈ lw_all := lw_in 669 (by decide +kernel) (by decide +kernel)
theorem g_X1_100 : GoodIn lw_all (wsV RX1 100 RX1 yX1_isUp (ws_ yX1_isUp cX1_isUp 2 (some .boolean))) := lw_V q_ml_X1_100 q_im_X1_isUp q_se_X1_isUp q_in_X1 q_c_X1_isUp
theorem q_ml_L_152 : Cond.methodLink RL 152 yX1_tenthsOf ∈ lw_all := lw_in 673 (by decide +kernel) (by decide +kernel)
theorem g_L_152 : GoodIn lw_all (wsV RL 152 RX1 yX1_tenthsOf (ws_ yX1_tenthsOf cX1_tenthsOf 2 (some .int))) := lw_V q_ml_L_152 q_im_X1_tenthsOf q_se_X1_tenthsOf q_in_X1 q_c_X1_tenthsOf
theorem q_ml_L_155 : Cond.methodLink RL 155 yX1_oddsOf ∈ lw_all := lw_in 677 (by decide +kernel) (by decide +kernel)
theorem g_L_155 : GoodIn lw_all (wsV RL 155 RX1 yX1_oddsOf (ws_ yX1_oddsOf cX1_oddsOf 2 (some .int))) := lw_V q_ml_L_155 q_im_X1_oddsOf q_se_X1_oddsOf q_in_X1 q_c_X1_oddsOf
theorem q_ml_L_159 : Cond.methodLink RL 159 yX1_shareOf ∈ lw_all := lw_in 681 (by decide +kernel) (by decide +kernel)
theorem g_L_159 : GoodIn lw_all (wsV RL 159 RX1 yX1_shareOf (ws_ yX1_shareOf cX1_shareOf 3 (some .int))) := lw_V q_ml_L_159 q_im_X1_shareOf q_se_X1_shareOf q_in_X1 q_c_X1_shareOf
theorem q_ml_L_162 : Cond.methodLink RL 162 yX1_weightOf ∈ lw_all := lw_in 685 (by decide +kernel) (by decide +kernel)
theorem g_L_162 : GoodIn lw_all (wsV RL 162 RX1 yX1_weightOf (ws_ yX1_weightOf cX1_weightOf 3 (some .long))) := lw_V q_ml_L_162 q_im_X1_weightOf q_se_X1_weightOf q_in_X1 q_c_X1_weightOf
theorem q_ml_X1_103 : Cond.methodLink RX1 103 yX1_pair ∈ lw_all := lw_in 689 (by decide +kernel) (by decide +kernel)
theorem g_X1_103 : GoodIn lw_all (wsV RX1 103 RX1 yX1_pair (ws_ yX1_pair cX1_pair 3 (some .long))) := lw_V q_ml_X1_103 q_im_X1_pair q_se_X1_pair q_in_X1 q_c_X1_pair
theorem q_ml_L_165 : Cond.methodLink RL 165 yX1_coinWeight ∈ lw_all := lw_in 693 (by decide +kernel) (by decide +kernel)
theorem g_L_165 : GoodIn lw_all (wsV RL 165 RX1 yX1_coinWeight (ws_ yX1_coinWeight cX1_coinWeight 2 (some .long))) := lw_V q_ml_L_165 q_im_X1_coinWeight q_se_X1_coinWeight q_in_X1 q_c_X1_coinWeight
theorem q_ml_X1_106 : Cond.methodLink RX1 106 yX1_here ∈ lw_all := lw_in 697 (by decide +kernel) (by decide +kernel)
theorem g_X1_106 : GoodIn lw_all (wsV RX1 106 RX1 yX1_here (ws_ yX1_here cX1_here 2 (some .long))) := lw_V q_ml_X1_106 q_im_X1_here q_se_X1_here q_in_X1 q_c_X1_here
theorem q_ml_L_168 : Cond.methodLink RL 168 yX1_schoolWeight ∈ lw_all := lw_in 701 (by decide +kernel) (by decide +kernel)
theorem g_L_168 : GoodIn lw_all (wsV RL 168 RX1 yX1_schoolWeight (ws_ yX1_schoolWeight cX1_schoolWeight 2 (some .long))) := lw_V q_ml_L_168 q_im_X1_schoolWeight q_se_X1_schoolWeight q_in_X1 q_c_X1_schoolWeight
theorem q_ml_X1_110 : Cond.methodLink RX1 110 yX1_schoolHere ∈ lw_all := lw_in 705 (by decide +kernel) (by decide +kernel)
theorem g_X1_110 : GoodIn lw_all (wsV RX1 110 RX1 yX1_schoolHere (ws_ yX1_schoolHere cX1_schoolHere 5 (some .long))) := lw_V q_ml_X1_110 q_im_X1_schoolHere q_se_X1_schoolHere q_in_X1 q_c_X1_schoolHere
theorem q_ml_L_173 : Cond.methodLink RL 173 yX1_wholeWeight ∈ lw_all := lw_in 709 (by decide +kernel) (by decide +kernel)
theorem g_L_173 : GoodIn lw_all (wsV RL 173 RX1 yX1_wholeWeight (ws_ yX1_wholeWeight cX1_wholeWeight 1 (some .long))) := lw_V q_ml_L_173 q_im_X1_wholeWeight q_se_X1_wholeWeight q_in_X1 q_c_X1_wholeWeight
theorem q_ml_X1_113 : Cond.methodLink RX1 113 yX1_all ∈ lw_all := lw_in 713 (by decide +kernel) (by decide +kernel)
theorem g_X1_113 : GoodIn lw_all (wsV RX1 113 RX1 yX1_all (ws_ yX1_all cX1_all 1 (some .long))) := lw_V q_ml_X1_113 q_im_X1_all q_se_X1_all q_in_X1 q_c_X1_all
theorem q_ml_L_176 : Cond.methodLink RL 176 yX1_isRuledOut ∈ lw_all := lw_in 717 (by decide +kernel) (by decide +kernel)
theorem g_L_176 : GoodIn lw_all (wsV RL 176 RX1 yX1_isRuledOut (ws_ yX1_isRuledOut cX1_isRuledOut 2 (some .boolean))) := lw_V q_ml_L_176 q_im_X1_isRuledOut q_se_X1_isRuledOut q_in_X1 q_c_X1_isRuledOut
theorem q_ml_L_180 : Cond.methodLink RL 180 yX1_ruledOut ∈ lw_all := lw_in 721 (by decide +kernel) (by decide +kernel)
theorem g_L_180 : GoodIn lw_all (wsV RL 180 RX1 yX1_ruledOut (ws_ yX1_ruledOut cX1_ruledOut 1 (some .int))) := lw_V q_ml_L_180 q_im_X1_ruledOut q_se_X1_ruledOut q_in_X1 q_c_X1_ruledOut
theorem q_ml_X1_117 : Cond.methodLink RX1 117 yX1_gone ∈ lw_all := lw_in 725 (by decide +kernel) (by decide +kernel)
theorem g_X1_117 : GoodIn lw_all (wsV RX1 117 RX1 yX1_gone (ws_ yX1_gone cX1_gone 3 (some .int))) := lw_V q_ml_X1_117 q_im_X1_gone q_se_X1_gone q_in_X1 q_c_X1_gone
theorem q_ml_L_183 : Cond.methodLink RL 183 yX1_coinPercent ∈ lw_all := lw_in 729 (by decide +kernel) (by decide +kernel)
theorem g_L_183 : GoodIn lw_all (wsV RL 183 RX1 yX1_coinPercent (ws_ yX1_coinPercent cX1_coinPercent 2 (some .int))) := lw_V q_ml_L_183 q_im_X1_coinPercent q_se_X1_coinPercent q_in_X1 q_c_X1_coinPercent
theorem q_k_X1_120 : Cond.constantLong RX1 120 (lN 100) ∈ lw_all := lw_in 733 (by decide +kernel) (by decide +kernel)
theorem q_ml_L_186 : Cond.methodLink RL 186 yX1_schoolPercent ∈ lw_all := lw_in 734 (by decide +kernel) (by decide +kernel)
theorem g_L_186 : GoodIn lw_all (wsV RL 186 RX1 yX1_schoolPercent (ws_ yX1_schoolPercent cX1_schoolPercent 2 (some .int))) := lw_V q_ml_L_186 q_im_X1_schoolPercent q_se_X1_schoolPercent q_in_X1 q_c_X1_schoolPercent
theorem q_ml_L_189 : Cond.methodLink RL 189 yX1_leadingCoin ∈ lw_all := lw_in 738 (by decide +kernel) (by decide +kernel)
theorem g_L_189 : GoodIn lw_all (wsV RL 189 RX1 yX1_leadingCoin (ws_ yX1_leadingCoin cX1_leadingCoin 1 (some .int))) := lw_V q_ml_L_189 q_im_X1_leadingCoin q_se_X1_leadingCoin q_in_X1 q_c_X1_leadingCoin
theorem q_ml_X1_125 : Cond.methodLink RX1 125 yX1_leads ∈ lw_all := lw_in 742 (by decide +kernel) (by decide +kernel)
theorem g_X1_125 : GoodIn lw_all (wsV RX1 125 RX1 yX1_leads (ws_ yX1_leads cX1_leads 1 (some .int))) := lw_V q_ml_X1_125 q_im_X1_leads q_se_X1_leads q_in_X1 q_c_X1_leads
theorem q_ml_X1_122 : Cond.methodLink RX1 122 yX1_leader ∈ lw_all := lw_in 746 (by decide +kernel) (by decide +kernel)
theorem g_X1_122 : GoodIn lw_all (wsV RX1 122 RX1 yX1_leader (ws_ yX1_leader cX1_leader 5 (some .int))) := lw_V q_ml_X1_122 q_im_X1_leader q_se_X1_leader q_in_X1 q_c_X1_leader
theorem q_ml_L_192 : Cond.methodLink RL 192 yX1_leadingSchool ∈ lw_all := lw_in 750 (by decide +kernel) (by decide +kernel)
theorem g_L_192 : GoodIn lw_all (wsV RL 192 RX1 yX1_leadingSchool (ws_ yX1_leadingSchool cX1_leadingSchool 3 (some .int))) := lw_V q_ml_L_192 q_im_X1_leadingSchool q_se_X1_leadingSchool q_in_X1 q_c_X1_leadingSchool
theorem q_ml_L_195 : Cond.methodLink RL 195 yX1_oddsAgainst ∈ lw_all := lw_in 754 (by decide +kernel) (by decide +kernel)
theorem g_L_195 : GoodIn lw_all (wsV RL 195 RX1 yX1_oddsAgainst (ws_ yX1_oddsAgainst cX1_oddsAgainst 3 (some .long))) := lw_V q_ml_L_195 q_im_X1_oddsAgainst q_se_X1_oddsAgainst q_in_X1 q_c_X1_oddsAgainst
theorem q_ml_L_198 : Cond.methodLink RL 198 yX1_surpriseOf ∈ lw_all := lw_in 758 (by decide +kernel) (by decide +kernel)
theorem g_L_198 : GoodIn lw_all (wsV RL 198 RX1 yX1_surpriseOf (ws_ yX1_surpriseOf cX1_surpriseOf 2 (some .int))) := lw_V q_ml_L_198 q_im_X1_surpriseOf q_se_X1_surpriseOf q_in_X1 q_c_X1_surpriseOf
theorem q_ml_X1_128 : Cond.methodLink RX1 128 yX1_surprise_ ∈ lw_all := lw_in 762 (by decide +kernel) (by decide +kernel)
theorem g_X1_128 : GoodIn lw_all (wsV RX1 128 RX1 yX1_surprise_ (ws_ yX1_surprise_ cX1_surprise_ 3 (some .int))) := lw_V q_ml_X1_128 q_im_X1_surprise_ q_se_X1_surprise_ q_in_X1 q_c_X1_surprise_
theorem q_ml_L_202 : Cond.methodLink RL 202 yX1_allSurprise ∈ lw_all := lw_in 766 (by decide +kernel) (by decide +kernel)
theorem g_L_202 : GoodIn lw_all (wsV RL 202 RX1 yX1_allSurprise (ws_ yX1_allSurprise cX1_allSurprise 1 (some .int))) := lw_V q_ml_L_202 q_im_X1_allSurprise q_se_X1_allSurprise q_in_X1 q_c_X1_allSurprise
theorem q_ml_X1_130 : Cond.methodLink RX1 130 yX1_surprises ∈ lw_all := lw_in 770 (by decide +kernel) (by decide +kernel)
theorem g_X1_130 : GoodIn lw_all (wsV RX1 130 RX1 yX1_surprises (ws_ yX1_surprises cX1_surprises 3 (some .int))) := lw_V q_ml_X1_130 q_im_X1_surprises q_se_X1_surprises q_in_X1 q_c_X1_surprises
theorem q_ml_L_206 : Cond.methodLink RL 206 yX1_greatestSurprise ∈ lw_all := lw_in 774 (by decide +kernel) (by decide +kernel)
theorem g_L_206 : GoodIn lw_all (wsV RL 206 RX1 yX1_greatestSurprise (ws_ yX1_greatestSurprise cX1_greatestSurprise 3 (some .int))) := lw_V q_ml_L_206 q_im_X1_greatestSurprise q_se_X1_greatestSurprise q_in_X1 q_c_X1_greatestSurprise
theorem q_ml_L_209 : Cond.methodLink RL 209 yX1_headsPercent ∈ lw_all := lw_in 778 (by decide +kernel) (by decide +kernel)
theorem g_L_209 : GoodIn lw_all (wsV RL 209 RX1 yX1_headsPercent (ws_ yX1_headsPercent cX1_headsPercent 3 (some .int))) := lw_V q_ml_L_209 q_im_X1_headsPercent q_se_X1_headsPercent q_in_X1 q_c_X1_headsPercent
theorem q_ml_L_212 : Cond.methodLink RL 212 yX1_wouldSurprise ∈ lw_all := lw_in 782 (by decide +kernel) (by decide +kernel)
theorem g_L_212 : GoodIn lw_all (wsV RL 212 RX1 yX1_wouldSurprise (ws_ yX1_wouldSurprise cX1_wouldSurprise 2 (some .int))) := lw_V q_ml_L_212 q_im_X1_wouldSurprise q_se_X1_wouldSurprise q_in_X1 q_c_X1_wouldSurprise
theorem q_ml_L_215 : Cond.methodLink RL 215 yX1_leaderBehind ∈ lw_all := lw_in 786 (by decide +kernel) (by decide +kernel)
theorem g_L_215 : GoodIn lw_all (wsV RL 215 RX1 yX1_leaderBehind (ws_ yX1_leaderBehind cX1_leaderBehind 3 (some .int))) := lw_V q_ml_L_215 q_im_X1_leaderBehind q_se_X1_leaderBehind q_in_X1 q_c_X1_leaderBehind
theorem q_ml_L_218 : Cond.methodLink RL 218 yX1_tossesToLead ∈ lw_all := lw_in 790 (by decide +kernel) (by decide +kernel)
theorem g_L_218 : GoodIn lw_all (wsV RL 218 RX1 yX1_tossesToLead (ws_ yX1_tossesToLead cX1_tossesToLead 2 (some .int))) := lw_V q_ml_L_218 q_im_X1_tossesToLead q_se_X1_tossesToLead q_in_X1 q_c_X1_tossesToLead
theorem q_ml_X1_136 : Cond.methodLink RX1 136 yX1_toLead ∈ lw_all := lw_in 794 (by decide +kernel) (by decide +kernel)
theorem g_X1_136 : GoodIn lw_all (wsV RX1 136 RX1 yX1_toLead (ws_ yX1_toLead cX1_toLead 5 (some .int))) := lw_V q_ml_X1_136 q_im_X1_toLead q_se_X1_toLead q_in_X1 q_c_X1_toLead
theorem q_ml_X1_133 : Cond.methodLink RX1 133 yX1_isFirst ∈ lw_all := lw_in 798 (by decide +kernel) (by decide +kernel)
theorem g_X1_133 : GoodIn lw_all (wsV RX1 133 RX1 yX1_isFirst (ws_ yX1_isFirst cX1_isFirst 4 (some .boolean))) := lw_V q_ml_X1_133 q_im_X1_isFirst q_se_X1_isFirst q_in_X1 q_c_X1_isFirst
theorem q_ml_L_222 : Cond.methodLink RL 222 yX1_decisiveTosses ∈ lw_all := lw_in 802 (by decide +kernel) (by decide +kernel)
theorem g_L_222 : GoodIn lw_all (wsV RL 222 RX1 yX1_decisiveTosses (ws_ yX1_decisiveTosses cX1_decisiveTosses 1 (some .int))) := lw_V q_ml_L_222 q_im_X1_decisiveTosses q_se_X1_decisiveTosses q_in_X1 q_c_X1_decisiveTosses
theorem q_ml_X1_139 : Cond.methodLink RX1 139 yX1_decisive ∈ lw_all := lw_in 806 (by decide +kernel) (by decide +kernel)
theorem g_X1_139 : GoodIn lw_all (wsV RX1 139 RX1 yX1_decisive (ws_ yX1_decisive cX1_decisive 6 (some .int))) := lw_V q_ml_X1_139 q_im_X1_decisive q_se_X1_decisive q_in_X1 q_c_X1_decisive
theorem q_ml_L_226 : Cond.methodLink RL 226 yX1_meanTenths ∈ lw_all := lw_in 810 (by decide +kernel) (by decide +kernel)
theorem g_L_226 : GoodIn lw_all (wsV RL 226 RX1 yX1_meanTenths (ws_ yX1_meanTenths cX1_meanTenths 3 (some .double))) := lw_V q_ml_L_226 q_im_X1_meanTenths q_se_X1_meanTenths q_in_X1 q_c_X1_meanTenths
theorem q_ml_L_230 : Cond.methodLink RL 230 yX1_digest ∈ lw_all := lw_in 814 (by decide +kernel) (by decide +kernel)
theorem g_L_230 : GoodIn lw_all (wsV RL 230 RX1 yX1_digest (ws_ yX1_digest cX1_digest 5 (some .long))) := lw_V q_ml_L_230 q_im_X1_digest q_se_X1_digest q_in_X1 q_c_X1_digest
theorem q_k_X1_142 : Cond.constantLong RX1 142 (lN 1913) ∈ lw_all := lw_in 818 (by decide +kernel) (by decide +kernel)
theorem q_k_X1_144 : Cond.constantLong RX1 144 (lN 31) ∈ lw_all := lw_in 819 (by decide +kernel) (by decide +kernel)
theorem q_ie_IAE : Cond.initialized "java/lang/IllegalArgumentException" ∈ lw_all := lw_in 54 (by decide +kernel) (by decide +kernel)
theorem q_ie_ISE : Cond.initialized "java/lang/IllegalStateException" ∈ lw_all := lw_in 55 (by decide +kernel) (by decide +kernel)
theorem q_ie_IOB : Cond.initialized "java/lang/IndexOutOfBoundsException" ∈ lw_all := lw_in 56 (by decide +kernel) (by decide +kernel)
theorem q_inst_X0 : Cond.instantiable RX0 7 ∈ lw_all := lw_in 58 (by decide +kernel) (by decide +kernel)
theorem q_inst_X1 : Cond.instantiable RX1 8 ∈ lw_all := lw_in 525 (by decide +kernel) (by decide +kernel)
theorem q_ml_X0_1 : Cond.methodLink RX0 1 objectInit ∈ lw_all := lw_in 62 (by decide +kernel) (by decide +kernel)
theorem q_ml_X1_1 : Cond.methodLink RX1 1 objectInit ∈ lw_all := lw_in 529 (by decide +kernel) (by decide +kernel)
theorem q_im_obj : Cond.instanceMethod objectInit ∈ lw_all := lw_in 63 (by decide +kernel) (by decide +kernel)
theorem q_c_obj : Cond.code objectInit ⟨#[0xb1]⟩ 1 none ∈ lw_all := lw_in 64 (by decide +kernel) (by decide +kernel)
theorem q_ac_int : Cond.arrayClass .int ∈ lw_all := lw_in 89 (by decide +kernel) (by decide +kernel)
theorem q_ac_boolean : Cond.arrayClass .boolean ∈ lw_all := lw_in 90 (by decide +kernel) (by decide +kernel)
theorem q_ac_byte : Cond.arrayClass .byte ∈ lw_all := lw_in 273 (by decide +kernel) (by decide +kernel)
theorem q_ac_long : Cond.arrayClass .long ∈ lw_all := lw_in 820 (by decide +kernel) (by decide +kernel)
theorem q_ac_double : Cond.arrayClass .double ∈ lw_all := lw_in 821 (by decide +kernel) (by decide +kernel)
theorem tg1_IAE : ∀ w ∈ (vx_atS RX0 39 "java/lang/IllegalArgumentException" ["java/lang/RuntimeException", "java/lang/Exception"]).filter goodWord, w ∈ lw_all := lw_sub (by decide +kernel) (by decide +kernel)
theorem tg2_IAE : ∀ w ∈ (vx_atS RX0 39 "java/lang/IllegalArgumentException" ["java/lang/RuntimeException", "java/lang/Exception"]).filter (fun w => !goodWord w), w ∈ lw_face := fun w h => List.mem_filter.mpr ⟨(by decide +kernel : ∀ w ∈ (vx_atS RX0 39 "java/lang/IllegalArgumentException" ["java/lang/RuntimeException", "java/lang/Exception"]).filter (fun w => !goodWord w), w ∈ lw_tbl) w h, (by decide +kernel : ∀ w ∈ (vx_atS RX0 39 "java/lang/IllegalArgumentException" ["java/lang/RuntimeException", "java/lang/Exception"]).filter (fun w => !goodWord w), (w.onTables && w.keepsFace) = true) w h⟩
theorem tg3_IAE : ∀ w ∈ Cond.classLink RX0 35 "java/lang/IllegalArgumentException" :: Cond.initialized "java/lang/IllegalArgumentException" :: vx_atS RX0 39 "java/lang/IllegalArgumentException" ["java/lang/RuntimeException", "java/lang/Exception"], vx_ot w = true := by decide +kernel
theorem tg0_IAE : Bundle.fit "java/lang/IllegalArgumentException" = true := by decide +kernel
theorem tg1_ISE : ∀ w ∈ (vx_atS RX0 46 "java/lang/IllegalStateException" ["java/lang/RuntimeException", "java/lang/Exception"]).filter goodWord, w ∈ lw_all := lw_sub (by decide +kernel) (by decide +kernel)
theorem tg2_ISE : ∀ w ∈ (vx_atS RX0 46 "java/lang/IllegalStateException" ["java/lang/RuntimeException", "java/lang/Exception"]).filter (fun w => !goodWord w), w ∈ lw_face := fun w h => List.mem_filter.mpr ⟨(by decide +kernel : ∀ w ∈ (vx_atS RX0 46 "java/lang/IllegalStateException" ["java/lang/RuntimeException", "java/lang/Exception"]).filter (fun w => !goodWord w), w ∈ lw_tbl) w h, (by decide +kernel : ∀ w ∈ (vx_atS RX0 46 "java/lang/IllegalStateException" ["java/lang/RuntimeException", "java/lang/Exception"]).filter (fun w => !goodWord w), (w.onTables && w.keepsFace) = true) w h⟩
theorem tg3_ISE : ∀ w ∈ Cond.classLink RX0 42 "java/lang/IllegalStateException" :: Cond.initialized "java/lang/IllegalStateException" :: vx_atS RX0 46 "java/lang/IllegalStateException" ["java/lang/RuntimeException", "java/lang/Exception"], vx_ot w = true := by decide +kernel
theorem tg0_ISE : Bundle.fit "java/lang/IllegalStateException" = true := by decide +kernel
theorem tg1_IOB : ∀ w ∈ (vx_atS RX0 168 "java/lang/IndexOutOfBoundsException" ["java/lang/RuntimeException", "java/lang/Exception"]).filter goodWord, w ∈ lw_all := lw_sub (by decide +kernel) (by decide +kernel)
theorem tg2_IOB : ∀ w ∈ (vx_atS RX0 168 "java/lang/IndexOutOfBoundsException" ["java/lang/RuntimeException", "java/lang/Exception"]).filter (fun w => !goodWord w), w ∈ lw_face := fun w h => List.mem_filter.mpr ⟨(by decide +kernel : ∀ w ∈ (vx_atS RX0 168 "java/lang/IndexOutOfBoundsException" ["java/lang/RuntimeException", "java/lang/Exception"]).filter (fun w => !goodWord w), w ∈ lw_tbl) w h, (by decide +kernel : ∀ w ∈ (vx_atS RX0 168 "java/lang/IndexOutOfBoundsException" ["java/lang/RuntimeException", "java/lang/Exception"]).filter (fun w => !goodWord w), (w.onTables && w.keepsFace) = true) w h⟩
theorem tg3_IOB : ∀ w ∈ Cond.classLink RX0 164 "java/lang/IndexOutOfBoundsException" :: Cond.initialized "java/lang/IndexOutOfBoundsException" :: vx_atS RX0 168 "java/lang/IndexOutOfBoundsException" ["java/lang/RuntimeException", "java/lang/Exception"], vx_ot w = true := by decide +kernel
theorem tg0_IOB : Bundle.fit "java/lang/IndexOutOfBoundsException" = true := by decide +kernel
end
section
/-! ===== the worlds: the class' object and its arrays, the reference's ===== -/
/-- the cells of the class' object: a 0 itself, a 1 tenths, a 2 odds, a 3 the rows' array, a 4 tosses, a 5 .. a 8 the rows -/
def xw (κ : Nat → ClassId) (a : Nat → Nat) (v : VS) : va_W :=
  [(a 0, .inr (0, [.ref (a 1), .ref (a 2), .ref (a 3), .ref (a 4), .int (nI (vs_c v)), .int (nI (vs_n v)), .int (nI (vs_t v))])),
   (a 1, .inl (κ 0, 8, .inl (fun j => nI (vs_ct v j)))),
   (a 2, .inl (κ 0, 4, .inl (fun j => nI (vs_so v j)))),
   (a 3, .inl (κ 1, 4, .inr (.inr (.inr (.inr (fun j => if j < 4 then some (a (5 + j)) else none)))))),
   (a 4, .inl (κ 2, 12, .inl (fun j => bI (vs_th v j)))),
   (a 5, .inl (κ 0, 8, .inl (fun j => nI (vs_sh v 0 j)))),
   (a 6, .inl (κ 0, 8, .inl (fun j => nI (vs_sh v 1 j)))),
   (a 7, .inl (κ 0, 8, .inl (fun j => nI (vs_sh v 2 j)))),
   (a 8, .inl (κ 0, 8, .inl (fun j => nI (vs_sh v 3 j))))]
abbrev kt_ (κ : Nat → ClassId) : List (ClassId × FieldType) := [(κ 0, .int), (κ 1, .array .int), (κ 2, .boolean)]
theorem xw_row {κ : Nat → ClassId} {a : Nat → Nat} {v : VS} {s : Nat} (h : s < 4) : (xw κ a v)[5 + s]? = some (a (5 + s), .inl (κ 0, 8, .inl (fun j => nI (vs_sh v s j)))) := by
  match s, h with
  | 0, _ => rfl
  | 1, _ => rfl
  | 2, _ => rfl
  | 3, _ => rfl
theorem xw_ref {a : Nat → Nat} {s : Nat} (h : s < 4) : (fun j => if j < 4 then some (a (5 + j)) else none) s = some (a (5 + s)) := if_pos h
/-- tosses as bits -/
def rn_ (f : Nat → Bool) : Nat → Nat
  | 0 => 0
  | n + 1 => rn_ f n + (if f n then 2 ^ n else 0)
def rw_ (v : VS) : Nat := rn_ (vs_th v) (vs_t v)
/-- the reference's shares: place 4 * coin + school; what isn't given yet is 0 -/
def ms_ (v : VS) (j : Nat) : Nat := if j % 4 < vs_n v ∧ j / 4 < vs_c v then vs_sh v (j % 4) (j / 4) else 0
/-- the cells of the reference's object: b 0 itself, b 1 tenths, b 2 odds, b 3 shares -/
def mw (κ : Nat → ClassId) (b : Nat → Nat) (u : Nat) (v : VS) : va_W :=
  [(b 0, .inr (1, [.int (nI u), .int (nI (vs_c v)), .int (nI (vs_n v)), .int (nI (vs_t v)), .int (nI (rw_ v)), .ref (b 1), .ref (b 2), .ref (b 3)])),
   (b 1, .inl (κ 0, 8, .inl (fun j => nI (vs_ct v j)))),
   (b 2, .inl (κ 0, 4, .inl (fun j => nI (vs_so v j)))),
   (b 3, .inl (κ 0, 32, .inl (fun j => nI (ms_ v j))))]
theorem lv_cast {ls : Array Slot} {n : Nat} {k k' : List (Nat × Value)} (h : lv_has ls n k) (e : k = k') : lv_has ls n k' := e ▸ h
/-! ===== how a method's proof begins ===== -/
section INTRO
variable {l : Launch} {y : MethodName} {bytes : ByteArray} {n fr lo : Nat} {ret : Option FieldType} {D : va_G} {tys : List (ClassId × FieldType)} {ws : va_W} {As : List Value}
theorem rd_intro {own : String} {v : Value} {ri : Instr} (hy : plainName y.cls = true) (hcls : y.cls = own) (hA : (lg_sl As).length ≤ n)
    (hret : ∀ (p : Program) (e : Env) (s : State) (m : MethodId) (args : Array Value) (below : List Frame) (meth : Method) (c : Code) (pc : Nat) (ls : Array Slot), p.tables.exec = Jvm.exec → c.code = bytes → meth.sig.returnType = ret → meth.locks = false → decode bytes pc = .ok (ri, 1) →
      W p l e (rm_ fr lo) s m args below meth c s.heap [] 0 0 (MQ below (Qr v) args s 0 0 (fun _ => False)) (F0 m pc ls [v]))
    (body : ∀ (p : Program) (e : Env) (s : State) (m : MethodId) (args : Array Value) (below : List Frame) (meth : Method) (c : Code) (ls : Array Slot) (Qq : State → Prop), p.tables.exec = Jvm.exec → c.code = bytes → c.maxLocals = n → s.vm.findClass own = some m.cls → (∀ w ∈ lw_all, w.before args s = true) → va_K D vwCl tys s → va_P D vwCl ws s.heap →
      (∀ (pc : Nat) (ls : Array Slot), decode bytes pc = .ok (ri, 1) → W p l e (rm_ fr lo) s m args below meth c s.heap [] 0 0 Qq (F0 m pc ls [v])) → lv_has ls n (lv_args 0 As) → W p l e (rm_ fr lo) s m args below meth c s.heap [] 0 0 Qq (F0 m 0 ls [])) :
    Rd l y bytes n ret fr lo (Pw D tys ws As) v := by
  refine Met.ofW (cc := bytes) (maxL := n) (ret := ret) hy rfl ?_
  intro p e s m args below meth c s₁ B hml hv
  obtain ⟨ha, hP, hK⟩ := hv
  have hts0 := atoms_spec (ws := ws_ y bytes n ret) B.pre
  have hts : ∀ w ∈ lw_all, w.before args s = true := fun w h => hts0 w (List.mem_cons_of_mem _ h)
  have hown : s.vm.findClass own = some m.cls := by rw [← hcls]; exact findClass_of_methodNamed B.named
  have hl := lv_entry As hA
  have he : entryFrame m args n = F0 m 0 ((lg_sl As ++ List.replicate (n - (lg_sl As).length) Slot.unset).toArray) [] := by rw [ha]; exact lg_entry_eq m As n
  rw [he]
  exact body p e s m args below meth c _ _ B.exec B.bytes hml hown hts hK hP (fun pc ls d => hret p e s m args below meth c pc ls B.exec B.bytes B.returns B.notSynchronized d) hl
theorem rd_introS {own : String} {v : Value} {ri : Instr} (hy : plainName y.cls = true) (hcls : y.cls = own) (hA : (lg_sl As).length ≤ n)
    (hret : ∀ (p : Program) (e : Env) (s : State) (m : MethodId) (args : Array Value) (below : List Frame) (meth : Method) (c : Code) (pc : Nat) (ls : Array Slot), p.tables.exec = Jvm.exec → c.code = bytes → meth.sig.returnType = ret → meth.locks = false → decode bytes pc = .ok (ri, 1) →
      W p l e (rm_ fr lo) s m args below meth c s.heap [] 0 0 (MQ below (Qr v) args s 0 0 (fun _ => False)) (F0 m pc ls [v]))
    (body : ∀ (p : Program) (e : Env) (s : State) (m : MethodId) (args : Array Value) (below : List Frame) (meth : Method) (c : Code) (ls : Array Slot) (Qq : State → Prop), p.tables.exec = Jvm.exec → c.code = bytes → c.maxLocals = n → s.vm.findClass own = some m.cls → (∀ w ∈ lw_all, w.before args s = true) →
      (∀ (pc : Nat) (ls : Array Slot), decode bytes pc = .ok (ri, 1) → W p l e (rm_ fr lo) s m args below meth c s.heap [] 0 0 Qq (F0 m pc ls [v])) → lv_has ls n (lv_args 0 As) → W p l e (rm_ fr lo) s m args below meth c s.heap [] 0 0 Qq (F0 m 0 ls [])) :
    Rd l y bytes n ret fr lo (Pn As) v := by
  refine Met.ofW (cc := bytes) (maxL := n) (ret := ret) hy rfl ?_
  intro p e s m args below meth c s₁ B hml ha
  have hts0 := atoms_spec (ws := ws_ y bytes n ret) B.pre
  have hts : ∀ w ∈ lw_all, w.before args s = true := fun w h => hts0 w (List.mem_cons_of_mem _ h)
  have hown : s.vm.findClass own = some m.cls := by rw [← hcls]; exact findClass_of_methodNamed B.named
  have hl := lv_entry As hA
  have he : entryFrame m args n = F0 m 0 ((lg_sl As ++ List.replicate (n - (lg_sl As).length) Slot.unset).toArray) [] := by rw [show args = As.toArray from ha]; exact lg_entry_eq m As n
  rw [he]
  exact body p e s m args below meth c _ _ B.exec B.bytes hml hown hts (fun pc ls d => hret p e s m args below meth c pc ls B.exec B.bytes B.returns B.notSynchronized d) hl
/-- a read that answers nothing -/
theorem rn_intro {own : String} (hy : plainName y.cls = true) (hcls : y.cls = own) (hA : (lg_sl As).length ≤ n)
    (body : ∀ (p : Program) (e : Env) (s : State) (m : MethodId) (args : Array Value) (below : List Frame) (meth : Method) (c : Code) (ls : Array Slot) (Qq : State → Prop), p.tables.exec = Jvm.exec → c.code = bytes → c.maxLocals = n → s.vm.findClass own = some m.cls → (∀ w ∈ lw_all, w.before args s = true) → va_K D vwCl tys s → va_P D vwCl ws s.heap →
      (∀ (pc : Nat) (ls : Array Slot), decode bytes pc = .ok (.return_, 1) → W p l e (rm_ fr lo) s m args below meth c s.heap [] 0 0 Qq (F0 m pc ls [])) → lv_has ls n (lv_args 0 As) → W p l e (rm_ fr lo) s m args below meth c s.heap [] 0 0 Qq (F0 m 0 ls [])) :
    Rn l y bytes n none fr lo (Pw D tys ws As) := by
  refine Met.ofW (cc := bytes) (maxL := n) (ret := none) hy rfl ?_
  intro p e s m args below meth c s₁ B hml hv
  obtain ⟨ha, hP, hK⟩ := hv
  have hts0 := atoms_spec (ws := ws_ y bytes n none) B.pre
  have hts : ∀ w ∈ lw_all, w.before args s = true := fun w h => hts0 w (List.mem_cons_of_mem _ h)
  have hown : s.vm.findClass own = some m.cls := by rw [← hcls]; exact findClass_of_methodNamed B.named
  have hl := lv_entry As hA
  have he : entryFrame m args n = F0 m 0 ((lg_sl As ++ List.replicate (n - (lg_sl As).length) Slot.unset).toArray) [] := by rw [ha]; exact lg_entry_eq m As n
  rw [he]
  exact body p e s m args below meth c _ _ B.exec B.bytes hml hown hts hK hP (fun pc ls d => W.vret B.exec B.bytes B.returns (fun t ht _ => ⟨rfl, ht⟩) (fun q hq => absurd hq List.not_mem_nil) d B.notSynchronized) hl
section RETS
variable {p : Program} {e : Env} {s : State} {m : MethodId} {args : Array Value} {below : List Frame} {meth : Method} {c : Code} {pc : Nat} {ls : Array Slot}
theorem ret_I {x : Int32} (hx : p.tables.exec = Jvm.exec) (hb : c.code = bytes) (hr : meth.sig.returnType = some .int) (hlocks : meth.locks = false) (d : decode bytes pc = .ok (.ireturn, 1)) :
    W p l e (rm_ fr lo) s m args below meth c s.heap [] 0 0 (MQ below (Qr (.int x)) args s 0 0 (fun _ => False)) (F0 m pc ls [.int x]) :=
  W.iret hx hb hr (fun t ht _ => ⟨rfl, ht⟩) (fun q hq => absurd hq List.not_mem_nil) d hlocks
theorem ret_Z {x : Bool} (hx : p.tables.exec = Jvm.exec) (hb : c.code = bytes) (hr : meth.sig.returnType = some .boolean) (hlocks : meth.locks = false) (d : decode bytes pc = .ok (.ireturn, 1)) :
    W p l e (rm_ fr lo) s m args below meth c s.heap [] 0 0 (MQ below (Qr (.int (bI x))) args s 0 0 (fun _ => False)) (F0 m pc ls [.int (bI x)]) :=
  W.zret hx hb hr (nar_z x) (fun t ht _ => ⟨rfl, ht⟩) (fun q hq => absurd hq List.not_mem_nil) d hlocks
theorem ret_L {x : Int64} (hx : p.tables.exec = Jvm.exec) (hb : c.code = bytes) (hr : meth.sig.returnType = some .long) (hlocks : meth.locks = false) (d : decode bytes pc = .ok (.lreturn, 1)) :
    W p l e (rm_ fr lo) s m args below meth c s.heap [] 0 0 (MQ below (Qr (.long x)) args s 0 0 (fun _ => False)) (F0 m pc ls [.long x]) :=
  W.lret hx hb hr (fun t ht _ => ⟨rfl, ht⟩) (fun q hq => absurd hq List.not_mem_nil) d hlocks
theorem ret_D {x : UInt64} (hx : p.tables.exec = Jvm.exec) (hb : c.code = bytes) (hr : meth.sig.returnType = some .double) (hlocks : meth.locks = false) (d : decode bytes pc = .ok (.dreturn, 1)) :
    W p l e (rm_ fr lo) s m args below meth c s.heap [] 0 0 (MQ below (Qr (.double x)) args s 0 0 (fun _ => False)) (F0 m pc ls [.double x]) :=
  W.dret hx hb hr (fun t ht _ => ⟨rfl, ht⟩) (fun q hq => absurd hq List.not_mem_nil) d hlocks
end RETS
end INTRO
end
section
/-! ===== facts for the loops ===== -/
/-- the greatest weight among the first coins, as the class' loop holds it -/
def gq_ (v : VS) (a b : Nat) : Nat → Nat
  | 0 => 0
  | n + 1 => wt_ v (ld_ v a b (n + 1)) a b
def lq_ (v : VS) (a b n : Nat) : Int32 := if gq_ v a b n = 0 then -1 else nI (ld_ v a b n)
theorem gq_succ (v : VS) (a b n : Nat) : gq_ v a b (n + 1) = if gq_ v a b n < wt_ v n a b then wt_ v n a b else gq_ v a b n := by
  cases n with
  | zero =>
    have e1 : ld_ v a b 1 = 0 := by simp [ld_]
    have e2 : gq_ v a b 0 = 0 := rfl
    rw [show gq_ v a b 1 = wt_ v (ld_ v a b 1) a b from rfl, e1, e2]
    split <;> omega
  | succ n =>
    show wt_ v (ld_ v a b (n + 1 + 1)) a b = _
    rw [show ld_ v a b (n + 1 + 1) = if wt_ v (ld_ v a b (n + 1)) a b < wt_ v (n + 1) a b then n + 1 else ld_ v a b (n + 1) from rfl]
    show _ = if wt_ v (ld_ v a b (n + 1)) a b < _ then _ else wt_ v (ld_ v a b (n + 1)) a b
    split <;> rfl
theorem ld_succ (v : VS) (a b n : Nat) (h : gq_ v a b n < wt_ v n a b) : ld_ v a b (n + 1) = n := by
  cases n with
  | zero => simp [ld_]
  | succ n => exact if_pos h
theorem ld_succ' (v : VS) (a b n : Nat) (h : ¬ gq_ v a b n < wt_ v n a b) (h0 : 0 < gq_ v a b n) : ld_ v a b (n + 1) = ld_ v a b n := by
  cases n with
  | zero => simp [gq_] at h0
  | succ n => exact if_neg h
theorem lq_up {v : VS} {a b n : Nat} (h : gq_ v a b n < wt_ v n a b) : nI n = lq_ v a b (n + 1) := by
  unfold lq_
  rw [gq_succ, if_pos h, if_neg (by omega), ld_succ v a b n h]
theorem lq_eq {v : VS} {a b n : Nat} (h : wt_ v n a b ≤ gq_ v a b n) : lq_ v a b n = lq_ v a b (n + 1) := by
  have h' : ¬ gq_ v a b n < wt_ v n a b := by omega
  unfold lq_
  rw [gq_succ, if_neg h']
  split
  · rfl
  · rw [ld_succ' v a b n h' (by omega)]
theorem gq_up {v : VS} {a b n : Nat} (h : gq_ v a b n < wt_ v n a b) : wt_ v n a b = gq_ v a b (n + 1) := by rw [gq_succ, if_pos h]
theorem gq_eq {v : VS} {a b n : Nat} (h : wt_ v n a b ≤ gq_ v a b n) : gq_ v a b n = gq_ v a b (n + 1) := by rw [gq_succ, if_neg (by omega)]
theorem gq_b {v : VS} (hv : ok_v v) (n : Nat) {a b : Nat} (h : a + b ≤ 13) : gq_ v a b n ≤ 3240000000000000 := by
  cases n with
  | zero => exact Nat.zero_le _
  | succ n => exact wt_b hv _ h
theorem gq_max (v : VS) (a b : Nat) : ∀ n i, i < n → wt_ v i a b ≤ gq_ v a b n
  | n + 1, i, h => ld_max v a b (n + 1) i h
theorem lq_la (v : VS) (a b : Nat) : lq_ v a b (vs_c v) = la_ v a b := by
  unfold lq_ la_
  have h : gq_ v a b (vs_c v) = 0 ↔ wl_ v a b = 0 := by
    constructor
    · intro h
      rcases Nat.eq_zero_or_pos (wl_ v a b) with q | q
      · exact q
      · obtain ⟨c, h1, h2⟩ := wl_pos.mp q
        have := gq_max v a b _ c h1
        omega
    · intro h
      rcases Nat.eq_zero_or_pos (vs_c v) with q | q
      · rw [q]; rfl
      · obtain ⟨k, hk⟩ : ∃ k, vs_c v = k + 1 := ⟨vs_c v - 1, by omega⟩
        have h3 := ld_lt v a b _ q
        have h4 : wt_ v (ld_ v a b (vs_c v)) a b = 0 := sm_zero (f := fun c => wt_ v c a b) h h3
        rw [hk] at h4 ⊢
        exact h4
  by_cases q : wl_ v a b = 0
  · rw [if_pos q, if_pos (h.mpr q)]
  · rw [if_neg q, if_neg (fun z => q (h.mp z))]
/-! the same for the leading school -/
def gs2_ (v : VS) (a b : Nat) : Nat → Nat
  | 0 => 0
  | n + 1 => sc_ v (lsc_ v a b (n + 1)) a b
def ls2_ (v : VS) (a b n : Nat) : Int32 := if gs2_ v a b n = 0 then -1 else nI (lsc_ v a b n)
theorem gs2_succ (v : VS) (a b n : Nat) : gs2_ v a b (n + 1) = if gs2_ v a b n < sc_ v n a b then sc_ v n a b else gs2_ v a b n := by
  cases n with
  | zero =>
    have e1 : lsc_ v a b 1 = 0 := by simp [lsc_]
    have e2 : gs2_ v a b 0 = 0 := rfl
    rw [show gs2_ v a b 1 = sc_ v (lsc_ v a b 1) a b from rfl, e1, e2]
    split <;> omega
  | succ n =>
    show sc_ v (lsc_ v a b (n + 1 + 1)) a b = _
    rw [show lsc_ v a b (n + 1 + 1) = if sc_ v (lsc_ v a b (n + 1)) a b < sc_ v (n + 1) a b then n + 1 else lsc_ v a b (n + 1) from rfl]
    show _ = if sc_ v (lsc_ v a b (n + 1)) a b < _ then _ else sc_ v (lsc_ v a b (n + 1)) a b
    split <;> rfl
theorem lsc_succ (v : VS) (a b n : Nat) (h : gs2_ v a b n < sc_ v n a b) : lsc_ v a b (n + 1) = n := by
  cases n with
  | zero => simp [lsc_]
  | succ n => exact if_pos h
theorem lsc_succ' (v : VS) (a b n : Nat) (h : ¬ gs2_ v a b n < sc_ v n a b) (h0 : 0 < gs2_ v a b n) : lsc_ v a b (n + 1) = lsc_ v a b n := by
  cases n with
  | zero => simp [gs2_] at h0
  | succ n => exact if_neg h
theorem ls2_up {v : VS} {a b n : Nat} (h : gs2_ v a b n < sc_ v n a b) : nI n = ls2_ v a b (n + 1) := by
  unfold ls2_
  rw [gs2_succ, if_pos h, if_neg (by omega), lsc_succ v a b n h]
theorem ls2_eq {v : VS} {a b n : Nat} (h : sc_ v n a b ≤ gs2_ v a b n) : ls2_ v a b n = ls2_ v a b (n + 1) := by
  have h' : ¬ gs2_ v a b n < sc_ v n a b := by omega
  unfold ls2_
  rw [gs2_succ, if_neg h']
  split
  · rfl
  · rw [lsc_succ' v a b n h' (by omega)]
theorem gs2_up {v : VS} {a b n : Nat} (h : gs2_ v a b n < sc_ v n a b) : sc_ v n a b = gs2_ v a b (n + 1) := by rw [gs2_succ, if_pos h]
theorem gs2_eq {v : VS} {a b n : Nat} (h : sc_ v n a b ≤ gs2_ v a b n) : gs2_ v a b n = gs2_ v a b (n + 1) := by rw [gs2_succ, if_neg (by omega)]
theorem gs2_b {v : VS} (hv : ok_v v) (n : Nat) {a b : Nat} (h : a + b ≤ 13) : gs2_ v a b n ≤ 6480000000000000 := by
  cases n with
  | zero => exact Nat.zero_le _
  | succ n => exact sc_b hv _ h
/-! doublings, as the class' loop counts them -/
theorem su_step {S d L i : Nat} (h : S = sd_ (2 ^ i * d) L (60 - i) + i) (hi : i < 60) (hle : 2 ^ i * d ≤ L) : S = sd_ (2 ^ (i + 1) * d) L (60 - (i + 1)) + (i + 1) := by
  rw [show 60 - i = (60 - (i + 1)) + 1 by omega] at h
  simp only [sd_] at h
  rw [if_pos hle] at h
  rw [h, Nat.pow_succ, show 2 * (2 ^ i * d) = 2 ^ i * 2 * d by rw [← Nat.mul_assoc, Nat.mul_comm 2 (2 ^ i)]]
  omega
theorem su_stop {S d L i : Nat} (h : S = sd_ (2 ^ i * d) L (60 - i) + i) (hlt : L < 2 ^ i * d) : i = S := by
  rw [h, sd_stop hlt]
  omega
theorem su_zero {S d L i : Nat} (h : S = sd_ (2 ^ i * d) L (60 - i) + i) (hi : i = 60) : i = S := by
  subst hi
  rw [h]
  show 60 = sd_ _ _ 0 + 60
  simp [sd_]
theorem nI_dec {n : Nat} (h : 0 < n) : nI n + Int32.ofInt (-1) = nI (n - 1) := by
  obtain ⟨k, rfl⟩ : ∃ k, n = k + 1 := ⟨n - 1, by omega⟩
  exact pk_m1 k
theorem lc_cons {x x' : Nat × Value} {r r' : List (Nat × Value)} (h : x = x') (h2 : r = r') : x :: r = x' :: r' := by rw [h, h2]
end
section
/-! ===== facts for the public reads ===== -/
theorem la_pos {v : VS} {a b : Nat} (h : 0 < wl_ v a b) : la_ v a b = nI (ld_ v a b (vs_c v)) := if_neg (by omega)
theorem la_zero {v : VS} {a b : Nat} (h : wl_ v a b = 0) : la_ v a b = -1 := if_pos h
theorem nI_nm1 {n : Nat} (h : n < 2 ^ 31) : ¬ nI n = -1 := by
  intro e
  have h2 := congrArg Int32.toInt e
  rw [nI_toInt h] at h2
  have h3 : (-1 : Int32).toInt = -1 := by decide
  omega
theorem ld_le (v : VS) (a b : Nat) : ∀ n, ld_ v a b n ≤ n
  | 0 => Nat.le_refl 0
  | n + 1 => Nat.le_of_lt (ld_lt v a b (n + 1) (by omega))
theorem lsc_le (v : VS) (a b : Nat) : ∀ n, lsc_ v a b n ≤ n
  | 0 => Nat.le_refl 0
  | n + 1 => Nat.le_of_lt (lsc_lt v a b (n + 1) (by omega))
/-! schools -/
theorem sc_pos {v : VS} {a b : Nat} : 0 < wl_ v a b ↔ ∃ s, s < vs_n v ∧ 0 < sc_ v s a b := by
  rw [wl_pos]
  constructor
  · rintro ⟨c, h1, h2⟩
    have hg : 0 < gv_ v c := Nat.pos_of_mul_pos_right h2
    have hl : 0 < lk_ v c a b := Nat.pos_of_mul_pos_left h2
    obtain ⟨s, h3, h4⟩ := sm_pos _ hg
    exact ⟨s, h3, Nat.lt_of_lt_of_le (Nat.mul_pos h4 hl) (sm_le1 (f := fun c => pr_ v s c a b) _ c h1)⟩
  · rintro ⟨s, h1, h2⟩
    obtain ⟨c, h3, h4⟩ := sm_pos _ h2
    have hs : 0 < sw_ v s c := Nat.pos_of_mul_pos_right h4
    have hl : 0 < lk_ v c a b := Nat.pos_of_mul_pos_left h4
    exact ⟨c, h3, Nat.mul_pos (Nat.lt_of_lt_of_le hs (sm_le1 (f := fun s => sw_ v s c) _ s h1)) hl⟩
theorem lsc_max (v : VS) (a b : Nat) : ∀ n i, i < n → sc_ v i a b ≤ sc_ v (lsc_ v a b n) a b
  | n + 1, i, h => by
    simp only [lsc_]
    rcases Nat.lt_or_ge i n with q | q
    · have h1 := lsc_max v a b n i q
      split
      · omega
      · exact h1
    · have e : i = n := by omega
      subst e
      split
      · exact Nat.le_refl _
      · omega
theorem gs2_max (v : VS) (a b : Nat) : ∀ n i, i < n → sc_ v i a b ≤ gs2_ v a b n
  | n + 1, i, h => lsc_max v a b (n + 1) i h
theorem gs2_zero {v : VS} {a b : Nat} (h : wl_ v a b = 0) : gs2_ v a b (vs_n v) = 0 := by
  rcases Nat.eq_zero_or_pos (vs_n v) with q | q
  · rw [q]; rfl
  · obtain ⟨k, hk⟩ : ∃ k, vs_n v = k + 1 := ⟨vs_n v - 1, by omega⟩
    have h3 := lsc_lt v a b _ q
    rcases Nat.eq_zero_or_pos (sc_ v (lsc_ v a b (vs_n v)) a b) with z | z
    · rw [hk] at z ⊢; exact z
    · have := sc_pos.mpr ⟨_, h3, z⟩
      omega
theorem ls2_pos {v : VS} {a b : Nat} (h : 0 < wl_ v a b) : ls2_ v a b (vs_n v) = nI (lsc_ v a b (vs_n v)) := by
  obtain ⟨s, h1, h2⟩ := sc_pos.mp h
  have := gs2_max v a b _ s h1
  exact if_neg (by omega)
theorem ls2_zero {v : VS} {a b : Nat} (h : wl_ v a b = 0) : ls2_ v a b (vs_n v) = -1 := if_pos (gs2_zero h)
theorem ls2_ne {v : VS} (hv : ok_v v) {a b : Nat} (h : 0 < wl_ v a b) : ¬ ls2_ v a b (vs_n v) = -1 := by
  rw [ls2_pos h]
  have h1 := lsc_le v a b (vs_n v)
  have h2 := hv.2.1
  exact nI_nm1 (by omega)
/-! the leader behind a toss -/
def lb_ (v : VS) (h : Bool) : Nat := if h then ld_ v (hh_ v + 1) (tt_ v) (vs_c v) else ld_ v (hh_ v) (tt_ v + 1) (vs_c v)
theorem lb_t {v : VS} {h : Bool} (hp : 0 < ch_ v h (hh_ v) (tt_ v)) (e : h = true) : la_ v (hh_ v + 1) (tt_ v) = nI (lb_ v h) := by
  subst e
  exact la_pos hp
theorem lb_f {v : VS} {h : Bool} (hp : 0 < ch_ v h (hh_ v) (tt_ v)) (e : h = false) : la_ v (hh_ v) (tt_ v + 1) = nI (lb_ v h) := by
  subst e
  exact la_pos hp
theorem lb_le (v : VS) (h : Bool) : lb_ v h ≤ vs_c v := by
  unfold lb_
  split <;> exact ld_le _ _ _ _
/-! tosses to lead -/
theorem sr_hit {P : Nat → Bool} {n i : Nat} (hn : 0 < n) (h : P i = true) : sr_ P n i = nI i := by
  obtain ⟨m, rfl⟩ : ∃ m, n = m + 1 := ⟨n - 1, by omega⟩
  simp [sr_, h]
theorem sr_miss {P : Nat → Bool} {n i : Nat} (hn : 0 < n) (h : P i = false) : sr_ P n i = sr_ P (n - 1) (i + 1) := by
  obtain ⟨m, rfl⟩ : ∃ m, n = m + 1 := ⟨n - 1, by omega⟩
  simp [sr_, h]
theorem ttl_end {v : VS} {c i : Nat} (hj : tl_ v c = sr_ (tp_ v c) (13 - vs_t v - i) i) (hi : i = 13 - vs_t v) : (-1 : Int32) = tl_ v c := by
  rw [hj, show 13 - vs_t v - i = 0 by omega]
  rfl
theorem ttl_hit1 {v : VS} (hv : ok_v v) {c i : Nat} (hc : c < vs_c v) (hj : tl_ v c = sr_ (tp_ v c) (13 - vs_t v - i) i) (hi : i < 13 - vs_t v) (h : la_ v (hh_ v + i) (tt_ v) = nI c) : nI i = tl_ v c := by
  rw [hj, sr_hit (by omega)]
  unfold tp_
  rw [(la_eq v hv hc).mp h]
  rfl
theorem ttl_hit2 {v : VS} (hv : ok_v v) {c i : Nat} (hc : c < vs_c v) (hj : tl_ v c = sr_ (tp_ v c) (13 - vs_t v - i) i) (hi : i < 13 - vs_t v) (h : la_ v (hh_ v) (tt_ v + i) = nI c) : nI i = tl_ v c := by
  rw [hj, sr_hit (by omega)]
  unfold tp_
  rw [(la_eq v hv hc).mp h, Bool.or_true]
theorem ttl_miss {v : VS} (hv : ok_v v) {c i : Nat} (hc : c < vs_c v) (hj : tl_ v c = sr_ (tp_ v c) (13 - vs_t v - i) i) (hi : i < 13 - vs_t v) (h1 : ¬ la_ v (hh_ v + i) (tt_ v) = nI c) (h2 : ¬ la_ v (hh_ v) (tt_ v + i) = nI c) : tl_ v c = sr_ (tp_ v c) (13 - vs_t v - (i + 1)) (i + 1) := by
  rw [hj, sr_miss (by omega)]
  · rw [show 13 - vs_t v - i - 1 = 13 - vs_t v - (i + 1) by omega]
  · unfold tp_
    rw [la_eq v hv hc] at h1 h2
    simp [h1, h2]
/-! decisive tosses -/
theorem hd_pos {f : Nat → Bool} : ∀ {n i : Nat}, i < n → f i = true → 0 < hd_ f n
  | n + 1, i, h, e => by
    simp only [hd_]
    rcases Nat.lt_or_ge i n with q | q
    · have := hd_pos q e; omega
    · have e2 : i = n := by omega
      subst e2
      rw [if_pos e]; omega
theorem td_pos {f : Nat → Bool} : ∀ {n i : Nat}, i < n → f i = false → hd_ f n < n
  | n + 1, i, h, e => by
    simp only [hd_]
    have hle := hd_le f n
    rcases Nat.lt_or_ge i n with q | q
    · have := td_pos q e
      split <;> omega
    · have e2 : i = n := by omega
      subst e2
      rw [if_neg (by rw [e]; simp)]; omega
theorem hh_pos {v : VS} {i : Nat} (h : i < vs_t v) (e : vs_th v i = true) : 0 < hh_ v := hd_pos h e
theorem tt_pos {v : VS} {i : Nat} (h : i < vs_t v) (e : vs_th v i = false) : 0 < tt_ v := by
  have := td_pos h e
  unfold tt_ hh_
  omega
theorem lw_la_t {v : VS} {i : Nat} (hw : 0 < wl_ v (hh_ v) (tt_ v)) (e : vs_th v i = true) : la_ v (hh_ v - 1) (tt_ v) = nI (lw_ v i) := by
  rw [la_pos (wl_pos_of_le (Nat.sub_le _ _) (Nat.le_refl _) hw)]
  unfold lw_
  rw [if_pos e]
theorem lw_la_f {v : VS} {i : Nat} (hw : 0 < wl_ v (hh_ v) (tt_ v)) (e : vs_th v i = false) : la_ v (hh_ v) (tt_ v - 1) = nI (lw_ v i) := by
  rw [la_pos (wl_pos_of_le (Nat.le_refl _) (Nat.sub_le _ _) hw)]
  unfold lw_
  rw [if_neg (by rw [e]; simp)]
theorem lw_le (v : VS) (i : Nat) : lw_ v i ≤ vs_c v := by
  unfold lw_
  split <;> exact ld_le _ _ _ _
abbrev dcf_ (v : VS) : Nat → Nat := fun t => if lw_ v t = ld_ v (hh_ v) (tt_ v) (vs_c v) then 0 else 1
theorem dc_e {v : VS} {i : Nat} (hv : ok_v v) (hw : 0 < wl_ v (hh_ v) (tt_ v)) (h : nI (lw_ v i) = la_ v (hh_ v) (tt_ v)) : sm_ (dcf_ v) i = sm_ (dcf_ v) (i + 1) := by
  have h1 := lw_le v i
  have h2 := ld_le v (hh_ v) (tt_ v) (vs_c v)
  have h3 := hv.1
  rw [la_pos hw, nI_eq (by omega) (by omega)] at h
  simp [sm_, dcf_, h]
theorem dc_n {v : VS} {i : Nat} (hv : ok_v v) (hw : 0 < wl_ v (hh_ v) (tt_ v)) (h : ¬ nI (lw_ v i) = la_ v (hh_ v) (tt_ v)) : sm_ (dcf_ v) i + 1 = sm_ (dcf_ v) (i + 1) := by
  have h1 := lw_le v i
  have h2 := ld_le v (hh_ v) (tt_ v) (vs_c v)
  have h3 := hv.1
  rw [la_pos hw, nI_eq (by omega) (by omega)] at h
  simp [sm_, dcf_, h]
theorem sm_le01 {f : Nat → Nat} (h : ∀ i, f i ≤ 1) (n : Nat) : sm_ f n ≤ n := by have := sm_le h n; omega
theorem dc_le (v : VS) : dc_ v ≤ vs_t v := sm_le01 (fun i => by split <;> omega) _
theorem go_le (v : VS) : go_ v ≤ vs_c v := sm_le01 (fun i => by split <;> omega) _
theorem as_le (v : VS) : as_ v ≤ vs_t v * 60 := sm_le (sa_le v) _
/-! the greatest surprise -/
def fS_ (v : VS) (i : Nat) : Int32 := if i = 0 then -1 else nI (gs_ v i)
def gS_ (v : VS) (i : Nat) : Int32 := if i = 0 then -1 else nI (sa_ v (gs_ v i))
theorem m1_lt (n : Nat) (h : n < 2 ^ 31) : ¬ nI n ≤ (-1 : Int32) := by
  intro e
  have h2 := Int32.le_iff_toInt_le.mp e
  rw [nI_toInt h] at h2
  have h3 : (-1 : Int32).toInt = -1 := by decide
  omega
theorem gS_up {v : VS} {i : Nat} (h : ¬ nI (sa_ v i) ≤ gS_ v i) : nI (sa_ v i) = gS_ v (i + 1) ∧ nI i = fS_ v (i + 1) := by
  unfold gS_ fS_
  rw [if_neg (by omega), if_neg (by omega)]
  have e : gs_ v (i + 1) = i := by
    rcases Nat.eq_zero_or_pos i with q | q
    · subst q
      simp [gs_]
    · unfold gS_ at h
      rw [if_neg (by omega)] at h
      have h1 := sa_le v i
      have h2 := sa_le v (gs_ v i)
      rw [nI_leI (by omega) (by omega)] at h
      exact if_pos (by omega)
  rw [e]
  exact ⟨rfl, rfl⟩
theorem gS_eq {v : VS} {i : Nat} (h : nI (sa_ v i) ≤ gS_ v i) : gS_ v i = gS_ v (i + 1) ∧ fS_ v i = fS_ v (i + 1) := by
  have h1 := sa_le v i
  have h2 := sa_le v (gs_ v i)
  have hi : i ≠ 0 := by
    intro q
    subst q
    exact m1_lt _ (by omega) h
  unfold gS_ fS_
  unfold gS_ at h
  rw [if_neg hi] at h ⊢
  rw [if_neg hi, if_neg (by omega), if_neg (by omega)]
  rw [nI_leI (by omega) (by omega)] at h
  have e : gs_ v (i + 1) = gs_ v i := if_neg (by omega)
  rw [e]
  exact ⟨rfl, rfl⟩
/-! the mean -/
def mt_ (v : VS) : UInt64 := FP.ddiv (FP.l2d (lN (ch_ v true (hh_ v) (tt_ v)))) (FP.l2d (lN (wl_ v (hh_ v) (tt_ v))))
theorem l2d_num (q : Int64) : FP.Core.dIsNaN (FP.l2d q) = false := by
  cases h : FP.Core.dIsNaN (FP.l2d q) with
  | false => rfl
  | true =>
    have h1 := (FP.Core.isNaN_bits _).mp h
    have h2 := (FP.Core.fin_bits _).mp (FP.Core.l2d_fin q)
    exact absurd h1 (by show ¬ _ < (FP.Core.l2d q).toNat % 2 ^ 63; omega)
theorem lN_ne0 {r : Nat} (h0 : 0 < r) (hr : r < 2 ^ 63) : lN r ≠ 0 := by
  intro e
  have e2 : lN r = lN 0 := e
  rw [pk_lEQ hr (by omega)] at e2
  omega
theorem dd_nan (q : Int64) {r : Nat} (h0 : 0 < r) (hr : r < 2 ^ 63) : FP.Core.dIsNaN (FP.ddiv (FP.l2d q) (FP.l2d (lN r))) = false := by
  refine FP.Core.ddiv_out (l2d_num q) (FP.Core.l2d_fin _) (fun z => ?_)
  exact FP.Core.l2d_ne_zero (lN_ne0 h0 hr) ((FP.Core.zero_bits2 _).mp z)
theorem num_n64 {x : UInt64} (h : FP.Core.dIsNaN x = false) : vf_n64 x := by
  have h1 : ¬ 9218868437227405312 < x.toNat % 2 ^ 63 := fun z => by rw [(FP.Core.isNaN_bits x).mpr z] at h; cases h
  unfold vf_n64
  rw [UInt64.le_iff_toNat_le, UInt64.toNat_and]
  have h2 : (0x7fffffffffffffff : UInt64).toNat = 2 ^ 63 - 1 := by decide
  have h3 : (0x7ff0000000000000 : UInt64).toNat = 9218868437227405312 := by decide
  rw [h2, h3, Nat.and_two_pow_sub_one_eq_mod]
  omega
theorem dd_ok (q : Int64) {r : Nat} (h0 : 0 < r) (hr : r < 2 ^ 63) : vf_n64 (FP.ddiv (FP.l2d q) (FP.l2d (lN r))) := num_n64 (dd_nan q h0 hr)
abbrev gof_ (v : VS) : Nat → Nat := fun c => if wt_ v c (hh_ v) (tt_ v) = 0 then 1 else 0
end
section
set_option maxHeartbeats 4000000 in
set_option maxRecDepth 100000 in
theorem c_X0_headsAhead (l : Launch) (D : va_G) (κ : Nat → ClassId) (a : Nat → Nat) (v : VS) (hv : ok_v v) (k : Nat) (hk : k ≤ 12) : Rd l yX0_headsAhead cX0_headsAhead 4 (some .int) 0 0 (Pw D (kt_ κ) (xw κ a v) [.ref (a 0), .int (nI (k))]) (.int (nI (hd_ (vs_th v) k))) := by
  refine rd_intro (own := RX0) (by decide +kernel) rfl (Nat.le_of_ble_eq_true rfl) (fun p e s m args below meth c pc ls hx hb hr hlk d => ret_I hx hb hr hlk d) ?_
  intro p e s m args below meth c ls Qq hx hb hml hown hts hK hP hend hl
  have hl : lv_has ls 4 [(0, .ref (a 0)), (1, .int (nI (k)))] := hl
  obtain ⟨hv1, hv2, hv3, hv4, hv5, hv6⟩ := id hv
  refine lv_iconst (v := nI (0)) hx hb dX0_headsAhead_0 (by decide) ?_
  refine lv_istore_n (lv' := [(2, .int (nI (0))), (0, .ref (a 0)), (1, .int (nI (k)))]) hx hb dX0_headsAhead_1 rfl hl (by decide) rfl (fun ls hl => ?_)
  refine lv_iconst (v := nI (0)) hx hb dX0_headsAhead_2 (by decide) ?_
  refine lv_istore_n (lv' := [(3, .int (nI (0))), (2, .int (nI (0))), (0, .ref (a 0)), (1, .int (nI (k)))]) hx hb dX0_headsAhead_3 rfl hl (by decide) rfl (fun ls hl => ?_)
  suffices hloop_4 : ∀ (n_4 i : Nat) (ls : Array Slot), i + n_4 = k → lv_has ls 4 [(0, .ref (a 0)), (1, .int (nI (k))), (2, .int (nI (hd_ (vs_th v) i))), (3, .int (nI (i)))] → W p l e (rm_ 0 0) s m args below meth c s.heap [] 0 0 Qq (F0 m 4 ls []) from hloop_4 (k - 0) (0) ls (by omega) (lv_cast (k := [(0, .ref (a 0)), (1, .int (nI (k))), (2, .int (nI (0))), (3, .int (nI (0)))]) (lv_sub hl [2, 3, 1, 0] rfl) (lc_cons rfl (lc_cons rfl (lc_cons (congrArg (fun z : Nat => ((2 : Nat), Value.int (nI z))) (show (0 : Nat) = hd_ (vs_th v) 0 from by first | rfl | omega)) (lc_cons rfl rfl)))))
  intro n_4
  induction n_4 with
  | zero =>
    intro i ls hin_4 hl
    have hi_4 : i = k := by omega
    refine lv_iload_n hx hb dX0_headsAhead_4 rfl (lv_at hl 3 rfl) ?_
    refine lv_iload_n hx hb dX0_headsAhead_5 rfl (lv_at hl 1 rfl) ?_
    refine nv_icmp_ge (tgt := 27) hx hb dX0_headsAhead_6 (by decide) (by omega) (by omega) (fun c_6 => ?_) (fun z => absurd z (by omega))
    refine lv_iload_n hx hb dX0_headsAhead_27 rfl (lv_at hl 2 rfl) ?_
    refine nv_topi (congrArg nI (show (hd_ (vs_th v) i : Nat) = hd_ (vs_th v) k from by rw [hi_4])) ?_
    exact hend _ _ dX0_headsAhead_28
  | succ n_4 ih_4 =>
    intro i ls hin_4 hl
    refine lv_iload_n hx hb dX0_headsAhead_4 rfl (lv_at hl 3 rfl) ?_
    refine lv_iload_n hx hb dX0_headsAhead_5 rfl (lv_at hl 1 rfl) ?_
    refine nv_icmp_ge (tgt := 27) hx hb dX0_headsAhead_6 (by decide) (by omega) (by omega) (fun z => absurd z (by omega)) (fun c_6 => ?_)
    refine lv_aload_n hx hb dX0_headsAhead_9 rfl (lv_at hl 0 rfl) ?_
    refine va_get (D := D) (ci := 0) (v := .ref (a 4)) (C := RX0) (T := TX0) (N := 7) hx hb hts i_X0 hown hK hP 0 rfl rfl 3 (by decide) (hts _ q_f_X0_21) (fun _ h9 => h9) rfl dX0_headsAhead_10 ?_
    refine lv_iload_n hx hb dX0_headsAhead_13 rfl (lv_at hl 3 rfl) ?_
    refine nv_zald hx hb hK hP 4 2 (n := 12) (v := bI (vs_th v i)) rfl rfl (by omega) (by decide) rfl dX0_headsAhead_14 ?_
    refine bv_if_eq (tgt := 21) hx hb dX0_headsAhead_15 (by decide) (fun c_15 => ?_) (fun c_15 => ?_)
    · refine lv_iinc (v := nI (i + 1)) (lv' := [(3, .int (nI (i + 1))), (0, .ref (a 0)), (1, .int (nI (k))), (2, .int (nI (hd_ (vs_th v) i)))]) hx hb dX0_headsAhead_21 hl (k := 3) rfl (nI_add _ _) (by decide) rfl (fun ls hl => ?_)
      refine lv_goto (tgt := 4) hx hb dX0_headsAhead_24 (by decide) ?_
      exact ih_4 (i + 1) ls (by omega) (lv_cast (k := [(0, .ref (a 0)), (1, .int (nI (k))), (2, .int (nI (hd_ (vs_th v) i))), (3, .int (nI (i + 1)))]) (lv_sub hl [1, 2, 3, 0] rfl) (lc_cons rfl (lc_cons rfl (lc_cons (congrArg (fun z : Nat => ((2 : Nat), Value.int (nI z))) (show (hd_ (vs_th v) i : Nat) = hd_ (vs_th v) (i + 1) from by simp [hd_, c_6, c_15])) (lc_cons (congrArg (fun z : Nat => ((3 : Nat), Value.int (nI z))) (show (i + 1 : Nat) = (i + 1) from by first | rfl | omega)) rfl)))))
    · refine lv_iinc (v := nI ((hd_ (vs_th v) i) + 1)) (lv' := [(2, .int (nI ((hd_ (vs_th v) i) + 1))), (0, .ref (a 0)), (1, .int (nI (k))), (3, .int (nI (i)))]) hx hb dX0_headsAhead_18 hl (k := 2) rfl (nI_add _ _) (by decide) rfl (fun ls hl => ?_)
      refine lv_iinc (v := nI (i + 1)) (lv' := [(3, .int (nI (i + 1))), (2, .int (nI ((hd_ (vs_th v) i) + 1))), (0, .ref (a 0)), (1, .int (nI (k)))]) hx hb dX0_headsAhead_21 hl (k := 3) rfl (nI_add _ _) (by decide) rfl (fun ls hl => ?_)
      refine lv_goto (tgt := 4) hx hb dX0_headsAhead_24 (by decide) ?_
      exact ih_4 (i + 1) ls (by omega) (lv_cast (k := [(0, .ref (a 0)), (1, .int (nI (k))), (2, .int (nI ((hd_ (vs_th v) i) + 1))), (3, .int (nI (i + 1)))]) (lv_sub hl [2, 3, 1, 0] rfl) (lc_cons rfl (lc_cons rfl (lc_cons (congrArg (fun z : Nat => ((2 : Nat), Value.int (nI z))) (show ((hd_ (vs_th v) i) + 1 : Nat) = hd_ (vs_th v) (i + 1) from by simp [hd_, c_6, c_15])) (lc_cons (congrArg (fun z : Nat => ((3 : Nat), Value.int (nI z))) (show (i + 1 : Nat) = (i + 1) from by first | rfl | omega)) rfl)))))
set_option maxHeartbeats 4000000 in
set_option maxRecDepth 100000 in
theorem c_X0_headsNow (l : Launch) (D : va_G) (κ : Nat → ClassId) (a : Nat → Nat) (v : VS) (hv : ok_v v) : Rd l yX0_headsNow cX0_headsNow 1 (some .int) 1 23 (Pw D (kt_ κ) (xw κ a v) [.ref (a 0)]) (.int (nI (hh_ v))) := by
  refine rd_intro (own := RX0) (by decide +kernel) rfl (Nat.le_of_ble_eq_true rfl) (fun p e s m args below meth c pc ls hx hb hr hlk d => ret_I hx hb hr hlk d) ?_
  intro p e s m args below meth c ls Qq hx hb hml hown hts hK hP hend hl
  have hl : lv_has ls 1 [(0, .ref (a 0))] := hl
  obtain ⟨hv1, hv2, hv3, hv4, hv5, hv6⟩ := id hv
  refine lv_aload_n hx hb dX0_headsNow_0 rfl (lv_at hl 0 rfl) ?_
  refine lv_aload_n hx hb dX0_headsNow_1 rfl (lv_at hl 0 rfl) ?_
  refine va_get (D := D) (ci := 0) (v := .int (nI (vs_t v))) (C := RX0) (T := TX0) (N := 7) hx hb hts i_X0 hown hK hP 0 rfl rfl 6 (by decide) (hts _ q_f_X0_32) (fun _ h9 => h9) rfl dX0_headsNow_2 ?_
  refine rd_V (rest := []) ⟨hx, hb, hml, hown, hts⟩ (c_X0_headsAhead l D κ a v hv (vs_t v) (by omega)) g_X0_177 n_X0_headsAhead ⟨Nat.le_of_ble_eq_true rfl, Nat.le_of_ble_eq_true rfl⟩ hK hP rfl rfl rfl hl.1 rfl (Nat.le_of_ble_eq_true rfl) dX0_headsNow_5 ⟨Nat.zero_le _, Nat.zero_le _⟩ ?_
  refine nv_topi (congrArg nI (show (hd_ (vs_th v) (vs_t v) : Nat) = hh_ v from by first | rfl | omega)) ?_
  exact hend _ _ dX0_headsNow_8
set_option maxHeartbeats 4000000 in
set_option maxRecDepth 100000 in
theorem c_X0_tailsNow (l : Launch) (D : va_G) (κ : Nat → ClassId) (a : Nat → Nat) (v : VS) (hv : ok_v v) : Rd l yX0_tailsNow cX0_tailsNow 1 (some .int) 1 23 (Pw D (kt_ κ) (xw κ a v) [.ref (a 0)]) (.int (nI (tt_ v))) := by
  refine rd_intro (own := RX0) (by decide +kernel) rfl (Nat.le_of_ble_eq_true rfl) (fun p e s m args below meth c pc ls hx hb hr hlk d => ret_I hx hb hr hlk d) ?_
  intro p e s m args below meth c ls Qq hx hb hml hown hts hK hP hend hl
  have hl : lv_has ls 1 [(0, .ref (a 0))] := hl
  obtain ⟨hv1, hv2, hv3, hv4, hv5, hv6⟩ := id hv
  have hq := hd_le (vs_th v) (vs_t v)
  refine lv_aload_n hx hb dX0_tailsNow_0 rfl (lv_at hl 0 rfl) ?_
  refine va_get (D := D) (ci := 0) (v := .int (nI (vs_t v))) (C := RX0) (T := TX0) (N := 7) hx hb hts i_X0 hown hK hP 0 rfl rfl 6 (by decide) (hts _ q_f_X0_32) (fun _ h9 => h9) rfl dX0_tailsNow_1 ?_
  refine lv_aload_n hx hb dX0_tailsNow_4 rfl (lv_at hl 0 rfl) ?_
  refine lv_aload_n hx hb dX0_tailsNow_5 rfl (lv_at hl 0 rfl) ?_
  refine va_get (D := D) (ci := 0) (v := .int (nI (vs_t v))) (C := RX0) (T := TX0) (N := 7) hx hb hts i_X0 hown hK hP 0 rfl rfl 6 (by decide) (hts _ q_f_X0_32) (fun _ h9 => h9) rfl dX0_tailsNow_6 ?_
  refine rd_V (rest := [.int (nI (vs_t v))]) ⟨hx, hb, hml, hown, hts⟩ (c_X0_headsAhead l D κ a v hv (vs_t v) (by omega)) g_X0_177 n_X0_headsAhead ⟨Nat.le_of_ble_eq_true rfl, Nat.le_of_ble_eq_true rfl⟩ hK hP rfl rfl rfl hl.1 rfl (Nat.le_of_ble_eq_true rfl) dX0_tailsNow_9 ⟨Nat.zero_le _, Nat.zero_le _⟩ ?_
  refine nv_isub (r := (vs_t v) - (hd_ (vs_th v) (vs_t v))) hx hb dX0_tailsNow_12 (by omega) ?_
  refine nv_topi (congrArg nI (show ((vs_t v) - (hd_ (vs_th v) (vs_t v)) : Nat) = tt_ v from by first | rfl | omega)) ?_
  exact hend _ _ dX0_tailsNow_13
set_option maxHeartbeats 4000000 in
set_option maxRecDepth 100000 in
theorem c_X0_startWeight (l : Launch) (D : va_G) (κ : Nat → ClassId) (a : Nat → Nat) (v : VS) (hv : ok_v v) (s_ : Nat) (c_ : Nat) (hs : s_ < 4) (hc : c_ < 8) : Rd l yX0_startWeight cX0_startWeight 3 (some .long) 0 0 (Pw D (kt_ κ) (xw κ a v) [.ref (a 0), .int (nI (s_)), .int (nI (c_))]) (.long (lN (sw_ v s_ c_))) := by
  refine rd_intro (own := RX0) (by decide +kernel) rfl (Nat.le_of_ble_eq_true rfl) (fun p e s m args below meth c pc ls hx hb hr hlk d => ret_L hx hb hr hlk d) ?_
  intro p e s m args below meth c ls Qq hx hb hml hown hts hK hP hend hl
  have hl : lv_has ls 3 [(0, .ref (a 0)), (1, .int (nI (s_))), (2, .int (nI (c_)))] := hl
  obtain ⟨hv1, hv2, hv3, hv4, hv5, hv6⟩ := id hv
  have h5 := hv5 s_
  have h6 := hv6 s_ c_
  refine lv_aload_n hx hb dX0_startWeight_0 rfl (lv_at hl 0 rfl) ?_
  refine va_get (D := D) (ci := 0) (v := .ref (a 2)) (C := RX0) (T := TX0) (N := 7) hx hb hts i_X0 hown hK hP 0 rfl rfl 1 (by decide) (hts _ q_f_X0_13) (fun _ h9 => h9) rfl dX0_startWeight_1 ?_
  refine lv_iload_n hx hb dX0_startWeight_4 rfl (lv_at hl 1 rfl) ?_
  refine nv_iald hx hb hK hP 2 0 (n := 4) (v := nI (vs_so v s_)) rfl rfl (by omega) (by decide) rfl dX0_startWeight_5 ?_
  refine nv_i2l hx hb dX0_startWeight_6 (by omega) ?_
  refine lv_aload_n hx hb dX0_startWeight_7 rfl (lv_at hl 0 rfl) ?_
  refine va_get (D := D) (ci := 0) (v := .ref (a 3)) (C := RX0) (T := TX0) (N := 7) hx hb hts i_X0 hown hK hP 0 rfl rfl 2 (by decide) (hts _ q_f_X0_18) (fun _ h9 => h9) rfl dX0_startWeight_8 ?_
  refine lv_iload_n hx hb dX0_startWeight_11 rfl (lv_at hl 1 rfl) ?_
  refine nv_aald hx hb hK hP 3 1 (r := a (5 + s_)) rfl rfl (by omega) (by decide) (xw_ref (by omega)) dX0_startWeight_12 ?_
  refine lv_iload_n hx hb dX0_startWeight_13 rfl (lv_at hl 2 rfl) ?_
  refine nv_iald hx hb hK hP (5 + s_) 0 (n := 8) (v := nI (vs_sh v s_ c_)) (xw_row (by omega)) rfl (by omega) (by decide) rfl dX0_startWeight_14 ?_
  refine nv_i2l hx hb dX0_startWeight_15 (by omega) ?_
  refine nv_lmul hx hb dX0_startWeight_16 rfl ?_
  refine nv_topl (congrArg lN (show ((vs_so v s_) * (vs_sh v s_ c_) : Nat) = sw_ v s_ c_ from by first | rfl | omega)) ?_
  exact hend _ _ dX0_startWeight_17
set_option maxHeartbeats 4000000 in
set_option maxRecDepth 100000 in
theorem c_X0_likelihood (l : Launch) (D : va_G) (κ : Nat → ClassId) (a : Nat → Nat) (v : VS) (hv : ok_v v) (c_ : Nat) (x : Nat) (y : Nat) (hc : c_ < 8) (hx2 : x ≤ 20) (hy : y ≤ 20) : Rd l yX0_likelihood cX0_likelihood 8 (some .long) 0 0 (Pw D (kt_ κ) (xw κ a v) [.ref (a 0), .int (nI (c_)), .int (nI (x)), .int (nI (y))]) (.long (lN (lk_ v c_ x y))) := by
  refine rd_intro (own := RX0) (by decide +kernel) rfl (Nat.le_of_ble_eq_true rfl) (fun p e s m args below meth c pc ls hx hb hr hlk d => ret_L hx hb hr hlk d) ?_
  intro p e s m args below meth c ls Qq hx hb hml hown hts hK hP hend hl
  have hl : lv_has ls 8 [(0, .ref (a 0)), (1, .int (nI (c_))), (2, .int (nI (x))), (3, .int (nI (y)))] := hl
  obtain ⟨hv1, hv2, hv3, hv4, hv5, hv6⟩ := id hv
  have h4 := hv4 c_
  refine lv_aload_n hx hb dX0_likelihood_0 rfl (lv_at hl 0 rfl) ?_
  refine va_get (D := D) (ci := 0) (v := .ref (a 1)) (C := RX0) (T := TX0) (N := 7) hx hb hts i_X0 hown hK hP 0 rfl rfl 0 (by decide) (hts _ q_f_X0_9) (fun _ h9 => h9) rfl dX0_likelihood_1 ?_
  refine lv_iload_n hx hb dX0_likelihood_4 rfl (lv_at hl 1 rfl) ?_
  refine nv_iald hx hb hK hP 1 0 (n := 8) (v := nI (vs_ct v c_)) rfl rfl (by omega) (by decide) rfl dX0_likelihood_5 ?_
  refine lv_istore (lv' := [(4, .int (nI (vs_ct v c_))), (0, .ref (a 0)), (1, .int (nI (c_))), (2, .int (nI (x))), (3, .int (nI (y)))]) hx hb dX0_likelihood_6 hl (by decide) rfl (fun ls hl => ?_)
  refine lv_lconst (v := lN (1)) hx hb dX0_likelihood_8 (by decide) ?_
  refine lv_lstore (lv' := [(5, .long (lN (1))), (4, .int (nI (vs_ct v c_))), (0, .ref (a 0)), (1, .int (nI (c_))), (2, .int (nI (x))), (3, .int (nI (y)))]) hx hb dX0_likelihood_9 hl (by decide) rfl (fun ls hl => ?_)
  refine lv_iconst (v := nI (0)) hx hb dX0_likelihood_11 (by decide) ?_
  refine lv_istore (lv' := [(7, .int (nI (0))), (5, .long (lN (1))), (4, .int (nI (vs_ct v c_))), (0, .ref (a 0)), (1, .int (nI (c_))), (2, .int (nI (x))), (3, .int (nI (y)))]) hx hb dX0_likelihood_12 hl (by decide) rfl (fun ls hl => ?_)
  suffices hloop_14 : ∀ (n_14 i : Nat) (ls : Array Slot), i + n_14 = x → lv_has ls 8 [(0, .ref (a 0)), (1, .int (nI (c_))), (2, .int (nI (x))), (3, .int (nI (y))), (4, .int (nI (vs_ct v c_))), (5, .long (lN (vs_ct v c_ ^ i))), (7, .int (nI (i)))] → W p l e (rm_ 0 0) s m args below meth c s.heap [] 0 0 Qq (F0 m 14 ls []) from hloop_14 (x - 0) (0) ls (by omega) (lv_cast (k := [(0, .ref (a 0)), (1, .int (nI (c_))), (2, .int (nI (x))), (3, .int (nI (y))), (4, .int (nI (vs_ct v c_))), (5, .long (lN (1))), (7, .int (nI (0)))]) (lv_sub hl [3, 4, 5, 6, 2, 1, 0] rfl) (lc_cons rfl (lc_cons rfl (lc_cons rfl (lc_cons rfl (lc_cons rfl (lc_cons (congrArg (fun z : Nat => ((5 : Nat), Value.long (lN z))) (show (1 : Nat) = vs_ct v c_ ^ 0 from by first | rfl | omega)) (lc_cons rfl rfl))))))))
  intro n_14
  induction n_14 with
  | zero =>
    intro i ls hin_14 hl
    have hi_14 : i = x := by omega
    refine lv_iload hx hb dX0_likelihood_14 (lv_at hl 6 rfl) ?_
    refine lv_iload_n hx hb dX0_likelihood_16 rfl (lv_at hl 2 rfl) ?_
    refine nv_icmp_ge (tgt := 34) hx hb dX0_likelihood_17 (by decide) (by omega) (by omega) (fun c_17 => ?_) (fun z => absurd z (by omega))
    refine lv_iconst (v := nI (0)) hx hb dX0_likelihood_34 (by decide) ?_
    refine lv_istore (lv' := [(7, .int (nI (0))), (0, .ref (a 0)), (1, .int (nI (c_))), (2, .int (nI (x))), (3, .int (nI (y))), (4, .int (nI (vs_ct v c_))), (5, .long (lN (vs_ct v c_ ^ i)))]) hx hb dX0_likelihood_35 hl (by decide) rfl (fun ls hl => ?_)
    suffices hloop_37 : ∀ (n_37 j : Nat) (ls : Array Slot), j + n_37 = y → lv_has ls 8 [(0, .ref (a 0)), (1, .int (nI (c_))), (2, .int (nI (x))), (3, .int (nI (y))), (4, .int (nI (vs_ct v c_))), (5, .long (lN (vs_ct v c_ ^ x * (10 - vs_ct v c_) ^ j))), (7, .int (nI (j)))] → W p l e (rm_ 0 0) s m args below meth c s.heap [] 0 0 Qq (F0 m 37 ls []) from hloop_37 (y - 0) (0) ls (by omega) (lv_cast (k := [(0, .ref (a 0)), (1, .int (nI (c_))), (2, .int (nI (x))), (3, .int (nI (y))), (4, .int (nI (vs_ct v c_))), (5, .long (lN (vs_ct v c_ ^ i))), (7, .int (nI (0)))]) (lv_sub hl [1, 2, 3, 4, 5, 6, 0] rfl) (lc_cons rfl (lc_cons rfl (lc_cons rfl (lc_cons rfl (lc_cons rfl (lc_cons (congrArg (fun z : Nat => ((5 : Nat), Value.long (lN z))) (show (vs_ct v c_ ^ i : Nat) = vs_ct v c_ ^ x * (10 - vs_ct v c_) ^ 0 from by rw [hi_14, Nat.pow_zero, Nat.mul_one])) (lc_cons rfl rfl))))))))
    intro n_37
    induction n_37 with
    | zero =>
      intro j ls hin_37 hl
      have hi_37 : j = y := by omega
      refine lv_iload hx hb dX0_likelihood_37 (lv_at hl 6 rfl) ?_
      refine lv_iload_n hx hb dX0_likelihood_39 rfl (lv_at hl 3 rfl) ?_
      refine nv_icmp_ge (tgt := 60) hx hb dX0_likelihood_40 (by decide) (by omega) (by omega) (fun c_40 => ?_) (fun z => absurd z (by omega))
      refine lv_lload hx hb dX0_likelihood_60 (lv_at hl 5 rfl) ?_
      refine nv_topl (congrArg lN (show (vs_ct v c_ ^ x * (10 - vs_ct v c_) ^ j : Nat) = lk_ v c_ x y from by rw [hi_37]; rfl)) ?_
      exact hend _ _ dX0_likelihood_62
    | succ n_37 ih_37 =>
      intro j ls hin_37 hl
      refine lv_iload hx hb dX0_likelihood_37 (lv_at hl 6 rfl) ?_
      refine lv_iload_n hx hb dX0_likelihood_39 rfl (lv_at hl 3 rfl) ?_
      refine nv_icmp_ge (tgt := 60) hx hb dX0_likelihood_40 (by decide) (by omega) (by omega) (fun z => absurd z (by omega)) (fun c_40 => ?_)
      refine lv_lload hx hb dX0_likelihood_43 (lv_at hl 5 rfl) ?_
      refine lv_bipush (v := nI (10)) hx hb dX0_likelihood_45 (by decide) ?_
      refine lv_iload hx hb dX0_likelihood_47 (lv_at hl 4 rfl) ?_
      refine nv_isub (r := 10 - (vs_ct v c_)) hx hb dX0_likelihood_49 (by omega) ?_
      refine nv_i2l hx hb dX0_likelihood_50 (by omega) ?_
      refine nv_lmul hx hb dX0_likelihood_51 rfl ?_
      refine lv_lstore (lv' := [(5, .long (lN ((vs_ct v c_ ^ x * (10 - vs_ct v c_) ^ j) * (10 - (vs_ct v c_))))), (0, .ref (a 0)), (1, .int (nI (c_))), (2, .int (nI (x))), (3, .int (nI (y))), (4, .int (nI (vs_ct v c_))), (7, .int (nI (j)))]) hx hb dX0_likelihood_52 hl (by decide) rfl (fun ls hl => ?_)
      refine lv_iinc (v := nI (j + 1)) (lv' := [(7, .int (nI (j + 1))), (5, .long (lN ((vs_ct v c_ ^ x * (10 - vs_ct v c_) ^ j) * (10 - (vs_ct v c_))))), (0, .ref (a 0)), (1, .int (nI (c_))), (2, .int (nI (x))), (3, .int (nI (y))), (4, .int (nI (vs_ct v c_)))]) hx hb dX0_likelihood_54 hl (k := 6) rfl (nI_add _ _) (by decide) rfl (fun ls hl => ?_)
      refine lv_goto (tgt := 37) hx hb dX0_likelihood_57 (by decide) ?_
      exact ih_37 (j + 1) ls (by omega) (lv_cast (k := [(0, .ref (a 0)), (1, .int (nI (c_))), (2, .int (nI (x))), (3, .int (nI (y))), (4, .int (nI (vs_ct v c_))), (5, .long (lN ((vs_ct v c_ ^ x * (10 - vs_ct v c_) ^ j) * (10 - (vs_ct v c_))))), (7, .int (nI (j + 1)))]) (lv_sub hl [2, 3, 4, 5, 6, 1, 0] rfl) (lc_cons rfl (lc_cons rfl (lc_cons rfl (lc_cons rfl (lc_cons rfl (lc_cons (congrArg (fun z : Nat => ((5 : Nat), Value.long (lN z))) (show ((vs_ct v c_ ^ x * (10 - vs_ct v c_) ^ j) * (10 - (vs_ct v c_)) : Nat) = vs_ct v c_ ^ x * (10 - vs_ct v c_) ^ (j + 1) from by rw [Nat.pow_succ, Nat.mul_assoc])) (lc_cons (congrArg (fun z : Nat => ((7 : Nat), Value.int (nI z))) (show (j + 1 : Nat) = (j + 1) from by first | rfl | omega)) rfl))))))))
  | succ n_14 ih_14 =>
    intro i ls hin_14 hl
    refine lv_iload hx hb dX0_likelihood_14 (lv_at hl 6 rfl) ?_
    refine lv_iload_n hx hb dX0_likelihood_16 rfl (lv_at hl 2 rfl) ?_
    refine nv_icmp_ge (tgt := 34) hx hb dX0_likelihood_17 (by decide) (by omega) (by omega) (fun z => absurd z (by omega)) (fun c_17 => ?_)
    refine lv_lload hx hb dX0_likelihood_20 (lv_at hl 5 rfl) ?_
    refine lv_iload hx hb dX0_likelihood_22 (lv_at hl 4 rfl) ?_
    refine nv_i2l hx hb dX0_likelihood_24 (by omega) ?_
    refine nv_lmul hx hb dX0_likelihood_25 rfl ?_
    refine lv_lstore (lv' := [(5, .long (lN ((vs_ct v c_ ^ i) * (vs_ct v c_)))), (0, .ref (a 0)), (1, .int (nI (c_))), (2, .int (nI (x))), (3, .int (nI (y))), (4, .int (nI (vs_ct v c_))), (7, .int (nI (i)))]) hx hb dX0_likelihood_26 hl (by decide) rfl (fun ls hl => ?_)
    refine lv_iinc (v := nI (i + 1)) (lv' := [(7, .int (nI (i + 1))), (5, .long (lN ((vs_ct v c_ ^ i) * (vs_ct v c_)))), (0, .ref (a 0)), (1, .int (nI (c_))), (2, .int (nI (x))), (3, .int (nI (y))), (4, .int (nI (vs_ct v c_)))]) hx hb dX0_likelihood_28 hl (k := 6) rfl (nI_add _ _) (by decide) rfl (fun ls hl => ?_)
    refine lv_goto (tgt := 14) hx hb dX0_likelihood_31 (by decide) ?_
    exact ih_14 (i + 1) ls (by omega) (lv_cast (k := [(0, .ref (a 0)), (1, .int (nI (c_))), (2, .int (nI (x))), (3, .int (nI (y))), (4, .int (nI (vs_ct v c_))), (5, .long (lN ((vs_ct v c_ ^ i) * (vs_ct v c_)))), (7, .int (nI (i + 1)))]) (lv_sub hl [2, 3, 4, 5, 6, 1, 0] rfl) (lc_cons rfl (lc_cons rfl (lc_cons rfl (lc_cons rfl (lc_cons rfl (lc_cons (congrArg (fun z : Nat => ((5 : Nat), Value.long (lN z))) (show ((vs_ct v c_ ^ i) * (vs_ct v c_) : Nat) = vs_ct v c_ ^ (i + 1) from by rw [Nat.pow_succ])) (lc_cons (congrArg (fun z : Nat => ((7 : Nat), Value.int (nI z))) (show (i + 1 : Nat) = (i + 1) from by first | rfl | omega)) rfl))))))))
set_option maxHeartbeats 4000000 in
set_option maxRecDepth 100000 in
theorem c_X0_coinWeightAt (l : Launch) (D : va_G) (κ : Nat → ClassId) (a : Nat → Nat) (v : VS) (hv : ok_v v) (c_ : Nat) (x : Nat) (y : Nat) (hc : c_ < 8) (hx2 : x ≤ 20) (hy : y ≤ 20) : Rd l yX0_coinWeightAt cX0_coinWeightAt 7 (some .long) 1 27 (Pw D (kt_ κ) (xw κ a v) [.ref (a 0), .int (nI (c_)), .int (nI (x)), .int (nI (y))]) (.long (lN (wt_ v c_ x y))) := by
  refine rd_intro (own := RX0) (by decide +kernel) rfl (Nat.le_of_ble_eq_true rfl) (fun p e s m args below meth c pc ls hx hb hr hlk d => ret_L hx hb hr hlk d) ?_
  intro p e s m args below meth c ls Qq hx hb hml hown hts hK hP hend hl
  have hl : lv_has ls 7 [(0, .ref (a 0)), (1, .int (nI (c_))), (2, .int (nI (x))), (3, .int (nI (y)))] := hl
  obtain ⟨hv1, hv2, hv3, hv4, hv5, hv6⟩ := id hv
  refine lv_lconst (v := lN (0)) hx hb dX0_coinWeightAt_0 (by decide) ?_
  refine lv_lstore (lv' := [(4, .long (lN (0))), (0, .ref (a 0)), (1, .int (nI (c_))), (2, .int (nI (x))), (3, .int (nI (y)))]) hx hb dX0_coinWeightAt_1 hl (by decide) rfl (fun ls hl => ?_)
  refine lv_iconst (v := nI (0)) hx hb dX0_coinWeightAt_3 (by decide) ?_
  refine lv_istore (lv' := [(6, .int (nI (0))), (4, .long (lN (0))), (0, .ref (a 0)), (1, .int (nI (c_))), (2, .int (nI (x))), (3, .int (nI (y)))]) hx hb dX0_coinWeightAt_4 hl (by decide) rfl (fun ls hl => ?_)
  suffices hloop_6 : ∀ (n_6 i : Nat) (ls : Array Slot), i + n_6 = vs_n v → lv_has ls 7 [(0, .ref (a 0)), (1, .int (nI (c_))), (2, .int (nI (x))), (3, .int (nI (y))), (4, .long (lN (sm_ (fun z => sw_ v z c_) i))), (6, .int (nI (i)))] → W p l e (rm_ 1 27) s m args below meth c s.heap [] 0 0 Qq (F0 m 6 ls []) from hloop_6 (vs_n v - 0) (0) ls (by omega) (lv_cast (k := [(0, .ref (a 0)), (1, .int (nI (c_))), (2, .int (nI (x))), (3, .int (nI (y))), (4, .long (lN (0))), (6, .int (nI (0)))]) (lv_sub hl [2, 3, 4, 5, 1, 0] rfl) (lc_cons rfl (lc_cons rfl (lc_cons rfl (lc_cons rfl (lc_cons (congrArg (fun z : Nat => ((4 : Nat), Value.long (lN z))) (show (0 : Nat) = sm_ (fun z => sw_ v z c_) 0 from by first | rfl | omega)) (lc_cons rfl rfl)))))))
  intro n_6
  induction n_6 with
  | zero =>
    intro i ls hin_6 hl
    have hi_6 : i = vs_n v := by omega
    refine lv_iload hx hb dX0_coinWeightAt_6 (lv_at hl 5 rfl) ?_
    refine lv_aload_n hx hb dX0_coinWeightAt_8 rfl (lv_at hl 0 rfl) ?_
    refine va_get (D := D) (ci := 0) (v := .int (nI (vs_n v))) (C := RX0) (T := TX0) (N := 7) hx hb hts i_X0 hown hK hP 0 rfl rfl 5 (by decide) (hts _ q_f_X0_29) (fun _ h9 => h9) rfl dX0_coinWeightAt_9 ?_
    refine nv_icmp_ge (tgt := 33) hx hb dX0_coinWeightAt_12 (by decide) (by omega) (by omega) (fun c_12 => ?_) (fun z => absurd z (by omega))
    refine lv_lload hx hb dX0_coinWeightAt_33 (lv_at hl 4 rfl) ?_
    refine lv_aload_n hx hb dX0_coinWeightAt_35 rfl (lv_at hl 0 rfl) ?_
    refine lv_iload_n hx hb dX0_coinWeightAt_36 rfl (lv_at hl 1 rfl) ?_
    refine lv_iload_n hx hb dX0_coinWeightAt_37 rfl (lv_at hl 2 rfl) ?_
    refine lv_iload_n hx hb dX0_coinWeightAt_38 rfl (lv_at hl 3 rfl) ?_
    refine rd_V (rest := [.long (lN (sm_ (fun z => sw_ v z c_) i))]) ⟨hx, hb, hml, hown, hts⟩ (c_X0_likelihood l D κ a v hv (c_) (x) (y) (by omega) (by omega) (by omega)) g_X0_89 n_X0_likelihood ⟨Nat.le_of_ble_eq_true rfl, Nat.le_of_ble_eq_true rfl⟩ hK hP rfl rfl rfl hl.1 rfl (Nat.le_of_ble_eq_true rfl) dX0_coinWeightAt_39 ⟨Nat.zero_le _, Nat.zero_le _⟩ ?_
    refine nv_lmul hx hb dX0_coinWeightAt_42 rfl ?_
    refine nv_topl (congrArg lN (show ((sm_ (fun z => sw_ v z c_) i) * (lk_ v c_ x y) : Nat) = wt_ v c_ x y from by rw [hi_6]; rfl)) ?_
    exact hend _ _ dX0_coinWeightAt_43
  | succ n_6 ih_6 =>
    intro i ls hin_6 hl
    refine lv_iload hx hb dX0_coinWeightAt_6 (lv_at hl 5 rfl) ?_
    refine lv_aload_n hx hb dX0_coinWeightAt_8 rfl (lv_at hl 0 rfl) ?_
    refine va_get (D := D) (ci := 0) (v := .int (nI (vs_n v))) (C := RX0) (T := TX0) (N := 7) hx hb hts i_X0 hown hK hP 0 rfl rfl 5 (by decide) (hts _ q_f_X0_29) (fun _ h9 => h9) rfl dX0_coinWeightAt_9 ?_
    refine nv_icmp_ge (tgt := 33) hx hb dX0_coinWeightAt_12 (by decide) (by omega) (by omega) (fun z => absurd z (by omega)) (fun c_12 => ?_)
    refine lv_lload hx hb dX0_coinWeightAt_15 (lv_at hl 4 rfl) ?_
    refine lv_aload_n hx hb dX0_coinWeightAt_17 rfl (lv_at hl 0 rfl) ?_
    refine lv_iload hx hb dX0_coinWeightAt_18 (lv_at hl 5 rfl) ?_
    refine lv_iload_n hx hb dX0_coinWeightAt_20 rfl (lv_at hl 1 rfl) ?_
    refine rd_V (rest := [.long (lN (sm_ (fun z => sw_ v z c_) i))]) ⟨hx, hb, hml, hown, hts⟩ (c_X0_startWeight l D κ a v hv (i) (c_) (by omega) (by omega)) g_X0_85 n_X0_startWeight ⟨Nat.le_of_ble_eq_true rfl, Nat.le_of_ble_eq_true rfl⟩ hK hP rfl rfl rfl hl.1 rfl (Nat.le_of_ble_eq_true rfl) dX0_coinWeightAt_21 ⟨Nat.zero_le _, Nat.zero_le _⟩ ?_
    refine nv_ladd hx hb dX0_coinWeightAt_24 rfl ?_
    refine lv_lstore (lv' := [(4, .long (lN ((sm_ (fun z => sw_ v z c_) i) + (sw_ v i c_)))), (0, .ref (a 0)), (1, .int (nI (c_))), (2, .int (nI (x))), (3, .int (nI (y))), (6, .int (nI (i)))]) hx hb dX0_coinWeightAt_25 hl (by decide) rfl (fun ls hl => ?_)
    refine lv_iinc (v := nI (i + 1)) (lv' := [(6, .int (nI (i + 1))), (4, .long (lN ((sm_ (fun z => sw_ v z c_) i) + (sw_ v i c_)))), (0, .ref (a 0)), (1, .int (nI (c_))), (2, .int (nI (x))), (3, .int (nI (y)))]) hx hb dX0_coinWeightAt_27 hl (k := 5) rfl (nI_add _ _) (by decide) rfl (fun ls hl => ?_)
    refine lv_goto (tgt := 6) hx hb dX0_coinWeightAt_30 (by decide) ?_
    exact ih_6 (i + 1) ls (by omega) (lv_cast (k := [(0, .ref (a 0)), (1, .int (nI (c_))), (2, .int (nI (x))), (3, .int (nI (y))), (4, .long (lN ((sm_ (fun z => sw_ v z c_) i) + (sw_ v i c_)))), (6, .int (nI (i + 1)))]) (lv_sub hl [2, 3, 4, 5, 1, 0] rfl) (lc_cons rfl (lc_cons rfl (lc_cons rfl (lc_cons rfl (lc_cons (congrArg (fun z : Nat => ((4 : Nat), Value.long (lN z))) (show ((sm_ (fun z => sw_ v z c_) i) + (sw_ v i c_) : Nat) = sm_ (fun z => sw_ v z c_) (i + 1) from by first | rfl | omega)) (lc_cons (congrArg (fun z : Nat => ((6 : Nat), Value.int (nI z))) (show (i + 1 : Nat) = (i + 1) from by first | rfl | omega)) rfl)))))))
set_option maxHeartbeats 4000000 in
set_option maxRecDepth 100000 in
theorem c_X0_schoolWeightNow (l : Launch) (D : va_G) (κ : Nat → ClassId) (a : Nat → Nat) (v : VS) (hv : ok_v v) (s_ : Nat) (hs : s_ < 4) : Rd l yX0_schoolWeightNow cX0_schoolWeightNow 7 (some .long) 2 43 (Pw D (kt_ κ) (xw κ a v) [.ref (a 0), .int (nI (s_))]) (.long (lN (sc_ v s_ (hh_ v) (tt_ v)))) := by
  refine rd_intro (own := RX0) (by decide +kernel) rfl (Nat.le_of_ble_eq_true rfl) (fun p e s m args below meth c pc ls hx hb hr hlk d => ret_L hx hb hr hlk d) ?_
  intro p e s m args below meth c ls Qq hx hb hml hown hts hK hP hend hl
  have hl : lv_has ls 7 [(0, .ref (a 0)), (1, .int (nI (s_)))] := hl
  obtain ⟨hv1, hv2, hv3, hv4, hv5, hv6⟩ := id hv
  have hq1 := hh_le v
  have hq2 := hh_tt v
  refine lv_aload_n hx hb dX0_schoolWeightNow_0 rfl (lv_at hl 0 rfl) ?_
  refine rd_V (rest := []) ⟨hx, hb, hml, hown, hts⟩ (c_X0_headsNow l D κ a v hv) g_X0_69 n_X0_headsNow ⟨Nat.le_of_ble_eq_true rfl, Nat.le_of_ble_eq_true rfl⟩ hK hP rfl rfl rfl hl.1 rfl (Nat.le_of_ble_eq_true rfl) dX0_schoolWeightNow_1 ⟨Nat.zero_le _, Nat.zero_le _⟩ ?_
  refine lv_istore_n (lv' := [(2, .int (nI (hh_ v))), (0, .ref (a 0)), (1, .int (nI (s_)))]) hx hb dX0_schoolWeightNow_4 rfl hl (by decide) rfl (fun ls hl => ?_)
  refine lv_aload_n hx hb dX0_schoolWeightNow_5 rfl (lv_at hl 1 rfl) ?_
  refine rd_V (rest := []) ⟨hx, hb, hml, hown, hts⟩ (c_X0_tailsNow l D κ a v hv) g_X0_73 n_X0_tailsNow ⟨Nat.le_of_ble_eq_true rfl, Nat.le_of_ble_eq_true rfl⟩ hK hP rfl rfl rfl hl.1 rfl (Nat.le_of_ble_eq_true rfl) dX0_schoolWeightNow_6 ⟨Nat.zero_le _, Nat.zero_le _⟩ ?_
  refine lv_istore_n (lv' := [(3, .int (nI (tt_ v))), (2, .int (nI (hh_ v))), (0, .ref (a 0)), (1, .int (nI (s_)))]) hx hb dX0_schoolWeightNow_9 rfl hl (by decide) rfl (fun ls hl => ?_)
  refine lv_lconst (v := lN (0)) hx hb dX0_schoolWeightNow_10 (by decide) ?_
  refine lv_lstore (lv' := [(4, .long (lN (0))), (3, .int (nI (tt_ v))), (2, .int (nI (hh_ v))), (0, .ref (a 0)), (1, .int (nI (s_)))]) hx hb dX0_schoolWeightNow_11 hl (by decide) rfl (fun ls hl => ?_)
  refine lv_iconst (v := nI (0)) hx hb dX0_schoolWeightNow_13 (by decide) ?_
  refine lv_istore (lv' := [(6, .int (nI (0))), (4, .long (lN (0))), (3, .int (nI (tt_ v))), (2, .int (nI (hh_ v))), (0, .ref (a 0)), (1, .int (nI (s_)))]) hx hb dX0_schoolWeightNow_14 hl (by decide) rfl (fun ls hl => ?_)
  suffices hloop_16 : ∀ (n_16 i : Nat) (ls : Array Slot), i + n_16 = vs_c v → lv_has ls 7 [(0, .ref (a 0)), (1, .int (nI (s_))), (2, .int (nI (hh_ v))), (3, .int (nI (tt_ v))), (4, .long (lN (sm_ (fun z => pr_ v s_ z (hh_ v) (tt_ v)) i))), (6, .int (nI (i)))] → W p l e (rm_ 2 43) s m args below meth c s.heap [] 0 0 Qq (F0 m 16 ls []) from hloop_16 (vs_c v - 0) (0) ls (by omega) (lv_cast (k := [(0, .ref (a 0)), (1, .int (nI (s_))), (2, .int (nI (hh_ v))), (3, .int (nI (tt_ v))), (4, .long (lN (0))), (6, .int (nI (0)))]) (lv_sub hl [4, 5, 3, 2, 1, 0] rfl) (lc_cons rfl (lc_cons rfl (lc_cons rfl (lc_cons rfl (lc_cons (congrArg (fun z : Nat => ((4 : Nat), Value.long (lN z))) (show (0 : Nat) = sm_ (fun z => pr_ v s_ z (hh_ v) (tt_ v)) 0 from by first | rfl | omega)) (lc_cons rfl rfl)))))))
  intro n_16
  induction n_16 with
  | zero =>
    intro i ls hin_16 hl
    have hi_16 : i = vs_c v := by omega
    refine lv_iload hx hb dX0_schoolWeightNow_16 (lv_at hl 5 rfl) ?_
    refine lv_aload_n hx hb dX0_schoolWeightNow_18 rfl (lv_at hl 0 rfl) ?_
    refine va_get (D := D) (ci := 0) (v := .int (nI (vs_c v))) (C := RX0) (T := TX0) (N := 7) hx hb hts i_X0 hown hK hP 0 rfl rfl 4 (by decide) (hts _ q_f_X0_25) (fun _ h9 => h9) rfl dX0_schoolWeightNow_19 ?_
    refine nv_icmp_ge (tgt := 52) hx hb dX0_schoolWeightNow_22 (by decide) (by omega) (by omega) (fun c_22 => ?_) (fun z => absurd z (by omega))
    refine lv_lload hx hb dX0_schoolWeightNow_52 (lv_at hl 4 rfl) ?_
    refine nv_topl (congrArg lN (show (sm_ (fun z => pr_ v s_ z (hh_ v) (tt_ v)) i : Nat) = sc_ v s_ (hh_ v) (tt_ v) from by rw [hi_16]; rfl)) ?_
    exact hend _ _ dX0_schoolWeightNow_54
  | succ n_16 ih_16 =>
    intro i ls hin_16 hl
    refine lv_iload hx hb dX0_schoolWeightNow_16 (lv_at hl 5 rfl) ?_
    refine lv_aload_n hx hb dX0_schoolWeightNow_18 rfl (lv_at hl 0 rfl) ?_
    refine va_get (D := D) (ci := 0) (v := .int (nI (vs_c v))) (C := RX0) (T := TX0) (N := 7) hx hb hts i_X0 hown hK hP 0 rfl rfl 4 (by decide) (hts _ q_f_X0_25) (fun _ h9 => h9) rfl dX0_schoolWeightNow_19 ?_
    refine nv_icmp_ge (tgt := 52) hx hb dX0_schoolWeightNow_22 (by decide) (by omega) (by omega) (fun z => absurd z (by omega)) (fun c_22 => ?_)
    refine lv_lload hx hb dX0_schoolWeightNow_25 (lv_at hl 4 rfl) ?_
    refine lv_aload_n hx hb dX0_schoolWeightNow_27 rfl (lv_at hl 0 rfl) ?_
    refine lv_iload_n hx hb dX0_schoolWeightNow_28 rfl (lv_at hl 1 rfl) ?_
    refine lv_iload hx hb dX0_schoolWeightNow_29 (lv_at hl 5 rfl) ?_
    refine rd_V (rest := [.long (lN (sm_ (fun z => pr_ v s_ z (hh_ v) (tt_ v)) i))]) ⟨hx, hb, hml, hown, hts⟩ (c_X0_startWeight l D κ a v hv (s_) (i) (by omega) (by omega)) g_X0_85 n_X0_startWeight ⟨Nat.le_of_ble_eq_true rfl, Nat.le_of_ble_eq_true rfl⟩ hK hP rfl rfl rfl hl.1 rfl (Nat.le_of_ble_eq_true rfl) dX0_schoolWeightNow_31 ⟨Nat.zero_le _, Nat.zero_le _⟩ ?_
    refine lv_aload_n hx hb dX0_schoolWeightNow_34 rfl (lv_at hl 0 rfl) ?_
    refine lv_iload hx hb dX0_schoolWeightNow_35 (lv_at hl 5 rfl) ?_
    refine lv_iload_n hx hb dX0_schoolWeightNow_37 rfl (lv_at hl 2 rfl) ?_
    refine lv_iload_n hx hb dX0_schoolWeightNow_38 rfl (lv_at hl 3 rfl) ?_
    refine rd_V (rest := [.long (lN (sw_ v s_ i)), .long (lN (sm_ (fun z => pr_ v s_ z (hh_ v) (tt_ v)) i))]) ⟨hx, hb, hml, hown, hts⟩ (c_X0_likelihood l D κ a v hv (i) (hh_ v) (tt_ v) (by omega) (by omega) (by omega)) g_X0_89 n_X0_likelihood ⟨Nat.le_of_ble_eq_true rfl, Nat.le_of_ble_eq_true rfl⟩ hK hP rfl rfl rfl hl.1 rfl (Nat.le_of_ble_eq_true rfl) dX0_schoolWeightNow_39 ⟨Nat.zero_le _, Nat.zero_le _⟩ ?_
    refine nv_lmul hx hb dX0_schoolWeightNow_42 rfl ?_
    refine nv_ladd hx hb dX0_schoolWeightNow_43 rfl ?_
    refine lv_lstore (lv' := [(4, .long (lN ((sm_ (fun z => pr_ v s_ z (hh_ v) (tt_ v)) i) + ((sw_ v s_ i) * (lk_ v i (hh_ v) (tt_ v)))))), (0, .ref (a 0)), (1, .int (nI (s_))), (2, .int (nI (hh_ v))), (3, .int (nI (tt_ v))), (6, .int (nI (i)))]) hx hb dX0_schoolWeightNow_44 hl (by decide) rfl (fun ls hl => ?_)
    refine lv_iinc (v := nI (i + 1)) (lv' := [(6, .int (nI (i + 1))), (4, .long (lN ((sm_ (fun z => pr_ v s_ z (hh_ v) (tt_ v)) i) + ((sw_ v s_ i) * (lk_ v i (hh_ v) (tt_ v)))))), (0, .ref (a 0)), (1, .int (nI (s_))), (2, .int (nI (hh_ v))), (3, .int (nI (tt_ v)))]) hx hb dX0_schoolWeightNow_46 hl (k := 5) rfl (nI_add _ _) (by decide) rfl (fun ls hl => ?_)
    refine lv_goto (tgt := 16) hx hb dX0_schoolWeightNow_49 (by decide) ?_
    exact ih_16 (i + 1) ls (by omega) (lv_cast (k := [(0, .ref (a 0)), (1, .int (nI (s_))), (2, .int (nI (hh_ v))), (3, .int (nI (tt_ v))), (4, .long (lN ((sm_ (fun z => pr_ v s_ z (hh_ v) (tt_ v)) i) + ((sw_ v s_ i) * (lk_ v i (hh_ v) (tt_ v)))))), (6, .int (nI (i + 1)))]) (lv_sub hl [2, 3, 4, 5, 1, 0] rfl) (lc_cons rfl (lc_cons rfl (lc_cons rfl (lc_cons rfl (lc_cons (congrArg (fun z : Nat => ((4 : Nat), Value.long (lN z))) (show ((sm_ (fun z => pr_ v s_ z (hh_ v) (tt_ v)) i) + ((sw_ v s_ i) * (lk_ v i (hh_ v) (tt_ v))) : Nat) = sm_ (fun z => pr_ v s_ z (hh_ v) (tt_ v)) (i + 1) from by first | rfl | omega)) (lc_cons (congrArg (fun z : Nat => ((6 : Nat), Value.int (nI z))) (show (i + 1 : Nat) = (i + 1) from by first | rfl | omega)) rfl)))))))
set_option maxHeartbeats 4000000 in
set_option maxRecDepth 100000 in
theorem c_X0_wholeAt (l : Launch) (D : va_G) (κ : Nat → ClassId) (a : Nat → Nat) (v : VS) (hv : ok_v v) (x : Nat) (y : Nat) (hx2 : x ≤ 20) (hy : y ≤ 20) : Rd l yX0_wholeAt cX0_wholeAt 6 (some .long) 2 53 (Pw D (kt_ κ) (xw κ a v) [.ref (a 0), .int (nI (x)), .int (nI (y))]) (.long (lN (wl_ v x y))) := by
  refine rd_intro (own := RX0) (by decide +kernel) rfl (Nat.le_of_ble_eq_true rfl) (fun p e s m args below meth c pc ls hx hb hr hlk d => ret_L hx hb hr hlk d) ?_
  intro p e s m args below meth c ls Qq hx hb hml hown hts hK hP hend hl
  have hl : lv_has ls 6 [(0, .ref (a 0)), (1, .int (nI (x))), (2, .int (nI (y)))] := hl
  obtain ⟨hv1, hv2, hv3, hv4, hv5, hv6⟩ := id hv
  refine lv_lconst (v := lN (0)) hx hb dX0_wholeAt_0 (by decide) ?_
  refine lv_lstore_n (lv' := [(3, .long (lN (0))), (0, .ref (a 0)), (1, .int (nI (x))), (2, .int (nI (y)))]) hx hb dX0_wholeAt_1 rfl hl (by decide) rfl (fun ls hl => ?_)
  refine lv_iconst (v := nI (0)) hx hb dX0_wholeAt_2 (by decide) ?_
  refine lv_istore (lv' := [(5, .int (nI (0))), (3, .long (lN (0))), (0, .ref (a 0)), (1, .int (nI (x))), (2, .int (nI (y)))]) hx hb dX0_wholeAt_3 hl (by decide) rfl (fun ls hl => ?_)
  suffices hloop_5 : ∀ (n_5 i : Nat) (ls : Array Slot), i + n_5 = vs_c v → lv_has ls 6 [(0, .ref (a 0)), (1, .int (nI (x))), (2, .int (nI (y))), (3, .long (lN (sm_ (fun z => wt_ v z x y) i))), (5, .int (nI (i)))] → W p l e (rm_ 2 53) s m args below meth c s.heap [] 0 0 Qq (F0 m 5 ls []) from hloop_5 (vs_c v - 0) (0) ls (by omega) (lv_cast (k := [(0, .ref (a 0)), (1, .int (nI (x))), (2, .int (nI (y))), (3, .long (lN (0))), (5, .int (nI (0)))]) (lv_sub hl [2, 3, 4, 1, 0] rfl) (lc_cons rfl (lc_cons rfl (lc_cons rfl (lc_cons (congrArg (fun z : Nat => ((3 : Nat), Value.long (lN z))) (show (0 : Nat) = sm_ (fun z => wt_ v z x y) 0 from by first | rfl | omega)) (lc_cons rfl rfl))))))
  intro n_5
  induction n_5 with
  | zero =>
    intro i ls hin_5 hl
    have hi_5 : i = vs_c v := by omega
    refine lv_iload hx hb dX0_wholeAt_5 (lv_at hl 4 rfl) ?_
    refine lv_aload_n hx hb dX0_wholeAt_7 rfl (lv_at hl 0 rfl) ?_
    refine va_get (D := D) (ci := 0) (v := .int (nI (vs_c v))) (C := RX0) (T := TX0) (N := 7) hx hb hts i_X0 hown hK hP 0 rfl rfl 4 (by decide) (hts _ q_f_X0_25) (fun _ h9 => h9) rfl dX0_wholeAt_8 ?_
    refine nv_icmp_ge (tgt := 31) hx hb dX0_wholeAt_11 (by decide) (by omega) (by omega) (fun c_11 => ?_) (fun z => absurd z (by omega))
    refine lv_lload_n hx hb dX0_wholeAt_31 rfl (lv_at hl 3 rfl) ?_
    refine nv_topl (congrArg lN (show (sm_ (fun z => wt_ v z x y) i : Nat) = wl_ v x y from by rw [hi_5]; rfl)) ?_
    exact hend _ _ dX0_wholeAt_32
  | succ n_5 ih_5 =>
    intro i ls hin_5 hl
    refine lv_iload hx hb dX0_wholeAt_5 (lv_at hl 4 rfl) ?_
    refine lv_aload_n hx hb dX0_wholeAt_7 rfl (lv_at hl 0 rfl) ?_
    refine va_get (D := D) (ci := 0) (v := .int (nI (vs_c v))) (C := RX0) (T := TX0) (N := 7) hx hb hts i_X0 hown hK hP 0 rfl rfl 4 (by decide) (hts _ q_f_X0_25) (fun _ h9 => h9) rfl dX0_wholeAt_8 ?_
    refine nv_icmp_ge (tgt := 31) hx hb dX0_wholeAt_11 (by decide) (by omega) (by omega) (fun z => absurd z (by omega)) (fun c_11 => ?_)
    refine lv_lload_n hx hb dX0_wholeAt_14 rfl (lv_at hl 3 rfl) ?_
    refine lv_aload_n hx hb dX0_wholeAt_15 rfl (lv_at hl 0 rfl) ?_
    refine lv_iload hx hb dX0_wholeAt_16 (lv_at hl 4 rfl) ?_
    refine lv_iload_n hx hb dX0_wholeAt_18 rfl (lv_at hl 1 rfl) ?_
    refine lv_iload_n hx hb dX0_wholeAt_19 rfl (lv_at hl 2 rfl) ?_
    refine rd_V (rest := [.long (lN (sm_ (fun z => wt_ v z x y) i))]) ⟨hx, hb, hml, hown, hts⟩ (c_X0_coinWeightAt l D κ a v hv (i) (x) (y) (by omega) (by omega) (by omega)) g_X0_93 n_X0_coinWeightAt ⟨Nat.le_of_ble_eq_true rfl, Nat.le_of_ble_eq_true rfl⟩ hK hP rfl rfl rfl hl.1 rfl (Nat.le_of_ble_eq_true rfl) dX0_wholeAt_20 ⟨Nat.zero_le _, Nat.zero_le _⟩ ?_
    refine nv_ladd hx hb dX0_wholeAt_23 rfl ?_
    refine lv_lstore_n (lv' := [(3, .long (lN ((sm_ (fun z => wt_ v z x y) i) + (wt_ v i x y)))), (0, .ref (a 0)), (1, .int (nI (x))), (2, .int (nI (y))), (5, .int (nI (i)))]) hx hb dX0_wholeAt_24 rfl hl (by decide) rfl (fun ls hl => ?_)
    refine lv_iinc (v := nI (i + 1)) (lv' := [(5, .int (nI (i + 1))), (3, .long (lN ((sm_ (fun z => wt_ v z x y) i) + (wt_ v i x y)))), (0, .ref (a 0)), (1, .int (nI (x))), (2, .int (nI (y)))]) hx hb dX0_wholeAt_25 hl (k := 4) rfl (nI_add _ _) (by decide) rfl (fun ls hl => ?_)
    refine lv_goto (tgt := 5) hx hb dX0_wholeAt_28 (by decide) ?_
    exact ih_5 (i + 1) ls (by omega) (lv_cast (k := [(0, .ref (a 0)), (1, .int (nI (x))), (2, .int (nI (y))), (3, .long (lN ((sm_ (fun z => wt_ v z x y) i) + (wt_ v i x y)))), (5, .int (nI (i + 1)))]) (lv_sub hl [2, 3, 4, 1, 0] rfl) (lc_cons rfl (lc_cons rfl (lc_cons rfl (lc_cons (congrArg (fun z : Nat => ((3 : Nat), Value.long (lN z))) (show ((sm_ (fun z => wt_ v z x y) i) + (wt_ v i x y) : Nat) = sm_ (fun z => wt_ v z x y) (i + 1) from by first | rfl | omega)) (lc_cons (congrArg (fun z : Nat => ((5 : Nat), Value.int (nI z))) (show (i + 1 : Nat) = (i + 1) from by first | rfl | omega)) rfl))))))
set_option maxHeartbeats 4000000 in
set_option maxRecDepth 100000 in
theorem c_X0_wholeNow (l : Launch) (D : va_G) (κ : Nat → ClassId) (a : Nat → Nat) (v : VS) (hv : ok_v v) : Rd l yX0_wholeNow cX0_wholeNow 1 (some .long) 3 78 (Pw D (kt_ κ) (xw κ a v) [.ref (a 0)]) (.long (lN (wl_ v (hh_ v) (tt_ v)))) := by
  refine rd_intro (own := RX0) (by decide +kernel) rfl (Nat.le_of_ble_eq_true rfl) (fun p e s m args below meth c pc ls hx hb hr hlk d => ret_L hx hb hr hlk d) ?_
  intro p e s m args below meth c ls Qq hx hb hml hown hts hK hP hend hl
  have hl : lv_has ls 1 [(0, .ref (a 0))] := hl
  obtain ⟨hv1, hv2, hv3, hv4, hv5, hv6⟩ := id hv
  have hq1 := hh_le v
  have hq2 := hh_tt v
  refine lv_aload_n hx hb dX0_wholeNow_0 rfl (lv_at hl 0 rfl) ?_
  refine lv_aload_n hx hb dX0_wholeNow_1 rfl (lv_at hl 0 rfl) ?_
  refine rd_V (rest := [.ref (a 0)]) ⟨hx, hb, hml, hown, hts⟩ (c_X0_headsNow l D κ a v hv) g_X0_69 n_X0_headsNow ⟨Nat.le_of_ble_eq_true rfl, Nat.le_of_ble_eq_true rfl⟩ hK hP rfl rfl rfl hl.1 rfl (Nat.le_of_ble_eq_true rfl) dX0_wholeNow_2 ⟨Nat.zero_le _, Nat.zero_le _⟩ ?_
  refine lv_aload_n hx hb dX0_wholeNow_5 rfl (lv_at hl 0 rfl) ?_
  refine rd_V (rest := [.int (nI (hh_ v)), .ref (a 0)]) ⟨hx, hb, hml, hown, hts⟩ (c_X0_tailsNow l D κ a v hv) g_X0_73 n_X0_tailsNow ⟨Nat.le_of_ble_eq_true rfl, Nat.le_of_ble_eq_true rfl⟩ hK hP rfl rfl rfl hl.1 rfl (Nat.le_of_ble_eq_true rfl) dX0_wholeNow_6 ⟨Nat.zero_le _, Nat.zero_le _⟩ ?_
  refine rd_V (rest := []) ⟨hx, hb, hml, hown, hts⟩ (c_X0_wholeAt l D κ a v hv (hh_ v) (tt_ v) (by omega) (by omega)) g_X0_180 n_X0_wholeAt ⟨Nat.le_of_ble_eq_true rfl, Nat.le_of_ble_eq_true rfl⟩ hK hP rfl rfl rfl hl.1 rfl (Nat.le_of_ble_eq_true rfl) dX0_wholeNow_9 ⟨Nat.zero_le _, Nat.zero_le _⟩ ?_
  exact hend _ _ dX0_wholeNow_12
set_option maxHeartbeats 4000000 in
set_option maxRecDepth 100000 in
theorem c_X0_leaderAt (l : Launch) (D : va_G) (κ : Nat → ClassId) (a : Nat → Nat) (v : VS) (hv : ok_v v) (x : Nat) (y : Nat) (hxy : x + y ≤ 13) : Rd l yX0_leaderAt cX0_leaderAt 9 (some .int) 2 53 (Pw D (kt_ κ) (xw κ a v) [.ref (a 0), .int (nI (x)), .int (nI (y))]) (.int (la_ v x y)) := by
  refine rd_intro (own := RX0) (by decide +kernel) rfl (Nat.le_of_ble_eq_true rfl) (fun p e s m args below meth c pc ls hx hb hr hlk d => ret_I hx hb hr hlk d) ?_
  intro p e s m args below meth c ls Qq hx hb hml hown hts hK hP hend hl
  have hl : lv_has ls 9 [(0, .ref (a 0)), (1, .int (nI (x))), (2, .int (nI (y)))] := hl
  obtain ⟨hv1, hv2, hv3, hv4, hv5, hv6⟩ := id hv
  refine lv_iconst (v := (-1)) hx hb dX0_leaderAt_0 (by decide) ?_
  refine lv_istore_n (lv' := [(3, .int (-1)), (0, .ref (a 0)), (1, .int (nI (x))), (2, .int (nI (y)))]) hx hb dX0_leaderAt_1 rfl hl (by decide) rfl (fun ls hl => ?_)
  refine lv_lconst (v := lN (0)) hx hb dX0_leaderAt_2 (by decide) ?_
  refine lv_lstore (lv' := [(4, .long (lN (0))), (3, .int (-1)), (0, .ref (a 0)), (1, .int (nI (x))), (2, .int (nI (y)))]) hx hb dX0_leaderAt_3 hl (by decide) rfl (fun ls hl => ?_)
  refine lv_iconst (v := nI (0)) hx hb dX0_leaderAt_5 (by decide) ?_
  refine lv_istore (lv' := [(6, .int (nI (0))), (4, .long (lN (0))), (3, .int (-1)), (0, .ref (a 0)), (1, .int (nI (x))), (2, .int (nI (y)))]) hx hb dX0_leaderAt_6 hl (by decide) rfl (fun ls hl => ?_)
  suffices hloop_8 : ∀ (n_8 i : Nat) (ls : Array Slot), i + n_8 = vs_c v → lv_has ls 9 [(0, .ref (a 0)), (1, .int (nI (x))), (2, .int (nI (y))), (3, .int (lq_ v x y i)), (4, .long (lN (gq_ v x y i))), (6, .int (nI (i)))] → W p l e (rm_ 2 53) s m args below meth c s.heap [] 0 0 Qq (F0 m 8 ls []) from hloop_8 (vs_c v - 0) (0) ls (by omega) (lv_cast (k := [(0, .ref (a 0)), (1, .int (nI (x))), (2, .int (nI (y))), (3, .int (-1)), (4, .long (lN (0))), (6, .int (nI (0)))]) (lv_sub hl [3, 4, 5, 2, 1, 0] rfl) (lc_cons rfl (lc_cons rfl (lc_cons rfl (lc_cons (congrArg (fun z : Int32 => ((3 : Nat), Value.int z)) (show (-1 : Int32) = lq_ v x y 0 from by rfl)) (lc_cons (congrArg (fun z : Nat => ((4 : Nat), Value.long (lN z))) (show (0 : Nat) = gq_ v x y 0 from by first | rfl | omega)) (lc_cons rfl rfl)))))))
  intro n_8
  induction n_8 with
  | zero =>
    intro i ls hin_8 hl
    have hi_8 : i = vs_c v := by omega
    have hb1 := wt_b hv i hxy
    have hb2 := gq_b hv i hxy
    refine lv_iload hx hb dX0_leaderAt_8 (lv_at hl 5 rfl) ?_
    refine lv_aload_n hx hb dX0_leaderAt_10 rfl (lv_at hl 0 rfl) ?_
    refine va_get (D := D) (ci := 0) (v := .int (nI (vs_c v))) (C := RX0) (T := TX0) (N := 7) hx hb hts i_X0 hown hK hP 0 rfl rfl 4 (by decide) (hts _ q_f_X0_25) (fun _ h9 => h9) rfl dX0_leaderAt_11 ?_
    refine nv_icmp_ge (tgt := 48) hx hb dX0_leaderAt_14 (by decide) (by omega) (by omega) (fun c_14 => ?_) (fun z => absurd z (by omega))
    refine lv_iload_n hx hb dX0_leaderAt_48 rfl (lv_at hl 3 rfl) ?_
    refine nv_topi (show (lq_ v x y i : Int32) = la_ v x y from by rw [hi_8]; exact lq_la v x y) ?_
    exact hend _ _ dX0_leaderAt_49
  | succ n_8 ih_8 =>
    intro i ls hin_8 hl
    have hb1 := wt_b hv i hxy
    have hb2 := gq_b hv i hxy
    refine lv_iload hx hb dX0_leaderAt_8 (lv_at hl 5 rfl) ?_
    refine lv_aload_n hx hb dX0_leaderAt_10 rfl (lv_at hl 0 rfl) ?_
    refine va_get (D := D) (ci := 0) (v := .int (nI (vs_c v))) (C := RX0) (T := TX0) (N := 7) hx hb hts i_X0 hown hK hP 0 rfl rfl 4 (by decide) (hts _ q_f_X0_25) (fun _ h9 => h9) rfl dX0_leaderAt_11 ?_
    refine nv_icmp_ge (tgt := 48) hx hb dX0_leaderAt_14 (by decide) (by omega) (by omega) (fun z => absurd z (by omega)) (fun c_14 => ?_)
    refine lv_aload_n hx hb dX0_leaderAt_17 rfl (lv_at hl 0 rfl) ?_
    refine lv_iload hx hb dX0_leaderAt_18 (lv_at hl 5 rfl) ?_
    refine lv_iload_n hx hb dX0_leaderAt_20 rfl (lv_at hl 1 rfl) ?_
    refine lv_iload_n hx hb dX0_leaderAt_21 rfl (lv_at hl 2 rfl) ?_
    refine rd_V (rest := []) ⟨hx, hb, hml, hown, hts⟩ (c_X0_coinWeightAt l D κ a v hv (i) (x) (y) (by omega) (by omega) (by omega)) g_X0_93 n_X0_coinWeightAt ⟨Nat.le_of_ble_eq_true rfl, Nat.le_of_ble_eq_true rfl⟩ hK hP rfl rfl rfl hl.1 rfl (Nat.le_of_ble_eq_true rfl) dX0_leaderAt_22 ⟨Nat.zero_le _, Nat.zero_le _⟩ ?_
    refine lv_lstore (lv' := [(7, .long (lN (wt_ v i x y))), (0, .ref (a 0)), (1, .int (nI (x))), (2, .int (nI (y))), (3, .int (lq_ v x y i)), (4, .long (lN (gq_ v x y i))), (6, .int (nI (i)))]) hx hb dX0_leaderAt_25 hl (by decide) rfl (fun ls hl => ?_)
    refine lv_lload hx hb dX0_leaderAt_27 (lv_at hl 0 rfl) ?_
    refine lv_lload hx hb dX0_leaderAt_29 (lv_at hl 5 rfl) ?_
    refine nv_lc_le (tgt := 42) hx hb dX0_leaderAt_31 dX0_leaderAt_32 (by decide) (by omega) (by omega) (fun c_32 => ?_) (fun c_32 => ?_)
    · refine lv_iinc (v := nI (i + 1)) (lv' := [(6, .int (nI (i + 1))), (7, .long (lN (wt_ v i x y))), (0, .ref (a 0)), (1, .int (nI (x))), (2, .int (nI (y))), (3, .int (lq_ v x y i)), (4, .long (lN (gq_ v x y i)))]) hx hb dX0_leaderAt_42 hl (k := 6) rfl (nI_add _ _) (by decide) rfl (fun ls hl => ?_)
      refine lv_goto (tgt := 8) hx hb dX0_leaderAt_45 (by decide) ?_
      exact ih_8 (i + 1) ls (by omega) (lv_cast (k := [(0, .ref (a 0)), (1, .int (nI (x))), (2, .int (nI (y))), (3, .int (lq_ v x y i)), (4, .long (lN (gq_ v x y i))), (6, .int (nI (i + 1)))]) (lv_sub hl [2, 3, 4, 5, 6, 0] rfl) (lc_cons rfl (lc_cons rfl (lc_cons rfl (lc_cons (congrArg (fun z : Int32 => ((3 : Nat), Value.int z)) (show (lq_ v x y i : Int32) = lq_ v x y (i + 1) from by first | exact lq_up c_32 | exact lq_eq c_32)) (lc_cons (congrArg (fun z : Nat => ((4 : Nat), Value.long (lN z))) (show (gq_ v x y i : Nat) = gq_ v x y (i + 1) from by first | exact gq_up c_32 | exact gq_eq c_32)) (lc_cons (congrArg (fun z : Nat => ((6 : Nat), Value.int (nI z))) (show (i + 1 : Nat) = (i + 1) from by first | rfl | omega)) rfl)))))))
    · refine lv_lload hx hb dX0_leaderAt_35 (lv_at hl 0 rfl) ?_
      refine lv_lstore (lv' := [(4, .long (lN (wt_ v i x y))), (7, .long (lN (wt_ v i x y))), (0, .ref (a 0)), (1, .int (nI (x))), (2, .int (nI (y))), (3, .int (lq_ v x y i)), (6, .int (nI (i)))]) hx hb dX0_leaderAt_37 hl (by decide) rfl (fun ls hl => ?_)
      refine lv_iload hx hb dX0_leaderAt_39 (lv_at hl 6 rfl) ?_
      refine lv_istore_n (lv' := [(3, .int (nI (i))), (4, .long (lN (wt_ v i x y))), (7, .long (lN (wt_ v i x y))), (0, .ref (a 0)), (1, .int (nI (x))), (2, .int (nI (y))), (6, .int (nI (i)))]) hx hb dX0_leaderAt_41 rfl hl (by decide) rfl (fun ls hl => ?_)
      refine lv_iinc (v := nI (i + 1)) (lv' := [(6, .int (nI (i + 1))), (3, .int (nI (i))), (4, .long (lN (wt_ v i x y))), (7, .long (lN (wt_ v i x y))), (0, .ref (a 0)), (1, .int (nI (x))), (2, .int (nI (y)))]) hx hb dX0_leaderAt_42 hl (k := 6) rfl (nI_add _ _) (by decide) rfl (fun ls hl => ?_)
      refine lv_goto (tgt := 8) hx hb dX0_leaderAt_45 (by decide) ?_
      exact ih_8 (i + 1) ls (by omega) (lv_cast (k := [(0, .ref (a 0)), (1, .int (nI (x))), (2, .int (nI (y))), (3, .int (nI (i))), (4, .long (lN (wt_ v i x y))), (6, .int (nI (i + 1)))]) (lv_sub hl [4, 5, 6, 1, 2, 0] rfl) (lc_cons rfl (lc_cons rfl (lc_cons rfl (lc_cons (congrArg (fun z : Int32 => ((3 : Nat), Value.int z)) (show (nI (i) : Int32) = lq_ v x y (i + 1) from by first | exact lq_up c_32 | exact lq_eq c_32)) (lc_cons (congrArg (fun z : Nat => ((4 : Nat), Value.long (lN z))) (show (wt_ v i x y : Nat) = gq_ v x y (i + 1) from by first | exact gq_up c_32 | exact gq_eq c_32)) (lc_cons (congrArg (fun z : Nat => ((6 : Nat), Value.int (nI z))) (show (i + 1 : Nat) = (i + 1) from by first | rfl | omega)) rfl)))))))
set_option maxHeartbeats 4000000 in
set_option maxRecDepth 100000 in
theorem c_X0_percent (l : Launch) (q : Nat) (r : Nat) (hq : q * 100 < 2 ^ 63) (hr0 : 0 < r) (hr1 : r < 2 ^ 63) : Rd l yX0_percent cX0_percent 4 (some .int) 0 0 (Pn [.long (lN (q)), .long (lN (r))]) (.int (nI (q * 100 / r))) := by
  refine rd_introS (own := RX0) (by decide +kernel) rfl (Nat.le_of_ble_eq_true rfl) (fun p e s m args below meth c pc ls hx hb hr hlk d => ret_I hx hb hr hlk d) ?_
  intro p e s m args below meth c ls Qq hx hb hml hown hts hend hl
  have hl : lv_has ls 4 [(0, .long (lN (q))), (2, .long (lN (r)))] := hl
  refine lv_lload_n hx hb dX0_percent_0 rfl (lv_at hl 1 rfl) ?_
  refine lv_lconst (v := lN (0)) hx hb dX0_percent_1 (by decide) ?_
  refine nv_lc_ne (tgt := 16) hx hb dX0_percent_2 dX0_percent_3 (by decide) (by omega) (by omega) (fun c_3 => ?_) (fun z => absurd z (by omega))
  refine lv_lload_n hx hb dX0_percent_16 rfl (lv_at hl 0 rfl) ?_
  refine lv_ldc2 (own := RX0) (index := 183) (v := lN (100)) hx hb hown (hts _ q_k_X0_183) dX0_percent_17 ?_
  refine nv_lmul hx hb dX0_percent_20 rfl ?_
  refine lv_lload_n hx hb dX0_percent_21 rfl (lv_at hl 1 rfl) ?_
  refine nv_ldiv hx hb dX0_percent_22 (by omega) (by omega) (by omega) rfl ?_
  refine nv_l2i hx hb dX0_percent_23 ?_
  refine nv_topi (congrArg nI (show ((q * 100) / r : Nat) = q * 100 / r from by first | rfl | omega)) ?_
  exact hend _ _ dX0_percent_24
set_option maxHeartbeats 4000000 in
set_option maxRecDepth 100000 in
theorem c_X0_chance (l : Launch) (D : va_G) (κ : Nat → ClassId) (a : Nat → Nat) (v : VS) (hv : ok_v v) (h_ : Bool) (x : Nat) (y : Nat) (hx2 : x ≤ 20) (hy : y ≤ 20) : Rd l yX0_chance cX0_chance 8 (some .long) 2 53 (Pw D (kt_ κ) (xw κ a v) [.ref (a 0), .int (bI (h_)), .int (nI (x)), .int (nI (y))]) (.long (lN (ch_ v h_ x y))) := by
  refine rd_intro (own := RX0) (by decide +kernel) rfl (Nat.le_of_ble_eq_true rfl) (fun p e s m args below meth c pc ls hx hb hr hlk d => ret_L hx hb hr hlk d) ?_
  intro p e s m args below meth c ls Qq hx hb hml hown hts hK hP hend hl
  have hl : lv_has ls 8 [(0, .ref (a 0)), (1, .int (bI (h_))), (2, .int (nI (x))), (3, .int (nI (y)))] := hl
  obtain ⟨hv1, hv2, hv3, hv4, hv5, hv6⟩ := id hv
  refine lv_lconst (v := lN (0)) hx hb dX0_chance_0 (by decide) ?_
  refine lv_lstore (lv' := [(4, .long (lN (0))), (0, .ref (a 0)), (1, .int (bI (h_))), (2, .int (nI (x))), (3, .int (nI (y)))]) hx hb dX0_chance_1 hl (by decide) rfl (fun ls hl => ?_)
  refine lv_iconst (v := nI (0)) hx hb dX0_chance_3 (by decide) ?_
  refine lv_istore (lv' := [(6, .int (nI (0))), (4, .long (lN (0))), (0, .ref (a 0)), (1, .int (bI (h_))), (2, .int (nI (x))), (3, .int (nI (y)))]) hx hb dX0_chance_4 hl (by decide) rfl (fun ls hl => ?_)
  suffices hloop_6 : ∀ (n_6 i : Nat) (ls : Array Slot), i + n_6 = vs_c v → lv_has ls 8 [(0, .ref (a 0)), (1, .int (bI (h_))), (2, .int (nI (x))), (3, .int (nI (y))), (4, .long (lN (sm_ (fun z => wt_ v z x y * (if h_ then vs_ct v z else 10 - vs_ct v z)) i))), (6, .int (nI (i)))] → W p l e (rm_ 2 53) s m args below meth c s.heap [] 0 0 Qq (F0 m 6 ls []) from hloop_6 (vs_c v - 0) (0) ls (by omega) (lv_cast (k := [(0, .ref (a 0)), (1, .int (bI (h_))), (2, .int (nI (x))), (3, .int (nI (y))), (4, .long (lN (0))), (6, .int (nI (0)))]) (lv_sub hl [2, 3, 4, 5, 1, 0] rfl) (lc_cons rfl (lc_cons rfl (lc_cons rfl (lc_cons rfl (lc_cons (congrArg (fun z : Nat => ((4 : Nat), Value.long (lN z))) (show (0 : Nat) = sm_ (fun z => wt_ v z x y * (if h_ then vs_ct v z else 10 - vs_ct v z)) 0 from by first | rfl | omega)) (lc_cons rfl rfl)))))))
  intro n_6
  induction n_6 with
  | zero =>
    intro i ls hin_6 hl
    have hi_6 : i = vs_c v := by omega
    have h4 := hv4 i
    refine lv_iload hx hb dX0_chance_6 (lv_at hl 5 rfl) ?_
    refine lv_aload_n hx hb dX0_chance_8 rfl (lv_at hl 0 rfl) ?_
    refine va_get (D := D) (ci := 0) (v := .int (nI (vs_c v))) (C := RX0) (T := TX0) (N := 7) hx hb hts i_X0 hown hK hP 0 rfl rfl 4 (by decide) (hts _ q_f_X0_25) (fun _ h9 => h9) rfl dX0_chance_9 ?_
    refine nv_icmp_ge (tgt := 64) hx hb dX0_chance_12 (by decide) (by omega) (by omega) (fun c_12 => ?_) (fun z => absurd z (by omega))
    refine lv_lload hx hb dX0_chance_64 (lv_at hl 4 rfl) ?_
    refine nv_topl (congrArg lN (show (sm_ (fun z => wt_ v z x y * (if h_ then vs_ct v z else 10 - vs_ct v z)) i : Nat) = ch_ v h_ x y from by rw [hi_6]; exact ch_sum v h_ x y)) ?_
    exact hend _ _ dX0_chance_66
  | succ n_6 ih_6 =>
    intro i ls hin_6 hl
    have h4 := hv4 i
    refine lv_iload hx hb dX0_chance_6 (lv_at hl 5 rfl) ?_
    refine lv_aload_n hx hb dX0_chance_8 rfl (lv_at hl 0 rfl) ?_
    refine va_get (D := D) (ci := 0) (v := .int (nI (vs_c v))) (C := RX0) (T := TX0) (N := 7) hx hb hts i_X0 hown hK hP 0 rfl rfl 4 (by decide) (hts _ q_f_X0_25) (fun _ h9 => h9) rfl dX0_chance_9 ?_
    refine nv_icmp_ge (tgt := 64) hx hb dX0_chance_12 (by decide) (by omega) (by omega) (fun z => absurd z (by omega)) (fun c_12 => ?_)
    refine lv_iload_n hx hb dX0_chance_15 rfl (lv_at hl 1 rfl) ?_
    refine bv_if_eq (tgt := 29) hx hb dX0_chance_16 (by decide) (fun c_16 => ?_) (fun c_16 => ?_)
    · refine lv_bipush (v := nI (10)) hx hb dX0_chance_29 (by decide) ?_
      refine lv_aload_n hx hb dX0_chance_31 rfl (lv_at hl 0 rfl) ?_
      refine va_get (D := D) (ci := 0) (v := .ref (a 1)) (C := RX0) (T := TX0) (N := 7) hx hb hts i_X0 hown hK hP 0 rfl rfl 0 (by decide) (hts _ q_f_X0_9) (fun _ h9 => h9) rfl dX0_chance_32 ?_
      refine lv_iload hx hb dX0_chance_35 (lv_at hl 5 rfl) ?_
      refine nv_iald hx hb hK hP 1 0 (n := 8) (v := nI (vs_ct v i)) rfl rfl (by omega) (by decide) rfl dX0_chance_37 ?_
      refine nv_isub (r := 10 - (vs_ct v i)) hx hb dX0_chance_38 (by omega) ?_
      refine lv_istore (lv' := [(7, .int (nI (10 - (vs_ct v i)))), (0, .ref (a 0)), (1, .int (bI (h_))), (2, .int (nI (x))), (3, .int (nI (y))), (4, .long (lN (sm_ (fun z => wt_ v z x y * (if h_ then vs_ct v z else 10 - vs_ct v z)) i))), (6, .int (nI (i)))]) hx hb dX0_chance_39 hl (by decide) rfl (fun ls hl => ?_)
      refine lv_lload hx hb dX0_chance_41 (lv_at hl 5 rfl) ?_
      refine lv_aload_n hx hb dX0_chance_43 rfl (lv_at hl 1 rfl) ?_
      refine lv_iload hx hb dX0_chance_44 (lv_at hl 6 rfl) ?_
      refine lv_iload_n hx hb dX0_chance_46 rfl (lv_at hl 3 rfl) ?_
      refine lv_iload_n hx hb dX0_chance_47 rfl (lv_at hl 4 rfl) ?_
      refine rd_V (rest := [.long (lN (sm_ (fun z => wt_ v z x y * (if h_ then vs_ct v z else 10 - vs_ct v z)) i))]) ⟨hx, hb, hml, hown, hts⟩ (c_X0_coinWeightAt l D κ a v hv (i) (x) (y) (by omega) (by omega) (by omega)) g_X0_93 n_X0_coinWeightAt ⟨Nat.le_of_ble_eq_true rfl, Nat.le_of_ble_eq_true rfl⟩ hK hP rfl rfl rfl hl.1 rfl (Nat.le_of_ble_eq_true rfl) dX0_chance_48 ⟨Nat.zero_le _, Nat.zero_le _⟩ ?_
      refine lv_iload hx hb dX0_chance_51 (lv_at hl 0 rfl) ?_
      refine nv_i2l hx hb dX0_chance_53 (by omega) ?_
      refine nv_lmul hx hb dX0_chance_54 rfl ?_
      refine nv_ladd hx hb dX0_chance_55 rfl ?_
      refine lv_lstore (lv' := [(4, .long (lN ((sm_ (fun z => wt_ v z x y * (if h_ then vs_ct v z else 10 - vs_ct v z)) i) + ((wt_ v i x y) * (10 - (vs_ct v i)))))), (7, .int (nI (10 - (vs_ct v i)))), (0, .ref (a 0)), (1, .int (bI (h_))), (2, .int (nI (x))), (3, .int (nI (y))), (6, .int (nI (i)))]) hx hb dX0_chance_56 hl (by decide) rfl (fun ls hl => ?_)
      refine lv_iinc (v := nI (i + 1)) (lv' := [(6, .int (nI (i + 1))), (4, .long (lN ((sm_ (fun z => wt_ v z x y * (if h_ then vs_ct v z else 10 - vs_ct v z)) i) + ((wt_ v i x y) * (10 - (vs_ct v i)))))), (7, .int (nI (10 - (vs_ct v i)))), (0, .ref (a 0)), (1, .int (bI (h_))), (2, .int (nI (x))), (3, .int (nI (y)))]) hx hb dX0_chance_58 hl (k := 6) rfl (nI_add _ _) (by decide) rfl (fun ls hl => ?_)
      refine lv_goto (tgt := 6) hx hb dX0_chance_61 (by decide) ?_
      exact ih_6 (i + 1) ls (by omega) (lv_cast (k := [(0, .ref (a 0)), (1, .int (bI (h_))), (2, .int (nI (x))), (3, .int (nI (y))), (4, .long (lN ((sm_ (fun z => wt_ v z x y * (if h_ then vs_ct v z else 10 - vs_ct v z)) i) + ((wt_ v i x y) * (10 - (vs_ct v i)))))), (6, .int (nI (i + 1)))]) (lv_sub hl [3, 4, 5, 6, 1, 0] rfl) (lc_cons rfl (lc_cons rfl (lc_cons rfl (lc_cons rfl (lc_cons (congrArg (fun z : Nat => ((4 : Nat), Value.long (lN z))) (show ((sm_ (fun z => wt_ v z x y * (if h_ then vs_ct v z else 10 - vs_ct v z)) i) + ((wt_ v i x y) * (10 - (vs_ct v i))) : Nat) = sm_ (fun z => wt_ v z x y * (if h_ then vs_ct v z else 10 - vs_ct v z)) (i + 1) from by simp [sm_, c_12, c_16])) (lc_cons (congrArg (fun z : Nat => ((6 : Nat), Value.int (nI z))) (show (i + 1 : Nat) = (i + 1) from by first | rfl | omega)) rfl)))))))
    · refine lv_aload_n hx hb dX0_chance_19 rfl (lv_at hl 0 rfl) ?_
      refine va_get (D := D) (ci := 0) (v := .ref (a 1)) (C := RX0) (T := TX0) (N := 7) hx hb hts i_X0 hown hK hP 0 rfl rfl 0 (by decide) (hts _ q_f_X0_9) (fun _ h9 => h9) rfl dX0_chance_20 ?_
      refine lv_iload hx hb dX0_chance_23 (lv_at hl 5 rfl) ?_
      refine nv_iald hx hb hK hP 1 0 (n := 8) (v := nI (vs_ct v i)) rfl rfl (by omega) (by decide) rfl dX0_chance_25 ?_
      refine lv_goto (tgt := 39) hx hb dX0_chance_26 (by decide) ?_
      refine lv_istore (lv' := [(7, .int (nI (vs_ct v i))), (0, .ref (a 0)), (1, .int (bI (h_))), (2, .int (nI (x))), (3, .int (nI (y))), (4, .long (lN (sm_ (fun z => wt_ v z x y * (if h_ then vs_ct v z else 10 - vs_ct v z)) i))), (6, .int (nI (i)))]) hx hb dX0_chance_39 hl (by decide) rfl (fun ls hl => ?_)
      refine lv_lload hx hb dX0_chance_41 (lv_at hl 5 rfl) ?_
      refine lv_aload_n hx hb dX0_chance_43 rfl (lv_at hl 1 rfl) ?_
      refine lv_iload hx hb dX0_chance_44 (lv_at hl 6 rfl) ?_
      refine lv_iload_n hx hb dX0_chance_46 rfl (lv_at hl 3 rfl) ?_
      refine lv_iload_n hx hb dX0_chance_47 rfl (lv_at hl 4 rfl) ?_
      refine rd_V (rest := [.long (lN (sm_ (fun z => wt_ v z x y * (if h_ then vs_ct v z else 10 - vs_ct v z)) i))]) ⟨hx, hb, hml, hown, hts⟩ (c_X0_coinWeightAt l D κ a v hv (i) (x) (y) (by omega) (by omega) (by omega)) g_X0_93 n_X0_coinWeightAt ⟨Nat.le_of_ble_eq_true rfl, Nat.le_of_ble_eq_true rfl⟩ hK hP rfl rfl rfl hl.1 rfl (Nat.le_of_ble_eq_true rfl) dX0_chance_48 ⟨Nat.zero_le _, Nat.zero_le _⟩ ?_
      refine lv_iload hx hb dX0_chance_51 (lv_at hl 0 rfl) ?_
      refine nv_i2l hx hb dX0_chance_53 (by omega) ?_
      refine nv_lmul hx hb dX0_chance_54 rfl ?_
      refine nv_ladd hx hb dX0_chance_55 rfl ?_
      refine lv_lstore (lv' := [(4, .long (lN ((sm_ (fun z => wt_ v z x y * (if h_ then vs_ct v z else 10 - vs_ct v z)) i) + ((wt_ v i x y) * (vs_ct v i))))), (7, .int (nI (vs_ct v i))), (0, .ref (a 0)), (1, .int (bI (h_))), (2, .int (nI (x))), (3, .int (nI (y))), (6, .int (nI (i)))]) hx hb dX0_chance_56 hl (by decide) rfl (fun ls hl => ?_)
      refine lv_iinc (v := nI (i + 1)) (lv' := [(6, .int (nI (i + 1))), (4, .long (lN ((sm_ (fun z => wt_ v z x y * (if h_ then vs_ct v z else 10 - vs_ct v z)) i) + ((wt_ v i x y) * (vs_ct v i))))), (7, .int (nI (vs_ct v i))), (0, .ref (a 0)), (1, .int (bI (h_))), (2, .int (nI (x))), (3, .int (nI (y)))]) hx hb dX0_chance_58 hl (k := 6) rfl (nI_add _ _) (by decide) rfl (fun ls hl => ?_)
      refine lv_goto (tgt := 6) hx hb dX0_chance_61 (by decide) ?_
      exact ih_6 (i + 1) ls (by omega) (lv_cast (k := [(0, .ref (a 0)), (1, .int (bI (h_))), (2, .int (nI (x))), (3, .int (nI (y))), (4, .long (lN ((sm_ (fun z => wt_ v z x y * (if h_ then vs_ct v z else 10 - vs_ct v z)) i) + ((wt_ v i x y) * (vs_ct v i))))), (6, .int (nI (i + 1)))]) (lv_sub hl [3, 4, 5, 6, 1, 0] rfl) (lc_cons rfl (lc_cons rfl (lc_cons rfl (lc_cons rfl (lc_cons (congrArg (fun z : Nat => ((4 : Nat), Value.long (lN z))) (show ((sm_ (fun z => wt_ v z x y * (if h_ then vs_ct v z else 10 - vs_ct v z)) i) + ((wt_ v i x y) * (vs_ct v i)) : Nat) = sm_ (fun z => wt_ v z x y * (if h_ then vs_ct v z else 10 - vs_ct v z)) (i + 1) from by simp [sm_, c_12, c_16])) (lc_cons (congrArg (fun z : Nat => ((6 : Nat), Value.int (nI z))) (show (i + 1 : Nat) = (i + 1) from by first | rfl | omega)) rfl)))))))
set_option maxHeartbeats 4000000 in
set_option maxRecDepth 100000 in
theorem c_X0_surpriseBehind (l : Launch) (D : va_G) (κ : Nat → ClassId) (a : Nat → Nat) (v : VS) (hv : ok_v v) (h_ : Bool) (x : Nat) (y : Nat) (hxy : x + y ≤ 12) : Rd l yX0_surpriseBehind cX0_surpriseBehind 9 (some .int) 3 80 (Pw D (kt_ κ) (xw κ a v) [.ref (a 0), .int (bI (h_)), .int (nI (x)), .int (nI (y))]) (.int (nI (su_ v h_ x y))) := by
  refine rd_intro (own := RX0) (by decide +kernel) rfl (Nat.le_of_ble_eq_true rfl) (fun p e s m args below meth c pc ls hx hb hr hlk d => ret_I hx hb hr hlk d) ?_
  intro p e s m args below meth c ls Qq hx hb hml hown hts hK hP hend hl
  have hl : lv_has ls 9 [(0, .ref (a 0)), (1, .int (bI (h_))), (2, .int (nI (x))), (3, .int (nI (y)))] := hl
  obtain ⟨hv1, hv2, hv3, hv4, hv5, hv6⟩ := id hv
  have hb1 := wl_b12 hv hxy
  have hb2 := ch_b hv h_ hxy
  refine lv_ldc2 (own := RX0) (index := 185) (v := lN (10)) hx hb hown (hts _ q_k_X0_185) dX0_surpriseBehind_0 ?_
  refine lv_aload_n hx hb dX0_surpriseBehind_3 rfl (lv_at hl 0 rfl) ?_
  refine lv_iload_n hx hb dX0_surpriseBehind_4 rfl (lv_at hl 2 rfl) ?_
  refine lv_iload_n hx hb dX0_surpriseBehind_5 rfl (lv_at hl 3 rfl) ?_
  refine rd_V (rest := [.long (lN (10))]) ⟨hx, hb, hml, hown, hts⟩ (c_X0_wholeAt l D κ a v hv (x) (y) (by omega) (by omega)) g_X0_180 n_X0_wholeAt ⟨Nat.le_of_ble_eq_true rfl, Nat.le_of_ble_eq_true rfl⟩ hK hP rfl rfl rfl hl.1 rfl (Nat.le_of_ble_eq_true rfl) dX0_surpriseBehind_6 ⟨Nat.zero_le _, Nat.zero_le _⟩ ?_
  refine nv_lmul hx hb dX0_surpriseBehind_9 rfl ?_
  refine lv_lstore (lv' := [(4, .long (lN (10 * (wl_ v x y)))), (0, .ref (a 0)), (1, .int (bI (h_))), (2, .int (nI (x))), (3, .int (nI (y)))]) hx hb dX0_surpriseBehind_10 hl (by decide) rfl (fun ls hl => ?_)
  refine lv_aload_n hx hb dX0_surpriseBehind_12 rfl (lv_at hl 1 rfl) ?_
  refine lv_iload_n hx hb dX0_surpriseBehind_13 rfl (lv_at hl 2 rfl) ?_
  refine lv_iload_n hx hb dX0_surpriseBehind_14 rfl (lv_at hl 3 rfl) ?_
  refine lv_iload_n hx hb dX0_surpriseBehind_15 rfl (lv_at hl 4 rfl) ?_
  refine rd_V (rest := []) ⟨hx, hb, hml, hown, hts⟩ (c_X0_chance l D κ a v hv (h_) (x) (y) (by omega) (by omega)) g_X0_120 n_X0_chance ⟨Nat.le_of_ble_eq_true rfl, Nat.le_of_ble_eq_true rfl⟩ hK hP rfl rfl rfl hl.1 rfl (Nat.le_of_ble_eq_true rfl) dX0_surpriseBehind_16 ⟨Nat.zero_le _, Nat.zero_le _⟩ ?_
  refine lv_ldc2 (own := RX0) (index := 187) (v := lN (2)) hx hb hown (hts _ q_k_X0_187) dX0_surpriseBehind_19 ?_
  refine nv_lmul hx hb dX0_surpriseBehind_22 rfl ?_
  refine lv_lstore (lv' := [(6, .long (lN ((ch_ v h_ x y) * 2))), (4, .long (lN (10 * (wl_ v x y)))), (0, .ref (a 0)), (1, .int (bI (h_))), (2, .int (nI (x))), (3, .int (nI (y)))]) hx hb dX0_surpriseBehind_23 hl (by decide) rfl (fun ls hl => ?_)
  refine lv_iconst (v := nI (0)) hx hb dX0_surpriseBehind_25 (by decide) ?_
  refine lv_istore (lv' := [(8, .int (nI (0))), (6, .long (lN ((ch_ v h_ x y) * 2))), (4, .long (lN (10 * (wl_ v x y)))), (0, .ref (a 0)), (1, .int (bI (h_))), (2, .int (nI (x))), (3, .int (nI (y)))]) hx hb dX0_surpriseBehind_26 hl (by decide) rfl (fun ls hl => ?_)
  suffices hloop_28 : ∀ (n_28 i : Nat) (ls : Array Slot), i + n_28 = 60 → lv_has ls 9 [(0, .ref (a 0)), (1, .int (bI (h_))), (2, .int (nI (x))), (3, .int (nI (y))), (4, .long (lN (10 * (wl_ v x y)))), (6, .long (lN (2 ^ i * (2 * ch_ v h_ x y)))), (8, .int (nI (i)))] → (su_ v h_ x y = sd_ (2 ^ i * (2 * ch_ v h_ x y)) (10 * wl_ v x y) (60 - i) + i) → (2 ^ i * (2 * ch_ v h_ x y) ≤ 51840000000000000) → W p l e (rm_ 3 80) s m args below meth c s.heap [] 0 0 Qq (F0 m 28 ls []) from hloop_28 (60 - 0) (0) ls (by omega) (lv_cast (k := [(0, .ref (a 0)), (1, .int (bI (h_))), (2, .int (nI (x))), (3, .int (nI (y))), (4, .long (lN (10 * (wl_ v x y)))), (6, .long (lN ((ch_ v h_ x y) * 2))), (8, .int (nI (0)))]) (lv_sub hl [3, 4, 5, 6, 2, 1, 0] rfl) (lc_cons rfl (lc_cons rfl (lc_cons rfl (lc_cons rfl (lc_cons rfl (lc_cons (congrArg (fun z : Nat => ((6 : Nat), Value.long (lN z))) (show ((ch_ v h_ x y) * 2 : Nat) = 2 ^ 0 * (2 * ch_ v h_ x y) from by rw [Nat.pow_zero, Nat.one_mul, Nat.mul_comm])) (lc_cons rfl rfl)))))))) (by rw [Nat.pow_zero, Nat.one_mul]; rfl) (by rw [Nat.pow_zero, Nat.one_mul]; omega)
  intro n_28
  induction n_28 with
  | zero =>
    intro i ls hin_28 hl hj1 hj2
    have hi_28 : i = 60 := by omega
    refine lv_lload hx hb dX0_surpriseBehind_28 (lv_at hl 5 rfl) ?_
    refine lv_lload hx hb dX0_surpriseBehind_30 (lv_at hl 4 rfl) ?_
    refine nv_lc_gt (tgt := 57) hx hb dX0_surpriseBehind_32 dX0_surpriseBehind_33 (by decide) (by omega) (by omega) (fun c_33 => ?_) (fun c_33 => ?_)
    · refine lv_iload hx hb dX0_surpriseBehind_57 (lv_at hl 6 rfl) ?_
      refine nv_topi (congrArg nI (show (i : Nat) = su_ v h_ x y from by first | exact su_stop hj1 c_33 | exact su_zero hj1 hi_28)) ?_
      exact hend _ _ dX0_surpriseBehind_59
    · refine lv_iload hx hb dX0_surpriseBehind_36 (lv_at hl 6 rfl) ?_
      refine lv_bipush (v := nI (60)) hx hb dX0_surpriseBehind_38 (by decide) ?_
      refine nv_icmp_ge (tgt := 57) hx hb dX0_surpriseBehind_40 (by decide) (by omega) (by omega) (fun c_40 => ?_) (fun z => absurd z (by omega))
      refine lv_iload hx hb dX0_surpriseBehind_57 (lv_at hl 6 rfl) ?_
      refine nv_topi (congrArg nI (show (i : Nat) = su_ v h_ x y from by first | exact su_stop hj1 c_33 | exact su_zero hj1 hi_28)) ?_
      exact hend _ _ dX0_surpriseBehind_59
  | succ n_28 ih_28 =>
    intro i ls hin_28 hl hj1 hj2
    refine lv_lload hx hb dX0_surpriseBehind_28 (lv_at hl 5 rfl) ?_
    refine lv_lload hx hb dX0_surpriseBehind_30 (lv_at hl 4 rfl) ?_
    refine nv_lc_gt (tgt := 57) hx hb dX0_surpriseBehind_32 dX0_surpriseBehind_33 (by decide) (by omega) (by omega) (fun c_33 => ?_) (fun c_33 => ?_)
    · refine lv_iload hx hb dX0_surpriseBehind_57 (lv_at hl 6 rfl) ?_
      refine nv_topi (congrArg nI (show (i : Nat) = su_ v h_ x y from by first | exact su_stop hj1 c_33 | exact su_zero hj1 hi_28)) ?_
      exact hend _ _ dX0_surpriseBehind_59
    · refine lv_iload hx hb dX0_surpriseBehind_36 (lv_at hl 6 rfl) ?_
      refine lv_bipush (v := nI (60)) hx hb dX0_surpriseBehind_38 (by decide) ?_
      refine nv_icmp_ge (tgt := 57) hx hb dX0_surpriseBehind_40 (by decide) (by omega) (by omega) (fun z => absurd z (by omega)) (fun c_40 => ?_)
      refine lv_lload hx hb dX0_surpriseBehind_43 (lv_at hl 5 rfl) ?_
      refine lv_ldc2 (own := RX0) (index := 187) (v := lN (2)) hx hb hown (hts _ q_k_X0_187) dX0_surpriseBehind_45 ?_
      refine nv_lmul hx hb dX0_surpriseBehind_48 rfl ?_
      refine lv_lstore (lv' := [(6, .long (lN ((2 ^ i * (2 * ch_ v h_ x y)) * 2))), (0, .ref (a 0)), (1, .int (bI (h_))), (2, .int (nI (x))), (3, .int (nI (y))), (4, .long (lN (10 * (wl_ v x y)))), (8, .int (nI (i)))]) hx hb dX0_surpriseBehind_49 hl (by decide) rfl (fun ls hl => ?_)
      refine lv_iinc (v := nI (i + 1)) (lv' := [(8, .int (nI (i + 1))), (6, .long (lN ((2 ^ i * (2 * ch_ v h_ x y)) * 2))), (0, .ref (a 0)), (1, .int (bI (h_))), (2, .int (nI (x))), (3, .int (nI (y))), (4, .long (lN (10 * (wl_ v x y))))]) hx hb dX0_surpriseBehind_51 hl (k := 6) rfl (nI_add _ _) (by decide) rfl (fun ls hl => ?_)
      refine lv_goto (tgt := 28) hx hb dX0_surpriseBehind_54 (by decide) ?_
      exact ih_28 (i + 1) ls (by omega) (lv_cast (k := [(0, .ref (a 0)), (1, .int (bI (h_))), (2, .int (nI (x))), (3, .int (nI (y))), (4, .long (lN (10 * (wl_ v x y)))), (6, .long (lN ((2 ^ i * (2 * ch_ v h_ x y)) * 2))), (8, .int (nI (i + 1)))]) (lv_sub hl [2, 3, 4, 5, 6, 1, 0] rfl) (lc_cons rfl (lc_cons rfl (lc_cons rfl (lc_cons rfl (lc_cons rfl (lc_cons (congrArg (fun z : Nat => ((6 : Nat), Value.long (lN z))) (show ((2 ^ i * (2 * ch_ v h_ x y)) * 2 : Nat) = 2 ^ (i + 1) * (2 * ch_ v h_ x y) from by rw [Nat.pow_succ, Nat.mul_right_comm])) (lc_cons (congrArg (fun z : Nat => ((8 : Nat), Value.int (nI z))) (show (i + 1 : Nat) = (i + 1) from by first | rfl | omega)) rfl)))))))) (su_step hj1 (by omega) c_33) (by rw [Nat.pow_succ, Nat.mul_right_comm]; omega)
set_option maxHeartbeats 4000000 in
set_option maxRecDepth 100000 in
theorem c_X0_surpriseAt (l : Launch) (D : va_G) (κ : Nat → ClassId) (a : Nat → Nat) (v : VS) (hv : ok_v v) (t_ : Nat) (ht : t_ < vs_t v) : Rd l yX0_surpriseAt cX0_surpriseAt 3 (some .int) 4 108 (Pw D (kt_ κ) (xw κ a v) [.ref (a 0), .int (nI (t_))]) (.int (nI (sa_ v t_))) := by
  refine rd_intro (own := RX0) (by decide +kernel) rfl (Nat.le_of_ble_eq_true rfl) (fun p e s m args below meth c pc ls hx hb hr hlk d => ret_I hx hb hr hlk d) ?_
  intro p e s m args below meth c ls Qq hx hb hml hown hts hK hP hend hl
  have hl : lv_has ls 3 [(0, .ref (a 0)), (1, .int (nI (t_)))] := hl
  obtain ⟨hv1, hv2, hv3, hv4, hv5, hv6⟩ := id hv
  have hq := hd_le (vs_th v) t_
  refine lv_aload_n hx hb dX0_surpriseAt_0 rfl (lv_at hl 0 rfl) ?_
  refine lv_iload_n hx hb dX0_surpriseAt_1 rfl (lv_at hl 1 rfl) ?_
  refine rd_V (rest := []) ⟨hx, hb, hml, hown, hts⟩ (c_X0_headsAhead l D κ a v hv (t_) (by omega)) g_X0_177 n_X0_headsAhead ⟨Nat.le_of_ble_eq_true rfl, Nat.le_of_ble_eq_true rfl⟩ hK hP rfl rfl rfl hl.1 rfl (Nat.le_of_ble_eq_true rfl) dX0_surpriseAt_2 ⟨Nat.zero_le _, Nat.zero_le _⟩ ?_
  refine lv_istore_n (lv' := [(2, .int (nI (hd_ (vs_th v) t_))), (0, .ref (a 0)), (1, .int (nI (t_)))]) hx hb dX0_surpriseAt_5 rfl hl (by decide) rfl (fun ls hl => ?_)
  refine lv_aload_n hx hb dX0_surpriseAt_6 rfl (lv_at hl 1 rfl) ?_
  refine lv_aload_n hx hb dX0_surpriseAt_7 rfl (lv_at hl 1 rfl) ?_
  refine va_get (D := D) (ci := 0) (v := .ref (a 4)) (C := RX0) (T := TX0) (N := 7) hx hb hts i_X0 hown hK hP 0 rfl rfl 3 (by decide) (hts _ q_f_X0_21) (fun _ h9 => h9) rfl dX0_surpriseAt_8 ?_
  refine lv_iload_n hx hb dX0_surpriseAt_11 rfl (lv_at hl 2 rfl) ?_
  refine nv_zald hx hb hK hP 4 2 (n := 12) (v := bI (vs_th v t_)) rfl rfl (by omega) (by decide) rfl dX0_surpriseAt_12 ?_
  refine lv_iload_n hx hb dX0_surpriseAt_13 rfl (lv_at hl 0 rfl) ?_
  refine lv_iload_n hx hb dX0_surpriseAt_14 rfl (lv_at hl 2 rfl) ?_
  refine lv_iload_n hx hb dX0_surpriseAt_15 rfl (lv_at hl 0 rfl) ?_
  refine nv_isub (r := t_ - (hd_ (vs_th v) t_)) hx hb dX0_surpriseAt_16 (by omega) ?_
  refine rd_V (rest := []) ⟨hx, hb, hml, hown, hts⟩ (c_X0_surpriseBehind l D κ a v hv (vs_th v t_) (hd_ (vs_th v) t_) (t_ - (hd_ (vs_th v) t_)) (by omega)) g_X0_76 n_X0_surpriseBehind ⟨Nat.le_of_ble_eq_true rfl, Nat.le_of_ble_eq_true rfl⟩ hK hP rfl rfl rfl hl.1 rfl (Nat.le_of_ble_eq_true rfl) dX0_surpriseAt_17 ⟨Nat.zero_le _, Nat.zero_le _⟩ ?_
  refine nv_topi (congrArg nI (show (su_ v (vs_th v t_) (hd_ (vs_th v) t_) (t_ - (hd_ (vs_th v) t_)) : Nat) = sa_ v t_ from by first | rfl | omega)) ?_
  exact hend _ _ dX0_surpriseAt_20
set_option maxHeartbeats 4000000 in
set_option maxRecDepth 100000 in
theorem c_X0_digestWith (l : Launch) (d_ : Int64) (x : Int64) : Rd l yX0_digestWith cX0_digestWith 4 (some .long) 0 0 (Pn [.long (d_), .long (x)]) (.long (dg_ d_ x)) := by
  refine rd_introS (own := RX0) (by decide +kernel) rfl (Nat.le_of_ble_eq_true rfl) (fun p e s m args below meth c pc ls hx hb hr hlk d => ret_L hx hb hr hlk d) ?_
  intro p e s m args below meth c ls Qq hx hb hml hown hts hend hl
  have hl : lv_has ls 4 [(0, .long (d_)), (2, .long (x))] := hl
  refine lv_lload_n hx hb dX0_digestWith_0 rfl (lv_at hl 0 rfl) ?_
  refine lv_ldc2 (own := RX0) (index := 189) (v := lN (31)) hx hb hown (hts _ q_k_X0_189) dX0_digestWith_1 ?_
  refine lv_lmul hx hb dX0_digestWith_4 ?_
  refine lv_lload_n hx hb dX0_digestWith_5 rfl (lv_at hl 1 rfl) ?_
  refine lv_ladd hx hb dX0_digestWith_6 ?_
  refine nv_topl (show (((d_) * (lN (31))) + (x) : Int64) = dg_ d_ x from by first | rfl | omega) ?_
  exact hend _ _ dX0_digestWith_7
end
section
set_option maxHeartbeats 4000000 in
set_option maxRecDepth 100000 in
theorem c_X0_coins (l : Launch) (D : va_G) (κ : Nat → ClassId) (a : Nat → Nat) (v : VS) (hv : ok_v v) : Rd l yX0_coins cX0_coins 1 (some .int) 0 0 (Pw D (kt_ κ) (xw κ a v) [.ref (a 0)]) (.int (nI (vs_c v))) := by
  refine rd_intro (own := RX0) (by decide +kernel) rfl (Nat.le_of_ble_eq_true rfl) (fun p e s m args below meth c pc ls hx hb hr hlk d => ret_I hx hb hr hlk d) ?_
  intro p e s m args below meth c ls Qq hx hb hml hown hts hK hP hend hl
  have hl : lv_has ls 1 [(0, .ref (a 0))] := hl
  obtain ⟨hv1, hv2, hv3, hv4, hv5, hv6⟩ := id hv
  refine lv_aload_n hx hb dX0_coins_0 rfl (lv_at hl 0 rfl) ?_
  refine va_get (D := D) (ci := 0) (v := .int (nI (vs_c v))) (C := RX0) (T := TX0) (N := 7) hx hb hts i_X0 hown hK hP 0 rfl rfl 4 (by decide) (hts _ q_f_X0_25) (fun _ h9 => h9) rfl dX0_coins_1 ?_
  exact hend _ _ dX0_coins_4
set_option maxHeartbeats 4000000 in
set_option maxRecDepth 100000 in
theorem c_X0_schools (l : Launch) (D : va_G) (κ : Nat → ClassId) (a : Nat → Nat) (v : VS) (hv : ok_v v) : Rd l yX0_schools cX0_schools 1 (some .int) 0 0 (Pw D (kt_ κ) (xw κ a v) [.ref (a 0)]) (.int (nI (vs_n v))) := by
  refine rd_intro (own := RX0) (by decide +kernel) rfl (Nat.le_of_ble_eq_true rfl) (fun p e s m args below meth c pc ls hx hb hr hlk d => ret_I hx hb hr hlk d) ?_
  intro p e s m args below meth c ls Qq hx hb hml hown hts hK hP hend hl
  have hl : lv_has ls 1 [(0, .ref (a 0))] := hl
  obtain ⟨hv1, hv2, hv3, hv4, hv5, hv6⟩ := id hv
  refine lv_aload_n hx hb dX0_schools_0 rfl (lv_at hl 0 rfl) ?_
  refine va_get (D := D) (ci := 0) (v := .int (nI (vs_n v))) (C := RX0) (T := TX0) (N := 7) hx hb hts i_X0 hown hK hP 0 rfl rfl 5 (by decide) (hts _ q_f_X0_29) (fun _ h9 => h9) rfl dX0_schools_1 ?_
  exact hend _ _ dX0_schools_4
set_option maxHeartbeats 4000000 in
set_option maxRecDepth 100000 in
theorem c_X0_tosses (l : Launch) (D : va_G) (κ : Nat → ClassId) (a : Nat → Nat) (v : VS) (hv : ok_v v) : Rd l yX0_tosses cX0_tosses 1 (some .int) 0 0 (Pw D (kt_ κ) (xw κ a v) [.ref (a 0)]) (.int (nI (vs_t v))) := by
  refine rd_intro (own := RX0) (by decide +kernel) rfl (Nat.le_of_ble_eq_true rfl) (fun p e s m args below meth c pc ls hx hb hr hlk d => ret_I hx hb hr hlk d) ?_
  intro p e s m args below meth c ls Qq hx hb hml hown hts hK hP hend hl
  have hl : lv_has ls 1 [(0, .ref (a 0))] := hl
  obtain ⟨hv1, hv2, hv3, hv4, hv5, hv6⟩ := id hv
  refine lv_aload_n hx hb dX0_tosses_0 rfl (lv_at hl 0 rfl) ?_
  refine va_get (D := D) (ci := 0) (v := .int (nI (vs_t v))) (C := RX0) (T := TX0) (N := 7) hx hb hts i_X0 hown hK hP 0 rfl rfl 6 (by decide) (hts _ q_f_X0_32) (fun _ h9 => h9) rfl dX0_tosses_1 ?_
  exact hend _ _ dX0_tosses_4
set_option maxHeartbeats 4000000 in
set_option maxRecDepth 100000 in
theorem c_X0_heads (l : Launch) (D : va_G) (κ : Nat → ClassId) (a : Nat → Nat) (v : VS) (hv : ok_v v) : Rd l yX0_heads cX0_heads 1 (some .int) 2 43 (Pw D (kt_ κ) (xw κ a v) [.ref (a 0)]) (.int (nI (hh_ v))) := by
  refine rd_intro (own := RX0) (by decide +kernel) rfl (Nat.le_of_ble_eq_true rfl) (fun p e s m args below meth c pc ls hx hb hr hlk d => ret_I hx hb hr hlk d) ?_
  intro p e s m args below meth c ls Qq hx hb hml hown hts hK hP hend hl
  have hl : lv_has ls 1 [(0, .ref (a 0))] := hl
  obtain ⟨hv1, hv2, hv3, hv4, hv5, hv6⟩ := id hv
  refine lv_aload_n hx hb dX0_heads_0 rfl (lv_at hl 0 rfl) ?_
  refine rd_V (rest := []) ⟨hx, hb, hml, hown, hts⟩ (c_X0_headsNow l D κ a v hv) g_X0_69 n_X0_headsNow ⟨Nat.le_of_ble_eq_true rfl, Nat.le_of_ble_eq_true rfl⟩ hK hP rfl rfl rfl hl.1 rfl (Nat.le_of_ble_eq_true rfl) dX0_heads_1 ⟨Nat.zero_le _, Nat.zero_le _⟩ ?_
  exact hend _ _ dX0_heads_4
set_option maxHeartbeats 4000000 in
set_option maxRecDepth 100000 in
theorem c_X0_wholeWeight (l : Launch) (D : va_G) (κ : Nat → ClassId) (a : Nat → Nat) (v : VS) (hv : ok_v v) : Rd l yX0_wholeWeight cX0_wholeWeight 1 (some .long) 4 98 (Pw D (kt_ κ) (xw κ a v) [.ref (a 0)]) (.long (lN (wl_ v (hh_ v) (tt_ v)))) := by
  refine rd_intro (own := RX0) (by decide +kernel) rfl (Nat.le_of_ble_eq_true rfl) (fun p e s m args below meth c pc ls hx hb hr hlk d => ret_L hx hb hr hlk d) ?_
  intro p e s m args below meth c ls Qq hx hb hml hown hts hK hP hend hl
  have hl : lv_has ls 1 [(0, .ref (a 0))] := hl
  obtain ⟨hv1, hv2, hv3, hv4, hv5, hv6⟩ := id hv
  refine lv_aload_n hx hb dX0_wholeWeight_0 rfl (lv_at hl 0 rfl) ?_
  refine rd_V (rest := []) ⟨hx, hb, hml, hown, hts⟩ (c_X0_wholeNow l D κ a v hv) g_X0_100 n_X0_wholeNow ⟨Nat.le_of_ble_eq_true rfl, Nat.le_of_ble_eq_true rfl⟩ hK hP rfl rfl rfl hl.1 rfl (Nat.le_of_ble_eq_true rfl) dX0_wholeWeight_1 ⟨Nat.zero_le _, Nat.zero_le _⟩ ?_
  exact hend _ _ dX0_wholeWeight_4
set_option maxHeartbeats 4000000 in
set_option maxRecDepth 100000 in
theorem c_X0_needCoin (l : Launch) (D : va_G) (κ : Nat → ClassId) (a : Nat → Nat) (v : VS) (hv : ok_v v) (c_ : Nat) (hc : c_ < vs_c v) : Rn l yX0_needCoin cX0_needCoin 2 none 0 0 (Pw D (kt_ κ) (xw κ a v) [.ref (a 0), .int (nI (c_))]) := by
  refine rn_intro (own := RX0) (by decide +kernel) rfl (Nat.le_of_ble_eq_true rfl) ?_
  intro p e s m args below meth c ls Qq hx hb hml hown hts hK hP hend hl
  have hl : lv_has ls 2 [(0, .ref (a 0)), (1, .int (nI (c_)))] := hl
  obtain ⟨hv1, hv2, hv3, hv4, hv5, hv6⟩ := id hv
  refine lv_iload_n hx hb dX0_needCoin_0 rfl (lv_at hl 1 rfl) ?_
  refine nv_if_lt (tgt := 12) hx hb dX0_needCoin_1 (by decide) (by omega) ?_
  refine lv_iload_n hx hb dX0_needCoin_4 rfl (lv_at hl 1 rfl) ?_
  refine lv_aload_n hx hb dX0_needCoin_5 rfl (lv_at hl 0 rfl) ?_
  refine va_get (D := D) (ci := 0) (v := .int (nI (vs_c v))) (C := RX0) (T := TX0) (N := 7) hx hb hts i_X0 hown hK hP 0 rfl rfl 4 (by decide) (hts _ q_f_X0_25) (fun _ h9 => h9) rfl dX0_needCoin_6 ?_
  refine nv_icmp_lt (tgt := 22) hx hb dX0_needCoin_9 (by decide) (by omega) (by omega) (fun c_9 => ?_) (fun z => absurd z (by omega))
  exact hend _ _ dX0_needCoin_22
set_option maxHeartbeats 4000000 in
set_option maxRecDepth 100000 in
theorem c_X0_needSchool (l : Launch) (D : va_G) (κ : Nat → ClassId) (a : Nat → Nat) (v : VS) (hv : ok_v v) (s_ : Nat) (hs : s_ < vs_n v) : Rn l yX0_needSchool cX0_needSchool 2 none 0 0 (Pw D (kt_ κ) (xw κ a v) [.ref (a 0), .int (nI (s_))]) := by
  refine rn_intro (own := RX0) (by decide +kernel) rfl (Nat.le_of_ble_eq_true rfl) ?_
  intro p e s m args below meth c ls Qq hx hb hml hown hts hK hP hend hl
  have hl : lv_has ls 2 [(0, .ref (a 0)), (1, .int (nI (s_)))] := hl
  obtain ⟨hv1, hv2, hv3, hv4, hv5, hv6⟩ := id hv
  refine lv_iload_n hx hb dX0_needSchool_0 rfl (lv_at hl 1 rfl) ?_
  refine nv_if_lt (tgt := 12) hx hb dX0_needSchool_1 (by decide) (by omega) ?_
  refine lv_iload_n hx hb dX0_needSchool_4 rfl (lv_at hl 1 rfl) ?_
  refine lv_aload_n hx hb dX0_needSchool_5 rfl (lv_at hl 0 rfl) ?_
  refine va_get (D := D) (ci := 0) (v := .int (nI (vs_n v))) (C := RX0) (T := TX0) (N := 7) hx hb hts i_X0 hown hK hP 0 rfl rfl 5 (by decide) (hts _ q_f_X0_29) (fun _ h9 => h9) rfl dX0_needSchool_6 ?_
  refine nv_icmp_lt (tgt := 22) hx hb dX0_needSchool_9 (by decide) (by omega) (by omega) (fun c_9 => ?_) (fun z => absurd z (by omega))
  exact hend _ _ dX0_needSchool_22
set_option maxHeartbeats 4000000 in
set_option maxRecDepth 100000 in
theorem c_X0_needToss (l : Launch) (D : va_G) (κ : Nat → ClassId) (a : Nat → Nat) (v : VS) (hv : ok_v v) (t_ : Nat) (ht : t_ < vs_t v) : Rn l yX0_needToss cX0_needToss 2 none 0 0 (Pw D (kt_ κ) (xw κ a v) [.ref (a 0), .int (nI (t_))]) := by
  refine rn_intro (own := RX0) (by decide +kernel) rfl (Nat.le_of_ble_eq_true rfl) ?_
  intro p e s m args below meth c ls Qq hx hb hml hown hts hK hP hend hl
  have hl : lv_has ls 2 [(0, .ref (a 0)), (1, .int (nI (t_)))] := hl
  obtain ⟨hv1, hv2, hv3, hv4, hv5, hv6⟩ := id hv
  refine lv_iload_n hx hb dX0_needToss_0 rfl (lv_at hl 1 rfl) ?_
  refine nv_if_lt (tgt := 12) hx hb dX0_needToss_1 (by decide) (by omega) ?_
  refine lv_iload_n hx hb dX0_needToss_4 rfl (lv_at hl 1 rfl) ?_
  refine lv_aload_n hx hb dX0_needToss_5 rfl (lv_at hl 0 rfl) ?_
  refine va_get (D := D) (ci := 0) (v := .int (nI (vs_t v))) (C := RX0) (T := TX0) (N := 7) hx hb hts i_X0 hown hK hP 0 rfl rfl 6 (by decide) (hts _ q_f_X0_32) (fun _ h9 => h9) rfl dX0_needToss_6 ?_
  refine nv_icmp_lt (tgt := 22) hx hb dX0_needToss_9 (by decide) (by omega) (by omega) (fun c_9 => ?_) (fun z => absurd z (by omega))
  exact hend _ _ dX0_needToss_22
set_option maxHeartbeats 4000000 in
set_option maxRecDepth 100000 in
theorem c_X0_needNoTosses (l : Launch) (D : va_G) (κ : Nat → ClassId) (a : Nat → Nat) (v : VS) (hv : ok_v v) (h0 : vs_t v = 0) : Rn l yX0_needNoTosses cX0_needNoTosses 1 none 0 0 (Pw D (kt_ κ) (xw κ a v) [.ref (a 0)]) := by
  refine rn_intro (own := RX0) (by decide +kernel) rfl (Nat.le_of_ble_eq_true rfl) ?_
  intro p e s m args below meth c ls Qq hx hb hml hown hts hK hP hend hl
  have hl : lv_has ls 1 [(0, .ref (a 0))] := hl
  obtain ⟨hv1, hv2, hv3, hv4, hv5, hv6⟩ := id hv
  refine lv_aload_n hx hb dX0_needNoTosses_0 rfl (lv_at hl 0 rfl) ?_
  refine va_get (D := D) (ci := 0) (v := .int (nI (vs_t v))) (C := RX0) (T := TX0) (N := 7) hx hb hts i_X0 hown hK hP 0 rfl rfl 6 (by decide) (hts _ q_f_X0_32) (fun _ h9 => h9) rfl dX0_needNoTosses_1 ?_
  refine nv_if_le (tgt := 17) hx hb dX0_needNoTosses_4 (by decide) (by omega) (fun c_4 => ?_) (fun z => absurd z (by omega))
  exact hend _ _ dX0_needNoTosses_17
set_option maxHeartbeats 4000000 in
set_option maxRecDepth 100000 in
theorem c_X0_needPossible (l : Launch) (D : va_G) (κ : Nat → ClassId) (a : Nat → Nat) (v : VS) (hv : ok_v v) (h_ : Bool) (hp : 0 < ch_ v h_ (hh_ v) (tt_ v)) : Rn l yX0_needPossible cX0_needPossible 2 none 3 80 (Pw D (kt_ κ) (xw κ a v) [.ref (a 0), .int (bI (h_))]) := by
  refine rn_intro (own := RX0) (by decide +kernel) rfl (Nat.le_of_ble_eq_true rfl) ?_
  intro p e s m args below meth c ls Qq hx hb hml hown hts hK hP hend hl
  have hl : lv_has ls 2 [(0, .ref (a 0)), (1, .int (bI (h_)))] := hl
  obtain ⟨hv1, hv2, hv3, hv4, hv5, hv6⟩ := id hv
  have hq1 := hh_le v
  have hq2 := hh_tt v
  have hb9 := ch_b hv h_ (a := hh_ v) (b := tt_ v) (by omega)
  refine lv_aload_n hx hb dX0_needPossible_0 rfl (lv_at hl 0 rfl) ?_
  refine lv_iload_n hx hb dX0_needPossible_1 rfl (lv_at hl 1 rfl) ?_
  refine lv_aload_n hx hb dX0_needPossible_2 rfl (lv_at hl 0 rfl) ?_
  refine rd_V (rest := [.int (bI (h_)), .ref (a 0)]) ⟨hx, hb, hml, hown, hts⟩ (c_X0_headsNow l D κ a v hv) g_X0_69 n_X0_headsNow ⟨Nat.le_of_ble_eq_true rfl, Nat.le_of_ble_eq_true rfl⟩ hK hP rfl rfl rfl hl.1 rfl (Nat.le_of_ble_eq_true rfl) dX0_needPossible_3 ⟨Nat.zero_le _, Nat.zero_le _⟩ ?_
  refine lv_aload_n hx hb dX0_needPossible_6 rfl (lv_at hl 0 rfl) ?_
  refine rd_V (rest := [.int (nI (hh_ v)), .int (bI (h_)), .ref (a 0)]) ⟨hx, hb, hml, hown, hts⟩ (c_X0_tailsNow l D κ a v hv) g_X0_73 n_X0_tailsNow ⟨Nat.le_of_ble_eq_true rfl, Nat.le_of_ble_eq_true rfl⟩ hK hP rfl rfl rfl hl.1 rfl (Nat.le_of_ble_eq_true rfl) dX0_needPossible_7 ⟨Nat.zero_le _, Nat.zero_le _⟩ ?_
  refine rd_V (rest := []) ⟨hx, hb, hml, hown, hts⟩ (c_X0_chance l D κ a v hv (h_) (hh_ v) (tt_ v) (by omega) (by omega)) g_X0_120 n_X0_chance ⟨Nat.le_of_ble_eq_true rfl, Nat.le_of_ble_eq_true rfl⟩ hK hP rfl rfl rfl hl.1 rfl (Nat.le_of_ble_eq_true rfl) dX0_needPossible_10 ⟨Nat.zero_le _, Nat.zero_le _⟩ ?_
  refine lv_lconst (v := lN (0)) hx hb dX0_needPossible_13 (by decide) ?_
  refine nv_lc_ne (tgt := 28) hx hb dX0_needPossible_14 dX0_needPossible_15 (by decide) (by omega) (by omega) (fun c_15 => ?_) (fun z => absurd z (by omega))
  exact hend _ _ dX0_needPossible_28
set_option maxHeartbeats 4000000 in
set_option maxRecDepth 100000 in
theorem c_X0_isHeads (l : Launch) (D : va_G) (κ : Nat → ClassId) (a : Nat → Nat) (v : VS) (hv : ok_v v) (t_ : Nat) (ht : t_ < vs_t v) : Rd l yX0_isHeads cX0_isHeads 2 (some .boolean) 1 21 (Pw D (kt_ κ) (xw κ a v) [.ref (a 0), .int (nI (t_))]) (.int (bI (vs_th v t_))) := by
  refine rd_intro (own := RX0) (by decide +kernel) rfl (Nat.le_of_ble_eq_true rfl) (fun p e s m args below meth c pc ls hx hb hr hlk d => ret_Z hx hb hr hlk d) ?_
  intro p e s m args below meth c ls Qq hx hb hml hown hts hK hP hend hl
  have hl : lv_has ls 2 [(0, .ref (a 0)), (1, .int (nI (t_)))] := hl
  obtain ⟨hv1, hv2, hv3, hv4, hv5, hv6⟩ := id hv
  refine lv_aload_n hx hb dX0_isHeads_0 rfl (lv_at hl 0 rfl) ?_
  refine lv_iload_n hx hb dX0_isHeads_1 rfl (lv_at hl 1 rfl) ?_
  refine rd_VN (rest := []) ⟨hx, hb, hml, hown, hts⟩ (c_X0_needToss l D κ a v hv (t_) (by omega)) g_X0_82 n_X0_needToss ⟨Nat.le_of_ble_eq_true rfl, Nat.le_of_ble_eq_true rfl⟩ hK hP rfl rfl rfl hl.1 rfl (Nat.le_of_ble_eq_true rfl) dX0_isHeads_2 ⟨Nat.zero_le _, Nat.zero_le _⟩ ?_
  refine lv_aload_n hx hb dX0_isHeads_5 rfl (lv_at hl 0 rfl) ?_
  refine va_get (D := D) (ci := 0) (v := .ref (a 4)) (C := RX0) (T := TX0) (N := 7) hx hb hts i_X0 hown hK hP 0 rfl rfl 3 (by decide) (hts _ q_f_X0_21) (fun _ h9 => h9) rfl dX0_isHeads_6 ?_
  refine lv_iload_n hx hb dX0_isHeads_9 rfl (lv_at hl 1 rfl) ?_
  refine nv_zald hx hb hK hP 4 2 (n := 12) (v := bI (vs_th v t_)) rfl rfl (by omega) (by decide) rfl dX0_isHeads_10 ?_
  exact hend _ _ dX0_isHeads_11
set_option maxHeartbeats 4000000 in
set_option maxRecDepth 100000 in
theorem c_X0_tenthsOf (l : Launch) (D : va_G) (κ : Nat → ClassId) (a : Nat → Nat) (v : VS) (hv : ok_v v) (c_ : Nat) (hc : c_ < vs_c v) : Rd l yX0_tenthsOf cX0_tenthsOf 2 (some .int) 1 21 (Pw D (kt_ κ) (xw κ a v) [.ref (a 0), .int (nI (c_))]) (.int (nI (vs_ct v c_))) := by
  refine rd_intro (own := RX0) (by decide +kernel) rfl (Nat.le_of_ble_eq_true rfl) (fun p e s m args below meth c pc ls hx hb hr hlk d => ret_I hx hb hr hlk d) ?_
  intro p e s m args below meth c ls Qq hx hb hml hown hts hK hP hend hl
  have hl : lv_has ls 2 [(0, .ref (a 0)), (1, .int (nI (c_)))] := hl
  obtain ⟨hv1, hv2, hv3, hv4, hv5, hv6⟩ := id hv
  refine lv_aload_n hx hb dX0_tenthsOf_0 rfl (lv_at hl 0 rfl) ?_
  refine lv_iload_n hx hb dX0_tenthsOf_1 rfl (lv_at hl 1 rfl) ?_
  refine rd_VN (rest := []) ⟨hx, hb, hml, hown, hts⟩ (c_X0_needCoin l D κ a v hv (c_) (by omega)) g_X0_58 n_X0_needCoin ⟨Nat.le_of_ble_eq_true rfl, Nat.le_of_ble_eq_true rfl⟩ hK hP rfl rfl rfl hl.1 rfl (Nat.le_of_ble_eq_true rfl) dX0_tenthsOf_2 ⟨Nat.zero_le _, Nat.zero_le _⟩ ?_
  refine lv_aload_n hx hb dX0_tenthsOf_5 rfl (lv_at hl 0 rfl) ?_
  refine va_get (D := D) (ci := 0) (v := .ref (a 1)) (C := RX0) (T := TX0) (N := 7) hx hb hts i_X0 hown hK hP 0 rfl rfl 0 (by decide) (hts _ q_f_X0_9) (fun _ h9 => h9) rfl dX0_tenthsOf_6 ?_
  refine lv_iload_n hx hb dX0_tenthsOf_9 rfl (lv_at hl 1 rfl) ?_
  refine nv_iald hx hb hK hP 1 0 (n := 8) (v := nI (vs_ct v c_)) rfl rfl (by omega) (by decide) rfl dX0_tenthsOf_10 ?_
  exact hend _ _ dX0_tenthsOf_11
set_option maxHeartbeats 4000000 in
set_option maxRecDepth 100000 in
theorem c_X0_oddsOf (l : Launch) (D : va_G) (κ : Nat → ClassId) (a : Nat → Nat) (v : VS) (hv : ok_v v) (s_ : Nat) (hs : s_ < vs_n v) : Rd l yX0_oddsOf cX0_oddsOf 2 (some .int) 1 21 (Pw D (kt_ κ) (xw κ a v) [.ref (a 0), .int (nI (s_))]) (.int (nI (vs_so v s_))) := by
  refine rd_intro (own := RX0) (by decide +kernel) rfl (Nat.le_of_ble_eq_true rfl) (fun p e s m args below meth c pc ls hx hb hr hlk d => ret_I hx hb hr hlk d) ?_
  intro p e s m args below meth c ls Qq hx hb hml hown hts hK hP hend hl
  have hl : lv_has ls 2 [(0, .ref (a 0)), (1, .int (nI (s_)))] := hl
  obtain ⟨hv1, hv2, hv3, hv4, hv5, hv6⟩ := id hv
  refine lv_aload_n hx hb dX0_oddsOf_0 rfl (lv_at hl 0 rfl) ?_
  refine lv_iload_n hx hb dX0_oddsOf_1 rfl (lv_at hl 1 rfl) ?_
  refine rd_VN (rest := []) ⟨hx, hb, hml, hown, hts⟩ (c_X0_needSchool l D κ a v hv (s_) (by omega)) g_X0_54 n_X0_needSchool ⟨Nat.le_of_ble_eq_true rfl, Nat.le_of_ble_eq_true rfl⟩ hK hP rfl rfl rfl hl.1 rfl (Nat.le_of_ble_eq_true rfl) dX0_oddsOf_2 ⟨Nat.zero_le _, Nat.zero_le _⟩ ?_
  refine lv_aload_n hx hb dX0_oddsOf_5 rfl (lv_at hl 0 rfl) ?_
  refine va_get (D := D) (ci := 0) (v := .ref (a 2)) (C := RX0) (T := TX0) (N := 7) hx hb hts i_X0 hown hK hP 0 rfl rfl 1 (by decide) (hts _ q_f_X0_13) (fun _ h9 => h9) rfl dX0_oddsOf_6 ?_
  refine lv_iload_n hx hb dX0_oddsOf_9 rfl (lv_at hl 1 rfl) ?_
  refine nv_iald hx hb hK hP 2 0 (n := 4) (v := nI (vs_so v s_)) rfl rfl (by omega) (by decide) rfl dX0_oddsOf_10 ?_
  exact hend _ _ dX0_oddsOf_11
set_option maxHeartbeats 4000000 in
set_option maxRecDepth 100000 in
theorem c_X0_shareOf (l : Launch) (D : va_G) (κ : Nat → ClassId) (a : Nat → Nat) (v : VS) (hv : ok_v v) (s_ : Nat) (c_ : Nat) (hs : s_ < vs_n v) (hc : c_ < vs_c v) : Rd l yX0_shareOf cX0_shareOf 3 (some .int) 1 21 (Pw D (kt_ κ) (xw κ a v) [.ref (a 0), .int (nI (s_)), .int (nI (c_))]) (.int (nI (vs_sh v s_ c_))) := by
  refine rd_intro (own := RX0) (by decide +kernel) rfl (Nat.le_of_ble_eq_true rfl) (fun p e s m args below meth c pc ls hx hb hr hlk d => ret_I hx hb hr hlk d) ?_
  intro p e s m args below meth c ls Qq hx hb hml hown hts hK hP hend hl
  have hl : lv_has ls 3 [(0, .ref (a 0)), (1, .int (nI (s_))), (2, .int (nI (c_)))] := hl
  obtain ⟨hv1, hv2, hv3, hv4, hv5, hv6⟩ := id hv
  refine lv_aload_n hx hb dX0_shareOf_0 rfl (lv_at hl 0 rfl) ?_
  refine lv_iload_n hx hb dX0_shareOf_1 rfl (lv_at hl 1 rfl) ?_
  refine rd_VN (rest := []) ⟨hx, hb, hml, hown, hts⟩ (c_X0_needSchool l D κ a v hv (s_) (by omega)) g_X0_54 n_X0_needSchool ⟨Nat.le_of_ble_eq_true rfl, Nat.le_of_ble_eq_true rfl⟩ hK hP rfl rfl rfl hl.1 rfl (Nat.le_of_ble_eq_true rfl) dX0_shareOf_2 ⟨Nat.zero_le _, Nat.zero_le _⟩ ?_
  refine lv_aload_n hx hb dX0_shareOf_5 rfl (lv_at hl 0 rfl) ?_
  refine lv_iload_n hx hb dX0_shareOf_6 rfl (lv_at hl 2 rfl) ?_
  refine rd_VN (rest := []) ⟨hx, hb, hml, hown, hts⟩ (c_X0_needCoin l D κ a v hv (c_) (by omega)) g_X0_58 n_X0_needCoin ⟨Nat.le_of_ble_eq_true rfl, Nat.le_of_ble_eq_true rfl⟩ hK hP rfl rfl rfl hl.1 rfl (Nat.le_of_ble_eq_true rfl) dX0_shareOf_7 ⟨Nat.zero_le _, Nat.zero_le _⟩ ?_
  refine lv_aload_n hx hb dX0_shareOf_10 rfl (lv_at hl 0 rfl) ?_
  refine va_get (D := D) (ci := 0) (v := .ref (a 3)) (C := RX0) (T := TX0) (N := 7) hx hb hts i_X0 hown hK hP 0 rfl rfl 2 (by decide) (hts _ q_f_X0_18) (fun _ h9 => h9) rfl dX0_shareOf_11 ?_
  refine lv_iload_n hx hb dX0_shareOf_14 rfl (lv_at hl 1 rfl) ?_
  refine nv_aald hx hb hK hP 3 1 (r := a (5 + s_)) rfl rfl (by omega) (by decide) (xw_ref (by omega)) dX0_shareOf_15 ?_
  refine lv_iload_n hx hb dX0_shareOf_16 rfl (lv_at hl 2 rfl) ?_
  refine nv_iald hx hb hK hP (5 + s_) 0 (n := 8) (v := nI (vs_sh v s_ c_)) (xw_row (by omega)) rfl (by omega) (by decide) rfl dX0_shareOf_17 ?_
  exact hend _ _ dX0_shareOf_18
set_option maxHeartbeats 4000000 in
set_option maxRecDepth 100000 in
theorem c_X0_weightOf (l : Launch) (D : va_G) (κ : Nat → ClassId) (a : Nat → Nat) (v : VS) (hv : ok_v v) (s_ : Nat) (c_ : Nat) (hs : s_ < vs_n v) (hc : c_ < vs_c v) : Rd l yX0_weightOf cX0_weightOf 3 (some .long) 2 43 (Pw D (kt_ κ) (xw κ a v) [.ref (a 0), .int (nI (s_)), .int (nI (c_))]) (.long (lN (pr_ v s_ c_ (hh_ v) (tt_ v)))) := by
  refine rd_intro (own := RX0) (by decide +kernel) rfl (Nat.le_of_ble_eq_true rfl) (fun p e s m args below meth c pc ls hx hb hr hlk d => ret_L hx hb hr hlk d) ?_
  intro p e s m args below meth c ls Qq hx hb hml hown hts hK hP hend hl
  have hl : lv_has ls 3 [(0, .ref (a 0)), (1, .int (nI (s_))), (2, .int (nI (c_)))] := hl
  obtain ⟨hv1, hv2, hv3, hv4, hv5, hv6⟩ := id hv
  have hq1 := hh_le v
  have hq2 := hh_tt v
  refine lv_aload_n hx hb dX0_weightOf_0 rfl (lv_at hl 0 rfl) ?_
  refine lv_iload_n hx hb dX0_weightOf_1 rfl (lv_at hl 1 rfl) ?_
  refine rd_VN (rest := []) ⟨hx, hb, hml, hown, hts⟩ (c_X0_needSchool l D κ a v hv (s_) (by omega)) g_X0_54 n_X0_needSchool ⟨Nat.le_of_ble_eq_true rfl, Nat.le_of_ble_eq_true rfl⟩ hK hP rfl rfl rfl hl.1 rfl (Nat.le_of_ble_eq_true rfl) dX0_weightOf_2 ⟨Nat.zero_le _, Nat.zero_le _⟩ ?_
  refine lv_aload_n hx hb dX0_weightOf_5 rfl (lv_at hl 0 rfl) ?_
  refine lv_iload_n hx hb dX0_weightOf_6 rfl (lv_at hl 2 rfl) ?_
  refine rd_VN (rest := []) ⟨hx, hb, hml, hown, hts⟩ (c_X0_needCoin l D κ a v hv (c_) (by omega)) g_X0_58 n_X0_needCoin ⟨Nat.le_of_ble_eq_true rfl, Nat.le_of_ble_eq_true rfl⟩ hK hP rfl rfl rfl hl.1 rfl (Nat.le_of_ble_eq_true rfl) dX0_weightOf_7 ⟨Nat.zero_le _, Nat.zero_le _⟩ ?_
  refine lv_aload_n hx hb dX0_weightOf_10 rfl (lv_at hl 0 rfl) ?_
  refine lv_iload_n hx hb dX0_weightOf_11 rfl (lv_at hl 1 rfl) ?_
  refine lv_iload_n hx hb dX0_weightOf_12 rfl (lv_at hl 2 rfl) ?_
  refine rd_V (rest := []) ⟨hx, hb, hml, hown, hts⟩ (c_X0_startWeight l D κ a v hv (s_) (c_) (by omega) (by omega)) g_X0_85 n_X0_startWeight ⟨Nat.le_of_ble_eq_true rfl, Nat.le_of_ble_eq_true rfl⟩ hK hP rfl rfl rfl hl.1 rfl (Nat.le_of_ble_eq_true rfl) dX0_weightOf_13 ⟨Nat.zero_le _, Nat.zero_le _⟩ ?_
  refine lv_aload_n hx hb dX0_weightOf_16 rfl (lv_at hl 0 rfl) ?_
  refine lv_iload_n hx hb dX0_weightOf_17 rfl (lv_at hl 2 rfl) ?_
  refine lv_aload_n hx hb dX0_weightOf_18 rfl (lv_at hl 0 rfl) ?_
  refine rd_V (rest := [.int (nI (c_)), .ref (a 0), .long (lN (sw_ v s_ c_))]) ⟨hx, hb, hml, hown, hts⟩ (c_X0_headsNow l D κ a v hv) g_X0_69 n_X0_headsNow ⟨Nat.le_of_ble_eq_true rfl, Nat.le_of_ble_eq_true rfl⟩ hK hP rfl rfl rfl hl.1 rfl (Nat.le_of_ble_eq_true rfl) dX0_weightOf_19 ⟨Nat.zero_le _, Nat.zero_le _⟩ ?_
  refine lv_aload_n hx hb dX0_weightOf_22 rfl (lv_at hl 0 rfl) ?_
  refine rd_V (rest := [.int (nI (hh_ v)), .int (nI (c_)), .ref (a 0), .long (lN (sw_ v s_ c_))]) ⟨hx, hb, hml, hown, hts⟩ (c_X0_tailsNow l D κ a v hv) g_X0_73 n_X0_tailsNow ⟨Nat.le_of_ble_eq_true rfl, Nat.le_of_ble_eq_true rfl⟩ hK hP rfl rfl rfl hl.1 rfl (Nat.le_of_ble_eq_true rfl) dX0_weightOf_23 ⟨Nat.zero_le _, Nat.zero_le _⟩ ?_
  refine rd_V (rest := [.long (lN (sw_ v s_ c_))]) ⟨hx, hb, hml, hown, hts⟩ (c_X0_likelihood l D κ a v hv (c_) (hh_ v) (tt_ v) (by omega) (by omega) (by omega)) g_X0_89 n_X0_likelihood ⟨Nat.le_of_ble_eq_true rfl, Nat.le_of_ble_eq_true rfl⟩ hK hP rfl rfl rfl hl.1 rfl (Nat.le_of_ble_eq_true rfl) dX0_weightOf_26 ⟨Nat.zero_le _, Nat.zero_le _⟩ ?_
  refine nv_lmul hx hb dX0_weightOf_29 rfl ?_
  refine nv_topl (congrArg lN (show ((sw_ v s_ c_) * (lk_ v c_ (hh_ v) (tt_ v)) : Nat) = pr_ v s_ c_ (hh_ v) (tt_ v) from by first | rfl | omega)) ?_
  exact hend _ _ dX0_weightOf_30
set_option maxHeartbeats 4000000 in
set_option maxRecDepth 100000 in
theorem c_X0_coinWeight (l : Launch) (D : va_G) (κ : Nat → ClassId) (a : Nat → Nat) (v : VS) (hv : ok_v v) (c_ : Nat) (hc : c_ < vs_c v) : Rd l yX0_coinWeight cX0_coinWeight 2 (some .long) 2 53 (Pw D (kt_ κ) (xw κ a v) [.ref (a 0), .int (nI (c_))]) (.long (lN (wt_ v c_ (hh_ v) (tt_ v)))) := by
  refine rd_intro (own := RX0) (by decide +kernel) rfl (Nat.le_of_ble_eq_true rfl) (fun p e s m args below meth c pc ls hx hb hr hlk d => ret_L hx hb hr hlk d) ?_
  intro p e s m args below meth c ls Qq hx hb hml hown hts hK hP hend hl
  have hl : lv_has ls 2 [(0, .ref (a 0)), (1, .int (nI (c_)))] := hl
  obtain ⟨hv1, hv2, hv3, hv4, hv5, hv6⟩ := id hv
  have hq1 := hh_le v
  have hq2 := hh_tt v
  refine lv_aload_n hx hb dX0_coinWeight_0 rfl (lv_at hl 0 rfl) ?_
  refine lv_iload_n hx hb dX0_coinWeight_1 rfl (lv_at hl 1 rfl) ?_
  refine rd_VN (rest := []) ⟨hx, hb, hml, hown, hts⟩ (c_X0_needCoin l D κ a v hv (c_) (by omega)) g_X0_58 n_X0_needCoin ⟨Nat.le_of_ble_eq_true rfl, Nat.le_of_ble_eq_true rfl⟩ hK hP rfl rfl rfl hl.1 rfl (Nat.le_of_ble_eq_true rfl) dX0_coinWeight_2 ⟨Nat.zero_le _, Nat.zero_le _⟩ ?_
  refine lv_aload_n hx hb dX0_coinWeight_5 rfl (lv_at hl 0 rfl) ?_
  refine lv_iload_n hx hb dX0_coinWeight_6 rfl (lv_at hl 1 rfl) ?_
  refine lv_aload_n hx hb dX0_coinWeight_7 rfl (lv_at hl 0 rfl) ?_
  refine rd_V (rest := [.int (nI (c_)), .ref (a 0)]) ⟨hx, hb, hml, hown, hts⟩ (c_X0_headsNow l D κ a v hv) g_X0_69 n_X0_headsNow ⟨Nat.le_of_ble_eq_true rfl, Nat.le_of_ble_eq_true rfl⟩ hK hP rfl rfl rfl hl.1 rfl (Nat.le_of_ble_eq_true rfl) dX0_coinWeight_8 ⟨Nat.zero_le _, Nat.zero_le _⟩ ?_
  refine lv_aload_n hx hb dX0_coinWeight_11 rfl (lv_at hl 0 rfl) ?_
  refine rd_V (rest := [.int (nI (hh_ v)), .int (nI (c_)), .ref (a 0)]) ⟨hx, hb, hml, hown, hts⟩ (c_X0_tailsNow l D κ a v hv) g_X0_73 n_X0_tailsNow ⟨Nat.le_of_ble_eq_true rfl, Nat.le_of_ble_eq_true rfl⟩ hK hP rfl rfl rfl hl.1 rfl (Nat.le_of_ble_eq_true rfl) dX0_coinWeight_12 ⟨Nat.zero_le _, Nat.zero_le _⟩ ?_
  refine rd_V (rest := []) ⟨hx, hb, hml, hown, hts⟩ (c_X0_coinWeightAt l D κ a v hv (c_) (hh_ v) (tt_ v) (by omega) (by omega) (by omega)) g_X0_93 n_X0_coinWeightAt ⟨Nat.le_of_ble_eq_true rfl, Nat.le_of_ble_eq_true rfl⟩ hK hP rfl rfl rfl hl.1 rfl (Nat.le_of_ble_eq_true rfl) dX0_coinWeight_15 ⟨Nat.zero_le _, Nat.zero_le _⟩ ?_
  exact hend _ _ dX0_coinWeight_18
set_option maxHeartbeats 4000000 in
set_option maxRecDepth 100000 in
theorem c_X0_schoolWeight (l : Launch) (D : va_G) (κ : Nat → ClassId) (a : Nat → Nat) (v : VS) (hv : ok_v v) (s_ : Nat) (hs : s_ < vs_n v) : Rd l yX0_schoolWeight cX0_schoolWeight 2 (some .long) 3 69 (Pw D (kt_ κ) (xw κ a v) [.ref (a 0), .int (nI (s_))]) (.long (lN (sc_ v s_ (hh_ v) (tt_ v)))) := by
  refine rd_intro (own := RX0) (by decide +kernel) rfl (Nat.le_of_ble_eq_true rfl) (fun p e s m args below meth c pc ls hx hb hr hlk d => ret_L hx hb hr hlk d) ?_
  intro p e s m args below meth c ls Qq hx hb hml hown hts hK hP hend hl
  have hl : lv_has ls 2 [(0, .ref (a 0)), (1, .int (nI (s_)))] := hl
  obtain ⟨hv1, hv2, hv3, hv4, hv5, hv6⟩ := id hv
  refine lv_aload_n hx hb dX0_schoolWeight_0 rfl (lv_at hl 0 rfl) ?_
  refine lv_iload_n hx hb dX0_schoolWeight_1 rfl (lv_at hl 1 rfl) ?_
  refine rd_VN (rest := []) ⟨hx, hb, hml, hown, hts⟩ (c_X0_needSchool l D κ a v hv (s_) (by omega)) g_X0_54 n_X0_needSchool ⟨Nat.le_of_ble_eq_true rfl, Nat.le_of_ble_eq_true rfl⟩ hK hP rfl rfl rfl hl.1 rfl (Nat.le_of_ble_eq_true rfl) dX0_schoolWeight_2 ⟨Nat.zero_le _, Nat.zero_le _⟩ ?_
  refine lv_aload_n hx hb dX0_schoolWeight_5 rfl (lv_at hl 0 rfl) ?_
  refine lv_iload_n hx hb dX0_schoolWeight_6 rfl (lv_at hl 1 rfl) ?_
  refine rd_V (rest := []) ⟨hx, hb, hml, hown, hts⟩ (c_X0_schoolWeightNow l D κ a v hv (s_) (by omega)) g_X0_96 n_X0_schoolWeightNow ⟨Nat.le_of_ble_eq_true rfl, Nat.le_of_ble_eq_true rfl⟩ hK hP rfl rfl rfl hl.1 rfl (Nat.le_of_ble_eq_true rfl) dX0_schoolWeight_7 ⟨Nat.zero_le _, Nat.zero_le _⟩ ?_
  exact hend _ _ dX0_schoolWeight_10
set_option maxHeartbeats 4000000 in
set_option maxRecDepth 100000 in
theorem c_X0_isRuledOut (l : Launch) (D : va_G) (κ : Nat → ClassId) (a : Nat → Nat) (v : VS) (hv : ok_v v) (c_ : Nat) (hc : c_ < vs_c v) : Rd l yX0_isRuledOut cX0_isRuledOut 2 (some .boolean) 2 53 (Pw D (kt_ κ) (xw κ a v) [.ref (a 0), .int (nI (c_))]) (.int (bI (decide (wt_ v c_ (hh_ v) (tt_ v) = 0)))) := by
  refine rd_intro (own := RX0) (by decide +kernel) rfl (Nat.le_of_ble_eq_true rfl) (fun p e s m args below meth c pc ls hx hb hr hlk d => ret_Z hx hb hr hlk d) ?_
  intro p e s m args below meth c ls Qq hx hb hml hown hts hK hP hend hl
  have hl : lv_has ls 2 [(0, .ref (a 0)), (1, .int (nI (c_)))] := hl
  obtain ⟨hv1, hv2, hv3, hv4, hv5, hv6⟩ := id hv
  have hq1 := hh_le v
  have hq2 := hh_tt v
  have hb1 := wt_b hv c_ (a := hh_ v) (b := tt_ v) (by omega)
  refine lv_aload_n hx hb dX0_isRuledOut_0 rfl (lv_at hl 0 rfl) ?_
  refine lv_iload_n hx hb dX0_isRuledOut_1 rfl (lv_at hl 1 rfl) ?_
  refine rd_VN (rest := []) ⟨hx, hb, hml, hown, hts⟩ (c_X0_needCoin l D κ a v hv (c_) (by omega)) g_X0_58 n_X0_needCoin ⟨Nat.le_of_ble_eq_true rfl, Nat.le_of_ble_eq_true rfl⟩ hK hP rfl rfl rfl hl.1 rfl (Nat.le_of_ble_eq_true rfl) dX0_isRuledOut_2 ⟨Nat.zero_le _, Nat.zero_le _⟩ ?_
  refine lv_aload_n hx hb dX0_isRuledOut_5 rfl (lv_at hl 0 rfl) ?_
  refine lv_iload_n hx hb dX0_isRuledOut_6 rfl (lv_at hl 1 rfl) ?_
  refine lv_aload_n hx hb dX0_isRuledOut_7 rfl (lv_at hl 0 rfl) ?_
  refine rd_V (rest := [.int (nI (c_)), .ref (a 0)]) ⟨hx, hb, hml, hown, hts⟩ (c_X0_headsNow l D κ a v hv) g_X0_69 n_X0_headsNow ⟨Nat.le_of_ble_eq_true rfl, Nat.le_of_ble_eq_true rfl⟩ hK hP rfl rfl rfl hl.1 rfl (Nat.le_of_ble_eq_true rfl) dX0_isRuledOut_8 ⟨Nat.zero_le _, Nat.zero_le _⟩ ?_
  refine lv_aload_n hx hb dX0_isRuledOut_11 rfl (lv_at hl 0 rfl) ?_
  refine rd_V (rest := [.int (nI (hh_ v)), .int (nI (c_)), .ref (a 0)]) ⟨hx, hb, hml, hown, hts⟩ (c_X0_tailsNow l D κ a v hv) g_X0_73 n_X0_tailsNow ⟨Nat.le_of_ble_eq_true rfl, Nat.le_of_ble_eq_true rfl⟩ hK hP rfl rfl rfl hl.1 rfl (Nat.le_of_ble_eq_true rfl) dX0_isRuledOut_12 ⟨Nat.zero_le _, Nat.zero_le _⟩ ?_
  refine rd_V (rest := []) ⟨hx, hb, hml, hown, hts⟩ (c_X0_coinWeightAt l D κ a v hv (c_) (hh_ v) (tt_ v) (by omega) (by omega) (by omega)) g_X0_93 n_X0_coinWeightAt ⟨Nat.le_of_ble_eq_true rfl, Nat.le_of_ble_eq_true rfl⟩ hK hP rfl rfl rfl hl.1 rfl (Nat.le_of_ble_eq_true rfl) dX0_isRuledOut_15 ⟨Nat.zero_le _, Nat.zero_le _⟩ ?_
  refine lv_lconst (v := lN (0)) hx hb dX0_isRuledOut_18 (by decide) ?_
  refine nv_lc_ne (tgt := 27) hx hb dX0_isRuledOut_19 dX0_isRuledOut_20 (by decide) (by omega) (by omega) (fun c_20 => ?_) (fun c_20 => ?_)
  · refine lv_iconst (v := nI (0)) hx hb dX0_isRuledOut_27 (by decide) ?_
    refine nv_topi (show (nI (0) : Int32) = bI (decide (wt_ v c_ (hh_ v) (tt_ v) = 0)) from by first | (rw [decide_eq_true c_20]; rfl) | (rw [decide_eq_false c_20]; rfl)) ?_
    exact hend _ _ dX0_isRuledOut_28
  · refine lv_iconst (v := nI (1)) hx hb dX0_isRuledOut_23 (by decide) ?_
    refine lv_goto (tgt := 28) hx hb dX0_isRuledOut_24 (by decide) ?_
    refine nv_topi (show (nI (1) : Int32) = bI (decide (wt_ v c_ (hh_ v) (tt_ v) = 0)) from by first | (rw [decide_eq_true c_20]; rfl) | (rw [decide_eq_false c_20]; rfl)) ?_
    exact hend _ _ dX0_isRuledOut_28
set_option maxHeartbeats 4000000 in
set_option maxRecDepth 100000 in
theorem c_X0_ruledOut (l : Launch) (D : va_G) (κ : Nat → ClassId) (a : Nat → Nat) (v : VS) (hv : ok_v v) : Rd l yX0_ruledOut cX0_ruledOut 5 (some .int) 2 53 (Pw D (kt_ κ) (xw κ a v) [.ref (a 0)]) (.int (nI (go_ v))) := by
  refine rd_intro (own := RX0) (by decide +kernel) rfl (Nat.le_of_ble_eq_true rfl) (fun p e s m args below meth c pc ls hx hb hr hlk d => ret_I hx hb hr hlk d) ?_
  intro p e s m args below meth c ls Qq hx hb hml hown hts hK hP hend hl
  have hl : lv_has ls 5 [(0, .ref (a 0))] := hl
  obtain ⟨hv1, hv2, hv3, hv4, hv5, hv6⟩ := id hv
  have hq1 := hh_le v
  have hq2 := hh_tt v
  refine lv_aload_n hx hb dX0_ruledOut_0 rfl (lv_at hl 0 rfl) ?_
  refine rd_V (rest := []) ⟨hx, hb, hml, hown, hts⟩ (c_X0_headsNow l D κ a v hv) g_X0_69 n_X0_headsNow ⟨Nat.le_of_ble_eq_true rfl, Nat.le_of_ble_eq_true rfl⟩ hK hP rfl rfl rfl hl.1 rfl (Nat.le_of_ble_eq_true rfl) dX0_ruledOut_1 ⟨Nat.zero_le _, Nat.zero_le _⟩ ?_
  refine lv_istore_n (lv' := [(1, .int (nI (hh_ v))), (0, .ref (a 0))]) hx hb dX0_ruledOut_4 rfl hl (by decide) rfl (fun ls hl => ?_)
  refine lv_aload_n hx hb dX0_ruledOut_5 rfl (lv_at hl 1 rfl) ?_
  refine rd_V (rest := []) ⟨hx, hb, hml, hown, hts⟩ (c_X0_tailsNow l D κ a v hv) g_X0_73 n_X0_tailsNow ⟨Nat.le_of_ble_eq_true rfl, Nat.le_of_ble_eq_true rfl⟩ hK hP rfl rfl rfl hl.1 rfl (Nat.le_of_ble_eq_true rfl) dX0_ruledOut_6 ⟨Nat.zero_le _, Nat.zero_le _⟩ ?_
  refine lv_istore_n (lv' := [(2, .int (nI (tt_ v))), (1, .int (nI (hh_ v))), (0, .ref (a 0))]) hx hb dX0_ruledOut_9 rfl hl (by decide) rfl (fun ls hl => ?_)
  refine lv_iconst (v := nI (0)) hx hb dX0_ruledOut_10 (by decide) ?_
  refine lv_istore_n (lv' := [(3, .int (nI (0))), (2, .int (nI (tt_ v))), (1, .int (nI (hh_ v))), (0, .ref (a 0))]) hx hb dX0_ruledOut_11 rfl hl (by decide) rfl (fun ls hl => ?_)
  refine lv_iconst (v := nI (0)) hx hb dX0_ruledOut_12 (by decide) ?_
  refine lv_istore (lv' := [(4, .int (nI (0))), (3, .int (nI (0))), (2, .int (nI (tt_ v))), (1, .int (nI (hh_ v))), (0, .ref (a 0))]) hx hb dX0_ruledOut_13 hl (by decide) rfl (fun ls hl => ?_)
  suffices hloop_15 : ∀ (n_15 i : Nat) (ls : Array Slot), i + n_15 = vs_c v → lv_has ls 5 [(0, .ref (a 0)), (1, .int (nI (hh_ v))), (2, .int (nI (tt_ v))), (3, .int (nI (sm_ (gof_ v) i))), (4, .int (nI (i)))] → W p l e (rm_ 2 53) s m args below meth c s.heap [] 0 0 Qq (F0 m 15 ls []) from hloop_15 (vs_c v - 0) (0) ls (by omega) (lv_cast (k := [(0, .ref (a 0)), (1, .int (nI (hh_ v))), (2, .int (nI (tt_ v))), (3, .int (nI (0))), (4, .int (nI (0)))]) (lv_sub hl [4, 3, 2, 1, 0] rfl) (lc_cons rfl (lc_cons rfl (lc_cons rfl (lc_cons (congrArg (fun z : Nat => ((3 : Nat), Value.int (nI z))) (show (0 : Nat) = sm_ (gof_ v) 0 from by first | rfl | omega)) (lc_cons rfl rfl))))))
  intro n_15
  induction n_15 with
  | zero =>
    intro i ls hin_15 hl
    have hi_15 : i = vs_c v := by omega
    have hb1 := wt_b hv i (a := hh_ v) (b := tt_ v) (by omega)
    refine lv_iload hx hb dX0_ruledOut_15 (lv_at hl 4 rfl) ?_
    refine lv_aload_n hx hb dX0_ruledOut_17 rfl (lv_at hl 0 rfl) ?_
    refine va_get (D := D) (ci := 0) (v := .int (nI (vs_c v))) (C := RX0) (T := TX0) (N := 7) hx hb hts i_X0 hown hK hP 0 rfl rfl 4 (by decide) (hts _ q_f_X0_25) (fun _ h9 => h9) rfl dX0_ruledOut_18 ?_
    refine nv_icmp_ge (tgt := 46) hx hb dX0_ruledOut_21 (by decide) (by omega) (by omega) (fun c_21 => ?_) (fun z => absurd z (by omega))
    refine lv_iload_n hx hb dX0_ruledOut_46 rfl (lv_at hl 3 rfl) ?_
    refine nv_topi (congrArg nI (show (sm_ (gof_ v) i : Nat) = go_ v from by rw [hi_15]; rfl)) ?_
    exact hend _ _ dX0_ruledOut_47
  | succ n_15 ih_15 =>
    intro i ls hin_15 hl
    have hb1 := wt_b hv i (a := hh_ v) (b := tt_ v) (by omega)
    refine lv_iload hx hb dX0_ruledOut_15 (lv_at hl 4 rfl) ?_
    refine lv_aload_n hx hb dX0_ruledOut_17 rfl (lv_at hl 0 rfl) ?_
    refine va_get (D := D) (ci := 0) (v := .int (nI (vs_c v))) (C := RX0) (T := TX0) (N := 7) hx hb hts i_X0 hown hK hP 0 rfl rfl 4 (by decide) (hts _ q_f_X0_25) (fun _ h9 => h9) rfl dX0_ruledOut_18 ?_
    refine nv_icmp_ge (tgt := 46) hx hb dX0_ruledOut_21 (by decide) (by omega) (by omega) (fun z => absurd z (by omega)) (fun c_21 => ?_)
    refine lv_aload_n hx hb dX0_ruledOut_24 rfl (lv_at hl 0 rfl) ?_
    refine lv_iload hx hb dX0_ruledOut_25 (lv_at hl 4 rfl) ?_
    refine lv_iload_n hx hb dX0_ruledOut_27 rfl (lv_at hl 1 rfl) ?_
    refine lv_iload_n hx hb dX0_ruledOut_28 rfl (lv_at hl 2 rfl) ?_
    refine rd_V (rest := []) ⟨hx, hb, hml, hown, hts⟩ (c_X0_coinWeightAt l D κ a v hv (i) (hh_ v) (tt_ v) (by omega) (by omega) (by omega)) g_X0_93 n_X0_coinWeightAt ⟨Nat.le_of_ble_eq_true rfl, Nat.le_of_ble_eq_true rfl⟩ hK hP rfl rfl rfl hl.1 rfl (Nat.le_of_ble_eq_true rfl) dX0_ruledOut_29 ⟨Nat.zero_le _, Nat.zero_le _⟩ ?_
    refine lv_lconst (v := lN (0)) hx hb dX0_ruledOut_32 (by decide) ?_
    refine nv_lc_ne (tgt := 40) hx hb dX0_ruledOut_33 dX0_ruledOut_34 (by decide) (by omega) (by omega) (fun c_34 => ?_) (fun c_34 => ?_)
    · refine lv_iinc (v := nI (i + 1)) (lv' := [(4, .int (nI (i + 1))), (0, .ref (a 0)), (1, .int (nI (hh_ v))), (2, .int (nI (tt_ v))), (3, .int (nI (sm_ (gof_ v) i)))]) hx hb dX0_ruledOut_40 hl (k := 4) rfl (nI_add _ _) (by decide) rfl (fun ls hl => ?_)
      refine lv_goto (tgt := 15) hx hb dX0_ruledOut_43 (by decide) ?_
      exact ih_15 (i + 1) ls (by omega) (lv_cast (k := [(0, .ref (a 0)), (1, .int (nI (hh_ v))), (2, .int (nI (tt_ v))), (3, .int (nI (sm_ (gof_ v) i))), (4, .int (nI (i + 1)))]) (lv_sub hl [1, 2, 3, 4, 0] rfl) (lc_cons rfl (lc_cons rfl (lc_cons rfl (lc_cons (congrArg (fun z : Nat => ((3 : Nat), Value.int (nI z))) (show (sm_ (gof_ v) i : Nat) = sm_ (gof_ v) (i + 1) from by simp [sm_, gof_, c_21, c_34])) (lc_cons (congrArg (fun z : Nat => ((4 : Nat), Value.int (nI z))) (show (i + 1 : Nat) = (i + 1) from by first | rfl | omega)) rfl))))))
    · refine lv_iinc (v := nI ((sm_ (gof_ v) i) + 1)) (lv' := [(3, .int (nI ((sm_ (gof_ v) i) + 1))), (0, .ref (a 0)), (1, .int (nI (hh_ v))), (2, .int (nI (tt_ v))), (4, .int (nI (i)))]) hx hb dX0_ruledOut_37 hl (k := 3) rfl (nI_add _ _) (by decide) rfl (fun ls hl => ?_)
      refine lv_iinc (v := nI (i + 1)) (lv' := [(4, .int (nI (i + 1))), (3, .int (nI ((sm_ (gof_ v) i) + 1))), (0, .ref (a 0)), (1, .int (nI (hh_ v))), (2, .int (nI (tt_ v)))]) hx hb dX0_ruledOut_40 hl (k := 4) rfl (nI_add _ _) (by decide) rfl (fun ls hl => ?_)
      refine lv_goto (tgt := 15) hx hb dX0_ruledOut_43 (by decide) ?_
      exact ih_15 (i + 1) ls (by omega) (lv_cast (k := [(0, .ref (a 0)), (1, .int (nI (hh_ v))), (2, .int (nI (tt_ v))), (3, .int (nI ((sm_ (gof_ v) i) + 1))), (4, .int (nI (i + 1)))]) (lv_sub hl [2, 3, 4, 1, 0] rfl) (lc_cons rfl (lc_cons rfl (lc_cons rfl (lc_cons (congrArg (fun z : Nat => ((3 : Nat), Value.int (nI z))) (show ((sm_ (gof_ v) i) + 1 : Nat) = sm_ (gof_ v) (i + 1) from by simp [sm_, gof_, c_21, c_34])) (lc_cons (congrArg (fun z : Nat => ((4 : Nat), Value.int (nI z))) (show (i + 1 : Nat) = (i + 1) from by first | rfl | omega)) rfl))))))
set_option maxHeartbeats 4000000 in
set_option maxRecDepth 100000 in
theorem c_X0_coinPercent (l : Launch) (D : va_G) (κ : Nat → ClassId) (a : Nat → Nat) (v : VS) (hv : ok_v v) (c_ : Nat) (hc : c_ < vs_c v) (hw : 0 < wl_ v (hh_ v) (tt_ v)) : Rd l yX0_coinPercent cX0_coinPercent 2 (some .int) 4 98 (Pw D (kt_ κ) (xw κ a v) [.ref (a 0), .int (nI (c_))]) (.int (nI (wt_ v c_ (hh_ v) (tt_ v) * 100 / wl_ v (hh_ v) (tt_ v)))) := by
  refine rd_intro (own := RX0) (by decide +kernel) rfl (Nat.le_of_ble_eq_true rfl) (fun p e s m args below meth c pc ls hx hb hr hlk d => ret_I hx hb hr hlk d) ?_
  intro p e s m args below meth c ls Qq hx hb hml hown hts hK hP hend hl
  have hl : lv_has ls 2 [(0, .ref (a 0)), (1, .int (nI (c_)))] := hl
  obtain ⟨hv1, hv2, hv3, hv4, hv5, hv6⟩ := id hv
  have hq1 := hh_le v
  have hq2 := hh_tt v
  have hb1 := wt_b hv c_ (a := hh_ v) (b := tt_ v) (by omega)
  have hb2 := wl_b hv (a := hh_ v) (b := tt_ v) (by omega)
  refine lv_aload_n hx hb dX0_coinPercent_0 rfl (lv_at hl 0 rfl) ?_
  refine lv_iload_n hx hb dX0_coinPercent_1 rfl (lv_at hl 1 rfl) ?_
  refine rd_VN (rest := []) ⟨hx, hb, hml, hown, hts⟩ (c_X0_needCoin l D κ a v hv (c_) (by omega)) g_X0_58 n_X0_needCoin ⟨Nat.le_of_ble_eq_true rfl, Nat.le_of_ble_eq_true rfl⟩ hK hP rfl rfl rfl hl.1 rfl (Nat.le_of_ble_eq_true rfl) dX0_coinPercent_2 ⟨Nat.zero_le _, Nat.zero_le _⟩ ?_
  refine lv_aload_n hx hb dX0_coinPercent_5 rfl (lv_at hl 0 rfl) ?_
  refine lv_iload_n hx hb dX0_coinPercent_6 rfl (lv_at hl 1 rfl) ?_
  refine lv_aload_n hx hb dX0_coinPercent_7 rfl (lv_at hl 0 rfl) ?_
  refine rd_V (rest := [.int (nI (c_)), .ref (a 0)]) ⟨hx, hb, hml, hown, hts⟩ (c_X0_headsNow l D κ a v hv) g_X0_69 n_X0_headsNow ⟨Nat.le_of_ble_eq_true rfl, Nat.le_of_ble_eq_true rfl⟩ hK hP rfl rfl rfl hl.1 rfl (Nat.le_of_ble_eq_true rfl) dX0_coinPercent_8 ⟨Nat.zero_le _, Nat.zero_le _⟩ ?_
  refine lv_aload_n hx hb dX0_coinPercent_11 rfl (lv_at hl 0 rfl) ?_
  refine rd_V (rest := [.int (nI (hh_ v)), .int (nI (c_)), .ref (a 0)]) ⟨hx, hb, hml, hown, hts⟩ (c_X0_tailsNow l D κ a v hv) g_X0_73 n_X0_tailsNow ⟨Nat.le_of_ble_eq_true rfl, Nat.le_of_ble_eq_true rfl⟩ hK hP rfl rfl rfl hl.1 rfl (Nat.le_of_ble_eq_true rfl) dX0_coinPercent_12 ⟨Nat.zero_le _, Nat.zero_le _⟩ ?_
  refine rd_V (rest := []) ⟨hx, hb, hml, hown, hts⟩ (c_X0_coinWeightAt l D κ a v hv (c_) (hh_ v) (tt_ v) (by omega) (by omega) (by omega)) g_X0_93 n_X0_coinWeightAt ⟨Nat.le_of_ble_eq_true rfl, Nat.le_of_ble_eq_true rfl⟩ hK hP rfl rfl rfl hl.1 rfl (Nat.le_of_ble_eq_true rfl) dX0_coinPercent_15 ⟨Nat.zero_le _, Nat.zero_le _⟩ ?_
  refine lv_aload_n hx hb dX0_coinPercent_18 rfl (lv_at hl 0 rfl) ?_
  refine rd_V (rest := [.long (lN (wt_ v c_ (hh_ v) (tt_ v)))]) ⟨hx, hb, hml, hown, hts⟩ (c_X0_wholeNow l D κ a v hv) g_X0_100 n_X0_wholeNow ⟨Nat.le_of_ble_eq_true rfl, Nat.le_of_ble_eq_true rfl⟩ hK hP rfl rfl rfl hl.1 rfl (Nat.le_of_ble_eq_true rfl) dX0_coinPercent_19 ⟨Nat.zero_le _, Nat.zero_le _⟩ ?_
  refine rd_S (rest := []) ⟨hx, hb, hml, hown, hts⟩ (c_X0_percent l (wt_ v c_ (hh_ v) (tt_ v)) (wl_ v (hh_ v) (tt_ v)) (by omega) (by omega) (by omega)) g_X0_104 n_X0_percent ⟨Nat.le_of_ble_eq_true rfl, Nat.le_of_ble_eq_true rfl⟩ rfl hl.1 rfl (Nat.le_of_ble_eq_true rfl) dX0_coinPercent_22 ⟨Nat.zero_le _, Nat.zero_le _⟩ ?_
  refine nv_topi (congrArg nI (show ((wt_ v c_ (hh_ v) (tt_ v)) * 100 / (wl_ v (hh_ v) (tt_ v)) : Nat) = wt_ v c_ (hh_ v) (tt_ v) * 100 / wl_ v (hh_ v) (tt_ v) from by first | rfl | omega)) ?_
  exact hend _ _ dX0_coinPercent_25
set_option maxHeartbeats 4000000 in
set_option maxRecDepth 100000 in
theorem c_X0_schoolPercent (l : Launch) (D : va_G) (κ : Nat → ClassId) (a : Nat → Nat) (v : VS) (hv : ok_v v) (s_ : Nat) (hs : s_ < vs_n v) (hw : 0 < wl_ v (hh_ v) (tt_ v)) : Rd l yX0_schoolPercent cX0_schoolPercent 2 (some .int) 4 98 (Pw D (kt_ κ) (xw κ a v) [.ref (a 0), .int (nI (s_))]) (.int (nI (sc_ v s_ (hh_ v) (tt_ v) * 100 / wl_ v (hh_ v) (tt_ v)))) := by
  refine rd_intro (own := RX0) (by decide +kernel) rfl (Nat.le_of_ble_eq_true rfl) (fun p e s m args below meth c pc ls hx hb hr hlk d => ret_I hx hb hr hlk d) ?_
  intro p e s m args below meth c ls Qq hx hb hml hown hts hK hP hend hl
  have hl : lv_has ls 2 [(0, .ref (a 0)), (1, .int (nI (s_)))] := hl
  obtain ⟨hv1, hv2, hv3, hv4, hv5, hv6⟩ := id hv
  have hq1 := hh_le v
  have hq2 := hh_tt v
  have hb1 := sc_b hv s_ (a := hh_ v) (b := tt_ v) (by omega)
  have hb2 := wl_b hv (a := hh_ v) (b := tt_ v) (by omega)
  refine lv_aload_n hx hb dX0_schoolPercent_0 rfl (lv_at hl 0 rfl) ?_
  refine lv_iload_n hx hb dX0_schoolPercent_1 rfl (lv_at hl 1 rfl) ?_
  refine rd_VN (rest := []) ⟨hx, hb, hml, hown, hts⟩ (c_X0_needSchool l D κ a v hv (s_) (by omega)) g_X0_54 n_X0_needSchool ⟨Nat.le_of_ble_eq_true rfl, Nat.le_of_ble_eq_true rfl⟩ hK hP rfl rfl rfl hl.1 rfl (Nat.le_of_ble_eq_true rfl) dX0_schoolPercent_2 ⟨Nat.zero_le _, Nat.zero_le _⟩ ?_
  refine lv_aload_n hx hb dX0_schoolPercent_5 rfl (lv_at hl 0 rfl) ?_
  refine lv_iload_n hx hb dX0_schoolPercent_6 rfl (lv_at hl 1 rfl) ?_
  refine rd_V (rest := []) ⟨hx, hb, hml, hown, hts⟩ (c_X0_schoolWeightNow l D κ a v hv (s_) (by omega)) g_X0_96 n_X0_schoolWeightNow ⟨Nat.le_of_ble_eq_true rfl, Nat.le_of_ble_eq_true rfl⟩ hK hP rfl rfl rfl hl.1 rfl (Nat.le_of_ble_eq_true rfl) dX0_schoolPercent_7 ⟨Nat.zero_le _, Nat.zero_le _⟩ ?_
  refine lv_aload_n hx hb dX0_schoolPercent_10 rfl (lv_at hl 0 rfl) ?_
  refine rd_V (rest := [.long (lN (sc_ v s_ (hh_ v) (tt_ v)))]) ⟨hx, hb, hml, hown, hts⟩ (c_X0_wholeNow l D κ a v hv) g_X0_100 n_X0_wholeNow ⟨Nat.le_of_ble_eq_true rfl, Nat.le_of_ble_eq_true rfl⟩ hK hP rfl rfl rfl hl.1 rfl (Nat.le_of_ble_eq_true rfl) dX0_schoolPercent_11 ⟨Nat.zero_le _, Nat.zero_le _⟩ ?_
  refine rd_S (rest := []) ⟨hx, hb, hml, hown, hts⟩ (c_X0_percent l (sc_ v s_ (hh_ v) (tt_ v)) (wl_ v (hh_ v) (tt_ v)) (by omega) (by omega) (by omega)) g_X0_104 n_X0_percent ⟨Nat.le_of_ble_eq_true rfl, Nat.le_of_ble_eq_true rfl⟩ rfl hl.1 rfl (Nat.le_of_ble_eq_true rfl) dX0_schoolPercent_14 ⟨Nat.zero_le _, Nat.zero_le _⟩ ?_
  refine nv_topi (congrArg nI (show ((sc_ v s_ (hh_ v) (tt_ v)) * 100 / (wl_ v (hh_ v) (tt_ v)) : Nat) = sc_ v s_ (hh_ v) (tt_ v) * 100 / wl_ v (hh_ v) (tt_ v) from by first | rfl | omega)) ?_
  exact hend _ _ dX0_schoolPercent_17
set_option maxHeartbeats 4000000 in
set_option maxRecDepth 100000 in
theorem c_X0_leadingCoin (l : Launch) (D : va_G) (κ : Nat → ClassId) (a : Nat → Nat) (v : VS) (hv : ok_v v) (hw : 0 < wl_ v (hh_ v) (tt_ v)) : Rd l yX0_leadingCoin cX0_leadingCoin 2 (some .int) 3 81 (Pw D (kt_ κ) (xw κ a v) [.ref (a 0)]) (.int (nI (ld_ v (hh_ v) (tt_ v) (vs_c v)))) := by
  refine rd_intro (own := RX0) (by decide +kernel) rfl (Nat.le_of_ble_eq_true rfl) (fun p e s m args below meth c pc ls hx hb hr hlk d => ret_I hx hb hr hlk d) ?_
  intro p e s m args below meth c ls Qq hx hb hml hown hts hK hP hend hl
  have hl : lv_has ls 2 [(0, .ref (a 0))] := hl
  obtain ⟨hv1, hv2, hv3, hv4, hv5, hv6⟩ := id hv
  have hq1 := hh_le v
  have hq2 := hh_tt v
  have hq3 := ld_le v (hh_ v) (tt_ v) (vs_c v)
  refine lv_aload_n hx hb dX0_leadingCoin_0 rfl (lv_at hl 0 rfl) ?_
  refine lv_aload_n hx hb dX0_leadingCoin_1 rfl (lv_at hl 0 rfl) ?_
  refine rd_V (rest := [.ref (a 0)]) ⟨hx, hb, hml, hown, hts⟩ (c_X0_headsNow l D κ a v hv) g_X0_69 n_X0_headsNow ⟨Nat.le_of_ble_eq_true rfl, Nat.le_of_ble_eq_true rfl⟩ hK hP rfl rfl rfl hl.1 rfl (Nat.le_of_ble_eq_true rfl) dX0_leadingCoin_2 ⟨Nat.zero_le _, Nat.zero_le _⟩ ?_
  refine lv_aload_n hx hb dX0_leadingCoin_5 rfl (lv_at hl 0 rfl) ?_
  refine rd_V (rest := [.int (nI (hh_ v)), .ref (a 0)]) ⟨hx, hb, hml, hown, hts⟩ (c_X0_tailsNow l D κ a v hv) g_X0_73 n_X0_tailsNow ⟨Nat.le_of_ble_eq_true rfl, Nat.le_of_ble_eq_true rfl⟩ hK hP rfl rfl rfl hl.1 rfl (Nat.le_of_ble_eq_true rfl) dX0_leadingCoin_6 ⟨Nat.zero_le _, Nat.zero_le _⟩ ?_
  refine rd_V (rest := []) ⟨hx, hb, hml, hown, hts⟩ (c_X0_leaderAt l D κ a v hv (hh_ v) (tt_ v) (by omega)) g_X0_108 n_X0_leaderAt ⟨Nat.le_of_ble_eq_true rfl, Nat.le_of_ble_eq_true rfl⟩ hK hP rfl rfl rfl hl.1 rfl (Nat.le_of_ble_eq_true rfl) dX0_leadingCoin_9 ⟨Nat.zero_le _, Nat.zero_le _⟩ ?_
  refine nv_topi (show (la_ v (hh_ v) (tt_ v) : Int32) = nI (ld_ v (hh_ v) (tt_ v) (vs_c v)) from by exact la_pos hw) ?_
  refine lv_istore_n (lv' := [(1, .int (nI (ld_ v (hh_ v) (tt_ v) (vs_c v)))), (0, .ref (a 0))]) hx hb dX0_leadingCoin_12 rfl hl (by decide) rfl (fun ls hl => ?_)
  refine lv_iload_n hx hb dX0_leadingCoin_13 rfl (lv_at hl 0 rfl) ?_
  refine lv_iconst (v := (-1)) hx hb dX0_leadingCoin_14 (by decide) ?_
  refine lv_icmp_ne (tgt := 28) hx hb dX0_leadingCoin_15 (by decide) (fun c_15 => ?_) (fun z => absurd z (nI_nm1 (by omega)))
  refine lv_iload_n hx hb dX0_leadingCoin_28 rfl (lv_at hl 0 rfl) ?_
  exact hend _ _ dX0_leadingCoin_29
set_option maxHeartbeats 4000000 in
set_option maxRecDepth 100000 in
theorem c_X0_leadingSchool (l : Launch) (D : va_G) (κ : Nat → ClassId) (a : Nat → Nat) (v : VS) (hv : ok_v v) (hw : 0 < wl_ v (hh_ v) (tt_ v)) : Rd l yX0_leadingSchool cX0_leadingSchool 7 (some .int) 3 69 (Pw D (kt_ κ) (xw κ a v) [.ref (a 0)]) (.int (nI (lsc_ v (hh_ v) (tt_ v) (vs_n v)))) := by
  refine rd_intro (own := RX0) (by decide +kernel) rfl (Nat.le_of_ble_eq_true rfl) (fun p e s m args below meth c pc ls hx hb hr hlk d => ret_I hx hb hr hlk d) ?_
  intro p e s m args below meth c ls Qq hx hb hml hown hts hK hP hend hl
  have hl : lv_has ls 7 [(0, .ref (a 0))] := hl
  obtain ⟨hv1, hv2, hv3, hv4, hv5, hv6⟩ := id hv
  have hq1 := hh_le v
  have hq2 := hh_tt v
  refine lv_iconst (v := (-1)) hx hb dX0_leadingSchool_0 (by decide) ?_
  refine lv_istore_n (lv' := [(1, .int (-1)), (0, .ref (a 0))]) hx hb dX0_leadingSchool_1 rfl hl (by decide) rfl (fun ls hl => ?_)
  refine lv_lconst (v := lN (0)) hx hb dX0_leadingSchool_2 (by decide) ?_
  refine lv_lstore_n (lv' := [(2, .long (lN (0))), (1, .int (-1)), (0, .ref (a 0))]) hx hb dX0_leadingSchool_3 rfl hl (by decide) rfl (fun ls hl => ?_)
  refine lv_iconst (v := nI (0)) hx hb dX0_leadingSchool_4 (by decide) ?_
  refine lv_istore (lv' := [(4, .int (nI (0))), (2, .long (lN (0))), (1, .int (-1)), (0, .ref (a 0))]) hx hb dX0_leadingSchool_5 hl (by decide) rfl (fun ls hl => ?_)
  suffices hloop_7 : ∀ (n_7 i : Nat) (ls : Array Slot), i + n_7 = vs_n v → lv_has ls 7 [(0, .ref (a 0)), (1, .int (ls2_ v (hh_ v) (tt_ v) i)), (2, .long (lN (gs2_ v (hh_ v) (tt_ v) i))), (4, .int (nI (i)))] → W p l e (rm_ 3 69) s m args below meth c s.heap [] 0 0 Qq (F0 m 7 ls []) from hloop_7 (vs_n v - 0) (0) ls (by omega) (lv_cast (k := [(0, .ref (a 0)), (1, .int (-1)), (2, .long (lN (0))), (4, .int (nI (0)))]) (lv_sub hl [3, 2, 1, 0] rfl) (lc_cons rfl (lc_cons (congrArg (fun z : Int32 => ((1 : Nat), Value.int z)) (show (-1 : Int32) = ls2_ v (hh_ v) (tt_ v) 0 from by rfl)) (lc_cons (congrArg (fun z : Nat => ((2 : Nat), Value.long (lN z))) (show (0 : Nat) = gs2_ v (hh_ v) (tt_ v) 0 from by first | rfl | omega)) (lc_cons rfl rfl)))))
  intro n_7
  induction n_7 with
  | zero =>
    intro i ls hin_7 hl
    have hi_7 : i = vs_n v := by omega
    have hb1 := sc_b hv i (a := hh_ v) (b := tt_ v) (by omega)
    have hb2 := gs2_b hv i (a := hh_ v) (b := tt_ v) (by omega)
    refine lv_iload hx hb dX0_leadingSchool_7 (lv_at hl 3 rfl) ?_
    refine lv_aload_n hx hb dX0_leadingSchool_9 rfl (lv_at hl 0 rfl) ?_
    refine va_get (D := D) (ci := 0) (v := .int (nI (vs_n v))) (C := RX0) (T := TX0) (N := 7) hx hb hts i_X0 hown hK hP 0 rfl rfl 5 (by decide) (hts _ q_f_X0_29) (fun _ h9 => h9) rfl dX0_leadingSchool_10 ?_
    refine nv_icmp_ge (tgt := 43) hx hb dX0_leadingSchool_13 (by decide) (by omega) (by omega) (fun c_13 => ?_) (fun z => absurd z (by omega))
    refine lv_iload_n hx hb dX0_leadingSchool_43 rfl (lv_at hl 1 rfl) ?_
    refine lv_iconst (v := (-1)) hx hb dX0_leadingSchool_44 (by decide) ?_
    refine lv_icmp_ne (tgt := 58) hx hb dX0_leadingSchool_45 (by decide) (fun c_45 => ?_) (fun z => absurd z (by rw [hi_7]; exact ls2_ne hv hw))
    refine lv_iload_n hx hb dX0_leadingSchool_58 rfl (lv_at hl 1 rfl) ?_
    refine nv_topi (show (ls2_ v (hh_ v) (tt_ v) i : Int32) = nI (lsc_ v (hh_ v) (tt_ v) (vs_n v)) from by rw [hi_7]; exact ls2_pos hw) ?_
    exact hend _ _ dX0_leadingSchool_59
  | succ n_7 ih_7 =>
    intro i ls hin_7 hl
    have hb1 := sc_b hv i (a := hh_ v) (b := tt_ v) (by omega)
    have hb2 := gs2_b hv i (a := hh_ v) (b := tt_ v) (by omega)
    refine lv_iload hx hb dX0_leadingSchool_7 (lv_at hl 3 rfl) ?_
    refine lv_aload_n hx hb dX0_leadingSchool_9 rfl (lv_at hl 0 rfl) ?_
    refine va_get (D := D) (ci := 0) (v := .int (nI (vs_n v))) (C := RX0) (T := TX0) (N := 7) hx hb hts i_X0 hown hK hP 0 rfl rfl 5 (by decide) (hts _ q_f_X0_29) (fun _ h9 => h9) rfl dX0_leadingSchool_10 ?_
    refine nv_icmp_ge (tgt := 43) hx hb dX0_leadingSchool_13 (by decide) (by omega) (by omega) (fun z => absurd z (by omega)) (fun c_13 => ?_)
    refine lv_aload_n hx hb dX0_leadingSchool_16 rfl (lv_at hl 0 rfl) ?_
    refine lv_iload hx hb dX0_leadingSchool_17 (lv_at hl 3 rfl) ?_
    refine rd_V (rest := []) ⟨hx, hb, hml, hown, hts⟩ (c_X0_schoolWeightNow l D κ a v hv (i) (by omega)) g_X0_96 n_X0_schoolWeightNow ⟨Nat.le_of_ble_eq_true rfl, Nat.le_of_ble_eq_true rfl⟩ hK hP rfl rfl rfl hl.1 rfl (Nat.le_of_ble_eq_true rfl) dX0_leadingSchool_19 ⟨Nat.zero_le _, Nat.zero_le _⟩ ?_
    refine lv_lstore (lv' := [(5, .long (lN (sc_ v i (hh_ v) (tt_ v)))), (0, .ref (a 0)), (1, .int (ls2_ v (hh_ v) (tt_ v) i)), (2, .long (lN (gs2_ v (hh_ v) (tt_ v) i))), (4, .int (nI (i)))]) hx hb dX0_leadingSchool_22 hl (by decide) rfl (fun ls hl => ?_)
    refine lv_lload hx hb dX0_leadingSchool_24 (lv_at hl 0 rfl) ?_
    refine lv_lload_n hx hb dX0_leadingSchool_26 rfl (lv_at hl 3 rfl) ?_
    refine nv_lc_le (tgt := 37) hx hb dX0_leadingSchool_27 dX0_leadingSchool_28 (by decide) (by omega) (by omega) (fun c_28 => ?_) (fun c_28 => ?_)
    · refine lv_iinc (v := nI (i + 1)) (lv' := [(4, .int (nI (i + 1))), (5, .long (lN (sc_ v i (hh_ v) (tt_ v)))), (0, .ref (a 0)), (1, .int (ls2_ v (hh_ v) (tt_ v) i)), (2, .long (lN (gs2_ v (hh_ v) (tt_ v) i)))]) hx hb dX0_leadingSchool_37 hl (k := 4) rfl (nI_add _ _) (by decide) rfl (fun ls hl => ?_)
      refine lv_goto (tgt := 7) hx hb dX0_leadingSchool_40 (by decide) ?_
      exact ih_7 (i + 1) ls (by omega) (lv_cast (k := [(0, .ref (a 0)), (1, .int (ls2_ v (hh_ v) (tt_ v) i)), (2, .long (lN (gs2_ v (hh_ v) (tt_ v) i))), (4, .int (nI (i + 1)))]) (lv_sub hl [2, 3, 4, 0] rfl) (lc_cons rfl (lc_cons (congrArg (fun z : Int32 => ((1 : Nat), Value.int z)) (show (ls2_ v (hh_ v) (tt_ v) i : Int32) = ls2_ v (hh_ v) (tt_ v) (i + 1) from by first | exact ls2_up c_28 | exact ls2_eq c_28)) (lc_cons (congrArg (fun z : Nat => ((2 : Nat), Value.long (lN z))) (show (gs2_ v (hh_ v) (tt_ v) i : Nat) = gs2_ v (hh_ v) (tt_ v) (i + 1) from by first | exact gs2_up c_28 | exact gs2_eq c_28)) (lc_cons (congrArg (fun z : Nat => ((4 : Nat), Value.int (nI z))) (show (i + 1 : Nat) = (i + 1) from by first | rfl | omega)) rfl)))))
    · refine lv_lload hx hb dX0_leadingSchool_31 (lv_at hl 0 rfl) ?_
      refine lv_lstore_n (lv' := [(2, .long (lN (sc_ v i (hh_ v) (tt_ v)))), (5, .long (lN (sc_ v i (hh_ v) (tt_ v)))), (0, .ref (a 0)), (1, .int (ls2_ v (hh_ v) (tt_ v) i)), (4, .int (nI (i)))]) hx hb dX0_leadingSchool_33 rfl hl (by decide) rfl (fun ls hl => ?_)
      refine lv_iload hx hb dX0_leadingSchool_34 (lv_at hl 4 rfl) ?_
      refine lv_istore_n (lv' := [(1, .int (nI (i))), (2, .long (lN (sc_ v i (hh_ v) (tt_ v)))), (5, .long (lN (sc_ v i (hh_ v) (tt_ v)))), (0, .ref (a 0)), (4, .int (nI (i)))]) hx hb dX0_leadingSchool_36 rfl hl (by decide) rfl (fun ls hl => ?_)
      refine lv_iinc (v := nI (i + 1)) (lv' := [(4, .int (nI (i + 1))), (1, .int (nI (i))), (2, .long (lN (sc_ v i (hh_ v) (tt_ v)))), (5, .long (lN (sc_ v i (hh_ v) (tt_ v)))), (0, .ref (a 0))]) hx hb dX0_leadingSchool_37 hl (k := 4) rfl (nI_add _ _) (by decide) rfl (fun ls hl => ?_)
      refine lv_goto (tgt := 7) hx hb dX0_leadingSchool_40 (by decide) ?_
      exact ih_7 (i + 1) ls (by omega) (lv_cast (k := [(0, .ref (a 0)), (1, .int (nI (i))), (2, .long (lN (sc_ v i (hh_ v) (tt_ v)))), (4, .int (nI (i + 1)))]) (lv_sub hl [4, 1, 2, 0] rfl) (lc_cons rfl (lc_cons (congrArg (fun z : Int32 => ((1 : Nat), Value.int z)) (show (nI (i) : Int32) = ls2_ v (hh_ v) (tt_ v) (i + 1) from by first | exact ls2_up c_28 | exact ls2_eq c_28)) (lc_cons (congrArg (fun z : Nat => ((2 : Nat), Value.long (lN z))) (show (sc_ v i (hh_ v) (tt_ v) : Nat) = gs2_ v (hh_ v) (tt_ v) (i + 1) from by first | exact gs2_up c_28 | exact gs2_eq c_28)) (lc_cons (congrArg (fun z : Nat => ((4 : Nat), Value.int (nI z))) (show (i + 1 : Nat) = (i + 1) from by first | rfl | omega)) rfl)))))
set_option maxHeartbeats 4000000 in
set_option maxRecDepth 100000 in
theorem c_X0_oddsAgainst (l : Launch) (D : va_G) (κ : Nat → ClassId) (a : Nat → Nat) (v : VS) (hv : ok_v v) (c_ : Nat) (d_ : Nat) (hc : c_ < vs_c v) (hd : d_ < vs_c v) (hz : 0 < wt_ v d_ (hh_ v) (tt_ v)) : Rd l yX0_oddsAgainst cX0_oddsAgainst 7 (some .long) 2 53 (Pw D (kt_ κ) (xw κ a v) [.ref (a 0), .int (nI (c_)), .int (nI (d_))]) (.long (lN (wt_ v c_ (hh_ v) (tt_ v) / wt_ v d_ (hh_ v) (tt_ v)))) := by
  refine rd_intro (own := RX0) (by decide +kernel) rfl (Nat.le_of_ble_eq_true rfl) (fun p e s m args below meth c pc ls hx hb hr hlk d => ret_L hx hb hr hlk d) ?_
  intro p e s m args below meth c ls Qq hx hb hml hown hts hK hP hend hl
  have hl : lv_has ls 7 [(0, .ref (a 0)), (1, .int (nI (c_))), (2, .int (nI (d_)))] := hl
  obtain ⟨hv1, hv2, hv3, hv4, hv5, hv6⟩ := id hv
  have hq1 := hh_le v
  have hq2 := hh_tt v
  have hb1 := wt_b hv c_ (a := hh_ v) (b := tt_ v) (by omega)
  have hb3 := wt_b hv d_ (a := hh_ v) (b := tt_ v) (by omega)
  refine lv_aload_n hx hb dX0_oddsAgainst_0 rfl (lv_at hl 0 rfl) ?_
  refine lv_iload_n hx hb dX0_oddsAgainst_1 rfl (lv_at hl 1 rfl) ?_
  refine rd_VN (rest := []) ⟨hx, hb, hml, hown, hts⟩ (c_X0_needCoin l D κ a v hv (c_) (by omega)) g_X0_58 n_X0_needCoin ⟨Nat.le_of_ble_eq_true rfl, Nat.le_of_ble_eq_true rfl⟩ hK hP rfl rfl rfl hl.1 rfl (Nat.le_of_ble_eq_true rfl) dX0_oddsAgainst_2 ⟨Nat.zero_le _, Nat.zero_le _⟩ ?_
  refine lv_aload_n hx hb dX0_oddsAgainst_5 rfl (lv_at hl 0 rfl) ?_
  refine lv_iload_n hx hb dX0_oddsAgainst_6 rfl (lv_at hl 2 rfl) ?_
  refine rd_VN (rest := []) ⟨hx, hb, hml, hown, hts⟩ (c_X0_needCoin l D κ a v hv (d_) (by omega)) g_X0_58 n_X0_needCoin ⟨Nat.le_of_ble_eq_true rfl, Nat.le_of_ble_eq_true rfl⟩ hK hP rfl rfl rfl hl.1 rfl (Nat.le_of_ble_eq_true rfl) dX0_oddsAgainst_7 ⟨Nat.zero_le _, Nat.zero_le _⟩ ?_
  refine lv_aload_n hx hb dX0_oddsAgainst_10 rfl (lv_at hl 0 rfl) ?_
  refine rd_V (rest := []) ⟨hx, hb, hml, hown, hts⟩ (c_X0_headsNow l D κ a v hv) g_X0_69 n_X0_headsNow ⟨Nat.le_of_ble_eq_true rfl, Nat.le_of_ble_eq_true rfl⟩ hK hP rfl rfl rfl hl.1 rfl (Nat.le_of_ble_eq_true rfl) dX0_oddsAgainst_11 ⟨Nat.zero_le _, Nat.zero_le _⟩ ?_
  refine lv_istore_n (lv' := [(3, .int (nI (hh_ v))), (0, .ref (a 0)), (1, .int (nI (c_))), (2, .int (nI (d_)))]) hx hb dX0_oddsAgainst_14 rfl hl (by decide) rfl (fun ls hl => ?_)
  refine lv_aload_n hx hb dX0_oddsAgainst_15 rfl (lv_at hl 1 rfl) ?_
  refine rd_V (rest := []) ⟨hx, hb, hml, hown, hts⟩ (c_X0_tailsNow l D κ a v hv) g_X0_73 n_X0_tailsNow ⟨Nat.le_of_ble_eq_true rfl, Nat.le_of_ble_eq_true rfl⟩ hK hP rfl rfl rfl hl.1 rfl (Nat.le_of_ble_eq_true rfl) dX0_oddsAgainst_16 ⟨Nat.zero_le _, Nat.zero_le _⟩ ?_
  refine lv_istore (lv' := [(4, .int (nI (tt_ v))), (3, .int (nI (hh_ v))), (0, .ref (a 0)), (1, .int (nI (c_))), (2, .int (nI (d_)))]) hx hb dX0_oddsAgainst_19 hl (by decide) rfl (fun ls hl => ?_)
  refine lv_aload_n hx hb dX0_oddsAgainst_21 rfl (lv_at hl 2 rfl) ?_
  refine lv_iload_n hx hb dX0_oddsAgainst_22 rfl (lv_at hl 4 rfl) ?_
  refine lv_iload_n hx hb dX0_oddsAgainst_23 rfl (lv_at hl 1 rfl) ?_
  refine lv_iload hx hb dX0_oddsAgainst_24 (lv_at hl 0 rfl) ?_
  refine rd_V (rest := []) ⟨hx, hb, hml, hown, hts⟩ (c_X0_coinWeightAt l D κ a v hv (d_) (hh_ v) (tt_ v) (by omega) (by omega) (by omega)) g_X0_93 n_X0_coinWeightAt ⟨Nat.le_of_ble_eq_true rfl, Nat.le_of_ble_eq_true rfl⟩ hK hP rfl rfl rfl hl.1 rfl (Nat.le_of_ble_eq_true rfl) dX0_oddsAgainst_26 ⟨Nat.zero_le _, Nat.zero_le _⟩ ?_
  refine lv_lstore (lv' := [(5, .long (lN (wt_ v d_ (hh_ v) (tt_ v)))), (4, .int (nI (tt_ v))), (3, .int (nI (hh_ v))), (0, .ref (a 0)), (1, .int (nI (c_))), (2, .int (nI (d_)))]) hx hb dX0_oddsAgainst_29 hl (by decide) rfl (fun ls hl => ?_)
  refine lv_lload hx hb dX0_oddsAgainst_31 (lv_at hl 0 rfl) ?_
  refine lv_lconst (v := lN (0)) hx hb dX0_oddsAgainst_33 (by decide) ?_
  refine nv_lc_ne (tgt := 48) hx hb dX0_oddsAgainst_34 dX0_oddsAgainst_35 (by decide) (by omega) (by omega) (fun c_35 => ?_) (fun z => absurd z (by omega))
  refine lv_aload_n hx hb dX0_oddsAgainst_48 rfl (lv_at hl 3 rfl) ?_
  refine lv_iload_n hx hb dX0_oddsAgainst_49 rfl (lv_at hl 4 rfl) ?_
  refine lv_iload_n hx hb dX0_oddsAgainst_50 rfl (lv_at hl 2 rfl) ?_
  refine lv_iload hx hb dX0_oddsAgainst_51 (lv_at hl 1 rfl) ?_
  refine rd_V (rest := []) ⟨hx, hb, hml, hown, hts⟩ (c_X0_coinWeightAt l D κ a v hv (c_) (hh_ v) (tt_ v) (by omega) (by omega) (by omega)) g_X0_93 n_X0_coinWeightAt ⟨Nat.le_of_ble_eq_true rfl, Nat.le_of_ble_eq_true rfl⟩ hK hP rfl rfl rfl hl.1 rfl (Nat.le_of_ble_eq_true rfl) dX0_oddsAgainst_53 ⟨Nat.zero_le _, Nat.zero_le _⟩ ?_
  refine lv_lload hx hb dX0_oddsAgainst_56 (lv_at hl 0 rfl) ?_
  refine nv_ldiv hx hb dX0_oddsAgainst_58 (by omega) (by omega) (by omega) rfl ?_
  refine nv_topl (congrArg lN (show ((wt_ v c_ (hh_ v) (tt_ v)) / (wt_ v d_ (hh_ v) (tt_ v)) : Nat) = wt_ v c_ (hh_ v) (tt_ v) / wt_ v d_ (hh_ v) (tt_ v) from by first | rfl | omega)) ?_
  exact hend _ _ dX0_oddsAgainst_59
set_option maxHeartbeats 4000000 in
set_option maxRecDepth 100000 in
theorem c_X0_surpriseOf (l : Launch) (D : va_G) (κ : Nat → ClassId) (a : Nat → Nat) (v : VS) (hv : ok_v v) (t_ : Nat) (ht : t_ < vs_t v) : Rd l yX0_surpriseOf cX0_surpriseOf 2 (some .int) 5 130 (Pw D (kt_ κ) (xw κ a v) [.ref (a 0), .int (nI (t_))]) (.int (nI (sa_ v t_))) := by
  refine rd_intro (own := RX0) (by decide +kernel) rfl (Nat.le_of_ble_eq_true rfl) (fun p e s m args below meth c pc ls hx hb hr hlk d => ret_I hx hb hr hlk d) ?_
  intro p e s m args below meth c ls Qq hx hb hml hown hts hK hP hend hl
  have hl : lv_has ls 2 [(0, .ref (a 0)), (1, .int (nI (t_)))] := hl
  obtain ⟨hv1, hv2, hv3, hv4, hv5, hv6⟩ := id hv
  refine lv_aload_n hx hb dX0_surpriseOf_0 rfl (lv_at hl 0 rfl) ?_
  refine lv_iload_n hx hb dX0_surpriseOf_1 rfl (lv_at hl 1 rfl) ?_
  refine rd_VN (rest := []) ⟨hx, hb, hml, hown, hts⟩ (c_X0_needToss l D κ a v hv (t_) (by omega)) g_X0_82 n_X0_needToss ⟨Nat.le_of_ble_eq_true rfl, Nat.le_of_ble_eq_true rfl⟩ hK hP rfl rfl rfl hl.1 rfl (Nat.le_of_ble_eq_true rfl) dX0_surpriseOf_2 ⟨Nat.zero_le _, Nat.zero_le _⟩ ?_
  refine lv_aload_n hx hb dX0_surpriseOf_5 rfl (lv_at hl 0 rfl) ?_
  refine lv_iload_n hx hb dX0_surpriseOf_6 rfl (lv_at hl 1 rfl) ?_
  refine rd_V (rest := []) ⟨hx, hb, hml, hown, hts⟩ (c_X0_surpriseAt l D κ a v hv (t_) (by omega)) g_X0_116 n_X0_surpriseAt ⟨Nat.le_of_ble_eq_true rfl, Nat.le_of_ble_eq_true rfl⟩ hK hP rfl rfl rfl hl.1 rfl (Nat.le_of_ble_eq_true rfl) dX0_surpriseOf_7 ⟨Nat.zero_le _, Nat.zero_le _⟩ ?_
  exact hend _ _ dX0_surpriseOf_10
set_option maxHeartbeats 4000000 in
set_option maxRecDepth 100000 in
theorem c_X0_allSurprise (l : Launch) (D : va_G) (κ : Nat → ClassId) (a : Nat → Nat) (v : VS) (hv : ok_v v) : Rd l yX0_allSurprise cX0_allSurprise 3 (some .int) 5 130 (Pw D (kt_ κ) (xw κ a v) [.ref (a 0)]) (.int (nI (as_ v))) := by
  refine rd_intro (own := RX0) (by decide +kernel) rfl (Nat.le_of_ble_eq_true rfl) (fun p e s m args below meth c pc ls hx hb hr hlk d => ret_I hx hb hr hlk d) ?_
  intro p e s m args below meth c ls Qq hx hb hml hown hts hK hP hend hl
  have hl : lv_has ls 3 [(0, .ref (a 0))] := hl
  obtain ⟨hv1, hv2, hv3, hv4, hv5, hv6⟩ := id hv
  refine lv_iconst (v := nI (0)) hx hb dX0_allSurprise_0 (by decide) ?_
  refine lv_istore_n (lv' := [(1, .int (nI (0))), (0, .ref (a 0))]) hx hb dX0_allSurprise_1 rfl hl (by decide) rfl (fun ls hl => ?_)
  refine lv_iconst (v := nI (0)) hx hb dX0_allSurprise_2 (by decide) ?_
  refine lv_istore_n (lv' := [(2, .int (nI (0))), (1, .int (nI (0))), (0, .ref (a 0))]) hx hb dX0_allSurprise_3 rfl hl (by decide) rfl (fun ls hl => ?_)
  suffices hloop_4 : ∀ (n_4 i : Nat) (ls : Array Slot), i + n_4 = vs_t v → lv_has ls 3 [(0, .ref (a 0)), (1, .int (nI (sm_ (sa_ v) i))), (2, .int (nI (i)))] → W p l e (rm_ 5 130) s m args below meth c s.heap [] 0 0 Qq (F0 m 4 ls []) from hloop_4 (vs_t v - 0) (0) ls (by omega) (lv_cast (k := [(0, .ref (a 0)), (1, .int (nI (0))), (2, .int (nI (0)))]) (lv_sub hl [2, 1, 0] rfl) (lc_cons rfl (lc_cons (congrArg (fun z : Nat => ((1 : Nat), Value.int (nI z))) (show (0 : Nat) = sm_ (sa_ v) 0 from by first | rfl | omega)) (lc_cons rfl rfl))))
  intro n_4
  induction n_4 with
  | zero =>
    intro i ls hin_4 hl
    have hi_4 : i = vs_t v := by omega
    refine lv_iload_n hx hb dX0_allSurprise_4 rfl (lv_at hl 2 rfl) ?_
    refine lv_aload_n hx hb dX0_allSurprise_5 rfl (lv_at hl 0 rfl) ?_
    refine va_get (D := D) (ci := 0) (v := .int (nI (vs_t v))) (C := RX0) (T := TX0) (N := 7) hx hb hts i_X0 hown hK hP 0 rfl rfl 6 (by decide) (hts _ q_f_X0_32) (fun _ h9 => h9) rfl dX0_allSurprise_6 ?_
    refine nv_icmp_ge (tgt := 26) hx hb dX0_allSurprise_9 (by decide) (by omega) (by omega) (fun c_9 => ?_) (fun z => absurd z (by omega))
    refine lv_iload_n hx hb dX0_allSurprise_26 rfl (lv_at hl 1 rfl) ?_
    refine nv_topi (congrArg nI (show (sm_ (sa_ v) i : Nat) = as_ v from by rw [hi_4]; rfl)) ?_
    exact hend _ _ dX0_allSurprise_27
  | succ n_4 ih_4 =>
    intro i ls hin_4 hl
    refine lv_iload_n hx hb dX0_allSurprise_4 rfl (lv_at hl 2 rfl) ?_
    refine lv_aload_n hx hb dX0_allSurprise_5 rfl (lv_at hl 0 rfl) ?_
    refine va_get (D := D) (ci := 0) (v := .int (nI (vs_t v))) (C := RX0) (T := TX0) (N := 7) hx hb hts i_X0 hown hK hP 0 rfl rfl 6 (by decide) (hts _ q_f_X0_32) (fun _ h9 => h9) rfl dX0_allSurprise_6 ?_
    refine nv_icmp_ge (tgt := 26) hx hb dX0_allSurprise_9 (by decide) (by omega) (by omega) (fun z => absurd z (by omega)) (fun c_9 => ?_)
    refine lv_iload_n hx hb dX0_allSurprise_12 rfl (lv_at hl 1 rfl) ?_
    refine lv_aload_n hx hb dX0_allSurprise_13 rfl (lv_at hl 0 rfl) ?_
    refine lv_iload_n hx hb dX0_allSurprise_14 rfl (lv_at hl 2 rfl) ?_
    refine rd_V (rest := [.int (nI (sm_ (sa_ v) i))]) ⟨hx, hb, hml, hown, hts⟩ (c_X0_surpriseAt l D κ a v hv (i) (by omega)) g_X0_116 n_X0_surpriseAt ⟨Nat.le_of_ble_eq_true rfl, Nat.le_of_ble_eq_true rfl⟩ hK hP rfl rfl rfl hl.1 rfl (Nat.le_of_ble_eq_true rfl) dX0_allSurprise_15 ⟨Nat.zero_le _, Nat.zero_le _⟩ ?_
    refine nv_iadd hx hb dX0_allSurprise_18 rfl ?_
    refine lv_istore_n (lv' := [(1, .int (nI ((sm_ (sa_ v) i) + (sa_ v i)))), (0, .ref (a 0)), (2, .int (nI (i)))]) hx hb dX0_allSurprise_19 rfl hl (by decide) rfl (fun ls hl => ?_)
    refine lv_iinc (v := nI (i + 1)) (lv' := [(2, .int (nI (i + 1))), (1, .int (nI ((sm_ (sa_ v) i) + (sa_ v i)))), (0, .ref (a 0))]) hx hb dX0_allSurprise_20 hl (k := 2) rfl (nI_add _ _) (by decide) rfl (fun ls hl => ?_)
    refine lv_goto (tgt := 4) hx hb dX0_allSurprise_23 (by decide) ?_
    exact ih_4 (i + 1) ls (by omega) (lv_cast (k := [(0, .ref (a 0)), (1, .int (nI ((sm_ (sa_ v) i) + (sa_ v i)))), (2, .int (nI (i + 1)))]) (lv_sub hl [2, 1, 0] rfl) (lc_cons rfl (lc_cons (congrArg (fun z : Nat => ((1 : Nat), Value.int (nI z))) (show ((sm_ (sa_ v) i) + (sa_ v i) : Nat) = sm_ (sa_ v) (i + 1) from by first | rfl | omega)) (lc_cons (congrArg (fun z : Nat => ((2 : Nat), Value.int (nI z))) (show (i + 1 : Nat) = (i + 1) from by first | rfl | omega)) rfl))))
set_option maxHeartbeats 4000000 in
set_option maxRecDepth 100000 in
theorem c_X0_greatestSurprise (l : Launch) (D : va_G) (κ : Nat → ClassId) (a : Nat → Nat) (v : VS) (hv : ok_v v) : Rd l yX0_greatestSurprise cX0_greatestSurprise 5 (some .int) 5 130 (Pw D (kt_ κ) (xw κ a v) [.ref (a 0)]) (.int (fS_ v (vs_t v))) := by
  refine rd_intro (own := RX0) (by decide +kernel) rfl (Nat.le_of_ble_eq_true rfl) (fun p e s m args below meth c pc ls hx hb hr hlk d => ret_I hx hb hr hlk d) ?_
  intro p e s m args below meth c ls Qq hx hb hml hown hts hK hP hend hl
  have hl : lv_has ls 5 [(0, .ref (a 0))] := hl
  obtain ⟨hv1, hv2, hv3, hv4, hv5, hv6⟩ := id hv
  refine lv_iconst (v := (-1)) hx hb dX0_greatestSurprise_0 (by decide) ?_
  refine lv_istore_n (lv' := [(1, .int (-1)), (0, .ref (a 0))]) hx hb dX0_greatestSurprise_1 rfl hl (by decide) rfl (fun ls hl => ?_)
  refine lv_iconst (v := (-1)) hx hb dX0_greatestSurprise_2 (by decide) ?_
  refine lv_istore_n (lv' := [(2, .int (-1)), (1, .int (-1)), (0, .ref (a 0))]) hx hb dX0_greatestSurprise_3 rfl hl (by decide) rfl (fun ls hl => ?_)
  refine lv_iconst (v := nI (0)) hx hb dX0_greatestSurprise_4 (by decide) ?_
  refine lv_istore_n (lv' := [(3, .int (nI (0))), (2, .int (-1)), (1, .int (-1)), (0, .ref (a 0))]) hx hb dX0_greatestSurprise_5 rfl hl (by decide) rfl (fun ls hl => ?_)
  suffices hloop_6 : ∀ (n_6 i : Nat) (ls : Array Slot), i + n_6 = vs_t v → lv_has ls 5 [(0, .ref (a 0)), (1, .int (fS_ v i)), (2, .int (gS_ v i)), (3, .int (nI (i)))] → W p l e (rm_ 5 130) s m args below meth c s.heap [] 0 0 Qq (F0 m 6 ls []) from hloop_6 (vs_t v - 0) (0) ls (by omega) (lv_cast (k := [(0, .ref (a 0)), (1, .int (-1)), (2, .int (-1)), (3, .int (nI (0)))]) (lv_sub hl [3, 2, 1, 0] rfl) (lc_cons rfl (lc_cons (congrArg (fun z : Int32 => ((1 : Nat), Value.int z)) (show (-1 : Int32) = fS_ v 0 from by rfl)) (lc_cons (congrArg (fun z : Int32 => ((2 : Nat), Value.int z)) (show (-1 : Int32) = gS_ v 0 from by rfl)) (lc_cons rfl rfl)))))
  intro n_6
  induction n_6 with
  | zero =>
    intro i ls hin_6 hl
    have hi_6 : i = vs_t v := by omega
    refine lv_iload_n hx hb dX0_greatestSurprise_6 rfl (lv_at hl 3 rfl) ?_
    refine lv_aload_n hx hb dX0_greatestSurprise_7 rfl (lv_at hl 0 rfl) ?_
    refine va_get (D := D) (ci := 0) (v := .int (nI (vs_t v))) (C := RX0) (T := TX0) (N := 7) hx hb hts i_X0 hown hK hP 0 rfl rfl 6 (by decide) (hts _ q_f_X0_32) (fun _ h9 => h9) rfl dX0_greatestSurprise_8 ?_
    refine nv_icmp_ge (tgt := 38) hx hb dX0_greatestSurprise_11 (by decide) (by omega) (by omega) (fun c_11 => ?_) (fun z => absurd z (by omega))
    refine lv_iload_n hx hb dX0_greatestSurprise_38 rfl (lv_at hl 1 rfl) ?_
    refine nv_topi (show (fS_ v i : Int32) = fS_ v (vs_t v) from by rw [hi_6]) ?_
    exact hend _ _ dX0_greatestSurprise_39
  | succ n_6 ih_6 =>
    intro i ls hin_6 hl
    refine lv_iload_n hx hb dX0_greatestSurprise_6 rfl (lv_at hl 3 rfl) ?_
    refine lv_aload_n hx hb dX0_greatestSurprise_7 rfl (lv_at hl 0 rfl) ?_
    refine va_get (D := D) (ci := 0) (v := .int (nI (vs_t v))) (C := RX0) (T := TX0) (N := 7) hx hb hts i_X0 hown hK hP 0 rfl rfl 6 (by decide) (hts _ q_f_X0_32) (fun _ h9 => h9) rfl dX0_greatestSurprise_8 ?_
    refine nv_icmp_ge (tgt := 38) hx hb dX0_greatestSurprise_11 (by decide) (by omega) (by omega) (fun z => absurd z (by omega)) (fun c_11 => ?_)
    refine lv_aload_n hx hb dX0_greatestSurprise_14 rfl (lv_at hl 0 rfl) ?_
    refine lv_iload_n hx hb dX0_greatestSurprise_15 rfl (lv_at hl 3 rfl) ?_
    refine rd_V (rest := []) ⟨hx, hb, hml, hown, hts⟩ (c_X0_surpriseAt l D κ a v hv (i) (by omega)) g_X0_116 n_X0_surpriseAt ⟨Nat.le_of_ble_eq_true rfl, Nat.le_of_ble_eq_true rfl⟩ hK hP rfl rfl rfl hl.1 rfl (Nat.le_of_ble_eq_true rfl) dX0_greatestSurprise_16 ⟨Nat.zero_le _, Nat.zero_le _⟩ ?_
    refine lv_istore (lv' := [(4, .int (nI (sa_ v i))), (0, .ref (a 0)), (1, .int (fS_ v i)), (2, .int (gS_ v i)), (3, .int (nI (i)))]) hx hb dX0_greatestSurprise_19 hl (by decide) rfl (fun ls hl => ?_)
    refine lv_iload hx hb dX0_greatestSurprise_21 (lv_at hl 0 rfl) ?_
    refine lv_iload_n hx hb dX0_greatestSurprise_23 rfl (lv_at hl 3 rfl) ?_
    refine lv_icmp_le (tgt := 32) hx hb dX0_greatestSurprise_24 (by decide) (fun c_24 => ?_) (fun c_24 => ?_)
    · refine lv_iinc (v := nI (i + 1)) (lv' := [(3, .int (nI (i + 1))), (4, .int (nI (sa_ v i))), (0, .ref (a 0)), (1, .int (fS_ v i)), (2, .int (gS_ v i))]) hx hb dX0_greatestSurprise_32 hl (k := 4) rfl (nI_add _ _) (by decide) rfl (fun ls hl => ?_)
      refine lv_goto (tgt := 6) hx hb dX0_greatestSurprise_35 (by decide) ?_
      exact ih_6 (i + 1) ls (by omega) (lv_cast (k := [(0, .ref (a 0)), (1, .int (fS_ v i)), (2, .int (gS_ v i)), (3, .int (nI (i + 1)))]) (lv_sub hl [2, 3, 4, 0] rfl) (lc_cons rfl (lc_cons (congrArg (fun z : Int32 => ((1 : Nat), Value.int z)) (show (fS_ v i : Int32) = fS_ v (i + 1) from by first | exact (gS_up c_24).2 | exact (gS_eq c_24).2)) (lc_cons (congrArg (fun z : Int32 => ((2 : Nat), Value.int z)) (show (gS_ v i : Int32) = gS_ v (i + 1) from by first | exact (gS_up c_24).1 | exact (gS_eq c_24).1)) (lc_cons (congrArg (fun z : Nat => ((3 : Nat), Value.int (nI z))) (show (i + 1 : Nat) = (i + 1) from by first | rfl | omega)) rfl)))))
    · refine lv_iload hx hb dX0_greatestSurprise_27 (lv_at hl 0 rfl) ?_
      refine lv_istore_n (lv' := [(2, .int (nI (sa_ v i))), (4, .int (nI (sa_ v i))), (0, .ref (a 0)), (1, .int (fS_ v i)), (3, .int (nI (i)))]) hx hb dX0_greatestSurprise_29 rfl hl (by decide) rfl (fun ls hl => ?_)
      refine lv_iload_n hx hb dX0_greatestSurprise_30 rfl (lv_at hl 4 rfl) ?_
      refine lv_istore_n (lv' := [(1, .int (nI (i))), (2, .int (nI (sa_ v i))), (4, .int (nI (sa_ v i))), (0, .ref (a 0)), (3, .int (nI (i)))]) hx hb dX0_greatestSurprise_31 rfl hl (by decide) rfl (fun ls hl => ?_)
      refine lv_iinc (v := nI (i + 1)) (lv' := [(3, .int (nI (i + 1))), (1, .int (nI (i))), (2, .int (nI (sa_ v i))), (4, .int (nI (sa_ v i))), (0, .ref (a 0))]) hx hb dX0_greatestSurprise_32 hl (k := 4) rfl (nI_add _ _) (by decide) rfl (fun ls hl => ?_)
      refine lv_goto (tgt := 6) hx hb dX0_greatestSurprise_35 (by decide) ?_
      exact ih_6 (i + 1) ls (by omega) (lv_cast (k := [(0, .ref (a 0)), (1, .int (nI (i))), (2, .int (nI (sa_ v i))), (3, .int (nI (i + 1)))]) (lv_sub hl [4, 1, 2, 0] rfl) (lc_cons rfl (lc_cons (congrArg (fun z : Int32 => ((1 : Nat), Value.int z)) (show (nI (i) : Int32) = fS_ v (i + 1) from by first | exact (gS_up c_24).2 | exact (gS_eq c_24).2)) (lc_cons (congrArg (fun z : Int32 => ((2 : Nat), Value.int z)) (show (nI (sa_ v i) : Int32) = gS_ v (i + 1) from by first | exact (gS_up c_24).1 | exact (gS_eq c_24).1)) (lc_cons (congrArg (fun z : Nat => ((3 : Nat), Value.int (nI z))) (show (i + 1 : Nat) = (i + 1) from by first | rfl | omega)) rfl)))))
set_option maxHeartbeats 4000000 in
set_option maxRecDepth 100000 in
theorem c_X0_headsPercent (l : Launch) (D : va_G) (κ : Nat → ClassId) (a : Nat → Nat) (v : VS) (hv : ok_v v) (hw : 0 < wl_ v (hh_ v) (tt_ v)) : Rd l yX0_headsPercent cX0_headsPercent 5 (some .int) 3 80 (Pw D (kt_ κ) (xw κ a v) [.ref (a 0)]) (.int (nI (ch_ v true (hh_ v) (tt_ v) * 100 / (10 * wl_ v (hh_ v) (tt_ v))))) := by
  refine rd_intro (own := RX0) (by decide +kernel) rfl (Nat.le_of_ble_eq_true rfl) (fun p e s m args below meth c pc ls hx hb hr hlk d => ret_I hx hb hr hlk d) ?_
  intro p e s m args below meth c ls Qq hx hb hml hown hts hK hP hend hl
  have hl : lv_has ls 5 [(0, .ref (a 0))] := hl
  obtain ⟨hv1, hv2, hv3, hv4, hv5, hv6⟩ := id hv
  have hq1 := hh_le v
  have hq2 := hh_tt v
  have hb9 := ch_both hv (hh_ v) (tt_ v)
  have hb3 := ch_b hv true (a := hh_ v) (b := tt_ v) (by omega)
  have hb4 := ch_b hv false (a := hh_ v) (b := tt_ v) (by omega)
  refine lv_aload_n hx hb dX0_headsPercent_0 rfl (lv_at hl 0 rfl) ?_
  refine rd_V (rest := []) ⟨hx, hb, hml, hown, hts⟩ (c_X0_headsNow l D κ a v hv) g_X0_69 n_X0_headsNow ⟨Nat.le_of_ble_eq_true rfl, Nat.le_of_ble_eq_true rfl⟩ hK hP rfl rfl rfl hl.1 rfl (Nat.le_of_ble_eq_true rfl) dX0_headsPercent_1 ⟨Nat.zero_le _, Nat.zero_le _⟩ ?_
  refine lv_istore_n (lv' := [(1, .int (nI (hh_ v))), (0, .ref (a 0))]) hx hb dX0_headsPercent_4 rfl hl (by decide) rfl (fun ls hl => ?_)
  refine lv_aload_n hx hb dX0_headsPercent_5 rfl (lv_at hl 1 rfl) ?_
  refine rd_V (rest := []) ⟨hx, hb, hml, hown, hts⟩ (c_X0_tailsNow l D κ a v hv) g_X0_73 n_X0_tailsNow ⟨Nat.le_of_ble_eq_true rfl, Nat.le_of_ble_eq_true rfl⟩ hK hP rfl rfl rfl hl.1 rfl (Nat.le_of_ble_eq_true rfl) dX0_headsPercent_6 ⟨Nat.zero_le _, Nat.zero_le _⟩ ?_
  refine lv_istore_n (lv' := [(2, .int (nI (tt_ v))), (1, .int (nI (hh_ v))), (0, .ref (a 0))]) hx hb dX0_headsPercent_9 rfl hl (by decide) rfl (fun ls hl => ?_)
  refine lv_aload_n hx hb dX0_headsPercent_10 rfl (lv_at hl 2 rfl) ?_
  refine lv_iconst (v := nI (1)) hx hb dX0_headsPercent_11 (by decide) ?_
  refine nv_topi (show (nI (1) : Int32) = bI (true) from by rfl) ?_
  refine lv_iload_n hx hb dX0_headsPercent_12 rfl (lv_at hl 1 rfl) ?_
  refine lv_iload_n hx hb dX0_headsPercent_13 rfl (lv_at hl 0 rfl) ?_
  refine rd_V (rest := []) ⟨hx, hb, hml, hown, hts⟩ (c_X0_chance l D κ a v hv (true) (hh_ v) (tt_ v) (by omega) (by omega)) g_X0_120 n_X0_chance ⟨Nat.le_of_ble_eq_true rfl, Nat.le_of_ble_eq_true rfl⟩ hK hP rfl rfl rfl hl.1 rfl (Nat.le_of_ble_eq_true rfl) dX0_headsPercent_14 ⟨Nat.zero_le _, Nat.zero_le _⟩ ?_
  refine lv_lstore_n (lv' := [(3, .long (lN (ch_ v true (hh_ v) (tt_ v)))), (2, .int (nI (tt_ v))), (1, .int (nI (hh_ v))), (0, .ref (a 0))]) hx hb dX0_headsPercent_17 rfl hl (by decide) rfl (fun ls hl => ?_)
  refine lv_lload_n hx hb dX0_headsPercent_18 rfl (lv_at hl 0 rfl) ?_
  refine lv_lload_n hx hb dX0_headsPercent_19 rfl (lv_at hl 0 rfl) ?_
  refine lv_aload_n hx hb dX0_headsPercent_20 rfl (lv_at hl 3 rfl) ?_
  refine lv_iconst (v := nI (0)) hx hb dX0_headsPercent_21 (by decide) ?_
  refine nv_topi (show (nI (0) : Int32) = bI (false) from by rfl) ?_
  refine lv_iload_n hx hb dX0_headsPercent_22 rfl (lv_at hl 2 rfl) ?_
  refine lv_iload_n hx hb dX0_headsPercent_23 rfl (lv_at hl 1 rfl) ?_
  refine rd_V (rest := [.long (lN (ch_ v true (hh_ v) (tt_ v))), .long (lN (ch_ v true (hh_ v) (tt_ v)))]) ⟨hx, hb, hml, hown, hts⟩ (c_X0_chance l D κ a v hv (false) (hh_ v) (tt_ v) (by omega) (by omega)) g_X0_120 n_X0_chance ⟨Nat.le_of_ble_eq_true rfl, Nat.le_of_ble_eq_true rfl⟩ hK hP rfl rfl rfl hl.1 rfl (Nat.le_of_ble_eq_true rfl) dX0_headsPercent_24 ⟨Nat.zero_le _, Nat.zero_le _⟩ ?_
  refine nv_ladd hx hb dX0_headsPercent_27 rfl ?_
  refine rd_S (rest := []) ⟨hx, hb, hml, hown, hts⟩ (c_X0_percent l (ch_ v true (hh_ v) (tt_ v)) ((ch_ v true (hh_ v) (tt_ v)) + (ch_ v false (hh_ v) (tt_ v))) (by omega) (by omega) (by omega)) g_X0_104 n_X0_percent ⟨Nat.le_of_ble_eq_true rfl, Nat.le_of_ble_eq_true rfl⟩ rfl hl.1 rfl (Nat.le_of_ble_eq_true rfl) dX0_headsPercent_28 ⟨Nat.zero_le _, Nat.zero_le _⟩ ?_
  refine nv_topi (congrArg nI (show ((ch_ v true (hh_ v) (tt_ v)) * 100 / ((ch_ v true (hh_ v) (tt_ v)) + (ch_ v false (hh_ v) (tt_ v))) : Nat) = ch_ v true (hh_ v) (tt_ v) * 100 / (10 * wl_ v (hh_ v) (tt_ v)) from by rw [hb9])) ?_
  exact hend _ _ dX0_headsPercent_31
set_option maxHeartbeats 4000000 in
set_option maxRecDepth 100000 in
theorem c_X0_wouldSurprise (l : Launch) (D : va_G) (κ : Nat → ClassId) (a : Nat → Nat) (v : VS) (hv : ok_v v) (h_ : Bool) (hp : 0 < ch_ v h_ (hh_ v) (tt_ v)) : Rd l yX0_wouldSurprise cX0_wouldSurprise 2 (some .int) 4 108 (Pw D (kt_ κ) (xw κ a v) [.ref (a 0), .int (bI (h_))]) (.int (nI (su_ v h_ (hh_ v) (tt_ v)))) := by
  refine rd_intro (own := RX0) (by decide +kernel) rfl (Nat.le_of_ble_eq_true rfl) (fun p e s m args below meth c pc ls hx hb hr hlk d => ret_I hx hb hr hlk d) ?_
  intro p e s m args below meth c ls Qq hx hb hml hown hts hK hP hend hl
  have hl : lv_has ls 2 [(0, .ref (a 0)), (1, .int (bI (h_)))] := hl
  obtain ⟨hv1, hv2, hv3, hv4, hv5, hv6⟩ := id hv
  have hq1 := hh_le v
  have hq2 := hh_tt v
  refine lv_aload_n hx hb dX0_wouldSurprise_0 rfl (lv_at hl 0 rfl) ?_
  refine lv_iload_n hx hb dX0_wouldSurprise_1 rfl (lv_at hl 1 rfl) ?_
  refine rd_VN (rest := []) ⟨hx, hb, hml, hown, hts⟩ (c_X0_needPossible l D κ a v hv (h_) (hp)) g_X0_65 n_X0_needPossible ⟨Nat.le_of_ble_eq_true rfl, Nat.le_of_ble_eq_true rfl⟩ hK hP rfl rfl rfl hl.1 rfl (Nat.le_of_ble_eq_true rfl) dX0_wouldSurprise_2 ⟨Nat.zero_le _, Nat.zero_le _⟩ ?_
  refine lv_aload_n hx hb dX0_wouldSurprise_5 rfl (lv_at hl 0 rfl) ?_
  refine lv_iload_n hx hb dX0_wouldSurprise_6 rfl (lv_at hl 1 rfl) ?_
  refine lv_aload_n hx hb dX0_wouldSurprise_7 rfl (lv_at hl 0 rfl) ?_
  refine rd_V (rest := [.int (bI (h_)), .ref (a 0)]) ⟨hx, hb, hml, hown, hts⟩ (c_X0_headsNow l D κ a v hv) g_X0_69 n_X0_headsNow ⟨Nat.le_of_ble_eq_true rfl, Nat.le_of_ble_eq_true rfl⟩ hK hP rfl rfl rfl hl.1 rfl (Nat.le_of_ble_eq_true rfl) dX0_wouldSurprise_8 ⟨Nat.zero_le _, Nat.zero_le _⟩ ?_
  refine lv_aload_n hx hb dX0_wouldSurprise_11 rfl (lv_at hl 0 rfl) ?_
  refine rd_V (rest := [.int (nI (hh_ v)), .int (bI (h_)), .ref (a 0)]) ⟨hx, hb, hml, hown, hts⟩ (c_X0_tailsNow l D κ a v hv) g_X0_73 n_X0_tailsNow ⟨Nat.le_of_ble_eq_true rfl, Nat.le_of_ble_eq_true rfl⟩ hK hP rfl rfl rfl hl.1 rfl (Nat.le_of_ble_eq_true rfl) dX0_wouldSurprise_12 ⟨Nat.zero_le _, Nat.zero_le _⟩ ?_
  refine rd_V (rest := []) ⟨hx, hb, hml, hown, hts⟩ (c_X0_surpriseBehind l D κ a v hv (h_) (hh_ v) (tt_ v) (by omega)) g_X0_76 n_X0_surpriseBehind ⟨Nat.le_of_ble_eq_true rfl, Nat.le_of_ble_eq_true rfl⟩ hK hP rfl rfl rfl hl.1 rfl (Nat.le_of_ble_eq_true rfl) dX0_wouldSurprise_15 ⟨Nat.zero_le _, Nat.zero_le _⟩ ?_
  exact hend _ _ dX0_wouldSurprise_18
set_option maxHeartbeats 4000000 in
set_option maxRecDepth 100000 in
theorem c_X0_leaderBehind (l : Launch) (D : va_G) (κ : Nat → ClassId) (a : Nat → Nat) (v : VS) (hv : ok_v v) (h_ : Bool) (hp : 0 < ch_ v h_ (hh_ v) (tt_ v)) : Rd l yX0_leaderBehind cX0_leaderBehind 2 (some .int) 4 101 (Pw D (kt_ κ) (xw κ a v) [.ref (a 0), .int (bI (h_))]) (.int (nI (lb_ v h_))) := by
  refine rd_intro (own := RX0) (by decide +kernel) rfl (Nat.le_of_ble_eq_true rfl) (fun p e s m args below meth c pc ls hx hb hr hlk d => ret_I hx hb hr hlk d) ?_
  intro p e s m args below meth c ls Qq hx hb hml hown hts hK hP hend hl
  have hl : lv_has ls 2 [(0, .ref (a 0)), (1, .int (bI (h_)))] := hl
  obtain ⟨hv1, hv2, hv3, hv4, hv5, hv6⟩ := id hv
  have hq1 := hh_le v
  have hq2 := hh_tt v
  refine lv_aload_n hx hb dX0_leaderBehind_0 rfl (lv_at hl 0 rfl) ?_
  refine lv_iload_n hx hb dX0_leaderBehind_1 rfl (lv_at hl 1 rfl) ?_
  refine rd_VN (rest := []) ⟨hx, hb, hml, hown, hts⟩ (c_X0_needPossible l D κ a v hv (h_) (hp)) g_X0_65 n_X0_needPossible ⟨Nat.le_of_ble_eq_true rfl, Nat.le_of_ble_eq_true rfl⟩ hK hP rfl rfl rfl hl.1 rfl (Nat.le_of_ble_eq_true rfl) dX0_leaderBehind_2 ⟨Nat.zero_le _, Nat.zero_le _⟩ ?_
  refine lv_iload_n hx hb dX0_leaderBehind_5 rfl (lv_at hl 1 rfl) ?_
  refine bv_if_eq (tgt := 26) hx hb dX0_leaderBehind_6 (by decide) (fun c_6 => ?_) (fun c_6 => ?_)
  · refine lv_aload_n hx hb dX0_leaderBehind_26 rfl (lv_at hl 0 rfl) ?_
    refine lv_aload_n hx hb dX0_leaderBehind_27 rfl (lv_at hl 0 rfl) ?_
    refine rd_V (rest := [.ref (a 0)]) ⟨hx, hb, hml, hown, hts⟩ (c_X0_headsNow l D κ a v hv) g_X0_69 n_X0_headsNow ⟨Nat.le_of_ble_eq_true rfl, Nat.le_of_ble_eq_true rfl⟩ hK hP rfl rfl rfl hl.1 rfl (Nat.le_of_ble_eq_true rfl) dX0_leaderBehind_28 ⟨Nat.zero_le _, Nat.zero_le _⟩ ?_
    refine lv_aload_n hx hb dX0_leaderBehind_31 rfl (lv_at hl 0 rfl) ?_
    refine rd_V (rest := [.int (nI (hh_ v)), .ref (a 0)]) ⟨hx, hb, hml, hown, hts⟩ (c_X0_tailsNow l D κ a v hv) g_X0_73 n_X0_tailsNow ⟨Nat.le_of_ble_eq_true rfl, Nat.le_of_ble_eq_true rfl⟩ hK hP rfl rfl rfl hl.1 rfl (Nat.le_of_ble_eq_true rfl) dX0_leaderBehind_32 ⟨Nat.zero_le _, Nat.zero_le _⟩ ?_
    refine lv_iconst (v := nI (1)) hx hb dX0_leaderBehind_35 (by decide) ?_
    refine nv_iadd hx hb dX0_leaderBehind_36 rfl ?_
    refine rd_V (rest := []) ⟨hx, hb, hml, hown, hts⟩ (c_X0_leaderAt l D κ a v hv (hh_ v) ((tt_ v) + 1) (by omega)) g_X0_108 n_X0_leaderAt ⟨Nat.le_of_ble_eq_true rfl, Nat.le_of_ble_eq_true rfl⟩ hK hP rfl rfl rfl hl.1 rfl (Nat.le_of_ble_eq_true rfl) dX0_leaderBehind_37 ⟨Nat.zero_le _, Nat.zero_le _⟩ ?_
    refine nv_topi (show (la_ v (hh_ v) ((tt_ v) + 1) : Int32) = nI (lb_ v h_) from by first | exact lb_t hp c_6 | exact lb_f hp c_6) ?_
    exact hend _ _ dX0_leaderBehind_40
  · refine lv_aload_n hx hb dX0_leaderBehind_9 rfl (lv_at hl 0 rfl) ?_
    refine lv_aload_n hx hb dX0_leaderBehind_10 rfl (lv_at hl 0 rfl) ?_
    refine rd_V (rest := [.ref (a 0)]) ⟨hx, hb, hml, hown, hts⟩ (c_X0_headsNow l D κ a v hv) g_X0_69 n_X0_headsNow ⟨Nat.le_of_ble_eq_true rfl, Nat.le_of_ble_eq_true rfl⟩ hK hP rfl rfl rfl hl.1 rfl (Nat.le_of_ble_eq_true rfl) dX0_leaderBehind_11 ⟨Nat.zero_le _, Nat.zero_le _⟩ ?_
    refine lv_iconst (v := nI (1)) hx hb dX0_leaderBehind_14 (by decide) ?_
    refine nv_iadd hx hb dX0_leaderBehind_15 rfl ?_
    refine lv_aload_n hx hb dX0_leaderBehind_16 rfl (lv_at hl 0 rfl) ?_
    refine rd_V (rest := [.int (nI ((hh_ v) + 1)), .ref (a 0)]) ⟨hx, hb, hml, hown, hts⟩ (c_X0_tailsNow l D κ a v hv) g_X0_73 n_X0_tailsNow ⟨Nat.le_of_ble_eq_true rfl, Nat.le_of_ble_eq_true rfl⟩ hK hP rfl rfl rfl hl.1 rfl (Nat.le_of_ble_eq_true rfl) dX0_leaderBehind_17 ⟨Nat.zero_le _, Nat.zero_le _⟩ ?_
    refine rd_V (rest := []) ⟨hx, hb, hml, hown, hts⟩ (c_X0_leaderAt l D κ a v hv ((hh_ v) + 1) (tt_ v) (by omega)) g_X0_108 n_X0_leaderAt ⟨Nat.le_of_ble_eq_true rfl, Nat.le_of_ble_eq_true rfl⟩ hK hP rfl rfl rfl hl.1 rfl (Nat.le_of_ble_eq_true rfl) dX0_leaderBehind_20 ⟨Nat.zero_le _, Nat.zero_le _⟩ ?_
    refine lv_goto (tgt := 40) hx hb dX0_leaderBehind_23 (by decide) ?_
    refine nv_topi (show (la_ v ((hh_ v) + 1) (tt_ v) : Int32) = nI (lb_ v h_) from by first | exact lb_t hp c_6 | exact lb_f hp c_6) ?_
    exact hend _ _ dX0_leaderBehind_40
set_option maxHeartbeats 4000000 in
set_option maxRecDepth 100000 in
theorem c_X0_tossesToLead (l : Launch) (D : va_G) (κ : Nat → ClassId) (a : Nat → Nat) (v : VS) (hv : ok_v v) (c_ : Nat) (hc : c_ < vs_c v) : Rd l yX0_tossesToLead cX0_tossesToLead 5 (some .int) 3 81 (Pw D (kt_ κ) (xw κ a v) [.ref (a 0), .int (nI (c_))]) (.int (tl_ v c_)) := by
  refine rd_intro (own := RX0) (by decide +kernel) rfl (Nat.le_of_ble_eq_true rfl) (fun p e s m args below meth c pc ls hx hb hr hlk d => ret_I hx hb hr hlk d) ?_
  intro p e s m args below meth c ls Qq hx hb hml hown hts hK hP hend hl
  have hl : lv_has ls 5 [(0, .ref (a 0)), (1, .int (nI (c_)))] := hl
  obtain ⟨hv1, hv2, hv3, hv4, hv5, hv6⟩ := id hv
  have hq1 := hh_le v
  have hq2 := hh_tt v
  refine lv_aload_n hx hb dX0_tossesToLead_0 rfl (lv_at hl 0 rfl) ?_
  refine lv_iload_n hx hb dX0_tossesToLead_1 rfl (lv_at hl 1 rfl) ?_
  refine rd_VN (rest := []) ⟨hx, hb, hml, hown, hts⟩ (c_X0_needCoin l D κ a v hv (c_) (by omega)) g_X0_58 n_X0_needCoin ⟨Nat.le_of_ble_eq_true rfl, Nat.le_of_ble_eq_true rfl⟩ hK hP rfl rfl rfl hl.1 rfl (Nat.le_of_ble_eq_true rfl) dX0_tossesToLead_2 ⟨Nat.zero_le _, Nat.zero_le _⟩ ?_
  refine lv_aload_n hx hb dX0_tossesToLead_5 rfl (lv_at hl 0 rfl) ?_
  refine rd_V (rest := []) ⟨hx, hb, hml, hown, hts⟩ (c_X0_headsNow l D κ a v hv) g_X0_69 n_X0_headsNow ⟨Nat.le_of_ble_eq_true rfl, Nat.le_of_ble_eq_true rfl⟩ hK hP rfl rfl rfl hl.1 rfl (Nat.le_of_ble_eq_true rfl) dX0_tossesToLead_6 ⟨Nat.zero_le _, Nat.zero_le _⟩ ?_
  refine lv_istore_n (lv' := [(2, .int (nI (hh_ v))), (0, .ref (a 0)), (1, .int (nI (c_)))]) hx hb dX0_tossesToLead_9 rfl hl (by decide) rfl (fun ls hl => ?_)
  refine lv_aload_n hx hb dX0_tossesToLead_10 rfl (lv_at hl 1 rfl) ?_
  refine rd_V (rest := []) ⟨hx, hb, hml, hown, hts⟩ (c_X0_tailsNow l D κ a v hv) g_X0_73 n_X0_tailsNow ⟨Nat.le_of_ble_eq_true rfl, Nat.le_of_ble_eq_true rfl⟩ hK hP rfl rfl rfl hl.1 rfl (Nat.le_of_ble_eq_true rfl) dX0_tossesToLead_11 ⟨Nat.zero_le _, Nat.zero_le _⟩ ?_
  refine lv_istore_n (lv' := [(3, .int (nI (tt_ v))), (2, .int (nI (hh_ v))), (0, .ref (a 0)), (1, .int (nI (c_)))]) hx hb dX0_tossesToLead_14 rfl hl (by decide) rfl (fun ls hl => ?_)
  refine lv_iconst (v := nI (0)) hx hb dX0_tossesToLead_15 (by decide) ?_
  refine lv_istore (lv' := [(4, .int (nI (0))), (3, .int (nI (tt_ v))), (2, .int (nI (hh_ v))), (0, .ref (a 0)), (1, .int (nI (c_)))]) hx hb dX0_tossesToLead_16 hl (by decide) rfl (fun ls hl => ?_)
  suffices hloop_18 : ∀ (n_18 i : Nat) (ls : Array Slot), i + n_18 = 13 - vs_t v → lv_has ls 5 [(0, .ref (a 0)), (1, .int (nI (c_))), (2, .int (nI (hh_ v))), (3, .int (nI (tt_ v))), (4, .int (nI (i)))] → (tl_ v c_ = sr_ (tp_ v c_) (13 - vs_t v - i) i) → W p l e (rm_ 3 81) s m args below meth c s.heap [] 0 0 Qq (F0 m 18 ls []) from hloop_18 (13 - vs_t v - 0) (0) ls (by omega) (lv_sub hl [3, 4, 2, 1, 0] rfl) (rfl)
  intro n_18
  induction n_18 with
  | zero =>
    intro i ls hin_18 hl hj
    have hi_18 : i = 13 - vs_t v := by omega
    refine lv_iload hx hb dX0_tossesToLead_18 (lv_at hl 4 rfl) ?_
    refine lv_bipush (v := nI (12)) hx hb dX0_tossesToLead_20 (by decide) ?_
    refine lv_aload_n hx hb dX0_tossesToLead_22 rfl (lv_at hl 0 rfl) ?_
    refine va_get (D := D) (ci := 0) (v := .int (nI (vs_t v))) (C := RX0) (T := TX0) (N := 7) hx hb hts i_X0 hown hK hP 0 rfl rfl 6 (by decide) (hts _ q_f_X0_32) (fun _ h9 => h9) rfl dX0_tossesToLead_23 ?_
    refine nv_isub (r := 12 - (vs_t v)) hx hb dX0_tossesToLead_26 (by omega) ?_
    refine nv_icmp_gt (tgt := 65) hx hb dX0_tossesToLead_27 (by decide) (by omega) (by omega) (fun c_27 => ?_) (fun z => absurd z (by omega))
    refine lv_iconst (v := (-1)) hx hb dX0_tossesToLead_65 (by decide) ?_
    refine nv_topi (show (-1 : Int32) = tl_ v c_ from by first | exact ttl_end hj hi_18 | exact ttl_hit1 hv hc hj (by omega) c_40 | exact ttl_hit2 hv hc hj (by omega) c_53) ?_
    exact hend _ _ dX0_tossesToLead_66
  | succ n_18 ih_18 =>
    intro i ls hin_18 hl hj
    refine lv_iload hx hb dX0_tossesToLead_18 (lv_at hl 4 rfl) ?_
    refine lv_bipush (v := nI (12)) hx hb dX0_tossesToLead_20 (by decide) ?_
    refine lv_aload_n hx hb dX0_tossesToLead_22 rfl (lv_at hl 0 rfl) ?_
    refine va_get (D := D) (ci := 0) (v := .int (nI (vs_t v))) (C := RX0) (T := TX0) (N := 7) hx hb hts i_X0 hown hK hP 0 rfl rfl 6 (by decide) (hts _ q_f_X0_32) (fun _ h9 => h9) rfl dX0_tossesToLead_23 ?_
    refine nv_isub (r := 12 - (vs_t v)) hx hb dX0_tossesToLead_26 (by omega) ?_
    refine nv_icmp_gt (tgt := 65) hx hb dX0_tossesToLead_27 (by decide) (by omega) (by omega) (fun z => absurd z (by omega)) (fun c_27 => ?_)
    refine lv_aload_n hx hb dX0_tossesToLead_30 rfl (lv_at hl 0 rfl) ?_
    refine lv_iload_n hx hb dX0_tossesToLead_31 rfl (lv_at hl 2 rfl) ?_
    refine lv_iload hx hb dX0_tossesToLead_32 (lv_at hl 4 rfl) ?_
    refine nv_iadd hx hb dX0_tossesToLead_34 rfl ?_
    refine lv_iload_n hx hb dX0_tossesToLead_35 rfl (lv_at hl 3 rfl) ?_
    refine rd_V (rest := []) ⟨hx, hb, hml, hown, hts⟩ (c_X0_leaderAt l D κ a v hv ((hh_ v) + i) (tt_ v) (by omega)) g_X0_108 n_X0_leaderAt ⟨Nat.le_of_ble_eq_true rfl, Nat.le_of_ble_eq_true rfl⟩ hK hP rfl rfl rfl hl.1 rfl (Nat.le_of_ble_eq_true rfl) dX0_tossesToLead_36 ⟨Nat.zero_le _, Nat.zero_le _⟩ ?_
    refine lv_iload_n hx hb dX0_tossesToLead_39 rfl (lv_at hl 1 rfl) ?_
    refine lv_icmp_eq (tgt := 56) hx hb dX0_tossesToLead_40 (by decide) (fun c_40 => ?_) (fun c_40 => ?_)
    · refine lv_iload hx hb dX0_tossesToLead_56 (lv_at hl 4 rfl) ?_
      refine nv_topi (show (nI (i) : Int32) = tl_ v c_ from by first | exact ttl_end hj hi_18 | exact ttl_hit1 hv hc hj (by omega) c_40 | exact ttl_hit2 hv hc hj (by omega) c_53) ?_
      exact hend _ _ dX0_tossesToLead_58
    · refine lv_aload_n hx hb dX0_tossesToLead_43 rfl (lv_at hl 0 rfl) ?_
      refine lv_iload_n hx hb dX0_tossesToLead_44 rfl (lv_at hl 2 rfl) ?_
      refine lv_iload_n hx hb dX0_tossesToLead_45 rfl (lv_at hl 3 rfl) ?_
      refine lv_iload hx hb dX0_tossesToLead_46 (lv_at hl 4 rfl) ?_
      refine nv_iadd hx hb dX0_tossesToLead_48 rfl ?_
      refine rd_V (rest := []) ⟨hx, hb, hml, hown, hts⟩ (c_X0_leaderAt l D κ a v hv (hh_ v) ((tt_ v) + i) (by omega)) g_X0_108 n_X0_leaderAt ⟨Nat.le_of_ble_eq_true rfl, Nat.le_of_ble_eq_true rfl⟩ hK hP rfl rfl rfl hl.1 rfl (Nat.le_of_ble_eq_true rfl) dX0_tossesToLead_49 ⟨Nat.zero_le _, Nat.zero_le _⟩ ?_
      refine lv_iload_n hx hb dX0_tossesToLead_52 rfl (lv_at hl 1 rfl) ?_
      refine lv_icmp_ne (tgt := 59) hx hb dX0_tossesToLead_53 (by decide) (fun c_53 => ?_) (fun c_53 => ?_)
      · refine lv_iinc (v := nI (i + 1)) (lv' := [(4, .int (nI (i + 1))), (0, .ref (a 0)), (1, .int (nI (c_))), (2, .int (nI (hh_ v))), (3, .int (nI (tt_ v)))]) hx hb dX0_tossesToLead_59 hl (k := 4) rfl (nI_add _ _) (by decide) rfl (fun ls hl => ?_)
        refine lv_goto (tgt := 18) hx hb dX0_tossesToLead_62 (by decide) ?_
        exact ih_18 (i + 1) ls (by omega) (lv_cast (k := [(0, .ref (a 0)), (1, .int (nI (c_))), (2, .int (nI (hh_ v))), (3, .int (nI (tt_ v))), (4, .int (nI (i + 1)))]) (lv_sub hl [1, 2, 3, 4, 0] rfl) (lc_cons rfl (lc_cons rfl (lc_cons rfl (lc_cons rfl (lc_cons (congrArg (fun z : Nat => ((4 : Nat), Value.int (nI z))) (show (i + 1 : Nat) = (i + 1) from by first | rfl | omega)) rfl)))))) (ttl_miss hv hc hj (by omega) c_40 c_53)
      · refine lv_iload hx hb dX0_tossesToLead_56 (lv_at hl 4 rfl) ?_
        refine nv_topi (show (nI (i) : Int32) = tl_ v c_ from by first | exact ttl_end hj hi_18 | exact ttl_hit1 hv hc hj (by omega) c_40 | exact ttl_hit2 hv hc hj (by omega) c_53) ?_
        exact hend _ _ dX0_tossesToLead_58
set_option maxHeartbeats 4000000 in
set_option maxRecDepth 100000 in
theorem c_X0_decisiveTosses (l : Launch) (D : va_G) (κ : Nat → ClassId) (a : Nat → Nat) (v : VS) (hv : ok_v v) (hw : 0 < vs_t v → 0 < wl_ v (hh_ v) (tt_ v)) : Rd l yX0_decisiveTosses cX0_decisiveTosses 7 (some .int) 3 81 (Pw D (kt_ κ) (xw κ a v) [.ref (a 0)]) (.int (nI (dc_ v))) := by
  refine rd_intro (own := RX0) (by decide +kernel) rfl (Nat.le_of_ble_eq_true rfl) (fun p e s m args below meth c pc ls hx hb hr hlk d => ret_I hx hb hr hlk d) ?_
  intro p e s m args below meth c ls Qq hx hb hml hown hts hK hP hend hl
  have hl : lv_has ls 7 [(0, .ref (a 0))] := hl
  obtain ⟨hv1, hv2, hv3, hv4, hv5, hv6⟩ := id hv
  have hq1 := hh_le v
  have hq2 := hh_tt v
  refine lv_aload_n hx hb dX0_decisiveTosses_0 rfl (lv_at hl 0 rfl) ?_
  refine rd_V (rest := []) ⟨hx, hb, hml, hown, hts⟩ (c_X0_headsNow l D κ a v hv) g_X0_69 n_X0_headsNow ⟨Nat.le_of_ble_eq_true rfl, Nat.le_of_ble_eq_true rfl⟩ hK hP rfl rfl rfl hl.1 rfl (Nat.le_of_ble_eq_true rfl) dX0_decisiveTosses_1 ⟨Nat.zero_le _, Nat.zero_le _⟩ ?_
  refine lv_istore_n (lv' := [(1, .int (nI (hh_ v))), (0, .ref (a 0))]) hx hb dX0_decisiveTosses_4 rfl hl (by decide) rfl (fun ls hl => ?_)
  refine lv_aload_n hx hb dX0_decisiveTosses_5 rfl (lv_at hl 1 rfl) ?_
  refine rd_V (rest := []) ⟨hx, hb, hml, hown, hts⟩ (c_X0_tailsNow l D κ a v hv) g_X0_73 n_X0_tailsNow ⟨Nat.le_of_ble_eq_true rfl, Nat.le_of_ble_eq_true rfl⟩ hK hP rfl rfl rfl hl.1 rfl (Nat.le_of_ble_eq_true rfl) dX0_decisiveTosses_6 ⟨Nat.zero_le _, Nat.zero_le _⟩ ?_
  refine lv_istore_n (lv' := [(2, .int (nI (tt_ v))), (1, .int (nI (hh_ v))), (0, .ref (a 0))]) hx hb dX0_decisiveTosses_9 rfl hl (by decide) rfl (fun ls hl => ?_)
  refine lv_aload_n hx hb dX0_decisiveTosses_10 rfl (lv_at hl 2 rfl) ?_
  refine lv_iload_n hx hb dX0_decisiveTosses_11 rfl (lv_at hl 1 rfl) ?_
  refine lv_iload_n hx hb dX0_decisiveTosses_12 rfl (lv_at hl 0 rfl) ?_
  refine rd_V (rest := []) ⟨hx, hb, hml, hown, hts⟩ (c_X0_leaderAt l D κ a v hv (hh_ v) (tt_ v) (by omega)) g_X0_108 n_X0_leaderAt ⟨Nat.le_of_ble_eq_true rfl, Nat.le_of_ble_eq_true rfl⟩ hK hP rfl rfl rfl hl.1 rfl (Nat.le_of_ble_eq_true rfl) dX0_decisiveTosses_13 ⟨Nat.zero_le _, Nat.zero_le _⟩ ?_
  refine lv_istore_n (lv' := [(3, .int (la_ v (hh_ v) (tt_ v))), (2, .int (nI (tt_ v))), (1, .int (nI (hh_ v))), (0, .ref (a 0))]) hx hb dX0_decisiveTosses_16 rfl hl (by decide) rfl (fun ls hl => ?_)
  refine lv_iconst (v := nI (0)) hx hb dX0_decisiveTosses_17 (by decide) ?_
  refine lv_istore (lv' := [(4, .int (nI (0))), (3, .int (la_ v (hh_ v) (tt_ v))), (2, .int (nI (tt_ v))), (1, .int (nI (hh_ v))), (0, .ref (a 0))]) hx hb dX0_decisiveTosses_18 hl (by decide) rfl (fun ls hl => ?_)
  refine lv_iconst (v := nI (0)) hx hb dX0_decisiveTosses_20 (by decide) ?_
  refine lv_istore (lv' := [(5, .int (nI (0))), (4, .int (nI (0))), (3, .int (la_ v (hh_ v) (tt_ v))), (2, .int (nI (tt_ v))), (1, .int (nI (hh_ v))), (0, .ref (a 0))]) hx hb dX0_decisiveTosses_21 hl (by decide) rfl (fun ls hl => ?_)
  suffices hloop_23 : ∀ (n_23 i : Nat) (ls : Array Slot), i + n_23 = vs_t v → lv_has ls 7 [(0, .ref (a 0)), (1, .int (nI (hh_ v))), (2, .int (nI (tt_ v))), (3, .int (la_ v (hh_ v) (tt_ v))), (4, .int (nI (sm_ (dcf_ v) i))), (5, .int (nI (i)))] → W p l e (rm_ 3 81) s m args below meth c s.heap [] 0 0 Qq (F0 m 23 ls []) from hloop_23 (vs_t v - 0) (0) ls (by omega) (lv_cast (k := [(0, .ref (a 0)), (1, .int (nI (hh_ v))), (2, .int (nI (tt_ v))), (3, .int (la_ v (hh_ v) (tt_ v))), (4, .int (nI (0))), (5, .int (nI (0)))]) (lv_sub hl [5, 4, 3, 2, 1, 0] rfl) (lc_cons rfl (lc_cons rfl (lc_cons rfl (lc_cons rfl (lc_cons (congrArg (fun z : Nat => ((4 : Nat), Value.int (nI z))) (show (0 : Nat) = sm_ (dcf_ v) 0 from by first | rfl | omega)) (lc_cons rfl rfl)))))))
  intro n_23
  induction n_23 with
  | zero =>
    intro i ls hin_23 hl
    have hi_23 : i = vs_t v := by omega
    refine lv_iload hx hb dX0_decisiveTosses_23 (lv_at hl 5 rfl) ?_
    refine lv_aload_n hx hb dX0_decisiveTosses_25 rfl (lv_at hl 0 rfl) ?_
    refine va_get (D := D) (ci := 0) (v := .int (nI (vs_t v))) (C := RX0) (T := TX0) (N := 7) hx hb hts i_X0 hown hK hP 0 rfl rfl 6 (by decide) (hts _ q_f_X0_32) (fun _ h9 => h9) rfl dX0_decisiveTosses_26 ?_
    refine nv_icmp_ge (tgt := 78) hx hb dX0_decisiveTosses_29 (by decide) (by omega) (by omega) (fun c_29 => ?_) (fun z => absurd z (by omega))
    refine lv_iload hx hb dX0_decisiveTosses_78 (lv_at hl 4 rfl) ?_
    refine nv_topi (congrArg nI (show (sm_ (dcf_ v) i : Nat) = dc_ v from by rw [hi_23]; rfl)) ?_
    exact hend _ _ dX0_decisiveTosses_80
  | succ n_23 ih_23 =>
    intro i ls hin_23 hl
    refine lv_iload hx hb dX0_decisiveTosses_23 (lv_at hl 5 rfl) ?_
    refine lv_aload_n hx hb dX0_decisiveTosses_25 rfl (lv_at hl 0 rfl) ?_
    refine va_get (D := D) (ci := 0) (v := .int (nI (vs_t v))) (C := RX0) (T := TX0) (N := 7) hx hb hts i_X0 hown hK hP 0 rfl rfl 6 (by decide) (hts _ q_f_X0_32) (fun _ h9 => h9) rfl dX0_decisiveTosses_26 ?_
    refine nv_icmp_ge (tgt := 78) hx hb dX0_decisiveTosses_29 (by decide) (by omega) (by omega) (fun z => absurd z (by omega)) (fun c_29 => ?_)
    refine lv_aload_n hx hb dX0_decisiveTosses_32 rfl (lv_at hl 0 rfl) ?_
    refine va_get (D := D) (ci := 0) (v := .ref (a 4)) (C := RX0) (T := TX0) (N := 7) hx hb hts i_X0 hown hK hP 0 rfl rfl 3 (by decide) (hts _ q_f_X0_21) (fun _ h9 => h9) rfl dX0_decisiveTosses_33 ?_
    refine lv_iload hx hb dX0_decisiveTosses_36 (lv_at hl 5 rfl) ?_
    refine nv_zald hx hb hK hP 4 2 (n := 12) (v := bI (vs_th v i)) rfl rfl (by omega) (by decide) rfl dX0_decisiveTosses_38 ?_
    refine bv_if_eq (tgt := 53) hx hb dX0_decisiveTosses_39 (by decide) (fun c_39 => ?_) (fun c_39 => ?_)
    · refine lv_aload_n hx hb dX0_decisiveTosses_53 rfl (lv_at hl 0 rfl) ?_
      refine lv_iload_n hx hb dX0_decisiveTosses_54 rfl (lv_at hl 1 rfl) ?_
      refine lv_iload_n hx hb dX0_decisiveTosses_55 rfl (lv_at hl 2 rfl) ?_
      refine lv_iconst (v := nI (1)) hx hb dX0_decisiveTosses_56 (by decide) ?_
      refine nv_isub (r := (tt_ v) - 1) hx hb dX0_decisiveTosses_57 (by have := tt_pos (v := v) (i := i) (by omega) c_39; omega) ?_
      refine rd_V (rest := []) ⟨hx, hb, hml, hown, hts⟩ (c_X0_leaderAt l D κ a v hv (hh_ v) ((tt_ v) - 1) (by omega)) g_X0_108 n_X0_leaderAt ⟨Nat.le_of_ble_eq_true rfl, Nat.le_of_ble_eq_true rfl⟩ hK hP rfl rfl rfl hl.1 rfl (Nat.le_of_ble_eq_true rfl) dX0_decisiveTosses_58 ⟨Nat.zero_le _, Nat.zero_le _⟩ ?_
      refine nv_topi (show (la_ v (hh_ v) ((tt_ v) - 1) : Int32) = nI (lw_ v i) from by exact lw_la_f (hw (by omega)) c_39) ?_
      refine lv_istore (lv' := [(6, .int (nI (lw_ v i))), (0, .ref (a 0)), (1, .int (nI (hh_ v))), (2, .int (nI (tt_ v))), (3, .int (la_ v (hh_ v) (tt_ v))), (4, .int (nI (sm_ (dcf_ v) i))), (5, .int (nI (i)))]) hx hb dX0_decisiveTosses_61 hl (by decide) rfl (fun ls hl => ?_)
      refine lv_iload hx hb dX0_decisiveTosses_63 (lv_at hl 0 rfl) ?_
      refine lv_iload_n hx hb dX0_decisiveTosses_65 rfl (lv_at hl 4 rfl) ?_
      refine lv_icmp_eq (tgt := 72) hx hb dX0_decisiveTosses_66 (by decide) (fun c_66 => ?_) (fun c_66 => ?_)
      · refine lv_iinc (v := nI (i + 1)) (lv' := [(5, .int (nI (i + 1))), (6, .int (nI (lw_ v i))), (0, .ref (a 0)), (1, .int (nI (hh_ v))), (2, .int (nI (tt_ v))), (3, .int (la_ v (hh_ v) (tt_ v))), (4, .int (nI (sm_ (dcf_ v) i)))]) hx hb dX0_decisiveTosses_72 hl (k := 6) rfl (nI_add _ _) (by decide) rfl (fun ls hl => ?_)
        refine lv_goto (tgt := 23) hx hb dX0_decisiveTosses_75 (by decide) ?_
        exact ih_23 (i + 1) ls (by omega) (lv_cast (k := [(0, .ref (a 0)), (1, .int (nI (hh_ v))), (2, .int (nI (tt_ v))), (3, .int (la_ v (hh_ v) (tt_ v))), (4, .int (nI (sm_ (dcf_ v) i))), (5, .int (nI (i + 1)))]) (lv_sub hl [2, 3, 4, 5, 6, 0] rfl) (lc_cons rfl (lc_cons rfl (lc_cons rfl (lc_cons rfl (lc_cons (congrArg (fun z : Nat => ((4 : Nat), Value.int (nI z))) (show (sm_ (dcf_ v) i : Nat) = sm_ (dcf_ v) (i + 1) from by first | exact dc_e hv (hw (by omega)) c_66 | exact dc_n hv (hw (by omega)) c_66)) (lc_cons (congrArg (fun z : Nat => ((5 : Nat), Value.int (nI z))) (show (i + 1 : Nat) = (i + 1) from by first | rfl | omega)) rfl)))))))
      · refine lv_iinc (v := nI ((sm_ (dcf_ v) i) + 1)) (lv' := [(4, .int (nI ((sm_ (dcf_ v) i) + 1))), (6, .int (nI (lw_ v i))), (0, .ref (a 0)), (1, .int (nI (hh_ v))), (2, .int (nI (tt_ v))), (3, .int (la_ v (hh_ v) (tt_ v))), (5, .int (nI (i)))]) hx hb dX0_decisiveTosses_69 hl (k := 5) rfl (nI_add _ _) (by decide) rfl (fun ls hl => ?_)
        refine lv_iinc (v := nI (i + 1)) (lv' := [(5, .int (nI (i + 1))), (4, .int (nI ((sm_ (dcf_ v) i) + 1))), (6, .int (nI (lw_ v i))), (0, .ref (a 0)), (1, .int (nI (hh_ v))), (2, .int (nI (tt_ v))), (3, .int (la_ v (hh_ v) (tt_ v)))]) hx hb dX0_decisiveTosses_72 hl (k := 6) rfl (nI_add _ _) (by decide) rfl (fun ls hl => ?_)
        refine lv_goto (tgt := 23) hx hb dX0_decisiveTosses_75 (by decide) ?_
        exact ih_23 (i + 1) ls (by omega) (lv_cast (k := [(0, .ref (a 0)), (1, .int (nI (hh_ v))), (2, .int (nI (tt_ v))), (3, .int (la_ v (hh_ v) (tt_ v))), (4, .int (nI ((sm_ (dcf_ v) i) + 1))), (5, .int (nI (i + 1)))]) (lv_sub hl [3, 4, 5, 6, 1, 0] rfl) (lc_cons rfl (lc_cons rfl (lc_cons rfl (lc_cons rfl (lc_cons (congrArg (fun z : Nat => ((4 : Nat), Value.int (nI z))) (show ((sm_ (dcf_ v) i) + 1 : Nat) = sm_ (dcf_ v) (i + 1) from by first | exact dc_e hv (hw (by omega)) c_66 | exact dc_n hv (hw (by omega)) c_66)) (lc_cons (congrArg (fun z : Nat => ((5 : Nat), Value.int (nI z))) (show (i + 1 : Nat) = (i + 1) from by first | rfl | omega)) rfl)))))))
    · refine lv_aload_n hx hb dX0_decisiveTosses_42 rfl (lv_at hl 0 rfl) ?_
      refine lv_iload_n hx hb dX0_decisiveTosses_43 rfl (lv_at hl 1 rfl) ?_
      refine lv_iconst (v := nI (1)) hx hb dX0_decisiveTosses_44 (by decide) ?_
      refine nv_isub (r := (hh_ v) - 1) hx hb dX0_decisiveTosses_45 (by have := hh_pos (v := v) (i := i) (by omega) c_39; omega) ?_
      refine lv_iload_n hx hb dX0_decisiveTosses_46 rfl (lv_at hl 2 rfl) ?_
      refine rd_V (rest := []) ⟨hx, hb, hml, hown, hts⟩ (c_X0_leaderAt l D κ a v hv ((hh_ v) - 1) (tt_ v) (by omega)) g_X0_108 n_X0_leaderAt ⟨Nat.le_of_ble_eq_true rfl, Nat.le_of_ble_eq_true rfl⟩ hK hP rfl rfl rfl hl.1 rfl (Nat.le_of_ble_eq_true rfl) dX0_decisiveTosses_47 ⟨Nat.zero_le _, Nat.zero_le _⟩ ?_
      refine lv_goto (tgt := 61) hx hb dX0_decisiveTosses_50 (by decide) ?_
      refine nv_topi (show (la_ v ((hh_ v) - 1) (tt_ v) : Int32) = nI (lw_ v i) from by exact lw_la_t (hw (by omega)) c_39) ?_
      refine lv_istore (lv' := [(6, .int (nI (lw_ v i))), (0, .ref (a 0)), (1, .int (nI (hh_ v))), (2, .int (nI (tt_ v))), (3, .int (la_ v (hh_ v) (tt_ v))), (4, .int (nI (sm_ (dcf_ v) i))), (5, .int (nI (i)))]) hx hb dX0_decisiveTosses_61 hl (by decide) rfl (fun ls hl => ?_)
      refine lv_iload hx hb dX0_decisiveTosses_63 (lv_at hl 0 rfl) ?_
      refine lv_iload_n hx hb dX0_decisiveTosses_65 rfl (lv_at hl 4 rfl) ?_
      refine lv_icmp_eq (tgt := 72) hx hb dX0_decisiveTosses_66 (by decide) (fun c_66 => ?_) (fun c_66 => ?_)
      · refine lv_iinc (v := nI (i + 1)) (lv' := [(5, .int (nI (i + 1))), (6, .int (nI (lw_ v i))), (0, .ref (a 0)), (1, .int (nI (hh_ v))), (2, .int (nI (tt_ v))), (3, .int (la_ v (hh_ v) (tt_ v))), (4, .int (nI (sm_ (dcf_ v) i)))]) hx hb dX0_decisiveTosses_72 hl (k := 6) rfl (nI_add _ _) (by decide) rfl (fun ls hl => ?_)
        refine lv_goto (tgt := 23) hx hb dX0_decisiveTosses_75 (by decide) ?_
        exact ih_23 (i + 1) ls (by omega) (lv_cast (k := [(0, .ref (a 0)), (1, .int (nI (hh_ v))), (2, .int (nI (tt_ v))), (3, .int (la_ v (hh_ v) (tt_ v))), (4, .int (nI (sm_ (dcf_ v) i))), (5, .int (nI (i + 1)))]) (lv_sub hl [2, 3, 4, 5, 6, 0] rfl) (lc_cons rfl (lc_cons rfl (lc_cons rfl (lc_cons rfl (lc_cons (congrArg (fun z : Nat => ((4 : Nat), Value.int (nI z))) (show (sm_ (dcf_ v) i : Nat) = sm_ (dcf_ v) (i + 1) from by first | exact dc_e hv (hw (by omega)) c_66 | exact dc_n hv (hw (by omega)) c_66)) (lc_cons (congrArg (fun z : Nat => ((5 : Nat), Value.int (nI z))) (show (i + 1 : Nat) = (i + 1) from by first | rfl | omega)) rfl)))))))
      · refine lv_iinc (v := nI ((sm_ (dcf_ v) i) + 1)) (lv' := [(4, .int (nI ((sm_ (dcf_ v) i) + 1))), (6, .int (nI (lw_ v i))), (0, .ref (a 0)), (1, .int (nI (hh_ v))), (2, .int (nI (tt_ v))), (3, .int (la_ v (hh_ v) (tt_ v))), (5, .int (nI (i)))]) hx hb dX0_decisiveTosses_69 hl (k := 5) rfl (nI_add _ _) (by decide) rfl (fun ls hl => ?_)
        refine lv_iinc (v := nI (i + 1)) (lv' := [(5, .int (nI (i + 1))), (4, .int (nI ((sm_ (dcf_ v) i) + 1))), (6, .int (nI (lw_ v i))), (0, .ref (a 0)), (1, .int (nI (hh_ v))), (2, .int (nI (tt_ v))), (3, .int (la_ v (hh_ v) (tt_ v)))]) hx hb dX0_decisiveTosses_72 hl (k := 6) rfl (nI_add _ _) (by decide) rfl (fun ls hl => ?_)
        refine lv_goto (tgt := 23) hx hb dX0_decisiveTosses_75 (by decide) ?_
        exact ih_23 (i + 1) ls (by omega) (lv_cast (k := [(0, .ref (a 0)), (1, .int (nI (hh_ v))), (2, .int (nI (tt_ v))), (3, .int (la_ v (hh_ v) (tt_ v))), (4, .int (nI ((sm_ (dcf_ v) i) + 1))), (5, .int (nI (i + 1)))]) (lv_sub hl [3, 4, 5, 6, 1, 0] rfl) (lc_cons rfl (lc_cons rfl (lc_cons rfl (lc_cons rfl (lc_cons (congrArg (fun z : Nat => ((4 : Nat), Value.int (nI z))) (show ((sm_ (dcf_ v) i) + 1 : Nat) = sm_ (dcf_ v) (i + 1) from by first | exact dc_e hv (hw (by omega)) c_66 | exact dc_n hv (hw (by omega)) c_66)) (lc_cons (congrArg (fun z : Nat => ((5 : Nat), Value.int (nI z))) (show (i + 1 : Nat) = (i + 1) from by first | rfl | omega)) rfl)))))))
set_option maxHeartbeats 4000000 in
set_option maxRecDepth 100000 in
theorem c_X0_meanTenths (l : Launch) (D : va_G) (κ : Nat → ClassId) (a : Nat → Nat) (v : VS) (hv : ok_v v) (hw : 0 < wl_ v (hh_ v) (tt_ v)) : Rd l yX0_meanTenths cX0_meanTenths 3 (some .double) 4 98 (Pw D (kt_ κ) (xw κ a v) [.ref (a 0)]) (.double (mt_ v)) := by
  refine rd_intro (own := RX0) (by decide +kernel) rfl (Nat.le_of_ble_eq_true rfl) (fun p e s m args below meth c pc ls hx hb hr hlk d => ret_D hx hb hr hlk d) ?_
  intro p e s m args below meth c ls Qq hx hb hml hown hts hK hP hend hl
  have hl : lv_has ls 3 [(0, .ref (a 0))] := hl
  obtain ⟨hv1, hv2, hv3, hv4, hv5, hv6⟩ := id hv
  have hq1 := hh_le v
  have hq2 := hh_tt v
  have hb2 := wl_b hv (a := hh_ v) (b := tt_ v) (by omega)
  refine lv_aload_n hx hb dX0_meanTenths_0 rfl (lv_at hl 0 rfl) ?_
  refine rd_V (rest := []) ⟨hx, hb, hml, hown, hts⟩ (c_X0_wholeNow l D κ a v hv) g_X0_100 n_X0_wholeNow ⟨Nat.le_of_ble_eq_true rfl, Nat.le_of_ble_eq_true rfl⟩ hK hP rfl rfl rfl hl.1 rfl (Nat.le_of_ble_eq_true rfl) dX0_meanTenths_1 ⟨Nat.zero_le _, Nat.zero_le _⟩ ?_
  refine lv_lstore_n (lv' := [(1, .long (lN (wl_ v (hh_ v) (tt_ v)))), (0, .ref (a 0))]) hx hb dX0_meanTenths_4 rfl hl (by decide) rfl (fun ls hl => ?_)
  refine lv_lload_n hx hb dX0_meanTenths_5 rfl (lv_at hl 0 rfl) ?_
  refine lv_lconst (v := lN (0)) hx hb dX0_meanTenths_6 (by decide) ?_
  refine nv_lc_ne (tgt := 21) hx hb dX0_meanTenths_7 dX0_meanTenths_8 (by decide) (by omega) (by omega) (fun c_8 => ?_) (fun z => absurd z (by omega))
  refine lv_aload_n hx hb dX0_meanTenths_21 rfl (lv_at hl 1 rfl) ?_
  refine lv_iconst (v := nI (1)) hx hb dX0_meanTenths_22 (by decide) ?_
  refine nv_topi (show (nI (1) : Int32) = bI (true) from by rfl) ?_
  refine lv_aload_n hx hb dX0_meanTenths_23 rfl (lv_at hl 1 rfl) ?_
  refine rd_V (rest := [.int (bI (true)), .ref (a 0)]) ⟨hx, hb, hml, hown, hts⟩ (c_X0_headsNow l D κ a v hv) g_X0_69 n_X0_headsNow ⟨Nat.le_of_ble_eq_true rfl, Nat.le_of_ble_eq_true rfl⟩ hK hP rfl rfl rfl hl.1 rfl (Nat.le_of_ble_eq_true rfl) dX0_meanTenths_24 ⟨Nat.zero_le _, Nat.zero_le _⟩ ?_
  refine lv_aload_n hx hb dX0_meanTenths_27 rfl (lv_at hl 1 rfl) ?_
  refine rd_V (rest := [.int (nI (hh_ v)), .int (bI (true)), .ref (a 0)]) ⟨hx, hb, hml, hown, hts⟩ (c_X0_tailsNow l D κ a v hv) g_X0_73 n_X0_tailsNow ⟨Nat.le_of_ble_eq_true rfl, Nat.le_of_ble_eq_true rfl⟩ hK hP rfl rfl rfl hl.1 rfl (Nat.le_of_ble_eq_true rfl) dX0_meanTenths_28 ⟨Nat.zero_le _, Nat.zero_le _⟩ ?_
  refine rd_V (rest := []) ⟨hx, hb, hml, hown, hts⟩ (c_X0_chance l D κ a v hv (true) (hh_ v) (tt_ v) (by omega) (by omega)) g_X0_120 n_X0_chance ⟨Nat.le_of_ble_eq_true rfl, Nat.le_of_ble_eq_true rfl⟩ hK hP rfl rfl rfl hl.1 rfl (Nat.le_of_ble_eq_true rfl) dX0_meanTenths_31 ⟨Nat.zero_le _, Nat.zero_le _⟩ ?_
  refine lv_l2d hx hb dX0_meanTenths_34 ?_
  refine lv_lload_n hx hb dX0_meanTenths_35 rfl (lv_at hl 0 rfl) ?_
  refine lv_l2d hx hb dX0_meanTenths_36 ?_
  refine lv_ddiv hx hb dX0_meanTenths_37 (dd_ok _ hw (by omega)) ?_
  refine nv_top (congrArg Value.double (show (FP.ddiv (FP.l2d (lN (ch_ v true (hh_ v) (tt_ v)))) (FP.l2d (lN (wl_ v (hh_ v) (tt_ v)))) : UInt64) = mt_ v from by rfl)) ?_
  exact hend _ _ dX0_meanTenths_38
set_option maxHeartbeats 4000000 in
set_option maxRecDepth 100000 in
theorem c_X0_digestWithCoins (l : Launch) (D : va_G) (κ : Nat → ClassId) (a : Nat → Nat) (v : VS) (hv : ok_v v) (d_ : Int64) : Rd l yX0_digestWithCoins cX0_digestWithCoins 8 (some .long) 4 105 (Pw D (kt_ κ) (xw κ a v) [.ref (a 0), .long (d_)]) (.long (dC_ v d_ (vs_c v))) := by
  refine rd_intro (own := RX0) (by decide +kernel) rfl (Nat.le_of_ble_eq_true rfl) (fun p e s m args below meth c pc ls hx hb hr hlk d => ret_L hx hb hr hlk d) ?_
  intro p e s m args below meth c ls Qq hx hb hml hown hts hK hP hend hl
  have hl : lv_has ls 8 [(0, .ref (a 0)), (1, .long (d_))] := hl
  obtain ⟨hv1, hv2, hv3, hv4, hv5, hv6⟩ := id hv
  have hq1 := hh_le v
  have hq2 := hh_tt v
  refine lv_aload_n hx hb dX0_digestWithCoins_0 rfl (lv_at hl 0 rfl) ?_
  refine rd_V (rest := []) ⟨hx, hb, hml, hown, hts⟩ (c_X0_headsNow l D κ a v hv) g_X0_69 n_X0_headsNow ⟨Nat.le_of_ble_eq_true rfl, Nat.le_of_ble_eq_true rfl⟩ hK hP rfl rfl rfl hl.1 rfl (Nat.le_of_ble_eq_true rfl) dX0_digestWithCoins_1 ⟨Nat.zero_le _, Nat.zero_le _⟩ ?_
  refine lv_istore_n (lv' := [(3, .int (nI (hh_ v))), (0, .ref (a 0)), (1, .long (d_))]) hx hb dX0_digestWithCoins_4 rfl hl (by decide) rfl (fun ls hl => ?_)
  refine lv_aload_n hx hb dX0_digestWithCoins_5 rfl (lv_at hl 1 rfl) ?_
  refine rd_V (rest := []) ⟨hx, hb, hml, hown, hts⟩ (c_X0_tailsNow l D κ a v hv) g_X0_73 n_X0_tailsNow ⟨Nat.le_of_ble_eq_true rfl, Nat.le_of_ble_eq_true rfl⟩ hK hP rfl rfl rfl hl.1 rfl (Nat.le_of_ble_eq_true rfl) dX0_digestWithCoins_6 ⟨Nat.zero_le _, Nat.zero_le _⟩ ?_
  refine lv_istore (lv' := [(4, .int (nI (tt_ v))), (3, .int (nI (hh_ v))), (0, .ref (a 0)), (1, .long (d_))]) hx hb dX0_digestWithCoins_9 hl (by decide) rfl (fun ls hl => ?_)
  refine lv_lload_n hx hb dX0_digestWithCoins_11 rfl (lv_at hl 3 rfl) ?_
  refine lv_lstore (lv' := [(5, .long (d_)), (4, .int (nI (tt_ v))), (3, .int (nI (hh_ v))), (0, .ref (a 0)), (1, .long (d_))]) hx hb dX0_digestWithCoins_12 hl (by decide) rfl (fun ls hl => ?_)
  refine lv_iconst (v := nI (0)) hx hb dX0_digestWithCoins_14 (by decide) ?_
  refine lv_istore (lv' := [(7, .int (nI (0))), (5, .long (d_)), (4, .int (nI (tt_ v))), (3, .int (nI (hh_ v))), (0, .ref (a 0)), (1, .long (d_))]) hx hb dX0_digestWithCoins_15 hl (by decide) rfl (fun ls hl => ?_)
  suffices hloop_17 : ∀ (n_17 i : Nat) (ls : Array Slot), i + n_17 = vs_c v → lv_has ls 8 [(0, .ref (a 0)), (1, .long (d_)), (3, .int (nI (hh_ v))), (4, .int (nI (tt_ v))), (5, .long (dC_ v d_ i)), (7, .int (nI (i)))] → W p l e (rm_ 4 105) s m args below meth c s.heap [] 0 0 Qq (F0 m 17 ls []) from hloop_17 (vs_c v - 0) (0) ls (by omega) (lv_cast (k := [(0, .ref (a 0)), (1, .long (d_)), (3, .int (nI (hh_ v))), (4, .int (nI (tt_ v))), (5, .long (d_)), (7, .int (nI (0)))]) (lv_sub hl [4, 5, 3, 2, 1, 0] rfl) (lc_cons rfl (lc_cons rfl (lc_cons rfl (lc_cons rfl (lc_cons (congrArg (fun z : Int64 => ((5 : Nat), Value.long z)) (show (d_ : Int64) = dC_ v d_ 0 from by rfl)) (lc_cons rfl rfl)))))))
  intro n_17
  induction n_17 with
  | zero =>
    intro i ls hin_17 hl
    have hi_17 : i = vs_c v := by omega
    have h4 := hv4 i
    refine lv_iload hx hb dX0_digestWithCoins_17 (lv_at hl 5 rfl) ?_
    refine lv_aload_n hx hb dX0_digestWithCoins_19 rfl (lv_at hl 0 rfl) ?_
    refine va_get (D := D) (ci := 0) (v := .int (nI (vs_c v))) (C := RX0) (T := TX0) (N := 7) hx hb hts i_X0 hown hK hP 0 rfl rfl 4 (by decide) (hts _ q_f_X0_25) (fun _ h9 => h9) rfl dX0_digestWithCoins_20 ?_
    refine nv_icmp_ge (tgt := 77) hx hb dX0_digestWithCoins_23 (by decide) (by omega) (by omega) (fun c_23 => ?_) (fun z => absurd z (by omega))
    refine lv_lload hx hb dX0_digestWithCoins_77 (lv_at hl 4 rfl) ?_
    refine nv_topl (show (dC_ v d_ i : Int64) = dC_ v d_ (vs_c v) from by rw [hi_17]) ?_
    exact hend _ _ dX0_digestWithCoins_79
  | succ n_17 ih_17 =>
    intro i ls hin_17 hl
    have h4 := hv4 i
    refine lv_iload hx hb dX0_digestWithCoins_17 (lv_at hl 5 rfl) ?_
    refine lv_aload_n hx hb dX0_digestWithCoins_19 rfl (lv_at hl 0 rfl) ?_
    refine va_get (D := D) (ci := 0) (v := .int (nI (vs_c v))) (C := RX0) (T := TX0) (N := 7) hx hb hts i_X0 hown hK hP 0 rfl rfl 4 (by decide) (hts _ q_f_X0_25) (fun _ h9 => h9) rfl dX0_digestWithCoins_20 ?_
    refine nv_icmp_ge (tgt := 77) hx hb dX0_digestWithCoins_23 (by decide) (by omega) (by omega) (fun z => absurd z (by omega)) (fun c_23 => ?_)
    refine lv_lload hx hb dX0_digestWithCoins_26 (lv_at hl 4 rfl) ?_
    refine lv_aload_n hx hb dX0_digestWithCoins_28 rfl (lv_at hl 0 rfl) ?_
    refine va_get (D := D) (ci := 0) (v := .ref (a 1)) (C := RX0) (T := TX0) (N := 7) hx hb hts i_X0 hown hK hP 0 rfl rfl 0 (by decide) (hts _ q_f_X0_9) (fun _ h9 => h9) rfl dX0_digestWithCoins_29 ?_
    refine lv_iload hx hb dX0_digestWithCoins_32 (lv_at hl 5 rfl) ?_
    refine nv_iald hx hb hK hP 1 0 (n := 8) (v := nI (vs_ct v i)) rfl rfl (by omega) (by decide) rfl dX0_digestWithCoins_34 ?_
    refine nv_i2l hx hb dX0_digestWithCoins_35 (by omega) ?_
    refine rd_S (rest := []) ⟨hx, hb, hml, hown, hts⟩ (c_X0_digestWith l (dC_ v d_ i) (lN (vs_ct v i))) g_X0_129 n_X0_digestWith ⟨Nat.le_of_ble_eq_true rfl, Nat.le_of_ble_eq_true rfl⟩ rfl hl.1 rfl (Nat.le_of_ble_eq_true rfl) dX0_digestWithCoins_36 ⟨Nat.zero_le _, Nat.zero_le _⟩ ?_
    refine lv_lstore (lv' := [(5, .long (dg_ (dC_ v d_ i) (lN (vs_ct v i)))), (0, .ref (a 0)), (1, .long (d_)), (3, .int (nI (hh_ v))), (4, .int (nI (tt_ v))), (7, .int (nI (i)))]) hx hb dX0_digestWithCoins_39 hl (by decide) rfl (fun ls hl => ?_)
    refine lv_lload hx hb dX0_digestWithCoins_41 (lv_at hl 0 rfl) ?_
    refine lv_aload_n hx hb dX0_digestWithCoins_43 rfl (lv_at hl 1 rfl) ?_
    refine lv_iload hx hb dX0_digestWithCoins_44 (lv_at hl 5 rfl) ?_
    refine lv_iload_n hx hb dX0_digestWithCoins_46 rfl (lv_at hl 3 rfl) ?_
    refine lv_iload hx hb dX0_digestWithCoins_47 (lv_at hl 4 rfl) ?_
    refine rd_V (rest := [.long (dg_ (dC_ v d_ i) (lN (vs_ct v i)))]) ⟨hx, hb, hml, hown, hts⟩ (c_X0_coinWeightAt l D κ a v hv (i) (hh_ v) (tt_ v) (by omega) (by omega) (by omega)) g_X0_93 n_X0_coinWeightAt ⟨Nat.le_of_ble_eq_true rfl, Nat.le_of_ble_eq_true rfl⟩ hK hP rfl rfl rfl hl.1 rfl (Nat.le_of_ble_eq_true rfl) dX0_digestWithCoins_49 ⟨Nat.zero_le _, Nat.zero_le _⟩ ?_
    refine rd_S (rest := []) ⟨hx, hb, hml, hown, hts⟩ (c_X0_digestWith l (dg_ (dC_ v d_ i) (lN (vs_ct v i))) (lN (wt_ v i (hh_ v) (tt_ v)))) g_X0_129 n_X0_digestWith ⟨Nat.le_of_ble_eq_true rfl, Nat.le_of_ble_eq_true rfl⟩ rfl hl.1 rfl (Nat.le_of_ble_eq_true rfl) dX0_digestWithCoins_52 ⟨Nat.zero_le _, Nat.zero_le _⟩ ?_
    refine lv_lstore (lv' := [(5, .long (dg_ (dg_ (dC_ v d_ i) (lN (vs_ct v i))) (lN (wt_ v i (hh_ v) (tt_ v))))), (0, .ref (a 0)), (1, .long (d_)), (3, .int (nI (hh_ v))), (4, .int (nI (tt_ v))), (7, .int (nI (i)))]) hx hb dX0_digestWithCoins_55 hl (by decide) rfl (fun ls hl => ?_)
    refine lv_lload hx hb dX0_digestWithCoins_57 (lv_at hl 0 rfl) ?_
    refine lv_aload_n hx hb dX0_digestWithCoins_59 rfl (lv_at hl 1 rfl) ?_
    refine lv_iload hx hb dX0_digestWithCoins_60 (lv_at hl 5 rfl) ?_
    refine rd_V (rest := [.long (dg_ (dg_ (dC_ v d_ i) (lN (vs_ct v i))) (lN (wt_ v i (hh_ v) (tt_ v))))]) ⟨hx, hb, hml, hown, hts⟩ (c_X0_tossesToLead l D κ a v hv (i) (by omega)) g_X0_191 n_X0_tossesToLead ⟨Nat.le_of_ble_eq_true rfl, Nat.le_of_ble_eq_true rfl⟩ hK hP rfl rfl rfl hl.1 rfl (Nat.le_of_ble_eq_true rfl) dX0_digestWithCoins_62 ⟨Nat.zero_le _, Nat.zero_le _⟩ ?_
    refine lv_i2l (v := (tl_ v i).toInt64) hx hb dX0_digestWithCoins_65 rfl ?_
    refine rd_S (rest := []) ⟨hx, hb, hml, hown, hts⟩ (c_X0_digestWith l (dg_ (dg_ (dC_ v d_ i) (lN (vs_ct v i))) (lN (wt_ v i (hh_ v) (tt_ v)))) ((tl_ v i).toInt64)) g_X0_129 n_X0_digestWith ⟨Nat.le_of_ble_eq_true rfl, Nat.le_of_ble_eq_true rfl⟩ rfl hl.1 rfl (Nat.le_of_ble_eq_true rfl) dX0_digestWithCoins_66 ⟨Nat.zero_le _, Nat.zero_le _⟩ ?_
    refine lv_lstore (lv' := [(5, .long (dg_ (dg_ (dg_ (dC_ v d_ i) (lN (vs_ct v i))) (lN (wt_ v i (hh_ v) (tt_ v)))) ((tl_ v i).toInt64))), (0, .ref (a 0)), (1, .long (d_)), (3, .int (nI (hh_ v))), (4, .int (nI (tt_ v))), (7, .int (nI (i)))]) hx hb dX0_digestWithCoins_69 hl (by decide) rfl (fun ls hl => ?_)
    refine lv_iinc (v := nI (i + 1)) (lv' := [(7, .int (nI (i + 1))), (5, .long (dg_ (dg_ (dg_ (dC_ v d_ i) (lN (vs_ct v i))) (lN (wt_ v i (hh_ v) (tt_ v)))) ((tl_ v i).toInt64))), (0, .ref (a 0)), (1, .long (d_)), (3, .int (nI (hh_ v))), (4, .int (nI (tt_ v)))]) hx hb dX0_digestWithCoins_71 hl (k := 5) rfl (nI_add _ _) (by decide) rfl (fun ls hl => ?_)
    refine lv_goto (tgt := 17) hx hb dX0_digestWithCoins_74 (by decide) ?_
    exact ih_17 (i + 1) ls (by omega) (lv_cast (k := [(0, .ref (a 0)), (1, .long (d_)), (3, .int (nI (hh_ v))), (4, .int (nI (tt_ v))), (5, .long (dg_ (dg_ (dg_ (dC_ v d_ i) (lN (vs_ct v i))) (lN (wt_ v i (hh_ v) (tt_ v)))) ((tl_ v i).toInt64))), (7, .int (nI (i + 1)))]) (lv_sub hl [2, 3, 4, 5, 1, 0] rfl) (lc_cons rfl (lc_cons rfl (lc_cons rfl (lc_cons rfl (lc_cons (congrArg (fun z : Int64 => ((5 : Nat), Value.long z)) (show (dg_ (dg_ (dg_ (dC_ v d_ i) (lN (vs_ct v i))) (lN (wt_ v i (hh_ v) (tt_ v)))) ((tl_ v i).toInt64) : Int64) = dC_ v d_ (i + 1) from by rfl)) (lc_cons (congrArg (fun z : Nat => ((7 : Nat), Value.int (nI z))) (show (i + 1 : Nat) = (i + 1) from by first | rfl | omega)) rfl)))))))
set_option maxHeartbeats 4000000 in
set_option maxRecDepth 100000 in
theorem c_X0_digestWithSchools (l : Launch) (D : va_G) (κ : Nat → ClassId) (a : Nat → Nat) (v : VS) (hv : ok_v v) (d_ : Int64) : Rd l yX0_digestWithSchools cX0_digestWithSchools 7 (some .long) 3 69 (Pw D (kt_ κ) (xw κ a v) [.ref (a 0), .long (d_)]) (.long (dS_ v d_ (vs_n v))) := by
  refine rd_intro (own := RX0) (by decide +kernel) rfl (Nat.le_of_ble_eq_true rfl) (fun p e s m args below meth c pc ls hx hb hr hlk d => ret_L hx hb hr hlk d) ?_
  intro p e s m args below meth c ls Qq hx hb hml hown hts hK hP hend hl
  have hl : lv_has ls 7 [(0, .ref (a 0)), (1, .long (d_))] := hl
  obtain ⟨hv1, hv2, hv3, hv4, hv5, hv6⟩ := id hv
  refine lv_lload_n hx hb dX0_digestWithSchools_0 rfl (lv_at hl 1 rfl) ?_
  refine lv_lstore_n (lv' := [(3, .long (d_)), (0, .ref (a 0)), (1, .long (d_))]) hx hb dX0_digestWithSchools_1 rfl hl (by decide) rfl (fun ls hl => ?_)
  refine lv_iconst (v := nI (0)) hx hb dX0_digestWithSchools_2 (by decide) ?_
  refine lv_istore (lv' := [(5, .int (nI (0))), (3, .long (d_)), (0, .ref (a 0)), (1, .long (d_))]) hx hb dX0_digestWithSchools_3 hl (by decide) rfl (fun ls hl => ?_)
  suffices hloop_5 : ∀ (n_5 i : Nat) (ls : Array Slot), i + n_5 = vs_n v → lv_has ls 7 [(0, .ref (a 0)), (1, .long (d_)), (3, .long (dS_ v d_ i)), (5, .int (nI (i)))] → W p l e (rm_ 3 69) s m args below meth c s.heap [] 0 0 Qq (F0 m 5 ls []) from hloop_5 (vs_n v - 0) (0) ls (by omega) (lv_cast (k := [(0, .ref (a 0)), (1, .long (d_)), (3, .long (d_)), (5, .int (nI (0)))]) (lv_sub hl [2, 3, 1, 0] rfl) (lc_cons rfl (lc_cons rfl (lc_cons (congrArg (fun z : Int64 => ((3 : Nat), Value.long z)) (show (d_ : Int64) = dS_ v d_ 0 from by rfl)) (lc_cons rfl rfl)))))
  intro n_5
  induction n_5 with
  | zero =>
    intro i ls hin_5 hl
    have hi_5 : i = vs_n v := by omega
    have h5 := hv5 i
    refine lv_iload hx hb dX0_digestWithSchools_5 (lv_at hl 3 rfl) ?_
    refine lv_aload_n hx hb dX0_digestWithSchools_7 rfl (lv_at hl 0 rfl) ?_
    refine va_get (D := D) (ci := 0) (v := .int (nI (vs_n v))) (C := RX0) (T := TX0) (N := 7) hx hb hts i_X0 hown hK hP 0 rfl rfl 5 (by decide) (hts _ q_f_X0_29) (fun _ h9 => h9) rfl dX0_digestWithSchools_8 ?_
    refine nv_icmp_ge (tgt := 78) hx hb dX0_digestWithSchools_11 (by decide) (by omega) (by omega) (fun c_11 => ?_) (fun z => absurd z (by omega))
    refine lv_lload_n hx hb dX0_digestWithSchools_78 rfl (lv_at hl 2 rfl) ?_
    refine nv_topl (show (dS_ v d_ i : Int64) = dS_ v d_ (vs_n v) from by rw [hi_5]) ?_
    exact hend _ _ dX0_digestWithSchools_79
  | succ n_5 ih_5 =>
    intro i ls hin_5 hl
    have h5 := hv5 i
    refine lv_iload hx hb dX0_digestWithSchools_5 (lv_at hl 3 rfl) ?_
    refine lv_aload_n hx hb dX0_digestWithSchools_7 rfl (lv_at hl 0 rfl) ?_
    refine va_get (D := D) (ci := 0) (v := .int (nI (vs_n v))) (C := RX0) (T := TX0) (N := 7) hx hb hts i_X0 hown hK hP 0 rfl rfl 5 (by decide) (hts _ q_f_X0_29) (fun _ h9 => h9) rfl dX0_digestWithSchools_8 ?_
    refine nv_icmp_ge (tgt := 78) hx hb dX0_digestWithSchools_11 (by decide) (by omega) (by omega) (fun z => absurd z (by omega)) (fun c_11 => ?_)
    refine lv_lload_n hx hb dX0_digestWithSchools_14 rfl (lv_at hl 2 rfl) ?_
    refine lv_aload_n hx hb dX0_digestWithSchools_15 rfl (lv_at hl 0 rfl) ?_
    refine va_get (D := D) (ci := 0) (v := .ref (a 2)) (C := RX0) (T := TX0) (N := 7) hx hb hts i_X0 hown hK hP 0 rfl rfl 1 (by decide) (hts _ q_f_X0_13) (fun _ h9 => h9) rfl dX0_digestWithSchools_16 ?_
    refine lv_iload hx hb dX0_digestWithSchools_19 (lv_at hl 3 rfl) ?_
    refine nv_iald hx hb hK hP 2 0 (n := 4) (v := nI (vs_so v i)) rfl rfl (by omega) (by decide) rfl dX0_digestWithSchools_21 ?_
    refine nv_i2l hx hb dX0_digestWithSchools_22 (by omega) ?_
    refine rd_S (rest := []) ⟨hx, hb, hml, hown, hts⟩ (c_X0_digestWith l (dS_ v d_ i) (lN (vs_so v i))) g_X0_129 n_X0_digestWith ⟨Nat.le_of_ble_eq_true rfl, Nat.le_of_ble_eq_true rfl⟩ rfl hl.1 rfl (Nat.le_of_ble_eq_true rfl) dX0_digestWithSchools_23 ⟨Nat.zero_le _, Nat.zero_le _⟩ ?_
    refine lv_lstore_n (lv' := [(3, .long (dg_ (dS_ v d_ i) (lN (vs_so v i)))), (0, .ref (a 0)), (1, .long (d_)), (5, .int (nI (i)))]) hx hb dX0_digestWithSchools_26 rfl hl (by decide) rfl (fun ls hl => ?_)
    refine lv_lload_n hx hb dX0_digestWithSchools_27 rfl (lv_at hl 0 rfl) ?_
    refine lv_aload_n hx hb dX0_digestWithSchools_28 rfl (lv_at hl 1 rfl) ?_
    refine lv_iload hx hb dX0_digestWithSchools_29 (lv_at hl 3 rfl) ?_
    refine rd_V (rest := [.long (dg_ (dS_ v d_ i) (lN (vs_so v i)))]) ⟨hx, hb, hml, hown, hts⟩ (c_X0_schoolWeightNow l D κ a v hv (i) (by omega)) g_X0_96 n_X0_schoolWeightNow ⟨Nat.le_of_ble_eq_true rfl, Nat.le_of_ble_eq_true rfl⟩ hK hP rfl rfl rfl hl.1 rfl (Nat.le_of_ble_eq_true rfl) dX0_digestWithSchools_31 ⟨Nat.zero_le _, Nat.zero_le _⟩ ?_
    refine rd_S (rest := []) ⟨hx, hb, hml, hown, hts⟩ (c_X0_digestWith l (dg_ (dS_ v d_ i) (lN (vs_so v i))) (lN (sc_ v i (hh_ v) (tt_ v)))) g_X0_129 n_X0_digestWith ⟨Nat.le_of_ble_eq_true rfl, Nat.le_of_ble_eq_true rfl⟩ rfl hl.1 rfl (Nat.le_of_ble_eq_true rfl) dX0_digestWithSchools_34 ⟨Nat.zero_le _, Nat.zero_le _⟩ ?_
    refine lv_lstore_n (lv' := [(3, .long (dg_ (dg_ (dS_ v d_ i) (lN (vs_so v i))) (lN (sc_ v i (hh_ v) (tt_ v))))), (0, .ref (a 0)), (1, .long (d_)), (5, .int (nI (i)))]) hx hb dX0_digestWithSchools_37 rfl hl (by decide) rfl (fun ls hl => ?_)
    refine lv_iconst (v := nI (0)) hx hb dX0_digestWithSchools_38 (by decide) ?_
    refine lv_istore (lv' := [(6, .int (nI (0))), (3, .long (dg_ (dg_ (dS_ v d_ i) (lN (vs_so v i))) (lN (sc_ v i (hh_ v) (tt_ v))))), (0, .ref (a 0)), (1, .long (d_)), (5, .int (nI (i)))]) hx hb dX0_digestWithSchools_39 hl (by decide) rfl (fun ls hl => ?_)
    suffices hloop_41 : ∀ (n_41 j : Nat) (ls : Array Slot), j + n_41 = vs_c v → lv_has ls 7 [(0, .ref (a 0)), (1, .long (d_)), (3, .long (dI_ v i (dg_ (dg_ (dS_ v d_ i) (lN (vs_so v i))) (lN (sc_ v i (hh_ v) (tt_ v)))) j)), (5, .int (nI (i))), (6, .int (nI (j)))] → W p l e (rm_ 3 69) s m args below meth c s.heap [] 0 0 Qq (F0 m 41 ls []) from hloop_41 (vs_c v - 0) (0) ls (by omega) (lv_cast (k := [(0, .ref (a 0)), (1, .long (d_)), (3, .long (dg_ (dg_ (dS_ v d_ i) (lN (vs_so v i))) (lN (sc_ v i (hh_ v) (tt_ v))))), (5, .int (nI (i))), (6, .int (nI (0)))]) (lv_sub hl [2, 3, 1, 4, 0] rfl) (lc_cons rfl (lc_cons rfl (lc_cons (congrArg (fun z : Int64 => ((3 : Nat), Value.long z)) (show (dg_ (dg_ (dS_ v d_ i) (lN (vs_so v i))) (lN (sc_ v i (hh_ v) (tt_ v))) : Int64) = dI_ v i (dg_ (dg_ (dS_ v d_ i) (lN (vs_so v i))) (lN (sc_ v i (hh_ v) (tt_ v)))) 0 from by rfl)) (lc_cons rfl (lc_cons rfl rfl))))))
    intro n_41
    induction n_41 with
    | zero =>
      intro j ls hin_41 hl
      have hi_41 : j = vs_c v := by omega
      have h6 := hv6 i j
      refine lv_iload hx hb dX0_digestWithSchools_41 (lv_at hl 4 rfl) ?_
      refine lv_aload_n hx hb dX0_digestWithSchools_43 rfl (lv_at hl 0 rfl) ?_
      refine va_get (D := D) (ci := 0) (v := .int (nI (vs_c v))) (C := RX0) (T := TX0) (N := 7) hx hb hts i_X0 hown hK hP 0 rfl rfl 4 (by decide) (hts _ q_f_X0_25) (fun _ h9 => h9) rfl dX0_digestWithSchools_44 ?_
      refine nv_icmp_ge (tgt := 72) hx hb dX0_digestWithSchools_47 (by decide) (by omega) (by omega) (fun c_47 => ?_) (fun z => absurd z (by omega))
      refine lv_iinc (v := nI (i + 1)) (lv' := [(5, .int (nI (i + 1))), (0, .ref (a 0)), (1, .long (d_)), (3, .long (dI_ v i (dg_ (dg_ (dS_ v d_ i) (lN (vs_so v i))) (lN (sc_ v i (hh_ v) (tt_ v)))) j)), (6, .int (nI (j)))]) hx hb dX0_digestWithSchools_72 hl (k := 3) rfl (nI_add _ _) (by decide) rfl (fun ls hl => ?_)
      refine lv_goto (tgt := 5) hx hb dX0_digestWithSchools_75 (by decide) ?_
      exact ih_5 (i + 1) ls (by omega) (lv_cast (k := [(0, .ref (a 0)), (1, .long (d_)), (3, .long (dI_ v i (dg_ (dg_ (dS_ v d_ i) (lN (vs_so v i))) (lN (sc_ v i (hh_ v) (tt_ v)))) j)), (5, .int (nI (i + 1)))]) (lv_sub hl [1, 2, 3, 0] rfl) (lc_cons rfl (lc_cons rfl (lc_cons (congrArg (fun z : Int64 => ((3 : Nat), Value.long z)) (show (dI_ v i (dg_ (dg_ (dS_ v d_ i) (lN (vs_so v i))) (lN (sc_ v i (hh_ v) (tt_ v)))) j : Int64) = dS_ v d_ (i + 1) from by rw [hi_41]; rfl)) (lc_cons (congrArg (fun z : Nat => ((5 : Nat), Value.int (nI z))) (show (i + 1 : Nat) = (i + 1) from by first | rfl | omega)) rfl)))))
    | succ n_41 ih_41 =>
      intro j ls hin_41 hl
      have h6 := hv6 i j
      refine lv_iload hx hb dX0_digestWithSchools_41 (lv_at hl 4 rfl) ?_
      refine lv_aload_n hx hb dX0_digestWithSchools_43 rfl (lv_at hl 0 rfl) ?_
      refine va_get (D := D) (ci := 0) (v := .int (nI (vs_c v))) (C := RX0) (T := TX0) (N := 7) hx hb hts i_X0 hown hK hP 0 rfl rfl 4 (by decide) (hts _ q_f_X0_25) (fun _ h9 => h9) rfl dX0_digestWithSchools_44 ?_
      refine nv_icmp_ge (tgt := 72) hx hb dX0_digestWithSchools_47 (by decide) (by omega) (by omega) (fun z => absurd z (by omega)) (fun c_47 => ?_)
      refine lv_lload_n hx hb dX0_digestWithSchools_50 rfl (lv_at hl 2 rfl) ?_
      refine lv_aload_n hx hb dX0_digestWithSchools_51 rfl (lv_at hl 0 rfl) ?_
      refine va_get (D := D) (ci := 0) (v := .ref (a 3)) (C := RX0) (T := TX0) (N := 7) hx hb hts i_X0 hown hK hP 0 rfl rfl 2 (by decide) (hts _ q_f_X0_18) (fun _ h9 => h9) rfl dX0_digestWithSchools_52 ?_
      refine lv_iload hx hb dX0_digestWithSchools_55 (lv_at hl 3 rfl) ?_
      refine nv_aald hx hb hK hP 3 1 (r := a (5 + i)) rfl rfl (by omega) (by decide) (xw_ref (by omega)) dX0_digestWithSchools_57 ?_
      refine lv_iload hx hb dX0_digestWithSchools_58 (lv_at hl 4 rfl) ?_
      refine nv_iald hx hb hK hP (5 + i) 0 (n := 8) (v := nI (vs_sh v i j)) (xw_row (by omega)) rfl (by omega) (by decide) rfl dX0_digestWithSchools_60 ?_
      refine nv_i2l hx hb dX0_digestWithSchools_61 (by omega) ?_
      refine rd_S (rest := []) ⟨hx, hb, hml, hown, hts⟩ (c_X0_digestWith l (dI_ v i (dg_ (dg_ (dS_ v d_ i) (lN (vs_so v i))) (lN (sc_ v i (hh_ v) (tt_ v)))) j) (lN (vs_sh v i j))) g_X0_129 n_X0_digestWith ⟨Nat.le_of_ble_eq_true rfl, Nat.le_of_ble_eq_true rfl⟩ rfl hl.1 rfl (Nat.le_of_ble_eq_true rfl) dX0_digestWithSchools_62 ⟨Nat.zero_le _, Nat.zero_le _⟩ ?_
      refine lv_lstore_n (lv' := [(3, .long (dg_ (dI_ v i (dg_ (dg_ (dS_ v d_ i) (lN (vs_so v i))) (lN (sc_ v i (hh_ v) (tt_ v)))) j) (lN (vs_sh v i j)))), (0, .ref (a 0)), (1, .long (d_)), (5, .int (nI (i))), (6, .int (nI (j)))]) hx hb dX0_digestWithSchools_65 rfl hl (by decide) rfl (fun ls hl => ?_)
      refine lv_iinc (v := nI (j + 1)) (lv' := [(6, .int (nI (j + 1))), (3, .long (dg_ (dI_ v i (dg_ (dg_ (dS_ v d_ i) (lN (vs_so v i))) (lN (sc_ v i (hh_ v) (tt_ v)))) j) (lN (vs_sh v i j)))), (0, .ref (a 0)), (1, .long (d_)), (5, .int (nI (i)))]) hx hb dX0_digestWithSchools_66 hl (k := 4) rfl (nI_add _ _) (by decide) rfl (fun ls hl => ?_)
      refine lv_goto (tgt := 41) hx hb dX0_digestWithSchools_69 (by decide) ?_
      exact ih_41 (j + 1) ls (by omega) (lv_cast (k := [(0, .ref (a 0)), (1, .long (d_)), (3, .long (dg_ (dI_ v i (dg_ (dg_ (dS_ v d_ i) (lN (vs_so v i))) (lN (sc_ v i (hh_ v) (tt_ v)))) j) (lN (vs_sh v i j)))), (5, .int (nI (i))), (6, .int (nI (j + 1)))]) (lv_sub hl [2, 3, 1, 4, 0] rfl) (lc_cons rfl (lc_cons rfl (lc_cons (congrArg (fun z : Int64 => ((3 : Nat), Value.long z)) (show (dg_ (dI_ v i (dg_ (dg_ (dS_ v d_ i) (lN (vs_so v i))) (lN (sc_ v i (hh_ v) (tt_ v)))) j) (lN (vs_sh v i j)) : Int64) = dI_ v i (dg_ (dg_ (dS_ v d_ i) (lN (vs_so v i))) (lN (sc_ v i (hh_ v) (tt_ v)))) (j + 1) from by rfl)) (lc_cons rfl (lc_cons (congrArg (fun z : Nat => ((6 : Nat), Value.int (nI z))) (show (j + 1 : Nat) = (j + 1) from by first | rfl | omega)) rfl))))))
set_option maxHeartbeats 4000000 in
set_option maxRecDepth 100000 in
theorem c_X0_digestWithTosses (l : Launch) (D : va_G) (κ : Nat → ClassId) (a : Nat → Nat) (v : VS) (hv : ok_v v) (d_ : Int64) : Rd l yX0_digestWithTosses cX0_digestWithTosses 6 (some .long) 5 130 (Pw D (kt_ κ) (xw κ a v) [.ref (a 0), .long (d_)]) (.long (dT_ v d_ (vs_t v))) := by
  refine rd_intro (own := RX0) (by decide +kernel) rfl (Nat.le_of_ble_eq_true rfl) (fun p e s m args below meth c pc ls hx hb hr hlk d => ret_L hx hb hr hlk d) ?_
  intro p e s m args below meth c ls Qq hx hb hml hown hts hK hP hend hl
  have hl : lv_has ls 6 [(0, .ref (a 0)), (1, .long (d_))] := hl
  obtain ⟨hv1, hv2, hv3, hv4, hv5, hv6⟩ := id hv
  refine lv_lload_n hx hb dX0_digestWithTosses_0 rfl (lv_at hl 1 rfl) ?_
  refine lv_lstore_n (lv' := [(3, .long (d_)), (0, .ref (a 0)), (1, .long (d_))]) hx hb dX0_digestWithTosses_1 rfl hl (by decide) rfl (fun ls hl => ?_)
  refine lv_iconst (v := nI (0)) hx hb dX0_digestWithTosses_2 (by decide) ?_
  refine lv_istore (lv' := [(5, .int (nI (0))), (3, .long (d_)), (0, .ref (a 0)), (1, .long (d_))]) hx hb dX0_digestWithTosses_3 hl (by decide) rfl (fun ls hl => ?_)
  suffices hloop_5 : ∀ (n_5 i : Nat) (ls : Array Slot), i + n_5 = vs_t v → lv_has ls 6 [(0, .ref (a 0)), (1, .long (d_)), (3, .long (dT_ v d_ i)), (5, .int (nI (i)))] → W p l e (rm_ 5 130) s m args below meth c s.heap [] 0 0 Qq (F0 m 5 ls []) from hloop_5 (vs_t v - 0) (0) ls (by omega) (lv_cast (k := [(0, .ref (a 0)), (1, .long (d_)), (3, .long (d_)), (5, .int (nI (0)))]) (lv_sub hl [2, 3, 1, 0] rfl) (lc_cons rfl (lc_cons rfl (lc_cons (congrArg (fun z : Int64 => ((3 : Nat), Value.long z)) (show (d_ : Int64) = dT_ v d_ 0 from by rfl)) (lc_cons rfl rfl)))))
  intro n_5
  induction n_5 with
  | zero =>
    intro i ls hin_5 hl
    have hi_5 : i = vs_t v := by omega
    have h7 := sa_le v i
    refine lv_iload hx hb dX0_digestWithTosses_5 (lv_at hl 3 rfl) ?_
    refine lv_aload_n hx hb dX0_digestWithTosses_7 rfl (lv_at hl 0 rfl) ?_
    refine va_get (D := D) (ci := 0) (v := .int (nI (vs_t v))) (C := RX0) (T := TX0) (N := 7) hx hb hts i_X0 hown hK hP 0 rfl rfl 6 (by decide) (hts _ q_f_X0_32) (fun _ h9 => h9) rfl dX0_digestWithTosses_8 ?_
    refine nv_icmp_ge (tgt := 52) hx hb dX0_digestWithTosses_11 (by decide) (by omega) (by omega) (fun c_11 => ?_) (fun z => absurd z (by omega))
    refine lv_lload_n hx hb dX0_digestWithTosses_52 rfl (lv_at hl 2 rfl) ?_
    refine nv_topl (show (dT_ v d_ i : Int64) = dT_ v d_ (vs_t v) from by rw [hi_5]) ?_
    exact hend _ _ dX0_digestWithTosses_53
  | succ n_5 ih_5 =>
    intro i ls hin_5 hl
    have h7 := sa_le v i
    refine lv_iload hx hb dX0_digestWithTosses_5 (lv_at hl 3 rfl) ?_
    refine lv_aload_n hx hb dX0_digestWithTosses_7 rfl (lv_at hl 0 rfl) ?_
    refine va_get (D := D) (ci := 0) (v := .int (nI (vs_t v))) (C := RX0) (T := TX0) (N := 7) hx hb hts i_X0 hown hK hP 0 rfl rfl 6 (by decide) (hts _ q_f_X0_32) (fun _ h9 => h9) rfl dX0_digestWithTosses_8 ?_
    refine nv_icmp_ge (tgt := 52) hx hb dX0_digestWithTosses_11 (by decide) (by omega) (by omega) (fun z => absurd z (by omega)) (fun c_11 => ?_)
    refine lv_lload_n hx hb dX0_digestWithTosses_14 rfl (lv_at hl 2 rfl) ?_
    refine lv_aload_n hx hb dX0_digestWithTosses_15 rfl (lv_at hl 0 rfl) ?_
    refine va_get (D := D) (ci := 0) (v := .ref (a 4)) (C := RX0) (T := TX0) (N := 7) hx hb hts i_X0 hown hK hP 0 rfl rfl 3 (by decide) (hts _ q_f_X0_21) (fun _ h9 => h9) rfl dX0_digestWithTosses_16 ?_
    refine lv_iload hx hb dX0_digestWithTosses_19 (lv_at hl 3 rfl) ?_
    refine nv_zald hx hb hK hP 4 2 (n := 12) (v := bI (vs_th v i)) rfl rfl (by omega) (by decide) rfl dX0_digestWithTosses_21 ?_
    refine bv_if_eq (tgt := 29) hx hb dX0_digestWithTosses_22 (by decide) (fun c_22 => ?_) (fun c_22 => ?_)
    · refine lv_lconst (v := lN (0)) hx hb dX0_digestWithTosses_29 (by decide) ?_
      refine nv_topl (congrArg lN (show (0 : Nat) = if vs_th v i then 1 else 0 from by simp [c_22])) ?_
      refine rd_S (rest := []) ⟨hx, hb, hml, hown, hts⟩ (c_X0_digestWith l (dT_ v d_ i) (lN (if vs_th v i then 1 else 0))) g_X0_129 n_X0_digestWith ⟨Nat.le_of_ble_eq_true rfl, Nat.le_of_ble_eq_true rfl⟩ rfl hl.1 rfl (Nat.le_of_ble_eq_true rfl) dX0_digestWithTosses_30 ⟨Nat.zero_le _, Nat.zero_le _⟩ ?_
      refine lv_lstore_n (lv' := [(3, .long (dg_ (dT_ v d_ i) (lN (if vs_th v i then 1 else 0)))), (0, .ref (a 0)), (1, .long (d_)), (5, .int (nI (i)))]) hx hb dX0_digestWithTosses_33 rfl hl (by decide) rfl (fun ls hl => ?_)
      refine lv_lload_n hx hb dX0_digestWithTosses_34 rfl (lv_at hl 0 rfl) ?_
      refine lv_aload_n hx hb dX0_digestWithTosses_35 rfl (lv_at hl 1 rfl) ?_
      refine lv_iload hx hb dX0_digestWithTosses_36 (lv_at hl 3 rfl) ?_
      refine rd_V (rest := [.long (dg_ (dT_ v d_ i) (lN (if vs_th v i then 1 else 0)))]) ⟨hx, hb, hml, hown, hts⟩ (c_X0_surpriseAt l D κ a v hv (i) (by omega)) g_X0_116 n_X0_surpriseAt ⟨Nat.le_of_ble_eq_true rfl, Nat.le_of_ble_eq_true rfl⟩ hK hP rfl rfl rfl hl.1 rfl (Nat.le_of_ble_eq_true rfl) dX0_digestWithTosses_38 ⟨Nat.zero_le _, Nat.zero_le _⟩ ?_
      refine nv_i2l hx hb dX0_digestWithTosses_41 (by omega) ?_
      refine rd_S (rest := []) ⟨hx, hb, hml, hown, hts⟩ (c_X0_digestWith l (dg_ (dT_ v d_ i) (lN (if vs_th v i then 1 else 0))) (lN (sa_ v i))) g_X0_129 n_X0_digestWith ⟨Nat.le_of_ble_eq_true rfl, Nat.le_of_ble_eq_true rfl⟩ rfl hl.1 rfl (Nat.le_of_ble_eq_true rfl) dX0_digestWithTosses_42 ⟨Nat.zero_le _, Nat.zero_le _⟩ ?_
      refine lv_lstore_n (lv' := [(3, .long (dg_ (dg_ (dT_ v d_ i) (lN (if vs_th v i then 1 else 0))) (lN (sa_ v i)))), (0, .ref (a 0)), (1, .long (d_)), (5, .int (nI (i)))]) hx hb dX0_digestWithTosses_45 rfl hl (by decide) rfl (fun ls hl => ?_)
      refine lv_iinc (v := nI (i + 1)) (lv' := [(5, .int (nI (i + 1))), (3, .long (dg_ (dg_ (dT_ v d_ i) (lN (if vs_th v i then 1 else 0))) (lN (sa_ v i)))), (0, .ref (a 0)), (1, .long (d_))]) hx hb dX0_digestWithTosses_46 hl (k := 3) rfl (nI_add _ _) (by decide) rfl (fun ls hl => ?_)
      refine lv_goto (tgt := 5) hx hb dX0_digestWithTosses_49 (by decide) ?_
      exact ih_5 (i + 1) ls (by omega) (lv_cast (k := [(0, .ref (a 0)), (1, .long (d_)), (3, .long (dg_ (dg_ (dT_ v d_ i) (lN (if vs_th v i then 1 else 0))) (lN (sa_ v i)))), (5, .int (nI (i + 1)))]) (lv_sub hl [2, 3, 1, 0] rfl) (lc_cons rfl (lc_cons rfl (lc_cons (congrArg (fun z : Int64 => ((3 : Nat), Value.long z)) (show (dg_ (dg_ (dT_ v d_ i) (lN (if vs_th v i then 1 else 0))) (lN (sa_ v i)) : Int64) = dT_ v d_ (i + 1) from by rfl)) (lc_cons (congrArg (fun z : Nat => ((5 : Nat), Value.int (nI z))) (show (i + 1 : Nat) = (i + 1) from by first | rfl | omega)) rfl)))))
    · refine lv_lconst (v := lN (1)) hx hb dX0_digestWithTosses_25 (by decide) ?_
      refine lv_goto (tgt := 30) hx hb dX0_digestWithTosses_26 (by decide) ?_
      refine nv_topl (congrArg lN (show (1 : Nat) = if vs_th v i then 1 else 0 from by simp [c_22])) ?_
      refine rd_S (rest := []) ⟨hx, hb, hml, hown, hts⟩ (c_X0_digestWith l (dT_ v d_ i) (lN (if vs_th v i then 1 else 0))) g_X0_129 n_X0_digestWith ⟨Nat.le_of_ble_eq_true rfl, Nat.le_of_ble_eq_true rfl⟩ rfl hl.1 rfl (Nat.le_of_ble_eq_true rfl) dX0_digestWithTosses_30 ⟨Nat.zero_le _, Nat.zero_le _⟩ ?_
      refine lv_lstore_n (lv' := [(3, .long (dg_ (dT_ v d_ i) (lN (if vs_th v i then 1 else 0)))), (0, .ref (a 0)), (1, .long (d_)), (5, .int (nI (i)))]) hx hb dX0_digestWithTosses_33 rfl hl (by decide) rfl (fun ls hl => ?_)
      refine lv_lload_n hx hb dX0_digestWithTosses_34 rfl (lv_at hl 0 rfl) ?_
      refine lv_aload_n hx hb dX0_digestWithTosses_35 rfl (lv_at hl 1 rfl) ?_
      refine lv_iload hx hb dX0_digestWithTosses_36 (lv_at hl 3 rfl) ?_
      refine rd_V (rest := [.long (dg_ (dT_ v d_ i) (lN (if vs_th v i then 1 else 0)))]) ⟨hx, hb, hml, hown, hts⟩ (c_X0_surpriseAt l D κ a v hv (i) (by omega)) g_X0_116 n_X0_surpriseAt ⟨Nat.le_of_ble_eq_true rfl, Nat.le_of_ble_eq_true rfl⟩ hK hP rfl rfl rfl hl.1 rfl (Nat.le_of_ble_eq_true rfl) dX0_digestWithTosses_38 ⟨Nat.zero_le _, Nat.zero_le _⟩ ?_
      refine nv_i2l hx hb dX0_digestWithTosses_41 (by omega) ?_
      refine rd_S (rest := []) ⟨hx, hb, hml, hown, hts⟩ (c_X0_digestWith l (dg_ (dT_ v d_ i) (lN (if vs_th v i then 1 else 0))) (lN (sa_ v i))) g_X0_129 n_X0_digestWith ⟨Nat.le_of_ble_eq_true rfl, Nat.le_of_ble_eq_true rfl⟩ rfl hl.1 rfl (Nat.le_of_ble_eq_true rfl) dX0_digestWithTosses_42 ⟨Nat.zero_le _, Nat.zero_le _⟩ ?_
      refine lv_lstore_n (lv' := [(3, .long (dg_ (dg_ (dT_ v d_ i) (lN (if vs_th v i then 1 else 0))) (lN (sa_ v i)))), (0, .ref (a 0)), (1, .long (d_)), (5, .int (nI (i)))]) hx hb dX0_digestWithTosses_45 rfl hl (by decide) rfl (fun ls hl => ?_)
      refine lv_iinc (v := nI (i + 1)) (lv' := [(5, .int (nI (i + 1))), (3, .long (dg_ (dg_ (dT_ v d_ i) (lN (if vs_th v i then 1 else 0))) (lN (sa_ v i)))), (0, .ref (a 0)), (1, .long (d_))]) hx hb dX0_digestWithTosses_46 hl (k := 3) rfl (nI_add _ _) (by decide) rfl (fun ls hl => ?_)
      refine lv_goto (tgt := 5) hx hb dX0_digestWithTosses_49 (by decide) ?_
      exact ih_5 (i + 1) ls (by omega) (lv_cast (k := [(0, .ref (a 0)), (1, .long (d_)), (3, .long (dg_ (dg_ (dT_ v d_ i) (lN (if vs_th v i then 1 else 0))) (lN (sa_ v i)))), (5, .int (nI (i + 1)))]) (lv_sub hl [2, 3, 1, 0] rfl) (lc_cons rfl (lc_cons rfl (lc_cons (congrArg (fun z : Int64 => ((3 : Nat), Value.long z)) (show (dg_ (dg_ (dT_ v d_ i) (lN (if vs_th v i then 1 else 0))) (lN (sa_ v i)) : Int64) = dT_ v d_ (i + 1) from by rfl)) (lc_cons (congrArg (fun z : Nat => ((5 : Nat), Value.int (nI z))) (show (i + 1 : Nat) = (i + 1) from by first | rfl | omega)) rfl)))))
set_option maxHeartbeats 4000000 in
set_option maxRecDepth 100000 in
theorem c_X0_digest (l : Launch) (D : va_G) (κ : Nat → ClassId) (a : Nat → Nat) (v : VS) (hv : ok_v v) (hw : 0 < vs_t v → 0 < wl_ v (hh_ v) (tt_ v)) : Rd l yX0_digest cX0_digest 3 (some .long) 6 155 (Pw D (kt_ κ) (xw κ a v) [.ref (a 0)]) (.long (di_ v)) := by
  refine rd_intro (own := RX0) (by decide +kernel) rfl (Nat.le_of_ble_eq_true rfl) (fun p e s m args below meth c pc ls hx hb hr hlk d => ret_L hx hb hr hlk d) ?_
  intro p e s m args below meth c ls Qq hx hb hml hown hts hK hP hend hl
  have hl : lv_has ls 3 [(0, .ref (a 0))] := hl
  obtain ⟨hv1, hv2, hv3, hv4, hv5, hv6⟩ := id hv
  have hq1 := hh_le v
  have hq2 := hh_tt v
  have g1 := go_le v
  have g2 := as_le v
  have g3 := dc_le v
  refine lv_ldc2 (own := RX0) (index := 124) (v := lN (1913)) hx hb hown (hts _ q_k_X0_124) dX0_digest_0 ?_
  refine lv_lstore_n (lv' := [(1, .long (lN (1913))), (0, .ref (a 0))]) hx hb dX0_digest_3 rfl hl (by decide) rfl (fun ls hl => ?_)
  refine lv_lload_n hx hb dX0_digest_4 rfl (lv_at hl 0 rfl) ?_
  refine lv_aload_n hx hb dX0_digest_5 rfl (lv_at hl 1 rfl) ?_
  refine rd_V (rest := [.long (lN (1913))]) ⟨hx, hb, hml, hown, hts⟩ (c_X0_coins l D κ a v hv) g_X0_126 n_X0_coins ⟨Nat.le_of_ble_eq_true rfl, Nat.le_of_ble_eq_true rfl⟩ hK hP rfl rfl rfl hl.1 rfl (Nat.le_of_ble_eq_true rfl) dX0_digest_6 ⟨Nat.zero_le _, Nat.zero_le _⟩ ?_
  refine nv_i2l hx hb dX0_digest_9 (by omega) ?_
  refine rd_S (rest := []) ⟨hx, hb, hml, hown, hts⟩ (c_X0_digestWith l (lN (1913)) (lN (vs_c v))) g_X0_129 n_X0_digestWith ⟨Nat.le_of_ble_eq_true rfl, Nat.le_of_ble_eq_true rfl⟩ rfl hl.1 rfl (Nat.le_of_ble_eq_true rfl) dX0_digest_10 ⟨Nat.zero_le _, Nat.zero_le _⟩ ?_
  refine lv_lstore_n (lv' := [(1, .long (dg_ (lN (1913)) (lN (vs_c v)))), (0, .ref (a 0))]) hx hb dX0_digest_13 rfl hl (by decide) rfl (fun ls hl => ?_)
  refine lv_lload_n hx hb dX0_digest_14 rfl (lv_at hl 0 rfl) ?_
  refine lv_aload_n hx hb dX0_digest_15 rfl (lv_at hl 1 rfl) ?_
  refine rd_V (rest := [.long (dg_ (lN (1913)) (lN (vs_c v)))]) ⟨hx, hb, hml, hown, hts⟩ (c_X0_schools l D κ a v hv) g_X0_133 n_X0_schools ⟨Nat.le_of_ble_eq_true rfl, Nat.le_of_ble_eq_true rfl⟩ hK hP rfl rfl rfl hl.1 rfl (Nat.le_of_ble_eq_true rfl) dX0_digest_16 ⟨Nat.zero_le _, Nat.zero_le _⟩ ?_
  refine nv_i2l hx hb dX0_digest_19 (by omega) ?_
  refine rd_S (rest := []) ⟨hx, hb, hml, hown, hts⟩ (c_X0_digestWith l (dg_ (lN (1913)) (lN (vs_c v))) (lN (vs_n v))) g_X0_129 n_X0_digestWith ⟨Nat.le_of_ble_eq_true rfl, Nat.le_of_ble_eq_true rfl⟩ rfl hl.1 rfl (Nat.le_of_ble_eq_true rfl) dX0_digest_20 ⟨Nat.zero_le _, Nat.zero_le _⟩ ?_
  refine lv_lstore_n (lv' := [(1, .long (dg_ (dg_ (lN (1913)) (lN (vs_c v))) (lN (vs_n v)))), (0, .ref (a 0))]) hx hb dX0_digest_23 rfl hl (by decide) rfl (fun ls hl => ?_)
  refine lv_lload_n hx hb dX0_digest_24 rfl (lv_at hl 0 rfl) ?_
  refine lv_aload_n hx hb dX0_digest_25 rfl (lv_at hl 1 rfl) ?_
  refine rd_V (rest := [.long (dg_ (dg_ (lN (1913)) (lN (vs_c v))) (lN (vs_n v)))]) ⟨hx, hb, hml, hown, hts⟩ (c_X0_tosses l D κ a v hv) g_X0_136 n_X0_tosses ⟨Nat.le_of_ble_eq_true rfl, Nat.le_of_ble_eq_true rfl⟩ hK hP rfl rfl rfl hl.1 rfl (Nat.le_of_ble_eq_true rfl) dX0_digest_26 ⟨Nat.zero_le _, Nat.zero_le _⟩ ?_
  refine nv_i2l hx hb dX0_digest_29 (by omega) ?_
  refine rd_S (rest := []) ⟨hx, hb, hml, hown, hts⟩ (c_X0_digestWith l (dg_ (dg_ (lN (1913)) (lN (vs_c v))) (lN (vs_n v))) (lN (vs_t v))) g_X0_129 n_X0_digestWith ⟨Nat.le_of_ble_eq_true rfl, Nat.le_of_ble_eq_true rfl⟩ rfl hl.1 rfl (Nat.le_of_ble_eq_true rfl) dX0_digest_30 ⟨Nat.zero_le _, Nat.zero_le _⟩ ?_
  refine lv_lstore_n (lv' := [(1, .long (dg_ (dg_ (dg_ (lN (1913)) (lN (vs_c v))) (lN (vs_n v))) (lN (vs_t v)))), (0, .ref (a 0))]) hx hb dX0_digest_33 rfl hl (by decide) rfl (fun ls hl => ?_)
  refine lv_lload_n hx hb dX0_digest_34 rfl (lv_at hl 0 rfl) ?_
  refine lv_aload_n hx hb dX0_digest_35 rfl (lv_at hl 1 rfl) ?_
  refine rd_V (rest := [.long (dg_ (dg_ (dg_ (lN (1913)) (lN (vs_c v))) (lN (vs_n v))) (lN (vs_t v)))]) ⟨hx, hb, hml, hown, hts⟩ (c_X0_heads l D κ a v hv) g_X0_139 n_X0_heads ⟨Nat.le_of_ble_eq_true rfl, Nat.le_of_ble_eq_true rfl⟩ hK hP rfl rfl rfl hl.1 rfl (Nat.le_of_ble_eq_true rfl) dX0_digest_36 ⟨Nat.zero_le _, Nat.zero_le _⟩ ?_
  refine nv_i2l hx hb dX0_digest_39 (by omega) ?_
  refine rd_S (rest := []) ⟨hx, hb, hml, hown, hts⟩ (c_X0_digestWith l (dg_ (dg_ (dg_ (lN (1913)) (lN (vs_c v))) (lN (vs_n v))) (lN (vs_t v))) (lN (hh_ v))) g_X0_129 n_X0_digestWith ⟨Nat.le_of_ble_eq_true rfl, Nat.le_of_ble_eq_true rfl⟩ rfl hl.1 rfl (Nat.le_of_ble_eq_true rfl) dX0_digest_40 ⟨Nat.zero_le _, Nat.zero_le _⟩ ?_
  refine lv_lstore_n (lv' := [(1, .long (dg_ (dg_ (dg_ (dg_ (lN (1913)) (lN (vs_c v))) (lN (vs_n v))) (lN (vs_t v))) (lN (hh_ v)))), (0, .ref (a 0))]) hx hb dX0_digest_43 rfl hl (by decide) rfl (fun ls hl => ?_)
  refine lv_lload_n hx hb dX0_digest_44 rfl (lv_at hl 0 rfl) ?_
  refine lv_aload_n hx hb dX0_digest_45 rfl (lv_at hl 1 rfl) ?_
  refine rd_V (rest := [.long (dg_ (dg_ (dg_ (dg_ (lN (1913)) (lN (vs_c v))) (lN (vs_n v))) (lN (vs_t v))) (lN (hh_ v)))]) ⟨hx, hb, hml, hown, hts⟩ (c_X0_wholeWeight l D κ a v hv) g_X0_142 n_X0_wholeWeight ⟨Nat.le_of_ble_eq_true rfl, Nat.le_of_ble_eq_true rfl⟩ hK hP rfl rfl rfl hl.1 rfl (Nat.le_of_ble_eq_true rfl) dX0_digest_46 ⟨Nat.zero_le _, Nat.zero_le _⟩ ?_
  refine rd_S (rest := []) ⟨hx, hb, hml, hown, hts⟩ (c_X0_digestWith l (dg_ (dg_ (dg_ (dg_ (lN (1913)) (lN (vs_c v))) (lN (vs_n v))) (lN (vs_t v))) (lN (hh_ v))) (lN (wl_ v (hh_ v) (tt_ v)))) g_X0_129 n_X0_digestWith ⟨Nat.le_of_ble_eq_true rfl, Nat.le_of_ble_eq_true rfl⟩ rfl hl.1 rfl (Nat.le_of_ble_eq_true rfl) dX0_digest_49 ⟨Nat.zero_le _, Nat.zero_le _⟩ ?_
  refine lv_lstore_n (lv' := [(1, .long (dg_ (dg_ (dg_ (dg_ (dg_ (lN (1913)) (lN (vs_c v))) (lN (vs_n v))) (lN (vs_t v))) (lN (hh_ v))) (lN (wl_ v (hh_ v) (tt_ v))))), (0, .ref (a 0))]) hx hb dX0_digest_52 rfl hl (by decide) rfl (fun ls hl => ?_)
  refine lv_lload_n hx hb dX0_digest_53 rfl (lv_at hl 0 rfl) ?_
  refine lv_aload_n hx hb dX0_digest_54 rfl (lv_at hl 1 rfl) ?_
  refine rd_V (rest := [.long (dg_ (dg_ (dg_ (dg_ (dg_ (lN (1913)) (lN (vs_c v))) (lN (vs_n v))) (lN (vs_t v))) (lN (hh_ v))) (lN (wl_ v (hh_ v) (tt_ v))))]) ⟨hx, hb, hml, hown, hts⟩ (c_X0_ruledOut l D κ a v hv) g_X0_145 n_X0_ruledOut ⟨Nat.le_of_ble_eq_true rfl, Nat.le_of_ble_eq_true rfl⟩ hK hP rfl rfl rfl hl.1 rfl (Nat.le_of_ble_eq_true rfl) dX0_digest_55 ⟨Nat.zero_le _, Nat.zero_le _⟩ ?_
  refine nv_i2l hx hb dX0_digest_58 (by omega) ?_
  refine rd_S (rest := []) ⟨hx, hb, hml, hown, hts⟩ (c_X0_digestWith l (dg_ (dg_ (dg_ (dg_ (dg_ (lN (1913)) (lN (vs_c v))) (lN (vs_n v))) (lN (vs_t v))) (lN (hh_ v))) (lN (wl_ v (hh_ v) (tt_ v)))) (lN (go_ v))) g_X0_129 n_X0_digestWith ⟨Nat.le_of_ble_eq_true rfl, Nat.le_of_ble_eq_true rfl⟩ rfl hl.1 rfl (Nat.le_of_ble_eq_true rfl) dX0_digest_59 ⟨Nat.zero_le _, Nat.zero_le _⟩ ?_
  refine lv_lstore_n (lv' := [(1, .long (dg_ (dg_ (dg_ (dg_ (dg_ (dg_ (lN (1913)) (lN (vs_c v))) (lN (vs_n v))) (lN (vs_t v))) (lN (hh_ v))) (lN (wl_ v (hh_ v) (tt_ v)))) (lN (go_ v)))), (0, .ref (a 0))]) hx hb dX0_digest_62 rfl hl (by decide) rfl (fun ls hl => ?_)
  refine lv_lload_n hx hb dX0_digest_63 rfl (lv_at hl 0 rfl) ?_
  refine lv_aload_n hx hb dX0_digest_64 rfl (lv_at hl 1 rfl) ?_
  refine rd_V (rest := [.long (dg_ (dg_ (dg_ (dg_ (dg_ (dg_ (lN (1913)) (lN (vs_c v))) (lN (vs_n v))) (lN (vs_t v))) (lN (hh_ v))) (lN (wl_ v (hh_ v) (tt_ v)))) (lN (go_ v)))]) ⟨hx, hb, hml, hown, hts⟩ (c_X0_allSurprise l D κ a v hv) g_X0_148 n_X0_allSurprise ⟨Nat.le_of_ble_eq_true rfl, Nat.le_of_ble_eq_true rfl⟩ hK hP rfl rfl rfl hl.1 rfl (Nat.le_of_ble_eq_true rfl) dX0_digest_65 ⟨Nat.zero_le _, Nat.zero_le _⟩ ?_
  refine nv_i2l hx hb dX0_digest_68 (by omega) ?_
  refine rd_S (rest := []) ⟨hx, hb, hml, hown, hts⟩ (c_X0_digestWith l (dg_ (dg_ (dg_ (dg_ (dg_ (dg_ (lN (1913)) (lN (vs_c v))) (lN (vs_n v))) (lN (vs_t v))) (lN (hh_ v))) (lN (wl_ v (hh_ v) (tt_ v)))) (lN (go_ v))) (lN (as_ v))) g_X0_129 n_X0_digestWith ⟨Nat.le_of_ble_eq_true rfl, Nat.le_of_ble_eq_true rfl⟩ rfl hl.1 rfl (Nat.le_of_ble_eq_true rfl) dX0_digest_69 ⟨Nat.zero_le _, Nat.zero_le _⟩ ?_
  refine lv_lstore_n (lv' := [(1, .long (dg_ (dg_ (dg_ (dg_ (dg_ (dg_ (dg_ (lN (1913)) (lN (vs_c v))) (lN (vs_n v))) (lN (vs_t v))) (lN (hh_ v))) (lN (wl_ v (hh_ v) (tt_ v)))) (lN (go_ v))) (lN (as_ v)))), (0, .ref (a 0))]) hx hb dX0_digest_72 rfl hl (by decide) rfl (fun ls hl => ?_)
  refine lv_lload_n hx hb dX0_digest_73 rfl (lv_at hl 0 rfl) ?_
  refine lv_aload_n hx hb dX0_digest_74 rfl (lv_at hl 1 rfl) ?_
  refine rd_V (rest := [.long (dg_ (dg_ (dg_ (dg_ (dg_ (dg_ (dg_ (lN (1913)) (lN (vs_c v))) (lN (vs_n v))) (lN (vs_t v))) (lN (hh_ v))) (lN (wl_ v (hh_ v) (tt_ v)))) (lN (go_ v))) (lN (as_ v)))]) ⟨hx, hb, hml, hown, hts⟩ (c_X0_decisiveTosses l D κ a v hv (hw)) g_X0_151 n_X0_decisiveTosses ⟨Nat.le_of_ble_eq_true rfl, Nat.le_of_ble_eq_true rfl⟩ hK hP rfl rfl rfl hl.1 rfl (Nat.le_of_ble_eq_true rfl) dX0_digest_75 ⟨Nat.zero_le _, Nat.zero_le _⟩ ?_
  refine nv_i2l hx hb dX0_digest_78 (by omega) ?_
  refine rd_S (rest := []) ⟨hx, hb, hml, hown, hts⟩ (c_X0_digestWith l (dg_ (dg_ (dg_ (dg_ (dg_ (dg_ (dg_ (lN (1913)) (lN (vs_c v))) (lN (vs_n v))) (lN (vs_t v))) (lN (hh_ v))) (lN (wl_ v (hh_ v) (tt_ v)))) (lN (go_ v))) (lN (as_ v))) (lN (dc_ v))) g_X0_129 n_X0_digestWith ⟨Nat.le_of_ble_eq_true rfl, Nat.le_of_ble_eq_true rfl⟩ rfl hl.1 rfl (Nat.le_of_ble_eq_true rfl) dX0_digest_79 ⟨Nat.zero_le _, Nat.zero_le _⟩ ?_
  refine lv_lstore_n (lv' := [(1, .long (dg_ (dg_ (dg_ (dg_ (dg_ (dg_ (dg_ (dg_ (lN (1913)) (lN (vs_c v))) (lN (vs_n v))) (lN (vs_t v))) (lN (hh_ v))) (lN (wl_ v (hh_ v) (tt_ v)))) (lN (go_ v))) (lN (as_ v))) (lN (dc_ v)))), (0, .ref (a 0))]) hx hb dX0_digest_82 rfl hl (by decide) rfl (fun ls hl => ?_)
  refine lv_aload_n hx hb dX0_digest_83 rfl (lv_at hl 1 rfl) ?_
  refine lv_lload_n hx hb dX0_digest_84 rfl (lv_at hl 0 rfl) ?_
  refine rd_V (rest := []) ⟨hx, hb, hml, hown, hts⟩ (c_X0_digestWithCoins l D κ a v hv (dg_ (dg_ (dg_ (dg_ (dg_ (dg_ (dg_ (dg_ (lN (1913)) (lN (vs_c v))) (lN (vs_n v))) (lN (vs_t v))) (lN (hh_ v))) (lN (wl_ v (hh_ v) (tt_ v)))) (lN (go_ v))) (lN (as_ v))) (lN (dc_ v)))) g_X0_154 n_X0_digestWithCoins ⟨Nat.le_of_ble_eq_true rfl, Nat.le_of_ble_eq_true rfl⟩ hK hP rfl rfl rfl hl.1 rfl (Nat.le_of_ble_eq_true rfl) dX0_digest_85 ⟨Nat.zero_le _, Nat.zero_le _⟩ ?_
  refine lv_lstore_n (lv' := [(1, .long (dC_ v (dg_ (dg_ (dg_ (dg_ (dg_ (dg_ (dg_ (dg_ (lN (1913)) (lN (vs_c v))) (lN (vs_n v))) (lN (vs_t v))) (lN (hh_ v))) (lN (wl_ v (hh_ v) (tt_ v)))) (lN (go_ v))) (lN (as_ v))) (lN (dc_ v))) (vs_c v))), (0, .ref (a 0))]) hx hb dX0_digest_88 rfl hl (by decide) rfl (fun ls hl => ?_)
  refine lv_aload_n hx hb dX0_digest_89 rfl (lv_at hl 1 rfl) ?_
  refine lv_lload_n hx hb dX0_digest_90 rfl (lv_at hl 0 rfl) ?_
  refine rd_V (rest := []) ⟨hx, hb, hml, hown, hts⟩ (c_X0_digestWithSchools l D κ a v hv (dC_ v (dg_ (dg_ (dg_ (dg_ (dg_ (dg_ (dg_ (dg_ (lN (1913)) (lN (vs_c v))) (lN (vs_n v))) (lN (vs_t v))) (lN (hh_ v))) (lN (wl_ v (hh_ v) (tt_ v)))) (lN (go_ v))) (lN (as_ v))) (lN (dc_ v))) (vs_c v))) g_X0_158 n_X0_digestWithSchools ⟨Nat.le_of_ble_eq_true rfl, Nat.le_of_ble_eq_true rfl⟩ hK hP rfl rfl rfl hl.1 rfl (Nat.le_of_ble_eq_true rfl) dX0_digest_91 ⟨Nat.zero_le _, Nat.zero_le _⟩ ?_
  refine lv_lstore_n (lv' := [(1, .long (dS_ v (dC_ v (dg_ (dg_ (dg_ (dg_ (dg_ (dg_ (dg_ (dg_ (lN (1913)) (lN (vs_c v))) (lN (vs_n v))) (lN (vs_t v))) (lN (hh_ v))) (lN (wl_ v (hh_ v) (tt_ v)))) (lN (go_ v))) (lN (as_ v))) (lN (dc_ v))) (vs_c v)) (vs_n v))), (0, .ref (a 0))]) hx hb dX0_digest_94 rfl hl (by decide) rfl (fun ls hl => ?_)
  refine lv_aload_n hx hb dX0_digest_95 rfl (lv_at hl 1 rfl) ?_
  refine lv_lload_n hx hb dX0_digest_96 rfl (lv_at hl 0 rfl) ?_
  refine rd_V (rest := []) ⟨hx, hb, hml, hown, hts⟩ (c_X0_digestWithTosses l D κ a v hv (dS_ v (dC_ v (dg_ (dg_ (dg_ (dg_ (dg_ (dg_ (dg_ (dg_ (lN (1913)) (lN (vs_c v))) (lN (vs_n v))) (lN (vs_t v))) (lN (hh_ v))) (lN (wl_ v (hh_ v) (tt_ v)))) (lN (go_ v))) (lN (as_ v))) (lN (dc_ v))) (vs_c v)) (vs_n v))) g_X0_161 n_X0_digestWithTosses ⟨Nat.le_of_ble_eq_true rfl, Nat.le_of_ble_eq_true rfl⟩ hK hP rfl rfl rfl hl.1 rfl (Nat.le_of_ble_eq_true rfl) dX0_digest_97 ⟨Nat.zero_le _, Nat.zero_le _⟩ ?_
  refine nv_topl (show (dT_ v (dS_ v (dC_ v (dg_ (dg_ (dg_ (dg_ (dg_ (dg_ (dg_ (dg_ (lN (1913)) (lN (vs_c v))) (lN (vs_n v))) (lN (vs_t v))) (lN (hh_ v))) (lN (wl_ v (hh_ v) (tt_ v)))) (lN (go_ v))) (lN (as_ v))) (lN (dc_ v))) (vs_c v)) (vs_n v)) (vs_t v) : Int64) = di_ v from by rfl) ?_
  exact hend _ _ dX0_digest_100
end
