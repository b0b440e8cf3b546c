-- ===== PART A: goes FIRST, ahead of the names: the tables' words, and 'selects' of the private methods out of them =====
/-- a private method of a class that the tables say can be made, by its rows of tables_1 -/
def lw_okq (q : MethodName × Nat) : Prop := (q.1.cls ≠ "java/lang/invoke/MethodHandle" ∧ q.1.cls ≠ "java/lang/invoke/VarHandle") ∧ Cond.instantiable q.1.cls q.2 ∈ tables_1 ∧ Cond.privateMethod q.1 ∈ tables_1 ∧ Cond.instanceMethod q.1 ∈ tables_1
theorem lw_p0 : lw_okq (⟨"TimeGaps$Plan", "clear", "()V"⟩, 12) := ⟨⟨by decide +kernel, by decide +kernel⟩, List.mem_of_getElem? (i := 30) (by decide +kernel), List.mem_of_getElem? (i := 251) (by decide +kernel), List.mem_of_getElem? (i := 252) (by decide +kernel)⟩
theorem lw_p1 : lw_okq (⟨"TimeGaps$Log", "clear", "()V"⟩, 3) := ⟨⟨by decide +kernel, by decide +kernel⟩, List.mem_of_getElem? (i := 36) (by decide +kernel), List.mem_of_getElem? (i := 255) (by decide +kernel), List.mem_of_getElem? (i := 256) (by decide +kernel)⟩
theorem lw_p2 : lw_okq (⟨"TimeGaps$Plan", "addStart", "()V"⟩, 12) := ⟨⟨by decide +kernel, by decide +kernel⟩, List.mem_of_getElem? (i := 30) (by decide +kernel), List.mem_of_getElem? (i := 259) (by decide +kernel), List.mem_of_getElem? (i := 260) (by decide +kernel)⟩
theorem lw_p3 : lw_okq (⟨"TimeGaps$Net", "build", "(LTimeGaps$Plan;I)V"⟩, 7) := ⟨⟨by decide +kernel, by decide +kernel⟩, List.mem_of_getElem? (i := 126) (by decide +kernel), List.mem_of_getElem? (i := 312) (by decide +kernel), List.mem_of_getElem? (i := 313) (by decide +kernel)⟩
theorem lw_p4 : lw_okq (⟨"TimeGaps$Net", "collectSteps", "(LTimeGaps$Plan;I)V"⟩, 7) := ⟨⟨by decide +kernel, by decide +kernel⟩, List.mem_of_getElem? (i := 126) (by decide +kernel), List.mem_of_getElem? (i := 316) (by decide +kernel), List.mem_of_getElem? (i := 317) (by decide +kernel)⟩
theorem lw_p5 : lw_okq (⟨"TimeGaps$Net", "collect", "(IIII)V"⟩, 7) := ⟨⟨by decide +kernel, by decide +kernel⟩, List.mem_of_getElem? (i := 126) (by decide +kernel), List.mem_of_getElem? (i := 329) (by decide +kernel), List.mem_of_getElem? (i := 330) (by decide +kernel)⟩
theorem lw_p6 : lw_okq (⟨"TimeGaps$Plan", "isPinned", "(I)Z"⟩, 12) := ⟨⟨by decide +kernel, by decide +kernel⟩, List.mem_of_getElem? (i := 30) (by decide +kernel), List.mem_of_getElem? (i := 333) (by decide +kernel), List.mem_of_getElem? (i := 334) (by decide +kernel)⟩
theorem lw_p7 : lw_okq (⟨"TimeGaps$Net", "startWeights", "()V"⟩, 7) := ⟨⟨by decide +kernel, by decide +kernel⟩, List.mem_of_getElem? (i := 126) (by decide +kernel), List.mem_of_getElem? (i := 337) (by decide +kernel), List.mem_of_getElem? (i := 338) (by decide +kernel)⟩
theorem lw_p8 : lw_okq (⟨"TimeGaps$Net", "closeWeights", "()V"⟩, 7) := ⟨⟨by decide +kernel, by decide +kernel⟩, List.mem_of_getElem? (i := 126) (by decide +kernel), List.mem_of_getElem? (i := 348) (by decide +kernel), List.mem_of_getElem? (i := 349) (by decide +kernel)⟩
theorem lw_p9 : lw_okq (⟨"TimeGaps$Tape", "putFourBytes", "(I)V"⟩, 2) := ⟨⟨by decide +kernel, by decide +kernel⟩, List.mem_of_getElem? (i := 198) (by decide +kernel), List.mem_of_getElem? (i := 397) (by decide +kernel), List.mem_of_getElem? (i := 398) (by decide +kernel)⟩
theorem lw_p10 : lw_okq (⟨"TimeGaps$SetupReader", "read", "()Z"⟩, 6) := ⟨⟨by decide +kernel, by decide +kernel⟩, List.mem_of_getElem? (i := 192) (by decide +kernel), List.mem_of_getElem? (i := 405) (by decide +kernel), List.mem_of_getElem? (i := 406) (by decide +kernel)⟩
theorem lw_p11 : lw_okq (⟨"TimeGaps$SetupReader", "next", "()V"⟩, 6) := ⟨⟨by decide +kernel, by decide +kernel⟩, List.mem_of_getElem? (i := 192) (by decide +kernel), List.mem_of_getElem? (i := 410) (by decide +kernel), List.mem_of_getElem? (i := 411) (by decide +kernel)⟩
theorem lw_p12 : lw_okq (⟨"TimeGaps$Tape", "countSpaces", "(I)I"⟩, 2) := ⟨⟨by decide +kernel, by decide +kernel⟩, List.mem_of_getElem? (i := 198) (by decide +kernel), List.mem_of_getElem? (i := 414) (by decide +kernel), List.mem_of_getElem? (i := 415) (by decide +kernel)⟩
theorem lw_p13 : lw_okq (⟨"TimeGaps$Tape", "byteAt", "(I)I"⟩, 2) := ⟨⟨by decide +kernel, by decide +kernel⟩, List.mem_of_getElem? (i := 198) (by decide +kernel), List.mem_of_getElem? (i := 418) (by decide +kernel), List.mem_of_getElem? (i := 419) (by decide +kernel)⟩
theorem lw_p14 : lw_okq (⟨"TimeGaps$Tape", "countLetters", "(I)I"⟩, 2) := ⟨⟨by decide +kernel, by decide +kernel⟩, List.mem_of_getElem? (i := 198) (by decide +kernel), List.mem_of_getElem? (i := 426) (by decide +kernel), List.mem_of_getElem? (i := 427) (by decide +kernel)⟩
theorem lw_p15 : lw_okq (⟨"TimeGaps$Tape", "countDigits", "(I)I"⟩, 2) := ⟨⟨by decide +kernel, by decide +kernel⟩, List.mem_of_getElem? (i := 198) (by decide +kernel), List.mem_of_getElem? (i := 434) (by decide +kernel), List.mem_of_getElem? (i := 435) (by decide +kernel)⟩
def lw_privs_1 : List (MethodName × Nat) := [(⟨"TimeGaps$Plan", "clear", "()V"⟩, 12), (⟨"TimeGaps$Log", "clear", "()V"⟩, 3), (⟨"TimeGaps$Plan", "addStart", "()V"⟩, 12), (⟨"TimeGaps$Net", "build", "(LTimeGaps$Plan;I)V"⟩, 7), (⟨"TimeGaps$Net", "collectSteps", "(LTimeGaps$Plan;I)V"⟩, 7), (⟨"TimeGaps$Net", "collect", "(IIII)V"⟩, 7), (⟨"TimeGaps$Plan", "isPinned", "(I)Z"⟩, 12), (⟨"TimeGaps$Net", "startWeights", "()V"⟩, 7), (⟨"TimeGaps$Net", "closeWeights", "()V"⟩, 7), (⟨"TimeGaps$Tape", "putFourBytes", "(I)V"⟩, 2), (⟨"TimeGaps$SetupReader", "read", "()Z"⟩, 6), (⟨"TimeGaps$SetupReader", "next", "()V"⟩, 6), (⟨"TimeGaps$Tape", "countSpaces", "(I)I"⟩, 2), (⟨"TimeGaps$Tape", "byteAt", "(I)I"⟩, 2), (⟨"TimeGaps$Tape", "countLetters", "(I)I"⟩, 2), (⟨"TimeGaps$Tape", "countDigits", "(I)I"⟩, 2)]
theorem lw_r1 : ∀ q ∈ lw_privs_1, lw_okq q := List.forall_mem_cons.mpr ⟨lw_p0, List.forall_mem_cons.mpr ⟨lw_p1, List.forall_mem_cons.mpr ⟨lw_p2, List.forall_mem_cons.mpr ⟨lw_p3, List.forall_mem_cons.mpr ⟨lw_p4, List.forall_mem_cons.mpr ⟨lw_p5, List.forall_mem_cons.mpr ⟨lw_p6, List.forall_mem_cons.mpr ⟨lw_p7, List.forall_mem_cons.mpr ⟨lw_p8, List.forall_mem_cons.mpr ⟨lw_p9, List.forall_mem_cons.mpr ⟨lw_p10, List.forall_mem_cons.mpr ⟨lw_p11, List.forall_mem_cons.mpr ⟨lw_p12, List.forall_mem_cons.mpr ⟨lw_p13, List.forall_mem_cons.mpr ⟨lw_p14, List.forall_mem_cons.mpr ⟨lw_p15, fun _ h => absurd h List.not_mem_nil⟩⟩⟩⟩⟩⟩⟩⟩⟩⟩⟩⟩⟩⟩⟩⟩
theorem lw_p16 : lw_okq (⟨"TimeGaps$SetupReader", "readEnd", "()Z"⟩, 6) := ⟨⟨by decide +kernel, by decide +kernel⟩, List.mem_of_getElem? (i := 192) (by decide +kernel), List.mem_of_getElem? (i := 439) (by decide +kernel), List.mem_of_getElem? (i := 440) (by decide +kernel)⟩
theorem lw_p17 : lw_okq (⟨"TimeGaps$SetupReader", "takeWord", "(Ljava/lang/String;)Z"⟩, 6) := ⟨⟨by decide +kernel, by decide +kernel⟩, List.mem_of_getElem? (i := 192) (by decide +kernel), List.mem_of_getElem? (i := 444) (by decide +kernel), List.mem_of_getElem? (i := 445) (by decide +kernel)⟩
theorem lw_p18 : lw_okq (⟨"TimeGaps$SetupReader", "isHere", "(Ljava/lang/String;)Z"⟩, 6) := ⟨⟨by decide +kernel, by decide +kernel⟩, List.mem_of_getElem? (i := 192) (by decide +kernel), List.mem_of_getElem? (i := 448) (by decide +kernel), List.mem_of_getElem? (i := 449) (by decide +kernel)⟩
theorem lw_p19 : lw_okq (⟨"TimeGaps$Tape", "spells", "(IILjava/lang/String;)Z"⟩, 2) := ⟨⟨by decide +kernel, by decide +kernel⟩, List.mem_of_getElem? (i := 198) (by decide +kernel), List.mem_of_getElem? (i := 452) (by decide +kernel), List.mem_of_getElem? (i := 453) (by decide +kernel)⟩
theorem lw_p20 : lw_okq (⟨"TimeGaps$SetupReader", "numberHere", "()I"⟩, 6) := ⟨⟨by decide +kernel, by decide +kernel⟩, List.mem_of_getElem? (i := 192) (by decide +kernel), List.mem_of_getElem? (i := 458) (by decide +kernel), List.mem_of_getElem? (i := 459) (by decide +kernel)⟩
theorem lw_p21 : lw_okq (⟨"TimeGaps$SetupReader", "takeSemicolon", "()Z"⟩, 6) := ⟨⟨by decide +kernel, by decide +kernel⟩, List.mem_of_getElem? (i := 192) (by decide +kernel), List.mem_of_getElem? (i := 462) (by decide +kernel), List.mem_of_getElem? (i := 463) (by decide +kernel)⟩
theorem lw_p22 : lw_okq (⟨"TimeGaps$SetupReader", "readEvent", "()Z"⟩, 6) := ⟨⟨by decide +kernel, by decide +kernel⟩, List.mem_of_getElem? (i := 192) (by decide +kernel), List.mem_of_getElem? (i := 467) (by decide +kernel), List.mem_of_getElem? (i := 468) (by decide +kernel)⟩
theorem lw_p23 : lw_okq (⟨"TimeGaps$Tape", "isName", "(II)Z"⟩, 2) := ⟨⟨by decide +kernel, by decide +kernel⟩, List.mem_of_getElem? (i := 198) (by decide +kernel), List.mem_of_getElem? (i := 471) (by decide +kernel), List.mem_of_getElem? (i := 472) (by decide +kernel)⟩
theorem lw_p24 : lw_okq (⟨"TimeGaps$Tape", "isKeyword", "(II)Z"⟩, 2) := ⟨⟨by decide +kernel, by decide +kernel⟩, List.mem_of_getElem? (i := 198) (by decide +kernel), List.mem_of_getElem? (i := 476) (by decide +kernel), List.mem_of_getElem? (i := 477) (by decide +kernel)⟩
theorem lw_p25 : lw_okq (⟨"TimeGaps$SetupReader", "eventHere", "()I"⟩, 6) := ⟨⟨by decide +kernel, by decide +kernel⟩, List.mem_of_getElem? (i := 192) (by decide +kernel), List.mem_of_getElem? (i := 489) (by decide +kernel), List.mem_of_getElem? (i := 490) (by decide +kernel)⟩
theorem lw_p26 : lw_okq (⟨"TimeGaps$Plan", "findEvent", "(LTimeGaps$Tape;II)I"⟩, 12) := ⟨⟨by decide +kernel, by decide +kernel⟩, List.mem_of_getElem? (i := 30) (by decide +kernel), List.mem_of_getElem? (i := 493) (by decide +kernel), List.mem_of_getElem? (i := 494) (by decide +kernel)⟩
theorem lw_p27 : lw_okq (⟨"TimeGaps$Plan", "isNamed", "(ILTimeGaps$Tape;II)Z"⟩, 12) := ⟨⟨by decide +kernel, by decide +kernel⟩, List.mem_of_getElem? (i := 30) (by decide +kernel), List.mem_of_getElem? (i := 497) (by decide +kernel), List.mem_of_getElem? (i := 498) (by decide +kernel)⟩
theorem lw_p28 : lw_okq (⟨"TimeGaps$Plan", "letterOf", "(II)I"⟩, 12) := ⟨⟨by decide +kernel, by decide +kernel⟩, List.mem_of_getElem? (i := 30) (by decide +kernel), List.mem_of_getElem? (i := 501) (by decide +kernel), List.mem_of_getElem? (i := 502) (by decide +kernel)⟩
theorem lw_p29 : lw_okq (⟨"TimeGaps$Plan", "addEvent", "(LTimeGaps$Tape;II)I"⟩, 12) := ⟨⟨by decide +kernel, by decide +kernel⟩, List.mem_of_getElem? (i := 30) (by decide +kernel), List.mem_of_getElem? (i := 506) (by decide +kernel), List.mem_of_getElem? (i := 507) (by decide +kernel)⟩
theorem lw_p30 : lw_okq (⟨"TimeGaps$Plan", "nameEvent", "(ILTimeGaps$Tape;II)V"⟩, 12) := ⟨⟨by decide +kernel, by decide +kernel⟩, List.mem_of_getElem? (i := 30) (by decide +kernel), List.mem_of_getElem? (i := 510) (by decide +kernel), List.mem_of_getElem? (i := 511) (by decide +kernel)⟩
theorem lw_p31 : lw_okq (⟨"TimeGaps$SetupReader", "readGap", "()Z"⟩, 6) := ⟨⟨by decide +kernel, by decide +kernel⟩, List.mem_of_getElem? (i := 192) (by decide +kernel), List.mem_of_getElem? (i := 517) (by decide +kernel), List.mem_of_getElem? (i := 518) (by decide +kernel)⟩
def lw_privs_2 : List (MethodName × Nat) := [(⟨"TimeGaps$SetupReader", "readEnd", "()Z"⟩, 6), (⟨"TimeGaps$SetupReader", "takeWord", "(Ljava/lang/String;)Z"⟩, 6), (⟨"TimeGaps$SetupReader", "isHere", "(Ljava/lang/String;)Z"⟩, 6), (⟨"TimeGaps$Tape", "spells", "(IILjava/lang/String;)Z"⟩, 2), (⟨"TimeGaps$SetupReader", "numberHere", "()I"⟩, 6), (⟨"TimeGaps$SetupReader", "takeSemicolon", "()Z"⟩, 6), (⟨"TimeGaps$SetupReader", "readEvent", "()Z"⟩, 6), (⟨"TimeGaps$Tape", "isName", "(II)Z"⟩, 2), (⟨"TimeGaps$Tape", "isKeyword", "(II)Z"⟩, 2), (⟨"TimeGaps$SetupReader", "eventHere", "()I"⟩, 6), (⟨"TimeGaps$Plan", "findEvent", "(LTimeGaps$Tape;II)I"⟩, 12), (⟨"TimeGaps$Plan", "isNamed", "(ILTimeGaps$Tape;II)Z"⟩, 12), (⟨"TimeGaps$Plan", "letterOf", "(II)I"⟩, 12), (⟨"TimeGaps$Plan", "addEvent", "(LTimeGaps$Tape;II)I"⟩, 12), (⟨"TimeGaps$Plan", "nameEvent", "(ILTimeGaps$Tape;II)V"⟩, 12), (⟨"TimeGaps$SetupReader", "readGap", "()Z"⟩, 6)]
theorem lw_r2 : ∀ q ∈ lw_privs_2, lw_okq q := List.forall_mem_cons.mpr ⟨lw_p16, List.forall_mem_cons.mpr ⟨lw_p17, List.forall_mem_cons.mpr ⟨lw_p18, List.forall_mem_cons.mpr ⟨lw_p19, List.forall_mem_cons.mpr ⟨lw_p20, List.forall_mem_cons.mpr ⟨lw_p21, List.forall_mem_cons.mpr ⟨lw_p22, List.forall_mem_cons.mpr ⟨lw_p23, List.forall_mem_cons.mpr ⟨lw_p24, List.forall_mem_cons.mpr ⟨lw_p25, List.forall_mem_cons.mpr ⟨lw_p26, List.forall_mem_cons.mpr ⟨lw_p27, List.forall_mem_cons.mpr ⟨lw_p28, List.forall_mem_cons.mpr ⟨lw_p29, List.forall_mem_cons.mpr ⟨lw_p30, List.forall_mem_cons.mpr ⟨lw_p31, fun _ h => absurd h List.not_mem_nil⟩⟩⟩⟩⟩⟩⟩⟩⟩⟩⟩⟩⟩⟩⟩⟩
theorem lw_p32 : lw_okq (⟨"TimeGaps$SetupReader", "kindHere", "()I"⟩, 6) := ⟨⟨by decide +kernel, by decide +kernel⟩, List.mem_of_getElem? (i := 192) (by decide +kernel), List.mem_of_getElem? (i := 521) (by decide +kernel), List.mem_of_getElem? (i := 522) (by decide +kernel)⟩
theorem lw_p33 : lw_okq (⟨"TimeGaps$Net", "leastRing", "(IIII)I"⟩, 7) := ⟨⟨by decide +kernel, by decide +kernel⟩, List.mem_of_getElem? (i := 126) (by decide +kernel), List.mem_of_getElem? (i := 528) (by decide +kernel), List.mem_of_getElem? (i := 529) (by decide +kernel)⟩
theorem lw_p34 : lw_okq (⟨"TimeGaps$Net", "between", "(II)I"⟩, 7) := ⟨⟨by decide +kernel, by decide +kernel⟩, List.mem_of_getElem? (i := 126) (by decide +kernel), List.mem_of_getElem? (i := 532) (by decide +kernel), List.mem_of_getElem? (i := 533) (by decide +kernel)⟩
theorem lw_p35 : lw_okq (⟨"TimeGaps$Plan", "addGap", "(IIIIZ)I"⟩, 12) := ⟨⟨by decide +kernel, by decide +kernel⟩, List.mem_of_getElem? (i := 30) (by decide +kernel), List.mem_of_getElem? (i := 539) (by decide +kernel), List.mem_of_getElem? (i := 540) (by decide +kernel)⟩
theorem lw_p36 : lw_okq (⟨"TimeGaps$Net", "addGapStep", "(IIII)V"⟩, 7) := ⟨⟨by decide +kernel, by decide +kernel⟩, List.mem_of_getElem? (i := 126) (by decide +kernel), List.mem_of_getElem? (i := 543) (by decide +kernel), List.mem_of_getElem? (i := 544) (by decide +kernel)⟩
theorem lw_p37 : lw_okq (⟨"TimeGaps$Net", "addStep", "(III)V"⟩, 7) := ⟨⟨by decide +kernel, by decide +kernel⟩, List.mem_of_getElem? (i := 126) (by decide +kernel), List.mem_of_getElem? (i := 547) (by decide +kernel), List.mem_of_getElem? (i := 548) (by decide +kernel)⟩
theorem lw_p38 : lw_okq (⟨"TimeGaps$SetupReader", "readPin", "()Z"⟩, 6) := ⟨⟨by decide +kernel, by decide +kernel⟩, List.mem_of_getElem? (i := 192) (by decide +kernel), List.mem_of_getElem? (i := 552) (by decide +kernel), List.mem_of_getElem? (i := 553) (by decide +kernel)⟩
theorem lw_p39 : lw_okq (⟨"TimeGaps$Net", "allows", "(II)Z"⟩, 7) := ⟨⟨by decide +kernel, by decide +kernel⟩, List.mem_of_getElem? (i := 126) (by decide +kernel), List.mem_of_getElem? (i := 557) (by decide +kernel), List.mem_of_getElem? (i := 558) (by decide +kernel)⟩
theorem lw_p40 : lw_okq (⟨"TimeGaps$Net", "earliest", "(I)I"⟩, 7) := ⟨⟨by decide +kernel, by decide +kernel⟩, List.mem_of_getElem? (i := 126) (by decide +kernel), List.mem_of_getElem? (i := 561) (by decide +kernel), List.mem_of_getElem? (i := 562) (by decide +kernel)⟩
theorem lw_p41 : lw_okq (⟨"TimeGaps$Net", "latest", "(I)I"⟩, 7) := ⟨⟨by decide +kernel, by decide +kernel⟩, List.mem_of_getElem? (i := 126) (by decide +kernel), List.mem_of_getElem? (i := 565) (by decide +kernel), List.mem_of_getElem? (i := 566) (by decide +kernel)⟩
theorem lw_p42 : lw_okq (⟨"TimeGaps$Net", "addPin", "(II)V"⟩, 7) := ⟨⟨by decide +kernel, by decide +kernel⟩, List.mem_of_getElem? (i := 126) (by decide +kernel), List.mem_of_getElem? (i := 569) (by decide +kernel), List.mem_of_getElem? (i := 570) (by decide +kernel)⟩
theorem lw_p43 : lw_okq (⟨"TimeGaps$SetupReader", "position", "()I"⟩, 6) := ⟨⟨by decide +kernel, by decide +kernel⟩, List.mem_of_getElem? (i := 192) (by decide +kernel), List.mem_of_getElem? (i := 573) (by decide +kernel), List.mem_of_getElem? (i := 574) (by decide +kernel)⟩
theorem lw_p44 : lw_okq (⟨"TimeGaps$Plan", "copyFrom", "(LTimeGaps$Plan;)V"⟩, 12) := ⟨⟨by decide +kernel, by decide +kernel⟩, List.mem_of_getElem? (i := 30) (by decide +kernel), List.mem_of_getElem? (i := 577) (by decide +kernel), List.mem_of_getElem? (i := 578) (by decide +kernel)⟩
theorem lw_p45 : lw_okq (⟨"TimeGaps$Log", "copyFrom", "(LTimeGaps$Log;)V"⟩, 3) := ⟨⟨by decide +kernel, by decide +kernel⟩, List.mem_of_getElem? (i := 36) (by decide +kernel), List.mem_of_getElem? (i := 584) (by decide +kernel), List.mem_of_getElem? (i := 585) (by decide +kernel)⟩
theorem lw_p46 : lw_okq (⟨"TimeGaps$Slots", "clear", "()V"⟩, 2) := ⟨⟨by decide +kernel, by decide +kernel⟩, List.mem_of_getElem? (i := 175) (by decide +kernel), List.mem_of_getElem? (i := 589) (by decide +kernel), List.mem_of_getElem? (i := 590) (by decide +kernel)⟩
theorem lw_p47 : lw_okq (⟨"TimeGaps$History", "clear", "()V"⟩, 3) := ⟨⟨by decide +kernel, by decide +kernel⟩, List.mem_of_getElem? (i := 155) (by decide +kernel), List.mem_of_getElem? (i := 593) (by decide +kernel), List.mem_of_getElem? (i := 594) (by decide +kernel)⟩
def lw_privs_3 : List (MethodName × Nat) := [(⟨"TimeGaps$SetupReader", "kindHere", "()I"⟩, 6), (⟨"TimeGaps$Net", "leastRing", "(IIII)I"⟩, 7), (⟨"TimeGaps$Net", "between", "(II)I"⟩, 7), (⟨"TimeGaps$Plan", "addGap", "(IIIIZ)I"⟩, 12), (⟨"TimeGaps$Net", "addGapStep", "(IIII)V"⟩, 7), (⟨"TimeGaps$Net", "addStep", "(III)V"⟩, 7), (⟨"TimeGaps$SetupReader", "readPin", "()Z"⟩, 6), (⟨"TimeGaps$Net", "allows", "(II)Z"⟩, 7), (⟨"TimeGaps$Net", "earliest", "(I)I"⟩, 7), (⟨"TimeGaps$Net", "latest", "(I)I"⟩, 7), (⟨"TimeGaps$Net", "addPin", "(II)V"⟩, 7), (⟨"TimeGaps$SetupReader", "position", "()I"⟩, 6), (⟨"TimeGaps$Plan", "copyFrom", "(LTimeGaps$Plan;)V"⟩, 12), (⟨"TimeGaps$Log", "copyFrom", "(LTimeGaps$Log;)V"⟩, 3), (⟨"TimeGaps$Slots", "clear", "()V"⟩, 2), (⟨"TimeGaps$History", "clear", "()V"⟩, 3)]
theorem lw_r3 : ∀ q ∈ lw_privs_3, lw_okq q := List.forall_mem_cons.mpr ⟨lw_p32, List.forall_mem_cons.mpr ⟨lw_p33, List.forall_mem_cons.mpr ⟨lw_p34, List.forall_mem_cons.mpr ⟨lw_p35, List.forall_mem_cons.mpr ⟨lw_p36, List.forall_mem_cons.mpr ⟨lw_p37, List.forall_mem_cons.mpr ⟨lw_p38, List.forall_mem_cons.mpr ⟨lw_p39, List.forall_mem_cons.mpr ⟨lw_p40, List.forall_mem_cons.mpr ⟨lw_p41, List.forall_mem_cons.mpr ⟨lw_p42, List.forall_mem_cons.mpr ⟨lw_p43, List.forall_mem_cons.mpr ⟨lw_p44, List.forall_mem_cons.mpr ⟨lw_p45, List.forall_mem_cons.mpr ⟨lw_p46, List.forall_mem_cons.mpr ⟨lw_p47, fun _ h => absurd h List.not_mem_nil⟩⟩⟩⟩⟩⟩⟩⟩⟩⟩⟩⟩⟩⟩⟩⟩
theorem lw_p48 : lw_okq (⟨"TimeGaps$Plan", "countOn", "()I"⟩, 12) := ⟨⟨by decide +kernel, by decide +kernel⟩, List.mem_of_getElem? (i := 30) (by decide +kernel), List.mem_of_getElem? (i := 862) (by decide +kernel), List.mem_of_getElem? (i := 863) (by decide +kernel)⟩
theorem lw_p49 : lw_okq (⟨"TimeGaps$Plan", "countPinned", "()I"⟩, 12) := ⟨⟨by decide +kernel, by decide +kernel⟩, List.mem_of_getElem? (i := 30) (by decide +kernel), List.mem_of_getElem? (i := 869) (by decide +kernel), List.mem_of_getElem? (i := 870) (by decide +kernel)⟩
theorem lw_p50 : lw_okq (⟨"TimeGaps", "countTight", "()I"⟩, 9) := ⟨⟨by decide +kernel, by decide +kernel⟩, List.mem_of_getElem? (i := 22) (by decide +kernel), List.mem_of_getElem? (i := 874) (by decide +kernel), List.mem_of_getElem? (i := 875) (by decide +kernel)⟩
theorem lw_p51 : lw_okq (⟨"TimeGaps", "isTight", "(I)Z"⟩, 9) := ⟨⟨by decide +kernel, by decide +kernel⟩, List.mem_of_getElem? (i := 22) (by decide +kernel), List.mem_of_getElem? (i := 878) (by decide +kernel), List.mem_of_getElem? (i := 879) (by decide +kernel)⟩
theorem lw_p52 : lw_okq (⟨"TimeGaps", "lengthOf", "(I)I"⟩, 9) := ⟨⟨by decide +kernel, by decide +kernel⟩, List.mem_of_getElem? (i := 22) (by decide +kernel), List.mem_of_getElem? (i := 882) (by decide +kernel), List.mem_of_getElem? (i := 883) (by decide +kernel)⟩
theorem lw_p53 : lw_okq (⟨"TimeGaps", "boundOf", "(I)I"⟩, 9) := ⟨⟨by decide +kernel, by decide +kernel⟩, List.mem_of_getElem? (i := 22) (by decide +kernel), List.mem_of_getElem? (i := 887) (by decide +kernel), List.mem_of_getElem? (i := 888) (by decide +kernel)⟩
theorem lw_p54 : lw_okq (⟨"TimeGaps", "beginOf", "(I)I"⟩, 9) := ⟨⟨by decide +kernel, by decide +kernel⟩, List.mem_of_getElem? (i := 22) (by decide +kernel), List.mem_of_getElem? (i := 891) (by decide +kernel), List.mem_of_getElem? (i := 892) (by decide +kernel)⟩
theorem lw_p55 : lw_okq (⟨"TimeGaps", "finishOf", "(I)I"⟩, 9) := ⟨⟨by decide +kernel, by decide +kernel⟩, List.mem_of_getElem? (i := 22) (by decide +kernel), List.mem_of_getElem? (i := 896) (by decide +kernel), List.mem_of_getElem? (i := 897) (by decide +kernel)⟩
theorem lw_p56 : lw_okq (⟨"TimeGaps", "countNeeded", "()I"⟩, 9) := ⟨⟨by decide +kernel, by decide +kernel⟩, List.mem_of_getElem? (i := 22) (by decide +kernel), List.mem_of_getElem? (i := 903) (by decide +kernel), List.mem_of_getElem? (i := 904) (by decide +kernel)⟩
theorem lw_p57 : lw_okq (⟨"TimeGaps", "isNeeded", "(I)Z"⟩, 9) := ⟨⟨by decide +kernel, by decide +kernel⟩, List.mem_of_getElem? (i := 22) (by decide +kernel), List.mem_of_getElem? (i := 907) (by decide +kernel), List.mem_of_getElem? (i := 908) (by decide +kernel)⟩
theorem lw_p58 : lw_okq (⟨"TimeGaps$Net", "countSettled", "()I"⟩, 7) := ⟨⟨by decide +kernel, by decide +kernel⟩, List.mem_of_getElem? (i := 126) (by decide +kernel), List.mem_of_getElem? (i := 911) (by decide +kernel), List.mem_of_getElem? (i := 912) (by decide +kernel)⟩
theorem lw_p59 : lw_okq (⟨"TimeGaps$Net", "possibleTimes", "(I)I"⟩, 7) := ⟨⟨by decide +kernel, by decide +kernel⟩, List.mem_of_getElem? (i := 126) (by decide +kernel), List.mem_of_getElem? (i := 915) (by decide +kernel), List.mem_of_getElem? (i := 916) (by decide +kernel)⟩
theorem lw_p60 : lw_okq (⟨"TimeGaps$Net", "greatestEarliest", "()I"⟩, 7) := ⟨⟨by decide +kernel, by decide +kernel⟩, List.mem_of_getElem? (i := 126) (by decide +kernel), List.mem_of_getElem? (i := 920) (by decide +kernel), List.mem_of_getElem? (i := 921) (by decide +kernel)⟩
theorem lw_p61 : lw_okq (⟨"TimeGaps$Net", "room", "()I"⟩, 7) := ⟨⟨by decide +kernel, by decide +kernel⟩, List.mem_of_getElem? (i := 126) (by decide +kernel), List.mem_of_getElem? (i := 925) (by decide +kernel), List.mem_of_getElem? (i := 926) (by decide +kernel)⟩
theorem lw_p62 : lw_okq (⟨"TimeGaps", "isTellable", "(IIII)Z"⟩, 9) := ⟨⟨by decide +kernel, by decide +kernel⟩, List.mem_of_getElem? (i := 22) (by decide +kernel), List.mem_of_getElem? (i := 933) (by decide +kernel), List.mem_of_getElem? (i := 934) (by decide +kernel)⟩
theorem lw_p63 : lw_okq (⟨"TimeGaps", "areTwoEvents", "(II)Z"⟩, 9) := ⟨⟨by decide +kernel, by decide +kernel⟩, List.mem_of_getElem? (i := 22) (by decide +kernel), List.mem_of_getElem? (i := 937) (by decide +kernel), List.mem_of_getElem? (i := 938) (by decide +kernel)⟩
def lw_privs_4 : List (MethodName × Nat) := [(⟨"TimeGaps$Plan", "countOn", "()I"⟩, 12), (⟨"TimeGaps$Plan", "countPinned", "()I"⟩, 12), (⟨"TimeGaps", "countTight", "()I"⟩, 9), (⟨"TimeGaps", "isTight", "(I)Z"⟩, 9), (⟨"TimeGaps", "lengthOf", "(I)I"⟩, 9), (⟨"TimeGaps", "boundOf", "(I)I"⟩, 9), (⟨"TimeGaps", "beginOf", "(I)I"⟩, 9), (⟨"TimeGaps", "finishOf", "(I)I"⟩, 9), (⟨"TimeGaps", "countNeeded", "()I"⟩, 9), (⟨"TimeGaps", "isNeeded", "(I)Z"⟩, 9), (⟨"TimeGaps$Net", "countSettled", "()I"⟩, 7), (⟨"TimeGaps$Net", "possibleTimes", "(I)I"⟩, 7), (⟨"TimeGaps$Net", "greatestEarliest", "()I"⟩, 7), (⟨"TimeGaps$Net", "room", "()I"⟩, 7), (⟨"TimeGaps", "isTellable", "(IIII)Z"⟩, 9), (⟨"TimeGaps", "areTwoEvents", "(II)Z"⟩, 9)]
theorem lw_r4 : ∀ q ∈ lw_privs_4, lw_okq q := List.forall_mem_cons.mpr ⟨lw_p48, List.forall_mem_cons.mpr ⟨lw_p49, List.forall_mem_cons.mpr ⟨lw_p50, List.forall_mem_cons.mpr ⟨lw_p51, List.forall_mem_cons.mpr ⟨lw_p52, List.forall_mem_cons.mpr ⟨lw_p53, List.forall_mem_cons.mpr ⟨lw_p54, List.forall_mem_cons.mpr ⟨lw_p55, List.forall_mem_cons.mpr ⟨lw_p56, List.forall_mem_cons.mpr ⟨lw_p57, List.forall_mem_cons.mpr ⟨lw_p58, List.forall_mem_cons.mpr ⟨lw_p59, List.forall_mem_cons.mpr ⟨lw_p60, List.forall_mem_cons.mpr ⟨lw_p61, List.forall_mem_cons.mpr ⟨lw_p62, List.forall_mem_cons.mpr ⟨lw_p63, fun _ h => absurd h List.not_mem_nil⟩⟩⟩⟩⟩⟩⟩⟩⟩⟩⟩⟩⟩⟩⟩⟩
theorem lw_p64 : lw_okq (⟨"TimeGaps", "isEvent", "(I)Z"⟩, 9) := ⟨⟨by decide +kernel, by decide +kernel⟩, List.mem_of_getElem? (i := 22) (by decide +kernel), List.mem_of_getElem? (i := 941) (by decide +kernel), List.mem_of_getElem? (i := 942) (by decide +kernel)⟩
theorem lw_p65 : lw_okq (⟨"TimeGaps$History", "remember", "(LTimeGaps$Plan;)V"⟩, 3) := ⟨⟨by decide +kernel, by decide +kernel⟩, List.mem_of_getElem? (i := 155) (by decide +kernel), List.mem_of_getElem? (i := 951) (by decide +kernel), List.mem_of_getElem? (i := 952) (by decide +kernel)⟩
theorem lw_p66 : lw_okq (⟨"TimeGaps$Log", "note", "(III)V"⟩, 3) := ⟨⟨by decide +kernel, by decide +kernel⟩, List.mem_of_getElem? (i := 36) (by decide +kernel), List.mem_of_getElem? (i := 957) (by decide +kernel), List.mem_of_getElem? (i := 958) (by decide +kernel)⟩
theorem lw_p67 : lw_okq (⟨"TimeGaps", "finish", "(III)V"⟩, 9) := ⟨⟨by decide +kernel, by decide +kernel⟩, List.mem_of_getElem? (i := 22) (by decide +kernel), List.mem_of_getElem? (i := 962) (by decide +kernel), List.mem_of_getElem? (i := 963) (by decide +kernel)⟩
theorem lw_p68 : lw_okq (⟨"TimeGaps", "isGap", "(I)Z"⟩, 9) := ⟨⟨by decide +kernel, by decide +kernel⟩, List.mem_of_getElem? (i := 22) (by decide +kernel), List.mem_of_getElem? (i := 970) (by decide +kernel), List.mem_of_getElem? (i := 971) (by decide +kernel)⟩
theorem lw_p69 : lw_okq (⟨"TimeGaps$Plan", "removeGap", "(I)V"⟩, 12) := ⟨⟨by decide +kernel, by decide +kernel⟩, List.mem_of_getElem? (i := 30) (by decide +kernel), List.mem_of_getElem? (i := 974) (by decide +kernel), List.mem_of_getElem? (i := 975) (by decide +kernel)⟩
theorem lw_p70 : lw_okq (⟨"TimeGaps", "ringOfGap", "(II)I"⟩, 9) := ⟨⟨by decide +kernel, by decide +kernel⟩, List.mem_of_getElem? (i := 22) (by decide +kernel), List.mem_of_getElem? (i := 982) (by decide +kernel), List.mem_of_getElem? (i := 983) (by decide +kernel)⟩
theorem lw_p71 : lw_okq (⟨"TimeGaps", "isTime", "(I)Z"⟩, 9) := ⟨⟨by decide +kernel, by decide +kernel⟩, List.mem_of_getElem? (i := 22) (by decide +kernel), List.mem_of_getElem? (i := 994) (by decide +kernel), List.mem_of_getElem? (i := 995) (by decide +kernel)⟩
theorem lw_p72 : lw_okq (⟨"TimeGaps", "isPinnable", "(I)Z"⟩, 9) := ⟨⟨by decide +kernel, by decide +kernel⟩, List.mem_of_getElem? (i := 22) (by decide +kernel), List.mem_of_getElem? (i := 998) (by decide +kernel), List.mem_of_getElem? (i := 999) (by decide +kernel)⟩
theorem lw_p73 : lw_okq (⟨"TimeGaps", "tryWithout", "(I)V"⟩, 9) := ⟨⟨by decide +kernel, by decide +kernel⟩, List.mem_of_getElem? (i := 22) (by decide +kernel), List.mem_of_getElem? (i := 1016) (by decide +kernel), List.mem_of_getElem? (i := 1017) (by decide +kernel)⟩
theorem lw_p74 : lw_okq (⟨"TimeGaps$Net", "copyBounds", "(LTimeGaps$Net;)V"⟩, 7) := ⟨⟨by decide +kernel, by decide +kernel⟩, List.mem_of_getElem? (i := 126) (by decide +kernel), List.mem_of_getElem? (i := 1020) (by decide +kernel), List.mem_of_getElem? (i := 1021) (by decide +kernel)⟩
theorem lw_p75 : lw_okq (⟨"TimeGaps", "isLoose", "(I)Z"⟩, 9) := ⟨⟨by decide +kernel, by decide +kernel⟩, List.mem_of_getElem? (i := 22) (by decide +kernel), List.mem_of_getElem? (i := 1029) (by decide +kernel), List.mem_of_getElem? (i := 1030) (by decide +kernel)⟩
theorem lw_p76 : lw_okq (⟨"TimeGaps", "tightNumber", "(I)I"⟩, 9) := ⟨⟨by decide +kernel, by decide +kernel⟩, List.mem_of_getElem? (i := 22) (by decide +kernel), List.mem_of_getElem? (i := 1033) (by decide +kernel), List.mem_of_getElem? (i := 1034) (by decide +kernel)⟩
theorem lw_p77 : lw_okq (⟨"TimeGaps", "firstNeedless", "(I)I"⟩, 9) := ⟨⟨by decide +kernel, by decide +kernel⟩, List.mem_of_getElem? (i := 22) (by decide +kernel), List.mem_of_getElem? (i := 1041) (by decide +kernel), List.mem_of_getElem? (i := 1042) (by decide +kernel)⟩
theorem lw_p78 : lw_okq (⟨"TimeGaps", "isNewNameOnTape", "()Z"⟩, 9) := ⟨⟨by decide +kernel, by decide +kernel⟩, List.mem_of_getElem? (i := 22) (by decide +kernel), List.mem_of_getElem? (i := 1055) (by decide +kernel), List.mem_of_getElem? (i := 1056) (by decide +kernel)⟩
theorem lw_p79 : lw_okq (⟨"TimeGaps$Plan", "countOnOf", "(I)I"⟩, 12) := ⟨⟨by decide +kernel, by decide +kernel⟩, List.mem_of_getElem? (i := 30) (by decide +kernel), List.mem_of_getElem? (i := 1086) (by decide +kernel), List.mem_of_getElem? (i := 1087) (by decide +kernel)⟩
def lw_privs_5 : List (MethodName × Nat) := [(⟨"TimeGaps", "isEvent", "(I)Z"⟩, 9), (⟨"TimeGaps$History", "remember", "(LTimeGaps$Plan;)V"⟩, 3), (⟨"TimeGaps$Log", "note", "(III)V"⟩, 3), (⟨"TimeGaps", "finish", "(III)V"⟩, 9), (⟨"TimeGaps", "isGap", "(I)Z"⟩, 9), (⟨"TimeGaps$Plan", "removeGap", "(I)V"⟩, 12), (⟨"TimeGaps", "ringOfGap", "(II)I"⟩, 9), (⟨"TimeGaps", "isTime", "(I)Z"⟩, 9), (⟨"TimeGaps", "isPinnable", "(I)Z"⟩, 9), (⟨"TimeGaps", "tryWithout", "(I)V"⟩, 9), (⟨"TimeGaps$Net", "copyBounds", "(LTimeGaps$Net;)V"⟩, 7), (⟨"TimeGaps", "isLoose", "(I)Z"⟩, 9), (⟨"TimeGaps", "tightNumber", "(I)I"⟩, 9), (⟨"TimeGaps", "firstNeedless", "(I)I"⟩, 9), (⟨"TimeGaps", "isNewNameOnTape", "()Z"⟩, 9), (⟨"TimeGaps$Plan", "countOnOf", "(I)I"⟩, 12)]
theorem lw_r5 : ∀ q ∈ lw_privs_5, lw_okq q := List.forall_mem_cons.mpr ⟨lw_p64, List.forall_mem_cons.mpr ⟨lw_p65, List.forall_mem_cons.mpr ⟨lw_p66, List.forall_mem_cons.mpr ⟨lw_p67, List.forall_mem_cons.mpr ⟨lw_p68, List.forall_mem_cons.mpr ⟨lw_p69, List.forall_mem_cons.mpr ⟨lw_p70, List.forall_mem_cons.mpr ⟨lw_p71, List.forall_mem_cons.mpr ⟨lw_p72, List.forall_mem_cons.mpr ⟨lw_p73, List.forall_mem_cons.mpr ⟨lw_p74, List.forall_mem_cons.mpr ⟨lw_p75, List.forall_mem_cons.mpr ⟨lw_p76, List.forall_mem_cons.mpr ⟨lw_p77, List.forall_mem_cons.mpr ⟨lw_p78, List.forall_mem_cons.mpr ⟨lw_p79, fun _ h => absurd h List.not_mem_nil⟩⟩⟩⟩⟩⟩⟩⟩⟩⟩⟩⟩⟩⟩⟩⟩
theorem lw_p80 : lw_okq (⟨"TimeGaps$Plan", "hasEvent", "(II)Z"⟩, 12) := ⟨⟨by decide +kernel, by decide +kernel⟩, List.mem_of_getElem? (i := 30) (by decide +kernel), List.mem_of_getElem? (i := 1090) (by decide +kernel), List.mem_of_getElem? (i := 1091) (by decide +kernel)⟩
theorem lw_p81 : lw_okq (⟨"TimeGaps$Net", "stepsBetween", "(II)I"⟩, 7) := ⟨⟨by decide +kernel, by decide +kernel⟩, List.mem_of_getElem? (i := 126) (by decide +kernel), List.mem_of_getElem? (i := 1112) (by decide +kernel), List.mem_of_getElem? (i := 1113) (by decide +kernel)⟩
theorem lw_p82 : lw_okq (⟨"TimeGaps$Net", "stepOfWay", "(III)I"⟩, 7) := ⟨⟨by decide +kernel, by decide +kernel⟩, List.mem_of_getElem? (i := 126) (by decide +kernel), List.mem_of_getElem? (i := 1123) (by decide +kernel), List.mem_of_getElem? (i := 1124) (by decide +kernel)⟩
theorem lw_p83 : lw_okq (⟨"TimeGaps$Net", "firstStep", "(II)I"⟩, 7) := ⟨⟨by decide +kernel, by decide +kernel⟩, List.mem_of_getElem? (i := 126) (by decide +kernel), List.mem_of_getElem? (i := 1127) (by decide +kernel), List.mem_of_getElem? (i := 1128) (by decide +kernel)⟩
theorem lw_p84 : lw_okq (⟨"TimeGaps", "relationOf", "(II)I"⟩, 9) := ⟨⟨by decide +kernel, by decide +kernel⟩, List.mem_of_getElem? (i := 22) (by decide +kernel), List.mem_of_getElem? (i := 1138) (by decide +kernel), List.mem_of_getElem? (i := 1139) (by decide +kernel)⟩
theorem lw_p85 : lw_okq (⟨"TimeGaps$Log", "part", "(II)I"⟩, 3) := ⟨⟨by decide +kernel, by decide +kernel⟩, List.mem_of_getElem? (i := 36) (by decide +kernel), List.mem_of_getElem? (i := 1169) (by decide +kernel), List.mem_of_getElem? (i := 1170) (by decide +kernel)⟩
theorem lw_p86 : lw_okq (⟨"TimeGaps$Net", "oneStepDenies", "(IIII)Z"⟩, 7) := ⟨⟨by decide +kernel, by decide +kernel⟩, List.mem_of_getElem? (i := 126) (by decide +kernel), List.mem_of_getElem? (i := 1180) (by decide +kernel), List.mem_of_getElem? (i := 1181) (by decide +kernel)⟩
theorem lw_p87 : lw_okq (⟨"TimeGaps", "stepOfRing", "(IIII)I"⟩, 9) := ⟨⟨by decide +kernel, by decide +kernel⟩, List.mem_of_getElem? (i := 22) (by decide +kernel), List.mem_of_getElem? (i := 1184) (by decide +kernel), List.mem_of_getElem? (i := 1185) (by decide +kernel)⟩
theorem lw_p88 : lw_okq (⟨"TimeGaps", "changeOnTrial", "(I)I"⟩, 9) := ⟨⟨by decide +kernel, by decide +kernel⟩, List.mem_of_getElem? (i := 22) (by decide +kernel), List.mem_of_getElem? (i := 1196) (by decide +kernel), List.mem_of_getElem? (i := 1197) (by decide +kernel)⟩
theorem lw_p89 : lw_okq (⟨"TimeGaps$Net", "countOtherBounds", "(LTimeGaps$Net;)I"⟩, 7) := ⟨⟨by decide +kernel, by decide +kernel⟩, List.mem_of_getElem? (i := 126) (by decide +kernel), List.mem_of_getElem? (i := 1200) (by decide +kernel), List.mem_of_getElem? (i := 1201) (by decide +kernel)⟩
theorem lw_p90 : lw_okq (⟨"TimeGaps$Net", "countOtherTimes", "(LTimeGaps$Net;)I"⟩, 7) := ⟨⟨by decide +kernel, by decide +kernel⟩, List.mem_of_getElem? (i := 126) (by decide +kernel), List.mem_of_getElem? (i := 1204) (by decide +kernel), List.mem_of_getElem? (i := 1205) (by decide +kernel)⟩
theorem lw_p91 : lw_okq (⟨"TimeGaps", "tightestNumber", "(III)I"⟩, 9) := ⟨⟨by decide +kernel, by decide +kernel⟩, List.mem_of_getElem? (i := 22) (by decide +kernel), List.mem_of_getElem? (i := 1216) (by decide +kernel), List.mem_of_getElem? (i := 1217) (by decide +kernel)⟩
theorem lw_p92 : lw_okq (⟨"TimeGaps$History", "bringBack", "(LTimeGaps$Plan;)V"⟩, 3) := ⟨⟨by decide +kernel, by decide +kernel⟩, List.mem_of_getElem? (i := 155) (by decide +kernel), List.mem_of_getElem? (i := 1233) (by decide +kernel), List.mem_of_getElem? (i := 1234) (by decide +kernel)⟩
theorem lw_p93 : lw_okq (⟨"TimeGaps$Net", "placeByEarliest", "(I)I"⟩, 7) := ⟨⟨by decide +kernel, by decide +kernel⟩, List.mem_of_getElem? (i := 126) (by decide +kernel), List.mem_of_getElem? (i := 1269) (by decide +kernel), List.mem_of_getElem? (i := 1270) (by decide +kernel)⟩
theorem lw_p94 : lw_okq (⟨"TimeGaps$Net", "placeByLatest", "(I)I"⟩, 7) := ⟨⟨by decide +kernel, by decide +kernel⟩, List.mem_of_getElem? (i := 126) (by decide +kernel), List.mem_of_getElem? (i := 1281) (by decide +kernel), List.mem_of_getElem? (i := 1282) (by decide +kernel)⟩
theorem lw_p95 : lw_okq (⟨"TimeGaps$Text", "writeList", "(LTimeGaps$Plan;LTimeGaps$Net;)V"⟩, 2) := ⟨⟨by decide +kernel, by decide +kernel⟩, List.mem_of_getElem? (i := 237) (by decide +kernel), List.mem_of_getElem? (i := 1316) (by decide +kernel), List.mem_of_getElem? (i := 1317) (by decide +kernel)⟩
def lw_privs_6 : List (MethodName × Nat) := [(⟨"TimeGaps$Plan", "hasEvent", "(II)Z"⟩, 12), (⟨"TimeGaps$Net", "stepsBetween", "(II)I"⟩, 7), (⟨"TimeGaps$Net", "stepOfWay", "(III)I"⟩, 7), (⟨"TimeGaps$Net", "firstStep", "(II)I"⟩, 7), (⟨"TimeGaps", "relationOf", "(II)I"⟩, 9), (⟨"TimeGaps$Log", "part", "(II)I"⟩, 3), (⟨"TimeGaps$Net", "oneStepDenies", "(IIII)Z"⟩, 7), (⟨"TimeGaps", "stepOfRing", "(IIII)I"⟩, 9), (⟨"TimeGaps", "changeOnTrial", "(I)I"⟩, 9), (⟨"TimeGaps$Net", "countOtherBounds", "(LTimeGaps$Net;)I"⟩, 7), (⟨"TimeGaps$Net", "countOtherTimes", "(LTimeGaps$Net;)I"⟩, 7), (⟨"TimeGaps", "tightestNumber", "(III)I"⟩, 9), (⟨"TimeGaps$History", "bringBack", "(LTimeGaps$Plan;)V"⟩, 3), (⟨"TimeGaps$Net", "placeByEarliest", "(I)I"⟩, 7), (⟨"TimeGaps$Net", "placeByLatest", "(I)I"⟩, 7), (⟨"TimeGaps$Text", "writeList", "(LTimeGaps$Plan;LTimeGaps$Net;)V"⟩, 2)]
theorem lw_r6 : ∀ q ∈ lw_privs_6, lw_okq q := List.forall_mem_cons.mpr ⟨lw_p80, List.forall_mem_cons.mpr ⟨lw_p81, List.forall_mem_cons.mpr ⟨lw_p82, List.forall_mem_cons.mpr ⟨lw_p83, List.forall_mem_cons.mpr ⟨lw_p84, List.forall_mem_cons.mpr ⟨lw_p85, List.forall_mem_cons.mpr ⟨lw_p86, List.forall_mem_cons.mpr ⟨lw_p87, List.forall_mem_cons.mpr ⟨lw_p88, List.forall_mem_cons.mpr ⟨lw_p89, List.forall_mem_cons.mpr ⟨lw_p90, List.forall_mem_cons.mpr ⟨lw_p91, List.forall_mem_cons.mpr ⟨lw_p92, List.forall_mem_cons.mpr ⟨lw_p93, List.forall_mem_cons.mpr ⟨lw_p94, List.forall_mem_cons.mpr ⟨lw_p95, fun _ h => absurd h List.not_mem_nil⟩⟩⟩⟩⟩⟩⟩⟩⟩⟩⟩⟩⟩⟩⟩⟩
theorem lw_p96 : lw_okq (⟨"TimeGaps$Text", "putName", "(LTimeGaps$Plan;I)V"⟩, 2) := ⟨⟨by decide +kernel, by decide +kernel⟩, List.mem_of_getElem? (i := 237) (by decide +kernel), List.mem_of_getElem? (i := 1320) (by decide +kernel), List.mem_of_getElem? (i := 1321) (by decide +kernel)⟩
theorem lw_p97 : lw_okq (⟨"TimeGaps$Text", "put", "(I)V"⟩, 2) := ⟨⟨by decide +kernel, by decide +kernel⟩, List.mem_of_getElem? (i := 237) (by decide +kernel), List.mem_of_getElem? (i := 1325) (by decide +kernel), List.mem_of_getElem? (i := 1326) (by decide +kernel)⟩
theorem lw_p98 : lw_okq (⟨"TimeGaps$Text", "putNumber", "(I)V"⟩, 2) := ⟨⟨by decide +kernel, by decide +kernel⟩, List.mem_of_getElem? (i := 237) (by decide +kernel), List.mem_of_getElem? (i := 1330) (by decide +kernel), List.mem_of_getElem? (i := 1331) (by decide +kernel)⟩
theorem lw_p99 : lw_okq (⟨"TimeGaps$Text", "writeSetup", "(LTimeGaps$Plan;)V"⟩, 2) := ⟨⟨by decide +kernel, by decide +kernel⟩, List.mem_of_getElem? (i := 237) (by decide +kernel), List.mem_of_getElem? (i := 1340) (by decide +kernel), List.mem_of_getElem? (i := 1341) (by decide +kernel)⟩
theorem lw_p100 : lw_okq (⟨"TimeGaps$Text", "putWord", "(Ljava/lang/String;)V"⟩, 2) := ⟨⟨by decide +kernel, by decide +kernel⟩, List.mem_of_getElem? (i := 237) (by decide +kernel), List.mem_of_getElem? (i := 1345) (by decide +kernel), List.mem_of_getElem? (i := 1346) (by decide +kernel)⟩
theorem lw_p101 : lw_okq (⟨"TimeGaps$Text", "putGap", "(LTimeGaps$Plan;I)V"⟩, 2) := ⟨⟨by decide +kernel, by decide +kernel⟩, List.mem_of_getElem? (i := 237) (by decide +kernel), List.mem_of_getElem? (i := 1352) (by decide +kernel), List.mem_of_getElem? (i := 1353) (by decide +kernel)⟩
theorem lw_p102 : lw_okq (⟨"TimeGaps$Text", "byteAt", "(I)I"⟩, 2) := ⟨⟨by decide +kernel, by decide +kernel⟩, List.mem_of_getElem? (i := 237) (by decide +kernel), List.mem_of_getElem? (i := 1365) (by decide +kernel), List.mem_of_getElem? (i := 1366) (by decide +kernel)⟩
def lw_privs_7 : List (MethodName × Nat) := [(⟨"TimeGaps$Text", "putName", "(LTimeGaps$Plan;I)V"⟩, 2), (⟨"TimeGaps$Text", "put", "(I)V"⟩, 2), (⟨"TimeGaps$Text", "putNumber", "(I)V"⟩, 2), (⟨"TimeGaps$Text", "writeSetup", "(LTimeGaps$Plan;)V"⟩, 2), (⟨"TimeGaps$Text", "putWord", "(Ljava/lang/String;)V"⟩, 2), (⟨"TimeGaps$Text", "putGap", "(LTimeGaps$Plan;I)V"⟩, 2), (⟨"TimeGaps$Text", "byteAt", "(I)I"⟩, 2)]
theorem lw_r7 : ∀ q ∈ lw_privs_7, lw_okq q := List.forall_mem_cons.mpr ⟨lw_p96, List.forall_mem_cons.mpr ⟨lw_p97, List.forall_mem_cons.mpr ⟨lw_p98, List.forall_mem_cons.mpr ⟨lw_p99, List.forall_mem_cons.mpr ⟨lw_p100, List.forall_mem_cons.mpr ⟨lw_p101, List.forall_mem_cons.mpr ⟨lw_p102, fun _ h => absurd h List.not_mem_nil⟩⟩⟩⟩⟩⟩⟩
def lw_privs : List (MethodName × Nat) := lw_privs_1 ++ (lw_privs_2 ++ (lw_privs_3 ++ (lw_privs_4 ++ (lw_privs_5 ++ (lw_privs_6 ++ (lw_privs_7))))))
def lw_tbl : List Cond := k2_sels lw_privs ++ tables_1
theorem lw_privs_ok : ∀ q ∈ lw_privs, lw_okq q := by
  show ∀ q ∈ lw_privs_1 ++ (lw_privs_2 ++ (lw_privs_3 ++ (lw_privs_4 ++ (lw_privs_5 ++ (lw_privs_6 ++ (lw_privs_7)))))), lw_okq q
  exact List.forall_mem_append.mpr ⟨lw_r1, List.forall_mem_append.mpr ⟨lw_r2, List.forall_mem_append.mpr ⟨lw_r3, List.forall_mem_append.mpr ⟨lw_r4, List.forall_mem_append.mpr ⟨lw_r5, List.forall_mem_append.mpr ⟨lw_r6, lw_r7⟩⟩⟩⟩⟩⟩
/-- the streams that the claim lets the run draw from -/
abbrev lw_cs : List Choice := [Jvm.Choice.named "NaN.bits"]
theorem lw_bits : nanBits ∈ lw_cs := by first | decide | exact List.mem_cons_self | simp [lw_cs, nanBits]
-- ===== end of PART A; then your names; then what follows =====
def RX0 : String := "TimeGaps$History"
def TX0 : u_T := fun k => match k with
  | 0 => ("TimeGaps$History", "plans", "[LTimeGaps$Plan;", true)
  | 1 => ("TimeGaps$History", "oldest", "I", false)
  | _ => ("TimeGaps$History", "count", "I", false)
def tyX0 : Nat → FieldType := fun k => match k with
  | 0 => .array (.object "TimeGaps$Plan")
  | 1 => .int
  | _ => .int
abbrev wsX00 : List Cond := u_ws RX0 TX0 3
theorem nmX0 : ∀ a, a < 3 → ∀ b, b < 3 → a ≠ b → (TX0 a).2.1 ≠ (TX0 b).2.1 := by decide +kernel
theorem tyX0_ok : ∀ k, k < 3 → parseFieldDescriptor (TX0 k).2.2.1 = some (tyX0 k) := by decide +kernel
abbrev cX0_init : ByteArray := prog_2_method_1_code
def yX0_init : MethodName := ⟨RX0, "<init>", "()V"⟩
abbrev cX0_clear : ByteArray := prog_2_method_2_code
def yX0_clear : MethodName := ⟨RX0, "clear", "()V"⟩
abbrev cX0_remember : ByteArray := prog_2_method_3_code
def yX0_remember : MethodName := ⟨RX0, "remember", "(LTimeGaps$Plan;)V"⟩
abbrev cX0_bringBack : ByteArray := prog_2_method_4_code
def yX0_bringBack : MethodName := ⟨RX0, "bringBack", "(LTimeGaps$Plan;)V"⟩
def RX1 : String := "TimeGaps$Log"
def TX1 : u_T := fun k => match k with
  | 0 => ("TimeGaps$Log", "parts", "[I", true)
  | 1 => ("TimeGaps$Log", "oldest", "I", false)
  | _ => ("TimeGaps$Log", "count", "I", false)
def tyX1 : Nat → FieldType := fun k => match k with
  | 0 => .array .int
  | 1 => .int
  | _ => .int
abbrev wsX10 : List Cond := u_ws RX1 TX1 3
theorem nmX1 : ∀ a, a < 3 → ∀ b, b < 3 → a ≠ b → (TX1 a).2.1 ≠ (TX1 b).2.1 := by decide +kernel
theorem tyX1_ok : ∀ k, k < 3 → parseFieldDescriptor (TX1 k).2.2.1 = some (tyX1 k) := by decide +kernel
abbrev cX1_init : ByteArray := prog_3_method_1_code
def yX1_init : MethodName := ⟨RX1, "<init>", "()V"⟩
abbrev cX1_clear : ByteArray := prog_3_method_2_code
def yX1_clear : MethodName := ⟨RX1, "clear", "()V"⟩
abbrev cX1_copyFrom : ByteArray := prog_3_method_3_code
def yX1_copyFrom : MethodName := ⟨RX1, "copyFrom", "(LTimeGaps$Log;)V"⟩
abbrev cX1_note : ByteArray := prog_3_method_4_code
def yX1_note : MethodName := ⟨RX1, "note", "(III)V"⟩
abbrev cX1_part : ByteArray := prog_3_method_5_code
def yX1_part : MethodName := ⟨RX1, "part", "(II)I"⟩
def RX2 : String := "TimeGaps$Net"
def TX2 : u_T := fun k => match k with
  | 0 => ("TimeGaps$Net", "begins", "[I", true)
  | 1 => ("TimeGaps$Net", "finishes", "[I", true)
  | 2 => ("TimeGaps$Net", "lengths", "[I", true)
  | 3 => ("TimeGaps$Net", "codes", "[I", true)
  | 4 => ("TimeGaps$Net", "weights", "[I", true)
  | 5 => ("TimeGaps$Net", "steps", "I", false)
  | _ => ("TimeGaps$Net", "events", "I", false)
def tyX2 : Nat → FieldType := fun k => match k with
  | 0 => .array .int
  | 1 => .array .int
  | 2 => .array .int
  | 3 => .array .int
  | 4 => .array .int
  | 5 => .int
  | _ => .int
abbrev wsX20 : List Cond := u_ws RX2 TX2 7
theorem nmX2 : ∀ a, a < 7 → ∀ b, b < 7 → a ≠ b → (TX2 a).2.1 ≠ (TX2 b).2.1 := by decide +kernel
theorem tyX2_ok : ∀ k, k < 7 → parseFieldDescriptor (TX2 k).2.2.1 = some (tyX2 k) := by decide +kernel
abbrev cX2_init : ByteArray := prog_4_method_1_code
def yX2_init : MethodName := ⟨RX2, "<init>", "()V"⟩
abbrev cX2_build : ByteArray := prog_4_method_2_code
def yX2_build : MethodName := ⟨RX2, "build", "(LTimeGaps$Plan;I)V"⟩
abbrev cX2_collectSteps : ByteArray := prog_4_method_3_code
def yX2_collectSteps : MethodName := ⟨RX2, "collectSteps", "(LTimeGaps$Plan;I)V"⟩
abbrev cX2_collect : ByteArray := prog_4_method_4_code
def yX2_collect : MethodName := ⟨RX2, "collect", "(IIII)V"⟩
abbrev cX2_startWeights : ByteArray := prog_4_method_5_code
def yX2_startWeights : MethodName := ⟨RX2, "startWeights", "()V"⟩
abbrev cX2_closeWeights : ByteArray := prog_4_method_6_code
def yX2_closeWeights : MethodName := ⟨RX2, "closeWeights", "()V"⟩
abbrev cX2_copyBounds : ByteArray := prog_4_method_7_code
def yX2_copyBounds : MethodName := ⟨RX2, "copyBounds", "(LTimeGaps$Net;)V"⟩
abbrev cX2_addStep : ByteArray := prog_4_method_8_code
def yX2_addStep : MethodName := ⟨RX2, "addStep", "(III)V"⟩
abbrev cX2_addGapStep : ByteArray := prog_4_method_9_code
def yX2_addGapStep : MethodName := ⟨RX2, "addGapStep", "(IIII)V"⟩
abbrev cX2_addPin : ByteArray := prog_4_method_10_code
def yX2_addPin : MethodName := ⟨RX2, "addPin", "(II)V"⟩
abbrev cX2_weightOf : ByteArray := prog_4_method_11_code
def yX2_weightOf : MethodName := ⟨RX2, "weightOf", "(I)I"⟩
abbrev cX2_between : ByteArray := prog_4_method_12_code
def yX2_between : MethodName := ⟨RX2, "between", "(II)I"⟩
abbrev cX2_stepsBetween : ByteArray := prog_4_method_13_code
def yX2_stepsBetween : MethodName := ⟨RX2, "stepsBetween", "(II)I"⟩
abbrev cX2_earliest : ByteArray := prog_4_method_14_code
def yX2_earliest : MethodName := ⟨RX2, "earliest", "(I)I"⟩
abbrev cX2_latest : ByteArray := prog_4_method_15_code
def yX2_latest : MethodName := ⟨RX2, "latest", "(I)I"⟩
abbrev cX2_possibleTimes : ByteArray := prog_4_method_16_code
def yX2_possibleTimes : MethodName := ⟨RX2, "possibleTimes", "(I)I"⟩
abbrev cX2_allows : ByteArray := prog_4_method_17_code
def yX2_allows : MethodName := ⟨RX2, "allows", "(II)Z"⟩
abbrev cX2_leastRing : ByteArray := prog_4_method_18_code
def yX2_leastRing : MethodName := ⟨RX2, "leastRing", "(IIII)I"⟩
abbrev cX2_oneStepDenies : ByteArray := prog_4_method_19_code
def yX2_oneStepDenies : MethodName := ⟨RX2, "oneStepDenies", "(IIII)Z"⟩
abbrev cX2_stepOfWay : ByteArray := prog_4_method_20_code
def yX2_stepOfWay : MethodName := ⟨RX2, "stepOfWay", "(III)I"⟩
abbrev cX2_firstStep : ByteArray := prog_4_method_21_code
def yX2_firstStep : MethodName := ⟨RX2, "firstStep", "(II)I"⟩
abbrev cX2_countSettled : ByteArray := prog_4_method_22_code
def yX2_countSettled : MethodName := ⟨RX2, "countSettled", "()I"⟩
abbrev cX2_greatestEarliest : ByteArray := prog_4_method_23_code
def yX2_greatestEarliest : MethodName := ⟨RX2, "greatestEarliest", "()I"⟩
abbrev cX2_room : ByteArray := prog_4_method_24_code
def yX2_room : MethodName := ⟨RX2, "room", "()I"⟩
abbrev cX2_placeByEarliest : ByteArray := prog_4_method_25_code
def yX2_placeByEarliest : MethodName := ⟨RX2, "placeByEarliest", "(I)I"⟩
abbrev cX2_placeByLatest : ByteArray := prog_4_method_26_code
def yX2_placeByLatest : MethodName := ⟨RX2, "placeByLatest", "(I)I"⟩
abbrev cX2_countOtherBounds : ByteArray := prog_4_method_27_code
def yX2_countOtherBounds : MethodName := ⟨RX2, "countOtherBounds", "(LTimeGaps$Net;)I"⟩
abbrev cX2_countOtherTimes : ByteArray := prog_4_method_28_code
def yX2_countOtherTimes : MethodName := ⟨RX2, "countOtherTimes", "(LTimeGaps$Net;)I"⟩
def RX3 : String := "TimeGaps$Plan"
def TX3 : u_T := fun k => match k with
  | 0 => ("TimeGaps$Plan", "letters", "[I", true)
  | 1 => ("TimeGaps$Plan", "letterCounts", "[I", true)
  | 2 => ("TimeGaps$Plan", "pinTimes", "[I", true)
  | 3 => ("TimeGaps$Plan", "ones", "[I", true)
  | 4 => ("TimeGaps$Plan", "others", "[I", true)
  | 5 => ("TimeGaps$Plan", "kinds", "[I", true)
  | 6 => ("TimeGaps$Plan", "numbers", "[I", true)
  | 7 => ("TimeGaps$Plan", "ons", "[Z", true)
  | 8 => ("TimeGaps$Plan", "log", "LTimeGaps$Log;", true)
  | 9 => ("TimeGaps$Plan", "endTime", "I", false)
  | 10 => ("TimeGaps$Plan", "events", "I", false)
  | _ => ("TimeGaps$Plan", "gaps", "I", false)
def tyX3 : Nat → FieldType := fun k => match k with
  | 0 => .array .int
  | 1 => .array .int
  | 2 => .array .int
  | 3 => .array .int
  | 4 => .array .int
  | 5 => .array .int
  | 6 => .array .int
  | 7 => .array .boolean
  | 8 => .object "TimeGaps$Log"
  | 9 => .int
  | 10 => .int
  | _ => .int
abbrev wsX30 : List Cond := u_ws RX3 TX3 12
theorem nmX3 : ∀ a, a < 12 → ∀ b, b < 12 → a ≠ b → (TX3 a).2.1 ≠ (TX3 b).2.1 := by decide +kernel
theorem tyX3_ok : ∀ k, k < 12 → parseFieldDescriptor (TX3 k).2.2.1 = some (tyX3 k) := by decide +kernel
abbrev cX3_init : ByteArray := prog_5_method_1_code
def yX3_init : MethodName := ⟨RX3, "<init>", "()V"⟩
abbrev cX3_clear : ByteArray := prog_5_method_2_code
def yX3_clear : MethodName := ⟨RX3, "clear", "()V"⟩
abbrev cX3_addStart : ByteArray := prog_5_method_3_code
def yX3_addStart : MethodName := ⟨RX3, "addStart", "()V"⟩
abbrev cX3_copyFrom : ByteArray := prog_5_method_4_code
def yX3_copyFrom : MethodName := ⟨RX3, "copyFrom", "(LTimeGaps$Plan;)V"⟩
abbrev cX3_addEvent : ByteArray := prog_5_method_5_code
def yX3_addEvent : MethodName := ⟨RX3, "addEvent", "(LTimeGaps$Tape;II)I"⟩
abbrev cX3_nameEvent : ByteArray := prog_5_method_6_code
def yX3_nameEvent : MethodName := ⟨RX3, "nameEvent", "(ILTimeGaps$Tape;II)V"⟩
abbrev cX3_letterOf : ByteArray := prog_5_method_7_code
def yX3_letterOf : MethodName := ⟨RX3, "letterOf", "(II)I"⟩
abbrev cX3_findEvent : ByteArray := prog_5_method_8_code
def yX3_findEvent : MethodName := ⟨RX3, "findEvent", "(LTimeGaps$Tape;II)I"⟩
abbrev cX3_isNamed : ByteArray := prog_5_method_9_code
def yX3_isNamed : MethodName := ⟨RX3, "isNamed", "(ILTimeGaps$Tape;II)Z"⟩
abbrev cX3_addGap : ByteArray := prog_5_method_10_code
def yX3_addGap : MethodName := ⟨RX3, "addGap", "(IIIIZ)I"⟩
abbrev cX3_removeGap : ByteArray := prog_5_method_11_code
def yX3_removeGap : MethodName := ⟨RX3, "removeGap", "(I)V"⟩
abbrev cX3_isPinned : ByteArray := prog_5_method_12_code
def yX3_isPinned : MethodName := ⟨RX3, "isPinned", "(I)Z"⟩
abbrev cX3_hasEvent : ByteArray := prog_5_method_13_code
def yX3_hasEvent : MethodName := ⟨RX3, "hasEvent", "(II)Z"⟩
abbrev cX3_countPinned : ByteArray := prog_5_method_14_code
def yX3_countPinned : MethodName := ⟨RX3, "countPinned", "()I"⟩
abbrev cX3_countOn : ByteArray := prog_5_method_15_code
def yX3_countOn : MethodName := ⟨RX3, "countOn", "()I"⟩
abbrev cX3_countOnOf : ByteArray := prog_5_method_16_code
def yX3_countOnOf : MethodName := ⟨RX3, "countOnOf", "(I)I"⟩
def RX4 : String := "TimeGaps$SetupReader"
def TX4 : u_T := fun k => match k with
  | 0 => ("TimeGaps$SetupReader", "tape", "LTimeGaps$Tape;", true)
  | 1 => ("TimeGaps$SetupReader", "draft", "LTimeGaps$Plan;", true)
  | 2 => ("TimeGaps$SetupReader", "net", "LTimeGaps$Net;", true)
  | 3 => ("TimeGaps$SetupReader", "token", "I", false)
  | 4 => ("TimeGaps$SetupReader", "tokenAt", "I", false)
  | _ => ("TimeGaps$SetupReader", "tokenLength", "I", false)
def tyX4 : Nat → FieldType := fun k => match k with
  | 0 => .object "TimeGaps$Tape"
  | 1 => .object "TimeGaps$Plan"
  | 2 => .object "TimeGaps$Net"
  | 3 => .int
  | 4 => .int
  | _ => .int
abbrev wsX40 : List Cond := u_ws RX4 TX4 6
theorem nmX4 : ∀ a, a < 6 → ∀ b, b < 6 → a ≠ b → (TX4 a).2.1 ≠ (TX4 b).2.1 := by decide +kernel
theorem tyX4_ok : ∀ k, k < 6 → parseFieldDescriptor (TX4 k).2.2.1 = some (tyX4 k) := by decide +kernel
abbrev cX4_init : ByteArray := prog_6_method_1_code
def yX4_init : MethodName := ⟨RX4, "<init>", "()V"⟩
abbrev cX4_read : ByteArray := prog_6_method_2_code
def yX4_read : MethodName := ⟨RX4, "read", "()Z"⟩
abbrev cX4_position : ByteArray := prog_6_method_3_code
def yX4_position : MethodName := ⟨RX4, "position", "()I"⟩
abbrev cX4_next : ByteArray := prog_6_method_4_code
def yX4_next : MethodName := ⟨RX4, "next", "()V"⟩
abbrev cX4_isHere : ByteArray := prog_6_method_5_code
def yX4_isHere : MethodName := ⟨RX4, "isHere", "(Ljava/lang/String;)Z"⟩
abbrev cX4_takeWord : ByteArray := prog_6_method_6_code
def yX4_takeWord : MethodName := ⟨RX4, "takeWord", "(Ljava/lang/String;)Z"⟩
abbrev cX4_takeSemicolon : ByteArray := prog_6_method_7_code
def yX4_takeSemicolon : MethodName := ⟨RX4, "takeSemicolon", "()Z"⟩
abbrev cX4_numberHere : ByteArray := prog_6_method_8_code
def yX4_numberHere : MethodName := ⟨RX4, "numberHere", "()I"⟩
abbrev cX4_eventHere : ByteArray := prog_6_method_9_code
def yX4_eventHere : MethodName := ⟨RX4, "eventHere", "()I"⟩
abbrev cX4_kindHere : ByteArray := prog_6_method_10_code
def yX4_kindHere : MethodName := ⟨RX4, "kindHere", "()I"⟩
abbrev cX4_readEnd : ByteArray := prog_6_method_11_code
def yX4_readEnd : MethodName := ⟨RX4, "readEnd", "()Z"⟩
abbrev cX4_readEvent : ByteArray := prog_6_method_12_code
def yX4_readEvent : MethodName := ⟨RX4, "readEvent", "()Z"⟩
abbrev cX4_readGap : ByteArray := prog_6_method_13_code
def yX4_readGap : MethodName := ⟨RX4, "readGap", "()Z"⟩
abbrev cX4_readPin : ByteArray := prog_6_method_14_code
def yX4_readPin : MethodName := ⟨RX4, "readPin", "()Z"⟩
def RX5 : String := "TimeGaps$Slots"
def TX5 : u_T := fun k => match k with
  | 0 => ("TimeGaps$Slots", "plans", "[LTimeGaps$Plan;", true)
  | _ => ("TimeGaps$Slots", "filled", "[Z", true)
def tyX5 : Nat → FieldType := fun k => match k with
  | 0 => .array (.object "TimeGaps$Plan")
  | _ => .array .boolean
abbrev wsX50 : List Cond := u_ws RX5 TX5 2
theorem nmX5 : ∀ a, a < 2 → ∀ b, b < 2 → a ≠ b → (TX5 a).2.1 ≠ (TX5 b).2.1 := by decide +kernel
theorem tyX5_ok : ∀ k, k < 2 → parseFieldDescriptor (TX5 k).2.2.1 = some (tyX5 k) := by decide +kernel
abbrev cX5_init : ByteArray := prog_7_method_1_code
def yX5_init : MethodName := ⟨RX5, "<init>", "()V"⟩
abbrev cX5_clear : ByteArray := prog_7_method_2_code
def yX5_clear : MethodName := ⟨RX5, "clear", "()V"⟩
def RX6 : String := "TimeGaps$Tape"
def TX6 : u_T := fun k => match k with
  | 0 => ("TimeGaps$Tape", "bytes", "[I", true)
  | _ => ("TimeGaps$Tape", "length", "I", false)
def tyX6 : Nat → FieldType := fun k => match k with
  | 0 => .array .int
  | _ => .int
abbrev wsX60 : List Cond := u_ws RX6 TX6 2
theorem nmX6 : ∀ a, a < 2 → ∀ b, b < 2 → a ≠ b → (TX6 a).2.1 ≠ (TX6 b).2.1 := by decide +kernel
theorem tyX6_ok : ∀ k, k < 2 → parseFieldDescriptor (TX6 k).2.2.1 = some (tyX6 k) := by decide +kernel
abbrev cX6_init : ByteArray := prog_8_method_1_code
def yX6_init : MethodName := ⟨RX6, "<init>", "()V"⟩
abbrev cX6_putFourBytes : ByteArray := prog_8_method_2_code
def yX6_putFourBytes : MethodName := ⟨RX6, "putFourBytes", "(I)V"⟩
abbrev cX6_byteAt : ByteArray := prog_8_method_3_code
def yX6_byteAt : MethodName := ⟨RX6, "byteAt", "(I)I"⟩
abbrev cX6_isName : ByteArray := prog_8_method_4_code
def yX6_isName : MethodName := ⟨RX6, "isName", "(II)Z"⟩
abbrev cX6_isKeyword : ByteArray := prog_8_method_5_code
def yX6_isKeyword : MethodName := ⟨RX6, "isKeyword", "(II)Z"⟩
abbrev cX6_spells : ByteArray := prog_8_method_6_code
def yX6_spells : MethodName := ⟨RX6, "spells", "(IILjava/lang/String;)Z"⟩
abbrev cX6_countLetters : ByteArray := prog_8_method_7_code
def yX6_countLetters : MethodName := ⟨RX6, "countLetters", "(I)I"⟩
abbrev cX6_countDigits : ByteArray := prog_8_method_8_code
def yX6_countDigits : MethodName := ⟨RX6, "countDigits", "(I)I"⟩
abbrev cX6_countSpaces : ByteArray := prog_8_method_9_code
def yX6_countSpaces : MethodName := ⟨RX6, "countSpaces", "(I)I"⟩
abbrev cX6_isLetter : ByteArray := prog_8_method_10_code
def yX6_isLetter : MethodName := ⟨RX6, "isLetter", "(I)Z"⟩
abbrev cX6_isDigit : ByteArray := prog_8_method_11_code
def yX6_isDigit : MethodName := ⟨RX6, "isDigit", "(I)Z"⟩
def RX7 : String := "TimeGaps$Text"
def TX7 : u_T := fun k => match k with
  | 0 => ("TimeGaps$Text", "bytes", "[I", true)
  | _ => ("TimeGaps$Text", "length", "I", false)
def tyX7 : Nat → FieldType := fun k => match k with
  | 0 => .array .int
  | _ => .int
abbrev wsX70 : List Cond := u_ws RX7 TX7 2
theorem nmX7 : ∀ a, a < 2 → ∀ b, b < 2 → a ≠ b → (TX7 a).2.1 ≠ (TX7 b).2.1 := by decide +kernel
theorem tyX7_ok : ∀ k, k < 2 → parseFieldDescriptor (TX7 k).2.2.1 = some (tyX7 k) := by decide +kernel
abbrev cX7_init : ByteArray := prog_9_method_1_code
def yX7_init : MethodName := ⟨RX7, "<init>", "()V"⟩
abbrev cX7_byteAt : ByteArray := prog_9_method_2_code
def yX7_byteAt : MethodName := ⟨RX7, "byteAt", "(I)I"⟩
abbrev cX7_writeList : ByteArray := prog_9_method_3_code
def yX7_writeList : MethodName := ⟨RX7, "writeList", "(LTimeGaps$Plan;LTimeGaps$Net;)V"⟩
abbrev cX7_writeSetup : ByteArray := prog_9_method_4_code
def yX7_writeSetup : MethodName := ⟨RX7, "writeSetup", "(LTimeGaps$Plan;)V"⟩
abbrev cX7_putGap : ByteArray := prog_9_method_5_code
def yX7_putGap : MethodName := ⟨RX7, "putGap", "(LTimeGaps$Plan;I)V"⟩
abbrev cX7_putName : ByteArray := prog_9_method_6_code
def yX7_putName : MethodName := ⟨RX7, "putName", "(LTimeGaps$Plan;I)V"⟩
abbrev cX7_putWord : ByteArray := prog_9_method_7_code
def yX7_putWord : MethodName := ⟨RX7, "putWord", "(Ljava/lang/String;)V"⟩
abbrev cX7_putNumber : ByteArray := prog_9_method_8_code
def yX7_putNumber : MethodName := ⟨RX7, "putNumber", "(I)V"⟩
abbrev cX7_put : ByteArray := prog_9_method_9_code
def yX7_put : MethodName := ⟨RX7, "put", "(I)V"⟩
def RX8 : String := "TimeGaps"
def TX8 : u_T := fun k => match k with
  | 0 => ("TimeGaps", "plan", "LTimeGaps$Plan;", true)
  | 1 => ("TimeGaps", "net", "LTimeGaps$Net;", true)
  | 2 => ("TimeGaps", "trial", "LTimeGaps$Net;", true)
  | 3 => ("TimeGaps", "history", "LTimeGaps$History;", true)
  | 4 => ("TimeGaps", "slots", "LTimeGaps$Slots;", true)
  | 5 => ("TimeGaps", "reader", "LTimeGaps$SetupReader;", true)
  | 6 => ("TimeGaps", "tape", "LTimeGaps$Tape;", true)
  | 7 => ("TimeGaps", "text", "LTimeGaps$Text;", true)
  | _ => ("TimeGaps", "errorAt", "I", false)
def tyX8 : Nat → FieldType := fun k => match k with
  | 0 => .object "TimeGaps$Plan"
  | 1 => .object "TimeGaps$Net"
  | 2 => .object "TimeGaps$Net"
  | 3 => .object "TimeGaps$History"
  | 4 => .object "TimeGaps$Slots"
  | 5 => .object "TimeGaps$SetupReader"
  | 6 => .object "TimeGaps$Tape"
  | 7 => .object "TimeGaps$Text"
  | _ => .int
abbrev wsX80 : List Cond := u_ws RX8 TX8 9
theorem nmX8 : ∀ a, a < 9 → ∀ b, b < 9 → a ≠ b → (TX8 a).2.1 ≠ (TX8 b).2.1 := by decide +kernel
theorem tyX8_ok : ∀ k, k < 9 → parseFieldDescriptor (TX8 k).2.2.1 = some (tyX8 k) := by decide +kernel
abbrev cX8_init : ByteArray := prog_1_method_1_code
def yX8_init : MethodName := ⟨RX8, "<init>", "()V"⟩
abbrev cX8_append : ByteArray := prog_1_method_2_code
def yX8_append : MethodName := ⟨RX8, "append", "(IIIII)I"⟩
abbrev cX8_truncate : ByteArray := prog_1_method_3_code
def yX8_truncate : MethodName := ⟨RX8, "truncate", "(I)I"⟩
abbrev cX8_load : ByteArray := prog_1_method_4_code
def yX8_load : MethodName := ⟨RX8, "load", "()I"⟩
abbrev cX8_errorPosition : ByteArray := prog_1_method_5_code
def yX8_errorPosition : MethodName := ⟨RX8, "errorPosition", "()I"⟩
abbrev cX8_open : ByteArray := prog_1_method_6_code
def yX8_open : MethodName := ⟨RX8, "open", "()I"⟩
abbrev cX8_tell : ByteArray := prog_1_method_7_code
def yX8_tell : MethodName := ⟨RX8, "tell", "(IIII)I"⟩
abbrev cX8_drop : ByteArray := prog_1_method_8_code
def yX8_drop : MethodName := ⟨RX8, "drop", "(I)I"⟩
abbrev cX8_set : ByteArray := prog_1_method_9_code
def yX8_set : MethodName := ⟨RX8, "set", "(II)I"⟩
abbrev cX8_turn : ByteArray := prog_1_method_10_code
def yX8_turn : MethodName := ⟨RX8, "turn", "(I)I"⟩
abbrev cX8_pin : ByteArray := prog_1_method_11_code
def yX8_pin : MethodName := ⟨RX8, "pin", "(II)I"⟩
abbrev cX8_unpin : ByteArray := prog_1_method_12_code
def yX8_unpin : MethodName := ⟨RX8, "unpin", "(I)I"⟩
abbrev cX8_end : ByteArray := prog_1_method_13_code
def yX8_end : MethodName := ⟨RX8, "end", "(I)I"⟩
abbrev cX8_rename : ByteArray := prog_1_method_14_code
def yX8_rename : MethodName := ⟨RX8, "rename", "(I)I"⟩
abbrev cX8_reverse : ByteArray := prog_1_method_15_code
def yX8_reverse : MethodName := ⟨RX8, "reverse", "(I)I"⟩
abbrev cX8_tighten : ByteArray := prog_1_method_16_code
def yX8_tighten : MethodName := ⟨RX8, "tighten", "()I"⟩
abbrev cX8_thin : ByteArray := prog_1_method_17_code
def yX8_thin : MethodName := ⟨RX8, "thin", "()I"⟩
abbrev cX8_pinAll : ByteArray := prog_1_method_18_code
def yX8_pinAll : MethodName := ⟨RX8, "pinAll", "()I"⟩
abbrev cX8_keep : ByteArray := prog_1_method_19_code
def yX8_keep : MethodName := ⟨RX8, "keep", "(I)I"⟩
abbrev cX8_restore : ByteArray := prog_1_method_20_code
def yX8_restore : MethodName := ⟨RX8, "restore", "(I)I"⟩
abbrev cX8_undo : ByteArray := prog_1_method_21_code
def yX8_undo : MethodName := ⟨RX8, "undo", "()I"⟩
abbrev cX8_value : ByteArray := prog_1_method_22_code
def yX8_value : MethodName := ⟨RX8, "value", "(I)I"⟩
abbrev cX8_letter : ByteArray := prog_1_method_23_code
def yX8_letter : MethodName := ⟨RX8, "letter", "(II)I"⟩
abbrev cX8_gap : ByteArray := prog_1_method_24_code
def yX8_gap : MethodName := ⟨RX8, "gap", "(II)I"⟩
abbrev cX8_event : ByteArray := prog_1_method_25_code
def yX8_event : MethodName := ⟨RX8, "event", "(II)I"⟩
abbrev cX8_bound : ByteArray := prog_1_method_26_code
def yX8_bound : MethodName := ⟨RX8, "bound", "(II)I"⟩
abbrev cX8_way : ByteArray := prog_1_method_27_code
def yX8_way : MethodName := ⟨RX8, "way", "(III)I"⟩
abbrev cX8_wayLength : ByteArray := prog_1_method_28_code
def yX8_wayLength : MethodName := ⟨RX8, "wayLength", "(II)I"⟩
abbrev cX8_relation : ByteArray := prog_1_method_29_code
def yX8_relation : MethodName := ⟨RX8, "relation", "(II)I"⟩
abbrev cX8_play : ByteArray := prog_1_method_30_code
def yX8_play : MethodName := ⟨RX8, "play", "(II)I"⟩
abbrev cX8_pairs : ByteArray := prog_1_method_31_code
def yX8_pairs : MethodName := ⟨RX8, "pairs", "(I)I"⟩
abbrev cX8_ordered : ByteArray := prog_1_method_33_code
def yX8_ordered : MethodName := ⟨RX8, "ordered", "(I)I"⟩
abbrev cX8_middle : ByteArray := prog_1_method_34_code
def yX8_middle : MethodName := ⟨RX8, "middle", "(I)I"⟩
abbrev cX8_lastly : ByteArray := prog_1_method_35_code
def yX8_lastly : MethodName := ⟨RX8, "lastly", "(I)I"⟩
abbrev cX8_can : ByteArray := prog_1_method_36_code
def yX8_can : MethodName := ⟨RX8, "can", "(II)I"⟩
abbrev cX8_freest : ByteArray := prog_1_method_38_code
def yX8_freest : MethodName := ⟨RX8, "freest", "()I"⟩
abbrev cX8_why : ByteArray := prog_1_method_39_code
def yX8_why : MethodName := ⟨RX8, "why", "(IIIII)I"⟩
abbrev cX8_ring : ByteArray := prog_1_method_40_code
def yX8_ring : MethodName := ⟨RX8, "ring", "(IIIII)I"⟩
abbrev cX8_culprit : ByteArray := prog_1_method_41_code
def yX8_culprit : MethodName := ⟨RX8, "culprit", "(IIII)I"⟩
abbrev cX8_tightest : ByteArray := prog_1_method_42_code
def yX8_tightest : MethodName := ⟨RX8, "tightest", "(III)I"⟩
abbrev cX8_spare : ByteArray := prog_1_method_43_code
def yX8_spare : MethodName := ⟨RX8, "spare", "(I)I"⟩
abbrev cX8_needless : ByteArray := prog_1_method_44_code
def yX8_needless : MethodName := ⟨RX8, "needless", "()I"⟩
abbrev cX8_needs : ByteArray := prog_1_method_45_code
def yX8_needs : MethodName := ⟨RX8, "needs", "(I)I"⟩
abbrev cX8_ifTold : ByteArray := prog_1_method_46_code
def yX8_ifTold : MethodName := ⟨RX8, "ifTold", "(IIIII)I"⟩
abbrev cX8_ifDropped : ByteArray := prog_1_method_47_code
def yX8_ifDropped : MethodName := ⟨RX8, "ifDropped", "(II)I"⟩
abbrev cX8_ifTurned : ByteArray := prog_1_method_48_code
def yX8_ifTurned : MethodName := ⟨RX8, "ifTurned", "(II)I"⟩
abbrev cX8_ifPinned : ByteArray := prog_1_method_49_code
def yX8_ifPinned : MethodName := ⟨RX8, "ifPinned", "(III)I"⟩
abbrev cX8_leastEnd : ByteArray := prog_1_method_50_code
def yX8_leastEnd : MethodName := ⟨RX8, "leastEnd", "()I"⟩
abbrev cX8_log : ByteArray := prog_1_method_52_code
def yX8_log : MethodName := ⟨RX8, "log", "(II)I"⟩
abbrev cX8_tightShare : ByteArray := prog_1_method_53_code
def yX8_tightShare : MethodName := ⟨RX8, "tightShare", "()F"⟩
abbrev cX8_meanRoom : ByteArray := prog_1_method_54_code
def yX8_meanRoom : MethodName := ⟨RX8, "meanRoom", "()D"⟩
abbrev cX8_listLength : ByteArray := prog_1_method_55_code
def yX8_listLength : MethodName := ⟨RX8, "listLength", "()I"⟩
abbrev cX8_listByte : ByteArray := prog_1_method_56_code
def yX8_listByte : MethodName := ⟨RX8, "listByte", "(I)I"⟩
abbrev cX8_setupLength : ByteArray := prog_1_method_57_code
def yX8_setupLength : MethodName := ⟨RX8, "setupLength", "()I"⟩
abbrev cX8_setupByte : ByteArray := prog_1_method_58_code
def yX8_setupByte : MethodName := ⟨RX8, "setupByte", "(I)I"⟩
abbrev cX8_isEvent : ByteArray := prog_1_method_59_code
def yX8_isEvent : MethodName := ⟨RX8, "isEvent", "(I)Z"⟩
abbrev cX8_areTwoEvents : ByteArray := prog_1_method_60_code
def yX8_areTwoEvents : MethodName := ⟨RX8, "areTwoEvents", "(II)Z"⟩
abbrev cX8_isGap : ByteArray := prog_1_method_61_code
def yX8_isGap : MethodName := ⟨RX8, "isGap", "(I)Z"⟩
abbrev cX8_isTellable : ByteArray := prog_1_method_62_code
def yX8_isTellable : MethodName := ⟨RX8, "isTellable", "(IIII)Z"⟩
abbrev cX8_isTime : ByteArray := prog_1_method_63_code
def yX8_isTime : MethodName := ⟨RX8, "isTime", "(I)Z"⟩
abbrev cX8_isPinnable : ByteArray := prog_1_method_64_code
def yX8_isPinnable : MethodName := ⟨RX8, "isPinnable", "(I)Z"⟩
abbrev cX8_isNewNameOnTape : ByteArray := prog_1_method_65_code
def yX8_isNewNameOnTape : MethodName := ⟨RX8, "isNewNameOnTape", "()Z"⟩
abbrev cX8_isKind : ByteArray := prog_1_method_66_code
def yX8_isKind : MethodName := ⟨RX8, "isKind", "(I)Z"⟩
abbrev cX8_isNumber : ByteArray := prog_1_method_67_code
def yX8_isNumber : MethodName := ⟨RX8, "isNumber", "(I)Z"⟩
abbrev cX8_isSlot : ByteArray := prog_1_method_68_code
def yX8_isSlot : MethodName := ⟨RX8, "isSlot", "(I)Z"⟩
abbrev cX8_isChange : ByteArray := prog_1_method_69_code
def yX8_isChange : MethodName := ⟨RX8, "isChange", "(I)Z"⟩
abbrev cX8_asNumber : ByteArray := prog_1_method_70_code
def yX8_asNumber : MethodName := ⟨RX8, "asNumber", "(Z)I"⟩
abbrev cX8_finish : ByteArray := prog_1_method_71_code
def yX8_finish : MethodName := ⟨RX8, "finish", "(III)V"⟩
abbrev cX8_beginOf : ByteArray := prog_1_method_72_code
def yX8_beginOf : MethodName := ⟨RX8, "beginOf", "(I)I"⟩
abbrev cX8_finishOf : ByteArray := prog_1_method_73_code
def yX8_finishOf : MethodName := ⟨RX8, "finishOf", "(I)I"⟩
abbrev cX8_lengthOf : ByteArray := prog_1_method_74_code
def yX8_lengthOf : MethodName := ⟨RX8, "lengthOf", "(I)I"⟩
abbrev cX8_boundOf : ByteArray := prog_1_method_75_code
def yX8_boundOf : MethodName := ⟨RX8, "boundOf", "(I)I"⟩
abbrev cX8_ringOfGap : ByteArray := prog_1_method_76_code
def yX8_ringOfGap : MethodName := ⟨RX8, "ringOfGap", "(II)I"⟩
abbrev cX8_isTight : ByteArray := prog_1_method_77_code
def yX8_isTight : MethodName := ⟨RX8, "isTight", "(I)Z"⟩
abbrev cX8_isNeeded : ByteArray := prog_1_method_78_code
def yX8_isNeeded : MethodName := ⟨RX8, "isNeeded", "(I)Z"⟩
abbrev cX8_isLoose : ByteArray := prog_1_method_79_code
def yX8_isLoose : MethodName := ⟨RX8, "isLoose", "(I)Z"⟩
abbrev cX8_tightNumber : ByteArray := prog_1_method_80_code
def yX8_tightNumber : MethodName := ⟨RX8, "tightNumber", "(I)I"⟩
abbrev cX8_tightestNumber : ByteArray := prog_1_method_81_code
def yX8_tightestNumber : MethodName := ⟨RX8, "tightestNumber", "(III)I"⟩
abbrev cX8_countTight : ByteArray := prog_1_method_82_code
def yX8_countTight : MethodName := ⟨RX8, "countTight", "()I"⟩
abbrev cX8_countNeeded : ByteArray := prog_1_method_83_code
def yX8_countNeeded : MethodName := ⟨RX8, "countNeeded", "()I"⟩
abbrev cX8_firstNeedless : ByteArray := prog_1_method_84_code
def yX8_firstNeedless : MethodName := ⟨RX8, "firstNeedless", "(I)I"⟩
abbrev cX8_relationOf : ByteArray := prog_1_method_85_code
def yX8_relationOf : MethodName := ⟨RX8, "relationOf", "(II)I"⟩
abbrev cX8_stepOfRing : ByteArray := prog_1_method_86_code
def yX8_stepOfRing : MethodName := ⟨RX8, "stepOfRing", "(IIII)I"⟩
abbrev cX8_tryWithout : ByteArray := prog_1_method_87_code
def yX8_tryWithout : MethodName := ⟨RX8, "tryWithout", "(I)V"⟩
abbrev cX8_changeOnTrial : ByteArray := prog_1_method_88_code
def yX8_changeOnTrial : MethodName := ⟨RX8, "changeOnTrial", "(I)I"⟩
abbrev cX8_stepBegin : ByteArray := prog_1_method_89_code
def yX8_stepBegin : MethodName := ⟨RX8, "stepBegin", "(III)I"⟩
abbrev cX8_stepFinish : ByteArray := prog_1_method_90_code
def yX8_stepFinish : MethodName := ⟨RX8, "stepFinish", "(III)I"⟩
abbrev cX8_stepLength : ByteArray := prog_1_method_91_code
def yX8_stepLength : MethodName := ⟨RX8, "stepLength", "(II)I"⟩
def RX9 : String := "TimeGapsModel"
def TX9 : u_T := fun k => match k with
  | _ => ("", "", "", false)
def tyX9 : Nat → FieldType := fun k => match k with
  | _ => .int
abbrev wsX90 : List Cond := u_ws RX9 TX9 0
theorem nmX9 : ∀ a, a < 0 → ∀ b, b < 0 → a ≠ b → (TX9 a).2.1 ≠ (TX9 b).2.1 := by decide +kernel
theorem tyX9_ok : ∀ k, k < 0 → parseFieldDescriptor (TX9 k).2.2.1 = some (tyX9 k) := by decide +kernel
def RJ5 : String := "java/lang/AbstractStringBuilder"
def TJ5 : u_T := fun k => match k with
  | _ => ("", "", "", false)
def tyJ5 : Nat → FieldType := fun k => match k with
  | _ => .int
abbrev wsJ50 : List Cond := u_ws RJ5 TJ5 0
theorem nmJ5 : ∀ a, a < 0 → ∀ b, b < 0 → a ≠ b → (TJ5 a).2.1 ≠ (TJ5 b).2.1 := by decide +kernel
theorem tyJ5_ok : ∀ k, k < 0 → parseFieldDescriptor (TJ5 k).2.2.1 = some (tyJ5 k) := by decide +kernel
abbrev cJ5_init_d00df : ByteArray := prog_12_method_2_code
def yJ5_init_d00df : MethodName := ⟨RJ5, "<init>", "(I)V"⟩
abbrev cJ5_init_a7421 : ByteArray := prog_12_method_3_code
def yJ5_init_a7421 : MethodName := ⟨RJ5, "<init>", "(Ljava/lang/String;)V"⟩
abbrev cJ5_length_8abf5 : ByteArray := prog_12_method_6_code
def yJ5_length_8abf5 : MethodName := ⟨RJ5, "length", "()I"⟩
abbrev cJ5_ensureCapacityInternal_d00df : ByteArray := prog_12_method_9_code
def yJ5_ensureCapacityInternal_d00df : MethodName := ⟨RJ5, "ensureCapacityInternal", "(I)V"⟩
abbrev cJ5_newCapacity_0f7a4 : ByteArray := prog_12_method_10_code
def yJ5_newCapacity_0f7a4 : MethodName := ⟨RJ5, "newCapacity", "(I)I"⟩
abbrev cJ5_inflate_da8c8 : ByteArray := prog_12_method_11_code
def yJ5_inflate_da8c8 : MethodName := ⟨RJ5, "inflate", "()V"⟩
abbrev cJ5_append_cf1ce : ByteArray := prog_12_method_22_code
def yJ5_append_cf1ce : MethodName := ⟨RJ5, "append", "(Ljava/lang/String;)Ljava/lang/AbstractStringBuilder;"⟩
abbrev cJ5_appendNull_278bc : ByteArray := prog_12_method_26_code
def yJ5_appendNull_278bc : MethodName := ⟨RJ5, "appendNull", "()Ljava/lang/AbstractStringBuilder;"⟩
abbrev cJ5_append_3fe6f : ByteArray := prog_12_method_31_code
def yJ5_append_3fe6f : MethodName := ⟨RJ5, "append", "(C)Ljava/lang/AbstractStringBuilder;"⟩
abbrev cJ5_append_c97b9 : ByteArray := prog_12_method_32_code
def yJ5_append_c97b9 : MethodName := ⟨RJ5, "append", "(I)Ljava/lang/AbstractStringBuilder;"⟩
abbrev cJ5_getValue_6d5f1 : ByteArray := prog_12_method_64_code
def yJ5_getValue_6d5f1 : MethodName := ⟨RJ5, "getValue", "()[B"⟩
abbrev cJ5_isLatin1_aae02 : ByteArray := prog_12_method_68_code
def yJ5_isLatin1_aae02 : MethodName := ⟨RJ5, "isLatin1", "()Z"⟩
abbrev cJ5_inflateIfNeededFor_a7421 : ByteArray := prog_12_method_71_code
def yJ5_inflateIfNeededFor_a7421 : MethodName := ⟨RJ5, "inflateIfNeededFor", "(Ljava/lang/String;)V"⟩
abbrev cJ5_putStringAt_47b60 : ByteArray := prog_12_method_73_code
def yJ5_putStringAt_47b60 : MethodName := ⟨RJ5, "putStringAt", "(ILjava/lang/String;)V"⟩
def RJ6 : String := "java/lang/Integer"
def TJ6 : u_T := fun k => match k with
  | _ => ("", "", "", false)
def tyJ6 : Nat → FieldType := fun k => match k with
  | _ => .int
abbrev wsJ60 : List Cond := u_ws RJ6 TJ6 0
theorem nmJ6 : ∀ a, a < 0 → ∀ b, b < 0 → a ≠ b → (TJ6 a).2.1 ≠ (TJ6 b).2.1 := by decide +kernel
theorem tyJ6_ok : ∀ k, k < 0 → parseFieldDescriptor (TJ6 k).2.2.1 = some (tyJ6 k) := by decide +kernel
abbrev cJ6_getChars_ba4f3 : ByteArray := prog_14_method_12_code
def yJ6_getChars_ba4f3 : MethodName := ⟨RJ6, "getChars", "(II[B)I"⟩
abbrev cJ6_stringSize_0f7a4 : ByteArray := prog_14_method_13_code
def yJ6_stringSize_0f7a4 : MethodName := ⟨RJ6, "stringSize", "(I)I"⟩
def RJ9 : String := "java/lang/Math"
def TJ9 : u_T := fun k => match k with
  | _ => ("", "", "", false)
def tyJ9 : Nat → FieldType := fun k => match k with
  | _ => .int
abbrev wsJ90 : List Cond := u_ws RJ9 TJ9 0
theorem nmJ9 : ∀ a, a < 0 → ∀ b, b < 0 → a ≠ b → (TJ9 a).2.1 ≠ (TJ9 b).2.1 := by decide +kernel
theorem tyJ9_ok : ∀ k, k < 0 → parseFieldDescriptor (TJ9 k).2.2.1 = some (tyJ9 k) := by decide +kernel
abbrev cJ9_floorDiv_7cf53 : ByteArray := prog_15_method_47_code
def yJ9_floorDiv_7cf53 : MethodName := ⟨RJ9, "floorDiv", "(II)I"⟩
abbrev cJ9_floorMod_7cf53 : ByteArray := prog_15_method_50_code
def yJ9_floorMod_7cf53 : MethodName := ⟨RJ9, "floorMod", "(II)I"⟩
abbrev cJ9_abs_0f7a4 : ByteArray := prog_15_method_59_code
def yJ9_abs_0f7a4 : MethodName := ⟨RJ9, "abs", "(I)I"⟩
abbrev cJ9_max_7cf53 : ByteArray := prog_15_method_65_code
def yJ9_max_7cf53 : MethodName := ⟨RJ9, "max", "(II)I"⟩
abbrev cJ9_min_7cf53 : ByteArray := prog_15_method_69_code
def yJ9_min_7cf53 : MethodName := ⟨RJ9, "min", "(II)I"⟩
def RJ0 : String := "java/lang/String"
def TJ0 : u_T := fun k => match k with
  | 0 => ("java/lang/String", "value", "[B", true)
  | 1 => ("java/lang/String", "coder", "B", true)
  | 2 => ("java/lang/String", "hash", "I", false)
  | _ => ("java/lang/String", "hashIsZero", "Z", false)
def tyJ0 : Nat → FieldType := fun k => match k with
  | 0 => .array .byte
  | 1 => .byte
  | 2 => .int
  | _ => .boolean
abbrev wsJ00 : List Cond := u_ws RJ0 TJ0 4
theorem nmJ0 : ∀ a, a < 4 → ∀ b, b < 4 → a ≠ b → (TJ0 a).2.1 ≠ (TJ0 b).2.1 := by decide +kernel
theorem tyJ0_ok : ∀ k, k < 4 → parseFieldDescriptor (TJ0 k).2.2.1 = some (tyJ0 k) := by decide +kernel
abbrev cJ0_init_81219 : ByteArray := prog_16_method_53_code
def yJ0_init_81219 : MethodName := ⟨RJ0, "<init>", "(Ljava/lang/StringBuilder;)V"⟩
abbrev cJ0_length_8abf5 : ByteArray := prog_16_method_54_code
def yJ0_length_8abf5 : MethodName := ⟨RJ0, "length", "()I"⟩
abbrev cJ0_charAt_5068e : ByteArray := prog_16_method_56_code
def yJ0_charAt_5068e : MethodName := ⟨RJ0, "charAt", "(I)C"⟩
abbrev cJ0_getBytes_840e7 : ByteArray := prog_16_method_147_code
def yJ0_getBytes_840e7 : MethodName := ⟨RJ0, "getBytes", "([BIB)V"⟩
abbrev cJ0_init_db425 : ByteArray := prog_16_method_150_code
def yJ0_init_db425 : MethodName := ⟨RJ0, "<init>", "(Ljava/lang/AbstractStringBuilder;Ljava/lang/Void;)V"⟩
abbrev cJ0_coder_7d493 : ByteArray := prog_16_method_152_code
def yJ0_coder_7d493 : MethodName := ⟨RJ0, "coder", "()B"⟩
abbrev cJ0_isLatin1_aae02 : ByteArray := prog_16_method_154_code
def yJ0_isLatin1_aae02 : MethodName := ⟨RJ0, "isLatin1", "()Z"⟩
abbrev cJ0_checkIndex_df160 : ByteArray := prog_16_method_155_code
def yJ0_checkIndex_df160 : MethodName := ⟨RJ0, "checkIndex", "(II)V"⟩
abbrev cJ0_checkBoundsOffCount_cabcc : ByteArray := prog_16_method_157_code
def yJ0_checkBoundsOffCount_cabcc : MethodName := ⟨RJ0, "checkBoundsOffCount", "(III)I"⟩
abbrev cJ0_checkBoundsBeginEnd_23922 : ByteArray := prog_16_method_158_code
def yJ0_checkBoundsBeginEnd_23922 : MethodName := ⟨RJ0, "checkBoundsBeginEnd", "(III)V"⟩
def RJ4 : String := "java/lang/StringBuilder"
def TJ4 : u_T := fun k => match k with
  | 0 => ("java/lang/AbstractStringBuilder", "value", "[B", false)
  | 1 => ("java/lang/AbstractStringBuilder", "coder", "B", false)
  | 2 => ("java/lang/AbstractStringBuilder", "maybeLatin1", "Z", false)
  | _ => ("java/lang/AbstractStringBuilder", "count", "I", false)
def tyJ4 : Nat → FieldType := fun k => match k with
  | 0 => .array .byte
  | 1 => .byte
  | 2 => .boolean
  | _ => .int
abbrev wsJ40 : List Cond := u_ws RJ4 TJ4 4
theorem nmJ4 : ∀ a, a < 4 → ∀ b, b < 4 → a ≠ b → (TJ4 a).2.1 ≠ (TJ4 b).2.1 := by decide +kernel
theorem tyJ4_ok : ∀ k, k < 4 → parseFieldDescriptor (TJ4 k).2.2.1 = some (tyJ4 k) := by decide +kernel
abbrev cJ4_init_da8c8 : ByteArray := prog_17_method_1_code
def yJ4_init_da8c8 : MethodName := ⟨RJ4, "<init>", "()V"⟩
abbrev cJ4_init_a7421 : ByteArray := prog_17_method_3_code
def yJ4_init_a7421 : MethodName := ⟨RJ4, "<init>", "(Ljava/lang/String;)V"⟩
abbrev cJ4_append_15ec4 : ByteArray := prog_17_method_7_code
def yJ4_append_15ec4 : MethodName := ⟨RJ4, "append", "(Ljava/lang/String;)Ljava/lang/StringBuilder;"⟩
abbrev cJ4_append_cf468 : ByteArray := prog_17_method_14_code
def yJ4_append_cf468 : MethodName := ⟨RJ4, "append", "(C)Ljava/lang/StringBuilder;"⟩
abbrev cJ4_append_bf812 : ByteArray := prog_17_method_15_code
def yJ4_append_bf812 : MethodName := ⟨RJ4, "append", "(I)Ljava/lang/StringBuilder;"⟩
abbrev cJ4_toString_0e30d : ByteArray := prog_17_method_42_code
def yJ4_toString_0e30d : MethodName := ⟨RJ4, "toString", "()Ljava/lang/String;"⟩
abbrev cJ4_append_cf1ce : ByteArray := prog_17_method_80_code
def yJ4_append_cf1ce : MethodName := ⟨RJ4, "append", "(Ljava/lang/String;)Ljava/lang/AbstractStringBuilder;"⟩
abbrev cJ4_length_8abf5 : ByteArray := prog_17_method_93_code
def yJ4_length_8abf5 : MethodName := ⟨RJ4, "length", "()I"⟩
def RJ1 : String := "java/lang/StringLatin1"
def TJ1 : u_T := fun k => match k with
  | _ => ("", "", "", false)
def tyJ1 : Nat → FieldType := fun k => match k with
  | _ => .int
abbrev wsJ10 : List Cond := u_ws RJ1 TJ1 0
theorem nmJ1 : ∀ a, a < 0 → ∀ b, b < 0 → a ≠ b → (TJ1 a).2.1 ≠ (TJ1 b).2.1 := by decide +kernel
theorem tyJ1_ok : ∀ k, k < 0 → parseFieldDescriptor (TJ1 k).2.2.1 = some (tyJ1 k) := by decide +kernel
abbrev cJ1_charAt_3b067 : ByteArray := prog_18_method_2_code
def yJ1_charAt_3b067 : MethodName := ⟨RJ1, "charAt", "([BI)C"⟩
abbrev cJ1_canEncode_fc78d : ByteArray := prog_18_method_3_code
def yJ1_canEncode_fc78d : MethodName := ⟨RJ1, "canEncode", "(C)Z"⟩
abbrev cJ1_inflate_0e8fd : ByteArray := prog_18_method_50_code
def yJ1_inflate_0e8fd : MethodName := ⟨RJ1, "inflate", "([BI[BII)V"⟩
def RJ2 : String := "java/lang/StringUTF16"
def TJ2 : u_T := fun k => match k with
  | _ => ("", "", "", false)
def tyJ2 : Nat → FieldType := fun k => match k with
  | _ => .int
abbrev wsJ20 : List Cond := u_ws RJ2 TJ2 0
theorem nmJ2 : ∀ a, a < 0 → ∀ b, b < 0 → a ≠ b → (TJ2 a).2.1 ≠ (TJ2 b).2.1 := by decide +kernel
theorem tyJ2_ok : ∀ k, k < 0 → parseFieldDescriptor (TJ2 k).2.2.1 = some (tyJ2 k) := by decide +kernel
abbrev cJ2_newBytesFor_77867 : ByteArray := prog_19_method_2_code
def yJ2_newBytesFor_77867 : MethodName := ⟨RJ2, "newBytesFor", "(I)[B"⟩
abbrev cJ2_newBytesLength_0f7a4 : ByteArray := prog_19_method_3_code
def yJ2_newBytesLength_0f7a4 : MethodName := ⟨RJ2, "newBytesLength", "(I)I"⟩
abbrev cJ2_putChar_b72d1 : ByteArray := prog_19_method_4_code
def yJ2_putChar_b72d1 : MethodName := ⟨RJ2, "putChar", "([BII)V"⟩
abbrev cJ2_getChar_3b067 : ByteArray := prog_19_method_5_code
def yJ2_getChar_3b067 : MethodName := ⟨RJ2, "getChar", "([BI)C"⟩
abbrev cJ2_length_9d52b : ByteArray := prog_19_method_6_code
def yJ2_length_9d52b : MethodName := ⟨RJ2, "length", "([B)I"⟩
abbrev cJ2_coderFromArrayLen_85cad : ByteArray := prog_19_method_15_code
def yJ2_coderFromArrayLen_85cad : MethodName := ⟨RJ2, "coderFromArrayLen", "([BI)B"⟩
abbrev cJ2_compress_39247 : ByteArray := prog_19_method_17_code
def yJ2_compress_39247 : MethodName := ⟨RJ2, "compress", "([BII)[B"⟩
abbrev cJ2_compress_5af95 : ByteArray := prog_19_method_22_code
def yJ2_compress_5af95 : MethodName := ⟨RJ2, "compress", "([BI[BII)I"⟩
abbrev cJ2_putCharSB_b72d1 : ByteArray := prog_19_method_71_code
def yJ2_putCharSB_b72d1 : MethodName := ⟨RJ2, "putCharSB", "([BII)V"⟩
abbrev cJ2_getChars_46870 : ByteArray := prog_19_method_77_code
def yJ2_getChars_46870 : MethodName := ⟨RJ2, "getChars", "(III[B)I"⟩
abbrev cJ2_putCharsAt_cd4e5 : ByteArray := prog_19_method_81_code
def yJ2_putCharsAt_cd4e5 : MethodName := ⟨RJ2, "putCharsAt", "([BICCCC)I"⟩
abbrev cJ2_charAt_3b067 : ByteArray := prog_19_method_83_code
def yJ2_charAt_3b067 : MethodName := ⟨RJ2, "charAt", "([BI)C"⟩
abbrev cJ2_inflate_0e8fd : ByteArray := prog_19_method_86_code
def yJ2_inflate_0e8fd : MethodName := ⟨RJ2, "inflate", "([BI[BII)V"⟩
abbrev cJ2_getChars_ba4f3 : ByteArray := prog_19_method_89_code
def yJ2_getChars_ba4f3 : MethodName := ⟨RJ2, "getChars", "(II[B)I"⟩
abbrev cJ2_checkIndex_2214a : ByteArray := prog_19_method_91_code
def yJ2_checkIndex_2214a : MethodName := ⟨RJ2, "checkIndex", "(I[B)V"⟩
abbrev cJ2_checkBoundsBeginEnd_d044e : ByteArray := prog_19_method_93_code
def yJ2_checkBoundsBeginEnd_d044e : MethodName := ⟨RJ2, "checkBoundsBeginEnd", "(II[B)V"⟩
abbrev cJ2_checkBoundsOffCount_d044e : ByteArray := prog_19_method_94_code
def yJ2_checkBoundsOffCount_d044e : MethodName := ⟨RJ2, "checkBoundsOffCount", "(II[B)V"⟩
def RJ10 : String := "java/lang/System"
def TJ10 : u_T := fun k => match k with
  | _ => ("", "", "", false)
def tyJ10 : Nat → FieldType := fun k => match k with
  | _ => .int
abbrev wsJ100 : List Cond := u_ws RJ10 TJ10 0
theorem nmJ10 : ∀ a, a < 0 → ∀ b, b < 0 → a ≠ b → (TJ10 a).2.1 ≠ (TJ10 b).2.1 := by decide +kernel
theorem tyJ10_ok : ∀ k, k < 0 → parseFieldDescriptor (TJ10 k).2.2.1 = some (tyJ10 k) := by decide +kernel
def RJ7 : String := "java/util/Arrays"
def TJ7 : u_T := fun k => match k with
  | _ => ("", "", "", false)
def tyJ7 : Nat → FieldType := fun k => match k with
  | _ => .int
abbrev wsJ70 : List Cond := u_ws RJ7 TJ7 0
theorem nmJ7 : ∀ a, a < 0 → ∀ b, b < 0 → a ≠ b → (TJ7 a).2.1 ≠ (TJ7 b).2.1 := by decide +kernel
theorem tyJ7_ok : ∀ k, k < 0 → parseFieldDescriptor (TJ7 k).2.2.1 = some (tyJ7 k) := by decide +kernel
abbrev cJ7_copyOf_9075b : ByteArray := prog_21_method_121_code
def yJ7_copyOf_9075b : MethodName := ⟨RJ7, "copyOf", "([BI)[B"⟩
abbrev cJ7_checkLength_df160 : ByteArray := prog_21_method_131_code
def yJ7_checkLength_df160 : MethodName := ⟨RJ7, "checkLength", "(II)V"⟩
abbrev cJ7_copyOfRange_39247 : ByteArray := prog_21_method_132_code
def yJ7_copyOfRange_39247 : MethodName := ⟨RJ7, "copyOfRange", "([BII)[B"⟩
abbrev cJ7_copyOfRangeByte_39247 : ByteArray := prog_21_method_133_code
def yJ7_copyOfRangeByte_39247 : MethodName := ⟨RJ7, "copyOfRangeByte", "([BII)[B"⟩
def RJ8 : String := "jdk/internal/util/ArraysSupport"
def TJ8 : u_T := fun k => match k with
  | _ => ("", "", "", false)
def tyJ8 : Nat → FieldType := fun k => match k with
  | _ => .int
abbrev wsJ80 : List Cond := u_ws RJ8 TJ8 0
theorem nmJ8 : ∀ a, a < 0 → ∀ b, b < 0 → a ≠ b → (TJ8 a).2.1 ≠ (TJ8 b).2.1 := by decide +kernel
theorem tyJ8_ok : ∀ k, k < 0 → parseFieldDescriptor (TJ8 k).2.2.1 = some (tyJ8 k) := by decide +kernel
abbrev cJ8_newLength_cabcc : ByteArray := prog_22_method_27_code
def yJ8_newLength_cabcc : MethodName := ⟨RJ8, "newLength", "(III)I"⟩
abbrev cJ8_hugeLength_7cf53 : ByteArray := prog_22_method_28_code
def yJ8_hugeLength_7cf53 : MethodName := ⟨RJ8, "hugeLength", "(II)I"⟩
def RJ3 : String := "jdk/internal/util/Preconditions"
def TJ3 : u_T := fun k => match k with
  | _ => ("", "", "", false)
def tyJ3 : Nat → FieldType := fun k => match k with
  | _ => .int
abbrev wsJ30 : List Cond := u_ws RJ3 TJ3 0
theorem nmJ3 : ∀ a, a < 0 → ∀ b, b < 0 → a ≠ b → (TJ3 a).2.1 ≠ (TJ3 b).2.1 := by decide +kernel
theorem tyJ3_ok : ∀ k, k < 0 → parseFieldDescriptor (TJ3 k).2.2.1 = some (tyJ3 k) := by decide +kernel
abbrev cJ3_checkIndex_8e157 : ByteArray := prog_23_method_11_code
def yJ3_checkIndex_8e157 : MethodName := ⟨RJ3, "checkIndex", "(IILjava/util/function/BiFunction;)I"⟩
abbrev cJ3_checkFromToIndex_8c36e : ByteArray := prog_23_method_12_code
def yJ3_checkFromToIndex_8c36e : MethodName := ⟨RJ3, "checkFromToIndex", "(IIILjava/util/function/BiFunction;)I"⟩
abbrev cJ3_checkFromIndexSize_8c36e : ByteArray := prog_23_method_13_code
def yJ3_checkFromIndexSize_8c36e : MethodName := ⟨RJ3, "checkFromIndexSize", "(IIILjava/util/function/BiFunction;)I"⟩
def RL : String := "TimeGapsLaw"
abbrev cL_draw : ByteArray := method_2_code
def yL_draw : MethodName := ⟨RL, "draw", "([I)I"⟩
abbrev cL_write : ByteArray := method_3_code
def yL_write : MethodName := ⟨RL, "write", "(LTimeGaps;Ljava/lang/String;)V"⟩
abbrev cL_loads : ByteArray := method_4_code
def yL_loads : MethodName := ⟨RL, "loads", "(LTimeGaps;Ljava/lang/String;)Z"⟩
abbrev cL_text : ByteArray := method_5_code
def yL_text : MethodName := ⟨RL, "text", "(LTimeGaps;Z)Ljava/lang/String;"⟩
abbrev cL_setup : ByteArray := method_6_code
def yL_setup : MethodName := ⟨RL, "setup", "([I)Ljava/lang/String;"⟩
abbrev cL_acts : ByteArray := method_7_code
def yL_acts : MethodName := ⟨RL, "acts", "(LTimeGaps;[I)I"⟩
abbrev cL_tells : ByteArray := method_8_code
def yL_tells : MethodName := ⟨RL, "tells", "(LTimeGaps;[I)I"⟩
abbrev cL_isAs : ByteArray := method_9_code
def yL_isAs : MethodName := ⟨RL, "isAs", "(LTimeGaps;[II[I)Z"⟩
abbrev cL_bear : ByteArray := method_10_code
def yL_bear : MethodName := ⟨RL, "bear", "(LTimeGaps;I)Z"⟩
abbrev cL_time : ByteArray := method_11_code
def yL_time : MethodName := ⟨RL, "time", "(LTimeGaps;II)I"⟩
abbrev cL_lengthOf : ByteArray := method_12_code
def yL_lengthOf : MethodName := ⟨RL, "lengthOf", "(LTimeGaps;I)I"⟩
abbrev cL_bounds : ByteArray := method_13_code
def yL_bounds : MethodName := ⟨RL, "bounds", "(LTimeGaps;)Z"⟩
abbrev cL_gaps : ByteArray := method_14_code
def yL_gaps : MethodName := ⟨RL, "gaps", "(LTimeGaps;[I[I[I)Z"⟩
abbrev cL_foretold : ByteArray := method_15_code
def yL_foretold : MethodName := ⟨RL, "foretold", "(LTimeGaps;[I[I[I)Z"⟩
abbrev cL_undone : ByteArray := method_16_code
def yL_undone : MethodName := ⟨RL, "undone", "(LTimeGaps;[I[I[I)Z"⟩
abbrev cL_law : ByteArray := code
def yL_law : MethodName := ⟨RL, "law", "([I)Z"⟩
abbrev vwCl : List vw_C := [(RJ0, TJ0, 4), (RJ4, TJ4, 4), (RX0, TX0, 3), (RX1, TX1, 3), (RX2, TX2, 7), (RX3, TX3, 12), (RX4, TX4, 6), (RX5, TX5, 2), (RX6, TX6, 2), (RX7, TX7, 2), (RX8, TX8, 9)]
